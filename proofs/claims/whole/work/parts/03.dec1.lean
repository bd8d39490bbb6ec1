theorem dX0_init_0 : decode cX0_init 0 = .ok (.aload_n 0, 1) := by decide +kernel
theorem dX0_init_1 : decode cX0_init 1 = .ok (.invokespecial 1, 3) := by decide +kernel
theorem dX0_init_4 : decode cX0_init 4 = .ok (.return_, 1) := by decide +kernel
theorem dX0_start_0 : decode cX0_start 0 = .ok (.aload_n 0, 1) := by decide +kernel
theorem dX0_start_1 : decode cX0_start 1 = .ok (.iload_n 1, 1) := by decide +kernel
theorem dX0_start_2 : decode cX0_start 2 = .ok (.i2l, 1) := by decide +kernel
theorem dX0_start_3 : decode cX0_start 3 = .ok (.putfield 7, 3) := by decide +kernel
theorem dX0_start_6 : decode cX0_start 6 = .ok (.return_, 1) := by decide +kernel
theorem dX0_draw_0 : decode cX0_draw 0 = .ok (.aload_n 0, 1) := by decide +kernel
theorem dX0_draw_1 : decode cX0_draw 1 = .ok (.ldc2_w 13, 3) := by decide +kernel
theorem dX0_draw_4 : decode cX0_draw 4 = .ok (.aload_n 0, 1) := by decide +kernel
theorem dX0_draw_5 : decode cX0_draw 5 = .ok (.getfield 7, 3) := by decide +kernel
theorem dX0_draw_8 : decode cX0_draw 8 = .ok (.lmul, 1) := by decide +kernel
theorem dX0_draw_9 : decode cX0_draw 9 = .ok (.ldc2_w 15, 3) := by decide +kernel
theorem dX0_draw_12 : decode cX0_draw 12 = .ok (.ladd, 1) := by decide +kernel
theorem dX0_draw_13 : decode cX0_draw 13 = .ok (.ldc2_w 17, 3) := by decide +kernel
theorem dX0_draw_16 : decode cX0_draw 16 = .ok (.land, 1) := by decide +kernel
theorem dX0_draw_17 : decode cX0_draw 17 = .ok (.putfield 7, 3) := by decide +kernel
theorem dX0_draw_20 : decode cX0_draw 20 = .ok (.iload_n 1, 1) := by decide +kernel
theorem dX0_draw_21 : decode cX0_draw 21 = .ok (.ifCond .gt 7, 3) := by decide +kernel
theorem dX0_draw_24 : decode cX0_draw 24 = .ok (.iconst 0, 1) := by decide +kernel
theorem dX0_draw_25 : decode cX0_draw 25 = .ok (.goto 15, 3) := by decide +kernel
theorem dX0_draw_28 : decode cX0_draw 28 = .ok (.aload_n 0, 1) := by decide +kernel
theorem dX0_draw_29 : decode cX0_draw 29 = .ok (.getfield 7, 3) := by decide +kernel
theorem dX0_draw_32 : decode cX0_draw 32 = .ok (.ldc2_w 19, 3) := by decide +kernel
theorem dX0_draw_35 : decode cX0_draw 35 = .ok (.ldiv, 1) := by decide +kernel
theorem dX0_draw_36 : decode cX0_draw 36 = .ok (.iload_n 1, 1) := by decide +kernel
theorem dX0_draw_37 : decode cX0_draw 37 = .ok (.i2l, 1) := by decide +kernel
theorem dX0_draw_38 : decode cX0_draw 38 = .ok (.lrem, 1) := by decide +kernel
theorem dX0_draw_39 : decode cX0_draw 39 = .ok (.l2i, 1) := by decide +kernel
theorem dX0_draw_40 : decode cX0_draw 40 = .ok (.ireturn, 1) := by decide +kernel
theorem dX0_drawOther_0 : decode cX0_drawOther 0 = .ok (.aload_n 0, 1) := by decide +kernel
theorem dX0_drawOther_1 : decode cX0_drawOther 1 = .ok (.iload_n 1, 1) := by decide +kernel
theorem dX0_drawOther_2 : decode cX0_drawOther 2 = .ok (.iconst 1, 1) := by decide +kernel
theorem dX0_drawOther_3 : decode cX0_drawOther 3 = .ok (.isub, 1) := by decide +kernel
theorem dX0_drawOther_4 : decode cX0_drawOther 4 = .ok (.invokevirtual 21, 3) := by decide +kernel
theorem dX0_drawOther_7 : decode cX0_drawOther 7 = .ok (.istore_n 3, 1) := by decide +kernel
theorem dX0_drawOther_8 : decode cX0_drawOther 8 = .ok (.iload_n 3, 1) := by decide +kernel
theorem dX0_drawOther_9 : decode cX0_drawOther 9 = .ok (.iload_n 2, 1) := by decide +kernel
theorem dX0_drawOther_10 : decode cX0_drawOther 10 = .ok (.if_icmp .ge 7, 3) := by decide +kernel
theorem dX0_drawOther_13 : decode cX0_drawOther 13 = .ok (.iload_n 3, 1) := by decide +kernel
theorem dX0_drawOther_14 : decode cX0_drawOther 14 = .ok (.goto 6, 3) := by decide +kernel
theorem dX0_drawOther_17 : decode cX0_drawOther 17 = .ok (.iload_n 3, 1) := by decide +kernel
theorem dX0_drawOther_18 : decode cX0_drawOther 18 = .ok (.iconst 1, 1) := by decide +kernel
theorem dX0_drawOther_19 : decode cX0_drawOther 19 = .ok (.iadd, 1) := by decide +kernel
theorem dX0_drawOther_20 : decode cX0_drawOther 20 = .ok (.ireturn, 1) := by decide +kernel
theorem dX1_init_0 : decode cX1_init 0 = .ok (.aload_n 0, 1) := by decide +kernel
theorem dX1_init_1 : decode cX1_init 1 = .ok (.invokespecial 3, 3) := by decide +kernel
theorem dX1_init_4 : decode cX1_init 4 = .ok (.aload_n 0, 1) := by decide +kernel
theorem dX1_init_5 : decode cX1_init 5 = .ok (.new 9, 3) := by decide +kernel
theorem dX1_init_8 : decode cX1_init 8 = .ok (.dup, 1) := by decide +kernel
theorem dX1_init_9 : decode cX1_init 9 = .ok (.invokespecial 11, 3) := by decide +kernel
theorem dX1_init_12 : decode cX1_init 12 = .ok (.putfield 12, 3) := by decide +kernel
theorem dX1_init_15 : decode cX1_init 15 = .ok (.aload_n 0, 1) := by decide +kernel
theorem dX1_init_16 : decode cX1_init 16 = .ok (.bipush 6, 2) := by decide +kernel
theorem dX1_init_18 : decode cX1_init 18 = .ok (.newarray .int, 2) := by decide +kernel
theorem dX1_init_20 : decode cX1_init 20 = .ok (.putfield 18, 3) := by decide +kernel
theorem dX1_init_23 : decode cX1_init 23 = .ok (.aload_n 0, 1) := by decide +kernel
theorem dX1_init_24 : decode cX1_init 24 = .ok (.sipush 481, 3) := by decide +kernel
theorem dX1_init_27 : decode cX1_init 27 = .ok (.newarray .int, 2) := by decide +kernel
theorem dX1_init_29 : decode cX1_init 29 = .ok (.putfield 22, 3) := by decide +kernel
theorem dX1_init_32 : decode cX1_init 32 = .ok (.aload_n 0, 1) := by decide +kernel
theorem dX1_init_33 : decode cX1_init 33 = .ok (.sipush 4800, 3) := by decide +kernel
theorem dX1_init_36 : decode cX1_init 36 = .ok (.newarray .int, 2) := by decide +kernel
theorem dX1_init_38 : decode cX1_init 38 = .ok (.putfield 25, 3) := by decide +kernel
theorem dX1_init_41 : decode cX1_init 41 = .ok (.aload_n 0, 1) := by decide +kernel
theorem dX1_init_42 : decode cX1_init 42 = .ok (.sipush 4800, 3) := by decide +kernel
theorem dX1_init_45 : decode cX1_init 45 = .ok (.newarray .int, 2) := by decide +kernel
theorem dX1_init_47 : decode cX1_init 47 = .ok (.putfield 28, 3) := by decide +kernel
theorem dX1_init_50 : decode cX1_init 50 = .ok (.aload_n 0, 1) := by decide +kernel
theorem dX1_init_51 : decode cX1_init 51 = .ok (.sipush 480, 3) := by decide +kernel
theorem dX1_init_54 : decode cX1_init 54 = .ok (.newarray .long, 2) := by decide +kernel
theorem dX1_init_56 : decode cX1_init 56 = .ok (.putfield 31, 3) := by decide +kernel
theorem dX1_init_59 : decode cX1_init 59 = .ok (.aload_n 0, 1) := by decide +kernel
theorem dX1_init_60 : decode cX1_init 60 = .ok (.sipush 480, 3) := by decide +kernel
theorem dX1_init_63 : decode cX1_init 63 = .ok (.newarray .long, 2) := by decide +kernel
theorem dX1_init_65 : decode cX1_init 65 = .ok (.putfield 35, 3) := by decide +kernel
theorem dX1_init_68 : decode cX1_init 68 = .ok (.aload_n 0, 1) := by decide +kernel
theorem dX1_init_69 : decode cX1_init 69 = .ok (.sipush 480, 3) := by decide +kernel
theorem dX1_init_72 : decode cX1_init 72 = .ok (.newarray .long, 2) := by decide +kernel
theorem dX1_init_74 : decode cX1_init 74 = .ok (.putfield 38, 3) := by decide +kernel
theorem dX1_init_77 : decode cX1_init 77 = .ok (.aload_n 0, 1) := by decide +kernel
theorem dX1_init_78 : decode cX1_init 78 = .ok (.sipush 480, 3) := by decide +kernel
theorem dX1_init_81 : decode cX1_init 81 = .ok (.newarray .int, 2) := by decide +kernel
theorem dX1_init_83 : decode cX1_init 83 = .ok (.putfield 41, 3) := by decide +kernel
theorem dX1_init_86 : decode cX1_init 86 = .ok (.aload_n 0, 1) := by decide +kernel
theorem dX1_init_87 : decode cX1_init 87 = .ok (.sipush 480, 3) := by decide +kernel
theorem dX1_init_90 : decode cX1_init 90 = .ok (.newarray .int, 2) := by decide +kernel
theorem dX1_init_92 : decode cX1_init 92 = .ok (.putfield 44, 3) := by decide +kernel
theorem dX1_init_95 : decode cX1_init 95 = .ok (.aload_n 0, 1) := by decide +kernel
theorem dX1_init_96 : decode cX1_init 96 = .ok (.sipush 480, 3) := by decide +kernel
theorem dX1_init_99 : decode cX1_init 99 = .ok (.newarray .int, 2) := by decide +kernel
theorem dX1_init_101 : decode cX1_init 101 = .ok (.putfield 47, 3) := by decide +kernel
theorem dX1_init_104 : decode cX1_init 104 = .ok (.aload_n 0, 1) := by decide +kernel
theorem dX1_init_105 : decode cX1_init 105 = .ok (.sipush 336, 3) := by decide +kernel
theorem dX1_init_108 : decode cX1_init 108 = .ok (.newarray .long, 2) := by decide +kernel
theorem dX1_init_110 : decode cX1_init 110 = .ok (.putfield 50, 3) := by decide +kernel
theorem dX1_init_113 : decode cX1_init 113 = .ok (.return_, 1) := by decide +kernel
theorem dX1_make_0 : decode cX1_make 0 = .ok (.aload_n 0, 1) := by decide +kernel
theorem dX1_make_1 : decode cX1_make 1 = .ok (.aload_n 1, 1) := by decide +kernel
theorem dX1_make_2 : decode cX1_make 2 = .ok (.getfield 53, 3) := by decide +kernel
theorem dX1_make_5 : decode cX1_make 5 = .ok (.putfield 59, 3) := by decide +kernel
theorem dX1_make_8 : decode cX1_make 8 = .ok (.aload_n 0, 1) := by decide +kernel
theorem dX1_make_9 : decode cX1_make 9 = .ok (.iconst 0, 1) := by decide +kernel
theorem dX1_make_10 : decode cX1_make 10 = .ok (.putfield 60, 3) := by decide +kernel
theorem dX1_make_13 : decode cX1_make 13 = .ok (.aload_n 0, 1) := by decide +kernel
theorem dX1_make_14 : decode cX1_make 14 = .ok (.iconst 0, 1) := by decide +kernel
theorem dX1_make_15 : decode cX1_make 15 = .ok (.putfield 63, 3) := by decide +kernel
theorem dX1_make_18 : decode cX1_make 18 = .ok (.aload_n 0, 1) := by decide +kernel
theorem dX1_make_19 : decode cX1_make 19 = .ok (.getfield 12, 3) := by decide +kernel
theorem dX1_make_22 : decode cX1_make 22 = .ok (.aload_n 1, 1) := by decide +kernel
theorem dX1_make_23 : decode cX1_make 23 = .ok (.invokevirtual 66, 3) := by decide +kernel
theorem dX1_make_26 : decode cX1_make 26 = .ok (.aload_n 0, 1) := by decide +kernel
theorem dX1_make_27 : decode cX1_make 27 = .ok (.aload_n 0, 1) := by decide +kernel
theorem dX1_make_28 : decode cX1_make 28 = .ok (.getfield 12, 3) := by decide +kernel
theorem dX1_make_31 : decode cX1_make 31 = .ok (.aload_n 1, 1) := by decide +kernel
theorem dX1_make_32 : decode cX1_make 32 = .ok (.getfield 70, 3) := by decide +kernel
theorem dX1_make_35 : decode cX1_make 35 = .ok (.invokevirtual 73, 3) := by decide +kernel
theorem dX1_make_38 : decode cX1_make 38 = .ok (.aload_n 0, 1) := by decide +kernel
theorem dX1_make_39 : decode cX1_make 39 = .ok (.getfield 12, 3) := by decide +kernel
theorem dX1_make_42 : decode cX1_make 42 = .ok (.aload_n 1, 1) := by decide +kernel
theorem dX1_make_43 : decode cX1_make 43 = .ok (.getfield 70, 3) := by decide +kernel
theorem dX1_make_46 : decode cX1_make 46 = .ok (.invokevirtual 77, 3) := by decide +kernel
theorem dX1_make_49 : decode cX1_make 49 = .ok (.invokevirtual 80, 3) := by decide +kernel
theorem dX1_make_52 : decode cX1_make 52 = .ok (.pop, 1) := by decide +kernel
theorem dX1_make_53 : decode cX1_make 53 = .ok (.aload_n 0, 1) := by decide +kernel
theorem dX1_make_54 : decode cX1_make 54 = .ok (.getfield 18, 3) := by decide +kernel
theorem dX1_make_57 : decode cX1_make 57 = .ok (.iconst 0, 1) := by decide +kernel
theorem dX1_make_58 : decode cX1_make 58 = .ok (.iconst 0, 1) := by decide +kernel
theorem dX1_make_59 : decode cX1_make 59 = .ok (.iastore, 1) := by decide +kernel
theorem dX1_make_60 : decode cX1_make 60 = .ok (.iconst 0, 1) := by decide +kernel
theorem dX1_make_61 : decode cX1_make 61 = .ok (.istore_n 2, 1) := by decide +kernel
theorem dX1_make_62 : decode cX1_make 62 = .ok (.iload_n 2, 1) := by decide +kernel
theorem dX1_make_63 : decode cX1_make 63 = .ok (.aload_n 0, 1) := by decide +kernel
theorem dX1_make_64 : decode cX1_make 64 = .ok (.getfield 59, 3) := by decide +kernel
theorem dX1_make_67 : decode cX1_make 67 = .ok (.if_icmp .ge 31, 3) := by decide +kernel
theorem dX1_make_70 : decode cX1_make 70 = .ok (.iload_n 2, 1) := by decide +kernel
theorem dX1_make_71 : decode cX1_make 71 = .ok (.iconst 4, 1) := by decide +kernel
theorem dX1_make_72 : decode cX1_make 72 = .ok (.if_icmp .ge 26, 3) := by decide +kernel
theorem dX1_make_75 : decode cX1_make 75 = .ok (.aload_n 0, 1) := by decide +kernel
theorem dX1_make_76 : decode cX1_make 76 = .ok (.getfield 18, 3) := by decide +kernel
theorem dX1_make_79 : decode cX1_make 79 = .ok (.iload_n 2, 1) := by decide +kernel
theorem dX1_make_80 : decode cX1_make 80 = .ok (.iconst 1, 1) := by decide +kernel
theorem dX1_make_81 : decode cX1_make 81 = .ok (.iadd, 1) := by decide +kernel
theorem dX1_make_82 : decode cX1_make 82 = .ok (.aload_n 0, 1) := by decide +kernel
theorem dX1_make_83 : decode cX1_make 83 = .ok (.getfield 60, 3) := by decide +kernel
theorem dX1_make_86 : decode cX1_make 86 = .ok (.iastore, 1) := by decide +kernel
theorem dX1_make_87 : decode cX1_make 87 = .ok (.aload_n 0, 1) := by decide +kernel
theorem dX1_make_88 : decode cX1_make 88 = .ok (.iload_n 2, 1) := by decide +kernel
theorem dX1_make_89 : decode cX1_make 89 = .ok (.invokevirtual 84, 3) := by decide +kernel
theorem dX1_make_92 : decode cX1_make 92 = .ok (.iinc 2 1, 3) := by decide +kernel
theorem dX1_make_95 : decode cX1_make 95 = .ok (.goto (-33), 3) := by decide +kernel
theorem dX1_make_98 : decode cX1_make 98 = .ok (.aload_n 0, 1) := by decide +kernel
theorem dX1_make_99 : decode cX1_make 99 = .ok (.getfield 18, 3) := by decide +kernel
theorem dX1_make_102 : decode cX1_make 102 = .ok (.aload_n 0, 1) := by decide +kernel
theorem dX1_make_103 : decode cX1_make 103 = .ok (.getfield 59, 3) := by decide +kernel
theorem dX1_make_106 : decode cX1_make 106 = .ok (.iaload, 1) := by decide +kernel
theorem dX1_make_107 : decode cX1_make 107 = .ok (.istore_n 2, 1) := by decide +kernel
theorem dX1_make_108 : decode cX1_make 108 = .ok (.iload_n 2, 1) := by decide +kernel
theorem dX1_make_109 : decode cX1_make 109 = .ok (.aload_n 0, 1) := by decide +kernel
theorem dX1_make_110 : decode cX1_make 110 = .ok (.getfield 60, 3) := by decide +kernel
theorem dX1_make_113 : decode cX1_make 113 = .ok (.if_icmp .gt 19, 3) := by decide +kernel
theorem dX1_make_116 : decode cX1_make 116 = .ok (.aload_n 0, 1) := by decide +kernel
theorem dX1_make_117 : decode cX1_make 117 = .ok (.getfield 22, 3) := by decide +kernel
theorem dX1_make_120 : decode cX1_make 120 = .ok (.iload_n 2, 1) := by decide +kernel
theorem dX1_make_121 : decode cX1_make 121 = .ok (.aload_n 0, 1) := by decide +kernel
theorem dX1_make_122 : decode cX1_make 122 = .ok (.getfield 63, 3) := by decide +kernel
theorem dX1_make_125 : decode cX1_make 125 = .ok (.iastore, 1) := by decide +kernel
theorem dX1_make_126 : decode cX1_make 126 = .ok (.iinc 2 1, 3) := by decide +kernel
theorem dX1_make_129 : decode cX1_make 129 = .ok (.goto (-21), 3) := by decide +kernel
theorem dX1_make_132 : decode cX1_make 132 = .ok (.aload_n 0, 1) := by decide +kernel
theorem dX1_make_133 : decode cX1_make 133 = .ok (.invokevirtual 88, 3) := by decide +kernel
theorem dX1_make_136 : decode cX1_make 136 = .ok (.aload_n 0, 1) := by decide +kernel
theorem dX1_make_137 : decode cX1_make 137 = .ok (.invokevirtual 91, 3) := by decide +kernel
theorem dX1_make_140 : decode cX1_make 140 = .ok (.aload_n 0, 1) := by decide +kernel
theorem dX1_make_141 : decode cX1_make 141 = .ok (.invokevirtual 94, 3) := by decide +kernel
theorem dX1_make_144 : decode cX1_make 144 = .ok (.return_, 1) := by decide +kernel
theorem dX1_linkLevel_0 : decode cX1_linkLevel 0 = .ok (.aload_n 0, 1) := by decide +kernel
theorem dX1_linkLevel_1 : decode cX1_linkLevel 1 = .ok (.getfield 47, 3) := by decide +kernel
theorem dX1_linkLevel_4 : decode cX1_linkLevel 4 = .ok (.iconst (-1), 1) := by decide +kernel
theorem dX1_linkLevel_5 : decode cX1_linkLevel 5 = .ok (.invokestatic 97, 3) := by decide +kernel
theorem dX1_linkLevel_8 : decode cX1_linkLevel 8 = .ok (.aload_n 0, 1) := by decide +kernel
theorem dX1_linkLevel_9 : decode cX1_linkLevel 9 = .ok (.getfield 18, 3) := by decide +kernel
theorem dX1_linkLevel_12 : decode cX1_linkLevel 12 = .ok (.iload_n 1, 1) := by decide +kernel
theorem dX1_linkLevel_13 : decode cX1_linkLevel 13 = .ok (.iaload, 1) := by decide +kernel
theorem dX1_linkLevel_14 : decode cX1_linkLevel 14 = .ok (.istore_n 2, 1) := by decide +kernel
theorem dX1_linkLevel_15 : decode cX1_linkLevel 15 = .ok (.iload_n 2, 1) := by decide +kernel
theorem dX1_linkLevel_16 : decode cX1_linkLevel 16 = .ok (.aload_n 0, 1) := by decide +kernel
theorem dX1_linkLevel_17 : decode cX1_linkLevel 17 = .ok (.getfield 18, 3) := by decide +kernel
theorem dX1_linkLevel_20 : decode cX1_linkLevel 20 = .ok (.iload_n 1, 1) := by decide +kernel
theorem dX1_linkLevel_21 : decode cX1_linkLevel 21 = .ok (.iconst 1, 1) := by decide +kernel
theorem dX1_linkLevel_22 : decode cX1_linkLevel 22 = .ok (.iadd, 1) := by decide +kernel
theorem dX1_linkLevel_23 : decode cX1_linkLevel 23 = .ok (.iaload, 1) := by decide +kernel
theorem dX1_linkLevel_24 : decode cX1_linkLevel 24 = .ok (.if_icmp .ge 56, 3) := by decide +kernel
theorem dX1_linkLevel_27 : decode cX1_linkLevel 27 = .ok (.aload_n 0, 1) := by decide +kernel
theorem dX1_linkLevel_28 : decode cX1_linkLevel 28 = .ok (.getfield 22, 3) := by decide +kernel
theorem dX1_linkLevel_31 : decode cX1_linkLevel 31 = .ok (.iload_n 2, 1) := by decide +kernel
theorem dX1_linkLevel_32 : decode cX1_linkLevel 32 = .ok (.aload_n 0, 1) := by decide +kernel
theorem dX1_linkLevel_33 : decode cX1_linkLevel 33 = .ok (.getfield 63, 3) := by decide +kernel
theorem dX1_linkLevel_36 : decode cX1_linkLevel 36 = .ok (.iastore, 1) := by decide +kernel
theorem dX1_linkLevel_37 : decode cX1_linkLevel 37 = .ok (.aload_n 0, 1) := by decide +kernel
theorem dX1_linkLevel_38 : decode cX1_linkLevel 38 = .ok (.getfield 12, 3) := by decide +kernel
theorem dX1_linkLevel_41 : decode cX1_linkLevel 41 = .ok (.getfield 103, 3) := by decide +kernel
theorem dX1_linkLevel_44 : decode cX1_linkLevel 44 = .ok (.iload_n 1, 1) := by decide +kernel
theorem dX1_linkLevel_45 : decode cX1_linkLevel 45 = .ok (.iaload, 1) := by decide +kernel
theorem dX1_linkLevel_46 : decode cX1_linkLevel 46 = .ok (.istore_n 3, 1) := by decide +kernel
theorem dX1_linkLevel_47 : decode cX1_linkLevel 47 = .ok (.iload_n 3, 1) := by decide +kernel
theorem dX1_linkLevel_48 : decode cX1_linkLevel 48 = .ok (.aload_n 0, 1) := by decide +kernel
theorem dX1_linkLevel_49 : decode cX1_linkLevel 49 = .ok (.getfield 12, 3) := by decide +kernel
theorem dX1_linkLevel_52 : decode cX1_linkLevel 52 = .ok (.getfield 103, 3) := by decide +kernel
theorem dX1_linkLevel_55 : decode cX1_linkLevel 55 = .ok (.iload_n 1, 1) := by decide +kernel
theorem dX1_linkLevel_56 : decode cX1_linkLevel 56 = .ok (.iconst 1, 1) := by decide +kernel
theorem dX1_linkLevel_57 : decode cX1_linkLevel 57 = .ok (.iadd, 1) := by decide +kernel
theorem dX1_linkLevel_58 : decode cX1_linkLevel 58 = .ok (.iaload, 1) := by decide +kernel
theorem dX1_linkLevel_59 : decode cX1_linkLevel 59 = .ok (.if_icmp .ge 15, 3) := by decide +kernel
theorem dX1_linkLevel_62 : decode cX1_linkLevel 62 = .ok (.aload_n 0, 1) := by decide +kernel
theorem dX1_linkLevel_63 : decode cX1_linkLevel 63 = .ok (.iload_n 2, 1) := by decide +kernel
theorem dX1_linkLevel_64 : decode cX1_linkLevel 64 = .ok (.iload_n 3, 1) := by decide +kernel
theorem dX1_linkLevel_65 : decode cX1_linkLevel 65 = .ok (.invokevirtual 106, 3) := by decide +kernel
theorem dX1_linkLevel_68 : decode cX1_linkLevel 68 = .ok (.iinc 3 1, 3) := by decide +kernel
theorem dX1_linkLevel_71 : decode cX1_linkLevel 71 = .ok (.goto (-24), 3) := by decide +kernel
theorem dX1_linkLevel_74 : decode cX1_linkLevel 74 = .ok (.iinc 2 1, 3) := by decide +kernel
theorem dX1_linkLevel_77 : decode cX1_linkLevel 77 = .ok (.goto (-62), 3) := by decide +kernel
theorem dX1_linkLevel_80 : decode cX1_linkLevel 80 = .ok (.return_, 1) := by decide +kernel
theorem dX1_link_0 : decode cX1_link 0 = .ok (.aload_n 0, 1) := by decide +kernel
theorem dX1_link_1 : decode cX1_link 1 = .ok (.getfield 41, 3) := by decide +kernel
theorem dX1_link_4 : decode cX1_link 4 = .ok (.iload_n 1, 1) := by decide +kernel
theorem dX1_link_5 : decode cX1_link 5 = .ok (.iaload, 1) := by decide +kernel
theorem dX1_link_6 : decode cX1_link 6 = .ok (.ldc 110, 2) := by decide +kernel
theorem dX1_link_8 : decode cX1_link 8 = .ok (.ior, 1) := by decide +kernel
theorem dX1_link_9 : decode cX1_link 9 = .ok (.aload_n 0, 1) := by decide +kernel
theorem dX1_link_10 : decode cX1_link 10 = .ok (.getfield 12, 3) := by decide +kernel
theorem dX1_link_13 : decode cX1_link 13 = .ok (.getfield 111, 3) := by decide +kernel
theorem dX1_link_16 : decode cX1_link 16 = .ok (.iload_n 2, 1) := by decide +kernel
theorem dX1_link_17 : decode cX1_link 17 = .ok (.iaload, 1) := by decide +kernel
theorem dX1_link_18 : decode cX1_link 18 = .ok (.isub, 1) := by decide +kernel
theorem dX1_link_19 : decode cX1_link 19 = .ok (.istore_n 3, 1) := by decide +kernel
theorem dX1_link_20 : decode cX1_link 20 = .ok (.aload_n 0, 1) := by decide +kernel
theorem dX1_link_21 : decode cX1_link 21 = .ok (.getfield 44, 3) := by decide +kernel
theorem dX1_link_24 : decode cX1_link 24 = .ok (.iload_n 1, 1) := by decide +kernel
theorem dX1_link_25 : decode cX1_link 25 = .ok (.iaload, 1) := by decide +kernel
theorem dX1_link_26 : decode cX1_link 26 = .ok (.aload_n 0, 1) := by decide +kernel
theorem dX1_link_27 : decode cX1_link 27 = .ok (.getfield 12, 3) := by decide +kernel
theorem dX1_link_30 : decode cX1_link 30 = .ok (.getfield 114, 3) := by decide +kernel
theorem dX1_link_33 : decode cX1_link 33 = .ok (.iload_n 2, 1) := by decide +kernel
theorem dX1_link_34 : decode cX1_link 34 = .ok (.iaload, 1) := by decide +kernel
theorem dX1_link_35 : decode cX1_link 35 = .ok (.isub, 1) := by decide +kernel
theorem dX1_link_36 : decode cX1_link 36 = .ok (.istore 4, 2) := by decide +kernel
theorem dX1_link_38 : decode cX1_link 38 = .ok (.iload_n 3, 1) := by decide +kernel
theorem dX1_link_39 : decode cX1_link 39 = .ok (.ldc 110, 2) := by decide +kernel
theorem dX1_link_41 : decode cX1_link 41 = .ok (.iand, 1) := by decide +kernel
theorem dX1_link_42 : decode cX1_link 42 = .ok (.ldc 110, 2) := by decide +kernel
theorem dX1_link_44 : decode cX1_link 44 = .ok (.if_icmp .ne 26, 3) := by decide +kernel
theorem dX1_link_47 : decode cX1_link 47 = .ok (.iload 4, 2) := by decide +kernel
theorem dX1_link_49 : decode cX1_link 49 = .ok (.ifCond .lt 21, 3) := by decide +kernel
theorem dX1_link_52 : decode cX1_link 52 = .ok (.iload 4, 2) := by decide +kernel
theorem dX1_link_54 : decode cX1_link 54 = .ok (.sipush 480, 3) := by decide +kernel
theorem dX1_link_57 : decode cX1_link 57 = .ok (.if_icmp .ge 13, 3) := by decide +kernel
theorem dX1_link_60 : decode cX1_link 60 = .ok (.aload_n 0, 1) := by decide +kernel
theorem dX1_link_61 : decode cX1_link 61 = .ok (.getfield 63, 3) := by decide +kernel
theorem dX1_link_64 : decode cX1_link 64 = .ok (.sipush 4800, 3) := by decide +kernel
theorem dX1_link_67 : decode cX1_link 67 = .ok (.if_icmp .lt 4, 3) := by decide +kernel
theorem dX1_link_70 : decode cX1_link 70 = .ok (.return_, 1) := by decide +kernel
theorem dX1_link_71 : decode cX1_link 71 = .ok (.aload_n 0, 1) := by decide +kernel
theorem dX1_link_72 : decode cX1_link 72 = .ok (.getfield 47, 3) := by decide +kernel
theorem dX1_link_75 : decode cX1_link 75 = .ok (.iload 4, 2) := by decide +kernel
theorem dX1_link_77 : decode cX1_link 77 = .ok (.iaload, 1) := by decide +kernel
theorem dX1_link_78 : decode cX1_link 78 = .ok (.iconst (-1), 1) := by decide +kernel
theorem dX1_link_79 : decode cX1_link 79 = .ok (.if_icmp .ne 20, 3) := by decide +kernel
theorem dX1_link_82 : decode cX1_link 82 = .ok (.aload_n 0, 1) := by decide +kernel
theorem dX1_link_83 : decode cX1_link 83 = .ok (.getfield 47, 3) := by decide +kernel
theorem dX1_link_86 : decode cX1_link 86 = .ok (.iload 4, 2) := by decide +kernel
theorem dX1_link_88 : decode cX1_link 88 = .ok (.aload_n 0, 1) := by decide +kernel
theorem dX1_link_89 : decode cX1_link 89 = .ok (.iload_n 3, 1) := by decide +kernel
theorem dX1_link_90 : decode cX1_link 90 = .ok (.ldc 115, 2) := by decide +kernel
theorem dX1_link_92 : decode cX1_link 92 = .ok (.iand, 1) := by decide +kernel
theorem dX1_link_93 : decode cX1_link 93 = .ok (.iload 4, 2) := by decide +kernel
theorem dX1_link_95 : decode cX1_link 95 = .ok (.invokevirtual 80, 3) := by decide +kernel
theorem dX1_link_98 : decode cX1_link 98 = .ok (.iastore, 1) := by decide +kernel
theorem dX1_link_99 : decode cX1_link 99 = .ok (.aload_n 0, 1) := by decide +kernel
theorem dX1_link_100 : decode cX1_link 100 = .ok (.getfield 25, 3) := by decide +kernel
theorem dX1_link_103 : decode cX1_link 103 = .ok (.aload_n 0, 1) := by decide +kernel
theorem dX1_link_104 : decode cX1_link 104 = .ok (.getfield 63, 3) := by decide +kernel
theorem dX1_link_107 : decode cX1_link 107 = .ok (.iload_n 2, 1) := by decide +kernel
theorem dX1_link_108 : decode cX1_link 108 = .ok (.iastore, 1) := by decide +kernel
theorem dX1_link_109 : decode cX1_link 109 = .ok (.aload_n 0, 1) := by decide +kernel
theorem dX1_link_110 : decode cX1_link 110 = .ok (.getfield 28, 3) := by decide +kernel
theorem dX1_link_113 : decode cX1_link 113 = .ok (.aload_n 0, 1) := by decide +kernel
theorem dX1_link_114 : decode cX1_link 114 = .ok (.getfield 63, 3) := by decide +kernel
theorem dX1_link_117 : decode cX1_link 117 = .ok (.aload_n 0, 1) := by decide +kernel
theorem dX1_link_118 : decode cX1_link 118 = .ok (.getfield 47, 3) := by decide +kernel
theorem dX1_link_121 : decode cX1_link 121 = .ok (.iload 4, 2) := by decide +kernel
theorem dX1_link_123 : decode cX1_link 123 = .ok (.iaload, 1) := by decide +kernel
theorem dX1_link_124 : decode cX1_link 124 = .ok (.iastore, 1) := by decide +kernel
theorem dX1_link_125 : decode cX1_link 125 = .ok (.aload_n 0, 1) := by decide +kernel
theorem dX1_link_126 : decode cX1_link 126 = .ok (.dup, 1) := by decide +kernel
theorem dX1_link_127 : decode cX1_link 127 = .ok (.getfield 63, 3) := by decide +kernel
theorem dX1_link_130 : decode cX1_link 130 = .ok (.iconst 1, 1) := by decide +kernel
theorem dX1_link_131 : decode cX1_link 131 = .ok (.iadd, 1) := by decide +kernel
theorem dX1_link_132 : decode cX1_link 132 = .ok (.putfield 63, 3) := by decide +kernel
theorem dX1_link_135 : decode cX1_link 135 = .ok (.return_, 1) := by decide +kernel
theorem dX1_addNode_0 : decode cX1_addNode 0 = .ok (.aload_n 0, 1) := by decide +kernel
theorem dX1_addNode_1 : decode cX1_addNode 1 = .ok (.getfield 60, 3) := by decide +kernel
theorem dX1_addNode_4 : decode cX1_addNode 4 = .ok (.sipush 479, 3) := by decide +kernel
theorem dX1_addNode_7 : decode cX1_addNode 7 = .ok (.invokestatic 116, 3) := by decide +kernel
theorem dX1_addNode_10 : decode cX1_addNode 10 = .ok (.istore_n 3, 1) := by decide +kernel
theorem dX1_addNode_11 : decode cX1_addNode 11 = .ok (.aload_n 0, 1) := by decide +kernel
theorem dX1_addNode_12 : decode cX1_addNode 12 = .ok (.getfield 41, 3) := by decide +kernel
theorem dX1_addNode_15 : decode cX1_addNode 15 = .ok (.iload_n 3, 1) := by decide +kernel
theorem dX1_addNode_16 : decode cX1_addNode 16 = .ok (.iload_n 1, 1) := by decide +kernel
theorem dX1_addNode_17 : decode cX1_addNode 17 = .ok (.iastore, 1) := by decide +kernel
theorem dX1_addNode_18 : decode cX1_addNode 18 = .ok (.aload_n 0, 1) := by decide +kernel
theorem dX1_addNode_19 : decode cX1_addNode 19 = .ok (.getfield 44, 3) := by decide +kernel
theorem dX1_addNode_22 : decode cX1_addNode 22 = .ok (.iload_n 3, 1) := by decide +kernel
theorem dX1_addNode_23 : decode cX1_addNode 23 = .ok (.iload_n 2, 1) := by decide +kernel
theorem dX1_addNode_24 : decode cX1_addNode 24 = .ok (.iastore, 1) := by decide +kernel
theorem dX1_addNode_25 : decode cX1_addNode 25 = .ok (.aload_n 0, 1) := by decide +kernel
theorem dX1_addNode_26 : decode cX1_addNode 26 = .ok (.iload_n 3, 1) := by decide +kernel
theorem dX1_addNode_27 : decode cX1_addNode 27 = .ok (.iconst 1, 1) := by decide +kernel
theorem dX1_addNode_28 : decode cX1_addNode 28 = .ok (.iadd, 1) := by decide +kernel
theorem dX1_addNode_29 : decode cX1_addNode 29 = .ok (.putfield 60, 3) := by decide +kernel
theorem dX1_addNode_32 : decode cX1_addNode 32 = .ok (.iload_n 3, 1) := by decide +kernel
theorem dX1_addNode_33 : decode cX1_addNode 33 = .ok (.ireturn, 1) := by decide +kernel
theorem dX1_sumAhead_0 : decode cX1_sumAhead 0 = .ok (.aload_n 0, 1) := by decide +kernel
theorem dX1_sumAhead_1 : decode cX1_sumAhead 1 = .ok (.getfield 60, 3) := by decide +kernel
theorem dX1_sumAhead_4 : decode cX1_sumAhead 4 = .ok (.iconst 1, 1) := by decide +kernel
theorem dX1_sumAhead_5 : decode cX1_sumAhead 5 = .ok (.isub, 1) := by decide +kernel
theorem dX1_sumAhead_6 : decode cX1_sumAhead 6 = .ok (.istore_n 1, 1) := by decide +kernel
theorem dX1_sumAhead_7 : decode cX1_sumAhead 7 = .ok (.iload_n 1, 1) := by decide +kernel
theorem dX1_sumAhead_8 : decode cX1_sumAhead 8 = .ok (.ifCond .lt 140, 3) := by decide +kernel
theorem dX1_sumAhead_11 : decode cX1_sumAhead 11 = .ok (.iload_n 1, 1) := by decide +kernel
theorem dX1_sumAhead_12 : decode cX1_sumAhead 12 = .ok (.aload_n 0, 1) := by decide +kernel
theorem dX1_sumAhead_13 : decode cX1_sumAhead 13 = .ok (.getfield 18, 3) := by decide +kernel
theorem dX1_sumAhead_16 : decode cX1_sumAhead 16 = .ok (.aload_n 0, 1) := by decide +kernel
theorem dX1_sumAhead_17 : decode cX1_sumAhead 17 = .ok (.getfield 59, 3) := by decide +kernel
theorem dX1_sumAhead_20 : decode cX1_sumAhead 20 = .ok (.iaload, 1) := by decide +kernel
theorem dX1_sumAhead_21 : decode cX1_sumAhead 21 = .ok (.if_icmp .lt 7, 3) := by decide +kernel
theorem dX1_sumAhead_24 : decode cX1_sumAhead 24 = .ok (.iconst 1, 1) := by decide +kernel
theorem dX1_sumAhead_25 : decode cX1_sumAhead 25 = .ok (.goto 4, 3) := by decide +kernel
theorem dX1_sumAhead_28 : decode cX1_sumAhead 28 = .ok (.iconst 0, 1) := by decide +kernel
theorem dX1_sumAhead_29 : decode cX1_sumAhead 29 = .ok (.istore_n 2, 1) := by decide +kernel
theorem dX1_sumAhead_30 : decode cX1_sumAhead 30 = .ok (.aload_n 0, 1) := by decide +kernel
theorem dX1_sumAhead_31 : decode cX1_sumAhead 31 = .ok (.getfield 31, 3) := by decide +kernel
theorem dX1_sumAhead_34 : decode cX1_sumAhead 34 = .ok (.iload_n 1, 1) := by decide +kernel
theorem dX1_sumAhead_35 : decode cX1_sumAhead 35 = .ok (.iload_n 2, 1) := by decide +kernel
theorem dX1_sumAhead_36 : decode cX1_sumAhead 36 = .ok (.ifCond .eq 7, 3) := by decide +kernel
theorem dX1_sumAhead_39 : decode cX1_sumAhead 39 = .ok (.lconst 1, 1) := by decide +kernel
theorem dX1_sumAhead_40 : decode cX1_sumAhead 40 = .ok (.goto 4, 3) := by decide +kernel
theorem dX1_sumAhead_43 : decode cX1_sumAhead 43 = .ok (.lconst 0, 1) := by decide +kernel
theorem dX1_sumAhead_44 : decode cX1_sumAhead 44 = .ok (.lastore, 1) := by decide +kernel
theorem dX1_sumAhead_45 : decode cX1_sumAhead 45 = .ok (.aload_n 0, 1) := by decide +kernel
theorem dX1_sumAhead_46 : decode cX1_sumAhead 46 = .ok (.getfield 35, 3) := by decide +kernel
theorem dX1_sumAhead_49 : decode cX1_sumAhead 49 = .ok (.iload_n 1, 1) := by decide +kernel
theorem dX1_sumAhead_50 : decode cX1_sumAhead 50 = .ok (.iload_n 2, 1) := by decide +kernel
theorem dX1_sumAhead_51 : decode cX1_sumAhead 51 = .ok (.ifCond .eq 7, 3) := by decide +kernel
theorem dX1_sumAhead_54 : decode cX1_sumAhead 54 = .ok (.lconst 1, 1) := by decide +kernel
theorem dX1_sumAhead_55 : decode cX1_sumAhead 55 = .ok (.goto 4, 3) := by decide +kernel
theorem dX1_sumAhead_58 : decode cX1_sumAhead 58 = .ok (.lconst 0, 1) := by decide +kernel
theorem dX1_sumAhead_59 : decode cX1_sumAhead 59 = .ok (.lastore, 1) := by decide +kernel
theorem dX1_sumAhead_60 : decode cX1_sumAhead 60 = .ok (.aload_n 0, 1) := by decide +kernel
theorem dX1_sumAhead_61 : decode cX1_sumAhead 61 = .ok (.getfield 22, 3) := by decide +kernel
theorem dX1_sumAhead_64 : decode cX1_sumAhead 64 = .ok (.iload_n 1, 1) := by decide +kernel
theorem dX1_sumAhead_65 : decode cX1_sumAhead 65 = .ok (.iaload, 1) := by decide +kernel
theorem dX1_sumAhead_66 : decode cX1_sumAhead 66 = .ok (.istore_n 3, 1) := by decide +kernel
theorem dX1_sumAhead_67 : decode cX1_sumAhead 67 = .ok (.iload_n 3, 1) := by decide +kernel
theorem dX1_sumAhead_68 : decode cX1_sumAhead 68 = .ok (.aload_n 0, 1) := by decide +kernel
theorem dX1_sumAhead_69 : decode cX1_sumAhead 69 = .ok (.getfield 22, 3) := by decide +kernel
theorem dX1_sumAhead_72 : decode cX1_sumAhead 72 = .ok (.iload_n 1, 1) := by decide +kernel
theorem dX1_sumAhead_73 : decode cX1_sumAhead 73 = .ok (.iconst 1, 1) := by decide +kernel
theorem dX1_sumAhead_74 : decode cX1_sumAhead 74 = .ok (.iadd, 1) := by decide +kernel
theorem dX1_sumAhead_75 : decode cX1_sumAhead 75 = .ok (.iaload, 1) := by decide +kernel
theorem dX1_sumAhead_76 : decode cX1_sumAhead 76 = .ok (.if_icmp .ge 66, 3) := by decide +kernel
theorem dX1_sumAhead_79 : decode cX1_sumAhead 79 = .ok (.aload_n 0, 1) := by decide +kernel
theorem dX1_sumAhead_80 : decode cX1_sumAhead 80 = .ok (.getfield 28, 3) := by decide +kernel
theorem dX1_sumAhead_83 : decode cX1_sumAhead 83 = .ok (.iload_n 3, 1) := by decide +kernel
theorem dX1_sumAhead_84 : decode cX1_sumAhead 84 = .ok (.iaload, 1) := by decide +kernel
theorem dX1_sumAhead_85 : decode cX1_sumAhead 85 = .ok (.istore 4, 2) := by decide +kernel
theorem dX1_sumAhead_87 : decode cX1_sumAhead 87 = .ok (.aload_n 0, 1) := by decide +kernel
theorem dX1_sumAhead_88 : decode cX1_sumAhead 88 = .ok (.getfield 31, 3) := by decide +kernel
theorem dX1_sumAhead_91 : decode cX1_sumAhead 91 = .ok (.iload_n 1, 1) := by decide +kernel
theorem dX1_sumAhead_92 : decode cX1_sumAhead 92 = .ok (.dup2, 1) := by decide +kernel
theorem dX1_sumAhead_93 : decode cX1_sumAhead 93 = .ok (.laload, 1) := by decide +kernel
theorem dX1_sumAhead_94 : decode cX1_sumAhead 94 = .ok (.aload_n 0, 1) := by decide +kernel
theorem dX1_sumAhead_95 : decode cX1_sumAhead 95 = .ok (.getfield 31, 3) := by decide +kernel
theorem dX1_sumAhead_98 : decode cX1_sumAhead 98 = .ok (.iload 4, 2) := by decide +kernel
theorem dX1_sumAhead_100 : decode cX1_sumAhead 100 = .ok (.laload, 1) := by decide +kernel
theorem dX1_sumAhead_101 : decode cX1_sumAhead 101 = .ok (.ladd, 1) := by decide +kernel
theorem dX1_sumAhead_102 : decode cX1_sumAhead 102 = .ok (.lastore, 1) := by decide +kernel
theorem dX1_sumAhead_103 : decode cX1_sumAhead 103 = .ok (.aload_n 0, 1) := by decide +kernel
theorem dX1_sumAhead_104 : decode cX1_sumAhead 104 = .ok (.getfield 35, 3) := by decide +kernel
theorem dX1_sumAhead_107 : decode cX1_sumAhead 107 = .ok (.iload_n 1, 1) := by decide +kernel
theorem dX1_sumAhead_108 : decode cX1_sumAhead 108 = .ok (.dup2, 1) := by decide +kernel
theorem dX1_sumAhead_109 : decode cX1_sumAhead 109 = .ok (.laload, 1) := by decide +kernel
theorem dX1_sumAhead_110 : decode cX1_sumAhead 110 = .ok (.aload_n 0, 1) := by decide +kernel
theorem dX1_sumAhead_111 : decode cX1_sumAhead 111 = .ok (.getfield 12, 3) := by decide +kernel
theorem dX1_sumAhead_114 : decode cX1_sumAhead 114 = .ok (.getfield 121, 3) := by decide +kernel
theorem dX1_sumAhead_117 : decode cX1_sumAhead 117 = .ok (.iconst 0, 1) := by decide +kernel
theorem dX1_sumAhead_118 : decode cX1_sumAhead 118 = .ok (.aaload, 1) := by decide +kernel
theorem dX1_sumAhead_119 : decode cX1_sumAhead 119 = .ok (.aload_n 0, 1) := by decide +kernel
theorem dX1_sumAhead_120 : decode cX1_sumAhead 120 = .ok (.getfield 25, 3) := by decide +kernel
theorem dX1_sumAhead_123 : decode cX1_sumAhead 123 = .ok (.iload_n 3, 1) := by decide +kernel
theorem dX1_sumAhead_124 : decode cX1_sumAhead 124 = .ok (.iaload, 1) := by decide +kernel
theorem dX1_sumAhead_125 : decode cX1_sumAhead 125 = .ok (.laload, 1) := by decide +kernel
theorem dX1_sumAhead_126 : decode cX1_sumAhead 126 = .ok (.aload_n 0, 1) := by decide +kernel
theorem dX1_sumAhead_127 : decode cX1_sumAhead 127 = .ok (.getfield 35, 3) := by decide +kernel
theorem dX1_sumAhead_130 : decode cX1_sumAhead 130 = .ok (.iload 4, 2) := by decide +kernel
theorem dX1_sumAhead_132 : decode cX1_sumAhead 132 = .ok (.laload, 1) := by decide +kernel
theorem dX1_sumAhead_133 : decode cX1_sumAhead 133 = .ok (.lmul, 1) := by decide +kernel
theorem dX1_sumAhead_134 : decode cX1_sumAhead 134 = .ok (.ladd, 1) := by decide +kernel
theorem dX1_sumAhead_135 : decode cX1_sumAhead 135 = .ok (.lastore, 1) := by decide +kernel
theorem dX1_sumAhead_136 : decode cX1_sumAhead 136 = .ok (.iinc 3 1, 3) := by decide +kernel
theorem dX1_sumAhead_139 : decode cX1_sumAhead 139 = .ok (.goto (-72), 3) := by decide +kernel
theorem dX1_sumAhead_142 : decode cX1_sumAhead 142 = .ok (.iinc 1 (-1), 3) := by decide +kernel
theorem dX1_sumAhead_145 : decode cX1_sumAhead 145 = .ok (.goto (-138), 3) := by decide +kernel
theorem dX1_sumAhead_148 : decode cX1_sumAhead 148 = .ok (.return_, 1) := by decide +kernel
theorem dX1_sumBehind_0 : decode cX1_sumBehind 0 = .ok (.aload_n 0, 1) := by decide +kernel
theorem dX1_sumBehind_1 : decode cX1_sumBehind 1 = .ok (.getfield 38, 3) := by decide +kernel
theorem dX1_sumBehind_4 : decode cX1_sumBehind 4 = .ok (.lconst 0, 1) := by decide +kernel
theorem dX1_sumBehind_5 : decode cX1_sumBehind 5 = .ok (.invokestatic 125, 3) := by decide +kernel
theorem dX1_sumBehind_8 : decode cX1_sumBehind 8 = .ok (.aload_n 0, 1) := by decide +kernel
theorem dX1_sumBehind_9 : decode cX1_sumBehind 9 = .ok (.getfield 38, 3) := by decide +kernel
theorem dX1_sumBehind_12 : decode cX1_sumBehind 12 = .ok (.iconst 0, 1) := by decide +kernel
theorem dX1_sumBehind_13 : decode cX1_sumBehind 13 = .ok (.lconst 1, 1) := by decide +kernel
theorem dX1_sumBehind_14 : decode cX1_sumBehind 14 = .ok (.lastore, 1) := by decide +kernel
theorem dX1_sumBehind_15 : decode cX1_sumBehind 15 = .ok (.iconst 0, 1) := by decide +kernel
theorem dX1_sumBehind_16 : decode cX1_sumBehind 16 = .ok (.istore_n 1, 1) := by decide +kernel
theorem dX1_sumBehind_17 : decode cX1_sumBehind 17 = .ok (.iload_n 1, 1) := by decide +kernel
theorem dX1_sumBehind_18 : decode cX1_sumBehind 18 = .ok (.aload_n 0, 1) := by decide +kernel
theorem dX1_sumBehind_19 : decode cX1_sumBehind 19 = .ok (.getfield 60, 3) := by decide +kernel
theorem dX1_sumBehind_22 : decode cX1_sumBehind 22 = .ok (.if_icmp .ge 54, 3) := by decide +kernel
theorem dX1_sumBehind_25 : decode cX1_sumBehind 25 = .ok (.aload_n 0, 1) := by decide +kernel
theorem dX1_sumBehind_26 : decode cX1_sumBehind 26 = .ok (.getfield 22, 3) := by decide +kernel
theorem dX1_sumBehind_29 : decode cX1_sumBehind 29 = .ok (.iload_n 1, 1) := by decide +kernel
theorem dX1_sumBehind_30 : decode cX1_sumBehind 30 = .ok (.iaload, 1) := by decide +kernel
theorem dX1_sumBehind_31 : decode cX1_sumBehind 31 = .ok (.istore_n 2, 1) := by decide +kernel
theorem dX1_sumBehind_32 : decode cX1_sumBehind 32 = .ok (.iload_n 2, 1) := by decide +kernel
theorem dX1_sumBehind_33 : decode cX1_sumBehind 33 = .ok (.aload_n 0, 1) := by decide +kernel
theorem dX1_sumBehind_34 : decode cX1_sumBehind 34 = .ok (.getfield 22, 3) := by decide +kernel
theorem dX1_sumBehind_37 : decode cX1_sumBehind 37 = .ok (.iload_n 1, 1) := by decide +kernel
theorem dX1_sumBehind_38 : decode cX1_sumBehind 38 = .ok (.iconst 1, 1) := by decide +kernel
theorem dX1_sumBehind_39 : decode cX1_sumBehind 39 = .ok (.iadd, 1) := by decide +kernel
theorem dX1_sumBehind_40 : decode cX1_sumBehind 40 = .ok (.iaload, 1) := by decide +kernel
theorem dX1_sumBehind_41 : decode cX1_sumBehind 41 = .ok (.if_icmp .ge 29, 3) := by decide +kernel
theorem dX1_sumBehind_44 : decode cX1_sumBehind 44 = .ok (.aload_n 0, 1) := by decide +kernel
theorem dX1_sumBehind_45 : decode cX1_sumBehind 45 = .ok (.getfield 38, 3) := by decide +kernel
theorem dX1_sumBehind_48 : decode cX1_sumBehind 48 = .ok (.aload_n 0, 1) := by decide +kernel
theorem dX1_sumBehind_49 : decode cX1_sumBehind 49 = .ok (.getfield 28, 3) := by decide +kernel
theorem dX1_sumBehind_52 : decode cX1_sumBehind 52 = .ok (.iload_n 2, 1) := by decide +kernel
theorem dX1_sumBehind_53 : decode cX1_sumBehind 53 = .ok (.iaload, 1) := by decide +kernel
theorem dX1_sumBehind_54 : decode cX1_sumBehind 54 = .ok (.dup2, 1) := by decide +kernel
theorem dX1_sumBehind_55 : decode cX1_sumBehind 55 = .ok (.laload, 1) := by decide +kernel
theorem dX1_sumBehind_56 : decode cX1_sumBehind 56 = .ok (.aload_n 0, 1) := by decide +kernel
theorem dX1_sumBehind_57 : decode cX1_sumBehind 57 = .ok (.getfield 38, 3) := by decide +kernel
theorem dX1_sumBehind_60 : decode cX1_sumBehind 60 = .ok (.iload_n 1, 1) := by decide +kernel
theorem dX1_sumBehind_61 : decode cX1_sumBehind 61 = .ok (.laload, 1) := by decide +kernel
theorem dX1_sumBehind_62 : decode cX1_sumBehind 62 = .ok (.ladd, 1) := by decide +kernel
theorem dX1_sumBehind_63 : decode cX1_sumBehind 63 = .ok (.lastore, 1) := by decide +kernel
theorem dX1_sumBehind_64 : decode cX1_sumBehind 64 = .ok (.iinc 2 1, 3) := by decide +kernel
theorem dX1_sumBehind_67 : decode cX1_sumBehind 67 = .ok (.goto (-35), 3) := by decide +kernel
theorem dX1_sumBehind_70 : decode cX1_sumBehind 70 = .ok (.iinc 1 1, 3) := by decide +kernel
theorem dX1_sumBehind_73 : decode cX1_sumBehind 73 = .ok (.goto (-56), 3) := by decide +kernel
theorem dX1_sumBehind_76 : decode cX1_sumBehind 76 = .ok (.return_, 1) := by decide +kernel
theorem dX1_sumSeenCells_0 : decode cX1_sumSeenCells 0 = .ok (.aload_n 0, 1) := by decide +kernel
theorem dX1_sumSeenCells_1 : decode cX1_sumSeenCells 1 = .ok (.getfield 50, 3) := by decide +kernel
theorem dX1_sumSeenCells_4 : decode cX1_sumSeenCells 4 = .ok (.lconst 0, 1) := by decide +kernel
theorem dX1_sumSeenCells_5 : decode cX1_sumSeenCells 5 = .ok (.invokestatic 125, 3) := by decide +kernel
theorem dX1_sumSeenCells_8 : decode cX1_sumSeenCells 8 = .ok (.iconst 0, 1) := by decide +kernel
theorem dX1_sumSeenCells_9 : decode cX1_sumSeenCells 9 = .ok (.istore_n 1, 1) := by decide +kernel
theorem dX1_sumSeenCells_10 : decode cX1_sumSeenCells 10 = .ok (.iload_n 1, 1) := by decide +kernel
theorem dX1_sumSeenCells_11 : decode cX1_sumSeenCells 11 = .ok (.aload_n 0, 1) := by decide +kernel
theorem dX1_sumSeenCells_12 : decode cX1_sumSeenCells 12 = .ok (.getfield 59, 3) := by decide +kernel
theorem dX1_sumSeenCells_15 : decode cX1_sumSeenCells 15 = .ok (.if_icmp .ge 96, 3) := by decide +kernel
theorem dX1_sumSeenCells_18 : decode cX1_sumSeenCells 18 = .ok (.aload_n 0, 1) := by decide +kernel
theorem dX1_sumSeenCells_19 : decode cX1_sumSeenCells 19 = .ok (.getfield 18, 3) := by decide +kernel
theorem dX1_sumSeenCells_22 : decode cX1_sumSeenCells 22 = .ok (.iload_n 1, 1) := by decide +kernel
theorem dX1_sumSeenCells_23 : decode cX1_sumSeenCells 23 = .ok (.iaload, 1) := by decide +kernel
theorem dX1_sumSeenCells_24 : decode cX1_sumSeenCells 24 = .ok (.istore_n 2, 1) := by decide +kernel
theorem dX1_sumSeenCells_25 : decode cX1_sumSeenCells 25 = .ok (.iload_n 2, 1) := by decide +kernel
theorem dX1_sumSeenCells_26 : decode cX1_sumSeenCells 26 = .ok (.aload_n 0, 1) := by decide +kernel
theorem dX1_sumSeenCells_27 : decode cX1_sumSeenCells 27 = .ok (.getfield 18, 3) := by decide +kernel
theorem dX1_sumSeenCells_30 : decode cX1_sumSeenCells 30 = .ok (.iload_n 1, 1) := by decide +kernel
theorem dX1_sumSeenCells_31 : decode cX1_sumSeenCells 31 = .ok (.iconst 1, 1) := by decide +kernel
theorem dX1_sumSeenCells_32 : decode cX1_sumSeenCells 32 = .ok (.iadd, 1) := by decide +kernel
theorem dX1_sumSeenCells_33 : decode cX1_sumSeenCells 33 = .ok (.iaload, 1) := by decide +kernel
theorem dX1_sumSeenCells_34 : decode cX1_sumSeenCells 34 = .ok (.if_icmp .ge 71, 3) := by decide +kernel
theorem dX1_sumSeenCells_37 : decode cX1_sumSeenCells 37 = .ok (.aload_n 0, 1) := by decide +kernel
theorem dX1_sumSeenCells_38 : decode cX1_sumSeenCells 38 = .ok (.getfield 22, 3) := by decide +kernel
theorem dX1_sumSeenCells_41 : decode cX1_sumSeenCells 41 = .ok (.iload_n 2, 1) := by decide +kernel
theorem dX1_sumSeenCells_42 : decode cX1_sumSeenCells 42 = .ok (.iaload, 1) := by decide +kernel
theorem dX1_sumSeenCells_43 : decode cX1_sumSeenCells 43 = .ok (.istore_n 3, 1) := by decide +kernel
theorem dX1_sumSeenCells_44 : decode cX1_sumSeenCells 44 = .ok (.iload_n 3, 1) := by decide +kernel
theorem dX1_sumSeenCells_45 : decode cX1_sumSeenCells 45 = .ok (.aload_n 0, 1) := by decide +kernel
theorem dX1_sumSeenCells_46 : decode cX1_sumSeenCells 46 = .ok (.getfield 22, 3) := by decide +kernel
theorem dX1_sumSeenCells_49 : decode cX1_sumSeenCells 49 = .ok (.iload_n 2, 1) := by decide +kernel
theorem dX1_sumSeenCells_50 : decode cX1_sumSeenCells 50 = .ok (.iconst 1, 1) := by decide +kernel
theorem dX1_sumSeenCells_51 : decode cX1_sumSeenCells 51 = .ok (.iadd, 1) := by decide +kernel
theorem dX1_sumSeenCells_52 : decode cX1_sumSeenCells 52 = .ok (.iaload, 1) := by decide +kernel
theorem dX1_sumSeenCells_53 : decode cX1_sumSeenCells 53 = .ok (.if_icmp .ge 46, 3) := by decide +kernel
theorem dX1_sumSeenCells_56 : decode cX1_sumSeenCells 56 = .ok (.aload_n 0, 1) := by decide +kernel
theorem dX1_sumSeenCells_57 : decode cX1_sumSeenCells 57 = .ok (.iload_n 1, 1) := by decide +kernel
theorem dX1_sumSeenCells_58 : decode cX1_sumSeenCells 58 = .ok (.aload_n 0, 1) := by decide +kernel
theorem dX1_sumSeenCells_59 : decode cX1_sumSeenCells 59 = .ok (.getfield 12, 3) := by decide +kernel
theorem dX1_sumSeenCells_62 : decode cX1_sumSeenCells 62 = .ok (.getfield 128, 3) := by decide +kernel
theorem dX1_sumSeenCells_65 : decode cX1_sumSeenCells 65 = .ok (.aload_n 0, 1) := by decide +kernel
theorem dX1_sumSeenCells_66 : decode cX1_sumSeenCells 66 = .ok (.getfield 25, 3) := by decide +kernel
theorem dX1_sumSeenCells_69 : decode cX1_sumSeenCells 69 = .ok (.iload_n 3, 1) := by decide +kernel
theorem dX1_sumSeenCells_70 : decode cX1_sumSeenCells 70 = .ok (.iaload, 1) := by decide +kernel
theorem dX1_sumSeenCells_71 : decode cX1_sumSeenCells 71 = .ok (.iaload, 1) := by decide +kernel
theorem dX1_sumSeenCells_72 : decode cX1_sumSeenCells 72 = .ok (.aload_n 0, 1) := by decide +kernel
theorem dX1_sumSeenCells_73 : decode cX1_sumSeenCells 73 = .ok (.getfield 38, 3) := by decide +kernel
theorem dX1_sumSeenCells_76 : decode cX1_sumSeenCells 76 = .ok (.iload_n 2, 1) := by decide +kernel
theorem dX1_sumSeenCells_77 : decode cX1_sumSeenCells 77 = .ok (.laload, 1) := by decide +kernel
theorem dX1_sumSeenCells_78 : decode cX1_sumSeenCells 78 = .ok (.aload_n 0, 1) := by decide +kernel
theorem dX1_sumSeenCells_79 : decode cX1_sumSeenCells 79 = .ok (.getfield 31, 3) := by decide +kernel
theorem dX1_sumSeenCells_82 : decode cX1_sumSeenCells 82 = .ok (.aload_n 0, 1) := by decide +kernel
theorem dX1_sumSeenCells_83 : decode cX1_sumSeenCells 83 = .ok (.getfield 28, 3) := by decide +kernel
theorem dX1_sumSeenCells_86 : decode cX1_sumSeenCells 86 = .ok (.iload_n 3, 1) := by decide +kernel
theorem dX1_sumSeenCells_87 : decode cX1_sumSeenCells 87 = .ok (.iaload, 1) := by decide +kernel
theorem dX1_sumSeenCells_88 : decode cX1_sumSeenCells 88 = .ok (.laload, 1) := by decide +kernel
theorem dX1_sumSeenCells_89 : decode cX1_sumSeenCells 89 = .ok (.lmul, 1) := by decide +kernel
theorem dX1_sumSeenCells_90 : decode cX1_sumSeenCells 90 = .ok (.invokevirtual 131, 3) := by decide +kernel
theorem dX1_sumSeenCells_93 : decode cX1_sumSeenCells 93 = .ok (.iinc 3 1, 3) := by decide +kernel
theorem dX1_sumSeenCells_96 : decode cX1_sumSeenCells 96 = .ok (.goto (-52), 3) := by decide +kernel
theorem dX1_sumSeenCells_99 : decode cX1_sumSeenCells 99 = .ok (.iinc 2 1, 3) := by decide +kernel
theorem dX1_sumSeenCells_102 : decode cX1_sumSeenCells 102 = .ok (.goto (-77), 3) := by decide +kernel
theorem dX1_sumSeenCells_105 : decode cX1_sumSeenCells 105 = .ok (.iinc 1 1, 3) := by decide +kernel
theorem dX1_sumSeenCells_108 : decode cX1_sumSeenCells 108 = .ok (.goto (-98), 3) := by decide +kernel
theorem dX1_sumSeenCells_111 : decode cX1_sumSeenCells 111 = .ok (.return_, 1) := by decide +kernel
theorem dX1_addSeen_0 : decode cX1_addSeen 0 = .ok (.iconst 0, 1) := by decide +kernel
theorem dX1_addSeen_1 : decode cX1_addSeen 1 = .ok (.istore 5, 2) := by decide +kernel
theorem dX1_addSeen_3 : decode cX1_addSeen 3 = .ok (.iload 5, 2) := by decide +kernel
theorem dX1_addSeen_5 : decode cX1_addSeen 5 = .ok (.iconst 4, 1) := by decide +kernel
theorem dX1_addSeen_6 : decode cX1_addSeen 6 = .ok (.if_icmp .ge 30, 3) := by decide +kernel
theorem dX1_addSeen_9 : decode cX1_addSeen 9 = .ok (.aload_n 0, 1) := by decide +kernel
theorem dX1_addSeen_10 : decode cX1_addSeen 10 = .ok (.getfield 50, 3) := by decide +kernel
theorem dX1_addSeen_13 : decode cX1_addSeen 13 = .ok (.iload_n 1, 1) := by decide +kernel
theorem dX1_addSeen_14 : decode cX1_addSeen 14 = .ok (.iload 5, 2) := by decide +kernel
theorem dX1_addSeen_16 : decode cX1_addSeen 16 = .ok (.iload_n 2, 1) := by decide +kernel
theorem dX1_addSeen_17 : decode cX1_addSeen 17 = .ok (.iload 5, 2) := by decide +kernel
theorem dX1_addSeen_19 : decode cX1_addSeen 19 = .ok (.invokestatic 135, 3) := by decide +kernel
theorem dX1_addSeen_22 : decode cX1_addSeen 22 = .ok (.invokestatic 140, 3) := by decide +kernel
theorem dX1_addSeen_25 : decode cX1_addSeen 25 = .ok (.dup2, 1) := by decide +kernel
theorem dX1_addSeen_26 : decode cX1_addSeen 26 = .ok (.laload, 1) := by decide +kernel
theorem dX1_addSeen_27 : decode cX1_addSeen 27 = .ok (.lload_n 3, 1) := by decide +kernel
theorem dX1_addSeen_28 : decode cX1_addSeen 28 = .ok (.ladd, 1) := by decide +kernel
theorem dX1_addSeen_29 : decode cX1_addSeen 29 = .ok (.lastore, 1) := by decide +kernel
theorem dX1_addSeen_30 : decode cX1_addSeen 30 = .ok (.iinc 5 1, 3) := by decide +kernel
theorem dX1_addSeen_33 : decode cX1_addSeen 33 = .ok (.goto (-30), 3) := by decide +kernel
theorem dX1_addSeen_36 : decode cX1_addSeen 36 = .ok (.return_, 1) := by decide +kernel
theorem dX1_seenAt_0 : decode cX1_seenAt 0 = .ok (.iconst 4, 1) := by decide +kernel
theorem dX1_seenAt_1 : decode cX1_seenAt 1 = .ok (.iload_n 0, 1) := by decide +kernel
theorem dX1_seenAt_2 : decode cX1_seenAt 2 = .ok (.imul, 1) := by decide +kernel
theorem dX1_seenAt_3 : decode cX1_seenAt 3 = .ok (.iload_n 1, 1) := by decide +kernel
theorem dX1_seenAt_4 : decode cX1_seenAt 4 = .ok (.iadd, 1) := by decide +kernel
theorem dX1_seenAt_5 : decode cX1_seenAt 5 = .ok (.bipush 21, 2) := by decide +kernel
theorem dX1_seenAt_7 : decode cX1_seenAt 7 = .ok (.imul, 1) := by decide +kernel
theorem dX1_seenAt_8 : decode cX1_seenAt 8 = .ok (.iload_n 2, 1) := by decide +kernel
theorem dX1_seenAt_9 : decode cX1_seenAt 9 = .ok (.iadd, 1) := by decide +kernel
theorem dX1_seenAt_10 : decode cX1_seenAt 10 = .ok (.ireturn, 1) := by decide +kernel
theorem dX1_size_0 : decode cX1_size 0 = .ok (.aload_n 0, 1) := by decide +kernel
theorem dX1_size_1 : decode cX1_size 1 = .ok (.getfield 31, 3) := by decide +kernel
theorem dX1_size_4 : decode cX1_size 4 = .ok (.iconst 0, 1) := by decide +kernel
theorem dX1_size_5 : decode cX1_size 5 = .ok (.laload, 1) := by decide +kernel
theorem dX1_size_6 : decode cX1_size 6 = .ok (.lreturn, 1) := by decide +kernel
theorem dX1_heft_0 : decode cX1_heft 0 = .ok (.aload_n 0, 1) := by decide +kernel
theorem dX1_heft_1 : decode cX1_heft 1 = .ok (.getfield 35, 3) := by decide +kernel
theorem dX1_heft_4 : decode cX1_heft 4 = .ok (.iconst 0, 1) := by decide +kernel
theorem dX1_heft_5 : decode cX1_heft 5 = .ok (.laload, 1) := by decide +kernel
theorem dX1_heft_6 : decode cX1_heft 6 = .ok (.lreturn, 1) := by decide +kernel
theorem dX1_timesSeen_0 : decode cX1_timesSeen 0 = .ok (.iload_n 1, 1) := by decide +kernel
theorem dX1_timesSeen_1 : decode cX1_timesSeen 1 = .ok (.iload_n 2, 1) := by decide +kernel
theorem dX1_timesSeen_2 : decode cX1_timesSeen 2 = .ok (.iload_n 3, 1) := by decide +kernel
theorem dX1_timesSeen_3 : decode cX1_timesSeen 3 = .ok (.invokestatic 140, 3) := by decide +kernel
theorem dX1_timesSeen_6 : decode cX1_timesSeen 6 = .ok (.istore 4, 2) := by decide +kernel
theorem dX1_timesSeen_8 : decode cX1_timesSeen 8 = .ok (.iload 4, 2) := by decide +kernel
theorem dX1_timesSeen_10 : decode cX1_timesSeen 10 = .ok (.ifCond .lt 23, 3) := by decide +kernel
theorem dX1_timesSeen_13 : decode cX1_timesSeen 13 = .ok (.iload 4, 2) := by decide +kernel
theorem dX1_timesSeen_15 : decode cX1_timesSeen 15 = .ok (.aload_n 0, 1) := by decide +kernel
theorem dX1_timesSeen_16 : decode cX1_timesSeen 16 = .ok (.getfield 50, 3) := by decide +kernel
theorem dX1_timesSeen_19 : decode cX1_timesSeen 19 = .ok (.arraylength, 1) := by decide +kernel
theorem dX1_timesSeen_20 : decode cX1_timesSeen 20 = .ok (.if_icmp .ge 13, 3) := by decide +kernel
theorem dX1_timesSeen_23 : decode cX1_timesSeen 23 = .ok (.aload_n 0, 1) := by decide +kernel
theorem dX1_timesSeen_24 : decode cX1_timesSeen 24 = .ok (.getfield 50, 3) := by decide +kernel
theorem dX1_timesSeen_27 : decode cX1_timesSeen 27 = .ok (.iload 4, 2) := by decide +kernel
theorem dX1_timesSeen_29 : decode cX1_timesSeen 29 = .ok (.laload, 1) := by decide +kernel
theorem dX1_timesSeen_30 : decode cX1_timesSeen 30 = .ok (.goto 4, 3) := by decide +kernel
theorem dX1_timesSeen_33 : decode cX1_timesSeen 33 = .ok (.lconst 0, 1) := by decide +kernel
theorem dX1_timesSeen_34 : decode cX1_timesSeen 34 = .ok (.lreturn, 1) := by decide +kernel
theorem dX1_sumSeen_0 : decode cX1_sumSeen 0 = .ok (.lconst 0, 1) := by decide +kernel
theorem dX1_sumSeen_1 : decode cX1_sumSeen 1 = .ok (.lstore_n 3, 1) := by decide +kernel
theorem dX1_sumSeen_2 : decode cX1_sumSeen 2 = .ok (.iconst 0, 1) := by decide +kernel
theorem dX1_sumSeen_3 : decode cX1_sumSeen 3 = .ok (.istore 5, 2) := by decide +kernel
theorem dX1_sumSeen_5 : decode cX1_sumSeen 5 = .ok (.iload 5, 2) := by decide +kernel
theorem dX1_sumSeen_7 : decode cX1_sumSeen 7 = .ok (.bipush 21, 2) := by decide +kernel
theorem dX1_sumSeen_9 : decode cX1_sumSeen 9 = .ok (.if_icmp .ge 24, 3) := by decide +kernel
theorem dX1_sumSeen_12 : decode cX1_sumSeen 12 = .ok (.lload_n 3, 1) := by decide +kernel
theorem dX1_sumSeen_13 : decode cX1_sumSeen 13 = .ok (.iload 5, 2) := by decide +kernel
theorem dX1_sumSeen_15 : decode cX1_sumSeen 15 = .ok (.i2l, 1) := by decide +kernel
theorem dX1_sumSeen_16 : decode cX1_sumSeen 16 = .ok (.aload_n 0, 1) := by decide +kernel
theorem dX1_sumSeen_17 : decode cX1_sumSeen 17 = .ok (.iload_n 1, 1) := by decide +kernel
theorem dX1_sumSeen_18 : decode cX1_sumSeen 18 = .ok (.iload_n 2, 1) := by decide +kernel
theorem dX1_sumSeen_19 : decode cX1_sumSeen 19 = .ok (.iload 5, 2) := by decide +kernel
theorem dX1_sumSeen_21 : decode cX1_sumSeen 21 = .ok (.invokevirtual 144, 3) := by decide +kernel
theorem dX1_sumSeen_24 : decode cX1_sumSeen 24 = .ok (.lmul, 1) := by decide +kernel
theorem dX1_sumSeen_25 : decode cX1_sumSeen 25 = .ok (.ladd, 1) := by decide +kernel
theorem dX1_sumSeen_26 : decode cX1_sumSeen 26 = .ok (.lstore_n 3, 1) := by decide +kernel
theorem dX1_sumSeen_27 : decode cX1_sumSeen 27 = .ok (.iinc 5 1, 3) := by decide +kernel
theorem dX1_sumSeen_30 : decode cX1_sumSeen 30 = .ok (.goto (-25), 3) := by decide +kernel
theorem dX1_sumSeen_33 : decode cX1_sumSeen 33 = .ok (.lload_n 3, 1) := by decide +kernel
theorem dX1_sumSeen_34 : decode cX1_sumSeen 34 = .ok (.lreturn, 1) := by decide +kernel
theorem dX1_lowestOf_0 : decode cX1_lowestOf 0 = .ok (.iconst 0, 1) := by decide +kernel
theorem dX1_lowestOf_1 : decode cX1_lowestOf 1 = .ok (.istore_n 3, 1) := by decide +kernel
theorem dX1_lowestOf_2 : decode cX1_lowestOf 2 = .ok (.iload_n 3, 1) := by decide +kernel
theorem dX1_lowestOf_3 : decode cX1_lowestOf 3 = .ok (.bipush 20, 2) := by decide +kernel
theorem dX1_lowestOf_5 : decode cX1_lowestOf 5 = .ok (.if_icmp .ge 21, 3) := by decide +kernel
theorem dX1_lowestOf_8 : decode cX1_lowestOf 8 = .ok (.aload_n 0, 1) := by decide +kernel
theorem dX1_lowestOf_9 : decode cX1_lowestOf 9 = .ok (.iload_n 1, 1) := by decide +kernel
theorem dX1_lowestOf_10 : decode cX1_lowestOf 10 = .ok (.iload_n 2, 1) := by decide +kernel
theorem dX1_lowestOf_11 : decode cX1_lowestOf 11 = .ok (.iload_n 3, 1) := by decide +kernel
theorem dX1_lowestOf_12 : decode cX1_lowestOf 12 = .ok (.invokevirtual 144, 3) := by decide +kernel
theorem dX1_lowestOf_15 : decode cX1_lowestOf 15 = .ok (.lconst 0, 1) := by decide +kernel
theorem dX1_lowestOf_16 : decode cX1_lowestOf 16 = .ok (.lcmp, 1) := by decide +kernel
theorem dX1_lowestOf_17 : decode cX1_lowestOf 17 = .ok (.ifCond .ne 9, 3) := by decide +kernel
theorem dX1_lowestOf_20 : decode cX1_lowestOf 20 = .ok (.iinc 3 1, 3) := by decide +kernel
theorem dX1_lowestOf_23 : decode cX1_lowestOf 23 = .ok (.goto (-21), 3) := by decide +kernel
theorem dX1_lowestOf_26 : decode cX1_lowestOf 26 = .ok (.iload_n 3, 1) := by decide +kernel
theorem dX1_lowestOf_27 : decode cX1_lowestOf 27 = .ok (.ireturn, 1) := by decide +kernel
theorem dX1_highestOf_0 : decode cX1_highestOf 0 = .ok (.bipush 20, 2) := by decide +kernel
theorem dX1_highestOf_2 : decode cX1_highestOf 2 = .ok (.istore_n 3, 1) := by decide +kernel
theorem dX1_highestOf_3 : decode cX1_highestOf 3 = .ok (.iload_n 3, 1) := by decide +kernel
theorem dX1_highestOf_4 : decode cX1_highestOf 4 = .ok (.ifCond .le 21, 3) := by decide +kernel
theorem dX1_highestOf_7 : decode cX1_highestOf 7 = .ok (.aload_n 0, 1) := by decide +kernel
theorem dX1_highestOf_8 : decode cX1_highestOf 8 = .ok (.iload_n 1, 1) := by decide +kernel
theorem dX1_highestOf_9 : decode cX1_highestOf 9 = .ok (.iload_n 2, 1) := by decide +kernel
theorem dX1_highestOf_10 : decode cX1_highestOf 10 = .ok (.iload_n 3, 1) := by decide +kernel
theorem dX1_highestOf_11 : decode cX1_highestOf 11 = .ok (.invokevirtual 144, 3) := by decide +kernel
theorem dX1_highestOf_14 : decode cX1_highestOf 14 = .ok (.lconst 0, 1) := by decide +kernel
theorem dX1_highestOf_15 : decode cX1_highestOf 15 = .ok (.lcmp, 1) := by decide +kernel
theorem dX1_highestOf_16 : decode cX1_highestOf 16 = .ok (.ifCond .ne 9, 3) := by decide +kernel
theorem dX1_highestOf_19 : decode cX1_highestOf 19 = .ok (.iinc 3 (-1), 3) := by decide +kernel
theorem dX1_highestOf_22 : decode cX1_highestOf 22 = .ok (.goto (-19), 3) := by decide +kernel
theorem dX1_highestOf_25 : decode cX1_highestOf 25 = .ok (.iload_n 3, 1) := by decide +kernel
theorem dX1_highestOf_26 : decode cX1_highestOf 26 = .ok (.ireturn, 1) := by decide +kernel
theorem dX1_linkBy_0 : decode cX1_linkBy 0 = .ok (.aload_n 0, 1) := by decide +kernel
theorem dX1_linkBy_1 : decode cX1_linkBy 1 = .ok (.getfield 22, 3) := by decide +kernel
theorem dX1_linkBy_4 : decode cX1_linkBy 4 = .ok (.iload_n 1, 1) := by decide +kernel
theorem dX1_linkBy_5 : decode cX1_linkBy 5 = .ok (.iaload, 1) := by decide +kernel
theorem dX1_linkBy_6 : decode cX1_linkBy 6 = .ok (.istore_n 3, 1) := by decide +kernel
theorem dX1_linkBy_7 : decode cX1_linkBy 7 = .ok (.iload_n 3, 1) := by decide +kernel
theorem dX1_linkBy_8 : decode cX1_linkBy 8 = .ok (.aload_n 0, 1) := by decide +kernel
theorem dX1_linkBy_9 : decode cX1_linkBy 9 = .ok (.getfield 22, 3) := by decide +kernel
theorem dX1_linkBy_12 : decode cX1_linkBy 12 = .ok (.iload_n 1, 1) := by decide +kernel
theorem dX1_linkBy_13 : decode cX1_linkBy 13 = .ok (.iconst 1, 1) := by decide +kernel
theorem dX1_linkBy_14 : decode cX1_linkBy 14 = .ok (.iadd, 1) := by decide +kernel
theorem dX1_linkBy_15 : decode cX1_linkBy 15 = .ok (.iaload, 1) := by decide +kernel
theorem dX1_linkBy_16 : decode cX1_linkBy 16 = .ok (.if_icmp .ge 29, 3) := by decide +kernel
theorem dX1_linkBy_19 : decode cX1_linkBy 19 = .ok (.aload_n 0, 1) := by decide +kernel
theorem dX1_linkBy_20 : decode cX1_linkBy 20 = .ok (.getfield 12, 3) := by decide +kernel
theorem dX1_linkBy_23 : decode cX1_linkBy 23 = .ok (.getfield 128, 3) := by decide +kernel
theorem dX1_linkBy_26 : decode cX1_linkBy 26 = .ok (.aload_n 0, 1) := by decide +kernel
theorem dX1_linkBy_27 : decode cX1_linkBy 27 = .ok (.getfield 25, 3) := by decide +kernel
theorem dX1_linkBy_30 : decode cX1_linkBy 30 = .ok (.iload_n 3, 1) := by decide +kernel
theorem dX1_linkBy_31 : decode cX1_linkBy 31 = .ok (.iaload, 1) := by decide +kernel
theorem dX1_linkBy_32 : decode cX1_linkBy 32 = .ok (.iaload, 1) := by decide +kernel
theorem dX1_linkBy_33 : decode cX1_linkBy 33 = .ok (.iload_n 2, 1) := by decide +kernel
theorem dX1_linkBy_34 : decode cX1_linkBy 34 = .ok (.if_icmp .ne 5, 3) := by decide +kernel
theorem dX1_linkBy_37 : decode cX1_linkBy 37 = .ok (.iload_n 3, 1) := by decide +kernel
theorem dX1_linkBy_38 : decode cX1_linkBy 38 = .ok (.ireturn, 1) := by decide +kernel
theorem dX1_linkBy_39 : decode cX1_linkBy 39 = .ok (.iinc 3 1, 3) := by decide +kernel
theorem dX1_linkBy_42 : decode cX1_linkBy 42 = .ok (.goto (-35), 3) := by decide +kernel
theorem dX1_linkBy_45 : decode cX1_linkBy 45 = .ok (.iconst (-1), 1) := by decide +kernel
theorem dX1_linkBy_46 : decode cX1_linkBy 46 = .ok (.ireturn, 1) := by decide +kernel
theorem dX1_rankOf_0 : decode cX1_rankOf 0 = .ok (.lconst 0, 1) := by decide +kernel
theorem dX1_rankOf_1 : decode cX1_rankOf 1 = .ok (.lstore_n 3, 1) := by decide +kernel
theorem dX1_rankOf_2 : decode cX1_rankOf 2 = .ok (.iconst 0, 1) := by decide +kernel
theorem dX1_rankOf_3 : decode cX1_rankOf 3 = .ok (.istore 5, 2) := by decide +kernel
theorem dX1_rankOf_5 : decode cX1_rankOf 5 = .ok (.iconst 0, 1) := by decide +kernel
theorem dX1_rankOf_6 : decode cX1_rankOf 6 = .ok (.istore 6, 2) := by decide +kernel
theorem dX1_rankOf_8 : decode cX1_rankOf 8 = .ok (.iload 6, 2) := by decide +kernel
theorem dX1_rankOf_10 : decode cX1_rankOf 10 = .ok (.aload_n 0, 1) := by decide +kernel
theorem dX1_rankOf_11 : decode cX1_rankOf 11 = .ok (.getfield 59, 3) := by decide +kernel
theorem dX1_rankOf_14 : decode cX1_rankOf 14 = .ok (.if_icmp .ge 79, 3) := by decide +kernel
theorem dX1_rankOf_17 : decode cX1_rankOf 17 = .ok (.aload_n 0, 1) := by decide +kernel
theorem dX1_rankOf_18 : decode cX1_rankOf 18 = .ok (.iload 5, 2) := by decide +kernel
theorem dX1_rankOf_20 : decode cX1_rankOf 20 = .ok (.lload_n 1, 1) := by decide +kernel
theorem dX1_rankOf_21 : decode cX1_rankOf 21 = .ok (.iload 6, 2) := by decide +kernel
theorem dX1_rankOf_23 : decode cX1_rankOf 23 = .ok (.invokestatic 148, 3) := by decide +kernel
theorem dX1_rankOf_26 : decode cX1_rankOf 26 = .ok (.invokevirtual 152, 3) := by decide +kernel
theorem dX1_rankOf_29 : decode cX1_rankOf 29 = .ok (.istore 7, 2) := by decide +kernel
theorem dX1_rankOf_31 : decode cX1_rankOf 31 = .ok (.iload 7, 2) := by decide +kernel
theorem dX1_rankOf_33 : decode cX1_rankOf 33 = .ok (.iconst (-1), 1) := by decide +kernel
theorem dX1_rankOf_34 : decode cX1_rankOf 34 = .ok (.if_icmp .ne 7, 3) := by decide +kernel
theorem dX1_rankOf_37 : decode cX1_rankOf 37 = .ok (.ldc2_w 155, 3) := by decide +kernel
theorem dX1_rankOf_40 : decode cX1_rankOf 40 = .ok (.lreturn, 1) := by decide +kernel
theorem dX1_rankOf_41 : decode cX1_rankOf 41 = .ok (.aload_n 0, 1) := by decide +kernel
theorem dX1_rankOf_42 : decode cX1_rankOf 42 = .ok (.getfield 22, 3) := by decide +kernel
theorem dX1_rankOf_45 : decode cX1_rankOf 45 = .ok (.iload 5, 2) := by decide +kernel
theorem dX1_rankOf_47 : decode cX1_rankOf 47 = .ok (.iaload, 1) := by decide +kernel
theorem dX1_rankOf_48 : decode cX1_rankOf 48 = .ok (.istore 8, 2) := by decide +kernel
theorem dX1_rankOf_50 : decode cX1_rankOf 50 = .ok (.iload 8, 2) := by decide +kernel
theorem dX1_rankOf_52 : decode cX1_rankOf 52 = .ok (.iload 7, 2) := by decide +kernel
theorem dX1_rankOf_54 : decode cX1_rankOf 54 = .ok (.if_icmp .ge 24, 3) := by decide +kernel
theorem dX1_rankOf_57 : decode cX1_rankOf 57 = .ok (.lload_n 3, 1) := by decide +kernel
theorem dX1_rankOf_58 : decode cX1_rankOf 58 = .ok (.aload_n 0, 1) := by decide +kernel
theorem dX1_rankOf_59 : decode cX1_rankOf 59 = .ok (.getfield 31, 3) := by decide +kernel
theorem dX1_rankOf_62 : decode cX1_rankOf 62 = .ok (.aload_n 0, 1) := by decide +kernel
theorem dX1_rankOf_63 : decode cX1_rankOf 63 = .ok (.getfield 28, 3) := by decide +kernel
theorem dX1_rankOf_66 : decode cX1_rankOf 66 = .ok (.iload 8, 2) := by decide +kernel
theorem dX1_rankOf_68 : decode cX1_rankOf 68 = .ok (.iaload, 1) := by decide +kernel
theorem dX1_rankOf_69 : decode cX1_rankOf 69 = .ok (.laload, 1) := by decide +kernel
theorem dX1_rankOf_70 : decode cX1_rankOf 70 = .ok (.ladd, 1) := by decide +kernel
theorem dX1_rankOf_71 : decode cX1_rankOf 71 = .ok (.lstore_n 3, 1) := by decide +kernel
theorem dX1_rankOf_72 : decode cX1_rankOf 72 = .ok (.iinc 8 1, 3) := by decide +kernel
theorem dX1_rankOf_75 : decode cX1_rankOf 75 = .ok (.goto (-25), 3) := by decide +kernel
theorem dX1_rankOf_78 : decode cX1_rankOf 78 = .ok (.aload_n 0, 1) := by decide +kernel
theorem dX1_rankOf_79 : decode cX1_rankOf 79 = .ok (.getfield 28, 3) := by decide +kernel
theorem dX1_rankOf_82 : decode cX1_rankOf 82 = .ok (.iload 7, 2) := by decide +kernel
theorem dX1_rankOf_84 : decode cX1_rankOf 84 = .ok (.iaload, 1) := by decide +kernel
theorem dX1_rankOf_85 : decode cX1_rankOf 85 = .ok (.istore 5, 2) := by decide +kernel
theorem dX1_rankOf_87 : decode cX1_rankOf 87 = .ok (.iinc 6 1, 3) := by decide +kernel
theorem dX1_rankOf_90 : decode cX1_rankOf 90 = .ok (.goto (-82), 3) := by decide +kernel
theorem dX1_rankOf_93 : decode cX1_rankOf 93 = .ok (.lload_n 3, 1) := by decide +kernel
theorem dX1_rankOf_94 : decode cX1_rankOf 94 = .ok (.lreturn, 1) := by decide +kernel
theorem dX1_cellsOf_0 : decode cX1_cellsOf 0 = .ok (.lconst 0, 1) := by decide +kernel
theorem dX1_cellsOf_1 : decode cX1_cellsOf 1 = .ok (.lstore_n 3, 1) := by decide +kernel
theorem dX1_cellsOf_2 : decode cX1_cellsOf 2 = .ok (.lload_n 1, 1) := by decide +kernel
theorem dX1_cellsOf_3 : decode cX1_cellsOf 3 = .ok (.lstore 5, 2) := by decide +kernel
theorem dX1_cellsOf_5 : decode cX1_cellsOf 5 = .ok (.iconst 0, 1) := by decide +kernel
theorem dX1_cellsOf_6 : decode cX1_cellsOf 6 = .ok (.istore 7, 2) := by decide +kernel
theorem dX1_cellsOf_8 : decode cX1_cellsOf 8 = .ok (.iconst 0, 1) := by decide +kernel
theorem dX1_cellsOf_9 : decode cX1_cellsOf 9 = .ok (.istore 8, 2) := by decide +kernel
theorem dX1_cellsOf_11 : decode cX1_cellsOf 11 = .ok (.iload 8, 2) := by decide +kernel
theorem dX1_cellsOf_13 : decode cX1_cellsOf 13 = .ok (.aload_n 0, 1) := by decide +kernel
theorem dX1_cellsOf_14 : decode cX1_cellsOf 14 = .ok (.getfield 59, 3) := by decide +kernel
theorem dX1_cellsOf_17 : decode cX1_cellsOf 17 = .ok (.if_icmp .ge 106, 3) := by decide +kernel
theorem dX1_cellsOf_20 : decode cX1_cellsOf 20 = .ok (.aload_n 0, 1) := by decide +kernel
theorem dX1_cellsOf_21 : decode cX1_cellsOf 21 = .ok (.getfield 22, 3) := by decide +kernel
theorem dX1_cellsOf_24 : decode cX1_cellsOf 24 = .ok (.iload 7, 2) := by decide +kernel
theorem dX1_cellsOf_26 : decode cX1_cellsOf 26 = .ok (.iaload, 1) := by decide +kernel
theorem dX1_cellsOf_27 : decode cX1_cellsOf 27 = .ok (.istore 9, 2) := by decide +kernel
theorem dX1_cellsOf_29 : decode cX1_cellsOf 29 = .ok (.iload 9, 2) := by decide +kernel
theorem dX1_cellsOf_31 : decode cX1_cellsOf 31 = .ok (.aload_n 0, 1) := by decide +kernel
theorem dX1_cellsOf_32 : decode cX1_cellsOf 32 = .ok (.getfield 22, 3) := by decide +kernel
theorem dX1_cellsOf_35 : decode cX1_cellsOf 35 = .ok (.iload 7, 2) := by decide +kernel
theorem dX1_cellsOf_37 : decode cX1_cellsOf 37 = .ok (.iconst 1, 1) := by decide +kernel
theorem dX1_cellsOf_38 : decode cX1_cellsOf 38 = .ok (.iadd, 1) := by decide +kernel
theorem dX1_cellsOf_39 : decode cX1_cellsOf 39 = .ok (.iaload, 1) := by decide +kernel
theorem dX1_cellsOf_40 : decode cX1_cellsOf 40 = .ok (.iconst 1, 1) := by decide +kernel
theorem dX1_cellsOf_41 : decode cX1_cellsOf 41 = .ok (.isub, 1) := by decide +kernel
theorem dX1_cellsOf_42 : decode cX1_cellsOf 42 = .ok (.if_icmp .ge 44, 3) := by decide +kernel
theorem dX1_cellsOf_45 : decode cX1_cellsOf 45 = .ok (.lload 5, 2) := by decide +kernel
theorem dX1_cellsOf_47 : decode cX1_cellsOf 47 = .ok (.aload_n 0, 1) := by decide +kernel
theorem dX1_cellsOf_48 : decode cX1_cellsOf 48 = .ok (.getfield 31, 3) := by decide +kernel
theorem dX1_cellsOf_51 : decode cX1_cellsOf 51 = .ok (.aload_n 0, 1) := by decide +kernel
theorem dX1_cellsOf_52 : decode cX1_cellsOf 52 = .ok (.getfield 28, 3) := by decide +kernel
theorem dX1_cellsOf_55 : decode cX1_cellsOf 55 = .ok (.iload 9, 2) := by decide +kernel
theorem dX1_cellsOf_57 : decode cX1_cellsOf 57 = .ok (.iaload, 1) := by decide +kernel
theorem dX1_cellsOf_58 : decode cX1_cellsOf 58 = .ok (.laload, 1) := by decide +kernel
theorem dX1_cellsOf_59 : decode cX1_cellsOf 59 = .ok (.lcmp, 1) := by decide +kernel
theorem dX1_cellsOf_60 : decode cX1_cellsOf 60 = .ok (.ifCond .lt 26, 3) := by decide +kernel
theorem dX1_cellsOf_63 : decode cX1_cellsOf 63 = .ok (.lload 5, 2) := by decide +kernel
theorem dX1_cellsOf_65 : decode cX1_cellsOf 65 = .ok (.aload_n 0, 1) := by decide +kernel
theorem dX1_cellsOf_66 : decode cX1_cellsOf 66 = .ok (.getfield 31, 3) := by decide +kernel
theorem dX1_cellsOf_69 : decode cX1_cellsOf 69 = .ok (.aload_n 0, 1) := by decide +kernel
theorem dX1_cellsOf_70 : decode cX1_cellsOf 70 = .ok (.getfield 28, 3) := by decide +kernel
theorem dX1_cellsOf_73 : decode cX1_cellsOf 73 = .ok (.iload 9, 2) := by decide +kernel
theorem dX1_cellsOf_75 : decode cX1_cellsOf 75 = .ok (.iaload, 1) := by decide +kernel
theorem dX1_cellsOf_76 : decode cX1_cellsOf 76 = .ok (.laload, 1) := by decide +kernel
theorem dX1_cellsOf_77 : decode cX1_cellsOf 77 = .ok (.lsub, 1) := by decide +kernel
theorem dX1_cellsOf_78 : decode cX1_cellsOf 78 = .ok (.lstore 5, 2) := by decide +kernel
theorem dX1_cellsOf_80 : decode cX1_cellsOf 80 = .ok (.iinc 9 1, 3) := by decide +kernel
theorem dX1_cellsOf_83 : decode cX1_cellsOf 83 = .ok (.goto (-54), 3) := by decide +kernel
theorem dX1_cellsOf_86 : decode cX1_cellsOf 86 = .ok (.lload_n 3, 1) := by decide +kernel
theorem dX1_cellsOf_87 : decode cX1_cellsOf 87 = .ok (.iload 8, 2) := by decide +kernel
theorem dX1_cellsOf_89 : decode cX1_cellsOf 89 = .ok (.aload_n 0, 1) := by decide +kernel
theorem dX1_cellsOf_90 : decode cX1_cellsOf 90 = .ok (.getfield 12, 3) := by decide +kernel
theorem dX1_cellsOf_93 : decode cX1_cellsOf 93 = .ok (.getfield 128, 3) := by decide +kernel
theorem dX1_cellsOf_96 : decode cX1_cellsOf 96 = .ok (.aload_n 0, 1) := by decide +kernel
theorem dX1_cellsOf_97 : decode cX1_cellsOf 97 = .ok (.getfield 25, 3) := by decide +kernel
theorem dX1_cellsOf_100 : decode cX1_cellsOf 100 = .ok (.iload 9, 2) := by decide +kernel
theorem dX1_cellsOf_102 : decode cX1_cellsOf 102 = .ok (.iaload, 1) := by decide +kernel
theorem dX1_cellsOf_103 : decode cX1_cellsOf 103 = .ok (.iaload, 1) := by decide +kernel
theorem dX1_cellsOf_104 : decode cX1_cellsOf 104 = .ok (.invokestatic 157, 3) := by decide +kernel
theorem dX1_cellsOf_107 : decode cX1_cellsOf 107 = .ok (.lstore_n 3, 1) := by decide +kernel
theorem dX1_cellsOf_108 : decode cX1_cellsOf 108 = .ok (.aload_n 0, 1) := by decide +kernel
theorem dX1_cellsOf_109 : decode cX1_cellsOf 109 = .ok (.getfield 28, 3) := by decide +kernel
theorem dX1_cellsOf_112 : decode cX1_cellsOf 112 = .ok (.iload 9, 2) := by decide +kernel
theorem dX1_cellsOf_114 : decode cX1_cellsOf 114 = .ok (.iaload, 1) := by decide +kernel
theorem dX1_cellsOf_115 : decode cX1_cellsOf 115 = .ok (.istore 7, 2) := by decide +kernel
theorem dX1_cellsOf_117 : decode cX1_cellsOf 117 = .ok (.iinc 8 1, 3) := by decide +kernel
theorem dX1_cellsOf_120 : decode cX1_cellsOf 120 = .ok (.goto (-109), 3) := by decide +kernel
theorem dX1_cellsOf_123 : decode cX1_cellsOf 123 = .ok (.lload_n 3, 1) := by decide +kernel
theorem dX1_cellsOf_124 : decode cX1_cellsOf 124 = .ok (.lreturn, 1) := by decide +kernel
theorem dX2_init_0 : decode cX2_init 0 = .ok (.aload_n 0, 1) := by decide +kernel
theorem dX2_init_1 : decode cX2_init 1 = .ok (.invokespecial 3, 3) := by decide +kernel
theorem dX2_init_4 : decode cX2_init 4 = .ok (.aload_n 0, 1) := by decide +kernel
theorem dX2_init_5 : decode cX2_init 5 = .ok (.iconst 5, 1) := by decide +kernel
theorem dX2_init_6 : decode cX2_init 6 = .ok (.newarray .int, 2) := by decide +kernel
theorem dX2_init_8 : decode cX2_init 8 = .ok (.putfield 9, 3) := by decide +kernel
theorem dX2_init_11 : decode cX2_init 11 = .ok (.aload_n 0, 1) := by decide +kernel
theorem dX2_init_12 : decode cX2_init 12 = .ok (.sipush 320, 3) := by decide +kernel
theorem dX2_init_15 : decode cX2_init 15 = .ok (.newarray .int, 2) := by decide +kernel
theorem dX2_init_17 : decode cX2_init 17 = .ok (.putfield 15, 3) := by decide +kernel
theorem dX2_init_20 : decode cX2_init 20 = .ok (.aload_n 0, 1) := by decide +kernel
theorem dX2_init_21 : decode cX2_init 21 = .ok (.sipush 320, 3) := by decide +kernel
theorem dX2_init_24 : decode cX2_init 24 = .ok (.newarray .int, 2) := by decide +kernel
theorem dX2_init_26 : decode cX2_init 26 = .ok (.putfield 18, 3) := by decide +kernel
theorem dX2_init_29 : decode cX2_init 29 = .ok (.aload_n 0, 1) := by decide +kernel
theorem dX2_init_30 : decode cX2_init 30 = .ok (.sipush 320, 3) := by decide +kernel
theorem dX2_init_33 : decode cX2_init 33 = .ok (.newarray .int, 2) := by decide +kernel
theorem dX2_init_35 : decode cX2_init 35 = .ok (.putfield 21, 3) := by decide +kernel
theorem dX2_init_38 : decode cX2_init 38 = .ok (.aload_n 0, 1) := by decide +kernel
theorem dX2_init_39 : decode cX2_init 39 = .ok (.iconst 4, 1) := by decide +kernel
theorem dX2_init_40 : decode cX2_init 40 = .ok (.sipush 320, 3) := by decide +kernel
theorem dX2_init_43 : decode cX2_init 43 = .ok (.multianewarray 24 2, 4) := by decide +kernel
theorem dX2_init_47 : decode cX2_init 47 = .ok (.putfield 26, 3) := by decide +kernel
theorem dX2_init_50 : decode cX2_init 50 = .ok (.aload_n 0, 1) := by decide +kernel
theorem dX2_init_51 : decode cX2_init 51 = .ok (.iconst 4, 1) := by decide +kernel
theorem dX2_init_52 : decode cX2_init 52 = .ok (.newarray .int, 2) := by decide +kernel
theorem dX2_init_54 : decode cX2_init 54 = .ok (.putfield 29, 3) := by decide +kernel
theorem dX2_init_57 : decode cX2_init 57 = .ok (.return_, 1) := by decide +kernel
theorem dX2_make_0 : decode cX2_make 0 = .ok (.aload_n 0, 1) := by decide +kernel
theorem dX2_make_1 : decode cX2_make 1 = .ok (.aload_n 1, 1) := by decide +kernel
theorem dX2_make_2 : decode cX2_make 2 = .ok (.invokevirtual 32, 3) := by decide +kernel
theorem dX2_make_5 : decode cX2_make 5 = .ok (.aload_n 0, 1) := by decide +kernel
theorem dX2_make_6 : decode cX2_make 6 = .ok (.aload_n 1, 1) := by decide +kernel
theorem dX2_make_7 : decode cX2_make 7 = .ok (.invokevirtual 36, 3) := by decide +kernel
theorem dX2_make_10 : decode cX2_make 10 = .ok (.aload_n 0, 1) := by decide +kernel
theorem dX2_make_11 : decode cX2_make 11 = .ok (.iconst 0, 1) := by decide +kernel
theorem dX2_make_12 : decode cX2_make 12 = .ok (.putfield 39, 3) := by decide +kernel
theorem dX2_make_15 : decode cX2_make 15 = .ok (.iconst 0, 1) := by decide +kernel
theorem dX2_make_16 : decode cX2_make 16 = .ok (.istore_n 2, 1) := by decide +kernel
theorem dX2_make_17 : decode cX2_make 17 = .ok (.iload_n 2, 1) := by decide +kernel
theorem dX2_make_18 : decode cX2_make 18 = .ok (.aload_n 1, 1) := by decide +kernel
theorem dX2_make_19 : decode cX2_make 19 = .ok (.getfield 43, 3) := by decide +kernel
theorem dX2_make_22 : decode cX2_make 22 = .ok (.if_icmp .ge 50, 3) := by decide +kernel
theorem dX2_make_25 : decode cX2_make 25 = .ok (.iload_n 2, 1) := by decide +kernel
theorem dX2_make_26 : decode cX2_make 26 = .ok (.iconst 4, 1) := by decide +kernel
theorem dX2_make_27 : decode cX2_make 27 = .ok (.if_icmp .ge 45, 3) := by decide +kernel
theorem dX2_make_30 : decode cX2_make 30 = .ok (.aload_n 0, 1) := by decide +kernel
theorem dX2_make_31 : decode cX2_make 31 = .ok (.getfield 9, 3) := by decide +kernel
theorem dX2_make_34 : decode cX2_make 34 = .ok (.iload_n 2, 1) := by decide +kernel
theorem dX2_make_35 : decode cX2_make 35 = .ok (.aload_n 0, 1) := by decide +kernel
theorem dX2_make_36 : decode cX2_make 36 = .ok (.getfield 39, 3) := by decide +kernel
theorem dX2_make_39 : decode cX2_make 39 = .ok (.iastore, 1) := by decide +kernel
theorem dX2_make_40 : decode cX2_make 40 = .ok (.aload_n 0, 1) := by decide +kernel
theorem dX2_make_41 : decode cX2_make 41 = .ok (.aload_n 1, 1) := by decide +kernel
theorem dX2_make_42 : decode cX2_make 42 = .ok (.iload_n 2, 1) := by decide +kernel
theorem dX2_make_43 : decode cX2_make 43 = .ok (.iconst 0, 1) := by decide +kernel
theorem dX2_make_44 : decode cX2_make 44 = .ok (.aload_n 1, 1) := by decide +kernel
theorem dX2_make_45 : decode cX2_make 45 = .ok (.getfield 48, 3) := by decide +kernel
theorem dX2_make_48 : decode cX2_make 48 = .ok (.iload_n 2, 1) := by decide +kernel
theorem dX2_make_49 : decode cX2_make 49 = .ok (.iaload, 1) := by decide +kernel
theorem dX2_make_50 : decode cX2_make 50 = .ok (.iconst 0, 1) := by decide +kernel
theorem dX2_make_51 : decode cX2_make 51 = .ok (.invokestatic 51, 3) := by decide +kernel
theorem dX2_make_54 : decode cX2_make 54 = .ok (.aload_n 0, 1) := by decide +kernel
theorem dX2_make_55 : decode cX2_make 55 = .ok (.getfield 9, 3) := by decide +kernel
theorem dX2_make_58 : decode cX2_make 58 = .ok (.iload_n 2, 1) := by decide +kernel
theorem dX2_make_59 : decode cX2_make 59 = .ok (.iconst 1, 1) := by decide +kernel
theorem dX2_make_60 : decode cX2_make 60 = .ok (.iadd, 1) := by decide +kernel
theorem dX2_make_61 : decode cX2_make 61 = .ok (.aload_n 0, 1) := by decide +kernel
theorem dX2_make_62 : decode cX2_make 62 = .ok (.getfield 39, 3) := by decide +kernel
theorem dX2_make_65 : decode cX2_make 65 = .ok (.iastore, 1) := by decide +kernel
theorem dX2_make_66 : decode cX2_make 66 = .ok (.iinc 2 1, 3) := by decide +kernel
theorem dX2_make_69 : decode cX2_make 69 = .ok (.goto (-52), 3) := by decide +kernel
theorem dX2_make_72 : decode cX2_make 72 = .ok (.return_, 1) := by decide +kernel
theorem dX2_takenBy_0 : decode cX2_takenBy 0 = .ok (.iconst 0, 1) := by decide +kernel
theorem dX2_takenBy_1 : decode cX2_takenBy 1 = .ok (.istore_n 2, 1) := by decide +kernel
theorem dX2_takenBy_2 : decode cX2_takenBy 2 = .ok (.iconst 0, 1) := by decide +kernel
theorem dX2_takenBy_3 : decode cX2_takenBy 3 = .ok (.istore_n 3, 1) := by decide +kernel
theorem dX2_takenBy_4 : decode cX2_takenBy 4 = .ok (.iload_n 3, 1) := by decide +kernel
theorem dX2_takenBy_5 : decode cX2_takenBy 5 = .ok (.iconst 4, 1) := by decide +kernel
theorem dX2_takenBy_6 : decode cX2_takenBy 6 = .ok (.if_icmp .ge 26, 3) := by decide +kernel
theorem dX2_takenBy_9 : decode cX2_takenBy 9 = .ok (.iload_n 3, 1) := by decide +kernel
theorem dX2_takenBy_10 : decode cX2_takenBy 10 = .ok (.aload_n 1, 1) := by decide +kernel
theorem dX2_takenBy_11 : decode cX2_takenBy 11 = .ok (.arraylength, 1) := by decide +kernel
theorem dX2_takenBy_12 : decode cX2_takenBy 12 = .ok (.if_icmp .ge 20, 3) := by decide +kernel
theorem dX2_takenBy_15 : decode cX2_takenBy 15 = .ok (.iload_n 2, 1) := by decide +kernel
theorem dX2_takenBy_16 : decode cX2_takenBy 16 = .ok (.aload_n 1, 1) := by decide +kernel
theorem dX2_takenBy_17 : decode cX2_takenBy 17 = .ok (.iload_n 3, 1) := by decide +kernel
theorem dX2_takenBy_18 : decode cX2_takenBy 18 = .ok (.iaload, 1) := by decide +kernel
theorem dX2_takenBy_19 : decode cX2_takenBy 19 = .ok (.bipush 6, 2) := by decide +kernel
theorem dX2_takenBy_21 : decode cX2_takenBy 21 = .ok (.iload_n 3, 1) := by decide +kernel
theorem dX2_takenBy_22 : decode cX2_takenBy 22 = .ok (.imul, 1) := by decide +kernel
theorem dX2_takenBy_23 : decode cX2_takenBy 23 = .ok (.ishl, 1) := by decide +kernel
theorem dX2_takenBy_24 : decode cX2_takenBy 24 = .ok (.ior, 1) := by decide +kernel
theorem dX2_takenBy_25 : decode cX2_takenBy 25 = .ok (.istore_n 2, 1) := by decide +kernel
theorem dX2_takenBy_26 : decode cX2_takenBy 26 = .ok (.iinc 3 1, 3) := by decide +kernel
theorem dX2_takenBy_29 : decode cX2_takenBy 29 = .ok (.goto (-25), 3) := by decide +kernel
theorem dX2_takenBy_32 : decode cX2_takenBy 32 = .ok (.iload_n 2, 1) := by decide +kernel
theorem dX2_takenBy_33 : decode cX2_takenBy 33 = .ok (.ireturn, 1) := by decide +kernel
theorem dX2_codeOf_0 : decode cX2_codeOf 0 = .ok (.iconst 0, 1) := by decide +kernel
theorem dX2_codeOf_1 : decode cX2_codeOf 1 = .ok (.istore_n 2, 1) := by decide +kernel
theorem dX2_codeOf_2 : decode cX2_codeOf 2 = .ok (.iconst 0, 1) := by decide +kernel
theorem dX2_codeOf_3 : decode cX2_codeOf 3 = .ok (.istore_n 3, 1) := by decide +kernel
theorem dX2_codeOf_4 : decode cX2_codeOf 4 = .ok (.iload_n 3, 1) := by decide +kernel
theorem dX2_codeOf_5 : decode cX2_codeOf 5 = .ok (.iconst 4, 1) := by decide +kernel
theorem dX2_codeOf_6 : decode cX2_codeOf 6 = .ok (.if_icmp .ge 28, 3) := by decide +kernel
theorem dX2_codeOf_9 : decode cX2_codeOf 9 = .ok (.iload_n 3, 1) := by decide +kernel
theorem dX2_codeOf_10 : decode cX2_codeOf 10 = .ok (.aload_n 1, 1) := by decide +kernel
theorem dX2_codeOf_11 : decode cX2_codeOf 11 = .ok (.arraylength, 1) := by decide +kernel
theorem dX2_codeOf_12 : decode cX2_codeOf 12 = .ok (.if_icmp .ge 22, 3) := by decide +kernel
theorem dX2_codeOf_15 : decode cX2_codeOf 15 = .ok (.iload_n 2, 1) := by decide +kernel
theorem dX2_codeOf_16 : decode cX2_codeOf 16 = .ok (.aload_n 1, 1) := by decide +kernel
theorem dX2_codeOf_17 : decode cX2_codeOf 17 = .ok (.iload_n 3, 1) := by decide +kernel
theorem dX2_codeOf_18 : decode cX2_codeOf 18 = .ok (.iaload, 1) := by decide +kernel
theorem dX2_codeOf_19 : decode cX2_codeOf 19 = .ok (.aload_n 0, 1) := by decide +kernel
theorem dX2_codeOf_20 : decode cX2_codeOf 20 = .ok (.getfield 29, 3) := by decide +kernel
theorem dX2_codeOf_23 : decode cX2_codeOf 23 = .ok (.iload_n 3, 1) := by decide +kernel
theorem dX2_codeOf_24 : decode cX2_codeOf 24 = .ok (.iaload, 1) := by decide +kernel
theorem dX2_codeOf_25 : decode cX2_codeOf 25 = .ok (.imul, 1) := by decide +kernel
theorem dX2_codeOf_26 : decode cX2_codeOf 26 = .ok (.iadd, 1) := by decide +kernel
theorem dX2_codeOf_27 : decode cX2_codeOf 27 = .ok (.istore_n 2, 1) := by decide +kernel
theorem dX2_codeOf_28 : decode cX2_codeOf 28 = .ok (.iinc 3 1, 3) := by decide +kernel
theorem dX2_codeOf_31 : decode cX2_codeOf 31 = .ok (.goto (-27), 3) := by decide +kernel
theorem dX2_codeOf_34 : decode cX2_codeOf 34 = .ok (.iload_n 2, 1) := by decide +kernel
theorem dX2_codeOf_35 : decode cX2_codeOf 35 = .ok (.ireturn, 1) := by decide +kernel
theorem dX2_setStrides_0 : decode cX2_setStrides 0 = .ok (.aload_n 0, 1) := by decide +kernel
theorem dX2_setStrides_1 : decode cX2_setStrides 1 = .ok (.getfield 29, 3) := by decide +kernel
theorem dX2_setStrides_4 : decode cX2_setStrides 4 = .ok (.iconst 0, 1) := by decide +kernel
theorem dX2_setStrides_5 : decode cX2_setStrides 5 = .ok (.invokestatic 55, 3) := by decide +kernel
theorem dX2_setStrides_8 : decode cX2_setStrides 8 = .ok (.iconst 1, 1) := by decide +kernel
theorem dX2_setStrides_9 : decode cX2_setStrides 9 = .ok (.istore_n 2, 1) := by decide +kernel
theorem dX2_setStrides_10 : decode cX2_setStrides 10 = .ok (.iconst 0, 1) := by decide +kernel
theorem dX2_setStrides_11 : decode cX2_setStrides 11 = .ok (.istore_n 3, 1) := by decide +kernel
theorem dX2_setStrides_12 : decode cX2_setStrides 12 = .ok (.iload_n 3, 1) := by decide +kernel
theorem dX2_setStrides_13 : decode cX2_setStrides 13 = .ok (.aload_n 1, 1) := by decide +kernel
theorem dX2_setStrides_14 : decode cX2_setStrides 14 = .ok (.getfield 61, 3) := by decide +kernel
theorem dX2_setStrides_17 : decode cX2_setStrides 17 = .ok (.iconst 1, 1) := by decide +kernel
theorem dX2_setStrides_18 : decode cX2_setStrides 18 = .ok (.isub, 1) := by decide +kernel
theorem dX2_setStrides_19 : decode cX2_setStrides 19 = .ok (.if_icmp .ge 32, 3) := by decide +kernel
theorem dX2_setStrides_22 : decode cX2_setStrides 22 = .ok (.iload_n 3, 1) := by decide +kernel
theorem dX2_setStrides_23 : decode cX2_setStrides 23 = .ok (.iconst 4, 1) := by decide +kernel
theorem dX2_setStrides_24 : decode cX2_setStrides 24 = .ok (.if_icmp .ge 27, 3) := by decide +kernel
theorem dX2_setStrides_27 : decode cX2_setStrides 27 = .ok (.aload_n 0, 1) := by decide +kernel
theorem dX2_setStrides_28 : decode cX2_setStrides 28 = .ok (.getfield 29, 3) := by decide +kernel
theorem dX2_setStrides_31 : decode cX2_setStrides 31 = .ok (.iload_n 3, 1) := by decide +kernel
theorem dX2_setStrides_32 : decode cX2_setStrides 32 = .ok (.iload_n 2, 1) := by decide +kernel
theorem dX2_setStrides_33 : decode cX2_setStrides 33 = .ok (.iastore, 1) := by decide +kernel
theorem dX2_setStrides_34 : decode cX2_setStrides 34 = .ok (.iload_n 2, 1) := by decide +kernel
theorem dX2_setStrides_35 : decode cX2_setStrides 35 = .ok (.aload_n 1, 1) := by decide +kernel
theorem dX2_setStrides_36 : decode cX2_setStrides 36 = .ok (.getfield 64, 3) := by decide +kernel
theorem dX2_setStrides_39 : decode cX2_setStrides 39 = .ok (.iload_n 3, 1) := by decide +kernel
theorem dX2_setStrides_40 : decode cX2_setStrides 40 = .ok (.iaload, 1) := by decide +kernel
theorem dX2_setStrides_41 : decode cX2_setStrides 41 = .ok (.iconst 1, 1) := by decide +kernel
theorem dX2_setStrides_42 : decode cX2_setStrides 42 = .ok (.iadd, 1) := by decide +kernel
theorem dX2_setStrides_43 : decode cX2_setStrides 43 = .ok (.imul, 1) := by decide +kernel
theorem dX2_setStrides_44 : decode cX2_setStrides 44 = .ok (.istore_n 2, 1) := by decide +kernel
theorem dX2_setStrides_45 : decode cX2_setStrides 45 = .ok (.iinc 3 1, 3) := by decide +kernel
theorem dX2_setStrides_48 : decode cX2_setStrides 48 = .ok (.goto (-36), 3) := by decide +kernel
theorem dX2_setStrides_51 : decode cX2_setStrides 51 = .ok (.return_, 1) := by decide +kernel
theorem dX2_setScale_0 : decode cX2_setScale 0 = .ok (.aload_n 0, 1) := by decide +kernel
theorem dX2_setScale_1 : decode cX2_setScale 1 = .ok (.lconst 1, 1) := by decide +kernel
theorem dX2_setScale_2 : decode cX2_setScale 2 = .ok (.putfield 67, 3) := by decide +kernel
theorem dX2_setScale_5 : decode cX2_setScale 5 = .ok (.iconst 0, 1) := by decide +kernel
theorem dX2_setScale_6 : decode cX2_setScale 6 = .ok (.istore_n 2, 1) := by decide +kernel
theorem dX2_setScale_7 : decode cX2_setScale 7 = .ok (.iload_n 2, 1) := by decide +kernel
theorem dX2_setScale_8 : decode cX2_setScale 8 = .ok (.iconst 4, 1) := by decide +kernel
theorem dX2_setScale_9 : decode cX2_setScale 9 = .ok (.if_icmp .ge 49, 3) := by decide +kernel
theorem dX2_setScale_12 : decode cX2_setScale 12 = .ok (.aload_n 0, 1) := by decide +kernel
theorem dX2_setScale_13 : decode cX2_setScale 13 = .ok (.dup, 1) := by decide +kernel
theorem dX2_setScale_14 : decode cX2_setScale 14 = .ok (.getfield 67, 3) := by decide +kernel
theorem dX2_setScale_17 : decode cX2_setScale 17 = .ok (.iconst 1, 1) := by decide +kernel
theorem dX2_setScale_18 : decode cX2_setScale 18 = .ok (.aload_n 1, 1) := by decide +kernel
theorem dX2_setScale_19 : decode cX2_setScale 19 = .ok (.getfield 48, 3) := by decide +kernel
theorem dX2_setScale_22 : decode cX2_setScale 22 = .ok (.iload_n 2, 1) := by decide +kernel
theorem dX2_setScale_23 : decode cX2_setScale 23 = .ok (.iaload, 1) := by decide +kernel
theorem dX2_setScale_24 : decode cX2_setScale 24 = .ok (.invokestatic 71, 3) := by decide +kernel
theorem dX2_setScale_27 : decode cX2_setScale 27 = .ok (.i2l, 1) := by decide +kernel
theorem dX2_setScale_28 : decode cX2_setScale 28 = .ok (.lmul, 1) := by decide +kernel
theorem dX2_setScale_29 : decode cX2_setScale 29 = .ok (.putfield 67, 3) := by decide +kernel
theorem dX2_setScale_32 : decode cX2_setScale 32 = .ok (.aload_n 0, 1) := by decide +kernel
theorem dX2_setScale_33 : decode cX2_setScale 33 = .ok (.dup, 1) := by decide +kernel
theorem dX2_setScale_34 : decode cX2_setScale 34 = .ok (.getfield 67, 3) := by decide +kernel
theorem dX2_setScale_37 : decode cX2_setScale 37 = .ok (.iconst 1, 1) := by decide +kernel
theorem dX2_setScale_38 : decode cX2_setScale 38 = .ok (.aload_n 1, 1) := by decide +kernel
theorem dX2_setScale_39 : decode cX2_setScale 39 = .ok (.getfield 64, 3) := by decide +kernel
theorem dX2_setScale_42 : decode cX2_setScale 42 = .ok (.iload_n 2, 1) := by decide +kernel
theorem dX2_setScale_43 : decode cX2_setScale 43 = .ok (.iaload, 1) := by decide +kernel
theorem dX2_setScale_44 : decode cX2_setScale 44 = .ok (.invokestatic 71, 3) := by decide +kernel
theorem dX2_setScale_47 : decode cX2_setScale 47 = .ok (.i2l, 1) := by decide +kernel
theorem dX2_setScale_48 : decode cX2_setScale 48 = .ok (.lmul, 1) := by decide +kernel
theorem dX2_setScale_49 : decode cX2_setScale 49 = .ok (.putfield 67, 3) := by decide +kernel
theorem dX2_setScale_52 : decode cX2_setScale 52 = .ok (.iinc 2 1, 3) := by decide +kernel
theorem dX2_setScale_55 : decode cX2_setScale 55 = .ok (.goto (-48), 3) := by decide +kernel
theorem dX2_setScale_58 : decode cX2_setScale 58 = .ok (.return_, 1) := by decide +kernel
theorem dX2_lay_0 : decode cX2_lay 0 = .ok (.iload_n 3, 1) := by decide +kernel
theorem dX2_lay_1 : decode cX2_lay 1 = .ok (.ifCond .lt 16, 3) := by decide +kernel
theorem dX2_lay_4 : decode cX2_lay 4 = .ok (.iload_n 3, 1) := by decide +kernel
theorem dX2_lay_5 : decode cX2_lay 5 = .ok (.aload_n 1, 1) := by decide +kernel
theorem dX2_lay_6 : decode cX2_lay 6 = .ok (.getfield 61, 3) := by decide +kernel
theorem dX2_lay_9 : decode cX2_lay 9 = .ok (.if_icmp .ge 8, 3) := by decide +kernel
theorem dX2_lay_12 : decode cX2_lay 12 = .ok (.iload_n 3, 1) := by decide +kernel
theorem dX2_lay_13 : decode cX2_lay 13 = .ok (.iconst 4, 1) := by decide +kernel
theorem dX2_lay_14 : decode cX2_lay 14 = .ok (.if_icmp .lt 12, 3) := by decide +kernel
theorem dX2_lay_17 : decode cX2_lay 17 = .ok (.aload_n 0, 1) := by decide +kernel
theorem dX2_lay_18 : decode cX2_lay 18 = .ok (.aload_n 1, 1) := by decide +kernel
theorem dX2_lay_19 : decode cX2_lay 19 = .ok (.iload_n 2, 1) := by decide +kernel
theorem dX2_lay_20 : decode cX2_lay 20 = .ok (.iload 5, 2) := by decide +kernel
theorem dX2_lay_22 : decode cX2_lay 22 = .ok (.invokevirtual 77, 3) := by decide +kernel
theorem dX2_lay_25 : decode cX2_lay 25 = .ok (.return_, 1) := by decide +kernel
theorem dX2_lay_26 : decode cX2_lay 26 = .ok (.aload_n 1, 1) := by decide +kernel
theorem dX2_lay_27 : decode cX2_lay 27 = .ok (.iload_n 2, 1) := by decide +kernel
theorem dX2_lay_28 : decode cX2_lay 28 = .ok (.iload_n 3, 1) := by decide +kernel
theorem dX2_lay_29 : decode cX2_lay 29 = .ok (.invokevirtual 81, 3) := by decide +kernel
theorem dX2_lay_32 : decode cX2_lay 32 = .ok (.ifCond .eq 7, 3) := by decide +kernel
theorem dX2_lay_35 : decode cX2_lay 35 = .ok (.iconst 0, 1) := by decide +kernel
theorem dX2_lay_36 : decode cX2_lay 36 = .ok (.goto 14, 3) := by decide +kernel
theorem dX2_lay_39 : decode cX2_lay 39 = .ok (.iload 4, 2) := by decide +kernel
theorem dX2_lay_41 : decode cX2_lay 41 = .ok (.aload_n 1, 1) := by decide +kernel
theorem dX2_lay_42 : decode cX2_lay 42 = .ok (.getfield 64, 3) := by decide +kernel
theorem dX2_lay_45 : decode cX2_lay 45 = .ok (.iload_n 3, 1) := by decide +kernel
theorem dX2_lay_46 : decode cX2_lay 46 = .ok (.iaload, 1) := by decide +kernel
theorem dX2_lay_47 : decode cX2_lay 47 = .ok (.invokestatic 85, 3) := by decide +kernel
theorem dX2_lay_50 : decode cX2_lay 50 = .ok (.istore 6, 2) := by decide +kernel
theorem dX2_lay_52 : decode cX2_lay 52 = .ok (.iload_n 3, 1) := by decide +kernel
theorem dX2_lay_53 : decode cX2_lay 53 = .ok (.aload_n 1, 1) := by decide +kernel
theorem dX2_lay_54 : decode cX2_lay 54 = .ok (.getfield 61, 3) := by decide +kernel
theorem dX2_lay_57 : decode cX2_lay 57 = .ok (.iconst 1, 1) := by decide +kernel
theorem dX2_lay_58 : decode cX2_lay 58 = .ok (.isub, 1) := by decide +kernel
theorem dX2_lay_59 : decode cX2_lay 59 = .ok (.if_icmp .ne 8, 3) := by decide +kernel
theorem dX2_lay_62 : decode cX2_lay 62 = .ok (.iload 4, 2) := by decide +kernel
theorem dX2_lay_64 : decode cX2_lay 64 = .ok (.goto 4, 3) := by decide +kernel
theorem dX2_lay_67 : decode cX2_lay 67 = .ok (.iconst 0, 1) := by decide +kernel
theorem dX2_lay_68 : decode cX2_lay 68 = .ok (.istore 7, 2) := by decide +kernel
theorem dX2_lay_70 : decode cX2_lay 70 = .ok (.iload 7, 2) := by decide +kernel
theorem dX2_lay_72 : decode cX2_lay 72 = .ok (.iload 6, 2) := by decide +kernel
theorem dX2_lay_74 : decode cX2_lay 74 = .ok (.if_icmp .gt 31, 3) := by decide +kernel
theorem dX2_lay_77 : decode cX2_lay 77 = .ok (.aload_n 0, 1) := by decide +kernel
theorem dX2_lay_78 : decode cX2_lay 78 = .ok (.aload_n 1, 1) := by decide +kernel
theorem dX2_lay_79 : decode cX2_lay 79 = .ok (.iload_n 2, 1) := by decide +kernel
theorem dX2_lay_80 : decode cX2_lay 80 = .ok (.iload_n 3, 1) := by decide +kernel
theorem dX2_lay_81 : decode cX2_lay 81 = .ok (.iconst 1, 1) := by decide +kernel
theorem dX2_lay_82 : decode cX2_lay 82 = .ok (.iadd, 1) := by decide +kernel
theorem dX2_lay_83 : decode cX2_lay 83 = .ok (.iload 4, 2) := by decide +kernel
theorem dX2_lay_85 : decode cX2_lay 85 = .ok (.iload 7, 2) := by decide +kernel
theorem dX2_lay_87 : decode cX2_lay 87 = .ok (.isub, 1) := by decide +kernel
theorem dX2_lay_88 : decode cX2_lay 88 = .ok (.iload 5, 2) := by decide +kernel
theorem dX2_lay_90 : decode cX2_lay 90 = .ok (.iload_n 3, 1) := by decide +kernel
theorem dX2_lay_91 : decode cX2_lay 91 = .ok (.iload 7, 2) := by decide +kernel
theorem dX2_lay_93 : decode cX2_lay 93 = .ok (.invokestatic 88, 3) := by decide +kernel
theorem dX2_lay_96 : decode cX2_lay 96 = .ok (.invokestatic 51, 3) := by decide +kernel
theorem dX2_lay_99 : decode cX2_lay 99 = .ok (.iinc 7 1, 3) := by decide +kernel
theorem dX2_lay_102 : decode cX2_lay 102 = .ok (.goto (-32), 3) := by decide +kernel
theorem dX2_lay_105 : decode cX2_lay 105 = .ok (.return_, 1) := by decide +kernel
theorem dX2_keep_0 : decode cX2_keep 0 = .ok (.aload_n 0, 1) := by decide +kernel
theorem dX2_keep_1 : decode cX2_keep 1 = .ok (.getfield 39, 3) := by decide +kernel
theorem dX2_keep_4 : decode cX2_keep 4 = .ok (.ifCond .lt 13, 3) := by decide +kernel
theorem dX2_keep_7 : decode cX2_keep 7 = .ok (.aload_n 0, 1) := by decide +kernel
theorem dX2_keep_8 : decode cX2_keep 8 = .ok (.getfield 39, 3) := by decide +kernel
theorem dX2_keep_11 : decode cX2_keep 11 = .ok (.sipush 320, 3) := by decide +kernel
theorem dX2_keep_14 : decode cX2_keep 14 = .ok (.if_icmp .lt 4, 3) := by decide +kernel
theorem dX2_keep_17 : decode cX2_keep 17 = .ok (.return_, 1) := by decide +kernel
theorem dX2_keep_18 : decode cX2_keep 18 = .ok (.aload_n 0, 1) := by decide +kernel
theorem dX2_keep_19 : decode cX2_keep 19 = .ok (.getfield 15, 3) := by decide +kernel
theorem dX2_keep_22 : decode cX2_keep 22 = .ok (.aload_n 0, 1) := by decide +kernel
theorem dX2_keep_23 : decode cX2_keep 23 = .ok (.getfield 39, 3) := by decide +kernel
theorem dX2_keep_26 : decode cX2_keep 26 = .ok (.iload_n 3, 1) := by decide +kernel
theorem dX2_keep_27 : decode cX2_keep 27 = .ok (.iastore, 1) := by decide +kernel
theorem dX2_keep_28 : decode cX2_keep 28 = .ok (.aload_n 0, 1) := by decide +kernel
theorem dX2_keep_29 : decode cX2_keep 29 = .ok (.getfield 18, 3) := by decide +kernel
theorem dX2_keep_32 : decode cX2_keep 32 = .ok (.aload_n 0, 1) := by decide +kernel
theorem dX2_keep_33 : decode cX2_keep 33 = .ok (.getfield 39, 3) := by decide +kernel
theorem dX2_keep_36 : decode cX2_keep 36 = .ok (.iconst 0, 1) := by decide +kernel
theorem dX2_keep_37 : decode cX2_keep 37 = .ok (.iastore, 1) := by decide +kernel
theorem dX2_keep_38 : decode cX2_keep 38 = .ok (.aload_n 0, 1) := by decide +kernel
theorem dX2_keep_39 : decode cX2_keep 39 = .ok (.getfield 21, 3) := by decide +kernel
theorem dX2_keep_42 : decode cX2_keep 42 = .ok (.aload_n 0, 1) := by decide +kernel
theorem dX2_keep_43 : decode cX2_keep 43 = .ok (.getfield 39, 3) := by decide +kernel
theorem dX2_keep_46 : decode cX2_keep 46 = .ok (.iconst 0, 1) := by decide +kernel
theorem dX2_keep_47 : decode cX2_keep 47 = .ok (.iastore, 1) := by decide +kernel
theorem dX2_keep_48 : decode cX2_keep 48 = .ok (.aload_n 1, 1) := by decide +kernel
theorem dX2_keep_49 : decode cX2_keep 49 = .ok (.getfield 48, 3) := by decide +kernel
theorem dX2_keep_52 : decode cX2_keep 52 = .ok (.iload_n 2, 1) := by decide +kernel
theorem dX2_keep_53 : decode cX2_keep 53 = .ok (.iaload, 1) := by decide +kernel
theorem dX2_keep_54 : decode cX2_keep 54 = .ok (.istore 4, 2) := by decide +kernel
theorem dX2_keep_56 : decode cX2_keep 56 = .ok (.aload_n 0, 1) := by decide +kernel
theorem dX2_keep_57 : decode cX2_keep 57 = .ok (.getfield 26, 3) := by decide +kernel
theorem dX2_keep_60 : decode cX2_keep 60 = .ok (.iconst 0, 1) := by decide +kernel
theorem dX2_keep_61 : decode cX2_keep 61 = .ok (.aaload, 1) := by decide +kernel
theorem dX2_keep_62 : decode cX2_keep 62 = .ok (.aload_n 0, 1) := by decide +kernel
theorem dX2_keep_63 : decode cX2_keep 63 = .ok (.getfield 39, 3) := by decide +kernel
theorem dX2_keep_66 : decode cX2_keep 66 = .ok (.iload 4, 2) := by decide +kernel
theorem dX2_keep_68 : decode cX2_keep 68 = .ok (.invokestatic 94, 3) := by decide +kernel
theorem dX2_keep_71 : decode cX2_keep 71 = .ok (.lastore, 1) := by decide +kernel
theorem dX2_keep_72 : decode cX2_keep 72 = .ok (.aload_n 0, 1) := by decide +kernel
theorem dX2_keep_73 : decode cX2_keep 73 = .ok (.getfield 26, 3) := by decide +kernel
theorem dX2_keep_76 : decode cX2_keep 76 = .ok (.iconst 1, 1) := by decide +kernel
theorem dX2_keep_77 : decode cX2_keep 77 = .ok (.aaload, 1) := by decide +kernel
theorem dX2_keep_78 : decode cX2_keep 78 = .ok (.aload_n 0, 1) := by decide +kernel
theorem dX2_keep_79 : decode cX2_keep 79 = .ok (.getfield 39, 3) := by decide +kernel
theorem dX2_keep_82 : decode cX2_keep 82 = .ok (.lconst 0, 1) := by decide +kernel
theorem dX2_keep_83 : decode cX2_keep 83 = .ok (.lastore, 1) := by decide +kernel
theorem dX2_keep_84 : decode cX2_keep 84 = .ok (.aload_n 0, 1) := by decide +kernel
theorem dX2_keep_85 : decode cX2_keep 85 = .ok (.getfield 26, 3) := by decide +kernel
theorem dX2_keep_88 : decode cX2_keep 88 = .ok (.iconst 2, 1) := by decide +kernel
theorem dX2_keep_89 : decode cX2_keep 89 = .ok (.aaload, 1) := by decide +kernel
theorem dX2_keep_90 : decode cX2_keep 90 = .ok (.aload_n 0, 1) := by decide +kernel
theorem dX2_keep_91 : decode cX2_keep 91 = .ok (.getfield 39, 3) := by decide +kernel
theorem dX2_keep_94 : decode cX2_keep 94 = .ok (.lconst 0, 1) := by decide +kernel
theorem dX2_keep_95 : decode cX2_keep 95 = .ok (.lastore, 1) := by decide +kernel
theorem dX2_keep_96 : decode cX2_keep 96 = .ok (.aload_n 0, 1) := by decide +kernel
theorem dX2_keep_97 : decode cX2_keep 97 = .ok (.getfield 26, 3) := by decide +kernel
theorem dX2_keep_100 : decode cX2_keep 100 = .ok (.iconst 3, 1) := by decide +kernel
theorem dX2_keep_101 : decode cX2_keep 101 = .ok (.aaload, 1) := by decide +kernel
theorem dX2_keep_102 : decode cX2_keep 102 = .ok (.aload_n 0, 1) := by decide +kernel
theorem dX2_keep_103 : decode cX2_keep 103 = .ok (.getfield 39, 3) := by decide +kernel
theorem dX2_keep_106 : decode cX2_keep 106 = .ok (.lconst 0, 1) := by decide +kernel
theorem dX2_keep_107 : decode cX2_keep 107 = .ok (.lastore, 1) := by decide +kernel
theorem dX2_keep_108 : decode cX2_keep 108 = .ok (.iconst 0, 1) := by decide +kernel
theorem dX2_keep_109 : decode cX2_keep 109 = .ok (.istore 5, 2) := by decide +kernel
theorem dX2_keep_111 : decode cX2_keep 111 = .ok (.iload 5, 2) := by decide +kernel
theorem dX2_keep_113 : decode cX2_keep 113 = .ok (.iconst 4, 1) := by decide +kernel
theorem dX2_keep_114 : decode cX2_keep 114 = .ok (.if_icmp .ge 187, 3) := by decide +kernel
theorem dX2_keep_117 : decode cX2_keep 117 = .ok (.iload_n 3, 1) := by decide +kernel
theorem dX2_keep_118 : decode cX2_keep 118 = .ok (.iload 5, 2) := by decide +kernel
theorem dX2_keep_120 : decode cX2_keep 120 = .ok (.invokestatic 98, 3) := by decide +kernel
theorem dX2_keep_123 : decode cX2_keep 123 = .ok (.istore 6, 2) := by decide +kernel
theorem dX2_keep_125 : decode cX2_keep 125 = .ok (.aload_n 0, 1) := by decide +kernel
theorem dX2_keep_126 : decode cX2_keep 126 = .ok (.getfield 18, 3) := by decide +kernel
theorem dX2_keep_129 : decode cX2_keep 129 = .ok (.aload_n 0, 1) := by decide +kernel
theorem dX2_keep_130 : decode cX2_keep 130 = .ok (.getfield 39, 3) := by decide +kernel
theorem dX2_keep_133 : decode cX2_keep 133 = .ok (.dup2, 1) := by decide +kernel
theorem dX2_keep_134 : decode cX2_keep 134 = .ok (.iaload, 1) := by decide +kernel
theorem dX2_keep_135 : decode cX2_keep 135 = .ok (.iload 6, 2) := by decide +kernel
theorem dX2_keep_137 : decode cX2_keep 137 = .ok (.bipush 6, 2) := by decide +kernel
theorem dX2_keep_139 : decode cX2_keep 139 = .ok (.iload 5, 2) := by decide +kernel
theorem dX2_keep_141 : decode cX2_keep 141 = .ok (.imul, 1) := by decide +kernel
theorem dX2_keep_142 : decode cX2_keep 142 = .ok (.ishl, 1) := by decide +kernel
theorem dX2_keep_143 : decode cX2_keep 143 = .ok (.ior, 1) := by decide +kernel
theorem dX2_keep_144 : decode cX2_keep 144 = .ok (.iastore, 1) := by decide +kernel
theorem dX2_keep_145 : decode cX2_keep 145 = .ok (.aload_n 0, 1) := by decide +kernel
theorem dX2_keep_146 : decode cX2_keep 146 = .ok (.getfield 21, 3) := by decide +kernel
theorem dX2_keep_149 : decode cX2_keep 149 = .ok (.aload_n 0, 1) := by decide +kernel
theorem dX2_keep_150 : decode cX2_keep 150 = .ok (.getfield 39, 3) := by decide +kernel
theorem dX2_keep_153 : decode cX2_keep 153 = .ok (.dup2, 1) := by decide +kernel
theorem dX2_keep_154 : decode cX2_keep 154 = .ok (.iaload, 1) := by decide +kernel
theorem dX2_keep_155 : decode cX2_keep 155 = .ok (.iload 6, 2) := by decide +kernel
theorem dX2_keep_157 : decode cX2_keep 157 = .ok (.aload_n 0, 1) := by decide +kernel
theorem dX2_keep_158 : decode cX2_keep 158 = .ok (.getfield 29, 3) := by decide +kernel
theorem dX2_keep_161 : decode cX2_keep 161 = .ok (.iload 5, 2) := by decide +kernel
theorem dX2_keep_163 : decode cX2_keep 163 = .ok (.iaload, 1) := by decide +kernel
theorem dX2_keep_164 : decode cX2_keep 164 = .ok (.imul, 1) := by decide +kernel
theorem dX2_keep_165 : decode cX2_keep 165 = .ok (.iadd, 1) := by decide +kernel
theorem dX2_keep_166 : decode cX2_keep 166 = .ok (.iastore, 1) := by decide +kernel
theorem dX2_keep_167 : decode cX2_keep 167 = .ok (.iload 4, 2) := by decide +kernel
theorem dX2_keep_169 : decode cX2_keep 169 = .ok (.i2l, 1) := by decide +kernel
theorem dX2_keep_170 : decode cX2_keep 170 = .ok (.aload_n 1, 1) := by decide +kernel
theorem dX2_keep_171 : decode cX2_keep 171 = .ok (.getfield 64, 3) := by decide +kernel
theorem dX2_keep_174 : decode cX2_keep 174 = .ok (.iload 5, 2) := by decide +kernel
theorem dX2_keep_176 : decode cX2_keep 176 = .ok (.iaload, 1) := by decide +kernel
theorem dX2_keep_177 : decode cX2_keep 177 = .ok (.i2l, 1) := by decide +kernel
theorem dX2_keep_178 : decode cX2_keep 178 = .ok (.lmul, 1) := by decide +kernel
theorem dX2_keep_179 : decode cX2_keep 179 = .ok (.lstore 7, 2) := by decide +kernel
theorem dX2_keep_181 : decode cX2_keep 181 = .ok (.aload_n 0, 1) := by decide +kernel
theorem dX2_keep_182 : decode cX2_keep 182 = .ok (.getfield 26, 3) := by decide +kernel
theorem dX2_keep_185 : decode cX2_keep 185 = .ok (.iconst 0, 1) := by decide +kernel
theorem dX2_keep_186 : decode cX2_keep 186 = .ok (.aaload, 1) := by decide +kernel
theorem dX2_keep_187 : decode cX2_keep 187 = .ok (.aload_n 0, 1) := by decide +kernel
theorem dX2_keep_188 : decode cX2_keep 188 = .ok (.getfield 39, 3) := by decide +kernel
theorem dX2_keep_191 : decode cX2_keep 191 = .ok (.aload_n 0, 1) := by decide +kernel
theorem dX2_keep_192 : decode cX2_keep 192 = .ok (.getfield 26, 3) := by decide +kernel
theorem dX2_keep_195 : decode cX2_keep 195 = .ok (.iconst 0, 1) := by decide +kernel
theorem dX2_keep_196 : decode cX2_keep 196 = .ok (.aaload, 1) := by decide +kernel
theorem dX2_keep_197 : decode cX2_keep 197 = .ok (.aload_n 0, 1) := by decide +kernel
theorem dX2_keep_198 : decode cX2_keep 198 = .ok (.getfield 39, 3) := by decide +kernel
theorem dX2_keep_201 : decode cX2_keep 201 = .ok (.laload, 1) := by decide +kernel
theorem dX2_keep_202 : decode cX2_keep 202 = .ok (.iload 6, 2) := by decide +kernel
theorem dX2_keep_204 : decode cX2_keep 204 = .ok (.invokestatic 94, 3) := by decide +kernel
theorem dX2_keep_207 : decode cX2_keep 207 = .ok (.invokestatic 101, 3) := by decide +kernel
theorem dX2_keep_210 : decode cX2_keep 210 = .ok (.lastore, 1) := by decide +kernel
theorem dX2_keep_211 : decode cX2_keep 211 = .ok (.aload_n 0, 1) := by decide +kernel
theorem dX2_keep_212 : decode cX2_keep 212 = .ok (.getfield 26, 3) := by decide +kernel
theorem dX2_keep_215 : decode cX2_keep 215 = .ok (.iconst 1, 1) := by decide +kernel
theorem dX2_keep_216 : decode cX2_keep 216 = .ok (.aaload, 1) := by decide +kernel
theorem dX2_keep_217 : decode cX2_keep 217 = .ok (.aload_n 0, 1) := by decide +kernel
theorem dX2_keep_218 : decode cX2_keep 218 = .ok (.getfield 39, 3) := by decide +kernel
theorem dX2_keep_221 : decode cX2_keep 221 = .ok (.dup2, 1) := by decide +kernel
theorem dX2_keep_222 : decode cX2_keep 222 = .ok (.laload, 1) := by decide +kernel
theorem dX2_keep_223 : decode cX2_keep 223 = .ok (.iload 6, 2) := by decide +kernel
theorem dX2_keep_225 : decode cX2_keep 225 = .ok (.iload 6, 2) := by decide +kernel
theorem dX2_keep_227 : decode cX2_keep 227 = .ok (.imul, 1) := by decide +kernel
theorem dX2_keep_228 : decode cX2_keep 228 = .ok (.i2l, 1) := by decide +kernel
theorem dX2_keep_229 : decode cX2_keep 229 = .ok (.aload_n 0, 1) := by decide +kernel
theorem dX2_keep_230 : decode cX2_keep 230 = .ok (.getfield 67, 3) := by decide +kernel
theorem dX2_keep_233 : decode cX2_keep 233 = .ok (.lload 7, 2) := by decide +kernel
theorem dX2_keep_235 : decode cX2_keep 235 = .ok (.invokestatic 101, 3) := by decide +kernel
theorem dX2_keep_238 : decode cX2_keep 238 = .ok (.lmul, 1) := by decide +kernel
theorem dX2_keep_239 : decode cX2_keep 239 = .ok (.ladd, 1) := by decide +kernel
theorem dX2_keep_240 : decode cX2_keep 240 = .ok (.lastore, 1) := by decide +kernel
theorem dX2_keep_241 : decode cX2_keep 241 = .ok (.aload_n 0, 1) := by decide +kernel
theorem dX2_keep_242 : decode cX2_keep 242 = .ok (.getfield 26, 3) := by decide +kernel
theorem dX2_keep_245 : decode cX2_keep 245 = .ok (.iconst 2, 1) := by decide +kernel
theorem dX2_keep_246 : decode cX2_keep 246 = .ok (.aaload, 1) := by decide +kernel
theorem dX2_keep_247 : decode cX2_keep 247 = .ok (.aload_n 0, 1) := by decide +kernel
theorem dX2_keep_248 : decode cX2_keep 248 = .ok (.getfield 39, 3) := by decide +kernel
theorem dX2_keep_251 : decode cX2_keep 251 = .ok (.dup2, 1) := by decide +kernel
theorem dX2_keep_252 : decode cX2_keep 252 = .ok (.laload, 1) := by decide +kernel
theorem dX2_keep_253 : decode cX2_keep 253 = .ok (.iload 6, 2) := by decide +kernel
theorem dX2_keep_255 : decode cX2_keep 255 = .ok (.iload_n 2, 1) := by decide +kernel
theorem dX2_keep_256 : decode cX2_keep 256 = .ok (.iconst 1, 1) := by decide +kernel
theorem dX2_keep_257 : decode cX2_keep 257 = .ok (.iadd, 1) := by decide +kernel
theorem dX2_keep_258 : decode cX2_keep 258 = .ok (.imul, 1) := by decide +kernel
theorem dX2_keep_259 : decode cX2_keep 259 = .ok (.iload 5, 2) := by decide +kernel
theorem dX2_keep_261 : decode cX2_keep 261 = .ok (.iconst 1, 1) := by decide +kernel
theorem dX2_keep_262 : decode cX2_keep 262 = .ok (.iadd, 1) := by decide +kernel
theorem dX2_keep_263 : decode cX2_keep 263 = .ok (.imul, 1) := by decide +kernel
theorem dX2_keep_264 : decode cX2_keep 264 = .ok (.i2l, 1) := by decide +kernel
theorem dX2_keep_265 : decode cX2_keep 265 = .ok (.ladd, 1) := by decide +kernel
theorem dX2_keep_266 : decode cX2_keep 266 = .ok (.lastore, 1) := by decide +kernel
theorem dX2_keep_267 : decode cX2_keep 267 = .ok (.aload_n 0, 1) := by decide +kernel
theorem dX2_keep_268 : decode cX2_keep 268 = .ok (.getfield 26, 3) := by decide +kernel
theorem dX2_keep_271 : decode cX2_keep 271 = .ok (.iconst 3, 1) := by decide +kernel
theorem dX2_keep_272 : decode cX2_keep 272 = .ok (.aaload, 1) := by decide +kernel
theorem dX2_keep_273 : decode cX2_keep 273 = .ok (.aload_n 0, 1) := by decide +kernel
theorem dX2_keep_274 : decode cX2_keep 274 = .ok (.getfield 39, 3) := by decide +kernel
theorem dX2_keep_277 : decode cX2_keep 277 = .ok (.aload_n 0, 1) := by decide +kernel
theorem dX2_keep_278 : decode cX2_keep 278 = .ok (.getfield 26, 3) := by decide +kernel
theorem dX2_keep_281 : decode cX2_keep 281 = .ok (.iconst 3, 1) := by decide +kernel
theorem dX2_keep_282 : decode cX2_keep 282 = .ok (.aaload, 1) := by decide +kernel
theorem dX2_keep_283 : decode cX2_keep 283 = .ok (.aload_n 0, 1) := by decide +kernel
theorem dX2_keep_284 : decode cX2_keep 284 = .ok (.getfield 39, 3) := by decide +kernel
theorem dX2_keep_287 : decode cX2_keep 287 = .ok (.laload, 1) := by decide +kernel
theorem dX2_keep_288 : decode cX2_keep 288 = .ok (.iload 6, 2) := by decide +kernel
theorem dX2_keep_290 : decode cX2_keep 290 = .ok (.i2l, 1) := by decide +kernel
theorem dX2_keep_291 : decode cX2_keep 291 = .ok (.invokestatic 107, 3) := by decide +kernel
theorem dX2_keep_294 : decode cX2_keep 294 = .ok (.lastore, 1) := by decide +kernel
theorem dX2_keep_295 : decode cX2_keep 295 = .ok (.iinc 5 1, 3) := by decide +kernel
theorem dX2_keep_298 : decode cX2_keep 298 = .ok (.goto (-187), 3) := by decide +kernel
theorem dX2_keep_301 : decode cX2_keep 301 = .ok (.aload_n 0, 1) := by decide +kernel
theorem dX2_keep_302 : decode cX2_keep 302 = .ok (.dup, 1) := by decide +kernel
theorem dX2_keep_303 : decode cX2_keep 303 = .ok (.getfield 39, 3) := by decide +kernel
theorem dX2_keep_306 : decode cX2_keep 306 = .ok (.iconst 1, 1) := by decide +kernel
theorem dX2_keep_307 : decode cX2_keep 307 = .ok (.iadd, 1) := by decide +kernel
theorem dX2_keep_308 : decode cX2_keep 308 = .ok (.putfield 39, 3) := by decide +kernel
theorem dX2_keep_311 : decode cX2_keep 311 = .ok (.return_, 1) := by decide +kernel
theorem dX2_factorial_0 : decode cX2_factorial 0 = .ok (.iload_n 0, 1) := by decide +kernel
theorem dX2_factorial_1 : decode cX2_factorial 1 = .ok (.ifCond .lt 19, 3) := by decide +kernel
theorem dX2_factorial_4 : decode cX2_factorial 4 = .ok (.iload_n 0, 1) := by decide +kernel
theorem dX2_factorial_5 : decode cX2_factorial 5 = .ok (.getstatic 109, 3) := by decide +kernel
theorem dX2_factorial_8 : decode cX2_factorial 8 = .ok (.arraylength, 1) := by decide +kernel
theorem dX2_factorial_9 : decode cX2_factorial 9 = .ok (.if_icmp .ge 11, 3) := by decide +kernel
theorem dX2_factorial_12 : decode cX2_factorial 12 = .ok (.getstatic 109, 3) := by decide +kernel
theorem dX2_factorial_15 : decode cX2_factorial 15 = .ok (.iload_n 0, 1) := by decide +kernel
theorem dX2_factorial_16 : decode cX2_factorial 16 = .ok (.laload, 1) := by decide +kernel
theorem dX2_factorial_17 : decode cX2_factorial 17 = .ok (.goto 4, 3) := by decide +kernel
theorem dX2_factorial_20 : decode cX2_factorial 20 = .ok (.lconst 1, 1) := by decide +kernel
theorem dX2_factorial_21 : decode cX2_factorial 21 = .ok (.lreturn, 1) := by decide +kernel
theorem dX3_shift_0 : decode cX3_shift 0 = .ok (.iconst 4, 1) := by decide +kernel
theorem dX3_shift_1 : decode cX3_shift 1 = .ok (.bipush 15, 2) := by decide +kernel
theorem dX3_shift_3 : decode cX3_shift 3 = .ok (.iconst 4, 1) := by decide +kernel
theorem dX3_shift_4 : decode cX3_shift 4 = .ok (.iload_n 0, 1) := by decide +kernel
theorem dX3_shift_5 : decode cX3_shift 5 = .ok (.imul, 1) := by decide +kernel
theorem dX3_shift_6 : decode cX3_shift 6 = .ok (.isub, 1) := by decide +kernel
theorem dX3_shift_7 : decode cX3_shift 7 = .ok (.iload_n 1, 1) := by decide +kernel
theorem dX3_shift_8 : decode cX3_shift 8 = .ok (.isub, 1) := by decide +kernel
theorem dX3_shift_9 : decode cX3_shift 9 = .ok (.imul, 1) := by decide +kernel
theorem dX3_shift_10 : decode cX3_shift 10 = .ok (.ireturn, 1) := by decide +kernel
theorem dX3_get_0 : decode cX3_get 0 = .ok (.lload_n 0, 1) := by decide +kernel
theorem dX3_get_1 : decode cX3_get 1 = .ok (.iload_n 2, 1) := by decide +kernel
theorem dX3_get_2 : decode cX3_get 2 = .ok (.lushr, 1) := by decide +kernel
theorem dX3_get_3 : decode cX3_get 3 = .ok (.l2i, 1) := by decide +kernel
theorem dX3_get_4 : decode cX3_get 4 = .ok (.bipush 15, 2) := by decide +kernel
theorem dX3_get_6 : decode cX3_get 6 = .ok (.iand, 1) := by decide +kernel
theorem dX3_get_7 : decode cX3_get 7 = .ok (.ireturn, 1) := by decide +kernel
theorem dX3_one_0 : decode cX3_one 0 = .ok (.lconst 1, 1) := by decide +kernel
theorem dX3_one_1 : decode cX3_one 1 = .ok (.iload_n 0, 1) := by decide +kernel
theorem dX3_one_2 : decode cX3_one 2 = .ok (.iload_n 1, 1) := by decide +kernel
theorem dX3_one_3 : decode cX3_one 3 = .ok (.invokestatic 11, 3) := by decide +kernel
theorem dX3_one_6 : decode cX3_one 6 = .ok (.lshl, 1) := by decide +kernel
theorem dX3_one_7 : decode cX3_one 7 = .ok (.lreturn, 1) := by decide +kernel
theorem dX3_swapStep_0 : decode cX3_swapStep 0 = .ok (.iload_n 0, 1) := by decide +kernel
theorem dX3_swapStep_1 : decode cX3_swapStep 1 = .ok (.iload_n 2, 1) := by decide +kernel
theorem dX3_swapStep_2 : decode cX3_swapStep 2 = .ok (.invokestatic 15, 3) := by decide +kernel
theorem dX3_swapStep_5 : decode cX3_swapStep 5 = .ok (.iload_n 1, 1) := by decide +kernel
theorem dX3_swapStep_6 : decode cX3_swapStep 6 = .ok (.iload_n 3, 1) := by decide +kernel
theorem dX3_swapStep_7 : decode cX3_swapStep 7 = .ok (.invokestatic 15, 3) := by decide +kernel
theorem dX3_swapStep_10 : decode cX3_swapStep 10 = .ok (.ladd, 1) := by decide +kernel
theorem dX3_swapStep_11 : decode cX3_swapStep 11 = .ok (.iload_n 0, 1) := by decide +kernel
theorem dX3_swapStep_12 : decode cX3_swapStep 12 = .ok (.iload_n 3, 1) := by decide +kernel
theorem dX3_swapStep_13 : decode cX3_swapStep 13 = .ok (.invokestatic 15, 3) := by decide +kernel
theorem dX3_swapStep_16 : decode cX3_swapStep 16 = .ok (.lsub, 1) := by decide +kernel
theorem dX3_swapStep_17 : decode cX3_swapStep 17 = .ok (.iload_n 1, 1) := by decide +kernel
theorem dX3_swapStep_18 : decode cX3_swapStep 18 = .ok (.iload_n 2, 1) := by decide +kernel
theorem dX3_swapStep_19 : decode cX3_swapStep 19 = .ok (.invokestatic 15, 3) := by decide +kernel
theorem dX3_swapStep_22 : decode cX3_swapStep 22 = .ok (.lsub, 1) := by decide +kernel
theorem dX3_swapStep_23 : decode cX3_swapStep 23 = .ok (.lreturn, 1) := by decide +kernel
theorem dX3_lineOf_0 : decode cX3_lineOf 0 = .ok (.lload_n 0, 1) := by decide +kernel
theorem dX3_lineOf_1 : decode cX3_lineOf 1 = .ok (.iload_n 2, 1) := by decide +kernel
theorem dX3_lineOf_2 : decode cX3_lineOf 2 = .ok (.iconst 3, 1) := by decide +kernel
theorem dX3_lineOf_3 : decode cX3_lineOf 3 = .ok (.invokestatic 11, 3) := by decide +kernel
theorem dX3_lineOf_6 : decode cX3_lineOf 6 = .ok (.lushr, 1) := by decide +kernel
theorem dX3_lineOf_7 : decode cX3_lineOf 7 = .ok (.l2i, 1) := by decide +kernel
theorem dX3_lineOf_8 : decode cX3_lineOf 8 = .ok (.ldc 19, 2) := by decide +kernel
theorem dX3_lineOf_10 : decode cX3_lineOf 10 = .ok (.iand, 1) := by decide +kernel
theorem dX3_lineOf_11 : decode cX3_lineOf 11 = .ok (.ireturn, 1) := by decide +kernel
theorem dX3_withLine_0 : decode cX3_withLine 0 = .ok (.lload_n 0, 1) := by decide +kernel
theorem dX3_withLine_1 : decode cX3_withLine 1 = .ok (.iload_n 3, 1) := by decide +kernel
theorem dX3_withLine_2 : decode cX3_withLine 2 = .ok (.i2l, 1) := by decide +kernel
theorem dX3_withLine_3 : decode cX3_withLine 3 = .ok (.iload_n 2, 1) := by decide +kernel
theorem dX3_withLine_4 : decode cX3_withLine 4 = .ok (.iconst 3, 1) := by decide +kernel
theorem dX3_withLine_5 : decode cX3_withLine 5 = .ok (.invokestatic 11, 3) := by decide +kernel
theorem dX3_withLine_8 : decode cX3_withLine 8 = .ok (.lshl, 1) := by decide +kernel
theorem dX3_withLine_9 : decode cX3_withLine 9 = .ok (.lor, 1) := by decide +kernel
theorem dX3_withLine_10 : decode cX3_withLine 10 = .ok (.lreturn, 1) := by decide +kernel
theorem dX3_inLine_0 : decode cX3_inLine 0 = .ok (.iload_n 0, 1) := by decide +kernel
theorem dX3_inLine_1 : decode cX3_inLine 1 = .ok (.iconst 4, 1) := by decide +kernel
theorem dX3_inLine_2 : decode cX3_inLine 2 = .ok (.iconst 3, 1) := by decide +kernel
theorem dX3_inLine_3 : decode cX3_inLine 3 = .ok (.iload_n 1, 1) := by decide +kernel
theorem dX3_inLine_4 : decode cX3_inLine 4 = .ok (.isub, 1) := by decide +kernel
theorem dX3_inLine_5 : decode cX3_inLine 5 = .ok (.imul, 1) := by decide +kernel
theorem dX3_inLine_6 : decode cX3_inLine 6 = .ok (.ishr, 1) := by decide +kernel
theorem dX3_inLine_7 : decode cX3_inLine 7 = .ok (.bipush 15, 2) := by decide +kernel
theorem dX3_inLine_9 : decode cX3_inLine 9 = .ok (.iand, 1) := by decide +kernel
theorem dX3_inLine_10 : decode cX3_inLine 10 = .ok (.ireturn, 1) := by decide +kernel
theorem dX3_putInLine_0 : decode cX3_putInLine 0 = .ok (.iload_n 0, 1) := by decide +kernel
theorem dX3_putInLine_1 : decode cX3_putInLine 1 = .ok (.iload_n 2, 1) := by decide +kernel
theorem dX3_putInLine_2 : decode cX3_putInLine 2 = .ok (.iconst 4, 1) := by decide +kernel
theorem dX3_putInLine_3 : decode cX3_putInLine 3 = .ok (.iconst 3, 1) := by decide +kernel
theorem dX3_putInLine_4 : decode cX3_putInLine 4 = .ok (.iload_n 1, 1) := by decide +kernel
theorem dX3_putInLine_5 : decode cX3_putInLine 5 = .ok (.isub, 1) := by decide +kernel
theorem dX3_putInLine_6 : decode cX3_putInLine 6 = .ok (.imul, 1) := by decide +kernel
theorem dX3_putInLine_7 : decode cX3_putInLine 7 = .ok (.ishl, 1) := by decide +kernel
theorem dX3_putInLine_8 : decode cX3_putInLine 8 = .ok (.ior, 1) := by decide +kernel
theorem dX3_putInLine_9 : decode cX3_putInLine 9 = .ok (.ireturn, 1) := by decide +kernel
theorem dX4_init_0 : decode cX4_init 0 = .ok (.aload_n 0, 1) := by decide +kernel
theorem dX4_init_1 : decode cX4_init 1 = .ok (.invokespecial 3, 3) := by decide +kernel
theorem dX4_init_4 : decode cX4_init 4 = .ok (.aload_n 0, 1) := by decide +kernel
theorem dX4_init_5 : decode cX4_init 5 = .ok (.iconst 4, 1) := by decide +kernel
theorem dX4_init_6 : decode cX4_init 6 = .ok (.sipush 480, 3) := by decide +kernel
theorem dX4_init_9 : decode cX4_init 9 = .ok (.multianewarray 11 2, 4) := by decide +kernel
theorem dX4_init_13 : decode cX4_init 13 = .ok (.putfield 13, 3) := by decide +kernel
theorem dX4_init_16 : decode cX4_init 16 = .ok (.aload_n 0, 1) := by decide +kernel
theorem dX4_init_17 : decode cX4_init 17 = .ok (.iconst 4, 1) := by decide +kernel
theorem dX4_init_18 : decode cX4_init 18 = .ok (.sipush 480, 3) := by decide +kernel
theorem dX4_init_21 : decode cX4_init 21 = .ok (.multianewarray 11 2, 4) := by decide +kernel
theorem dX4_init_25 : decode cX4_init 25 = .ok (.putfield 18, 3) := by decide +kernel
theorem dX4_init_28 : decode cX4_init 28 = .ok (.aload_n 0, 1) := by decide +kernel
theorem dX4_init_29 : decode cX4_init 29 = .ok (.iconst 4, 1) := by decide +kernel
theorem dX4_init_30 : decode cX4_init 30 = .ok (.newarray .boolean, 2) := by decide +kernel
theorem dX4_init_32 : decode cX4_init 32 = .ok (.putfield 21, 3) := by decide +kernel
theorem dX4_init_35 : decode cX4_init 35 = .ok (.aload_n 0, 1) := by decide +kernel
theorem dX4_init_36 : decode cX4_init 36 = .ok (.iconst 4, 1) := by decide +kernel
theorem dX4_init_37 : decode cX4_init 37 = .ok (.newarray .boolean, 2) := by decide +kernel
theorem dX4_init_39 : decode cX4_init 39 = .ok (.putfield 25, 3) := by decide +kernel
theorem dX4_init_42 : decode cX4_init 42 = .ok (.aload_n 0, 1) := by decide +kernel
theorem dX4_init_43 : decode cX4_init 43 = .ok (.iconst 4, 1) := by decide +kernel
theorem dX4_init_44 : decode cX4_init 44 = .ok (.newarray .long, 2) := by decide +kernel
theorem dX4_init_46 : decode cX4_init 46 = .ok (.putfield 28, 3) := by decide +kernel
theorem dX4_init_49 : decode cX4_init 49 = .ok (.aload_n 0, 1) := by decide +kernel
theorem dX4_init_50 : decode cX4_init 50 = .ok (.iconst 4, 1) := by decide +kernel
theorem dX4_init_51 : decode cX4_init 51 = .ok (.newarray .long, 2) := by decide +kernel
theorem dX4_init_53 : decode cX4_init 53 = .ok (.putfield 32, 3) := by decide +kernel
theorem dX4_init_56 : decode cX4_init 56 = .ok (.aload_n 0, 1) := by decide +kernel
theorem dX4_init_57 : decode cX4_init 57 = .ok (.iconst 4, 1) := by decide +kernel
theorem dX4_init_58 : decode cX4_init 58 = .ok (.newarray .long, 2) := by decide +kernel
theorem dX4_init_60 : decode cX4_init 60 = .ok (.putfield 35, 3) := by decide +kernel
theorem dX4_init_63 : decode cX4_init 63 = .ok (.aload_n 0, 1) := by decide +kernel
theorem dX4_init_64 : decode cX4_init 64 = .ok (.aload_n 1, 1) := by decide +kernel
theorem dX4_init_65 : decode cX4_init 65 = .ok (.putfield 38, 3) := by decide +kernel
theorem dX4_init_68 : decode cX4_init 68 = .ok (.return_, 1) := by decide +kernel
theorem dX4_forget_0 : decode cX4_forget 0 = .ok (.iconst 0, 1) := by decide +kernel
theorem dX4_forget_1 : decode cX4_forget 1 = .ok (.istore_n 1, 1) := by decide +kernel
theorem dX4_forget_2 : decode cX4_forget 2 = .ok (.iload_n 1, 1) := by decide +kernel
theorem dX4_forget_3 : decode cX4_forget 3 = .ok (.iconst 4, 1) := by decide +kernel
theorem dX4_forget_4 : decode cX4_forget 4 = .ok (.if_icmp .ge 23, 3) := by decide +kernel
theorem dX4_forget_7 : decode cX4_forget 7 = .ok (.aload_n 0, 1) := by decide +kernel
theorem dX4_forget_8 : decode cX4_forget 8 = .ok (.getfield 21, 3) := by decide +kernel
theorem dX4_forget_11 : decode cX4_forget 11 = .ok (.iload_n 1, 1) := by decide +kernel
theorem dX4_forget_12 : decode cX4_forget 12 = .ok (.iconst 0, 1) := by decide +kernel
theorem dX4_forget_13 : decode cX4_forget 13 = .ok (.bastore, 1) := by decide +kernel
theorem dX4_forget_14 : decode cX4_forget 14 = .ok (.aload_n 0, 1) := by decide +kernel
theorem dX4_forget_15 : decode cX4_forget 15 = .ok (.getfield 25, 3) := by decide +kernel
theorem dX4_forget_18 : decode cX4_forget 18 = .ok (.iload_n 1, 1) := by decide +kernel
theorem dX4_forget_19 : decode cX4_forget 19 = .ok (.iconst 0, 1) := by decide +kernel
theorem dX4_forget_20 : decode cX4_forget 20 = .ok (.bastore, 1) := by decide +kernel
theorem dX4_forget_21 : decode cX4_forget 21 = .ok (.iinc 1 1, 3) := by decide +kernel
theorem dX4_forget_24 : decode cX4_forget 24 = .ok (.goto (-22), 3) := by decide +kernel
theorem dX4_forget_27 : decode cX4_forget 27 = .ok (.return_, 1) := by decide +kernel
theorem dX4_valueOf_0 : decode cX4_valueOf 0 = .ok (.iload_n 1, 1) := by decide +kernel
theorem dX4_valueOf_1 : decode cX4_valueOf 1 = .ok (.invokestatic 42, 3) := by decide +kernel
theorem dX4_valueOf_4 : decode cX4_valueOf 4 = .ok (.lstore 4, 2) := by decide +kernel
theorem dX4_valueOf_6 : decode cX4_valueOf 6 = .ok (.iconst 0, 1) := by decide +kernel
theorem dX4_valueOf_7 : decode cX4_valueOf 7 = .ok (.istore 6, 2) := by decide +kernel
theorem dX4_valueOf_9 : decode cX4_valueOf 9 = .ok (.iconst 0, 1) := by decide +kernel
theorem dX4_valueOf_10 : decode cX4_valueOf 10 = .ok (.istore 7, 2) := by decide +kernel
theorem dX4_valueOf_12 : decode cX4_valueOf 12 = .ok (.iload 7, 2) := by decide +kernel
theorem dX4_valueOf_14 : decode cX4_valueOf 14 = .ok (.aload_n 0, 1) := by decide +kernel
theorem dX4_valueOf_15 : decode cX4_valueOf 15 = .ok (.getfield 38, 3) := by decide +kernel
theorem dX4_valueOf_18 : decode cX4_valueOf 18 = .ok (.getfield 46, 3) := by decide +kernel
theorem dX4_valueOf_21 : decode cX4_valueOf 21 = .ok (.if_icmp .ge 79, 3) := by decide +kernel
theorem dX4_valueOf_24 : decode cX4_valueOf 24 = .ok (.aload_n 0, 1) := by decide +kernel
theorem dX4_valueOf_25 : decode cX4_valueOf 25 = .ok (.getfield 38, 3) := by decide +kernel
theorem dX4_valueOf_28 : decode cX4_valueOf 28 = .ok (.iload 6, 2) := by decide +kernel
theorem dX4_valueOf_30 : decode cX4_valueOf 30 = .ok (.lload_n 2, 1) := by decide +kernel
theorem dX4_valueOf_31 : decode cX4_valueOf 31 = .ok (.iload 7, 2) := by decide +kernel
theorem dX4_valueOf_33 : decode cX4_valueOf 33 = .ok (.invokestatic 50, 3) := by decide +kernel
theorem dX4_valueOf_36 : decode cX4_valueOf 36 = .ok (.invokevirtual 56, 3) := by decide +kernel
theorem dX4_valueOf_39 : decode cX4_valueOf 39 = .ok (.istore 8, 2) := by decide +kernel
theorem dX4_valueOf_41 : decode cX4_valueOf 41 = .ok (.iload 8, 2) := by decide +kernel
theorem dX4_valueOf_43 : decode cX4_valueOf 43 = .ok (.iconst (-1), 1) := by decide +kernel
theorem dX4_valueOf_44 : decode cX4_valueOf 44 = .ok (.if_icmp .ne 7, 3) := by decide +kernel
theorem dX4_valueOf_47 : decode cX4_valueOf 47 = .ok (.ldc2_w 60, 3) := by decide +kernel
theorem dX4_valueOf_50 : decode cX4_valueOf 50 = .ok (.lreturn, 1) := by decide +kernel
theorem dX4_valueOf_51 : decode cX4_valueOf 51 = .ok (.iload_n 1, 1) := by decide +kernel
theorem dX4_valueOf_52 : decode cX4_valueOf 52 = .ok (.lload 4, 2) := by decide +kernel
theorem dX4_valueOf_54 : decode cX4_valueOf 54 = .ok (.aload_n 0, 1) := by decide +kernel
theorem dX4_valueOf_55 : decode cX4_valueOf 55 = .ok (.getfield 38, 3) := by decide +kernel
theorem dX4_valueOf_58 : decode cX4_valueOf 58 = .ok (.getfield 62, 3) := by decide +kernel
theorem dX4_valueOf_61 : decode cX4_valueOf 61 = .ok (.getfield 66, 3) := by decide +kernel
theorem dX4_valueOf_64 : decode cX4_valueOf 64 = .ok (.iload_n 1, 1) := by decide +kernel
theorem dX4_valueOf_65 : decode cX4_valueOf 65 = .ok (.aaload, 1) := by decide +kernel
theorem dX4_valueOf_66 : decode cX4_valueOf 66 = .ok (.aload_n 0, 1) := by decide +kernel
theorem dX4_valueOf_67 : decode cX4_valueOf 67 = .ok (.getfield 38, 3) := by decide +kernel
theorem dX4_valueOf_70 : decode cX4_valueOf 70 = .ok (.getfield 71, 3) := by decide +kernel
theorem dX4_valueOf_73 : decode cX4_valueOf 73 = .ok (.iload 8, 2) := by decide +kernel
theorem dX4_valueOf_75 : decode cX4_valueOf 75 = .ok (.iaload, 1) := by decide +kernel
theorem dX4_valueOf_76 : decode cX4_valueOf 76 = .ok (.laload, 1) := by decide +kernel
theorem dX4_valueOf_77 : decode cX4_valueOf 77 = .ok (.invokestatic 75, 3) := by decide +kernel
theorem dX4_valueOf_80 : decode cX4_valueOf 80 = .ok (.lstore 4, 2) := by decide +kernel
theorem dX4_valueOf_82 : decode cX4_valueOf 82 = .ok (.aload_n 0, 1) := by decide +kernel
theorem dX4_valueOf_83 : decode cX4_valueOf 83 = .ok (.getfield 38, 3) := by decide +kernel
theorem dX4_valueOf_86 : decode cX4_valueOf 86 = .ok (.getfield 79, 3) := by decide +kernel
theorem dX4_valueOf_89 : decode cX4_valueOf 89 = .ok (.iload 8, 2) := by decide +kernel
theorem dX4_valueOf_91 : decode cX4_valueOf 91 = .ok (.iaload, 1) := by decide +kernel
theorem dX4_valueOf_92 : decode cX4_valueOf 92 = .ok (.istore 6, 2) := by decide +kernel
theorem dX4_valueOf_94 : decode cX4_valueOf 94 = .ok (.iinc 7 1, 3) := by decide +kernel
theorem dX4_valueOf_97 : decode cX4_valueOf 97 = .ok (.goto (-85), 3) := by decide +kernel
theorem dX4_valueOf_100 : decode cX4_valueOf 100 = .ok (.lload 4, 2) := by decide +kernel
theorem dX4_valueOf_102 : decode cX4_valueOf 102 = .ok (.lreturn, 1) := by decide +kernel
theorem dX4_farOut_0 : decode cX4_farOut 0 = .ok (.aload_n 0, 1) := by decide +kernel
theorem dX4_farOut_1 : decode cX4_farOut 1 = .ok (.iload_n 1, 1) := by decide +kernel
theorem dX4_farOut_2 : decode cX4_farOut 2 = .ok (.aload_n 0, 1) := by decide +kernel
theorem dX4_farOut_3 : decode cX4_farOut 3 = .ok (.iload_n 1, 1) := by decide +kernel
theorem dX4_farOut_4 : decode cX4_farOut 4 = .ok (.lload_n 2, 1) := by decide +kernel
theorem dX4_farOut_5 : decode cX4_farOut 5 = .ok (.invokevirtual 82, 3) := by decide +kernel
theorem dX4_farOut_8 : decode cX4_farOut 8 = .ok (.invokevirtual 86, 3) := by decide +kernel
theorem dX4_farOut_11 : decode cX4_farOut 11 = .ok (.aload_n 0, 1) := by decide +kernel
theorem dX4_farOut_12 : decode cX4_farOut 12 = .ok (.getfield 32, 3) := by decide +kernel
theorem dX4_farOut_15 : decode cX4_farOut 15 = .ok (.iload_n 1, 1) := by decide +kernel
theorem dX4_farOut_16 : decode cX4_farOut 16 = .ok (.laload, 1) := by decide +kernel
theorem dX4_farOut_17 : decode cX4_farOut 17 = .ok (.lreturn, 1) := by decide +kernel
theorem dX4_farOutHeft_0 : decode cX4_farOutHeft 0 = .ok (.aload_n 0, 1) := by decide +kernel
theorem dX4_farOutHeft_1 : decode cX4_farOutHeft 1 = .ok (.iload_n 1, 1) := by decide +kernel
theorem dX4_farOutHeft_2 : decode cX4_farOutHeft 2 = .ok (.aload_n 0, 1) := by decide +kernel
theorem dX4_farOutHeft_3 : decode cX4_farOutHeft 3 = .ok (.iload_n 1, 1) := by decide +kernel
theorem dX4_farOutHeft_4 : decode cX4_farOutHeft 4 = .ok (.lload_n 2, 1) := by decide +kernel
theorem dX4_farOutHeft_5 : decode cX4_farOutHeft 5 = .ok (.invokevirtual 82, 3) := by decide +kernel
theorem dX4_farOutHeft_8 : decode cX4_farOutHeft 8 = .ok (.invokevirtual 86, 3) := by decide +kernel
theorem dX4_farOutHeft_11 : decode cX4_farOutHeft 11 = .ok (.aload_n 0, 1) := by decide +kernel
theorem dX4_farOutHeft_12 : decode cX4_farOutHeft 12 = .ok (.getfield 35, 3) := by decide +kernel
theorem dX4_farOutHeft_15 : decode cX4_farOutHeft 15 = .ok (.iload_n 1, 1) := by decide +kernel
theorem dX4_farOutHeft_16 : decode cX4_farOutHeft 16 = .ok (.laload, 1) := by decide +kernel
theorem dX4_farOutHeft_17 : decode cX4_farOutHeft 17 = .ok (.lreturn, 1) := by decide +kernel
theorem dX4_firstHeaviest_0 : decode cX4_firstHeaviest 0 = .ok (.aload_n 0, 1) := by decide +kernel
theorem dX4_firstHeaviest_1 : decode cX4_firstHeaviest 1 = .ok (.iconst 0, 1) := by decide +kernel
theorem dX4_firstHeaviest_2 : decode cX4_firstHeaviest 2 = .ok (.invokevirtual 90, 3) := by decide +kernel
theorem dX4_firstHeaviest_5 : decode cX4_firstHeaviest 5 = .ok (.aload_n 0, 1) := by decide +kernel
theorem dX4_firstHeaviest_6 : decode cX4_firstHeaviest 6 = .ok (.aload_n 0, 1) := by decide +kernel
theorem dX4_firstHeaviest_7 : decode cX4_firstHeaviest 7 = .ok (.getfield 18, 3) := by decide +kernel
theorem dX4_firstHeaviest_10 : decode cX4_firstHeaviest 10 = .ok (.iconst 0, 1) := by decide +kernel
theorem dX4_firstHeaviest_11 : decode cX4_firstHeaviest 11 = .ok (.aaload, 1) := by decide +kernel
theorem dX4_firstHeaviest_12 : decode cX4_firstHeaviest 12 = .ok (.invokevirtual 94, 3) := by decide +kernel
theorem dX4_firstHeaviest_15 : decode cX4_firstHeaviest 15 = .ok (.lreturn, 1) := by decide +kernel
theorem dX4_firstLightest_0 : decode cX4_firstLightest 0 = .ok (.aload_n 0, 1) := by decide +kernel
theorem dX4_firstLightest_1 : decode cX4_firstLightest 1 = .ok (.iconst 0, 1) := by decide +kernel
theorem dX4_firstLightest_2 : decode cX4_firstLightest 2 = .ok (.invokevirtual 90, 3) := by decide +kernel
theorem dX4_firstLightest_5 : decode cX4_firstLightest 5 = .ok (.aload_n 0, 1) := by decide +kernel
theorem dX4_firstLightest_6 : decode cX4_firstLightest 6 = .ok (.aload_n 0, 1) := by decide +kernel
theorem dX4_firstLightest_7 : decode cX4_firstLightest 7 = .ok (.getfield 13, 3) := by decide +kernel
theorem dX4_firstLightest_10 : decode cX4_firstLightest 10 = .ok (.iconst 0, 1) := by decide +kernel
theorem dX4_firstLightest_11 : decode cX4_firstLightest 11 = .ok (.aaload, 1) := by decide +kernel
theorem dX4_firstLightest_12 : decode cX4_firstLightest 12 = .ok (.invokevirtual 94, 3) := by decide +kernel
theorem dX4_firstLightest_15 : decode cX4_firstLightest 15 = .ok (.lreturn, 1) := by decide +kernel
theorem dX4_firstWith_0 : decode cX4_firstWith 0 = .ok (.lconst 0, 1) := by decide +kernel
theorem dX4_firstWith_1 : decode cX4_firstWith 1 = .ok (.lstore_n 2, 1) := by decide +kernel
theorem dX4_firstWith_2 : decode cX4_firstWith 2 = .ok (.iconst 0, 1) := by decide +kernel
theorem dX4_firstWith_3 : decode cX4_firstWith 3 = .ok (.istore 4, 2) := by decide +kernel
theorem dX4_firstWith_5 : decode cX4_firstWith 5 = .ok (.iconst 0, 1) := by decide +kernel
theorem dX4_firstWith_6 : decode cX4_firstWith 6 = .ok (.istore 5, 2) := by decide +kernel
theorem dX4_firstWith_8 : decode cX4_firstWith 8 = .ok (.iload 5, 2) := by decide +kernel
theorem dX4_firstWith_10 : decode cX4_firstWith 10 = .ok (.aload_n 0, 1) := by decide +kernel
theorem dX4_firstWith_11 : decode cX4_firstWith 11 = .ok (.getfield 38, 3) := by decide +kernel
theorem dX4_firstWith_14 : decode cX4_firstWith 14 = .ok (.getfield 46, 3) := by decide +kernel
theorem dX4_firstWith_17 : decode cX4_firstWith 17 = .ok (.if_icmp .ge 139, 3) := by decide +kernel
theorem dX4_firstWith_20 : decode cX4_firstWith 20 = .ok (.iload 4, 2) := by decide +kernel
theorem dX4_firstWith_22 : decode cX4_firstWith 22 = .ok (.istore 6, 2) := by decide +kernel
theorem dX4_firstWith_24 : decode cX4_firstWith 24 = .ok (.aload_n 0, 1) := by decide +kernel
theorem dX4_firstWith_25 : decode cX4_firstWith 25 = .ok (.getfield 38, 3) := by decide +kernel
theorem dX4_firstWith_28 : decode cX4_firstWith 28 = .ok (.getfield 98, 3) := by decide +kernel
theorem dX4_firstWith_31 : decode cX4_firstWith 31 = .ok (.iload 4, 2) := by decide +kernel
theorem dX4_firstWith_33 : decode cX4_firstWith 33 = .ok (.iaload, 1) := by decide +kernel
theorem dX4_firstWith_34 : decode cX4_firstWith 34 = .ok (.istore 7, 2) := by decide +kernel
theorem dX4_firstWith_36 : decode cX4_firstWith 36 = .ok (.iload 7, 2) := by decide +kernel
theorem dX4_firstWith_38 : decode cX4_firstWith 38 = .ok (.aload_n 0, 1) := by decide +kernel
theorem dX4_firstWith_39 : decode cX4_firstWith 39 = .ok (.getfield 38, 3) := by decide +kernel
theorem dX4_firstWith_42 : decode cX4_firstWith 42 = .ok (.getfield 98, 3) := by decide +kernel
theorem dX4_firstWith_45 : decode cX4_firstWith 45 = .ok (.iload 4, 2) := by decide +kernel
theorem dX4_firstWith_47 : decode cX4_firstWith 47 = .ok (.iconst 1, 1) := by decide +kernel
theorem dX4_firstWith_48 : decode cX4_firstWith 48 = .ok (.iadd, 1) := by decide +kernel
theorem dX4_firstWith_49 : decode cX4_firstWith 49 = .ok (.iaload, 1) := by decide +kernel
theorem dX4_firstWith_50 : decode cX4_firstWith 50 = .ok (.if_icmp .ge 96, 3) := by decide +kernel
theorem dX4_firstWith_53 : decode cX4_firstWith 53 = .ok (.aload_n 0, 1) := by decide +kernel
theorem dX4_firstWith_54 : decode cX4_firstWith 54 = .ok (.getfield 38, 3) := by decide +kernel
theorem dX4_firstWith_57 : decode cX4_firstWith 57 = .ok (.getfield 79, 3) := by decide +kernel
theorem dX4_firstWith_60 : decode cX4_firstWith 60 = .ok (.iload 7, 2) := by decide +kernel
theorem dX4_firstWith_62 : decode cX4_firstWith 62 = .ok (.iaload, 1) := by decide +kernel
theorem dX4_firstWith_63 : decode cX4_firstWith 63 = .ok (.istore 8, 2) := by decide +kernel
theorem dX4_firstWith_65 : decode cX4_firstWith 65 = .ok (.aload_n 0, 1) := by decide +kernel
theorem dX4_firstWith_66 : decode cX4_firstWith 66 = .ok (.getfield 38, 3) := by decide +kernel
theorem dX4_firstWith_69 : decode cX4_firstWith 69 = .ok (.getfield 62, 3) := by decide +kernel
theorem dX4_firstWith_72 : decode cX4_firstWith 72 = .ok (.getfield 66, 3) := by decide +kernel
theorem dX4_firstWith_75 : decode cX4_firstWith 75 = .ok (.iconst 0, 1) := by decide +kernel
theorem dX4_firstWith_76 : decode cX4_firstWith 76 = .ok (.aaload, 1) := by decide +kernel
theorem dX4_firstWith_77 : decode cX4_firstWith 77 = .ok (.aload_n 0, 1) := by decide +kernel
theorem dX4_firstWith_78 : decode cX4_firstWith 78 = .ok (.getfield 38, 3) := by decide +kernel
theorem dX4_firstWith_81 : decode cX4_firstWith 81 = .ok (.getfield 71, 3) := by decide +kernel
theorem dX4_firstWith_84 : decode cX4_firstWith 84 = .ok (.iload 7, 2) := by decide +kernel
theorem dX4_firstWith_86 : decode cX4_firstWith 86 = .ok (.iaload, 1) := by decide +kernel
theorem dX4_firstWith_87 : decode cX4_firstWith 87 = .ok (.laload, 1) := by decide +kernel
theorem dX4_firstWith_88 : decode cX4_firstWith 88 = .ok (.lstore 9, 2) := by decide +kernel
theorem dX4_firstWith_90 : decode cX4_firstWith 90 = .ok (.aload_n 0, 1) := by decide +kernel
theorem dX4_firstWith_91 : decode cX4_firstWith 91 = .ok (.getfield 38, 3) := by decide +kernel
theorem dX4_firstWith_94 : decode cX4_firstWith 94 = .ok (.getfield 101, 3) := by decide +kernel
theorem dX4_firstWith_97 : decode cX4_firstWith 97 = .ok (.iload 8, 2) := by decide +kernel
theorem dX4_firstWith_99 : decode cX4_firstWith 99 = .ok (.laload, 1) := by decide +kernel
theorem dX4_firstWith_100 : decode cX4_firstWith 100 = .ok (.lconst 0, 1) := by decide +kernel
theorem dX4_firstWith_101 : decode cX4_firstWith 101 = .ok (.lcmp, 1) := by decide +kernel
theorem dX4_firstWith_102 : decode cX4_firstWith 102 = .ok (.ifCond .le 25, 3) := by decide +kernel
theorem dX4_firstWith_105 : decode cX4_firstWith 105 = .ok (.lload 9, 2) := by decide +kernel
theorem dX4_firstWith_107 : decode cX4_firstWith 107 = .ok (.aload_n 1, 1) := by decide +kernel
theorem dX4_firstWith_108 : decode cX4_firstWith 108 = .ok (.iload 8, 2) := by decide +kernel
theorem dX4_firstWith_110 : decode cX4_firstWith 110 = .ok (.laload, 1) := by decide +kernel
theorem dX4_firstWith_111 : decode cX4_firstWith 111 = .ok (.lmul, 1) := by decide +kernel
theorem dX4_firstWith_112 : decode cX4_firstWith 112 = .ok (.aload_n 1, 1) := by decide +kernel
theorem dX4_firstWith_113 : decode cX4_firstWith 113 = .ok (.iload 4, 2) := by decide +kernel
theorem dX4_firstWith_115 : decode cX4_firstWith 115 = .ok (.laload, 1) := by decide +kernel
theorem dX4_firstWith_116 : decode cX4_firstWith 116 = .ok (.lcmp, 1) := by decide +kernel
theorem dX4_firstWith_117 : decode cX4_firstWith 117 = .ok (.ifCond .ne 10, 3) := by decide +kernel
theorem dX4_firstWith_120 : decode cX4_firstWith 120 = .ok (.iload 8, 2) := by decide +kernel
theorem dX4_firstWith_122 : decode cX4_firstWith 122 = .ok (.istore 6, 2) := by decide +kernel
theorem dX4_firstWith_124 : decode cX4_firstWith 124 = .ok (.goto 22, 3) := by decide +kernel
theorem dX4_firstWith_127 : decode cX4_firstWith 127 = .ok (.lload_n 2, 1) := by decide +kernel
theorem dX4_firstWith_128 : decode cX4_firstWith 128 = .ok (.aload_n 0, 1) := by decide +kernel
theorem dX4_firstWith_129 : decode cX4_firstWith 129 = .ok (.getfield 38, 3) := by decide +kernel
theorem dX4_firstWith_132 : decode cX4_firstWith 132 = .ok (.getfield 101, 3) := by decide +kernel
theorem dX4_firstWith_135 : decode cX4_firstWith 135 = .ok (.iload 8, 2) := by decide +kernel
theorem dX4_firstWith_137 : decode cX4_firstWith 137 = .ok (.laload, 1) := by decide +kernel
theorem dX4_firstWith_138 : decode cX4_firstWith 138 = .ok (.ladd, 1) := by decide +kernel
theorem dX4_firstWith_139 : decode cX4_firstWith 139 = .ok (.lstore_n 2, 1) := by decide +kernel
theorem dX4_firstWith_140 : decode cX4_firstWith 140 = .ok (.iinc 7 1, 3) := by decide +kernel
theorem dX4_firstWith_143 : decode cX4_firstWith 143 = .ok (.goto (-107), 3) := by decide +kernel
theorem dX4_firstWith_146 : decode cX4_firstWith 146 = .ok (.iload 6, 2) := by decide +kernel
theorem dX4_firstWith_148 : decode cX4_firstWith 148 = .ok (.istore 4, 2) := by decide +kernel
theorem dX4_firstWith_150 : decode cX4_firstWith 150 = .ok (.iinc 5 1, 3) := by decide +kernel
theorem dX4_firstWith_153 : decode cX4_firstWith 153 = .ok (.goto (-145), 3) := by decide +kernel
theorem dX4_firstWith_156 : decode cX4_firstWith 156 = .ok (.lload_n 2, 1) := by decide +kernel
theorem dX4_firstWith_157 : decode cX4_firstWith 157 = .ok (.lreturn, 1) := by decide +kernel
theorem dX4_start_0 : decode cX4_start 0 = .ok (.iload_n 0, 1) := by decide +kernel
theorem dX4_start_1 : decode cX4_start 1 = .ok (.ifCond .ne 7, 3) := by decide +kernel
theorem dX4_start_4 : decode cX4_start 4 = .ok (.lconst 1, 1) := by decide +kernel
theorem dX4_start_5 : decode cX4_start 5 = .ok (.goto 4, 3) := by decide +kernel
theorem dX4_start_8 : decode cX4_start 8 = .ok (.lconst 0, 1) := by decide +kernel
theorem dX4_start_9 : decode cX4_start 9 = .ok (.lreturn, 1) := by decide +kernel
theorem dX4_join_0 : decode cX4_join 0 = .ok (.iload_n 0, 1) := by decide +kernel
theorem dX4_join_1 : decode cX4_join 1 = .ok (.lookupswitch 37 #[(0, 27), (3, 31)], 27) := by decide +kernel
theorem dX4_join_28 : decode cX4_join 28 = .ok (.lload_n 1, 1) := by decide +kernel
theorem dX4_join_29 : decode cX4_join 29 = .ok (.lload_n 3, 1) := by decide +kernel
theorem dX4_join_30 : decode cX4_join 30 = .ok (.lmul, 1) := by decide +kernel
theorem dX4_join_31 : decode cX4_join 31 = .ok (.lreturn, 1) := by decide +kernel
theorem dX4_join_32 : decode cX4_join 32 = .ok (.lload_n 1, 1) := by decide +kernel
theorem dX4_join_33 : decode cX4_join 33 = .ok (.lload_n 3, 1) := by decide +kernel
theorem dX4_join_34 : decode cX4_join 34 = .ok (.invokestatic 104, 3) := by decide +kernel
theorem dX4_join_37 : decode cX4_join 37 = .ok (.lreturn, 1) := by decide +kernel
theorem dX4_join_38 : decode cX4_join 38 = .ok (.lload_n 1, 1) := by decide +kernel
theorem dX4_join_39 : decode cX4_join 39 = .ok (.lload_n 3, 1) := by decide +kernel
theorem dX4_join_40 : decode cX4_join 40 = .ok (.ladd, 1) := by decide +kernel
theorem dX4_join_41 : decode cX4_join 41 = .ok (.lreturn, 1) := by decide +kernel
theorem dX4_bound_0 : decode cX4_bound 0 = .ok (.aload_n 0, 1) := by decide +kernel
theorem dX4_bound_1 : decode cX4_bound 1 = .ok (.getfield 21, 3) := by decide +kernel
theorem dX4_bound_4 : decode cX4_bound 4 = .ok (.iload_n 1, 1) := by decide +kernel
theorem dX4_bound_5 : decode cX4_bound 5 = .ok (.baload, 1) := by decide +kernel
theorem dX4_bound_6 : decode cX4_bound 6 = .ok (.ifCond .eq 4, 3) := by decide +kernel
theorem dX4_bound_9 : decode cX4_bound 9 = .ok (.return_, 1) := by decide +kernel
theorem dX4_bound_10 : decode cX4_bound 10 = .ok (.aload_n 0, 1) := by decide +kernel
theorem dX4_bound_11 : decode cX4_bound 11 = .ok (.getfield 21, 3) := by decide +kernel
theorem dX4_bound_14 : decode cX4_bound 14 = .ok (.iload_n 1, 1) := by decide +kernel
theorem dX4_bound_15 : decode cX4_bound 15 = .ok (.iconst 1, 1) := by decide +kernel
theorem dX4_bound_16 : decode cX4_bound 16 = .ok (.bastore, 1) := by decide +kernel
theorem dX4_bound_17 : decode cX4_bound 17 = .ok (.aload_n 0, 1) := by decide +kernel
theorem dX4_bound_18 : decode cX4_bound 18 = .ok (.getfield 38, 3) := by decide +kernel
theorem dX4_bound_21 : decode cX4_bound 21 = .ok (.getfield 110, 3) := by decide +kernel
theorem dX4_bound_24 : decode cX4_bound 24 = .ok (.iconst 1, 1) := by decide +kernel
theorem dX4_bound_25 : decode cX4_bound 25 = .ok (.isub, 1) := by decide +kernel
theorem dX4_bound_26 : decode cX4_bound 26 = .ok (.istore_n 2, 1) := by decide +kernel
theorem dX4_bound_27 : decode cX4_bound 27 = .ok (.iload_n 2, 1) := by decide +kernel
theorem dX4_bound_28 : decode cX4_bound 28 = .ok (.ifCond .lt 61, 3) := by decide +kernel
theorem dX4_bound_31 : decode cX4_bound 31 = .ok (.iload_n 2, 1) := by decide +kernel
theorem dX4_bound_32 : decode cX4_bound 32 = .ok (.aload_n 0, 1) := by decide +kernel
theorem dX4_bound_33 : decode cX4_bound 33 = .ok (.getfield 38, 3) := by decide +kernel
theorem dX4_bound_36 : decode cX4_bound 36 = .ok (.getfield 113, 3) := by decide +kernel
theorem dX4_bound_39 : decode cX4_bound 39 = .ok (.aload_n 0, 1) := by decide +kernel
theorem dX4_bound_40 : decode cX4_bound 40 = .ok (.getfield 38, 3) := by decide +kernel
theorem dX4_bound_43 : decode cX4_bound 43 = .ok (.getfield 46, 3) := by decide +kernel
theorem dX4_bound_46 : decode cX4_bound 46 = .ok (.iaload, 1) := by decide +kernel
theorem dX4_bound_47 : decode cX4_bound 47 = .ok (.if_icmp .lt 30, 3) := by decide +kernel
theorem dX4_bound_50 : decode cX4_bound 50 = .ok (.aload_n 0, 1) := by decide +kernel
theorem dX4_bound_51 : decode cX4_bound 51 = .ok (.getfield 13, 3) := by decide +kernel
theorem dX4_bound_54 : decode cX4_bound 54 = .ok (.iload_n 1, 1) := by decide +kernel
theorem dX4_bound_55 : decode cX4_bound 55 = .ok (.aaload, 1) := by decide +kernel
theorem dX4_bound_56 : decode cX4_bound 56 = .ok (.iload_n 2, 1) := by decide +kernel
theorem dX4_bound_57 : decode cX4_bound 57 = .ok (.iload_n 1, 1) := by decide +kernel
theorem dX4_bound_58 : decode cX4_bound 58 = .ok (.invokestatic 42, 3) := by decide +kernel
theorem dX4_bound_61 : decode cX4_bound 61 = .ok (.lastore, 1) := by decide +kernel
theorem dX4_bound_62 : decode cX4_bound 62 = .ok (.aload_n 0, 1) := by decide +kernel
theorem dX4_bound_63 : decode cX4_bound 63 = .ok (.getfield 18, 3) := by decide +kernel
theorem dX4_bound_66 : decode cX4_bound 66 = .ok (.iload_n 1, 1) := by decide +kernel
theorem dX4_bound_67 : decode cX4_bound 67 = .ok (.aaload, 1) := by decide +kernel
theorem dX4_bound_68 : decode cX4_bound 68 = .ok (.iload_n 2, 1) := by decide +kernel
theorem dX4_bound_69 : decode cX4_bound 69 = .ok (.iload_n 1, 1) := by decide +kernel
theorem dX4_bound_70 : decode cX4_bound 70 = .ok (.invokestatic 42, 3) := by decide +kernel
theorem dX4_bound_73 : decode cX4_bound 73 = .ok (.lastore, 1) := by decide +kernel
theorem dX4_bound_74 : decode cX4_bound 74 = .ok (.goto 9, 3) := by decide +kernel
theorem dX4_bound_77 : decode cX4_bound 77 = .ok (.aload_n 0, 1) := by decide +kernel
theorem dX4_bound_78 : decode cX4_bound 78 = .ok (.iload_n 1, 1) := by decide +kernel
theorem dX4_bound_79 : decode cX4_bound 79 = .ok (.iload_n 2, 1) := by decide +kernel
theorem dX4_bound_80 : decode cX4_bound 80 = .ok (.invokevirtual 116, 3) := by decide +kernel
theorem dX4_bound_83 : decode cX4_bound 83 = .ok (.iinc 2 (-1), 3) := by decide +kernel
theorem dX4_bound_86 : decode cX4_bound 86 = .ok (.goto (-59), 3) := by decide +kernel
theorem dX4_bound_89 : decode cX4_bound 89 = .ok (.return_, 1) := by decide +kernel
theorem dX4_boundNode_0 : decode cX4_boundNode 0 = .ok (.iconst 1, 1) := by decide +kernel
theorem dX4_boundNode_1 : decode cX4_boundNode 1 = .ok (.istore_n 3, 1) := by decide +kernel
theorem dX4_boundNode_2 : decode cX4_boundNode 2 = .ok (.aload_n 0, 1) := by decide +kernel
theorem dX4_boundNode_3 : decode cX4_boundNode 3 = .ok (.getfield 38, 3) := by decide +kernel
theorem dX4_boundNode_6 : decode cX4_boundNode 6 = .ok (.getfield 98, 3) := by decide +kernel
theorem dX4_boundNode_9 : decode cX4_boundNode 9 = .ok (.iload_n 2, 1) := by decide +kernel
theorem dX4_boundNode_10 : decode cX4_boundNode 10 = .ok (.iaload, 1) := by decide +kernel
theorem dX4_boundNode_11 : decode cX4_boundNode 11 = .ok (.istore 4, 2) := by decide +kernel
theorem dX4_boundNode_13 : decode cX4_boundNode 13 = .ok (.iload 4, 2) := by decide +kernel
theorem dX4_boundNode_15 : decode cX4_boundNode 15 = .ok (.aload_n 0, 1) := by decide +kernel
theorem dX4_boundNode_16 : decode cX4_boundNode 16 = .ok (.getfield 38, 3) := by decide +kernel
theorem dX4_boundNode_19 : decode cX4_boundNode 19 = .ok (.getfield 98, 3) := by decide +kernel
theorem dX4_boundNode_22 : decode cX4_boundNode 22 = .ok (.iload_n 2, 1) := by decide +kernel
theorem dX4_boundNode_23 : decode cX4_boundNode 23 = .ok (.iconst 1, 1) := by decide +kernel
theorem dX4_boundNode_24 : decode cX4_boundNode 24 = .ok (.iadd, 1) := by decide +kernel
theorem dX4_boundNode_25 : decode cX4_boundNode 25 = .ok (.iaload, 1) := by decide +kernel
theorem dX4_boundNode_26 : decode cX4_boundNode 26 = .ok (.if_icmp .ge 157, 3) := by decide +kernel
theorem dX4_boundNode_29 : decode cX4_boundNode 29 = .ok (.aload_n 0, 1) := by decide +kernel
theorem dX4_boundNode_30 : decode cX4_boundNode 30 = .ok (.getfield 38, 3) := by decide +kernel
theorem dX4_boundNode_33 : decode cX4_boundNode 33 = .ok (.getfield 79, 3) := by decide +kernel
theorem dX4_boundNode_36 : decode cX4_boundNode 36 = .ok (.iload 4, 2) := by decide +kernel
theorem dX4_boundNode_38 : decode cX4_boundNode 38 = .ok (.iaload, 1) := by decide +kernel
theorem dX4_boundNode_39 : decode cX4_boundNode 39 = .ok (.istore 5, 2) := by decide +kernel
theorem dX4_boundNode_41 : decode cX4_boundNode 41 = .ok (.aload_n 0, 1) := by decide +kernel
theorem dX4_boundNode_42 : decode cX4_boundNode 42 = .ok (.getfield 38, 3) := by decide +kernel
theorem dX4_boundNode_45 : decode cX4_boundNode 45 = .ok (.getfield 101, 3) := by decide +kernel
theorem dX4_boundNode_48 : decode cX4_boundNode 48 = .ok (.iload 5, 2) := by decide +kernel
theorem dX4_boundNode_50 : decode cX4_boundNode 50 = .ok (.laload, 1) := by decide +kernel
theorem dX4_boundNode_51 : decode cX4_boundNode 51 = .ok (.lconst 0, 1) := by decide +kernel
theorem dX4_boundNode_52 : decode cX4_boundNode 52 = .ok (.lcmp, 1) := by decide +kernel
theorem dX4_boundNode_53 : decode cX4_boundNode 53 = .ok (.ifCond .le 124, 3) := by decide +kernel
theorem dX4_boundNode_56 : decode cX4_boundNode 56 = .ok (.aload_n 0, 1) := by decide +kernel
theorem dX4_boundNode_57 : decode cX4_boundNode 57 = .ok (.getfield 38, 3) := by decide +kernel
theorem dX4_boundNode_60 : decode cX4_boundNode 60 = .ok (.getfield 62, 3) := by decide +kernel
theorem dX4_boundNode_63 : decode cX4_boundNode 63 = .ok (.getfield 66, 3) := by decide +kernel
theorem dX4_boundNode_66 : decode cX4_boundNode 66 = .ok (.iload_n 1, 1) := by decide +kernel
theorem dX4_boundNode_67 : decode cX4_boundNode 67 = .ok (.aaload, 1) := by decide +kernel
theorem dX4_boundNode_68 : decode cX4_boundNode 68 = .ok (.aload_n 0, 1) := by decide +kernel
theorem dX4_boundNode_69 : decode cX4_boundNode 69 = .ok (.getfield 38, 3) := by decide +kernel
theorem dX4_boundNode_72 : decode cX4_boundNode 72 = .ok (.getfield 71, 3) := by decide +kernel
theorem dX4_boundNode_75 : decode cX4_boundNode 75 = .ok (.iload 4, 2) := by decide +kernel
theorem dX4_boundNode_77 : decode cX4_boundNode 77 = .ok (.iaload, 1) := by decide +kernel
theorem dX4_boundNode_78 : decode cX4_boundNode 78 = .ok (.laload, 1) := by decide +kernel
theorem dX4_boundNode_79 : decode cX4_boundNode 79 = .ok (.lstore 6, 2) := by decide +kernel
theorem dX4_boundNode_81 : decode cX4_boundNode 81 = .ok (.iload_n 1, 1) := by decide +kernel
theorem dX4_boundNode_82 : decode cX4_boundNode 82 = .ok (.lload 6, 2) := by decide +kernel
theorem dX4_boundNode_84 : decode cX4_boundNode 84 = .ok (.aload_n 0, 1) := by decide +kernel
theorem dX4_boundNode_85 : decode cX4_boundNode 85 = .ok (.getfield 13, 3) := by decide +kernel
theorem dX4_boundNode_88 : decode cX4_boundNode 88 = .ok (.iload_n 1, 1) := by decide +kernel
theorem dX4_boundNode_89 : decode cX4_boundNode 89 = .ok (.aaload, 1) := by decide +kernel
theorem dX4_boundNode_90 : decode cX4_boundNode 90 = .ok (.iload 5, 2) := by decide +kernel
theorem dX4_boundNode_92 : decode cX4_boundNode 92 = .ok (.laload, 1) := by decide +kernel
theorem dX4_boundNode_93 : decode cX4_boundNode 93 = .ok (.invokestatic 75, 3) := by decide +kernel
theorem dX4_boundNode_96 : decode cX4_boundNode 96 = .ok (.lstore 8, 2) := by decide +kernel
theorem dX4_boundNode_98 : decode cX4_boundNode 98 = .ok (.iload_n 1, 1) := by decide +kernel
theorem dX4_boundNode_99 : decode cX4_boundNode 99 = .ok (.lload 6, 2) := by decide +kernel
theorem dX4_boundNode_101 : decode cX4_boundNode 101 = .ok (.aload_n 0, 1) := by decide +kernel
theorem dX4_boundNode_102 : decode cX4_boundNode 102 = .ok (.getfield 18, 3) := by decide +kernel
theorem dX4_boundNode_105 : decode cX4_boundNode 105 = .ok (.iload_n 1, 1) := by decide +kernel
theorem dX4_boundNode_106 : decode cX4_boundNode 106 = .ok (.aaload, 1) := by decide +kernel
theorem dX4_boundNode_107 : decode cX4_boundNode 107 = .ok (.iload 5, 2) := by decide +kernel
theorem dX4_boundNode_109 : decode cX4_boundNode 109 = .ok (.laload, 1) := by decide +kernel
theorem dX4_boundNode_110 : decode cX4_boundNode 110 = .ok (.invokestatic 75, 3) := by decide +kernel
theorem dX4_boundNode_113 : decode cX4_boundNode 113 = .ok (.lstore 10, 2) := by decide +kernel
theorem dX4_boundNode_115 : decode cX4_boundNode 115 = .ok (.aload_n 0, 1) := by decide +kernel
theorem dX4_boundNode_116 : decode cX4_boundNode 116 = .ok (.getfield 13, 3) := by decide +kernel
theorem dX4_boundNode_119 : decode cX4_boundNode 119 = .ok (.iload_n 1, 1) := by decide +kernel
theorem dX4_boundNode_120 : decode cX4_boundNode 120 = .ok (.aaload, 1) := by decide +kernel
theorem dX4_boundNode_121 : decode cX4_boundNode 121 = .ok (.iload_n 2, 1) := by decide +kernel
theorem dX4_boundNode_122 : decode cX4_boundNode 122 = .ok (.iload_n 3, 1) := by decide +kernel
theorem dX4_boundNode_123 : decode cX4_boundNode 123 = .ok (.ifCond .eq 8, 3) := by decide +kernel
theorem dX4_boundNode_126 : decode cX4_boundNode 126 = .ok (.lload 8, 2) := by decide +kernel
theorem dX4_boundNode_128 : decode cX4_boundNode 128 = .ok (.goto 16, 3) := by decide +kernel
theorem dX4_boundNode_131 : decode cX4_boundNode 131 = .ok (.aload_n 0, 1) := by decide +kernel
theorem dX4_boundNode_132 : decode cX4_boundNode 132 = .ok (.getfield 13, 3) := by decide +kernel
theorem dX4_boundNode_135 : decode cX4_boundNode 135 = .ok (.iload_n 1, 1) := by decide +kernel
theorem dX4_boundNode_136 : decode cX4_boundNode 136 = .ok (.aaload, 1) := by decide +kernel
theorem dX4_boundNode_137 : decode cX4_boundNode 137 = .ok (.iload_n 2, 1) := by decide +kernel
theorem dX4_boundNode_138 : decode cX4_boundNode 138 = .ok (.laload, 1) := by decide +kernel
theorem dX4_boundNode_139 : decode cX4_boundNode 139 = .ok (.lload 8, 2) := by decide +kernel
theorem dX4_boundNode_141 : decode cX4_boundNode 141 = .ok (.invokestatic 120, 3) := by decide +kernel
theorem dX4_boundNode_144 : decode cX4_boundNode 144 = .ok (.lastore, 1) := by decide +kernel
theorem dX4_boundNode_145 : decode cX4_boundNode 145 = .ok (.aload_n 0, 1) := by decide +kernel
theorem dX4_boundNode_146 : decode cX4_boundNode 146 = .ok (.getfield 18, 3) := by decide +kernel
theorem dX4_boundNode_149 : decode cX4_boundNode 149 = .ok (.iload_n 1, 1) := by decide +kernel
theorem dX4_boundNode_150 : decode cX4_boundNode 150 = .ok (.aaload, 1) := by decide +kernel
theorem dX4_boundNode_151 : decode cX4_boundNode 151 = .ok (.iload_n 2, 1) := by decide +kernel
theorem dX4_boundNode_152 : decode cX4_boundNode 152 = .ok (.iload_n 3, 1) := by decide +kernel
theorem dX4_boundNode_153 : decode cX4_boundNode 153 = .ok (.ifCond .eq 8, 3) := by decide +kernel
theorem dX4_boundNode_156 : decode cX4_boundNode 156 = .ok (.lload 10, 2) := by decide +kernel
theorem dX4_boundNode_158 : decode cX4_boundNode 158 = .ok (.goto 16, 3) := by decide +kernel
theorem dX4_boundNode_161 : decode cX4_boundNode 161 = .ok (.aload_n 0, 1) := by decide +kernel
theorem dX4_boundNode_162 : decode cX4_boundNode 162 = .ok (.getfield 18, 3) := by decide +kernel
theorem dX4_boundNode_165 : decode cX4_boundNode 165 = .ok (.iload_n 1, 1) := by decide +kernel
theorem dX4_boundNode_166 : decode cX4_boundNode 166 = .ok (.aaload, 1) := by decide +kernel
theorem dX4_boundNode_167 : decode cX4_boundNode 167 = .ok (.iload_n 2, 1) := by decide +kernel
theorem dX4_boundNode_168 : decode cX4_boundNode 168 = .ok (.laload, 1) := by decide +kernel
theorem dX4_boundNode_169 : decode cX4_boundNode 169 = .ok (.lload 10, 2) := by decide +kernel
theorem dX4_boundNode_171 : decode cX4_boundNode 171 = .ok (.invokestatic 104, 3) := by decide +kernel
theorem dX4_boundNode_174 : decode cX4_boundNode 174 = .ok (.lastore, 1) := by decide +kernel
theorem dX4_boundNode_175 : decode cX4_boundNode 175 = .ok (.iconst 0, 1) := by decide +kernel
theorem dX4_boundNode_176 : decode cX4_boundNode 176 = .ok (.istore_n 3, 1) := by decide +kernel
theorem dX4_boundNode_177 : decode cX4_boundNode 177 = .ok (.iinc 4 1, 3) := by decide +kernel
theorem dX4_boundNode_180 : decode cX4_boundNode 180 = .ok (.goto (-167), 3) := by decide +kernel
theorem dX4_boundNode_183 : decode cX4_boundNode 183 = .ok (.return_, 1) := by decide +kernel
theorem dX4_gatherAll_0 : decode cX4_gatherAll 0 = .ok (.aload_n 0, 1) := by decide +kernel
theorem dX4_gatherAll_1 : decode cX4_gatherAll 1 = .ok (.getfield 25, 3) := by decide +kernel
theorem dX4_gatherAll_4 : decode cX4_gatherAll 4 = .ok (.iload_n 1, 1) := by decide +kernel
theorem dX4_gatherAll_5 : decode cX4_gatherAll 5 = .ok (.baload, 1) := by decide +kernel
theorem dX4_gatherAll_6 : decode cX4_gatherAll 6 = .ok (.ifCond .eq 15, 3) := by decide +kernel
theorem dX4_gatherAll_9 : decode cX4_gatherAll 9 = .ok (.aload_n 0, 1) := by decide +kernel
theorem dX4_gatherAll_10 : decode cX4_gatherAll 10 = .ok (.getfield 28, 3) := by decide +kernel
theorem dX4_gatherAll_13 : decode cX4_gatherAll 13 = .ok (.iload_n 1, 1) := by decide +kernel
theorem dX4_gatherAll_14 : decode cX4_gatherAll 14 = .ok (.laload, 1) := by decide +kernel
theorem dX4_gatherAll_15 : decode cX4_gatherAll 15 = .ok (.lload_n 2, 1) := by decide +kernel
theorem dX4_gatherAll_16 : decode cX4_gatherAll 16 = .ok (.lcmp, 1) := by decide +kernel
theorem dX4_gatherAll_17 : decode cX4_gatherAll 17 = .ok (.ifCond .ne 4, 3) := by decide +kernel
theorem dX4_gatherAll_20 : decode cX4_gatherAll 20 = .ok (.return_, 1) := by decide +kernel
theorem dX4_gatherAll_21 : decode cX4_gatherAll 21 = .ok (.aload_n 0, 1) := by decide +kernel
theorem dX4_gatherAll_22 : decode cX4_gatherAll 22 = .ok (.iload_n 1, 1) := by decide +kernel
theorem dX4_gatherAll_23 : decode cX4_gatherAll 23 = .ok (.invokevirtual 90, 3) := by decide +kernel
theorem dX4_gatherAll_26 : decode cX4_gatherAll 26 = .ok (.aload_n 0, 1) := by decide +kernel
theorem dX4_gatherAll_27 : decode cX4_gatherAll 27 = .ok (.getfield 25, 3) := by decide +kernel
theorem dX4_gatherAll_30 : decode cX4_gatherAll 30 = .ok (.iload_n 1, 1) := by decide +kernel
theorem dX4_gatherAll_31 : decode cX4_gatherAll 31 = .ok (.iconst 1, 1) := by decide +kernel
theorem dX4_gatherAll_32 : decode cX4_gatherAll 32 = .ok (.bastore, 1) := by decide +kernel
theorem dX4_gatherAll_33 : decode cX4_gatherAll 33 = .ok (.aload_n 0, 1) := by decide +kernel
theorem dX4_gatherAll_34 : decode cX4_gatherAll 34 = .ok (.getfield 28, 3) := by decide +kernel
theorem dX4_gatherAll_37 : decode cX4_gatherAll 37 = .ok (.iload_n 1, 1) := by decide +kernel
theorem dX4_gatherAll_38 : decode cX4_gatherAll 38 = .ok (.lload_n 2, 1) := by decide +kernel
theorem dX4_gatherAll_39 : decode cX4_gatherAll 39 = .ok (.lastore, 1) := by decide +kernel
theorem dX4_gatherAll_40 : decode cX4_gatherAll 40 = .ok (.aload_n 0, 1) := by decide +kernel
theorem dX4_gatherAll_41 : decode cX4_gatherAll 41 = .ok (.getfield 32, 3) := by decide +kernel
theorem dX4_gatherAll_44 : decode cX4_gatherAll 44 = .ok (.iload_n 1, 1) := by decide +kernel
theorem dX4_gatherAll_45 : decode cX4_gatherAll 45 = .ok (.lconst 0, 1) := by decide +kernel
theorem dX4_gatherAll_46 : decode cX4_gatherAll 46 = .ok (.lastore, 1) := by decide +kernel
theorem dX4_gatherAll_47 : decode cX4_gatherAll 47 = .ok (.aload_n 0, 1) := by decide +kernel
theorem dX4_gatherAll_48 : decode cX4_gatherAll 48 = .ok (.getfield 35, 3) := by decide +kernel
theorem dX4_gatherAll_51 : decode cX4_gatherAll 51 = .ok (.iload_n 1, 1) := by decide +kernel
theorem dX4_gatherAll_52 : decode cX4_gatherAll 52 = .ok (.lconst 0, 1) := by decide +kernel
theorem dX4_gatherAll_53 : decode cX4_gatherAll 53 = .ok (.lastore, 1) := by decide +kernel
theorem dX4_gatherAll_54 : decode cX4_gatherAll 54 = .ok (.aload_n 0, 1) := by decide +kernel
theorem dX4_gatherAll_55 : decode cX4_gatherAll 55 = .ok (.iload_n 1, 1) := by decide +kernel
theorem dX4_gatherAll_56 : decode cX4_gatherAll 56 = .ok (.iconst 0, 1) := by decide +kernel
theorem dX4_gatherAll_57 : decode cX4_gatherAll 57 = .ok (.iconst 0, 1) := by decide +kernel
theorem dX4_gatherAll_58 : decode cX4_gatherAll 58 = .ok (.iload_n 1, 1) := by decide +kernel
theorem dX4_gatherAll_59 : decode cX4_gatherAll 59 = .ok (.invokestatic 42, 3) := by decide +kernel
theorem dX4_gatherAll_62 : decode cX4_gatherAll 62 = .ok (.lconst 1, 1) := by decide +kernel
theorem dX4_gatherAll_63 : decode cX4_gatherAll 63 = .ok (.invokestatic 123, 3) := by decide +kernel
theorem dX4_gatherAll_66 : decode cX4_gatherAll 66 = .ok (.return_, 1) := by decide +kernel
theorem dX4_gather_0 : decode cX4_gather 0 = .ok (.aload_n 0, 1) := by decide +kernel
theorem dX4_gather_1 : decode cX4_gather 1 = .ok (.getfield 38, 3) := by decide +kernel
theorem dX4_gather_4 : decode cX4_gather 4 = .ok (.astore 8, 2) := by decide +kernel
theorem dX4_gather_6 : decode cX4_gather 6 = .ok (.aload_n 0, 1) := by decide +kernel
theorem dX4_gather_7 : decode cX4_gather 7 = .ok (.getfield 28, 3) := by decide +kernel
theorem dX4_gather_10 : decode cX4_gather 10 = .ok (.iload_n 1, 1) := by decide +kernel
theorem dX4_gather_11 : decode cX4_gather 11 = .ok (.laload, 1) := by decide +kernel
theorem dX4_gather_12 : decode cX4_gather 12 = .ok (.lstore 9, 2) := by decide +kernel
theorem dX4_gather_14 : decode cX4_gather 14 = .ok (.iload_n 1, 1) := by decide +kernel
theorem dX4_gather_15 : decode cX4_gather 15 = .ok (.lload 4, 2) := by decide +kernel
theorem dX4_gather_17 : decode cX4_gather 17 = .ok (.aload_n 0, 1) := by decide +kernel
theorem dX4_gather_18 : decode cX4_gather 18 = .ok (.getfield 13, 3) := by decide +kernel
theorem dX4_gather_21 : decode cX4_gather 21 = .ok (.iload_n 1, 1) := by decide +kernel
theorem dX4_gather_22 : decode cX4_gather 22 = .ok (.aaload, 1) := by decide +kernel
theorem dX4_gather_23 : decode cX4_gather 23 = .ok (.iload_n 2, 1) := by decide +kernel
theorem dX4_gather_24 : decode cX4_gather 24 = .ok (.laload, 1) := by decide +kernel
theorem dX4_gather_25 : decode cX4_gather 25 = .ok (.invokestatic 75, 3) := by decide +kernel
theorem dX4_gather_28 : decode cX4_gather 28 = .ok (.lstore 11, 2) := by decide +kernel
theorem dX4_gather_30 : decode cX4_gather 30 = .ok (.iload_n 1, 1) := by decide +kernel
theorem dX4_gather_31 : decode cX4_gather 31 = .ok (.lload 4, 2) := by decide +kernel
theorem dX4_gather_33 : decode cX4_gather 33 = .ok (.aload_n 0, 1) := by decide +kernel
theorem dX4_gather_34 : decode cX4_gather 34 = .ok (.getfield 18, 3) := by decide +kernel
theorem dX4_gather_37 : decode cX4_gather 37 = .ok (.iload_n 1, 1) := by decide +kernel
theorem dX4_gather_38 : decode cX4_gather 38 = .ok (.aaload, 1) := by decide +kernel
theorem dX4_gather_39 : decode cX4_gather 39 = .ok (.iload_n 2, 1) := by decide +kernel
theorem dX4_gather_40 : decode cX4_gather 40 = .ok (.laload, 1) := by decide +kernel
theorem dX4_gather_41 : decode cX4_gather 41 = .ok (.invokestatic 75, 3) := by decide +kernel
theorem dX4_gather_44 : decode cX4_gather 44 = .ok (.lstore 13, 2) := by decide +kernel
theorem dX4_gather_46 : decode cX4_gather 46 = .ok (.iload_n 1, 1) := by decide +kernel
theorem dX4_gather_47 : decode cX4_gather 47 = .ok (.ifCond .ne 19, 3) := by decide +kernel
theorem dX4_gather_50 : decode cX4_gather 50 = .ok (.lload 13, 2) := by decide +kernel
theorem dX4_gather_52 : decode cX4_gather 52 = .ok (.lload 9, 2) := by decide +kernel
theorem dX4_gather_54 : decode cX4_gather 54 = .ok (.lcmp, 1) := by decide +kernel
theorem dX4_gather_55 : decode cX4_gather 55 = .ok (.ifCond .gt 7, 3) := by decide +kernel
theorem dX4_gather_58 : decode cX4_gather 58 = .ok (.iconst 1, 1) := by decide +kernel
theorem dX4_gather_59 : decode cX4_gather 59 = .ok (.goto 20, 3) := by decide +kernel
theorem dX4_gather_62 : decode cX4_gather 62 = .ok (.iconst 0, 1) := by decide +kernel
theorem dX4_gather_63 : decode cX4_gather 63 = .ok (.goto 16, 3) := by decide +kernel
theorem dX4_gather_66 : decode cX4_gather 66 = .ok (.lload 11, 2) := by decide +kernel
theorem dX4_gather_68 : decode cX4_gather 68 = .ok (.lload 9, 2) := by decide +kernel
theorem dX4_gather_70 : decode cX4_gather 70 = .ok (.lcmp, 1) := by decide +kernel
theorem dX4_gather_71 : decode cX4_gather 71 = .ok (.ifCond .lt 7, 3) := by decide +kernel
theorem dX4_gather_74 : decode cX4_gather 74 = .ok (.iconst 1, 1) := by decide +kernel
theorem dX4_gather_75 : decode cX4_gather 75 = .ok (.goto 4, 3) := by decide +kernel
theorem dX4_gather_78 : decode cX4_gather 78 = .ok (.iconst 0, 1) := by decide +kernel
theorem dX4_gather_79 : decode cX4_gather 79 = .ok (.istore 15, 2) := by decide +kernel
theorem dX4_gather_81 : decode cX4_gather 81 = .ok (.iload_n 1, 1) := by decide +kernel
theorem dX4_gather_82 : decode cX4_gather 82 = .ok (.ifCond .ne 19, 3) := by decide +kernel
theorem dX4_gather_85 : decode cX4_gather 85 = .ok (.lload 11, 2) := by decide +kernel
theorem dX4_gather_87 : decode cX4_gather 87 = .ok (.lload 9, 2) := by decide +kernel
theorem dX4_gather_89 : decode cX4_gather 89 = .ok (.lcmp, 1) := by decide +kernel
theorem dX4_gather_90 : decode cX4_gather 90 = .ok (.ifCond .gt 7, 3) := by decide +kernel
theorem dX4_gather_93 : decode cX4_gather 93 = .ok (.iconst 1, 1) := by decide +kernel
theorem dX4_gather_94 : decode cX4_gather 94 = .ok (.goto 20, 3) := by decide +kernel
theorem dX4_gather_97 : decode cX4_gather 97 = .ok (.iconst 0, 1) := by decide +kernel
theorem dX4_gather_98 : decode cX4_gather 98 = .ok (.goto 16, 3) := by decide +kernel
theorem dX4_gather_101 : decode cX4_gather 101 = .ok (.lload 13, 2) := by decide +kernel
theorem dX4_gather_103 : decode cX4_gather 103 = .ok (.lload 9, 2) := by decide +kernel
theorem dX4_gather_105 : decode cX4_gather 105 = .ok (.lcmp, 1) := by decide +kernel
theorem dX4_gather_106 : decode cX4_gather 106 = .ok (.ifCond .lt 7, 3) := by decide +kernel
theorem dX4_gather_109 : decode cX4_gather 109 = .ok (.iconst 1, 1) := by decide +kernel
theorem dX4_gather_110 : decode cX4_gather 110 = .ok (.goto 4, 3) := by decide +kernel
theorem dX4_gather_113 : decode cX4_gather 113 = .ok (.iconst 0, 1) := by decide +kernel
theorem dX4_gather_114 : decode cX4_gather 114 = .ok (.istore 16, 2) := by decide +kernel
theorem dX4_gather_116 : decode cX4_gather 116 = .ok (.iload 15, 2) := by decide +kernel
theorem dX4_gather_118 : decode cX4_gather 118 = .ok (.ifCond .eq 38, 3) := by decide +kernel
theorem dX4_gather_121 : decode cX4_gather 121 = .ok (.aload_n 0, 1) := by decide +kernel
theorem dX4_gather_122 : decode cX4_gather 122 = .ok (.getfield 32, 3) := by decide +kernel
theorem dX4_gather_125 : decode cX4_gather 125 = .ok (.iload_n 1, 1) := by decide +kernel
theorem dX4_gather_126 : decode cX4_gather 126 = .ok (.dup2, 1) := by decide +kernel
theorem dX4_gather_127 : decode cX4_gather 127 = .ok (.laload, 1) := by decide +kernel
theorem dX4_gather_128 : decode cX4_gather 128 = .ok (.aload 8, 2) := by decide +kernel
theorem dX4_gather_130 : decode cX4_gather 130 = .ok (.getfield 101, 3) := by decide +kernel
theorem dX4_gather_133 : decode cX4_gather 133 = .ok (.iload_n 2, 1) := by decide +kernel
theorem dX4_gather_134 : decode cX4_gather 134 = .ok (.laload, 1) := by decide +kernel
theorem dX4_gather_135 : decode cX4_gather 135 = .ok (.ladd, 1) := by decide +kernel
theorem dX4_gather_136 : decode cX4_gather 136 = .ok (.lastore, 1) := by decide +kernel
theorem dX4_gather_137 : decode cX4_gather 137 = .ok (.aload_n 0, 1) := by decide +kernel
theorem dX4_gather_138 : decode cX4_gather 138 = .ok (.getfield 35, 3) := by decide +kernel
theorem dX4_gather_141 : decode cX4_gather 141 = .ok (.iload_n 1, 1) := by decide +kernel
theorem dX4_gather_142 : decode cX4_gather 142 = .ok (.dup2, 1) := by decide +kernel
theorem dX4_gather_143 : decode cX4_gather 143 = .ok (.laload, 1) := by decide +kernel
theorem dX4_gather_144 : decode cX4_gather 144 = .ok (.lload 6, 2) := by decide +kernel
theorem dX4_gather_146 : decode cX4_gather 146 = .ok (.aload 8, 2) := by decide +kernel
theorem dX4_gather_148 : decode cX4_gather 148 = .ok (.getfield 127, 3) := by decide +kernel
theorem dX4_gather_151 : decode cX4_gather 151 = .ok (.iload_n 2, 1) := by decide +kernel
theorem dX4_gather_152 : decode cX4_gather 152 = .ok (.laload, 1) := by decide +kernel
theorem dX4_gather_153 : decode cX4_gather 153 = .ok (.lmul, 1) := by decide +kernel
theorem dX4_gather_154 : decode cX4_gather 154 = .ok (.ladd, 1) := by decide +kernel
theorem dX4_gather_155 : decode cX4_gather 155 = .ok (.lastore, 1) := by decide +kernel
theorem dX4_gather_156 : decode cX4_gather 156 = .ok (.iload 15, 2) := by decide +kernel
theorem dX4_gather_158 : decode cX4_gather 158 = .ok (.ifCond .ne 17, 3) := by decide +kernel
theorem dX4_gather_161 : decode cX4_gather 161 = .ok (.iload 16, 2) := by decide +kernel
theorem dX4_gather_163 : decode cX4_gather 163 = .ok (.ifCond .eq 12, 3) := by decide +kernel
theorem dX4_gather_166 : decode cX4_gather 166 = .ok (.iload_n 3, 1) := by decide +kernel
theorem dX4_gather_167 : decode cX4_gather 167 = .ok (.aload 8, 2) := by decide +kernel
theorem dX4_gather_169 : decode cX4_gather 169 = .ok (.getfield 46, 3) := by decide +kernel
theorem dX4_gather_172 : decode cX4_gather 172 = .ok (.if_icmp .lt 4, 3) := by decide +kernel
theorem dX4_gather_175 : decode cX4_gather 175 = .ok (.return_, 1) := by decide +kernel
theorem dX4_gather_176 : decode cX4_gather 176 = .ok (.aload 8, 2) := by decide +kernel
theorem dX4_gather_178 : decode cX4_gather 178 = .ok (.getfield 98, 3) := by decide +kernel
theorem dX4_gather_181 : decode cX4_gather 181 = .ok (.iload_n 2, 1) := by decide +kernel
theorem dX4_gather_182 : decode cX4_gather 182 = .ok (.iaload, 1) := by decide +kernel
theorem dX4_gather_183 : decode cX4_gather 183 = .ok (.istore 17, 2) := by decide +kernel
theorem dX4_gather_185 : decode cX4_gather 185 = .ok (.iload 17, 2) := by decide +kernel
theorem dX4_gather_187 : decode cX4_gather 187 = .ok (.aload 8, 2) := by decide +kernel
theorem dX4_gather_189 : decode cX4_gather 189 = .ok (.getfield 98, 3) := by decide +kernel
theorem dX4_gather_192 : decode cX4_gather 192 = .ok (.iload_n 2, 1) := by decide +kernel
theorem dX4_gather_193 : decode cX4_gather 193 = .ok (.iconst 1, 1) := by decide +kernel
theorem dX4_gather_194 : decode cX4_gather 194 = .ok (.iadd, 1) := by decide +kernel
theorem dX4_gather_195 : decode cX4_gather 195 = .ok (.iaload, 1) := by decide +kernel
theorem dX4_gather_196 : decode cX4_gather 196 = .ok (.if_icmp .ge 87, 3) := by decide +kernel
theorem dX4_gather_199 : decode cX4_gather 199 = .ok (.aload 8, 2) := by decide +kernel
theorem dX4_gather_201 : decode cX4_gather 201 = .ok (.getfield 79, 3) := by decide +kernel
theorem dX4_gather_204 : decode cX4_gather 204 = .ok (.iload 17, 2) := by decide +kernel
theorem dX4_gather_206 : decode cX4_gather 206 = .ok (.iaload, 1) := by decide +kernel
theorem dX4_gather_207 : decode cX4_gather 207 = .ok (.istore 18, 2) := by decide +kernel
theorem dX4_gather_209 : decode cX4_gather 209 = .ok (.aload 8, 2) := by decide +kernel
theorem dX4_gather_211 : decode cX4_gather 211 = .ok (.getfield 71, 3) := by decide +kernel
theorem dX4_gather_214 : decode cX4_gather 214 = .ok (.iload 17, 2) := by decide +kernel
theorem dX4_gather_216 : decode cX4_gather 216 = .ok (.iaload, 1) := by decide +kernel
theorem dX4_gather_217 : decode cX4_gather 217 = .ok (.istore 19, 2) := by decide +kernel
theorem dX4_gather_219 : decode cX4_gather 219 = .ok (.aload 8, 2) := by decide +kernel
theorem dX4_gather_221 : decode cX4_gather 221 = .ok (.getfield 101, 3) := by decide +kernel
theorem dX4_gather_224 : decode cX4_gather 224 = .ok (.iload 18, 2) := by decide +kernel
theorem dX4_gather_226 : decode cX4_gather 226 = .ok (.laload, 1) := by decide +kernel
theorem dX4_gather_227 : decode cX4_gather 227 = .ok (.lconst 0, 1) := by decide +kernel
theorem dX4_gather_228 : decode cX4_gather 228 = .ok (.lcmp, 1) := by decide +kernel
theorem dX4_gather_229 : decode cX4_gather 229 = .ok (.ifCond .le 48, 3) := by decide +kernel
theorem dX4_gather_232 : decode cX4_gather 232 = .ok (.aload_n 0, 1) := by decide +kernel
theorem dX4_gather_233 : decode cX4_gather 233 = .ok (.iload_n 1, 1) := by decide +kernel
theorem dX4_gather_234 : decode cX4_gather 234 = .ok (.iload 18, 2) := by decide +kernel
theorem dX4_gather_236 : decode cX4_gather 236 = .ok (.iload_n 3, 1) := by decide +kernel
theorem dX4_gather_237 : decode cX4_gather 237 = .ok (.iconst 1, 1) := by decide +kernel
theorem dX4_gather_238 : decode cX4_gather 238 = .ok (.iadd, 1) := by decide +kernel
theorem dX4_gather_239 : decode cX4_gather 239 = .ok (.iload_n 1, 1) := by decide +kernel
theorem dX4_gather_240 : decode cX4_gather 240 = .ok (.lload 4, 2) := by decide +kernel
theorem dX4_gather_242 : decode cX4_gather 242 = .ok (.aload 8, 2) := by decide +kernel
theorem dX4_gather_244 : decode cX4_gather 244 = .ok (.getfield 62, 3) := by decide +kernel
theorem dX4_gather_247 : decode cX4_gather 247 = .ok (.getfield 66, 3) := by decide +kernel
theorem dX4_gather_250 : decode cX4_gather 250 = .ok (.iload_n 1, 1) := by decide +kernel
theorem dX4_gather_251 : decode cX4_gather 251 = .ok (.aaload, 1) := by decide +kernel
theorem dX4_gather_252 : decode cX4_gather 252 = .ok (.iload 19, 2) := by decide +kernel
theorem dX4_gather_254 : decode cX4_gather 254 = .ok (.laload, 1) := by decide +kernel
theorem dX4_gather_255 : decode cX4_gather 255 = .ok (.invokestatic 75, 3) := by decide +kernel
theorem dX4_gather_258 : decode cX4_gather 258 = .ok (.lload 6, 2) := by decide +kernel
theorem dX4_gather_260 : decode cX4_gather 260 = .ok (.aload 8, 2) := by decide +kernel
theorem dX4_gather_262 : decode cX4_gather 262 = .ok (.getfield 62, 3) := by decide +kernel
theorem dX4_gather_265 : decode cX4_gather 265 = .ok (.getfield 66, 3) := by decide +kernel
theorem dX4_gather_268 : decode cX4_gather 268 = .ok (.iconst 0, 1) := by decide +kernel
theorem dX4_gather_269 : decode cX4_gather 269 = .ok (.aaload, 1) := by decide +kernel
theorem dX4_gather_270 : decode cX4_gather 270 = .ok (.iload 19, 2) := by decide +kernel
theorem dX4_gather_272 : decode cX4_gather 272 = .ok (.laload, 1) := by decide +kernel
theorem dX4_gather_273 : decode cX4_gather 273 = .ok (.lmul, 1) := by decide +kernel
theorem dX4_gather_274 : decode cX4_gather 274 = .ok (.invokestatic 123, 3) := by decide +kernel
theorem dX4_gather_277 : decode cX4_gather 277 = .ok (.iinc 17 1, 3) := by decide +kernel
theorem dX4_gather_280 : decode cX4_gather 280 = .ok (.goto (-95), 3) := by decide +kernel
theorem dX4_gather_283 : decode cX4_gather 283 = .ok (.return_, 1) := by decide +kernel
theorem dX5_init_0 : decode cX5_init 0 = .ok (.aload_n 0, 1) := by decide +kernel
theorem dX5_init_1 : decode cX5_init 1 = .ok (.invokespecial 3, 3) := by decide +kernel
theorem dX5_init_4 : decode cX5_init 4 = .ok (.aload_n 0, 1) := by decide +kernel
theorem dX5_init_5 : decode cX5_init 5 = .ok (.sipush 264, 3) := by decide +kernel
theorem dX5_init_8 : decode cX5_init 8 = .ok (.newarray .long, 2) := by decide +kernel
theorem dX5_init_10 : decode cX5_init 10 = .ok (.putfield 9, 3) := by decide +kernel
theorem dX5_init_13 : decode cX5_init 13 = .ok (.aload_n 0, 1) := by decide +kernel
theorem dX5_init_14 : decode cX5_init 14 = .ok (.sipush 264, 3) := by decide +kernel
theorem dX5_init_17 : decode cX5_init 17 = .ok (.newarray .int, 2) := by decide +kernel
theorem dX5_init_19 : decode cX5_init 19 = .ok (.putfield 13, 3) := by decide +kernel
theorem dX5_init_22 : decode cX5_init 22 = .ok (.aload_n 0, 1) := by decide +kernel
theorem dX5_init_23 : decode cX5_init 23 = .ok (.sipush 264, 3) := by decide +kernel
theorem dX5_init_26 : decode cX5_init 26 = .ok (.newarray .int, 2) := by decide +kernel
theorem dX5_init_28 : decode cX5_init 28 = .ok (.putfield 17, 3) := by decide +kernel
theorem dX5_init_31 : decode cX5_init 31 = .ok (.aload_n 0, 1) := by decide +kernel
theorem dX5_init_32 : decode cX5_init 32 = .ok (.sipush 264, 3) := by decide +kernel
theorem dX5_init_35 : decode cX5_init 35 = .ok (.newarray .int, 2) := by decide +kernel
theorem dX5_init_37 : decode cX5_init 37 = .ok (.putfield 20, 3) := by decide +kernel
theorem dX5_init_40 : decode cX5_init 40 = .ok (.return_, 1) := by decide +kernel
theorem dX5_make_0 : decode cX5_make 0 = .ok (.aload_n 0, 1) := by decide +kernel
theorem dX5_make_1 : decode cX5_make 1 = .ok (.iconst 0, 1) := by decide +kernel
theorem dX5_make_2 : decode cX5_make 2 = .ok (.putfield 23, 3) := by decide +kernel
theorem dX5_make_5 : decode cX5_make 5 = .ok (.aload_n 0, 1) := by decide +kernel
theorem dX5_make_6 : decode cX5_make 6 = .ok (.aload_n 1, 1) := by decide +kernel
theorem dX5_make_7 : decode cX5_make 7 = .ok (.getfield 27, 3) := by decide +kernel
theorem dX5_make_10 : decode cX5_make 10 = .ok (.aload_n 1, 1) := by decide +kernel
theorem dX5_make_11 : decode cX5_make 11 = .ok (.getfield 27, 3) := by decide +kernel
theorem dX5_make_14 : decode cX5_make 14 = .ok (.iconst 1, 1) := by decide +kernel
theorem dX5_make_15 : decode cX5_make 15 = .ok (.isub, 1) := by decide +kernel
theorem dX5_make_16 : decode cX5_make 16 = .ok (.imul, 1) := by decide +kernel
theorem dX5_make_17 : decode cX5_make 17 = .ok (.aload_n 1, 1) := by decide +kernel
theorem dX5_make_18 : decode cX5_make 18 = .ok (.getfield 32, 3) := by decide +kernel
theorem dX5_make_21 : decode cX5_make 21 = .ok (.imul, 1) := by decide +kernel
theorem dX5_make_22 : decode cX5_make 22 = .ok (.aload_n 1, 1) := by decide +kernel
theorem dX5_make_23 : decode cX5_make 23 = .ok (.getfield 32, 3) := by decide +kernel
theorem dX5_make_26 : decode cX5_make 26 = .ok (.iconst 1, 1) := by decide +kernel
theorem dX5_make_27 : decode cX5_make 27 = .ok (.isub, 1) := by decide +kernel
theorem dX5_make_28 : decode cX5_make 28 = .ok (.imul, 1) := by decide +kernel
theorem dX5_make_29 : decode cX5_make 29 = .ok (.putfield 35, 3) := by decide +kernel
theorem dX5_make_32 : decode cX5_make 32 = .ok (.iconst 0, 1) := by decide +kernel
theorem dX5_make_33 : decode cX5_make 33 = .ok (.istore_n 2, 1) := by decide +kernel
theorem dX5_make_34 : decode cX5_make 34 = .ok (.iload_n 2, 1) := by decide +kernel
theorem dX5_make_35 : decode cX5_make 35 = .ok (.aload_n 1, 1) := by decide +kernel
theorem dX5_make_36 : decode cX5_make 36 = .ok (.getfield 27, 3) := by decide +kernel
theorem dX5_make_39 : decode cX5_make 39 = .ok (.if_icmp .ge 34, 3) := by decide +kernel
theorem dX5_make_42 : decode cX5_make 42 = .ok (.iload_n 2, 1) := by decide +kernel
theorem dX5_make_43 : decode cX5_make 43 = .ok (.iconst 1, 1) := by decide +kernel
theorem dX5_make_44 : decode cX5_make 44 = .ok (.iadd, 1) := by decide +kernel
theorem dX5_make_45 : decode cX5_make 45 = .ok (.istore_n 3, 1) := by decide +kernel
theorem dX5_make_46 : decode cX5_make 46 = .ok (.iload_n 3, 1) := by decide +kernel
theorem dX5_make_47 : decode cX5_make 47 = .ok (.aload_n 1, 1) := by decide +kernel
theorem dX5_make_48 : decode cX5_make 48 = .ok (.getfield 27, 3) := by decide +kernel
theorem dX5_make_51 : decode cX5_make 51 = .ok (.if_icmp .ge 16, 3) := by decide +kernel
theorem dX5_make_54 : decode cX5_make 54 = .ok (.aload_n 0, 1) := by decide +kernel
theorem dX5_make_55 : decode cX5_make 55 = .ok (.aload_n 1, 1) := by decide +kernel
theorem dX5_make_56 : decode cX5_make 56 = .ok (.iload_n 2, 1) := by decide +kernel
theorem dX5_make_57 : decode cX5_make 57 = .ok (.iload_n 3, 1) := by decide +kernel
theorem dX5_make_58 : decode cX5_make 58 = .ok (.invokevirtual 38, 3) := by decide +kernel
theorem dX5_make_61 : decode cX5_make 61 = .ok (.iinc 3 1, 3) := by decide +kernel
theorem dX5_make_64 : decode cX5_make 64 = .ok (.goto (-18), 3) := by decide +kernel
theorem dX5_make_67 : decode cX5_make 67 = .ok (.iinc 2 1, 3) := by decide +kernel
theorem dX5_make_70 : decode cX5_make 70 = .ok (.goto (-36), 3) := by decide +kernel
theorem dX5_make_73 : decode cX5_make 73 = .ok (.aload_n 0, 1) := by decide +kernel
theorem dX5_make_74 : decode cX5_make 74 = .ok (.aload_n 0, 1) := by decide +kernel
theorem dX5_make_75 : decode cX5_make 75 = .ok (.getfield 23, 3) := by decide +kernel
theorem dX5_make_78 : decode cX5_make 78 = .ok (.putfield 42, 3) := by decide +kernel
theorem dX5_make_81 : decode cX5_make 81 = .ok (.iconst 0, 1) := by decide +kernel
theorem dX5_make_82 : decode cX5_make 82 = .ok (.istore_n 2, 1) := by decide +kernel
theorem dX5_make_83 : decode cX5_make 83 = .ok (.iload_n 2, 1) := by decide +kernel
theorem dX5_make_84 : decode cX5_make 84 = .ok (.aload_n 1, 1) := by decide +kernel
theorem dX5_make_85 : decode cX5_make 85 = .ok (.getfield 27, 3) := by decide +kernel
theorem dX5_make_88 : decode cX5_make 88 = .ok (.if_icmp .ge 56, 3) := by decide +kernel
theorem dX5_make_91 : decode cX5_make 91 = .ok (.iload_n 2, 1) := by decide +kernel
theorem dX5_make_92 : decode cX5_make 92 = .ok (.iconst 1, 1) := by decide +kernel
theorem dX5_make_93 : decode cX5_make 93 = .ok (.iadd, 1) := by decide +kernel
theorem dX5_make_94 : decode cX5_make 94 = .ok (.istore_n 3, 1) := by decide +kernel
theorem dX5_make_95 : decode cX5_make 95 = .ok (.iload_n 3, 1) := by decide +kernel
theorem dX5_make_96 : decode cX5_make 96 = .ok (.aload_n 1, 1) := by decide +kernel
theorem dX5_make_97 : decode cX5_make 97 = .ok (.getfield 27, 3) := by decide +kernel
theorem dX5_make_100 : decode cX5_make 100 = .ok (.if_icmp .ge 38, 3) := by decide +kernel
theorem dX5_make_103 : decode cX5_make 103 = .ok (.iload_n 2, 1) := by decide +kernel
theorem dX5_make_104 : decode cX5_make 104 = .ok (.iconst 1, 1) := by decide +kernel
theorem dX5_make_105 : decode cX5_make 105 = .ok (.iadd, 1) := by decide +kernel
theorem dX5_make_106 : decode cX5_make 106 = .ok (.istore 4, 2) := by decide +kernel
theorem dX5_make_108 : decode cX5_make 108 = .ok (.iload 4, 2) := by decide +kernel
theorem dX5_make_110 : decode cX5_make 110 = .ok (.aload_n 1, 1) := by decide +kernel
theorem dX5_make_111 : decode cX5_make 111 = .ok (.getfield 27, 3) := by decide +kernel
theorem dX5_make_114 : decode cX5_make 114 = .ok (.if_icmp .ge 18, 3) := by decide +kernel
theorem dX5_make_117 : decode cX5_make 117 = .ok (.aload_n 0, 1) := by decide +kernel
theorem dX5_make_118 : decode cX5_make 118 = .ok (.aload_n 1, 1) := by decide +kernel
theorem dX5_make_119 : decode cX5_make 119 = .ok (.iload_n 2, 1) := by decide +kernel
theorem dX5_make_120 : decode cX5_make 120 = .ok (.iload_n 3, 1) := by decide +kernel
theorem dX5_make_121 : decode cX5_make 121 = .ok (.iload 4, 2) := by decide +kernel
theorem dX5_make_123 : decode cX5_make 123 = .ok (.invokevirtual 45, 3) := by decide +kernel
theorem dX5_make_126 : decode cX5_make 126 = .ok (.iinc 4 1, 3) := by decide +kernel
theorem dX5_make_129 : decode cX5_make 129 = .ok (.goto (-21), 3) := by decide +kernel
theorem dX5_make_132 : decode cX5_make 132 = .ok (.iinc 3 1, 3) := by decide +kernel
theorem dX5_make_135 : decode cX5_make 135 = .ok (.goto (-40), 3) := by decide +kernel
theorem dX5_make_138 : decode cX5_make 138 = .ok (.iinc 2 1, 3) := by decide +kernel
theorem dX5_make_141 : decode cX5_make 141 = .ok (.goto (-58), 3) := by decide +kernel
theorem dX5_make_144 : decode cX5_make 144 = .ok (.return_, 1) := by decide +kernel
theorem dX5_addSwaps_0 : decode cX5_addSwaps 0 = .ok (.iconst 0, 1) := by decide +kernel
theorem dX5_addSwaps_1 : decode cX5_addSwaps 1 = .ok (.istore 4, 2) := by decide +kernel
theorem dX5_addSwaps_3 : decode cX5_addSwaps 3 = .ok (.iload 4, 2) := by decide +kernel
theorem dX5_addSwaps_5 : decode cX5_addSwaps 5 = .ok (.aload_n 1, 1) := by decide +kernel
theorem dX5_addSwaps_6 : decode cX5_addSwaps 6 = .ok (.getfield 32, 3) := by decide +kernel
theorem dX5_addSwaps_9 : decode cX5_addSwaps 9 = .ok (.if_icmp .ge 117, 3) := by decide +kernel
theorem dX5_addSwaps_12 : decode cX5_addSwaps 12 = .ok (.iconst 0, 1) := by decide +kernel
theorem dX5_addSwaps_13 : decode cX5_addSwaps 13 = .ok (.istore 5, 2) := by decide +kernel
theorem dX5_addSwaps_15 : decode cX5_addSwaps 15 = .ok (.iload 5, 2) := by decide +kernel
theorem dX5_addSwaps_17 : decode cX5_addSwaps 17 = .ok (.aload_n 1, 1) := by decide +kernel
theorem dX5_addSwaps_18 : decode cX5_addSwaps 18 = .ok (.getfield 32, 3) := by decide +kernel
theorem dX5_addSwaps_21 : decode cX5_addSwaps 21 = .ok (.if_icmp .ge 99, 3) := by decide +kernel
theorem dX5_addSwaps_24 : decode cX5_addSwaps 24 = .ok (.aload_n 1, 1) := by decide +kernel
theorem dX5_addSwaps_25 : decode cX5_addSwaps 25 = .ok (.iload_n 2, 1) := by decide +kernel
theorem dX5_addSwaps_26 : decode cX5_addSwaps 26 = .ok (.iload 4, 2) := by decide +kernel
theorem dX5_addSwaps_28 : decode cX5_addSwaps 28 = .ok (.invokevirtual 49, 3) := by decide +kernel
theorem dX5_addSwaps_31 : decode cX5_addSwaps 31 = .ok (.ifCond .ne 37, 3) := by decide +kernel
theorem dX5_addSwaps_34 : decode cX5_addSwaps 34 = .ok (.aload_n 1, 1) := by decide +kernel
theorem dX5_addSwaps_35 : decode cX5_addSwaps 35 = .ok (.iload_n 2, 1) := by decide +kernel
theorem dX5_addSwaps_36 : decode cX5_addSwaps 36 = .ok (.iload 5, 2) := by decide +kernel
theorem dX5_addSwaps_38 : decode cX5_addSwaps 38 = .ok (.invokevirtual 49, 3) := by decide +kernel
theorem dX5_addSwaps_41 : decode cX5_addSwaps 41 = .ok (.ifCond .ne 27, 3) := by decide +kernel
theorem dX5_addSwaps_44 : decode cX5_addSwaps 44 = .ok (.aload_n 1, 1) := by decide +kernel
theorem dX5_addSwaps_45 : decode cX5_addSwaps 45 = .ok (.iload_n 3, 1) := by decide +kernel
theorem dX5_addSwaps_46 : decode cX5_addSwaps 46 = .ok (.iload 4, 2) := by decide +kernel
theorem dX5_addSwaps_48 : decode cX5_addSwaps 48 = .ok (.invokevirtual 49, 3) := by decide +kernel
theorem dX5_addSwaps_51 : decode cX5_addSwaps 51 = .ok (.ifCond .ne 17, 3) := by decide +kernel
theorem dX5_addSwaps_54 : decode cX5_addSwaps 54 = .ok (.aload_n 1, 1) := by decide +kernel
theorem dX5_addSwaps_55 : decode cX5_addSwaps 55 = .ok (.iload_n 3, 1) := by decide +kernel
theorem dX5_addSwaps_56 : decode cX5_addSwaps 56 = .ok (.iload 5, 2) := by decide +kernel
theorem dX5_addSwaps_58 : decode cX5_addSwaps 58 = .ok (.invokevirtual 49, 3) := by decide +kernel
theorem dX5_addSwaps_61 : decode cX5_addSwaps 61 = .ok (.ifCond .ne 7, 3) := by decide +kernel
theorem dX5_addSwaps_64 : decode cX5_addSwaps 64 = .ok (.iconst 1, 1) := by decide +kernel
theorem dX5_addSwaps_65 : decode cX5_addSwaps 65 = .ok (.goto 4, 3) := by decide +kernel
theorem dX5_addSwaps_68 : decode cX5_addSwaps 68 = .ok (.iconst 0, 1) := by decide +kernel
theorem dX5_addSwaps_69 : decode cX5_addSwaps 69 = .ok (.istore 6, 2) := by decide +kernel
theorem dX5_addSwaps_71 : decode cX5_addSwaps 71 = .ok (.iload 4, 2) := by decide +kernel
theorem dX5_addSwaps_73 : decode cX5_addSwaps 73 = .ok (.iload 5, 2) := by decide +kernel
theorem dX5_addSwaps_75 : decode cX5_addSwaps 75 = .ok (.if_icmp .eq 39, 3) := by decide +kernel
theorem dX5_addSwaps_78 : decode cX5_addSwaps 78 = .ok (.iload 6, 2) := by decide +kernel
theorem dX5_addSwaps_80 : decode cX5_addSwaps 80 = .ok (.ifCond .eq 34, 3) := by decide +kernel
theorem dX5_addSwaps_83 : decode cX5_addSwaps 83 = .ok (.iload_n 3, 1) := by decide +kernel
theorem dX5_addSwaps_84 : decode cX5_addSwaps 84 = .ok (.iload 4, 2) := by decide +kernel
theorem dX5_addSwaps_86 : decode cX5_addSwaps 86 = .ok (.invokestatic 53, 3) := by decide +kernel
theorem dX5_addSwaps_89 : decode cX5_addSwaps 89 = .ok (.istore 7, 2) := by decide +kernel
theorem dX5_addSwaps_91 : decode cX5_addSwaps 91 = .ok (.aload_n 0, 1) := by decide +kernel
theorem dX5_addSwaps_92 : decode cX5_addSwaps 92 = .ok (.iload_n 2, 1) := by decide +kernel
theorem dX5_addSwaps_93 : decode cX5_addSwaps 93 = .ok (.iload_n 3, 1) := by decide +kernel
theorem dX5_addSwaps_94 : decode cX5_addSwaps 94 = .ok (.iload 4, 2) := by decide +kernel
theorem dX5_addSwaps_96 : decode cX5_addSwaps 96 = .ok (.iload 5, 2) := by decide +kernel
theorem dX5_addSwaps_98 : decode cX5_addSwaps 98 = .ok (.invokestatic 59, 3) := by decide +kernel
theorem dX5_addSwaps_101 : decode cX5_addSwaps 101 = .ok (.iload_n 2, 1) := by decide +kernel
theorem dX5_addSwaps_102 : decode cX5_addSwaps 102 = .ok (.iload 5, 2) := by decide +kernel
theorem dX5_addSwaps_104 : decode cX5_addSwaps 104 = .ok (.invokestatic 53, 3) := by decide +kernel
theorem dX5_addSwaps_107 : decode cX5_addSwaps 107 = .ok (.iload 7, 2) := by decide +kernel
theorem dX5_addSwaps_109 : decode cX5_addSwaps 109 = .ok (.iload 7, 2) := by decide +kernel
theorem dX5_addSwaps_111 : decode cX5_addSwaps 111 = .ok (.invokevirtual 63, 3) := by decide +kernel
theorem dX5_addSwaps_114 : decode cX5_addSwaps 114 = .ok (.iinc 5 1, 3) := by decide +kernel
theorem dX5_addSwaps_117 : decode cX5_addSwaps 117 = .ok (.goto (-102), 3) := by decide +kernel
theorem dX5_addSwaps_120 : decode cX5_addSwaps 120 = .ok (.iinc 4 1, 3) := by decide +kernel
theorem dX5_addSwaps_123 : decode cX5_addSwaps 123 = .ok (.goto (-120), 3) := by decide +kernel
theorem dX5_addSwaps_126 : decode cX5_addSwaps 126 = .ok (.return_, 1) := by decide +kernel
theorem dX5_addTurns_0 : decode cX5_addTurns 0 = .ok (.iconst 0, 1) := by decide +kernel
theorem dX5_addTurns_1 : decode cX5_addTurns 1 = .ok (.istore 5, 2) := by decide +kernel
theorem dX5_addTurns_3 : decode cX5_addTurns 3 = .ok (.iload 5, 2) := by decide +kernel
theorem dX5_addTurns_5 : decode cX5_addTurns 5 = .ok (.aload_n 1, 1) := by decide +kernel
theorem dX5_addTurns_6 : decode cX5_addTurns 6 = .ok (.getfield 32, 3) := by decide +kernel
theorem dX5_addTurns_9 : decode cX5_addTurns 9 = .ok (.if_icmp .ge 220, 3) := by decide +kernel
theorem dX5_addTurns_12 : decode cX5_addTurns 12 = .ok (.iload_n 3, 1) := by decide +kernel
theorem dX5_addTurns_13 : decode cX5_addTurns 13 = .ok (.iload 4, 2) := by decide +kernel
theorem dX5_addTurns_15 : decode cX5_addTurns 15 = .ok (.if_icmp .eq 214, 3) := by decide +kernel
theorem dX5_addTurns_18 : decode cX5_addTurns 18 = .ok (.iconst 0, 1) := by decide +kernel
theorem dX5_addTurns_19 : decode cX5_addTurns 19 = .ok (.istore 6, 2) := by decide +kernel
theorem dX5_addTurns_21 : decode cX5_addTurns 21 = .ok (.iload 6, 2) := by decide +kernel
theorem dX5_addTurns_23 : decode cX5_addTurns 23 = .ok (.aload_n 1, 1) := by decide +kernel
theorem dX5_addTurns_24 : decode cX5_addTurns 24 = .ok (.getfield 32, 3) := by decide +kernel
theorem dX5_addTurns_27 : decode cX5_addTurns 27 = .ok (.if_icmp .ge 196, 3) := by decide +kernel
theorem dX5_addTurns_30 : decode cX5_addTurns 30 = .ok (.iconst 0, 1) := by decide +kernel
theorem dX5_addTurns_31 : decode cX5_addTurns 31 = .ok (.istore 7, 2) := by decide +kernel
theorem dX5_addTurns_33 : decode cX5_addTurns 33 = .ok (.iload 7, 2) := by decide +kernel
theorem dX5_addTurns_35 : decode cX5_addTurns 35 = .ok (.aload_n 1, 1) := by decide +kernel
theorem dX5_addTurns_36 : decode cX5_addTurns 36 = .ok (.getfield 32, 3) := by decide +kernel
theorem dX5_addTurns_39 : decode cX5_addTurns 39 = .ok (.if_icmp .ge 178, 3) := by decide +kernel
theorem dX5_addTurns_42 : decode cX5_addTurns 42 = .ok (.aload_n 1, 1) := by decide +kernel
theorem dX5_addTurns_43 : decode cX5_addTurns 43 = .ok (.iload_n 2, 1) := by decide +kernel
theorem dX5_addTurns_44 : decode cX5_addTurns 44 = .ok (.iload 5, 2) := by decide +kernel
theorem dX5_addTurns_46 : decode cX5_addTurns 46 = .ok (.invokevirtual 49, 3) := by decide +kernel
theorem dX5_addTurns_49 : decode cX5_addTurns 49 = .ok (.ifCond .ne 59, 3) := by decide +kernel
theorem dX5_addTurns_52 : decode cX5_addTurns 52 = .ok (.aload_n 1, 1) := by decide +kernel
theorem dX5_addTurns_53 : decode cX5_addTurns 53 = .ok (.iload_n 2, 1) := by decide +kernel
theorem dX5_addTurns_54 : decode cX5_addTurns 54 = .ok (.iload 6, 2) := by decide +kernel
theorem dX5_addTurns_56 : decode cX5_addTurns 56 = .ok (.invokevirtual 49, 3) := by decide +kernel
theorem dX5_addTurns_59 : decode cX5_addTurns 59 = .ok (.ifCond .ne 49, 3) := by decide +kernel
theorem dX5_addTurns_62 : decode cX5_addTurns 62 = .ok (.aload_n 1, 1) := by decide +kernel
theorem dX5_addTurns_63 : decode cX5_addTurns 63 = .ok (.iload_n 3, 1) := by decide +kernel
theorem dX5_addTurns_64 : decode cX5_addTurns 64 = .ok (.iload 6, 2) := by decide +kernel
theorem dX5_addTurns_66 : decode cX5_addTurns 66 = .ok (.invokevirtual 49, 3) := by decide +kernel
theorem dX5_addTurns_69 : decode cX5_addTurns 69 = .ok (.ifCond .ne 39, 3) := by decide +kernel
theorem dX5_addTurns_72 : decode cX5_addTurns 72 = .ok (.aload_n 1, 1) := by decide +kernel
theorem dX5_addTurns_73 : decode cX5_addTurns 73 = .ok (.iload_n 3, 1) := by decide +kernel
theorem dX5_addTurns_74 : decode cX5_addTurns 74 = .ok (.iload 7, 2) := by decide +kernel
theorem dX5_addTurns_76 : decode cX5_addTurns 76 = .ok (.invokevirtual 49, 3) := by decide +kernel
theorem dX5_addTurns_79 : decode cX5_addTurns 79 = .ok (.ifCond .ne 29, 3) := by decide +kernel
theorem dX5_addTurns_82 : decode cX5_addTurns 82 = .ok (.aload_n 1, 1) := by decide +kernel
theorem dX5_addTurns_83 : decode cX5_addTurns 83 = .ok (.iload 4, 2) := by decide +kernel
theorem dX5_addTurns_85 : decode cX5_addTurns 85 = .ok (.iload 7, 2) := by decide +kernel
theorem dX5_addTurns_87 : decode cX5_addTurns 87 = .ok (.invokevirtual 49, 3) := by decide +kernel
theorem dX5_addTurns_90 : decode cX5_addTurns 90 = .ok (.ifCond .ne 18, 3) := by decide +kernel
theorem dX5_addTurns_93 : decode cX5_addTurns 93 = .ok (.aload_n 1, 1) := by decide +kernel
theorem dX5_addTurns_94 : decode cX5_addTurns 94 = .ok (.iload 4, 2) := by decide +kernel
theorem dX5_addTurns_96 : decode cX5_addTurns 96 = .ok (.iload 5, 2) := by decide +kernel
theorem dX5_addTurns_98 : decode cX5_addTurns 98 = .ok (.invokevirtual 49, 3) := by decide +kernel
theorem dX5_addTurns_101 : decode cX5_addTurns 101 = .ok (.ifCond .ne 7, 3) := by decide +kernel
theorem dX5_addTurns_104 : decode cX5_addTurns 104 = .ok (.iconst 1, 1) := by decide +kernel
theorem dX5_addTurns_105 : decode cX5_addTurns 105 = .ok (.goto 4, 3) := by decide +kernel
theorem dX5_addTurns_108 : decode cX5_addTurns 108 = .ok (.iconst 0, 1) := by decide +kernel
theorem dX5_addTurns_109 : decode cX5_addTurns 109 = .ok (.istore 8, 2) := by decide +kernel
theorem dX5_addTurns_111 : decode cX5_addTurns 111 = .ok (.iload 5, 2) := by decide +kernel
theorem dX5_addTurns_113 : decode cX5_addTurns 113 = .ok (.iload 6, 2) := by decide +kernel
theorem dX5_addTurns_115 : decode cX5_addTurns 115 = .ok (.if_icmp .eq 96, 3) := by decide +kernel
theorem dX5_addTurns_118 : decode cX5_addTurns 118 = .ok (.iload 6, 2) := by decide +kernel
theorem dX5_addTurns_120 : decode cX5_addTurns 120 = .ok (.iload 7, 2) := by decide +kernel
theorem dX5_addTurns_122 : decode cX5_addTurns 122 = .ok (.if_icmp .eq 89, 3) := by decide +kernel
theorem dX5_addTurns_125 : decode cX5_addTurns 125 = .ok (.iload 7, 2) := by decide +kernel
theorem dX5_addTurns_127 : decode cX5_addTurns 127 = .ok (.iload 5, 2) := by decide +kernel
theorem dX5_addTurns_129 : decode cX5_addTurns 129 = .ok (.if_icmp .eq 82, 3) := by decide +kernel
theorem dX5_addTurns_132 : decode cX5_addTurns 132 = .ok (.iload 8, 2) := by decide +kernel
theorem dX5_addTurns_134 : decode cX5_addTurns 134 = .ok (.ifCond .eq 77, 3) := by decide +kernel
theorem dX5_addTurns_137 : decode cX5_addTurns 137 = .ok (.iload_n 2, 1) := by decide +kernel
theorem dX5_addTurns_138 : decode cX5_addTurns 138 = .ok (.iload 5, 2) := by decide +kernel
theorem dX5_addTurns_140 : decode cX5_addTurns 140 = .ok (.invokestatic 67, 3) := by decide +kernel
theorem dX5_addTurns_143 : decode cX5_addTurns 143 = .ok (.iload_n 3, 1) := by decide +kernel
theorem dX5_addTurns_144 : decode cX5_addTurns 144 = .ok (.iload 6, 2) := by decide +kernel
theorem dX5_addTurns_146 : decode cX5_addTurns 146 = .ok (.invokestatic 67, 3) := by decide +kernel
theorem dX5_addTurns_149 : decode cX5_addTurns 149 = .ok (.ladd, 1) := by decide +kernel
theorem dX5_addTurns_150 : decode cX5_addTurns 150 = .ok (.iload 4, 2) := by decide +kernel
theorem dX5_addTurns_152 : decode cX5_addTurns 152 = .ok (.iload 7, 2) := by decide +kernel
theorem dX5_addTurns_154 : decode cX5_addTurns 154 = .ok (.invokestatic 67, 3) := by decide +kernel
theorem dX5_addTurns_157 : decode cX5_addTurns 157 = .ok (.ladd, 1) := by decide +kernel
theorem dX5_addTurns_158 : decode cX5_addTurns 158 = .ok (.lstore 9, 2) := by decide +kernel
theorem dX5_addTurns_160 : decode cX5_addTurns 160 = .ok (.iload_n 2, 1) := by decide +kernel
theorem dX5_addTurns_161 : decode cX5_addTurns 161 = .ok (.iload 6, 2) := by decide +kernel
theorem dX5_addTurns_163 : decode cX5_addTurns 163 = .ok (.invokestatic 67, 3) := by decide +kernel
theorem dX5_addTurns_166 : decode cX5_addTurns 166 = .ok (.iload_n 3, 1) := by decide +kernel
theorem dX5_addTurns_167 : decode cX5_addTurns 167 = .ok (.iload 7, 2) := by decide +kernel
theorem dX5_addTurns_169 : decode cX5_addTurns 169 = .ok (.invokestatic 67, 3) := by decide +kernel
theorem dX5_addTurns_172 : decode cX5_addTurns 172 = .ok (.ladd, 1) := by decide +kernel
theorem dX5_addTurns_173 : decode cX5_addTurns 173 = .ok (.iload 4, 2) := by decide +kernel
theorem dX5_addTurns_175 : decode cX5_addTurns 175 = .ok (.iload 5, 2) := by decide +kernel
theorem dX5_addTurns_177 : decode cX5_addTurns 177 = .ok (.invokestatic 67, 3) := by decide +kernel
theorem dX5_addTurns_180 : decode cX5_addTurns 180 = .ok (.ladd, 1) := by decide +kernel
theorem dX5_addTurns_181 : decode cX5_addTurns 181 = .ok (.lstore 11, 2) := by decide +kernel
theorem dX5_addTurns_183 : decode cX5_addTurns 183 = .ok (.aload_n 0, 1) := by decide +kernel
theorem dX5_addTurns_184 : decode cX5_addTurns 184 = .ok (.lload 9, 2) := by decide +kernel
theorem dX5_addTurns_186 : decode cX5_addTurns 186 = .ok (.lload 11, 2) := by decide +kernel
theorem dX5_addTurns_188 : decode cX5_addTurns 188 = .ok (.lsub, 1) := by decide +kernel
theorem dX5_addTurns_189 : decode cX5_addTurns 189 = .ok (.iload_n 2, 1) := by decide +kernel
theorem dX5_addTurns_190 : decode cX5_addTurns 190 = .ok (.iload 6, 2) := by decide +kernel
theorem dX5_addTurns_192 : decode cX5_addTurns 192 = .ok (.invokestatic 53, 3) := by decide +kernel
theorem dX5_addTurns_195 : decode cX5_addTurns 195 = .ok (.iload_n 3, 1) := by decide +kernel
theorem dX5_addTurns_196 : decode cX5_addTurns 196 = .ok (.iload 7, 2) := by decide +kernel
theorem dX5_addTurns_198 : decode cX5_addTurns 198 = .ok (.invokestatic 53, 3) := by decide +kernel
theorem dX5_addTurns_201 : decode cX5_addTurns 201 = .ok (.iload 4, 2) := by decide +kernel
theorem dX5_addTurns_203 : decode cX5_addTurns 203 = .ok (.iload 5, 2) := by decide +kernel
theorem dX5_addTurns_205 : decode cX5_addTurns 205 = .ok (.invokestatic 53, 3) := by decide +kernel
theorem dX5_addTurns_208 : decode cX5_addTurns 208 = .ok (.invokevirtual 63, 3) := by decide +kernel
theorem dX5_addTurns_211 : decode cX5_addTurns 211 = .ok (.iinc 7 1, 3) := by decide +kernel
theorem dX5_addTurns_214 : decode cX5_addTurns 214 = .ok (.goto (-181), 3) := by decide +kernel
theorem dX5_addTurns_217 : decode cX5_addTurns 217 = .ok (.iinc 6 1, 3) := by decide +kernel
theorem dX5_addTurns_220 : decode cX5_addTurns 220 = .ok (.goto (-199), 3) := by decide +kernel
theorem dX5_addTurns_223 : decode cX5_addTurns 223 = .ok (.iinc 5 1, 3) := by decide +kernel
theorem dX5_addTurns_226 : decode cX5_addTurns 226 = .ok (.goto (-223), 3) := by decide +kernel
theorem dX5_addTurns_229 : decode cX5_addTurns 229 = .ok (.return_, 1) := by decide +kernel
theorem dX5_add_0 : decode cX5_add 0 = .ok (.aload_n 0, 1) := by decide +kernel
theorem dX5_add_1 : decode cX5_add 1 = .ok (.getfield 23, 3) := by decide +kernel
theorem dX5_add_4 : decode cX5_add 4 = .ok (.ifCond .lt 13, 3) := by decide +kernel
theorem dX5_add_7 : decode cX5_add 7 = .ok (.aload_n 0, 1) := by decide +kernel
theorem dX5_add_8 : decode cX5_add 8 = .ok (.getfield 23, 3) := by decide +kernel
theorem dX5_add_11 : decode cX5_add 11 = .ok (.sipush 264, 3) := by decide +kernel
theorem dX5_add_14 : decode cX5_add 14 = .ok (.if_icmp .lt 4, 3) := by decide +kernel
theorem dX5_add_17 : decode cX5_add 17 = .ok (.return_, 1) := by decide +kernel
theorem dX5_add_18 : decode cX5_add 18 = .ok (.aload_n 0, 1) := by decide +kernel
theorem dX5_add_19 : decode cX5_add 19 = .ok (.getfield 9, 3) := by decide +kernel
theorem dX5_add_22 : decode cX5_add 22 = .ok (.aload_n 0, 1) := by decide +kernel
theorem dX5_add_23 : decode cX5_add 23 = .ok (.getfield 23, 3) := by decide +kernel
theorem dX5_add_26 : decode cX5_add 26 = .ok (.lload_n 1, 1) := by decide +kernel
theorem dX5_add_27 : decode cX5_add 27 = .ok (.lastore, 1) := by decide +kernel
theorem dX5_add_28 : decode cX5_add 28 = .ok (.aload_n 0, 1) := by decide +kernel
theorem dX5_add_29 : decode cX5_add 29 = .ok (.getfield 13, 3) := by decide +kernel
theorem dX5_add_32 : decode cX5_add 32 = .ok (.aload_n 0, 1) := by decide +kernel
theorem dX5_add_33 : decode cX5_add 33 = .ok (.getfield 23, 3) := by decide +kernel
theorem dX5_add_36 : decode cX5_add 36 = .ok (.iload_n 3, 1) := by decide +kernel
theorem dX5_add_37 : decode cX5_add 37 = .ok (.iastore, 1) := by decide +kernel
theorem dX5_add_38 : decode cX5_add 38 = .ok (.aload_n 0, 1) := by decide +kernel
theorem dX5_add_39 : decode cX5_add 39 = .ok (.getfield 17, 3) := by decide +kernel
theorem dX5_add_42 : decode cX5_add 42 = .ok (.aload_n 0, 1) := by decide +kernel
theorem dX5_add_43 : decode cX5_add 43 = .ok (.getfield 23, 3) := by decide +kernel
theorem dX5_add_46 : decode cX5_add 46 = .ok (.iload 4, 2) := by decide +kernel
theorem dX5_add_48 : decode cX5_add 48 = .ok (.iastore, 1) := by decide +kernel
theorem dX5_add_49 : decode cX5_add 49 = .ok (.aload_n 0, 1) := by decide +kernel
theorem dX5_add_50 : decode cX5_add 50 = .ok (.getfield 20, 3) := by decide +kernel
theorem dX5_add_53 : decode cX5_add 53 = .ok (.aload_n 0, 1) := by decide +kernel
theorem dX5_add_54 : decode cX5_add 54 = .ok (.getfield 23, 3) := by decide +kernel
theorem dX5_add_57 : decode cX5_add 57 = .ok (.iload 5, 2) := by decide +kernel
theorem dX5_add_59 : decode cX5_add 59 = .ok (.iastore, 1) := by decide +kernel
theorem dX5_add_60 : decode cX5_add 60 = .ok (.aload_n 0, 1) := by decide +kernel
theorem dX5_add_61 : decode cX5_add 61 = .ok (.dup, 1) := by decide +kernel
theorem dX5_add_62 : decode cX5_add 62 = .ok (.getfield 23, 3) := by decide +kernel
theorem dX5_add_65 : decode cX5_add 65 = .ok (.iconst 1, 1) := by decide +kernel
theorem dX5_add_66 : decode cX5_add 66 = .ok (.iadd, 1) := by decide +kernel
theorem dX5_add_67 : decode cX5_add 67 = .ok (.putfield 23, 3) := by decide +kernel
theorem dX5_add_70 : decode cX5_add 70 = .ok (.return_, 1) := by decide +kernel
theorem dX5_can_0 : decode cX5_can 0 = .ok (.lload_n 1, 1) := by decide +kernel
theorem dX5_can_1 : decode cX5_can 1 = .ok (.aload_n 0, 1) := by decide +kernel
theorem dX5_can_2 : decode cX5_can 2 = .ok (.getfield 13, 3) := by decide +kernel
theorem dX5_can_5 : decode cX5_can 5 = .ok (.iload_n 3, 1) := by decide +kernel
theorem dX5_can_6 : decode cX5_can 6 = .ok (.iaload, 1) := by decide +kernel
theorem dX5_can_7 : decode cX5_can 7 = .ok (.invokestatic 71, 3) := by decide +kernel
theorem dX5_can_10 : decode cX5_can 10 = .ok (.ifCond .le 33, 3) := by decide +kernel
theorem dX5_can_13 : decode cX5_can 13 = .ok (.lload_n 1, 1) := by decide +kernel
theorem dX5_can_14 : decode cX5_can 14 = .ok (.aload_n 0, 1) := by decide +kernel
theorem dX5_can_15 : decode cX5_can 15 = .ok (.getfield 17, 3) := by decide +kernel
theorem dX5_can_18 : decode cX5_can 18 = .ok (.iload_n 3, 1) := by decide +kernel
theorem dX5_can_19 : decode cX5_can 19 = .ok (.iaload, 1) := by decide +kernel
theorem dX5_can_20 : decode cX5_can 20 = .ok (.invokestatic 71, 3) := by decide +kernel
theorem dX5_can_23 : decode cX5_can 23 = .ok (.ifCond .le 20, 3) := by decide +kernel
theorem dX5_can_26 : decode cX5_can 26 = .ok (.lload_n 1, 1) := by decide +kernel
theorem dX5_can_27 : decode cX5_can 27 = .ok (.aload_n 0, 1) := by decide +kernel
theorem dX5_can_28 : decode cX5_can 28 = .ok (.getfield 20, 3) := by decide +kernel
theorem dX5_can_31 : decode cX5_can 31 = .ok (.iload_n 3, 1) := by decide +kernel
theorem dX5_can_32 : decode cX5_can 32 = .ok (.iaload, 1) := by decide +kernel
theorem dX5_can_33 : decode cX5_can 33 = .ok (.invokestatic 71, 3) := by decide +kernel
theorem dX5_can_36 : decode cX5_can 36 = .ok (.ifCond .le 7, 3) := by decide +kernel
theorem dX5_can_39 : decode cX5_can 39 = .ok (.iconst 1, 1) := by decide +kernel
theorem dX5_can_40 : decode cX5_can 40 = .ok (.goto 4, 3) := by decide +kernel
theorem dX5_can_43 : decode cX5_can 43 = .ok (.iconst 0, 1) := by decide +kernel
theorem dX5_can_44 : decode cX5_can 44 = .ok (.ireturn, 1) := by decide +kernel
theorem dX5_swapsOn_0 : decode cX5_swapsOn 0 = .ok (.iconst 0, 1) := by decide +kernel
theorem dX5_swapsOn_1 : decode cX5_swapsOn 1 = .ok (.istore_n 3, 1) := by decide +kernel
theorem dX5_swapsOn_2 : decode cX5_swapsOn 2 = .ok (.iconst 0, 1) := by decide +kernel
theorem dX5_swapsOn_3 : decode cX5_swapsOn 3 = .ok (.istore 4, 2) := by decide +kernel
theorem dX5_swapsOn_5 : decode cX5_swapsOn 5 = .ok (.iload 4, 2) := by decide +kernel
theorem dX5_swapsOn_7 : decode cX5_swapsOn 7 = .ok (.aload_n 0, 1) := by decide +kernel
theorem dX5_swapsOn_8 : decode cX5_swapsOn 8 = .ok (.getfield 42, 3) := by decide +kernel
theorem dX5_swapsOn_11 : decode cX5_swapsOn 11 = .ok (.if_icmp .ge 22, 3) := by decide +kernel
theorem dX5_swapsOn_14 : decode cX5_swapsOn 14 = .ok (.aload_n 0, 1) := by decide +kernel
theorem dX5_swapsOn_15 : decode cX5_swapsOn 15 = .ok (.lload_n 1, 1) := by decide +kernel
theorem dX5_swapsOn_16 : decode cX5_swapsOn 16 = .ok (.iload 4, 2) := by decide +kernel
theorem dX5_swapsOn_18 : decode cX5_swapsOn 18 = .ok (.invokevirtual 75, 3) := by decide +kernel
theorem dX5_swapsOn_21 : decode cX5_swapsOn 21 = .ok (.ifCond .eq 6, 3) := by decide +kernel
theorem dX5_swapsOn_24 : decode cX5_swapsOn 24 = .ok (.iinc 3 1, 3) := by decide +kernel
theorem dX5_swapsOn_27 : decode cX5_swapsOn 27 = .ok (.iinc 4 1, 3) := by decide +kernel
theorem dX5_swapsOn_30 : decode cX5_swapsOn 30 = .ok (.goto (-25), 3) := by decide +kernel
theorem dX5_swapsOn_33 : decode cX5_swapsOn 33 = .ok (.iload_n 3, 1) := by decide +kernel
theorem dX5_swapsOn_34 : decode cX5_swapsOn 34 = .ok (.ireturn, 1) := by decide +kernel
theorem dX6_init_0 : decode cX6_init 0 = .ok (.aload_n 0, 1) := by decide +kernel
theorem dX6_init_1 : decode cX6_init 1 = .ok (.invokespecial 5, 3) := by decide +kernel
theorem dX6_init_4 : decode cX6_init 4 = .ok (.aload_n 0, 1) := by decide +kernel
theorem dX6_init_5 : decode cX6_init 5 = .ok (.sipush 1000, 3) := by decide +kernel
theorem dX6_init_8 : decode cX6_init 8 = .ok (.newarray .long, 2) := by decide +kernel
theorem dX6_init_10 : decode cX6_init 10 = .ok (.putfield 11, 3) := by decide +kernel
theorem dX6_init_13 : decode cX6_init 13 = .ok (.aload_n 0, 1) := by decide +kernel
theorem dX6_init_14 : decode cX6_init 14 = .ok (.sipush 1001, 3) := by decide +kernel
theorem dX6_init_17 : decode cX6_init 17 = .ok (.newarray .int, 2) := by decide +kernel
theorem dX6_init_19 : decode cX6_init 19 = .ok (.putfield 17, 3) := by decide +kernel
theorem dX6_init_22 : decode cX6_init 22 = .ok (.aload_n 0, 1) := by decide +kernel
theorem dX6_init_23 : decode cX6_init 23 = .ok (.sipush 256, 3) := by decide +kernel
theorem dX6_init_26 : decode cX6_init 26 = .ok (.newarray .int, 2) := by decide +kernel
theorem dX6_init_28 : decode cX6_init 28 = .ok (.putfield 21, 3) := by decide +kernel
theorem dX6_init_31 : decode cX6_init 31 = .ok (.aload_n 0, 1) := by decide +kernel
theorem dX6_init_32 : decode cX6_init 32 = .ok (.sipush 1000, 3) := by decide +kernel
theorem dX6_init_35 : decode cX6_init 35 = .ok (.newarray .int, 2) := by decide +kernel
theorem dX6_init_37 : decode cX6_init 37 = .ok (.putfield 24, 3) := by decide +kernel
theorem dX6_init_40 : decode cX6_init 40 = .ok (.aload_n 0, 1) := by decide +kernel
theorem dX6_init_41 : decode cX6_init 41 = .ok (.sipush 1000, 3) := by decide +kernel
theorem dX6_init_44 : decode cX6_init 44 = .ok (.newarray .int, 2) := by decide +kernel
theorem dX6_init_46 : decode cX6_init 46 = .ok (.putfield 27, 3) := by decide +kernel
theorem dX6_init_49 : decode cX6_init 49 = .ok (.aload_n 0, 1) := by decide +kernel
theorem dX6_init_50 : decode cX6_init 50 = .ok (.sipush 1000, 3) := by decide +kernel
theorem dX6_init_53 : decode cX6_init 53 = .ok (.newarray .int, 2) := by decide +kernel
theorem dX6_init_55 : decode cX6_init 55 = .ok (.putfield 30, 3) := by decide +kernel
theorem dX6_init_58 : decode cX6_init 58 = .ok (.aload_n 0, 1) := by decide +kernel
theorem dX6_init_59 : decode cX6_init 59 = .ok (.sipush 1000, 3) := by decide +kernel
theorem dX6_init_62 : decode cX6_init 62 = .ok (.newarray .int, 2) := by decide +kernel
theorem dX6_init_64 : decode cX6_init 64 = .ok (.putfield 33, 3) := by decide +kernel
theorem dX6_init_67 : decode cX6_init 67 = .ok (.aload_n 0, 1) := by decide +kernel
theorem dX6_init_68 : decode cX6_init 68 = .ok (.sipush 1000, 3) := by decide +kernel
theorem dX6_init_71 : decode cX6_init 71 = .ok (.newarray .long, 2) := by decide +kernel
theorem dX6_init_73 : decode cX6_init 73 = .ok (.putfield 36, 3) := by decide +kernel
theorem dX6_init_76 : decode cX6_init 76 = .ok (.aload_n 0, 1) := by decide +kernel
theorem dX6_init_77 : decode cX6_init 77 = .ok (.sipush 1000, 3) := by decide +kernel
theorem dX6_init_80 : decode cX6_init 80 = .ok (.newarray .long, 2) := by decide +kernel
theorem dX6_init_82 : decode cX6_init 82 = .ok (.putfield 39, 3) := by decide +kernel
theorem dX6_init_85 : decode cX6_init 85 = .ok (.aload_n 0, 1) := by decide +kernel
theorem dX6_init_86 : decode cX6_init 86 = .ok (.aload_n 1, 1) := by decide +kernel
theorem dX6_init_87 : decode cX6_init 87 = .ok (.putfield 42, 3) := by decide +kernel
theorem dX6_init_90 : decode cX6_init 90 = .ok (.aload_n 0, 1) := by decide +kernel
theorem dX6_init_91 : decode cX6_init 91 = .ok (.aload_n 2, 1) := by decide +kernel
theorem dX6_init_92 : decode cX6_init 92 = .ok (.putfield 46, 3) := by decide +kernel
theorem dX6_init_95 : decode cX6_init 95 = .ok (.return_, 1) := by decide +kernel
theorem dX6_forget_0 : decode cX6_forget 0 = .ok (.aload_n 0, 1) := by decide +kernel
theorem dX6_forget_1 : decode cX6_forget 1 = .ok (.iconst 0, 1) := by decide +kernel
theorem dX6_forget_2 : decode cX6_forget 2 = .ok (.putfield 50, 3) := by decide +kernel
theorem dX6_forget_5 : decode cX6_forget 5 = .ok (.return_, 1) := by decide +kernel
theorem dX6_prepare_0 : decode cX6_prepare 0 = .ok (.aload_n 0, 1) := by decide +kernel
theorem dX6_prepare_1 : decode cX6_prepare 1 = .ok (.getfield 50, 3) := by decide +kernel
theorem dX6_prepare_4 : decode cX6_prepare 4 = .ok (.ifCond .eq 4, 3) := by decide +kernel
theorem dX6_prepare_7 : decode cX6_prepare 7 = .ok (.return_, 1) := by decide +kernel
theorem dX6_prepare_8 : decode cX6_prepare 8 = .ok (.aload_n 0, 1) := by decide +kernel
theorem dX6_prepare_9 : decode cX6_prepare 9 = .ok (.iconst 1, 1) := by decide +kernel
theorem dX6_prepare_10 : decode cX6_prepare 10 = .ok (.putfield 50, 3) := by decide +kernel
theorem dX6_prepare_13 : decode cX6_prepare 13 = .ok (.aload_n 0, 1) := by decide +kernel
theorem dX6_prepare_14 : decode cX6_prepare 14 = .ok (.iconst (-1), 1) := by decide +kernel
theorem dX6_prepare_15 : decode cX6_prepare 15 = .ok (.putfield 54, 3) := by decide +kernel
theorem dX6_prepare_18 : decode cX6_prepare 18 = .ok (.aload_n 0, 1) := by decide +kernel
theorem dX6_prepare_19 : decode cX6_prepare 19 = .ok (.iconst (-1), 1) := by decide +kernel
theorem dX6_prepare_20 : decode cX6_prepare 20 = .ok (.putfield 58, 3) := by decide +kernel
theorem dX6_prepare_23 : decode cX6_prepare 23 = .ok (.aload_n 0, 1) := by decide +kernel
theorem dX6_prepare_24 : decode cX6_prepare 24 = .ok (.ldc2_w 61, 3) := by decide +kernel
theorem dX6_prepare_27 : decode cX6_prepare 27 = .ok (.aload_n 0, 1) := by decide +kernel
theorem dX6_prepare_28 : decode cX6_prepare 28 = .ok (.getfield 42, 3) := by decide +kernel
theorem dX6_prepare_31 : decode cX6_prepare 31 = .ok (.invokevirtual 63, 3) := by decide +kernel
theorem dX6_prepare_34 : decode cX6_prepare 34 = .ok (.invokestatic 69, 3) := by decide +kernel
theorem dX6_prepare_37 : decode cX6_prepare 37 = .ok (.l2i, 1) := by decide +kernel
theorem dX6_prepare_38 : decode cX6_prepare 38 = .ok (.putfield 75, 3) := by decide +kernel
theorem dX6_prepare_41 : decode cX6_prepare 41 = .ok (.iconst 0, 1) := by decide +kernel
theorem dX6_prepare_42 : decode cX6_prepare 42 = .ok (.istore_n 1, 1) := by decide +kernel
theorem dX6_prepare_43 : decode cX6_prepare 43 = .ok (.iload_n 1, 1) := by decide +kernel
theorem dX6_prepare_44 : decode cX6_prepare 44 = .ok (.aload_n 0, 1) := by decide +kernel
theorem dX6_prepare_45 : decode cX6_prepare 45 = .ok (.getfield 75, 3) := by decide +kernel
theorem dX6_prepare_48 : decode cX6_prepare 48 = .ok (.if_icmp .ge 24, 3) := by decide +kernel
theorem dX6_prepare_51 : decode cX6_prepare 51 = .ok (.aload_n 0, 1) := by decide +kernel
theorem dX6_prepare_52 : decode cX6_prepare 52 = .ok (.getfield 11, 3) := by decide +kernel
theorem dX6_prepare_55 : decode cX6_prepare 55 = .ok (.iload_n 1, 1) := by decide +kernel
theorem dX6_prepare_56 : decode cX6_prepare 56 = .ok (.aload_n 0, 1) := by decide +kernel
theorem dX6_prepare_57 : decode cX6_prepare 57 = .ok (.getfield 42, 3) := by decide +kernel
theorem dX6_prepare_60 : decode cX6_prepare 60 = .ok (.iload_n 1, 1) := by decide +kernel
theorem dX6_prepare_61 : decode cX6_prepare 61 = .ok (.i2l, 1) := by decide +kernel
theorem dX6_prepare_62 : decode cX6_prepare 62 = .ok (.invokevirtual 77, 3) := by decide +kernel
theorem dX6_prepare_65 : decode cX6_prepare 65 = .ok (.lastore, 1) := by decide +kernel
theorem dX6_prepare_66 : decode cX6_prepare 66 = .ok (.iinc 1 1, 3) := by decide +kernel
theorem dX6_prepare_69 : decode cX6_prepare 69 = .ok (.goto (-26), 3) := by decide +kernel
theorem dX6_prepare_72 : decode cX6_prepare 72 = .ok (.aload_n 0, 1) := by decide +kernel
theorem dX6_prepare_73 : decode cX6_prepare 73 = .ok (.iconst 0, 1) := by decide +kernel
theorem dX6_prepare_74 : decode cX6_prepare 74 = .ok (.putfield 81, 3) := by decide +kernel
theorem dX6_prepare_77 : decode cX6_prepare 77 = .ok (.iconst 0, 1) := by decide +kernel
theorem dX6_prepare_78 : decode cX6_prepare 78 = .ok (.istore_n 1, 1) := by decide +kernel
theorem dX6_prepare_79 : decode cX6_prepare 79 = .ok (.iload_n 1, 1) := by decide +kernel
theorem dX6_prepare_80 : decode cX6_prepare 80 = .ok (.aload_n 0, 1) := by decide +kernel
theorem dX6_prepare_81 : decode cX6_prepare 81 = .ok (.getfield 75, 3) := by decide +kernel
theorem dX6_prepare_84 : decode cX6_prepare 84 = .ok (.if_icmp .ge 24, 3) := by decide +kernel
theorem dX6_prepare_87 : decode cX6_prepare 87 = .ok (.aload_n 0, 1) := by decide +kernel
theorem dX6_prepare_88 : decode cX6_prepare 88 = .ok (.getfield 17, 3) := by decide +kernel
theorem dX6_prepare_91 : decode cX6_prepare 91 = .ok (.iload_n 1, 1) := by decide +kernel
theorem dX6_prepare_92 : decode cX6_prepare 92 = .ok (.aload_n 0, 1) := by decide +kernel
theorem dX6_prepare_93 : decode cX6_prepare 93 = .ok (.getfield 81, 3) := by decide +kernel
theorem dX6_prepare_96 : decode cX6_prepare 96 = .ok (.iastore, 1) := by decide +kernel
theorem dX6_prepare_97 : decode cX6_prepare 97 = .ok (.aload_n 0, 1) := by decide +kernel
theorem dX6_prepare_98 : decode cX6_prepare 98 = .ok (.iload_n 1, 1) := by decide +kernel
theorem dX6_prepare_99 : decode cX6_prepare 99 = .ok (.invokevirtual 84, 3) := by decide +kernel
theorem dX6_prepare_102 : decode cX6_prepare 102 = .ok (.iinc 1 1, 3) := by decide +kernel
theorem dX6_prepare_105 : decode cX6_prepare 105 = .ok (.goto (-26), 3) := by decide +kernel
theorem dX6_prepare_108 : decode cX6_prepare 108 = .ok (.aload_n 0, 1) := by decide +kernel
theorem dX6_prepare_109 : decode cX6_prepare 109 = .ok (.getfield 17, 3) := by decide +kernel
theorem dX6_prepare_112 : decode cX6_prepare 112 = .ok (.aload_n 0, 1) := by decide +kernel
theorem dX6_prepare_113 : decode cX6_prepare 113 = .ok (.getfield 75, 3) := by decide +kernel
theorem dX6_prepare_116 : decode cX6_prepare 116 = .ok (.aload_n 0, 1) := by decide +kernel
theorem dX6_prepare_117 : decode cX6_prepare 117 = .ok (.getfield 81, 3) := by decide +kernel
theorem dX6_prepare_120 : decode cX6_prepare 120 = .ok (.iastore, 1) := by decide +kernel
theorem dX6_prepare_121 : decode cX6_prepare 121 = .ok (.aload_n 0, 1) := by decide +kernel
theorem dX6_prepare_122 : decode cX6_prepare 122 = .ok (.invokevirtual 88, 3) := by decide +kernel
theorem dX6_prepare_125 : decode cX6_prepare 125 = .ok (.return_, 1) := by decide +kernel
theorem dX6_linkSwaps_0 : decode cX6_linkSwaps 0 = .ok (.iconst 0, 1) := by decide +kernel
theorem dX6_linkSwaps_1 : decode cX6_linkSwaps 1 = .ok (.istore_n 2, 1) := by decide +kernel
theorem dX6_linkSwaps_2 : decode cX6_linkSwaps 2 = .ok (.iload_n 2, 1) := by decide +kernel
theorem dX6_linkSwaps_3 : decode cX6_linkSwaps 3 = .ok (.aload_n 0, 1) := by decide +kernel
theorem dX6_linkSwaps_4 : decode cX6_linkSwaps 4 = .ok (.getfield 46, 3) := by decide +kernel
theorem dX6_linkSwaps_7 : decode cX6_linkSwaps 7 = .ok (.getfield 91, 3) := by decide +kernel
theorem dX6_linkSwaps_10 : decode cX6_linkSwaps 10 = .ok (.if_icmp .ge 109, 3) := by decide +kernel
theorem dX6_linkSwaps_13 : decode cX6_linkSwaps 13 = .ok (.aload_n 0, 1) := by decide +kernel
theorem dX6_linkSwaps_14 : decode cX6_linkSwaps 14 = .ok (.getfield 46, 3) := by decide +kernel
theorem dX6_linkSwaps_17 : decode cX6_linkSwaps 17 = .ok (.aload_n 0, 1) := by decide +kernel
theorem dX6_linkSwaps_18 : decode cX6_linkSwaps 18 = .ok (.getfield 11, 3) := by decide +kernel
theorem dX6_linkSwaps_21 : decode cX6_linkSwaps 21 = .ok (.iload_n 1, 1) := by decide +kernel
theorem dX6_linkSwaps_22 : decode cX6_linkSwaps 22 = .ok (.laload, 1) := by decide +kernel
theorem dX6_linkSwaps_23 : decode cX6_linkSwaps 23 = .ok (.iload_n 2, 1) := by decide +kernel
theorem dX6_linkSwaps_24 : decode cX6_linkSwaps 24 = .ok (.invokevirtual 94, 3) := by decide +kernel
theorem dX6_linkSwaps_27 : decode cX6_linkSwaps 27 = .ok (.ifCond .eq 86, 3) := by decide +kernel
theorem dX6_linkSwaps_30 : decode cX6_linkSwaps 30 = .ok (.aload_n 0, 1) := by decide +kernel
theorem dX6_linkSwaps_31 : decode cX6_linkSwaps 31 = .ok (.getfield 81, 3) := by decide +kernel
theorem dX6_linkSwaps_34 : decode cX6_linkSwaps 34 = .ok (.ldc 98, 2) := by decide +kernel
theorem dX6_linkSwaps_36 : decode cX6_linkSwaps 36 = .ok (.if_icmp .ge 77, 3) := by decide +kernel
theorem dX6_linkSwaps_39 : decode cX6_linkSwaps 39 = .ok (.aload_n 0, 1) := by decide +kernel
theorem dX6_linkSwaps_40 : decode cX6_linkSwaps 40 = .ok (.getfield 81, 3) := by decide +kernel
theorem dX6_linkSwaps_43 : decode cX6_linkSwaps 43 = .ok (.aload_n 0, 1) := by decide +kernel
theorem dX6_linkSwaps_44 : decode cX6_linkSwaps 44 = .ok (.getfield 21, 3) := by decide +kernel
theorem dX6_linkSwaps_47 : decode cX6_linkSwaps 47 = .ok (.arraylength, 1) := by decide +kernel
theorem dX6_linkSwaps_48 : decode cX6_linkSwaps 48 = .ok (.if_icmp .lt 26, 3) := by decide +kernel
theorem dX6_linkSwaps_51 : decode cX6_linkSwaps 51 = .ok (.aload_n 0, 1) := by decide +kernel
theorem dX6_linkSwaps_52 : decode cX6_linkSwaps 52 = .ok (.aload_n 0, 1) := by decide +kernel
theorem dX6_linkSwaps_53 : decode cX6_linkSwaps 53 = .ok (.getfield 21, 3) := by decide +kernel
theorem dX6_linkSwaps_56 : decode cX6_linkSwaps 56 = .ok (.ldc 98, 2) := by decide +kernel
theorem dX6_linkSwaps_58 : decode cX6_linkSwaps 58 = .ok (.iconst 2, 1) := by decide +kernel
theorem dX6_linkSwaps_59 : decode cX6_linkSwaps 59 = .ok (.aload_n 0, 1) := by decide +kernel
theorem dX6_linkSwaps_60 : decode cX6_linkSwaps 60 = .ok (.getfield 21, 3) := by decide +kernel
theorem dX6_linkSwaps_63 : decode cX6_linkSwaps 63 = .ok (.arraylength, 1) := by decide +kernel
theorem dX6_linkSwaps_64 : decode cX6_linkSwaps 64 = .ok (.imul, 1) := by decide +kernel
theorem dX6_linkSwaps_65 : decode cX6_linkSwaps 65 = .ok (.invokestatic 99, 3) := by decide +kernel
theorem dX6_linkSwaps_68 : decode cX6_linkSwaps 68 = .ok (.invokestatic 102, 3) := by decide +kernel
theorem dX6_linkSwaps_71 : decode cX6_linkSwaps 71 = .ok (.putfield 21, 3) := by decide +kernel
theorem dX6_linkSwaps_74 : decode cX6_linkSwaps 74 = .ok (.aload_n 0, 1) := by decide +kernel
theorem dX6_linkSwaps_75 : decode cX6_linkSwaps 75 = .ok (.getfield 21, 3) := by decide +kernel
theorem dX6_linkSwaps_78 : decode cX6_linkSwaps 78 = .ok (.aload_n 0, 1) := by decide +kernel
theorem dX6_linkSwaps_79 : decode cX6_linkSwaps 79 = .ok (.getfield 81, 3) := by decide +kernel
theorem dX6_linkSwaps_82 : decode cX6_linkSwaps 82 = .ok (.aload_n 0, 1) := by decide +kernel
theorem dX6_linkSwaps_83 : decode cX6_linkSwaps 83 = .ok (.aload_n 0, 1) := by decide +kernel
theorem dX6_linkSwaps_84 : decode cX6_linkSwaps 84 = .ok (.getfield 11, 3) := by decide +kernel
theorem dX6_linkSwaps_87 : decode cX6_linkSwaps 87 = .ok (.iload_n 1, 1) := by decide +kernel
theorem dX6_linkSwaps_88 : decode cX6_linkSwaps 88 = .ok (.laload, 1) := by decide +kernel
theorem dX6_linkSwaps_89 : decode cX6_linkSwaps 89 = .ok (.aload_n 0, 1) := by decide +kernel
theorem dX6_linkSwaps_90 : decode cX6_linkSwaps 90 = .ok (.getfield 46, 3) := by decide +kernel
theorem dX6_linkSwaps_93 : decode cX6_linkSwaps 93 = .ok (.getfield 108, 3) := by decide +kernel
theorem dX6_linkSwaps_96 : decode cX6_linkSwaps 96 = .ok (.iload_n 2, 1) := by decide +kernel
theorem dX6_linkSwaps_97 : decode cX6_linkSwaps 97 = .ok (.laload, 1) := by decide +kernel
theorem dX6_linkSwaps_98 : decode cX6_linkSwaps 98 = .ok (.ladd, 1) := by decide +kernel
theorem dX6_linkSwaps_99 : decode cX6_linkSwaps 99 = .ok (.invokevirtual 111, 3) := by decide +kernel
theorem dX6_linkSwaps_102 : decode cX6_linkSwaps 102 = .ok (.iastore, 1) := by decide +kernel
theorem dX6_linkSwaps_103 : decode cX6_linkSwaps 103 = .ok (.aload_n 0, 1) := by decide +kernel
theorem dX6_linkSwaps_104 : decode cX6_linkSwaps 104 = .ok (.dup, 1) := by decide +kernel
theorem dX6_linkSwaps_105 : decode cX6_linkSwaps 105 = .ok (.getfield 81, 3) := by decide +kernel
theorem dX6_linkSwaps_108 : decode cX6_linkSwaps 108 = .ok (.iconst 1, 1) := by decide +kernel
theorem dX6_linkSwaps_109 : decode cX6_linkSwaps 109 = .ok (.iadd, 1) := by decide +kernel
theorem dX6_linkSwaps_110 : decode cX6_linkSwaps 110 = .ok (.putfield 81, 3) := by decide +kernel
theorem dX6_linkSwaps_113 : decode cX6_linkSwaps 113 = .ok (.iinc 2 1, 3) := by decide +kernel
theorem dX6_linkSwaps_116 : decode cX6_linkSwaps 116 = .ok (.goto (-114), 3) := by decide +kernel
theorem dX6_linkSwaps_119 : decode cX6_linkSwaps 119 = .ok (.return_, 1) := by decide +kernel
theorem dX6_find_0 : decode cX6_find 0 = .ok (.iconst 0, 1) := by decide +kernel
theorem dX6_find_1 : decode cX6_find 1 = .ok (.istore_n 3, 1) := by decide +kernel
theorem dX6_find_2 : decode cX6_find 2 = .ok (.sipush 512, 3) := by decide +kernel
theorem dX6_find_5 : decode cX6_find 5 = .ok (.istore 4, 2) := by decide +kernel
theorem dX6_find_7 : decode cX6_find 7 = .ok (.iload 4, 2) := by decide +kernel
theorem dX6_find_9 : decode cX6_find 9 = .ok (.ifCond .le 50, 3) := by decide +kernel
theorem dX6_find_12 : decode cX6_find 12 = .ok (.iload_n 3, 1) := by decide +kernel
theorem dX6_find_13 : decode cX6_find 13 = .ok (.iload 4, 2) := by decide +kernel
theorem dX6_find_15 : decode cX6_find 15 = .ok (.iadd, 1) := by decide +kernel
theorem dX6_find_16 : decode cX6_find 16 = .ok (.aload_n 0, 1) := by decide +kernel
theorem dX6_find_17 : decode cX6_find 17 = .ok (.getfield 75, 3) := by decide +kernel
theorem dX6_find_20 : decode cX6_find 20 = .ok (.if_icmp .ge 30, 3) := by decide +kernel
theorem dX6_find_23 : decode cX6_find 23 = .ok (.aload_n 0, 1) := by decide +kernel
theorem dX6_find_24 : decode cX6_find 24 = .ok (.getfield 11, 3) := by decide +kernel
theorem dX6_find_27 : decode cX6_find 27 = .ok (.iload_n 3, 1) := by decide +kernel
theorem dX6_find_28 : decode cX6_find 28 = .ok (.iload 4, 2) := by decide +kernel
theorem dX6_find_30 : decode cX6_find 30 = .ok (.iadd, 1) := by decide +kernel
theorem dX6_find_31 : decode cX6_find 31 = .ok (.laload, 1) := by decide +kernel
theorem dX6_find_32 : decode cX6_find 32 = .ok (.ldc2_w 115, 3) := by decide +kernel
theorem dX6_find_35 : decode cX6_find 35 = .ok (.lxor, 1) := by decide +kernel
theorem dX6_find_36 : decode cX6_find 36 = .ok (.lload_n 1, 1) := by decide +kernel
theorem dX6_find_37 : decode cX6_find 37 = .ok (.ldc2_w 115, 3) := by decide +kernel
theorem dX6_find_40 : decode cX6_find 40 = .ok (.lxor, 1) := by decide +kernel
theorem dX6_find_41 : decode cX6_find 41 = .ok (.lcmp, 1) := by decide +kernel
theorem dX6_find_42 : decode cX6_find 42 = .ok (.ifCond .gt 8, 3) := by decide +kernel
