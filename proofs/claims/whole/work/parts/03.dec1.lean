theorem dX7_get_0 : decode cX7_get 0 = .ok (.iload_n 1, 1) := by decide +kernel
theorem dX7_get_1 : decode cX7_get 1 = .ok (.ifCond .lt 15, 3) := by decide +kernel
theorem dX7_get_4 : decode cX7_get 4 = .ok (.iload_n 1, 1) := by decide +kernel
theorem dX7_get_5 : decode cX7_get 5 = .ok (.aload_n 0, 1) := by decide +kernel
theorem dX7_get_6 : decode cX7_get 6 = .ok (.arraylength, 1) := by decide +kernel
theorem dX7_get_7 : decode cX7_get 7 = .ok (.if_icmp .ge 9, 3) := by decide +kernel
theorem dX7_get_10 : decode cX7_get 10 = .ok (.aload_n 0, 1) := by decide +kernel
theorem dX7_get_11 : decode cX7_get 11 = .ok (.iload_n 1, 1) := by decide +kernel
theorem dX7_get_12 : decode cX7_get 12 = .ok (.iaload, 1) := by decide +kernel
theorem dX7_get_13 : decode cX7_get 13 = .ok (.goto 4, 3) := by decide +kernel
theorem dX7_get_16 : decode cX7_get 16 = .ok (.iconst 0, 1) := by decide +kernel
theorem dX7_get_17 : decode cX7_get 17 = .ok (.ireturn, 1) := by decide +kernel
theorem dX7_get__0 : decode cX7_get_ 0 = .ok (.iload_n 1, 1) := by decide +kernel
theorem dX7_get__1 : decode cX7_get_ 1 = .ok (.ifCond .lt 15, 3) := by decide +kernel
theorem dX7_get__4 : decode cX7_get_ 4 = .ok (.iload_n 1, 1) := by decide +kernel
theorem dX7_get__5 : decode cX7_get_ 5 = .ok (.aload_n 0, 1) := by decide +kernel
theorem dX7_get__6 : decode cX7_get_ 6 = .ok (.arraylength, 1) := by decide +kernel
theorem dX7_get__7 : decode cX7_get_ 7 = .ok (.if_icmp .ge 9, 3) := by decide +kernel
theorem dX7_get__10 : decode cX7_get_ 10 = .ok (.aload_n 0, 1) := by decide +kernel
theorem dX7_get__11 : decode cX7_get_ 11 = .ok (.iload_n 1, 1) := by decide +kernel
theorem dX7_get__12 : decode cX7_get_ 12 = .ok (.laload, 1) := by decide +kernel
theorem dX7_get__13 : decode cX7_get_ 13 = .ok (.goto 4, 3) := by decide +kernel
theorem dX7_get__16 : decode cX7_get_ 16 = .ok (.lconst 0, 1) := by decide +kernel
theorem dX7_get__17 : decode cX7_get_ 17 = .ok (.lreturn, 1) := by decide +kernel
theorem dX7_get___0 : decode cX7_get__ 0 = .ok (.iload_n 1, 1) := by decide +kernel
theorem dX7_get___1 : decode cX7_get__ 1 = .ok (.ifCond .lt 19, 3) := by decide +kernel
theorem dX7_get___4 : decode cX7_get__ 4 = .ok (.iload_n 1, 1) := by decide +kernel
theorem dX7_get___5 : decode cX7_get__ 5 = .ok (.aload_n 0, 1) := by decide +kernel
theorem dX7_get___6 : decode cX7_get__ 6 = .ok (.arraylength, 1) := by decide +kernel
theorem dX7_get___7 : decode cX7_get__ 7 = .ok (.if_icmp .ge 13, 3) := by decide +kernel
theorem dX7_get___10 : decode cX7_get__ 10 = .ok (.aload_n 0, 1) := by decide +kernel
theorem dX7_get___11 : decode cX7_get__ 11 = .ok (.iload_n 1, 1) := by decide +kernel
theorem dX7_get___12 : decode cX7_get__ 12 = .ok (.baload, 1) := by decide +kernel
theorem dX7_get___13 : decode cX7_get__ 13 = .ok (.ifCond .eq 7, 3) := by decide +kernel
theorem dX7_get___16 : decode cX7_get__ 16 = .ok (.iconst 1, 1) := by decide +kernel
theorem dX7_get___17 : decode cX7_get__ 17 = .ok (.goto 4, 3) := by decide +kernel
theorem dX7_get___20 : decode cX7_get__ 20 = .ok (.iconst 0, 1) := by decide +kernel
theorem dX7_get___21 : decode cX7_get__ 21 = .ok (.ireturn, 1) := by decide +kernel
theorem dX7_put_0 : decode cX7_put 0 = .ok (.iload_n 1, 1) := by decide +kernel
theorem dX7_put_1 : decode cX7_put 1 = .ok (.ifCond .lt 13, 3) := by decide +kernel
theorem dX7_put_4 : decode cX7_put 4 = .ok (.iload_n 1, 1) := by decide +kernel
theorem dX7_put_5 : decode cX7_put 5 = .ok (.aload_n 0, 1) := by decide +kernel
theorem dX7_put_6 : decode cX7_put 6 = .ok (.arraylength, 1) := by decide +kernel
theorem dX7_put_7 : decode cX7_put 7 = .ok (.if_icmp .ge 7, 3) := by decide +kernel
theorem dX7_put_10 : decode cX7_put 10 = .ok (.aload_n 0, 1) := by decide +kernel
theorem dX7_put_11 : decode cX7_put 11 = .ok (.iload_n 1, 1) := by decide +kernel
theorem dX7_put_12 : decode cX7_put 12 = .ok (.iload_n 2, 1) := by decide +kernel
theorem dX7_put_13 : decode cX7_put 13 = .ok (.iastore, 1) := by decide +kernel
theorem dX7_put_14 : decode cX7_put 14 = .ok (.return_, 1) := by decide +kernel
theorem dX7_put__0 : decode cX7_put_ 0 = .ok (.iload_n 1, 1) := by decide +kernel
theorem dX7_put__1 : decode cX7_put_ 1 = .ok (.ifCond .lt 13, 3) := by decide +kernel
theorem dX7_put__4 : decode cX7_put_ 4 = .ok (.iload_n 1, 1) := by decide +kernel
theorem dX7_put__5 : decode cX7_put_ 5 = .ok (.aload_n 0, 1) := by decide +kernel
theorem dX7_put__6 : decode cX7_put_ 6 = .ok (.arraylength, 1) := by decide +kernel
theorem dX7_put__7 : decode cX7_put_ 7 = .ok (.if_icmp .ge 7, 3) := by decide +kernel
theorem dX7_put__10 : decode cX7_put_ 10 = .ok (.aload_n 0, 1) := by decide +kernel
theorem dX7_put__11 : decode cX7_put_ 11 = .ok (.iload_n 1, 1) := by decide +kernel
theorem dX7_put__12 : decode cX7_put_ 12 = .ok (.lload_n 2, 1) := by decide +kernel
theorem dX7_put__13 : decode cX7_put_ 13 = .ok (.lastore, 1) := by decide +kernel
theorem dX7_put__14 : decode cX7_put_ 14 = .ok (.return_, 1) := by decide +kernel
theorem dX7_put___0 : decode cX7_put__ 0 = .ok (.iload_n 1, 1) := by decide +kernel
theorem dX7_put___1 : decode cX7_put__ 1 = .ok (.ifCond .lt 13, 3) := by decide +kernel
theorem dX7_put___4 : decode cX7_put__ 4 = .ok (.iload_n 1, 1) := by decide +kernel
theorem dX7_put___5 : decode cX7_put__ 5 = .ok (.aload_n 0, 1) := by decide +kernel
theorem dX7_put___6 : decode cX7_put__ 6 = .ok (.arraylength, 1) := by decide +kernel
theorem dX7_put___7 : decode cX7_put__ 7 = .ok (.if_icmp .ge 7, 3) := by decide +kernel
theorem dX7_put___10 : decode cX7_put__ 10 = .ok (.aload_n 0, 1) := by decide +kernel
theorem dX7_put___11 : decode cX7_put__ 11 = .ok (.iload_n 1, 1) := by decide +kernel
theorem dX7_put___12 : decode cX7_put__ 12 = .ok (.iload_n 2, 1) := by decide +kernel
theorem dX7_put___13 : decode cX7_put__ 13 = .ok (.bastore, 1) := by decide +kernel
theorem dX7_put___14 : decode cX7_put__ 14 = .ok (.return_, 1) := by decide +kernel
theorem dX7_cut_0 : decode cX7_cut 0 = .ok (.iload_n 0, 1) := by decide +kernel
theorem dX7_cut_1 : decode cX7_cut 1 = .ok (.ifCond .ge 7, 3) := by decide +kernel
theorem dX7_cut_4 : decode cX7_cut 4 = .ok (.iconst 0, 1) := by decide +kernel
theorem dX7_cut_5 : decode cX7_cut 5 = .ok (.goto 13, 3) := by decide +kernel
theorem dX7_cut_8 : decode cX7_cut 8 = .ok (.iload_n 0, 1) := by decide +kernel
theorem dX7_cut_9 : decode cX7_cut 9 = .ok (.iload_n 1, 1) := by decide +kernel
theorem dX7_cut_10 : decode cX7_cut 10 = .ok (.if_icmp .le 7, 3) := by decide +kernel
theorem dX7_cut_13 : decode cX7_cut 13 = .ok (.iload_n 1, 1) := by decide +kernel
theorem dX7_cut_14 : decode cX7_cut 14 = .ok (.goto 4, 3) := by decide +kernel
theorem dX7_cut_17 : decode cX7_cut 17 = .ok (.iload_n 0, 1) := by decide +kernel
theorem dX7_cut_18 : decode cX7_cut 18 = .ok (.ireturn, 1) := by decide +kernel
theorem dX7_quotient_0 : decode cX7_quotient 0 = .ok (.lload_n 2, 1) := by decide +kernel
theorem dX7_quotient_1 : decode cX7_quotient 1 = .ok (.lconst 0, 1) := by decide +kernel
theorem dX7_quotient_2 : decode cX7_quotient 2 = .ok (.lcmp, 1) := by decide +kernel
theorem dX7_quotient_3 : decode cX7_quotient 3 = .ok (.ifCond .ne 7, 3) := by decide +kernel
theorem dX7_quotient_6 : decode cX7_quotient 6 = .ok (.lconst 0, 1) := by decide +kernel
theorem dX7_quotient_7 : decode cX7_quotient 7 = .ok (.goto 6, 3) := by decide +kernel
theorem dX7_quotient_10 : decode cX7_quotient 10 = .ok (.lload_n 0, 1) := by decide +kernel
theorem dX7_quotient_11 : decode cX7_quotient 11 = .ok (.lload_n 2, 1) := by decide +kernel
theorem dX7_quotient_12 : decode cX7_quotient 12 = .ok (.ldiv, 1) := by decide +kernel
theorem dX7_quotient_13 : decode cX7_quotient 13 = .ok (.lreturn, 1) := by decide +kernel
theorem dX7_lowest_0 : decode cX7_lowest 0 = .ok (.iload 4, 2) := by decide +kernel
theorem dX7_lowest_2 : decode cX7_lowest 2 = .ok (.ifCond .eq 13, 3) := by decide +kernel
theorem dX7_lowest_5 : decode cX7_lowest 5 = .ok (.iload 4, 2) := by decide +kernel
theorem dX7_lowest_7 : decode cX7_lowest 7 = .ok (.iconst 1, 1) := by decide +kernel
theorem dX7_lowest_8 : decode cX7_lowest 8 = .ok (.if_icmp .eq 7, 3) := by decide +kernel
theorem dX7_lowest_11 : decode cX7_lowest 11 = .ok (.ldc2_w 9, 3) := by decide +kernel
theorem dX7_lowest_14 : decode cX7_lowest 14 = .ok (.lreturn, 1) := by decide +kernel
theorem dX7_lowest_15 : decode cX7_lowest 15 = .ok (.iload 4, 2) := by decide +kernel
theorem dX7_lowest_17 : decode cX7_lowest 17 = .ok (.ifCond .ne 7, 3) := by decide +kernel
theorem dX7_lowest_20 : decode cX7_lowest 20 = .ok (.lload_n 0, 1) := by decide +kernel
theorem dX7_lowest_21 : decode cX7_lowest 21 = .ok (.goto 4, 3) := by decide +kernel
theorem dX7_lowest_24 : decode cX7_lowest 24 = .ok (.lload_n 2, 1) := by decide +kernel
theorem dX7_lowest_25 : decode cX7_lowest 25 = .ok (.lload_n 0, 1) := by decide +kernel
theorem dX7_lowest_26 : decode cX7_lowest 26 = .ok (.lload_n 2, 1) := by decide +kernel
theorem dX7_lowest_27 : decode cX7_lowest 27 = .ok (.invokestatic 11, 3) := by decide +kernel
theorem dX7_lowest_30 : decode cX7_lowest 30 = .ok (.invokestatic 17, 3) := by decide +kernel
theorem dX7_lowest_33 : decode cX7_lowest 33 = .ok (.lreturn, 1) := by decide +kernel
theorem dX7_divisor_0 : decode cX7_divisor 0 = .ok (.lload_n 0, 1) := by decide +kernel
theorem dX7_divisor_1 : decode cX7_divisor 1 = .ok (.lstore 4, 2) := by decide +kernel
theorem dX7_divisor_3 : decode cX7_divisor 3 = .ok (.lload_n 2, 1) := by decide +kernel
theorem dX7_divisor_4 : decode cX7_divisor 4 = .ok (.lstore 6, 2) := by decide +kernel
theorem dX7_divisor_6 : decode cX7_divisor 6 = .ok (.iconst 0, 1) := by decide +kernel
theorem dX7_divisor_7 : decode cX7_divisor 7 = .ok (.istore 8, 2) := by decide +kernel
theorem dX7_divisor_9 : decode cX7_divisor 9 = .ok (.iload 8, 2) := by decide +kernel
theorem dX7_divisor_11 : decode cX7_divisor 11 = .ok (.sipush 200, 3) := by decide +kernel
theorem dX7_divisor_14 : decode cX7_divisor 14 = .ok (.if_icmp .ge 31, 3) := by decide +kernel
theorem dX7_divisor_17 : decode cX7_divisor 17 = .ok (.lload 6, 2) := by decide +kernel
theorem dX7_divisor_19 : decode cX7_divisor 19 = .ok (.lconst 0, 1) := by decide +kernel
theorem dX7_divisor_20 : decode cX7_divisor 20 = .ok (.lcmp, 1) := by decide +kernel
theorem dX7_divisor_21 : decode cX7_divisor 21 = .ok (.ifCond .eq 24, 3) := by decide +kernel
theorem dX7_divisor_24 : decode cX7_divisor 24 = .ok (.lload 4, 2) := by decide +kernel
theorem dX7_divisor_26 : decode cX7_divisor 26 = .ok (.lload 6, 2) := by decide +kernel
theorem dX7_divisor_28 : decode cX7_divisor 28 = .ok (.lrem, 1) := by decide +kernel
theorem dX7_divisor_29 : decode cX7_divisor 29 = .ok (.lstore 9, 2) := by decide +kernel
theorem dX7_divisor_31 : decode cX7_divisor 31 = .ok (.lload 6, 2) := by decide +kernel
theorem dX7_divisor_33 : decode cX7_divisor 33 = .ok (.lstore 4, 2) := by decide +kernel
theorem dX7_divisor_35 : decode cX7_divisor 35 = .ok (.lload 9, 2) := by decide +kernel
theorem dX7_divisor_37 : decode cX7_divisor 37 = .ok (.lstore 6, 2) := by decide +kernel
theorem dX7_divisor_39 : decode cX7_divisor 39 = .ok (.iinc 8 1, 3) := by decide +kernel
theorem dX7_divisor_42 : decode cX7_divisor 42 = .ok (.goto (-33), 3) := by decide +kernel
theorem dX7_divisor_45 : decode cX7_divisor 45 = .ok (.lload 4, 2) := by decide +kernel
theorem dX7_divisor_47 : decode cX7_divisor 47 = .ok (.lreturn, 1) := by decide +kernel
theorem dX7_bitsOfDouble_0 : decode cX7_bitsOfDouble 0 = .ok (.dload_n 0, 1) := by decide +kernel
theorem dX7_bitsOfDouble_1 : decode cX7_bitsOfDouble 1 = .ok (.dconst 0, 1) := by decide +kernel
theorem dX7_bitsOfDouble_2 : decode cX7_bitsOfDouble 2 = .ok (.dcmp .l, 1) := by decide +kernel
theorem dX7_bitsOfDouble_3 : decode cX7_bitsOfDouble 3 = .ok (.ifCond .gt 5, 3) := by decide +kernel
theorem dX7_bitsOfDouble_6 : decode cX7_bitsOfDouble 6 = .ok (.lconst 0, 1) := by decide +kernel
theorem dX7_bitsOfDouble_7 : decode cX7_bitsOfDouble 7 = .ok (.lreturn, 1) := by decide +kernel
theorem dX7_bitsOfDouble_8 : decode cX7_bitsOfDouble 8 = .ok (.dload_n 0, 1) := by decide +kernel
theorem dX7_bitsOfDouble_9 : decode cX7_bitsOfDouble 9 = .ok (.dstore_n 2, 1) := by decide +kernel
theorem dX7_bitsOfDouble_10 : decode cX7_bitsOfDouble 10 = .ok (.ldc2_w 20, 3) := by decide +kernel
theorem dX7_bitsOfDouble_13 : decode cX7_bitsOfDouble 13 = .ok (.lstore 4, 2) := by decide +kernel
theorem dX7_bitsOfDouble_15 : decode cX7_bitsOfDouble 15 = .ok (.iconst 0, 1) := by decide +kernel
theorem dX7_bitsOfDouble_16 : decode cX7_bitsOfDouble 16 = .ok (.istore 6, 2) := by decide +kernel
theorem dX7_bitsOfDouble_18 : decode cX7_bitsOfDouble 18 = .ok (.iload 6, 2) := by decide +kernel
theorem dX7_bitsOfDouble_20 : decode cX7_bitsOfDouble 20 = .ok (.sipush 1100, 3) := by decide +kernel
theorem dX7_bitsOfDouble_23 : decode cX7_bitsOfDouble 23 = .ok (.if_icmp .ge 29, 3) := by decide +kernel
theorem dX7_bitsOfDouble_26 : decode cX7_bitsOfDouble 26 = .ok (.dload_n 2, 1) := by decide +kernel
theorem dX7_bitsOfDouble_27 : decode cX7_bitsOfDouble 27 = .ok (.ldc2_w 22, 3) := by decide +kernel
theorem dX7_bitsOfDouble_30 : decode cX7_bitsOfDouble 30 = .ok (.dcmp .l, 1) := by decide +kernel
theorem dX7_bitsOfDouble_31 : decode cX7_bitsOfDouble 31 = .ok (.ifCond .lt 21, 3) := by decide +kernel
theorem dX7_bitsOfDouble_34 : decode cX7_bitsOfDouble 34 = .ok (.dload_n 2, 1) := by decide +kernel
theorem dX7_bitsOfDouble_35 : decode cX7_bitsOfDouble 35 = .ok (.ldc2_w 22, 3) := by decide +kernel
theorem dX7_bitsOfDouble_38 : decode cX7_bitsOfDouble 38 = .ok (.ddiv, 1) := by decide +kernel
theorem dX7_bitsOfDouble_39 : decode cX7_bitsOfDouble 39 = .ok (.dstore_n 2, 1) := by decide +kernel
theorem dX7_bitsOfDouble_40 : decode cX7_bitsOfDouble 40 = .ok (.lload 4, 2) := by decide +kernel
theorem dX7_bitsOfDouble_42 : decode cX7_bitsOfDouble 42 = .ok (.lconst 1, 1) := by decide +kernel
theorem dX7_bitsOfDouble_43 : decode cX7_bitsOfDouble 43 = .ok (.ladd, 1) := by decide +kernel
theorem dX7_bitsOfDouble_44 : decode cX7_bitsOfDouble 44 = .ok (.lstore 4, 2) := by decide +kernel
theorem dX7_bitsOfDouble_46 : decode cX7_bitsOfDouble 46 = .ok (.iinc 6 1, 3) := by decide +kernel
theorem dX7_bitsOfDouble_49 : decode cX7_bitsOfDouble 49 = .ok (.goto (-31), 3) := by decide +kernel
theorem dX7_bitsOfDouble_52 : decode cX7_bitsOfDouble 52 = .ok (.iconst 0, 1) := by decide +kernel
theorem dX7_bitsOfDouble_53 : decode cX7_bitsOfDouble 53 = .ok (.istore 6, 2) := by decide +kernel
theorem dX7_bitsOfDouble_55 : decode cX7_bitsOfDouble 55 = .ok (.iload 6, 2) := by decide +kernel
theorem dX7_bitsOfDouble_57 : decode cX7_bitsOfDouble 57 = .ok (.sipush 1100, 3) := by decide +kernel
theorem dX7_bitsOfDouble_60 : decode cX7_bitsOfDouble 60 = .ok (.if_icmp .ge 27, 3) := by decide +kernel
theorem dX7_bitsOfDouble_63 : decode cX7_bitsOfDouble 63 = .ok (.dload_n 2, 1) := by decide +kernel
theorem dX7_bitsOfDouble_64 : decode cX7_bitsOfDouble 64 = .ok (.dconst 1, 1) := by decide +kernel
theorem dX7_bitsOfDouble_65 : decode cX7_bitsOfDouble 65 = .ok (.dcmp .g, 1) := by decide +kernel
theorem dX7_bitsOfDouble_66 : decode cX7_bitsOfDouble 66 = .ok (.ifCond .ge 21, 3) := by decide +kernel
theorem dX7_bitsOfDouble_69 : decode cX7_bitsOfDouble 69 = .ok (.dload_n 2, 1) := by decide +kernel
theorem dX7_bitsOfDouble_70 : decode cX7_bitsOfDouble 70 = .ok (.ldc2_w 22, 3) := by decide +kernel
theorem dX7_bitsOfDouble_73 : decode cX7_bitsOfDouble 73 = .ok (.dmul, 1) := by decide +kernel
theorem dX7_bitsOfDouble_74 : decode cX7_bitsOfDouble 74 = .ok (.dstore_n 2, 1) := by decide +kernel
theorem dX7_bitsOfDouble_75 : decode cX7_bitsOfDouble 75 = .ok (.lload 4, 2) := by decide +kernel
theorem dX7_bitsOfDouble_77 : decode cX7_bitsOfDouble 77 = .ok (.lconst 1, 1) := by decide +kernel
theorem dX7_bitsOfDouble_78 : decode cX7_bitsOfDouble 78 = .ok (.lsub, 1) := by decide +kernel
theorem dX7_bitsOfDouble_79 : decode cX7_bitsOfDouble 79 = .ok (.lstore 4, 2) := by decide +kernel
theorem dX7_bitsOfDouble_81 : decode cX7_bitsOfDouble 81 = .ok (.iinc 6 1, 3) := by decide +kernel
theorem dX7_bitsOfDouble_84 : decode cX7_bitsOfDouble 84 = .ok (.goto (-29), 3) := by decide +kernel
theorem dX7_bitsOfDouble_87 : decode cX7_bitsOfDouble 87 = .ok (.lload 4, 2) := by decide +kernel
theorem dX7_bitsOfDouble_89 : decode cX7_bitsOfDouble 89 = .ok (.bipush 52, 2) := by decide +kernel
theorem dX7_bitsOfDouble_91 : decode cX7_bitsOfDouble 91 = .ok (.lshl, 1) := by decide +kernel
theorem dX7_bitsOfDouble_92 : decode cX7_bitsOfDouble 92 = .ok (.dload_n 2, 1) := by decide +kernel
theorem dX7_bitsOfDouble_93 : decode cX7_bitsOfDouble 93 = .ok (.dconst 1, 1) := by decide +kernel
theorem dX7_bitsOfDouble_94 : decode cX7_bitsOfDouble 94 = .ok (.dsub, 1) := by decide +kernel
theorem dX7_bitsOfDouble_95 : decode cX7_bitsOfDouble 95 = .ok (.ldc2_w 24, 3) := by decide +kernel
theorem dX7_bitsOfDouble_98 : decode cX7_bitsOfDouble 98 = .ok (.dmul, 1) := by decide +kernel
theorem dX7_bitsOfDouble_99 : decode cX7_bitsOfDouble 99 = .ok (.d2l, 1) := by decide +kernel
theorem dX7_bitsOfDouble_100 : decode cX7_bitsOfDouble 100 = .ok (.lor, 1) := by decide +kernel
theorem dX7_bitsOfDouble_101 : decode cX7_bitsOfDouble 101 = .ok (.lreturn, 1) := by decide +kernel
theorem dX7_bitsOfFloat_0 : decode cX7_bitsOfFloat 0 = .ok (.fload_n 0, 1) := by decide +kernel
theorem dX7_bitsOfFloat_1 : decode cX7_bitsOfFloat 1 = .ok (.fconst 0, 1) := by decide +kernel
theorem dX7_bitsOfFloat_2 : decode cX7_bitsOfFloat 2 = .ok (.fcmp .g, 1) := by decide +kernel
theorem dX7_bitsOfFloat_3 : decode cX7_bitsOfFloat 3 = .ok (.ifCond .ge 8, 3) := by decide +kernel
theorem dX7_bitsOfFloat_6 : decode cX7_bitsOfFloat 6 = .ok (.fload_n 0, 1) := by decide +kernel
theorem dX7_bitsOfFloat_7 : decode cX7_bitsOfFloat 7 = .ok (.fneg, 1) := by decide +kernel
theorem dX7_bitsOfFloat_8 : decode cX7_bitsOfFloat 8 = .ok (.goto 4, 3) := by decide +kernel
theorem dX7_bitsOfFloat_11 : decode cX7_bitsOfFloat 11 = .ok (.fload_n 0, 1) := by decide +kernel
theorem dX7_bitsOfFloat_12 : decode cX7_bitsOfFloat 12 = .ok (.f2d, 1) := by decide +kernel
theorem dX7_bitsOfFloat_13 : decode cX7_bitsOfFloat 13 = .ok (.invokestatic 26, 3) := by decide +kernel
theorem dX7_bitsOfFloat_16 : decode cX7_bitsOfFloat 16 = .ok (.lstore_n 1, 1) := by decide +kernel
theorem dX7_bitsOfFloat_17 : decode cX7_bitsOfFloat 17 = .ok (.lload_n 1, 1) := by decide +kernel
theorem dX7_bitsOfFloat_18 : decode cX7_bitsOfFloat 18 = .ok (.lconst 0, 1) := by decide +kernel
theorem dX7_bitsOfFloat_19 : decode cX7_bitsOfFloat 19 = .ok (.lcmp, 1) := by decide +kernel
theorem dX7_bitsOfFloat_20 : decode cX7_bitsOfFloat 20 = .ok (.ifCond .ne 5, 3) := by decide +kernel
theorem dX7_bitsOfFloat_23 : decode cX7_bitsOfFloat 23 = .ok (.iconst 0, 1) := by decide +kernel
theorem dX7_bitsOfFloat_24 : decode cX7_bitsOfFloat 24 = .ok (.ireturn, 1) := by decide +kernel
theorem dX7_bitsOfFloat_25 : decode cX7_bitsOfFloat 25 = .ok (.lload_n 1, 1) := by decide +kernel
theorem dX7_bitsOfFloat_26 : decode cX7_bitsOfFloat 26 = .ok (.bipush 29, 2) := by decide +kernel
theorem dX7_bitsOfFloat_28 : decode cX7_bitsOfFloat 28 = .ok (.lushr, 1) := by decide +kernel
theorem dX7_bitsOfFloat_29 : decode cX7_bitsOfFloat 29 = .ok (.ldc2_w 30, 3) := by decide +kernel
theorem dX7_bitsOfFloat_32 : decode cX7_bitsOfFloat 32 = .ok (.lsub, 1) := by decide +kernel
theorem dX7_bitsOfFloat_33 : decode cX7_bitsOfFloat 33 = .ok (.l2i, 1) := by decide +kernel
theorem dX7_bitsOfFloat_34 : decode cX7_bitsOfFloat 34 = .ok (.istore_n 3, 1) := by decide +kernel
theorem dX7_bitsOfFloat_35 : decode cX7_bitsOfFloat 35 = .ok (.fload_n 0, 1) := by decide +kernel
theorem dX7_bitsOfFloat_36 : decode cX7_bitsOfFloat 36 = .ok (.fconst 0, 1) := by decide +kernel
theorem dX7_bitsOfFloat_37 : decode cX7_bitsOfFloat 37 = .ok (.fcmp .g, 1) := by decide +kernel
theorem dX7_bitsOfFloat_38 : decode cX7_bitsOfFloat 38 = .ok (.ifCond .ge 10, 3) := by decide +kernel
theorem dX7_bitsOfFloat_41 : decode cX7_bitsOfFloat 41 = .ok (.iload_n 3, 1) := by decide +kernel
theorem dX7_bitsOfFloat_42 : decode cX7_bitsOfFloat 42 = .ok (.ldc 32, 2) := by decide +kernel
theorem dX7_bitsOfFloat_44 : decode cX7_bitsOfFloat 44 = .ok (.ior, 1) := by decide +kernel
theorem dX7_bitsOfFloat_45 : decode cX7_bitsOfFloat 45 = .ok (.goto 4, 3) := by decide +kernel
theorem dX7_bitsOfFloat_48 : decode cX7_bitsOfFloat 48 = .ok (.iload_n 3, 1) := by decide +kernel
theorem dX7_bitsOfFloat_49 : decode cX7_bitsOfFloat 49 = .ok (.ireturn, 1) := by decide +kernel
theorem dX0_init_0 : decode cX0_init 0 = .ok (.aload_n 0, 1) := by decide +kernel
theorem dX0_init_1 : decode cX0_init 1 = .ok (.invokespecial 1, 3) := by decide +kernel
theorem dX0_init_4 : decode cX0_init 4 = .ok (.return_, 1) := by decide +kernel
theorem dX0_start_0 : decode cX0_start 0 = .ok (.aload_n 0, 1) := by decide +kernel
theorem dX0_start_1 : decode cX0_start 1 = .ok (.iload_n 1, 1) := by decide +kernel
theorem dX0_start_2 : decode cX0_start 2 = .ok (.i2l, 1) := by decide +kernel
theorem dX0_start_3 : decode cX0_start 3 = .ok (.putfield 7, 3) := by decide +kernel
theorem dX0_start_6 : decode cX0_start 6 = .ok (.return_, 1) := by decide +kernel
theorem dX0_draw_0 : decode cX0_draw 0 = .ok (.aload_n 0, 1) := by decide +kernel
theorem dX0_draw_1 : decode cX0_draw 1 = .ok (.ldc2_w 13, 3) := by decide +kernel
theorem dX0_draw_4 : decode cX0_draw 4 = .ok (.aload_n 0, 1) := by decide +kernel
theorem dX0_draw_5 : decode cX0_draw 5 = .ok (.getfield 7, 3) := by decide +kernel
theorem dX0_draw_8 : decode cX0_draw 8 = .ok (.lmul, 1) := by decide +kernel
theorem dX0_draw_9 : decode cX0_draw 9 = .ok (.ldc2_w 15, 3) := by decide +kernel
theorem dX0_draw_12 : decode cX0_draw 12 = .ok (.ladd, 1) := by decide +kernel
theorem dX0_draw_13 : decode cX0_draw 13 = .ok (.ldc2_w 17, 3) := by decide +kernel
theorem dX0_draw_16 : decode cX0_draw 16 = .ok (.land, 1) := by decide +kernel
theorem dX0_draw_17 : decode cX0_draw 17 = .ok (.putfield 7, 3) := by decide +kernel
theorem dX0_draw_20 : decode cX0_draw 20 = .ok (.iload_n 1, 1) := by decide +kernel
theorem dX0_draw_21 : decode cX0_draw 21 = .ok (.ifCond .gt 7, 3) := by decide +kernel
theorem dX0_draw_24 : decode cX0_draw 24 = .ok (.iconst 0, 1) := by decide +kernel
theorem dX0_draw_25 : decode cX0_draw 25 = .ok (.goto 15, 3) := by decide +kernel
theorem dX0_draw_28 : decode cX0_draw 28 = .ok (.aload_n 0, 1) := by decide +kernel
theorem dX0_draw_29 : decode cX0_draw 29 = .ok (.getfield 7, 3) := by decide +kernel
theorem dX0_draw_32 : decode cX0_draw 32 = .ok (.ldc2_w 19, 3) := by decide +kernel
theorem dX0_draw_35 : decode cX0_draw 35 = .ok (.ldiv, 1) := by decide +kernel
theorem dX0_draw_36 : decode cX0_draw 36 = .ok (.iload_n 1, 1) := by decide +kernel
theorem dX0_draw_37 : decode cX0_draw 37 = .ok (.i2l, 1) := by decide +kernel
theorem dX0_draw_38 : decode cX0_draw 38 = .ok (.lrem, 1) := by decide +kernel
theorem dX0_draw_39 : decode cX0_draw 39 = .ok (.l2i, 1) := by decide +kernel
theorem dX0_draw_40 : decode cX0_draw 40 = .ok (.ireturn, 1) := by decide +kernel
theorem dX0_drawOther_0 : decode cX0_drawOther 0 = .ok (.aload_n 0, 1) := by decide +kernel
theorem dX0_drawOther_1 : decode cX0_drawOther 1 = .ok (.iload_n 1, 1) := by decide +kernel
theorem dX0_drawOther_2 : decode cX0_drawOther 2 = .ok (.iconst 1, 1) := by decide +kernel
theorem dX0_drawOther_3 : decode cX0_drawOther 3 = .ok (.isub, 1) := by decide +kernel
theorem dX0_drawOther_4 : decode cX0_drawOther 4 = .ok (.invokevirtual 21, 3) := by decide +kernel
theorem dX0_drawOther_7 : decode cX0_drawOther 7 = .ok (.istore_n 3, 1) := by decide +kernel
theorem dX0_drawOther_8 : decode cX0_drawOther 8 = .ok (.iload_n 3, 1) := by decide +kernel
theorem dX0_drawOther_9 : decode cX0_drawOther 9 = .ok (.iload_n 2, 1) := by decide +kernel
theorem dX0_drawOther_10 : decode cX0_drawOther 10 = .ok (.if_icmp .ge 7, 3) := by decide +kernel
theorem dX0_drawOther_13 : decode cX0_drawOther 13 = .ok (.iload_n 3, 1) := by decide +kernel
theorem dX0_drawOther_14 : decode cX0_drawOther 14 = .ok (.goto 6, 3) := by decide +kernel
theorem dX0_drawOther_17 : decode cX0_drawOther 17 = .ok (.iload_n 3, 1) := by decide +kernel
theorem dX0_drawOther_18 : decode cX0_drawOther 18 = .ok (.iconst 1, 1) := by decide +kernel
theorem dX0_drawOther_19 : decode cX0_drawOther 19 = .ok (.iadd, 1) := by decide +kernel
theorem dX0_drawOther_20 : decode cX0_drawOther 20 = .ok (.ireturn, 1) := by decide +kernel
theorem dX1_init_0 : decode cX1_init 0 = .ok (.aload_n 0, 1) := by decide +kernel
theorem dX1_init_1 : decode cX1_init 1 = .ok (.invokespecial 3, 3) := by decide +kernel
theorem dX1_init_4 : decode cX1_init 4 = .ok (.aload_n 0, 1) := by decide +kernel
theorem dX1_init_5 : decode cX1_init 5 = .ok (.new 9, 3) := by decide +kernel
theorem dX1_init_8 : decode cX1_init 8 = .ok (.dup, 1) := by decide +kernel
theorem dX1_init_9 : decode cX1_init 9 = .ok (.invokespecial 11, 3) := by decide +kernel
theorem dX1_init_12 : decode cX1_init 12 = .ok (.putfield 12, 3) := by decide +kernel
theorem dX1_init_15 : decode cX1_init 15 = .ok (.aload_n 0, 1) := by decide +kernel
theorem dX1_init_16 : decode cX1_init 16 = .ok (.iconst 5, 1) := by decide +kernel
theorem dX1_init_17 : decode cX1_init 17 = .ok (.newarray .int, 2) := by decide +kernel
theorem dX1_init_19 : decode cX1_init 19 = .ok (.putfield 18, 3) := by decide +kernel
theorem dX1_init_22 : decode cX1_init 22 = .ok (.aload_n 0, 1) := by decide +kernel
theorem dX1_init_23 : decode cX1_init 23 = .ok (.sipush 481, 3) := by decide +kernel
theorem dX1_init_26 : decode cX1_init 26 = .ok (.newarray .int, 2) := by decide +kernel
theorem dX1_init_28 : decode cX1_init 28 = .ok (.putfield 22, 3) := by decide +kernel
theorem dX1_init_31 : decode cX1_init 31 = .ok (.aload_n 0, 1) := by decide +kernel
theorem dX1_init_32 : decode cX1_init 32 = .ok (.sipush 4800, 3) := by decide +kernel
theorem dX1_init_35 : decode cX1_init 35 = .ok (.newarray .int, 2) := by decide +kernel
theorem dX1_init_37 : decode cX1_init 37 = .ok (.putfield 25, 3) := by decide +kernel
theorem dX1_init_40 : decode cX1_init 40 = .ok (.aload_n 0, 1) := by decide +kernel
theorem dX1_init_41 : decode cX1_init 41 = .ok (.sipush 4800, 3) := by decide +kernel
theorem dX1_init_44 : decode cX1_init 44 = .ok (.newarray .int, 2) := by decide +kernel
theorem dX1_init_46 : decode cX1_init 46 = .ok (.putfield 28, 3) := by decide +kernel
theorem dX1_init_49 : decode cX1_init 49 = .ok (.aload_n 0, 1) := by decide +kernel
theorem dX1_init_50 : decode cX1_init 50 = .ok (.sipush 480, 3) := by decide +kernel
theorem dX1_init_53 : decode cX1_init 53 = .ok (.newarray .long, 2) := by decide +kernel
theorem dX1_init_55 : decode cX1_init 55 = .ok (.putfield 31, 3) := by decide +kernel
theorem dX1_init_58 : decode cX1_init 58 = .ok (.aload_n 0, 1) := by decide +kernel
theorem dX1_init_59 : decode cX1_init 59 = .ok (.sipush 480, 3) := by decide +kernel
theorem dX1_init_62 : decode cX1_init 62 = .ok (.newarray .long, 2) := by decide +kernel
theorem dX1_init_64 : decode cX1_init 64 = .ok (.putfield 35, 3) := by decide +kernel
theorem dX1_init_67 : decode cX1_init 67 = .ok (.aload_n 0, 1) := by decide +kernel
theorem dX1_init_68 : decode cX1_init 68 = .ok (.sipush 480, 3) := by decide +kernel
theorem dX1_init_71 : decode cX1_init 71 = .ok (.newarray .long, 2) := by decide +kernel
theorem dX1_init_73 : decode cX1_init 73 = .ok (.putfield 38, 3) := by decide +kernel
theorem dX1_init_76 : decode cX1_init 76 = .ok (.aload_n 0, 1) := by decide +kernel
theorem dX1_init_77 : decode cX1_init 77 = .ok (.sipush 480, 3) := by decide +kernel
theorem dX1_init_80 : decode cX1_init 80 = .ok (.newarray .int, 2) := by decide +kernel
theorem dX1_init_82 : decode cX1_init 82 = .ok (.putfield 41, 3) := by decide +kernel
theorem dX1_init_85 : decode cX1_init 85 = .ok (.aload_n 0, 1) := by decide +kernel
theorem dX1_init_86 : decode cX1_init 86 = .ok (.sipush 480, 3) := by decide +kernel
theorem dX1_init_89 : decode cX1_init 89 = .ok (.newarray .int, 2) := by decide +kernel
theorem dX1_init_91 : decode cX1_init 91 = .ok (.putfield 44, 3) := by decide +kernel
theorem dX1_init_94 : decode cX1_init 94 = .ok (.aload_n 0, 1) := by decide +kernel
theorem dX1_init_95 : decode cX1_init 95 = .ok (.sipush 480, 3) := by decide +kernel
theorem dX1_init_98 : decode cX1_init 98 = .ok (.newarray .int, 2) := by decide +kernel
theorem dX1_init_100 : decode cX1_init 100 = .ok (.putfield 47, 3) := by decide +kernel
theorem dX1_init_103 : decode cX1_init 103 = .ok (.aload_n 0, 1) := by decide +kernel
theorem dX1_init_104 : decode cX1_init 104 = .ok (.sipush 336, 3) := by decide +kernel
theorem dX1_init_107 : decode cX1_init 107 = .ok (.newarray .long, 2) := by decide +kernel
theorem dX1_init_109 : decode cX1_init 109 = .ok (.putfield 50, 3) := by decide +kernel
theorem dX1_init_112 : decode cX1_init 112 = .ok (.return_, 1) := by decide +kernel
theorem dX1_make_0 : decode cX1_make 0 = .ok (.aload_n 0, 1) := by decide +kernel
theorem dX1_make_1 : decode cX1_make 1 = .ok (.aload_n 1, 1) := by decide +kernel
theorem dX1_make_2 : decode cX1_make 2 = .ok (.getfield 53, 3) := by decide +kernel
theorem dX1_make_5 : decode cX1_make 5 = .ok (.putfield 59, 3) := by decide +kernel
theorem dX1_make_8 : decode cX1_make 8 = .ok (.aload_n 0, 1) := by decide +kernel
theorem dX1_make_9 : decode cX1_make 9 = .ok (.iconst 0, 1) := by decide +kernel
theorem dX1_make_10 : decode cX1_make 10 = .ok (.putfield 60, 3) := by decide +kernel
theorem dX1_make_13 : decode cX1_make 13 = .ok (.aload_n 0, 1) := by decide +kernel
theorem dX1_make_14 : decode cX1_make 14 = .ok (.iconst 0, 1) := by decide +kernel
theorem dX1_make_15 : decode cX1_make 15 = .ok (.putfield 63, 3) := by decide +kernel
theorem dX1_make_18 : decode cX1_make 18 = .ok (.aload_n 0, 1) := by decide +kernel
theorem dX1_make_19 : decode cX1_make 19 = .ok (.getfield 12, 3) := by decide +kernel
theorem dX1_make_22 : decode cX1_make 22 = .ok (.aload_n 1, 1) := by decide +kernel
theorem dX1_make_23 : decode cX1_make 23 = .ok (.invokevirtual 66, 3) := by decide +kernel
theorem dX1_make_26 : decode cX1_make 26 = .ok (.aload_n 0, 1) := by decide +kernel
theorem dX1_make_27 : decode cX1_make 27 = .ok (.aload_n 0, 1) := by decide +kernel
theorem dX1_make_28 : decode cX1_make 28 = .ok (.getfield 12, 3) := by decide +kernel
theorem dX1_make_31 : decode cX1_make 31 = .ok (.aload_n 1, 1) := by decide +kernel
theorem dX1_make_32 : decode cX1_make 32 = .ok (.invokevirtual 70, 3) := by decide +kernel
theorem dX1_make_35 : decode cX1_make 35 = .ok (.aload_n 0, 1) := by decide +kernel
theorem dX1_make_36 : decode cX1_make 36 = .ok (.getfield 12, 3) := by decide +kernel
theorem dX1_make_39 : decode cX1_make 39 = .ok (.aload_n 1, 1) := by decide +kernel
theorem dX1_make_40 : decode cX1_make 40 = .ok (.invokevirtual 74, 3) := by decide +kernel
theorem dX1_make_43 : decode cX1_make 43 = .ok (.invokevirtual 77, 3) := by decide +kernel
theorem dX1_make_46 : decode cX1_make 46 = .ok (.pop, 1) := by decide +kernel
theorem dX1_make_47 : decode cX1_make 47 = .ok (.aload_n 0, 1) := by decide +kernel
theorem dX1_make_48 : decode cX1_make 48 = .ok (.getfield 18, 3) := by decide +kernel
theorem dX1_make_51 : decode cX1_make 51 = .ok (.iconst 0, 1) := by decide +kernel
theorem dX1_make_52 : decode cX1_make 52 = .ok (.iconst 0, 1) := by decide +kernel
theorem dX1_make_53 : decode cX1_make 53 = .ok (.iastore, 1) := by decide +kernel
theorem dX1_make_54 : decode cX1_make 54 = .ok (.iconst 0, 1) := by decide +kernel
theorem dX1_make_55 : decode cX1_make 55 = .ok (.istore_n 2, 1) := by decide +kernel
theorem dX1_make_56 : decode cX1_make 56 = .ok (.iload_n 2, 1) := by decide +kernel
theorem dX1_make_57 : decode cX1_make 57 = .ok (.aload_n 0, 1) := by decide +kernel
theorem dX1_make_58 : decode cX1_make 58 = .ok (.getfield 59, 3) := by decide +kernel
theorem dX1_make_61 : decode cX1_make 61 = .ok (.if_icmp .ge 31, 3) := by decide +kernel
theorem dX1_make_64 : decode cX1_make 64 = .ok (.iload_n 2, 1) := by decide +kernel
theorem dX1_make_65 : decode cX1_make 65 = .ok (.iconst 4, 1) := by decide +kernel
theorem dX1_make_66 : decode cX1_make 66 = .ok (.if_icmp .ge 26, 3) := by decide +kernel
theorem dX1_make_69 : decode cX1_make 69 = .ok (.aload_n 0, 1) := by decide +kernel
theorem dX1_make_70 : decode cX1_make 70 = .ok (.getfield 18, 3) := by decide +kernel
theorem dX1_make_73 : decode cX1_make 73 = .ok (.iload_n 2, 1) := by decide +kernel
theorem dX1_make_74 : decode cX1_make 74 = .ok (.iconst 1, 1) := by decide +kernel
theorem dX1_make_75 : decode cX1_make 75 = .ok (.iadd, 1) := by decide +kernel
theorem dX1_make_76 : decode cX1_make 76 = .ok (.aload_n 0, 1) := by decide +kernel
theorem dX1_make_77 : decode cX1_make 77 = .ok (.getfield 60, 3) := by decide +kernel
theorem dX1_make_80 : decode cX1_make 80 = .ok (.iastore, 1) := by decide +kernel
theorem dX1_make_81 : decode cX1_make 81 = .ok (.aload_n 0, 1) := by decide +kernel
theorem dX1_make_82 : decode cX1_make 82 = .ok (.iload_n 2, 1) := by decide +kernel
theorem dX1_make_83 : decode cX1_make 83 = .ok (.invokevirtual 81, 3) := by decide +kernel
theorem dX1_make_86 : decode cX1_make 86 = .ok (.iinc 2 1, 3) := by decide +kernel
theorem dX1_make_89 : decode cX1_make 89 = .ok (.goto (-33), 3) := by decide +kernel
theorem dX1_make_92 : decode cX1_make 92 = .ok (.aload_n 0, 1) := by decide +kernel
theorem dX1_make_93 : decode cX1_make 93 = .ok (.aload_n 0, 1) := by decide +kernel
theorem dX1_make_94 : decode cX1_make 94 = .ok (.getfield 59, 3) := by decide +kernel
theorem dX1_make_97 : decode cX1_make 97 = .ok (.invokevirtual 85, 3) := by decide +kernel
theorem dX1_make_100 : decode cX1_make 100 = .ok (.istore_n 2, 1) := by decide +kernel
theorem dX1_make_101 : decode cX1_make 101 = .ok (.iload_n 2, 1) := by decide +kernel
theorem dX1_make_102 : decode cX1_make 102 = .ok (.aload_n 0, 1) := by decide +kernel
theorem dX1_make_103 : decode cX1_make 103 = .ok (.getfield 60, 3) := by decide +kernel
theorem dX1_make_106 : decode cX1_make 106 = .ok (.if_icmp .gt 28, 3) := by decide +kernel
theorem dX1_make_109 : decode cX1_make 109 = .ok (.iload_n 2, 1) := by decide +kernel
theorem dX1_make_110 : decode cX1_make 110 = .ok (.sipush 480, 3) := by decide +kernel
theorem dX1_make_113 : decode cX1_make 113 = .ok (.if_icmp .gt 21, 3) := by decide +kernel
theorem dX1_make_116 : decode cX1_make 116 = .ok (.aload_n 0, 1) := by decide +kernel
theorem dX1_make_117 : decode cX1_make 117 = .ok (.getfield 22, 3) := by decide +kernel
theorem dX1_make_120 : decode cX1_make 120 = .ok (.iload_n 2, 1) := by decide +kernel
theorem dX1_make_121 : decode cX1_make 121 = .ok (.aload_n 0, 1) := by decide +kernel
theorem dX1_make_122 : decode cX1_make 122 = .ok (.getfield 63, 3) := by decide +kernel
theorem dX1_make_125 : decode cX1_make 125 = .ok (.invokestatic 89, 3) := by decide +kernel
theorem dX1_make_128 : decode cX1_make 128 = .ok (.iinc 2 1, 3) := by decide +kernel
theorem dX1_make_131 : decode cX1_make 131 = .ok (.goto (-30), 3) := by decide +kernel
theorem dX1_make_134 : decode cX1_make 134 = .ok (.aload_n 0, 1) := by decide +kernel
theorem dX1_make_135 : decode cX1_make 135 = .ok (.invokevirtual 95, 3) := by decide +kernel
theorem dX1_make_138 : decode cX1_make 138 = .ok (.aload_n 0, 1) := by decide +kernel
theorem dX1_make_139 : decode cX1_make 139 = .ok (.invokevirtual 98, 3) := by decide +kernel
theorem dX1_make_142 : decode cX1_make 142 = .ok (.aload_n 0, 1) := by decide +kernel
theorem dX1_make_143 : decode cX1_make 143 = .ok (.invokevirtual 101, 3) := by decide +kernel
theorem dX1_make_146 : decode cX1_make 146 = .ok (.return_, 1) := by decide +kernel
theorem dX1_linkLevel_0 : decode cX1_linkLevel 0 = .ok (.aload_n 0, 1) := by decide +kernel
theorem dX1_linkLevel_1 : decode cX1_linkLevel 1 = .ok (.getfield 47, 3) := by decide +kernel
theorem dX1_linkLevel_4 : decode cX1_linkLevel 4 = .ok (.iconst (-1), 1) := by decide +kernel
theorem dX1_linkLevel_5 : decode cX1_linkLevel 5 = .ok (.invokestatic 104, 3) := by decide +kernel
theorem dX1_linkLevel_8 : decode cX1_linkLevel 8 = .ok (.aload_n 0, 1) := by decide +kernel
theorem dX1_linkLevel_9 : decode cX1_linkLevel 9 = .ok (.iload_n 1, 1) := by decide +kernel
theorem dX1_linkLevel_10 : decode cX1_linkLevel 10 = .ok (.iconst 1, 1) := by decide +kernel
theorem dX1_linkLevel_11 : decode cX1_linkLevel 11 = .ok (.iadd, 1) := by decide +kernel
theorem dX1_linkLevel_12 : decode cX1_linkLevel 12 = .ok (.invokevirtual 85, 3) := by decide +kernel
theorem dX1_linkLevel_15 : decode cX1_linkLevel 15 = .ok (.istore_n 2, 1) := by decide +kernel
theorem dX1_linkLevel_16 : decode cX1_linkLevel 16 = .ok (.aload_n 0, 1) := by decide +kernel
theorem dX1_linkLevel_17 : decode cX1_linkLevel 17 = .ok (.iload_n 1, 1) := by decide +kernel
theorem dX1_linkLevel_18 : decode cX1_linkLevel 18 = .ok (.invokevirtual 85, 3) := by decide +kernel
theorem dX1_linkLevel_21 : decode cX1_linkLevel 21 = .ok (.istore_n 3, 1) := by decide +kernel
theorem dX1_linkLevel_22 : decode cX1_linkLevel 22 = .ok (.iload_n 3, 1) := by decide +kernel
theorem dX1_linkLevel_23 : decode cX1_linkLevel 23 = .ok (.iload_n 2, 1) := by decide +kernel
theorem dX1_linkLevel_24 : decode cX1_linkLevel 24 = .ok (.if_icmp .ge 45, 3) := by decide +kernel
theorem dX1_linkLevel_27 : decode cX1_linkLevel 27 = .ok (.aload_n 0, 1) := by decide +kernel
theorem dX1_linkLevel_28 : decode cX1_linkLevel 28 = .ok (.getfield 22, 3) := by decide +kernel
theorem dX1_linkLevel_31 : decode cX1_linkLevel 31 = .ok (.iload_n 3, 1) := by decide +kernel
theorem dX1_linkLevel_32 : decode cX1_linkLevel 32 = .ok (.aload_n 0, 1) := by decide +kernel
theorem dX1_linkLevel_33 : decode cX1_linkLevel 33 = .ok (.getfield 63, 3) := by decide +kernel
theorem dX1_linkLevel_36 : decode cX1_linkLevel 36 = .ok (.invokestatic 89, 3) := by decide +kernel
theorem dX1_linkLevel_39 : decode cX1_linkLevel 39 = .ok (.aload_n 0, 1) := by decide +kernel
theorem dX1_linkLevel_40 : decode cX1_linkLevel 40 = .ok (.iload_n 1, 1) := by decide +kernel
theorem dX1_linkLevel_41 : decode cX1_linkLevel 41 = .ok (.aload_n 0, 1) := by decide +kernel
theorem dX1_linkLevel_42 : decode cX1_linkLevel 42 = .ok (.getfield 41, 3) := by decide +kernel
theorem dX1_linkLevel_45 : decode cX1_linkLevel 45 = .ok (.iload_n 3, 1) := by decide +kernel
theorem dX1_linkLevel_46 : decode cX1_linkLevel 46 = .ok (.invokestatic 110, 3) := by decide +kernel
theorem dX1_linkLevel_49 : decode cX1_linkLevel 49 = .ok (.ldc 114, 2) := by decide +kernel
theorem dX1_linkLevel_51 : decode cX1_linkLevel 51 = .ok (.ior, 1) := by decide +kernel
theorem dX1_linkLevel_52 : decode cX1_linkLevel 52 = .ok (.aload_n 0, 1) := by decide +kernel
theorem dX1_linkLevel_53 : decode cX1_linkLevel 53 = .ok (.getfield 44, 3) := by decide +kernel
theorem dX1_linkLevel_56 : decode cX1_linkLevel 56 = .ok (.iload_n 3, 1) := by decide +kernel
theorem dX1_linkLevel_57 : decode cX1_linkLevel 57 = .ok (.invokestatic 110, 3) := by decide +kernel
theorem dX1_linkLevel_60 : decode cX1_linkLevel 60 = .ok (.invokevirtual 115, 3) := by decide +kernel
theorem dX1_linkLevel_63 : decode cX1_linkLevel 63 = .ok (.iinc 3 1, 3) := by decide +kernel
theorem dX1_linkLevel_66 : decode cX1_linkLevel 66 = .ok (.goto (-44), 3) := by decide +kernel
theorem dX1_linkLevel_69 : decode cX1_linkLevel 69 = .ok (.return_, 1) := by decide +kernel
theorem dX1_linkNode_0 : decode cX1_linkNode 0 = .ok (.aload_n 0, 1) := by decide +kernel
theorem dX1_linkNode_1 : decode cX1_linkNode 1 = .ok (.getfield 12, 3) := by decide +kernel
theorem dX1_linkNode_4 : decode cX1_linkNode 4 = .ok (.iload_n 1, 1) := by decide +kernel
theorem dX1_linkNode_5 : decode cX1_linkNode 5 = .ok (.iconst 1, 1) := by decide +kernel
theorem dX1_linkNode_6 : decode cX1_linkNode 6 = .ok (.iadd, 1) := by decide +kernel
theorem dX1_linkNode_7 : decode cX1_linkNode 7 = .ok (.invokevirtual 119, 3) := by decide +kernel
theorem dX1_linkNode_10 : decode cX1_linkNode 10 = .ok (.istore 4, 2) := by decide +kernel
theorem dX1_linkNode_12 : decode cX1_linkNode 12 = .ok (.aload_n 0, 1) := by decide +kernel
theorem dX1_linkNode_13 : decode cX1_linkNode 13 = .ok (.getfield 12, 3) := by decide +kernel
theorem dX1_linkNode_16 : decode cX1_linkNode 16 = .ok (.iload_n 1, 1) := by decide +kernel
theorem dX1_linkNode_17 : decode cX1_linkNode 17 = .ok (.invokevirtual 119, 3) := by decide +kernel
theorem dX1_linkNode_20 : decode cX1_linkNode 20 = .ok (.istore 5, 2) := by decide +kernel
theorem dX1_linkNode_22 : decode cX1_linkNode 22 = .ok (.iload 5, 2) := by decide +kernel
theorem dX1_linkNode_24 : decode cX1_linkNode 24 = .ok (.iload 4, 2) := by decide +kernel
theorem dX1_linkNode_26 : decode cX1_linkNode 26 = .ok (.if_icmp .ge 56, 3) := by decide +kernel
theorem dX1_linkNode_29 : decode cX1_linkNode 29 = .ok (.iload_n 2, 1) := by decide +kernel
theorem dX1_linkNode_30 : decode cX1_linkNode 30 = .ok (.aload_n 0, 1) := by decide +kernel
theorem dX1_linkNode_31 : decode cX1_linkNode 31 = .ok (.getfield 12, 3) := by decide +kernel
theorem dX1_linkNode_34 : decode cX1_linkNode 34 = .ok (.getfield 122, 3) := by decide +kernel
theorem dX1_linkNode_37 : decode cX1_linkNode 37 = .ok (.iload 5, 2) := by decide +kernel
theorem dX1_linkNode_39 : decode cX1_linkNode 39 = .ok (.iaload, 1) := by decide +kernel
theorem dX1_linkNode_40 : decode cX1_linkNode 40 = .ok (.isub, 1) := by decide +kernel
theorem dX1_linkNode_41 : decode cX1_linkNode 41 = .ok (.istore 6, 2) := by decide +kernel
theorem dX1_linkNode_43 : decode cX1_linkNode 43 = .ok (.iload 6, 2) := by decide +kernel
theorem dX1_linkNode_45 : decode cX1_linkNode 45 = .ok (.ldc 114, 2) := by decide +kernel
theorem dX1_linkNode_47 : decode cX1_linkNode 47 = .ok (.iand, 1) := by decide +kernel
theorem dX1_linkNode_48 : decode cX1_linkNode 48 = .ok (.ldc 114, 2) := by decide +kernel
theorem dX1_linkNode_50 : decode cX1_linkNode 50 = .ok (.if_icmp .ne 26, 3) := by decide +kernel
theorem dX1_linkNode_53 : decode cX1_linkNode 53 = .ok (.aload_n 0, 1) := by decide +kernel
theorem dX1_linkNode_54 : decode cX1_linkNode 54 = .ok (.iload 5, 2) := by decide +kernel
theorem dX1_linkNode_56 : decode cX1_linkNode 56 = .ok (.iload 6, 2) := by decide +kernel
theorem dX1_linkNode_58 : decode cX1_linkNode 58 = .ok (.ldc 125, 2) := by decide +kernel
theorem dX1_linkNode_60 : decode cX1_linkNode 60 = .ok (.iand, 1) := by decide +kernel
theorem dX1_linkNode_61 : decode cX1_linkNode 61 = .ok (.iload_n 3, 1) := by decide +kernel
theorem dX1_linkNode_62 : decode cX1_linkNode 62 = .ok (.aload_n 0, 1) := by decide +kernel
theorem dX1_linkNode_63 : decode cX1_linkNode 63 = .ok (.getfield 12, 3) := by decide +kernel
theorem dX1_linkNode_66 : decode cX1_linkNode 66 = .ok (.getfield 126, 3) := by decide +kernel
theorem dX1_linkNode_69 : decode cX1_linkNode 69 = .ok (.iload 5, 2) := by decide +kernel
theorem dX1_linkNode_71 : decode cX1_linkNode 71 = .ok (.iaload, 1) := by decide +kernel
theorem dX1_linkNode_72 : decode cX1_linkNode 72 = .ok (.isub, 1) := by decide +kernel
theorem dX1_linkNode_73 : decode cX1_linkNode 73 = .ok (.invokevirtual 127, 3) := by decide +kernel
theorem dX1_linkNode_76 : decode cX1_linkNode 76 = .ok (.iinc 5 1, 3) := by decide +kernel
theorem dX1_linkNode_79 : decode cX1_linkNode 79 = .ok (.goto (-57), 3) := by decide +kernel
theorem dX1_linkNode_82 : decode cX1_linkNode 82 = .ok (.return_, 1) := by decide +kernel
theorem dX1_link_0 : decode cX1_link 0 = .ok (.aload_n 0, 1) := by decide +kernel
theorem dX1_link_1 : decode cX1_link 1 = .ok (.getfield 63, 3) := by decide +kernel
theorem dX1_link_4 : decode cX1_link 4 = .ok (.ifCond .lt 24, 3) := by decide +kernel
theorem dX1_link_7 : decode cX1_link 7 = .ok (.aload_n 0, 1) := by decide +kernel
theorem dX1_link_8 : decode cX1_link 8 = .ok (.getfield 63, 3) := by decide +kernel
theorem dX1_link_11 : decode cX1_link 11 = .ok (.sipush 4800, 3) := by decide +kernel
theorem dX1_link_14 : decode cX1_link 14 = .ok (.if_icmp .ge 14, 3) := by decide +kernel
theorem dX1_link_17 : decode cX1_link 17 = .ok (.iload_n 3, 1) := by decide +kernel
theorem dX1_link_18 : decode cX1_link 18 = .ok (.ifCond .lt 10, 3) := by decide +kernel
theorem dX1_link_21 : decode cX1_link 21 = .ok (.iload_n 3, 1) := by decide +kernel
theorem dX1_link_22 : decode cX1_link 22 = .ok (.sipush 480, 3) := by decide +kernel
theorem dX1_link_25 : decode cX1_link 25 = .ok (.if_icmp .lt 4, 3) := by decide +kernel
theorem dX1_link_28 : decode cX1_link 28 = .ok (.return_, 1) := by decide +kernel
theorem dX1_link_29 : decode cX1_link 29 = .ok (.aload_n 0, 1) := by decide +kernel
theorem dX1_link_30 : decode cX1_link 30 = .ok (.getfield 47, 3) := by decide +kernel
theorem dX1_link_33 : decode cX1_link 33 = .ok (.iload_n 3, 1) := by decide +kernel
theorem dX1_link_34 : decode cX1_link 34 = .ok (.iaload, 1) := by decide +kernel
theorem dX1_link_35 : decode cX1_link 35 = .ok (.iconst (-1), 1) := by decide +kernel
theorem dX1_link_36 : decode cX1_link 36 = .ok (.if_icmp .ne 15, 3) := by decide +kernel
theorem dX1_link_39 : decode cX1_link 39 = .ok (.aload_n 0, 1) := by decide +kernel
theorem dX1_link_40 : decode cX1_link 40 = .ok (.getfield 47, 3) := by decide +kernel
theorem dX1_link_43 : decode cX1_link 43 = .ok (.iload_n 3, 1) := by decide +kernel
theorem dX1_link_44 : decode cX1_link 44 = .ok (.aload_n 0, 1) := by decide +kernel
theorem dX1_link_45 : decode cX1_link 45 = .ok (.iload_n 2, 1) := by decide +kernel
theorem dX1_link_46 : decode cX1_link 46 = .ok (.iload_n 3, 1) := by decide +kernel
theorem dX1_link_47 : decode cX1_link 47 = .ok (.invokevirtual 77, 3) := by decide +kernel
theorem dX1_link_50 : decode cX1_link 50 = .ok (.iastore, 1) := by decide +kernel
theorem dX1_link_51 : decode cX1_link 51 = .ok (.aload_n 0, 1) := by decide +kernel
theorem dX1_link_52 : decode cX1_link 52 = .ok (.getfield 25, 3) := by decide +kernel
theorem dX1_link_55 : decode cX1_link 55 = .ok (.aload_n 0, 1) := by decide +kernel
theorem dX1_link_56 : decode cX1_link 56 = .ok (.getfield 63, 3) := by decide +kernel
theorem dX1_link_59 : decode cX1_link 59 = .ok (.iload_n 1, 1) := by decide +kernel
theorem dX1_link_60 : decode cX1_link 60 = .ok (.iastore, 1) := by decide +kernel
theorem dX1_link_61 : decode cX1_link 61 = .ok (.aload_n 0, 1) := by decide +kernel
theorem dX1_link_62 : decode cX1_link 62 = .ok (.getfield 28, 3) := by decide +kernel
theorem dX1_link_65 : decode cX1_link 65 = .ok (.aload_n 0, 1) := by decide +kernel
theorem dX1_link_66 : decode cX1_link 66 = .ok (.getfield 63, 3) := by decide +kernel
theorem dX1_link_69 : decode cX1_link 69 = .ok (.aload_n 0, 1) := by decide +kernel
theorem dX1_link_70 : decode cX1_link 70 = .ok (.getfield 47, 3) := by decide +kernel
theorem dX1_link_73 : decode cX1_link 73 = .ok (.iload_n 3, 1) := by decide +kernel
theorem dX1_link_74 : decode cX1_link 74 = .ok (.iaload, 1) := by decide +kernel
theorem dX1_link_75 : decode cX1_link 75 = .ok (.iastore, 1) := by decide +kernel
theorem dX1_link_76 : decode cX1_link 76 = .ok (.aload_n 0, 1) := by decide +kernel
theorem dX1_link_77 : decode cX1_link 77 = .ok (.dup, 1) := by decide +kernel
theorem dX1_link_78 : decode cX1_link 78 = .ok (.getfield 63, 3) := by decide +kernel
theorem dX1_link_81 : decode cX1_link 81 = .ok (.iconst 1, 1) := by decide +kernel
theorem dX1_link_82 : decode cX1_link 82 = .ok (.iadd, 1) := by decide +kernel
theorem dX1_link_83 : decode cX1_link 83 = .ok (.putfield 63, 3) := by decide +kernel
theorem dX1_link_86 : decode cX1_link 86 = .ok (.return_, 1) := by decide +kernel
theorem dX1_addNode_0 : decode cX1_addNode 0 = .ok (.aload_n 0, 1) := by decide +kernel
theorem dX1_addNode_1 : decode cX1_addNode 1 = .ok (.getfield 60, 3) := by decide +kernel
theorem dX1_addNode_4 : decode cX1_addNode 4 = .ok (.sipush 479, 3) := by decide +kernel
theorem dX1_addNode_7 : decode cX1_addNode 7 = .ok (.invokestatic 130, 3) := by decide +kernel
theorem dX1_addNode_10 : decode cX1_addNode 10 = .ok (.istore_n 3, 1) := by decide +kernel
theorem dX1_addNode_11 : decode cX1_addNode 11 = .ok (.aload_n 0, 1) := by decide +kernel
theorem dX1_addNode_12 : decode cX1_addNode 12 = .ok (.getfield 41, 3) := by decide +kernel
theorem dX1_addNode_15 : decode cX1_addNode 15 = .ok (.iload_n 3, 1) := by decide +kernel
theorem dX1_addNode_16 : decode cX1_addNode 16 = .ok (.iload_n 1, 1) := by decide +kernel
theorem dX1_addNode_17 : decode cX1_addNode 17 = .ok (.iastore, 1) := by decide +kernel
theorem dX1_addNode_18 : decode cX1_addNode 18 = .ok (.aload_n 0, 1) := by decide +kernel
theorem dX1_addNode_19 : decode cX1_addNode 19 = .ok (.getfield 44, 3) := by decide +kernel
theorem dX1_addNode_22 : decode cX1_addNode 22 = .ok (.iload_n 3, 1) := by decide +kernel
theorem dX1_addNode_23 : decode cX1_addNode 23 = .ok (.iload_n 2, 1) := by decide +kernel
theorem dX1_addNode_24 : decode cX1_addNode 24 = .ok (.iastore, 1) := by decide +kernel
theorem dX1_addNode_25 : decode cX1_addNode 25 = .ok (.aload_n 0, 1) := by decide +kernel
theorem dX1_addNode_26 : decode cX1_addNode 26 = .ok (.iload_n 3, 1) := by decide +kernel
theorem dX1_addNode_27 : decode cX1_addNode 27 = .ok (.iconst 1, 1) := by decide +kernel
theorem dX1_addNode_28 : decode cX1_addNode 28 = .ok (.iadd, 1) := by decide +kernel
theorem dX1_addNode_29 : decode cX1_addNode 29 = .ok (.putfield 60, 3) := by decide +kernel
theorem dX1_addNode_32 : decode cX1_addNode 32 = .ok (.iload_n 3, 1) := by decide +kernel
theorem dX1_addNode_33 : decode cX1_addNode 33 = .ok (.ireturn, 1) := by decide +kernel
theorem dX1_sumAhead_0 : decode cX1_sumAhead 0 = .ok (.aload_n 0, 1) := by decide +kernel
theorem dX1_sumAhead_1 : decode cX1_sumAhead 1 = .ok (.getfield 60, 3) := by decide +kernel
theorem dX1_sumAhead_4 : decode cX1_sumAhead 4 = .ok (.sipush 480, 3) := by decide +kernel
theorem dX1_sumAhead_7 : decode cX1_sumAhead 7 = .ok (.invokestatic 133, 3) := by decide +kernel
theorem dX1_sumAhead_10 : decode cX1_sumAhead 10 = .ok (.iconst 1, 1) := by decide +kernel
theorem dX1_sumAhead_11 : decode cX1_sumAhead 11 = .ok (.isub, 1) := by decide +kernel
theorem dX1_sumAhead_12 : decode cX1_sumAhead 12 = .ok (.istore_n 1, 1) := by decide +kernel
theorem dX1_sumAhead_13 : decode cX1_sumAhead 13 = .ok (.iload_n 1, 1) := by decide +kernel
theorem dX1_sumAhead_14 : decode cX1_sumAhead 14 = .ok (.ifCond .lt 130, 3) := by decide +kernel
theorem dX1_sumAhead_17 : decode cX1_sumAhead 17 = .ok (.aload_n 0, 1) := by decide +kernel
theorem dX1_sumAhead_18 : decode cX1_sumAhead 18 = .ok (.iload_n 1, 1) := by decide +kernel
theorem dX1_sumAhead_19 : decode cX1_sumAhead 19 = .ok (.invokevirtual 138, 3) := by decide +kernel
theorem dX1_sumAhead_22 : decode cX1_sumAhead 22 = .ok (.ifCond .eq 7, 3) := by decide +kernel
theorem dX1_sumAhead_25 : decode cX1_sumAhead 25 = .ok (.lconst 1, 1) := by decide +kernel
theorem dX1_sumAhead_26 : decode cX1_sumAhead 26 = .ok (.goto 4, 3) := by decide +kernel
theorem dX1_sumAhead_29 : decode cX1_sumAhead 29 = .ok (.lconst 0, 1) := by decide +kernel
theorem dX1_sumAhead_30 : decode cX1_sumAhead 30 = .ok (.lstore_n 2, 1) := by decide +kernel
theorem dX1_sumAhead_31 : decode cX1_sumAhead 31 = .ok (.lload_n 2, 1) := by decide +kernel
theorem dX1_sumAhead_32 : decode cX1_sumAhead 32 = .ok (.lstore 4, 2) := by decide +kernel
theorem dX1_sumAhead_34 : decode cX1_sumAhead 34 = .ok (.aload_n 0, 1) := by decide +kernel
theorem dX1_sumAhead_35 : decode cX1_sumAhead 35 = .ok (.iload_n 1, 1) := by decide +kernel
theorem dX1_sumAhead_36 : decode cX1_sumAhead 36 = .ok (.iconst 1, 1) := by decide +kernel
theorem dX1_sumAhead_37 : decode cX1_sumAhead 37 = .ok (.iadd, 1) := by decide +kernel
theorem dX1_sumAhead_38 : decode cX1_sumAhead 38 = .ok (.invokevirtual 142, 3) := by decide +kernel
theorem dX1_sumAhead_41 : decode cX1_sumAhead 41 = .ok (.istore 6, 2) := by decide +kernel
theorem dX1_sumAhead_43 : decode cX1_sumAhead 43 = .ok (.aload_n 0, 1) := by decide +kernel
theorem dX1_sumAhead_44 : decode cX1_sumAhead 44 = .ok (.iload_n 1, 1) := by decide +kernel
theorem dX1_sumAhead_45 : decode cX1_sumAhead 45 = .ok (.invokevirtual 142, 3) := by decide +kernel
theorem dX1_sumAhead_48 : decode cX1_sumAhead 48 = .ok (.istore 7, 2) := by decide +kernel
theorem dX1_sumAhead_50 : decode cX1_sumAhead 50 = .ok (.iload 7, 2) := by decide +kernel
theorem dX1_sumAhead_52 : decode cX1_sumAhead 52 = .ok (.iload 6, 2) := by decide +kernel
theorem dX1_sumAhead_54 : decode cX1_sumAhead 54 = .ok (.if_icmp .ge 69, 3) := by decide +kernel
theorem dX1_sumAhead_57 : decode cX1_sumAhead 57 = .ok (.aload_n 0, 1) := by decide +kernel
theorem dX1_sumAhead_58 : decode cX1_sumAhead 58 = .ok (.getfield 28, 3) := by decide +kernel
theorem dX1_sumAhead_61 : decode cX1_sumAhead 61 = .ok (.iload 7, 2) := by decide +kernel
theorem dX1_sumAhead_63 : decode cX1_sumAhead 63 = .ok (.iaload, 1) := by decide +kernel
theorem dX1_sumAhead_64 : decode cX1_sumAhead 64 = .ok (.istore 8, 2) := by decide +kernel
theorem dX1_sumAhead_66 : decode cX1_sumAhead 66 = .ok (.iload 8, 2) := by decide +kernel
theorem dX1_sumAhead_68 : decode cX1_sumAhead 68 = .ok (.ifCond .lt 49, 3) := by decide +kernel
theorem dX1_sumAhead_71 : decode cX1_sumAhead 71 = .ok (.iload 8, 2) := by decide +kernel
theorem dX1_sumAhead_73 : decode cX1_sumAhead 73 = .ok (.sipush 480, 3) := by decide +kernel
theorem dX1_sumAhead_76 : decode cX1_sumAhead 76 = .ok (.if_icmp .ge 41, 3) := by decide +kernel
theorem dX1_sumAhead_79 : decode cX1_sumAhead 79 = .ok (.lload_n 2, 1) := by decide +kernel
theorem dX1_sumAhead_80 : decode cX1_sumAhead 80 = .ok (.aload_n 0, 1) := by decide +kernel
theorem dX1_sumAhead_81 : decode cX1_sumAhead 81 = .ok (.getfield 31, 3) := by decide +kernel
theorem dX1_sumAhead_84 : decode cX1_sumAhead 84 = .ok (.iload 8, 2) := by decide +kernel
theorem dX1_sumAhead_86 : decode cX1_sumAhead 86 = .ok (.laload, 1) := by decide +kernel
theorem dX1_sumAhead_87 : decode cX1_sumAhead 87 = .ok (.ladd, 1) := by decide +kernel
theorem dX1_sumAhead_88 : decode cX1_sumAhead 88 = .ok (.lstore_n 2, 1) := by decide +kernel
theorem dX1_sumAhead_89 : decode cX1_sumAhead 89 = .ok (.lload 4, 2) := by decide +kernel
theorem dX1_sumAhead_91 : decode cX1_sumAhead 91 = .ok (.aload_n 0, 1) := by decide +kernel
theorem dX1_sumAhead_92 : decode cX1_sumAhead 92 = .ok (.getfield 12, 3) := by decide +kernel
theorem dX1_sumAhead_95 : decode cX1_sumAhead 95 = .ok (.iconst 0, 1) := by decide +kernel
theorem dX1_sumAhead_96 : decode cX1_sumAhead 96 = .ok (.aload_n 0, 1) := by decide +kernel
theorem dX1_sumAhead_97 : decode cX1_sumAhead 97 = .ok (.getfield 25, 3) := by decide +kernel
theorem dX1_sumAhead_100 : decode cX1_sumAhead 100 = .ok (.iload 7, 2) := by decide +kernel
theorem dX1_sumAhead_102 : decode cX1_sumAhead 102 = .ok (.iaload, 1) := by decide +kernel
theorem dX1_sumAhead_103 : decode cX1_sumAhead 103 = .ok (.invokevirtual 145, 3) := by decide +kernel
theorem dX1_sumAhead_106 : decode cX1_sumAhead 106 = .ok (.aload_n 0, 1) := by decide +kernel
theorem dX1_sumAhead_107 : decode cX1_sumAhead 107 = .ok (.getfield 35, 3) := by decide +kernel
theorem dX1_sumAhead_110 : decode cX1_sumAhead 110 = .ok (.iload 8, 2) := by decide +kernel
theorem dX1_sumAhead_112 : decode cX1_sumAhead 112 = .ok (.laload, 1) := by decide +kernel
theorem dX1_sumAhead_113 : decode cX1_sumAhead 113 = .ok (.lmul, 1) := by decide +kernel
theorem dX1_sumAhead_114 : decode cX1_sumAhead 114 = .ok (.ladd, 1) := by decide +kernel
theorem dX1_sumAhead_115 : decode cX1_sumAhead 115 = .ok (.lstore 4, 2) := by decide +kernel
theorem dX1_sumAhead_117 : decode cX1_sumAhead 117 = .ok (.iinc 7 1, 3) := by decide +kernel
theorem dX1_sumAhead_120 : decode cX1_sumAhead 120 = .ok (.goto (-70), 3) := by decide +kernel
theorem dX1_sumAhead_123 : decode cX1_sumAhead 123 = .ok (.aload_n 0, 1) := by decide +kernel
theorem dX1_sumAhead_124 : decode cX1_sumAhead 124 = .ok (.getfield 31, 3) := by decide +kernel
theorem dX1_sumAhead_127 : decode cX1_sumAhead 127 = .ok (.iload_n 1, 1) := by decide +kernel
theorem dX1_sumAhead_128 : decode cX1_sumAhead 128 = .ok (.lload_n 2, 1) := by decide +kernel
theorem dX1_sumAhead_129 : decode cX1_sumAhead 129 = .ok (.lastore, 1) := by decide +kernel
theorem dX1_sumAhead_130 : decode cX1_sumAhead 130 = .ok (.aload_n 0, 1) := by decide +kernel
theorem dX1_sumAhead_131 : decode cX1_sumAhead 131 = .ok (.getfield 35, 3) := by decide +kernel
theorem dX1_sumAhead_134 : decode cX1_sumAhead 134 = .ok (.iload_n 1, 1) := by decide +kernel
theorem dX1_sumAhead_135 : decode cX1_sumAhead 135 = .ok (.lload 4, 2) := by decide +kernel
theorem dX1_sumAhead_137 : decode cX1_sumAhead 137 = .ok (.lastore, 1) := by decide +kernel
theorem dX1_sumAhead_138 : decode cX1_sumAhead 138 = .ok (.iinc 1 (-1), 3) := by decide +kernel
theorem dX1_sumAhead_141 : decode cX1_sumAhead 141 = .ok (.goto (-128), 3) := by decide +kernel
theorem dX1_sumAhead_144 : decode cX1_sumAhead 144 = .ok (.return_, 1) := by decide +kernel
theorem dX1_sumBehind_0 : decode cX1_sumBehind 0 = .ok (.aload_n 0, 1) := by decide +kernel
theorem dX1_sumBehind_1 : decode cX1_sumBehind 1 = .ok (.getfield 38, 3) := by decide +kernel
theorem dX1_sumBehind_4 : decode cX1_sumBehind 4 = .ok (.lconst 0, 1) := by decide +kernel
theorem dX1_sumBehind_5 : decode cX1_sumBehind 5 = .ok (.invokestatic 149, 3) := by decide +kernel
theorem dX1_sumBehind_8 : decode cX1_sumBehind 8 = .ok (.aload_n 0, 1) := by decide +kernel
theorem dX1_sumBehind_9 : decode cX1_sumBehind 9 = .ok (.getfield 38, 3) := by decide +kernel
theorem dX1_sumBehind_12 : decode cX1_sumBehind 12 = .ok (.iconst 0, 1) := by decide +kernel
theorem dX1_sumBehind_13 : decode cX1_sumBehind 13 = .ok (.lconst 1, 1) := by decide +kernel
theorem dX1_sumBehind_14 : decode cX1_sumBehind 14 = .ok (.lastore, 1) := by decide +kernel
theorem dX1_sumBehind_15 : decode cX1_sumBehind 15 = .ok (.iconst 0, 1) := by decide +kernel
theorem dX1_sumBehind_16 : decode cX1_sumBehind 16 = .ok (.istore_n 1, 1) := by decide +kernel
theorem dX1_sumBehind_17 : decode cX1_sumBehind 17 = .ok (.iload_n 1, 1) := by decide +kernel
theorem dX1_sumBehind_18 : decode cX1_sumBehind 18 = .ok (.aload_n 0, 1) := by decide +kernel
theorem dX1_sumBehind_19 : decode cX1_sumBehind 19 = .ok (.getfield 60, 3) := by decide +kernel
theorem dX1_sumBehind_22 : decode cX1_sumBehind 22 = .ok (.if_icmp .ge 78, 3) := by decide +kernel
theorem dX1_sumBehind_25 : decode cX1_sumBehind 25 = .ok (.iload_n 1, 1) := by decide +kernel
theorem dX1_sumBehind_26 : decode cX1_sumBehind 26 = .ok (.sipush 480, 3) := by decide +kernel
theorem dX1_sumBehind_29 : decode cX1_sumBehind 29 = .ok (.if_icmp .ge 71, 3) := by decide +kernel
theorem dX1_sumBehind_32 : decode cX1_sumBehind 32 = .ok (.aload_n 0, 1) := by decide +kernel
theorem dX1_sumBehind_33 : decode cX1_sumBehind 33 = .ok (.iload_n 1, 1) := by decide +kernel
theorem dX1_sumBehind_34 : decode cX1_sumBehind 34 = .ok (.iconst 1, 1) := by decide +kernel
theorem dX1_sumBehind_35 : decode cX1_sumBehind 35 = .ok (.iadd, 1) := by decide +kernel
theorem dX1_sumBehind_36 : decode cX1_sumBehind 36 = .ok (.invokevirtual 142, 3) := by decide +kernel
theorem dX1_sumBehind_39 : decode cX1_sumBehind 39 = .ok (.istore_n 2, 1) := by decide +kernel
theorem dX1_sumBehind_40 : decode cX1_sumBehind 40 = .ok (.aload_n 0, 1) := by decide +kernel
theorem dX1_sumBehind_41 : decode cX1_sumBehind 41 = .ok (.iload_n 1, 1) := by decide +kernel
theorem dX1_sumBehind_42 : decode cX1_sumBehind 42 = .ok (.invokevirtual 142, 3) := by decide +kernel
theorem dX1_sumBehind_45 : decode cX1_sumBehind 45 = .ok (.istore_n 3, 1) := by decide +kernel
theorem dX1_sumBehind_46 : decode cX1_sumBehind 46 = .ok (.iload_n 3, 1) := by decide +kernel
theorem dX1_sumBehind_47 : decode cX1_sumBehind 47 = .ok (.iload_n 2, 1) := by decide +kernel
theorem dX1_sumBehind_48 : decode cX1_sumBehind 48 = .ok (.if_icmp .ge 46, 3) := by decide +kernel
theorem dX1_sumBehind_51 : decode cX1_sumBehind 51 = .ok (.aload_n 0, 1) := by decide +kernel
theorem dX1_sumBehind_52 : decode cX1_sumBehind 52 = .ok (.getfield 28, 3) := by decide +kernel
theorem dX1_sumBehind_55 : decode cX1_sumBehind 55 = .ok (.iload_n 3, 1) := by decide +kernel
theorem dX1_sumBehind_56 : decode cX1_sumBehind 56 = .ok (.iaload, 1) := by decide +kernel
theorem dX1_sumBehind_57 : decode cX1_sumBehind 57 = .ok (.istore 4, 2) := by decide +kernel
theorem dX1_sumBehind_59 : decode cX1_sumBehind 59 = .ok (.iload 4, 2) := by decide +kernel
theorem dX1_sumBehind_61 : decode cX1_sumBehind 61 = .ok (.ifCond .lt 27, 3) := by decide +kernel
theorem dX1_sumBehind_64 : decode cX1_sumBehind 64 = .ok (.iload 4, 2) := by decide +kernel
theorem dX1_sumBehind_66 : decode cX1_sumBehind 66 = .ok (.sipush 480, 3) := by decide +kernel
theorem dX1_sumBehind_69 : decode cX1_sumBehind 69 = .ok (.if_icmp .ge 19, 3) := by decide +kernel
theorem dX1_sumBehind_72 : decode cX1_sumBehind 72 = .ok (.aload_n 0, 1) := by decide +kernel
theorem dX1_sumBehind_73 : decode cX1_sumBehind 73 = .ok (.getfield 38, 3) := by decide +kernel
theorem dX1_sumBehind_76 : decode cX1_sumBehind 76 = .ok (.iload 4, 2) := by decide +kernel
theorem dX1_sumBehind_78 : decode cX1_sumBehind 78 = .ok (.dup2, 1) := by decide +kernel
theorem dX1_sumBehind_79 : decode cX1_sumBehind 79 = .ok (.laload, 1) := by decide +kernel
theorem dX1_sumBehind_80 : decode cX1_sumBehind 80 = .ok (.aload_n 0, 1) := by decide +kernel
theorem dX1_sumBehind_81 : decode cX1_sumBehind 81 = .ok (.getfield 38, 3) := by decide +kernel
theorem dX1_sumBehind_84 : decode cX1_sumBehind 84 = .ok (.iload_n 1, 1) := by decide +kernel
theorem dX1_sumBehind_85 : decode cX1_sumBehind 85 = .ok (.laload, 1) := by decide +kernel
theorem dX1_sumBehind_86 : decode cX1_sumBehind 86 = .ok (.ladd, 1) := by decide +kernel
theorem dX1_sumBehind_87 : decode cX1_sumBehind 87 = .ok (.lastore, 1) := by decide +kernel
theorem dX1_sumBehind_88 : decode cX1_sumBehind 88 = .ok (.iinc 3 1, 3) := by decide +kernel
theorem dX1_sumBehind_91 : decode cX1_sumBehind 91 = .ok (.goto (-45), 3) := by decide +kernel
theorem dX1_sumBehind_94 : decode cX1_sumBehind 94 = .ok (.iinc 1 1, 3) := by decide +kernel
theorem dX1_sumBehind_97 : decode cX1_sumBehind 97 = .ok (.goto (-80), 3) := by decide +kernel
theorem dX1_sumBehind_100 : decode cX1_sumBehind 100 = .ok (.return_, 1) := by decide +kernel
theorem dX1_sumSeenCells_0 : decode cX1_sumSeenCells 0 = .ok (.aload_n 0, 1) := by decide +kernel
theorem dX1_sumSeenCells_1 : decode cX1_sumSeenCells 1 = .ok (.getfield 50, 3) := by decide +kernel
theorem dX1_sumSeenCells_4 : decode cX1_sumSeenCells 4 = .ok (.lconst 0, 1) := by decide +kernel
theorem dX1_sumSeenCells_5 : decode cX1_sumSeenCells 5 = .ok (.invokestatic 149, 3) := by decide +kernel
theorem dX1_sumSeenCells_8 : decode cX1_sumSeenCells 8 = .ok (.iconst 0, 1) := by decide +kernel
theorem dX1_sumSeenCells_9 : decode cX1_sumSeenCells 9 = .ok (.istore_n 1, 1) := by decide +kernel
theorem dX1_sumSeenCells_10 : decode cX1_sumSeenCells 10 = .ok (.iload_n 1, 1) := by decide +kernel
theorem dX1_sumSeenCells_11 : decode cX1_sumSeenCells 11 = .ok (.aload_n 0, 1) := by decide +kernel
theorem dX1_sumSeenCells_12 : decode cX1_sumSeenCells 12 = .ok (.getfield 59, 3) := by decide +kernel
theorem dX1_sumSeenCells_15 : decode cX1_sumSeenCells 15 = .ok (.if_icmp .ge 92, 3) := by decide +kernel
theorem dX1_sumSeenCells_18 : decode cX1_sumSeenCells 18 = .ok (.aload_n 0, 1) := by decide +kernel
theorem dX1_sumSeenCells_19 : decode cX1_sumSeenCells 19 = .ok (.iload_n 1, 1) := by decide +kernel
theorem dX1_sumSeenCells_20 : decode cX1_sumSeenCells 20 = .ok (.iconst 1, 1) := by decide +kernel
theorem dX1_sumSeenCells_21 : decode cX1_sumSeenCells 21 = .ok (.iadd, 1) := by decide +kernel
theorem dX1_sumSeenCells_22 : decode cX1_sumSeenCells 22 = .ok (.invokevirtual 85, 3) := by decide +kernel
theorem dX1_sumSeenCells_25 : decode cX1_sumSeenCells 25 = .ok (.istore_n 2, 1) := by decide +kernel
theorem dX1_sumSeenCells_26 : decode cX1_sumSeenCells 26 = .ok (.aload_n 0, 1) := by decide +kernel
theorem dX1_sumSeenCells_27 : decode cX1_sumSeenCells 27 = .ok (.iload_n 1, 1) := by decide +kernel
theorem dX1_sumSeenCells_28 : decode cX1_sumSeenCells 28 = .ok (.invokevirtual 85, 3) := by decide +kernel
theorem dX1_sumSeenCells_31 : decode cX1_sumSeenCells 31 = .ok (.istore_n 3, 1) := by decide +kernel
theorem dX1_sumSeenCells_32 : decode cX1_sumSeenCells 32 = .ok (.iload_n 3, 1) := by decide +kernel
theorem dX1_sumSeenCells_33 : decode cX1_sumSeenCells 33 = .ok (.iload_n 2, 1) := by decide +kernel
theorem dX1_sumSeenCells_34 : decode cX1_sumSeenCells 34 = .ok (.if_icmp .ge 67, 3) := by decide +kernel
theorem dX1_sumSeenCells_37 : decode cX1_sumSeenCells 37 = .ok (.aload_n 0, 1) := by decide +kernel
theorem dX1_sumSeenCells_38 : decode cX1_sumSeenCells 38 = .ok (.iload_n 3, 1) := by decide +kernel
theorem dX1_sumSeenCells_39 : decode cX1_sumSeenCells 39 = .ok (.iconst 1, 1) := by decide +kernel
theorem dX1_sumSeenCells_40 : decode cX1_sumSeenCells 40 = .ok (.iadd, 1) := by decide +kernel
theorem dX1_sumSeenCells_41 : decode cX1_sumSeenCells 41 = .ok (.invokevirtual 142, 3) := by decide +kernel
theorem dX1_sumSeenCells_44 : decode cX1_sumSeenCells 44 = .ok (.istore 4, 2) := by decide +kernel
theorem dX1_sumSeenCells_46 : decode cX1_sumSeenCells 46 = .ok (.aload_n 0, 1) := by decide +kernel
theorem dX1_sumSeenCells_47 : decode cX1_sumSeenCells 47 = .ok (.iload_n 3, 1) := by decide +kernel
theorem dX1_sumSeenCells_48 : decode cX1_sumSeenCells 48 = .ok (.invokevirtual 142, 3) := by decide +kernel
theorem dX1_sumSeenCells_51 : decode cX1_sumSeenCells 51 = .ok (.istore 5, 2) := by decide +kernel
theorem dX1_sumSeenCells_53 : decode cX1_sumSeenCells 53 = .ok (.iload 5, 2) := by decide +kernel
theorem dX1_sumSeenCells_55 : decode cX1_sumSeenCells 55 = .ok (.iload 4, 2) := by decide +kernel
theorem dX1_sumSeenCells_57 : decode cX1_sumSeenCells 57 = .ok (.if_icmp .ge 38, 3) := by decide +kernel
theorem dX1_sumSeenCells_60 : decode cX1_sumSeenCells 60 = .ok (.aload_n 0, 1) := by decide +kernel
theorem dX1_sumSeenCells_61 : decode cX1_sumSeenCells 61 = .ok (.iload_n 1, 1) := by decide +kernel
theorem dX1_sumSeenCells_62 : decode cX1_sumSeenCells 62 = .ok (.aload_n 0, 1) := by decide +kernel
theorem dX1_sumSeenCells_63 : decode cX1_sumSeenCells 63 = .ok (.iload 5, 2) := by decide +kernel
theorem dX1_sumSeenCells_65 : decode cX1_sumSeenCells 65 = .ok (.invokevirtual 152, 3) := by decide +kernel
theorem dX1_sumSeenCells_68 : decode cX1_sumSeenCells 68 = .ok (.aload_n 0, 1) := by decide +kernel
theorem dX1_sumSeenCells_69 : decode cX1_sumSeenCells 69 = .ok (.getfield 38, 3) := by decide +kernel
theorem dX1_sumSeenCells_72 : decode cX1_sumSeenCells 72 = .ok (.iload_n 3, 1) := by decide +kernel
theorem dX1_sumSeenCells_73 : decode cX1_sumSeenCells 73 = .ok (.laload, 1) := by decide +kernel
theorem dX1_sumSeenCells_74 : decode cX1_sumSeenCells 74 = .ok (.aload_n 0, 1) := by decide +kernel
theorem dX1_sumSeenCells_75 : decode cX1_sumSeenCells 75 = .ok (.aload_n 0, 1) := by decide +kernel
theorem dX1_sumSeenCells_76 : decode cX1_sumSeenCells 76 = .ok (.getfield 28, 3) := by decide +kernel
theorem dX1_sumSeenCells_79 : decode cX1_sumSeenCells 79 = .ok (.iload 5, 2) := by decide +kernel
theorem dX1_sumSeenCells_81 : decode cX1_sumSeenCells 81 = .ok (.iaload, 1) := by decide +kernel
theorem dX1_sumSeenCells_82 : decode cX1_sumSeenCells 82 = .ok (.invokevirtual 155, 3) := by decide +kernel
theorem dX1_sumSeenCells_85 : decode cX1_sumSeenCells 85 = .ok (.lmul, 1) := by decide +kernel
theorem dX1_sumSeenCells_86 : decode cX1_sumSeenCells 86 = .ok (.invokevirtual 159, 3) := by decide +kernel
theorem dX1_sumSeenCells_89 : decode cX1_sumSeenCells 89 = .ok (.iinc 5 1, 3) := by decide +kernel
theorem dX1_sumSeenCells_92 : decode cX1_sumSeenCells 92 = .ok (.goto (-39), 3) := by decide +kernel
theorem dX1_sumSeenCells_95 : decode cX1_sumSeenCells 95 = .ok (.iinc 3 1, 3) := by decide +kernel
theorem dX1_sumSeenCells_98 : decode cX1_sumSeenCells 98 = .ok (.goto (-66), 3) := by decide +kernel
theorem dX1_sumSeenCells_101 : decode cX1_sumSeenCells 101 = .ok (.iinc 1 1, 3) := by decide +kernel
theorem dX1_sumSeenCells_104 : decode cX1_sumSeenCells 104 = .ok (.goto (-94), 3) := by decide +kernel
theorem dX1_sumSeenCells_107 : decode cX1_sumSeenCells 107 = .ok (.return_, 1) := by decide +kernel
theorem dX1_addSeen_0 : decode cX1_addSeen 0 = .ok (.iconst 0, 1) := by decide +kernel
theorem dX1_addSeen_1 : decode cX1_addSeen 1 = .ok (.istore 5, 2) := by decide +kernel
theorem dX1_addSeen_3 : decode cX1_addSeen 3 = .ok (.iload 5, 2) := by decide +kernel
theorem dX1_addSeen_5 : decode cX1_addSeen 5 = .ok (.iconst 4, 1) := by decide +kernel
theorem dX1_addSeen_6 : decode cX1_addSeen 6 = .ok (.if_icmp .ge 49, 3) := by decide +kernel
theorem dX1_addSeen_9 : decode cX1_addSeen 9 = .ok (.iload_n 1, 1) := by decide +kernel
theorem dX1_addSeen_10 : decode cX1_addSeen 10 = .ok (.iload 5, 2) := by decide +kernel
theorem dX1_addSeen_12 : decode cX1_addSeen 12 = .ok (.iload_n 2, 1) := by decide +kernel
theorem dX1_addSeen_13 : decode cX1_addSeen 13 = .ok (.iload 5, 2) := by decide +kernel
theorem dX1_addSeen_15 : decode cX1_addSeen 15 = .ok (.invokestatic 163, 3) := by decide +kernel
theorem dX1_addSeen_18 : decode cX1_addSeen 18 = .ok (.invokestatic 168, 3) := by decide +kernel
theorem dX1_addSeen_21 : decode cX1_addSeen 21 = .ok (.istore 6, 2) := by decide +kernel
theorem dX1_addSeen_23 : decode cX1_addSeen 23 = .ok (.iload 6, 2) := by decide +kernel
theorem dX1_addSeen_25 : decode cX1_addSeen 25 = .ok (.ifCond .lt 24, 3) := by decide +kernel
theorem dX1_addSeen_28 : decode cX1_addSeen 28 = .ok (.iload 6, 2) := by decide +kernel
theorem dX1_addSeen_30 : decode cX1_addSeen 30 = .ok (.aload_n 0, 1) := by decide +kernel
theorem dX1_addSeen_31 : decode cX1_addSeen 31 = .ok (.getfield 50, 3) := by decide +kernel
theorem dX1_addSeen_34 : decode cX1_addSeen 34 = .ok (.arraylength, 1) := by decide +kernel
theorem dX1_addSeen_35 : decode cX1_addSeen 35 = .ok (.if_icmp .ge 14, 3) := by decide +kernel
theorem dX1_addSeen_38 : decode cX1_addSeen 38 = .ok (.aload_n 0, 1) := by decide +kernel
theorem dX1_addSeen_39 : decode cX1_addSeen 39 = .ok (.getfield 50, 3) := by decide +kernel
theorem dX1_addSeen_42 : decode cX1_addSeen 42 = .ok (.iload 6, 2) := by decide +kernel
theorem dX1_addSeen_44 : decode cX1_addSeen 44 = .ok (.dup2, 1) := by decide +kernel
theorem dX1_addSeen_45 : decode cX1_addSeen 45 = .ok (.laload, 1) := by decide +kernel
theorem dX1_addSeen_46 : decode cX1_addSeen 46 = .ok (.lload_n 3, 1) := by decide +kernel
theorem dX1_addSeen_47 : decode cX1_addSeen 47 = .ok (.ladd, 1) := by decide +kernel
theorem dX1_addSeen_48 : decode cX1_addSeen 48 = .ok (.lastore, 1) := by decide +kernel
theorem dX1_addSeen_49 : decode cX1_addSeen 49 = .ok (.iinc 5 1, 3) := by decide +kernel
theorem dX1_addSeen_52 : decode cX1_addSeen 52 = .ok (.goto (-49), 3) := by decide +kernel
theorem dX1_addSeen_55 : decode cX1_addSeen 55 = .ok (.return_, 1) := by decide +kernel
theorem dX1_seenAt_0 : decode cX1_seenAt 0 = .ok (.iconst 4, 1) := by decide +kernel
theorem dX1_seenAt_1 : decode cX1_seenAt 1 = .ok (.iload_n 0, 1) := by decide +kernel
theorem dX1_seenAt_2 : decode cX1_seenAt 2 = .ok (.imul, 1) := by decide +kernel
theorem dX1_seenAt_3 : decode cX1_seenAt 3 = .ok (.iload_n 1, 1) := by decide +kernel
theorem dX1_seenAt_4 : decode cX1_seenAt 4 = .ok (.iadd, 1) := by decide +kernel
theorem dX1_seenAt_5 : decode cX1_seenAt 5 = .ok (.bipush 21, 2) := by decide +kernel
theorem dX1_seenAt_7 : decode cX1_seenAt 7 = .ok (.imul, 1) := by decide +kernel
theorem dX1_seenAt_8 : decode cX1_seenAt 8 = .ok (.iload_n 2, 1) := by decide +kernel
theorem dX1_seenAt_9 : decode cX1_seenAt 9 = .ok (.iadd, 1) := by decide +kernel
theorem dX1_seenAt_10 : decode cX1_seenAt 10 = .ok (.ireturn, 1) := by decide +kernel
theorem dX1_firstNode_0 : decode cX1_firstNode 0 = .ok (.aload_n 0, 1) := by decide +kernel
theorem dX1_firstNode_1 : decode cX1_firstNode 1 = .ok (.getfield 18, 3) := by decide +kernel
theorem dX1_firstNode_4 : decode cX1_firstNode 4 = .ok (.iload_n 1, 1) := by decide +kernel
theorem dX1_firstNode_5 : decode cX1_firstNode 5 = .ok (.invokestatic 110, 3) := by decide +kernel
theorem dX1_firstNode_8 : decode cX1_firstNode 8 = .ok (.sipush 480, 3) := by decide +kernel
theorem dX1_firstNode_11 : decode cX1_firstNode 11 = .ok (.invokestatic 130, 3) := by decide +kernel
theorem dX1_firstNode_14 : decode cX1_firstNode 14 = .ok (.ireturn, 1) := by decide +kernel
theorem dX1_firstLinkOf_0 : decode cX1_firstLinkOf 0 = .ok (.aload_n 0, 1) := by decide +kernel
theorem dX1_firstLinkOf_1 : decode cX1_firstLinkOf 1 = .ok (.getfield 22, 3) := by decide +kernel
theorem dX1_firstLinkOf_4 : decode cX1_firstLinkOf 4 = .ok (.iload_n 1, 1) := by decide +kernel
theorem dX1_firstLinkOf_5 : decode cX1_firstLinkOf 5 = .ok (.invokestatic 110, 3) := by decide +kernel
theorem dX1_firstLinkOf_8 : decode cX1_firstLinkOf 8 = .ok (.sipush 4800, 3) := by decide +kernel
theorem dX1_firstLinkOf_11 : decode cX1_firstLinkOf 11 = .ok (.invokestatic 130, 3) := by decide +kernel
theorem dX1_firstLinkOf_14 : decode cX1_firstLinkOf 14 = .ok (.ireturn, 1) := by decide +kernel
theorem dX1_isLast_0 : decode cX1_isLast 0 = .ok (.iload_n 1, 1) := by decide +kernel
theorem dX1_isLast_1 : decode cX1_isLast 1 = .ok (.aload_n 0, 1) := by decide +kernel
theorem dX1_isLast_2 : decode cX1_isLast 2 = .ok (.aload_n 0, 1) := by decide +kernel
theorem dX1_isLast_3 : decode cX1_isLast 3 = .ok (.getfield 59, 3) := by decide +kernel
theorem dX1_isLast_6 : decode cX1_isLast 6 = .ok (.invokevirtual 85, 3) := by decide +kernel
theorem dX1_isLast_9 : decode cX1_isLast 9 = .ok (.if_icmp .lt 7, 3) := by decide +kernel
theorem dX1_isLast_12 : decode cX1_isLast 12 = .ok (.iconst 1, 1) := by decide +kernel
theorem dX1_isLast_13 : decode cX1_isLast 13 = .ok (.goto 4, 3) := by decide +kernel
theorem dX1_isLast_16 : decode cX1_isLast 16 = .ok (.iconst 0, 1) := by decide +kernel
theorem dX1_isLast_17 : decode cX1_isLast 17 = .ok (.ireturn, 1) := by decide +kernel
theorem dX1_nodeBy_0 : decode cX1_nodeBy 0 = .ok (.aload_n 0, 1) := by decide +kernel
theorem dX1_nodeBy_1 : decode cX1_nodeBy 1 = .ok (.getfield 28, 3) := by decide +kernel
theorem dX1_nodeBy_4 : decode cX1_nodeBy 4 = .ok (.iload_n 1, 1) := by decide +kernel
theorem dX1_nodeBy_5 : decode cX1_nodeBy 5 = .ok (.invokestatic 110, 3) := by decide +kernel
theorem dX1_nodeBy_8 : decode cX1_nodeBy 8 = .ok (.ireturn, 1) := by decide +kernel
theorem dX1_lineBy_0 : decode cX1_lineBy 0 = .ok (.aload_n 0, 1) := by decide +kernel
theorem dX1_lineBy_1 : decode cX1_lineBy 1 = .ok (.getfield 12, 3) := by decide +kernel
theorem dX1_lineBy_4 : decode cX1_lineBy 4 = .ok (.getfield 172, 3) := by decide +kernel
theorem dX1_lineBy_7 : decode cX1_lineBy 7 = .ok (.aload_n 0, 1) := by decide +kernel
theorem dX1_lineBy_8 : decode cX1_lineBy 8 = .ok (.getfield 25, 3) := by decide +kernel
theorem dX1_lineBy_11 : decode cX1_lineBy 11 = .ok (.iload_n 1, 1) := by decide +kernel
theorem dX1_lineBy_12 : decode cX1_lineBy 12 = .ok (.invokestatic 110, 3) := by decide +kernel
theorem dX1_lineBy_15 : decode cX1_lineBy 15 = .ok (.invokestatic 110, 3) := by decide +kernel
theorem dX1_lineBy_18 : decode cX1_lineBy 18 = .ok (.ireturn, 1) := by decide +kernel
theorem dX1_partBy_0 : decode cX1_partBy 0 = .ok (.iload_n 2, 1) := by decide +kernel
theorem dX1_partBy_1 : decode cX1_partBy 1 = .ok (.ifCond .lt 27, 3) := by decide +kernel
theorem dX1_partBy_4 : decode cX1_partBy 4 = .ok (.iload_n 2, 1) := by decide +kernel
theorem dX1_partBy_5 : decode cX1_partBy 5 = .ok (.sipush 4800, 3) := by decide +kernel
theorem dX1_partBy_8 : decode cX1_partBy 8 = .ok (.if_icmp .ge 20, 3) := by decide +kernel
theorem dX1_partBy_11 : decode cX1_partBy 11 = .ok (.aload_n 0, 1) := by decide +kernel
theorem dX1_partBy_12 : decode cX1_partBy 12 = .ok (.getfield 12, 3) := by decide +kernel
theorem dX1_partBy_15 : decode cX1_partBy 15 = .ok (.iload_n 1, 1) := by decide +kernel
theorem dX1_partBy_16 : decode cX1_partBy 16 = .ok (.aload_n 0, 1) := by decide +kernel
theorem dX1_partBy_17 : decode cX1_partBy 17 = .ok (.getfield 25, 3) := by decide +kernel
theorem dX1_partBy_20 : decode cX1_partBy 20 = .ok (.iload_n 2, 1) := by decide +kernel
theorem dX1_partBy_21 : decode cX1_partBy 21 = .ok (.iaload, 1) := by decide +kernel
theorem dX1_partBy_22 : decode cX1_partBy 22 = .ok (.invokevirtual 145, 3) := by decide +kernel
theorem dX1_partBy_25 : decode cX1_partBy 25 = .ok (.goto 4, 3) := by decide +kernel
theorem dX1_partBy_28 : decode cX1_partBy 28 = .ok (.lconst 0, 1) := by decide +kernel
theorem dX1_partBy_29 : decode cX1_partBy 29 = .ok (.lreturn, 1) := by decide +kernel
theorem dX1_aheadOf_0 : decode cX1_aheadOf 0 = .ok (.iload_n 1, 1) := by decide +kernel
theorem dX1_aheadOf_1 : decode cX1_aheadOf 1 = .ok (.ifCond .lt 19, 3) := by decide +kernel
theorem dX1_aheadOf_4 : decode cX1_aheadOf 4 = .ok (.iload_n 1, 1) := by decide +kernel
theorem dX1_aheadOf_5 : decode cX1_aheadOf 5 = .ok (.sipush 480, 3) := by decide +kernel
theorem dX1_aheadOf_8 : decode cX1_aheadOf 8 = .ok (.if_icmp .ge 12, 3) := by decide +kernel
theorem dX1_aheadOf_11 : decode cX1_aheadOf 11 = .ok (.aload_n 0, 1) := by decide +kernel
theorem dX1_aheadOf_12 : decode cX1_aheadOf 12 = .ok (.getfield 31, 3) := by decide +kernel
theorem dX1_aheadOf_15 : decode cX1_aheadOf 15 = .ok (.iload_n 1, 1) := by decide +kernel
theorem dX1_aheadOf_16 : decode cX1_aheadOf 16 = .ok (.laload, 1) := by decide +kernel
theorem dX1_aheadOf_17 : decode cX1_aheadOf 17 = .ok (.goto 4, 3) := by decide +kernel
theorem dX1_aheadOf_20 : decode cX1_aheadOf 20 = .ok (.lconst 0, 1) := by decide +kernel
theorem dX1_aheadOf_21 : decode cX1_aheadOf 21 = .ok (.lreturn, 1) := by decide +kernel
theorem dX1_size_0 : decode cX1_size 0 = .ok (.aload_n 0, 1) := by decide +kernel
theorem dX1_size_1 : decode cX1_size 1 = .ok (.iconst 0, 1) := by decide +kernel
theorem dX1_size_2 : decode cX1_size 2 = .ok (.invokevirtual 155, 3) := by decide +kernel
theorem dX1_size_5 : decode cX1_size 5 = .ok (.lreturn, 1) := by decide +kernel
theorem dX1_heft_0 : decode cX1_heft 0 = .ok (.aload_n 0, 1) := by decide +kernel
theorem dX1_heft_1 : decode cX1_heft 1 = .ok (.getfield 35, 3) := by decide +kernel
theorem dX1_heft_4 : decode cX1_heft 4 = .ok (.iconst 0, 1) := by decide +kernel
theorem dX1_heft_5 : decode cX1_heft 5 = .ok (.invokestatic 175, 3) := by decide +kernel
theorem dX1_heft_8 : decode cX1_heft 8 = .ok (.lreturn, 1) := by decide +kernel
theorem dX1_timesSeen_0 : decode cX1_timesSeen 0 = .ok (.aload_n 0, 1) := by decide +kernel
theorem dX1_timesSeen_1 : decode cX1_timesSeen 1 = .ok (.getfield 50, 3) := by decide +kernel
theorem dX1_timesSeen_4 : decode cX1_timesSeen 4 = .ok (.iload_n 1, 1) := by decide +kernel
theorem dX1_timesSeen_5 : decode cX1_timesSeen 5 = .ok (.iload_n 2, 1) := by decide +kernel
theorem dX1_timesSeen_6 : decode cX1_timesSeen 6 = .ok (.iload_n 3, 1) := by decide +kernel
theorem dX1_timesSeen_7 : decode cX1_timesSeen 7 = .ok (.invokestatic 168, 3) := by decide +kernel
theorem dX1_timesSeen_10 : decode cX1_timesSeen 10 = .ok (.invokestatic 175, 3) := by decide +kernel
theorem dX1_timesSeen_13 : decode cX1_timesSeen 13 = .ok (.lreturn, 1) := by decide +kernel
theorem dX1_sumSeen_0 : decode cX1_sumSeen 0 = .ok (.lconst 0, 1) := by decide +kernel
theorem dX1_sumSeen_1 : decode cX1_sumSeen 1 = .ok (.lstore_n 3, 1) := by decide +kernel
theorem dX1_sumSeen_2 : decode cX1_sumSeen 2 = .ok (.iconst 0, 1) := by decide +kernel
theorem dX1_sumSeen_3 : decode cX1_sumSeen 3 = .ok (.istore 5, 2) := by decide +kernel
theorem dX1_sumSeen_5 : decode cX1_sumSeen 5 = .ok (.iload 5, 2) := by decide +kernel
theorem dX1_sumSeen_7 : decode cX1_sumSeen 7 = .ok (.bipush 21, 2) := by decide +kernel
theorem dX1_sumSeen_9 : decode cX1_sumSeen 9 = .ok (.if_icmp .ge 24, 3) := by decide +kernel
theorem dX1_sumSeen_12 : decode cX1_sumSeen 12 = .ok (.lload_n 3, 1) := by decide +kernel
theorem dX1_sumSeen_13 : decode cX1_sumSeen 13 = .ok (.iload 5, 2) := by decide +kernel
theorem dX1_sumSeen_15 : decode cX1_sumSeen 15 = .ok (.i2l, 1) := by decide +kernel
theorem dX1_sumSeen_16 : decode cX1_sumSeen 16 = .ok (.aload_n 0, 1) := by decide +kernel
theorem dX1_sumSeen_17 : decode cX1_sumSeen 17 = .ok (.iload_n 1, 1) := by decide +kernel
theorem dX1_sumSeen_18 : decode cX1_sumSeen 18 = .ok (.iload_n 2, 1) := by decide +kernel
theorem dX1_sumSeen_19 : decode cX1_sumSeen 19 = .ok (.iload 5, 2) := by decide +kernel
theorem dX1_sumSeen_21 : decode cX1_sumSeen 21 = .ok (.invokevirtual 178, 3) := by decide +kernel
theorem dX1_sumSeen_24 : decode cX1_sumSeen 24 = .ok (.lmul, 1) := by decide +kernel
theorem dX1_sumSeen_25 : decode cX1_sumSeen 25 = .ok (.ladd, 1) := by decide +kernel
theorem dX1_sumSeen_26 : decode cX1_sumSeen 26 = .ok (.lstore_n 3, 1) := by decide +kernel
theorem dX1_sumSeen_27 : decode cX1_sumSeen 27 = .ok (.iinc 5 1, 3) := by decide +kernel
theorem dX1_sumSeen_30 : decode cX1_sumSeen 30 = .ok (.goto (-25), 3) := by decide +kernel
theorem dX1_sumSeen_33 : decode cX1_sumSeen 33 = .ok (.lload_n 3, 1) := by decide +kernel
theorem dX1_sumSeen_34 : decode cX1_sumSeen 34 = .ok (.lreturn, 1) := by decide +kernel
theorem dX1_lowestOf_0 : decode cX1_lowestOf 0 = .ok (.iconst 0, 1) := by decide +kernel
theorem dX1_lowestOf_1 : decode cX1_lowestOf 1 = .ok (.istore_n 3, 1) := by decide +kernel
theorem dX1_lowestOf_2 : decode cX1_lowestOf 2 = .ok (.iload_n 3, 1) := by decide +kernel
theorem dX1_lowestOf_3 : decode cX1_lowestOf 3 = .ok (.bipush 20, 2) := by decide +kernel
theorem dX1_lowestOf_5 : decode cX1_lowestOf 5 = .ok (.if_icmp .ge 21, 3) := by decide +kernel
theorem dX1_lowestOf_8 : decode cX1_lowestOf 8 = .ok (.aload_n 0, 1) := by decide +kernel
theorem dX1_lowestOf_9 : decode cX1_lowestOf 9 = .ok (.iload_n 1, 1) := by decide +kernel
theorem dX1_lowestOf_10 : decode cX1_lowestOf 10 = .ok (.iload_n 2, 1) := by decide +kernel
theorem dX1_lowestOf_11 : decode cX1_lowestOf 11 = .ok (.iload_n 3, 1) := by decide +kernel
theorem dX1_lowestOf_12 : decode cX1_lowestOf 12 = .ok (.invokevirtual 178, 3) := by decide +kernel
theorem dX1_lowestOf_15 : decode cX1_lowestOf 15 = .ok (.lconst 0, 1) := by decide +kernel
theorem dX1_lowestOf_16 : decode cX1_lowestOf 16 = .ok (.lcmp, 1) := by decide +kernel
theorem dX1_lowestOf_17 : decode cX1_lowestOf 17 = .ok (.ifCond .ne 9, 3) := by decide +kernel
theorem dX1_lowestOf_20 : decode cX1_lowestOf 20 = .ok (.iinc 3 1, 3) := by decide +kernel
theorem dX1_lowestOf_23 : decode cX1_lowestOf 23 = .ok (.goto (-21), 3) := by decide +kernel
theorem dX1_lowestOf_26 : decode cX1_lowestOf 26 = .ok (.iload_n 3, 1) := by decide +kernel
theorem dX1_lowestOf_27 : decode cX1_lowestOf 27 = .ok (.ireturn, 1) := by decide +kernel
theorem dX1_highestOf_0 : decode cX1_highestOf 0 = .ok (.bipush 20, 2) := by decide +kernel
theorem dX1_highestOf_2 : decode cX1_highestOf 2 = .ok (.istore_n 3, 1) := by decide +kernel
theorem dX1_highestOf_3 : decode cX1_highestOf 3 = .ok (.iload_n 3, 1) := by decide +kernel
theorem dX1_highestOf_4 : decode cX1_highestOf 4 = .ok (.ifCond .le 21, 3) := by decide +kernel
theorem dX1_highestOf_7 : decode cX1_highestOf 7 = .ok (.aload_n 0, 1) := by decide +kernel
theorem dX1_highestOf_8 : decode cX1_highestOf 8 = .ok (.iload_n 1, 1) := by decide +kernel
theorem dX1_highestOf_9 : decode cX1_highestOf 9 = .ok (.iload_n 2, 1) := by decide +kernel
theorem dX1_highestOf_10 : decode cX1_highestOf 10 = .ok (.iload_n 3, 1) := by decide +kernel
theorem dX1_highestOf_11 : decode cX1_highestOf 11 = .ok (.invokevirtual 178, 3) := by decide +kernel
theorem dX1_highestOf_14 : decode cX1_highestOf 14 = .ok (.lconst 0, 1) := by decide +kernel
theorem dX1_highestOf_15 : decode cX1_highestOf 15 = .ok (.lcmp, 1) := by decide +kernel
theorem dX1_highestOf_16 : decode cX1_highestOf 16 = .ok (.ifCond .ne 9, 3) := by decide +kernel
theorem dX1_highestOf_19 : decode cX1_highestOf 19 = .ok (.iinc 3 (-1), 3) := by decide +kernel
theorem dX1_highestOf_22 : decode cX1_highestOf 22 = .ok (.goto (-19), 3) := by decide +kernel
theorem dX1_highestOf_25 : decode cX1_highestOf 25 = .ok (.iload_n 3, 1) := by decide +kernel
theorem dX1_highestOf_26 : decode cX1_highestOf 26 = .ok (.ireturn, 1) := by decide +kernel
theorem dX1_linkBy_0 : decode cX1_linkBy 0 = .ok (.aload_n 0, 1) := by decide +kernel
theorem dX1_linkBy_1 : decode cX1_linkBy 1 = .ok (.iload_n 1, 1) := by decide +kernel
theorem dX1_linkBy_2 : decode cX1_linkBy 2 = .ok (.iconst 1, 1) := by decide +kernel
theorem dX1_linkBy_3 : decode cX1_linkBy 3 = .ok (.iadd, 1) := by decide +kernel
theorem dX1_linkBy_4 : decode cX1_linkBy 4 = .ok (.invokevirtual 142, 3) := by decide +kernel
theorem dX1_linkBy_7 : decode cX1_linkBy 7 = .ok (.istore_n 3, 1) := by decide +kernel
theorem dX1_linkBy_8 : decode cX1_linkBy 8 = .ok (.aload_n 0, 1) := by decide +kernel
theorem dX1_linkBy_9 : decode cX1_linkBy 9 = .ok (.iload_n 1, 1) := by decide +kernel
theorem dX1_linkBy_10 : decode cX1_linkBy 10 = .ok (.invokevirtual 142, 3) := by decide +kernel
theorem dX1_linkBy_13 : decode cX1_linkBy 13 = .ok (.istore 4, 2) := by decide +kernel
theorem dX1_linkBy_15 : decode cX1_linkBy 15 = .ok (.iload 4, 2) := by decide +kernel
theorem dX1_linkBy_17 : decode cX1_linkBy 17 = .ok (.iload_n 3, 1) := by decide +kernel
theorem dX1_linkBy_18 : decode cX1_linkBy 18 = .ok (.if_icmp .ge 22, 3) := by decide +kernel
theorem dX1_linkBy_21 : decode cX1_linkBy 21 = .ok (.aload_n 0, 1) := by decide +kernel
theorem dX1_linkBy_22 : decode cX1_linkBy 22 = .ok (.iload 4, 2) := by decide +kernel
theorem dX1_linkBy_24 : decode cX1_linkBy 24 = .ok (.invokevirtual 152, 3) := by decide +kernel
theorem dX1_linkBy_27 : decode cX1_linkBy 27 = .ok (.iload_n 2, 1) := by decide +kernel
theorem dX1_linkBy_28 : decode cX1_linkBy 28 = .ok (.if_icmp .ne 6, 3) := by decide +kernel
theorem dX1_linkBy_31 : decode cX1_linkBy 31 = .ok (.iload 4, 2) := by decide +kernel
theorem dX1_linkBy_33 : decode cX1_linkBy 33 = .ok (.ireturn, 1) := by decide +kernel
theorem dX1_linkBy_34 : decode cX1_linkBy 34 = .ok (.iinc 4 1, 3) := by decide +kernel
theorem dX1_linkBy_37 : decode cX1_linkBy 37 = .ok (.goto (-22), 3) := by decide +kernel
theorem dX1_linkBy_40 : decode cX1_linkBy 40 = .ok (.iconst (-1), 1) := by decide +kernel
theorem dX1_linkBy_41 : decode cX1_linkBy 41 = .ok (.ireturn, 1) := by decide +kernel
theorem dX1_rankOf_0 : decode cX1_rankOf 0 = .ok (.lconst 0, 1) := by decide +kernel
theorem dX1_rankOf_1 : decode cX1_rankOf 1 = .ok (.lstore_n 3, 1) := by decide +kernel
theorem dX1_rankOf_2 : decode cX1_rankOf 2 = .ok (.iconst 0, 1) := by decide +kernel
theorem dX1_rankOf_3 : decode cX1_rankOf 3 = .ok (.istore 5, 2) := by decide +kernel
theorem dX1_rankOf_5 : decode cX1_rankOf 5 = .ok (.iconst 0, 1) := by decide +kernel
theorem dX1_rankOf_6 : decode cX1_rankOf 6 = .ok (.istore 6, 2) := by decide +kernel
theorem dX1_rankOf_8 : decode cX1_rankOf 8 = .ok (.iload 6, 2) := by decide +kernel
theorem dX1_rankOf_10 : decode cX1_rankOf 10 = .ok (.aload_n 0, 1) := by decide +kernel
theorem dX1_rankOf_11 : decode cX1_rankOf 11 = .ok (.getfield 59, 3) := by decide +kernel
theorem dX1_rankOf_14 : decode cX1_rankOf 14 = .ok (.if_icmp .ge 76, 3) := by decide +kernel
theorem dX1_rankOf_17 : decode cX1_rankOf 17 = .ok (.aload_n 0, 1) := by decide +kernel
theorem dX1_rankOf_18 : decode cX1_rankOf 18 = .ok (.iload 5, 2) := by decide +kernel
theorem dX1_rankOf_20 : decode cX1_rankOf 20 = .ok (.lload_n 1, 1) := by decide +kernel
theorem dX1_rankOf_21 : decode cX1_rankOf 21 = .ok (.iload 6, 2) := by decide +kernel
theorem dX1_rankOf_23 : decode cX1_rankOf 23 = .ok (.invokestatic 182, 3) := by decide +kernel
theorem dX1_rankOf_26 : decode cX1_rankOf 26 = .ok (.invokevirtual 186, 3) := by decide +kernel
theorem dX1_rankOf_29 : decode cX1_rankOf 29 = .ok (.istore 7, 2) := by decide +kernel
theorem dX1_rankOf_31 : decode cX1_rankOf 31 = .ok (.iload 7, 2) := by decide +kernel
theorem dX1_rankOf_33 : decode cX1_rankOf 33 = .ok (.iconst (-1), 1) := by decide +kernel
theorem dX1_rankOf_34 : decode cX1_rankOf 34 = .ok (.if_icmp .ne 7, 3) := by decide +kernel
theorem dX1_rankOf_37 : decode cX1_rankOf 37 = .ok (.ldc2_w 189, 3) := by decide +kernel
theorem dX1_rankOf_40 : decode cX1_rankOf 40 = .ok (.lreturn, 1) := by decide +kernel
theorem dX1_rankOf_41 : decode cX1_rankOf 41 = .ok (.aload_n 0, 1) := by decide +kernel
theorem dX1_rankOf_42 : decode cX1_rankOf 42 = .ok (.iload 5, 2) := by decide +kernel
theorem dX1_rankOf_44 : decode cX1_rankOf 44 = .ok (.invokevirtual 142, 3) := by decide +kernel
theorem dX1_rankOf_47 : decode cX1_rankOf 47 = .ok (.istore 8, 2) := by decide +kernel
theorem dX1_rankOf_49 : decode cX1_rankOf 49 = .ok (.iload 8, 2) := by decide +kernel
theorem dX1_rankOf_51 : decode cX1_rankOf 51 = .ok (.iload 7, 2) := by decide +kernel
theorem dX1_rankOf_53 : decode cX1_rankOf 53 = .ok (.if_icmp .ge 23, 3) := by decide +kernel
theorem dX1_rankOf_56 : decode cX1_rankOf 56 = .ok (.lload_n 3, 1) := by decide +kernel
theorem dX1_rankOf_57 : decode cX1_rankOf 57 = .ok (.aload_n 0, 1) := by decide +kernel
theorem dX1_rankOf_58 : decode cX1_rankOf 58 = .ok (.aload_n 0, 1) := by decide +kernel
theorem dX1_rankOf_59 : decode cX1_rankOf 59 = .ok (.getfield 28, 3) := by decide +kernel
theorem dX1_rankOf_62 : decode cX1_rankOf 62 = .ok (.iload 8, 2) := by decide +kernel
theorem dX1_rankOf_64 : decode cX1_rankOf 64 = .ok (.iaload, 1) := by decide +kernel
theorem dX1_rankOf_65 : decode cX1_rankOf 65 = .ok (.invokevirtual 155, 3) := by decide +kernel
theorem dX1_rankOf_68 : decode cX1_rankOf 68 = .ok (.ladd, 1) := by decide +kernel
theorem dX1_rankOf_69 : decode cX1_rankOf 69 = .ok (.lstore_n 3, 1) := by decide +kernel
theorem dX1_rankOf_70 : decode cX1_rankOf 70 = .ok (.iinc 8 1, 3) := by decide +kernel
theorem dX1_rankOf_73 : decode cX1_rankOf 73 = .ok (.goto (-24), 3) := by decide +kernel
theorem dX1_rankOf_76 : decode cX1_rankOf 76 = .ok (.aload_n 0, 1) := by decide +kernel
theorem dX1_rankOf_77 : decode cX1_rankOf 77 = .ok (.iload 7, 2) := by decide +kernel
theorem dX1_rankOf_79 : decode cX1_rankOf 79 = .ok (.invokevirtual 191, 3) := by decide +kernel
theorem dX1_rankOf_82 : decode cX1_rankOf 82 = .ok (.istore 5, 2) := by decide +kernel
theorem dX1_rankOf_84 : decode cX1_rankOf 84 = .ok (.iinc 6 1, 3) := by decide +kernel
theorem dX1_rankOf_87 : decode cX1_rankOf 87 = .ok (.goto (-79), 3) := by decide +kernel
theorem dX1_rankOf_90 : decode cX1_rankOf 90 = .ok (.lload_n 3, 1) := by decide +kernel
theorem dX1_rankOf_91 : decode cX1_rankOf 91 = .ok (.lreturn, 1) := by decide +kernel
theorem dX1_cellsOf_0 : decode cX1_cellsOf 0 = .ok (.lconst 0, 1) := by decide +kernel
theorem dX1_cellsOf_1 : decode cX1_cellsOf 1 = .ok (.lstore_n 3, 1) := by decide +kernel
theorem dX1_cellsOf_2 : decode cX1_cellsOf 2 = .ok (.lload_n 1, 1) := by decide +kernel
theorem dX1_cellsOf_3 : decode cX1_cellsOf 3 = .ok (.lstore 5, 2) := by decide +kernel
theorem dX1_cellsOf_5 : decode cX1_cellsOf 5 = .ok (.iconst 0, 1) := by decide +kernel
theorem dX1_cellsOf_6 : decode cX1_cellsOf 6 = .ok (.istore 7, 2) := by decide +kernel
theorem dX1_cellsOf_8 : decode cX1_cellsOf 8 = .ok (.iconst 0, 1) := by decide +kernel
theorem dX1_cellsOf_9 : decode cX1_cellsOf 9 = .ok (.istore 8, 2) := by decide +kernel
theorem dX1_cellsOf_11 : decode cX1_cellsOf 11 = .ok (.iload 8, 2) := by decide +kernel
theorem dX1_cellsOf_13 : decode cX1_cellsOf 13 = .ok (.aload_n 0, 1) := by decide +kernel
theorem dX1_cellsOf_14 : decode cX1_cellsOf 14 = .ok (.getfield 59, 3) := by decide +kernel
theorem dX1_cellsOf_17 : decode cX1_cellsOf 17 = .ok (.if_icmp .ge 94, 3) := by decide +kernel
theorem dX1_cellsOf_20 : decode cX1_cellsOf 20 = .ok (.aload_n 0, 1) := by decide +kernel
theorem dX1_cellsOf_21 : decode cX1_cellsOf 21 = .ok (.iload 7, 2) := by decide +kernel
theorem dX1_cellsOf_23 : decode cX1_cellsOf 23 = .ok (.invokevirtual 142, 3) := by decide +kernel
theorem dX1_cellsOf_26 : decode cX1_cellsOf 26 = .ok (.istore 9, 2) := by decide +kernel
theorem dX1_cellsOf_28 : decode cX1_cellsOf 28 = .ok (.aload_n 0, 1) := by decide +kernel
theorem dX1_cellsOf_29 : decode cX1_cellsOf 29 = .ok (.iload 7, 2) := by decide +kernel
theorem dX1_cellsOf_31 : decode cX1_cellsOf 31 = .ok (.iconst 1, 1) := by decide +kernel
theorem dX1_cellsOf_32 : decode cX1_cellsOf 32 = .ok (.iadd, 1) := by decide +kernel
theorem dX1_cellsOf_33 : decode cX1_cellsOf 33 = .ok (.invokevirtual 142, 3) := by decide +kernel
theorem dX1_cellsOf_36 : decode cX1_cellsOf 36 = .ok (.iconst 1, 1) := by decide +kernel
theorem dX1_cellsOf_37 : decode cX1_cellsOf 37 = .ok (.isub, 1) := by decide +kernel
theorem dX1_cellsOf_38 : decode cX1_cellsOf 38 = .ok (.istore 10, 2) := by decide +kernel
theorem dX1_cellsOf_40 : decode cX1_cellsOf 40 = .ok (.iload 9, 2) := by decide +kernel
theorem dX1_cellsOf_42 : decode cX1_cellsOf 42 = .ok (.iload 10, 2) := by decide +kernel
theorem dX1_cellsOf_44 : decode cX1_cellsOf 44 = .ok (.if_icmp .ge 40, 3) := by decide +kernel
theorem dX1_cellsOf_47 : decode cX1_cellsOf 47 = .ok (.aload_n 0, 1) := by decide +kernel
theorem dX1_cellsOf_48 : decode cX1_cellsOf 48 = .ok (.aload_n 0, 1) := by decide +kernel
theorem dX1_cellsOf_49 : decode cX1_cellsOf 49 = .ok (.getfield 28, 3) := by decide +kernel
theorem dX1_cellsOf_52 : decode cX1_cellsOf 52 = .ok (.iload 9, 2) := by decide +kernel
theorem dX1_cellsOf_54 : decode cX1_cellsOf 54 = .ok (.iaload, 1) := by decide +kernel
theorem dX1_cellsOf_55 : decode cX1_cellsOf 55 = .ok (.invokevirtual 155, 3) := by decide +kernel
theorem dX1_cellsOf_58 : decode cX1_cellsOf 58 = .ok (.lstore 11, 2) := by decide +kernel
theorem dX1_cellsOf_60 : decode cX1_cellsOf 60 = .ok (.lload 5, 2) := by decide +kernel
theorem dX1_cellsOf_62 : decode cX1_cellsOf 62 = .ok (.lload 11, 2) := by decide +kernel
theorem dX1_cellsOf_64 : decode cX1_cellsOf 64 = .ok (.lcmp, 1) := by decide +kernel
theorem dX1_cellsOf_65 : decode cX1_cellsOf 65 = .ok (.ifCond .ge 6, 3) := by decide +kernel
theorem dX1_cellsOf_68 : decode cX1_cellsOf 68 = .ok (.goto 16, 3) := by decide +kernel
theorem dX1_cellsOf_71 : decode cX1_cellsOf 71 = .ok (.lload 5, 2) := by decide +kernel
theorem dX1_cellsOf_73 : decode cX1_cellsOf 73 = .ok (.lload 11, 2) := by decide +kernel
theorem dX1_cellsOf_75 : decode cX1_cellsOf 75 = .ok (.lsub, 1) := by decide +kernel
theorem dX1_cellsOf_76 : decode cX1_cellsOf 76 = .ok (.lstore 5, 2) := by decide +kernel
theorem dX1_cellsOf_78 : decode cX1_cellsOf 78 = .ok (.iinc 9 1, 3) := by decide +kernel
theorem dX1_cellsOf_81 : decode cX1_cellsOf 81 = .ok (.goto (-41), 3) := by decide +kernel
theorem dX1_cellsOf_84 : decode cX1_cellsOf 84 = .ok (.lload_n 3, 1) := by decide +kernel
theorem dX1_cellsOf_85 : decode cX1_cellsOf 85 = .ok (.iload 8, 2) := by decide +kernel
theorem dX1_cellsOf_87 : decode cX1_cellsOf 87 = .ok (.aload_n 0, 1) := by decide +kernel
theorem dX1_cellsOf_88 : decode cX1_cellsOf 88 = .ok (.iload 9, 2) := by decide +kernel
theorem dX1_cellsOf_90 : decode cX1_cellsOf 90 = .ok (.invokevirtual 152, 3) := by decide +kernel
theorem dX1_cellsOf_93 : decode cX1_cellsOf 93 = .ok (.invokestatic 194, 3) := by decide +kernel
theorem dX1_cellsOf_96 : decode cX1_cellsOf 96 = .ok (.lstore_n 3, 1) := by decide +kernel
theorem dX1_cellsOf_97 : decode cX1_cellsOf 97 = .ok (.aload_n 0, 1) := by decide +kernel
theorem dX1_cellsOf_98 : decode cX1_cellsOf 98 = .ok (.iload 9, 2) := by decide +kernel
theorem dX1_cellsOf_100 : decode cX1_cellsOf 100 = .ok (.invokevirtual 191, 3) := by decide +kernel
theorem dX1_cellsOf_103 : decode cX1_cellsOf 103 = .ok (.istore 7, 2) := by decide +kernel
theorem dX1_cellsOf_105 : decode cX1_cellsOf 105 = .ok (.iinc 8 1, 3) := by decide +kernel
theorem dX1_cellsOf_108 : decode cX1_cellsOf 108 = .ok (.goto (-97), 3) := by decide +kernel
theorem dX1_cellsOf_111 : decode cX1_cellsOf 111 = .ok (.lload_n 3, 1) := by decide +kernel
theorem dX1_cellsOf_112 : decode cX1_cellsOf 112 = .ok (.lreturn, 1) := by decide +kernel
theorem dX2_init_0 : decode cX2_init 0 = .ok (.aload_n 0, 1) := by decide +kernel
theorem dX2_init_1 : decode cX2_init 1 = .ok (.invokespecial 3, 3) := by decide +kernel
theorem dX2_init_4 : decode cX2_init 4 = .ok (.aload_n 0, 1) := by decide +kernel
theorem dX2_init_5 : decode cX2_init 5 = .ok (.iconst 5, 1) := by decide +kernel
theorem dX2_init_6 : decode cX2_init 6 = .ok (.newarray .int, 2) := by decide +kernel
theorem dX2_init_8 : decode cX2_init 8 = .ok (.putfield 9, 3) := by decide +kernel
theorem dX2_init_11 : decode cX2_init 11 = .ok (.aload_n 0, 1) := by decide +kernel
theorem dX2_init_12 : decode cX2_init 12 = .ok (.sipush 320, 3) := by decide +kernel
theorem dX2_init_15 : decode cX2_init 15 = .ok (.newarray .int, 2) := by decide +kernel
theorem dX2_init_17 : decode cX2_init 17 = .ok (.putfield 15, 3) := by decide +kernel
theorem dX2_init_20 : decode cX2_init 20 = .ok (.aload_n 0, 1) := by decide +kernel
theorem dX2_init_21 : decode cX2_init 21 = .ok (.sipush 320, 3) := by decide +kernel
theorem dX2_init_24 : decode cX2_init 24 = .ok (.newarray .int, 2) := by decide +kernel
theorem dX2_init_26 : decode cX2_init 26 = .ok (.putfield 18, 3) := by decide +kernel
theorem dX2_init_29 : decode cX2_init 29 = .ok (.aload_n 0, 1) := by decide +kernel
theorem dX2_init_30 : decode cX2_init 30 = .ok (.sipush 320, 3) := by decide +kernel
theorem dX2_init_33 : decode cX2_init 33 = .ok (.newarray .int, 2) := by decide +kernel
theorem dX2_init_35 : decode cX2_init 35 = .ok (.putfield 21, 3) := by decide +kernel
theorem dX2_init_38 : decode cX2_init 38 = .ok (.aload_n 0, 1) := by decide +kernel
theorem dX2_init_39 : decode cX2_init 39 = .ok (.sipush 1280, 3) := by decide +kernel
theorem dX2_init_42 : decode cX2_init 42 = .ok (.newarray .long, 2) := by decide +kernel
theorem dX2_init_44 : decode cX2_init 44 = .ok (.putfield 24, 3) := by decide +kernel
theorem dX2_init_47 : decode cX2_init 47 = .ok (.aload_n 0, 1) := by decide +kernel
theorem dX2_init_48 : decode cX2_init 48 = .ok (.iconst 4, 1) := by decide +kernel
theorem dX2_init_49 : decode cX2_init 49 = .ok (.newarray .int, 2) := by decide +kernel
theorem dX2_init_51 : decode cX2_init 51 = .ok (.putfield 28, 3) := by decide +kernel
theorem dX2_init_54 : decode cX2_init 54 = .ok (.return_, 1) := by decide +kernel
theorem dX2_make_0 : decode cX2_make 0 = .ok (.aload_n 0, 1) := by decide +kernel
theorem dX2_make_1 : decode cX2_make 1 = .ok (.aload_n 1, 1) := by decide +kernel
theorem dX2_make_2 : decode cX2_make 2 = .ok (.invokevirtual 31, 3) := by decide +kernel
theorem dX2_make_5 : decode cX2_make 5 = .ok (.aload_n 0, 1) := by decide +kernel
theorem dX2_make_6 : decode cX2_make 6 = .ok (.aload_n 1, 1) := by decide +kernel
theorem dX2_make_7 : decode cX2_make 7 = .ok (.invokevirtual 35, 3) := by decide +kernel
theorem dX2_make_10 : decode cX2_make 10 = .ok (.aload_n 0, 1) := by decide +kernel
theorem dX2_make_11 : decode cX2_make 11 = .ok (.iconst 0, 1) := by decide +kernel
theorem dX2_make_12 : decode cX2_make 12 = .ok (.putfield 38, 3) := by decide +kernel
theorem dX2_make_15 : decode cX2_make 15 = .ok (.iconst 0, 1) := by decide +kernel
theorem dX2_make_16 : decode cX2_make 16 = .ok (.istore_n 2, 1) := by decide +kernel
theorem dX2_make_17 : decode cX2_make 17 = .ok (.iload_n 2, 1) := by decide +kernel
theorem dX2_make_18 : decode cX2_make 18 = .ok (.aload_n 1, 1) := by decide +kernel
theorem dX2_make_19 : decode cX2_make 19 = .ok (.getfield 42, 3) := by decide +kernel
theorem dX2_make_22 : decode cX2_make 22 = .ok (.if_icmp .ge 49, 3) := by decide +kernel
theorem dX2_make_25 : decode cX2_make 25 = .ok (.iload_n 2, 1) := by decide +kernel
theorem dX2_make_26 : decode cX2_make 26 = .ok (.iconst 4, 1) := by decide +kernel
theorem dX2_make_27 : decode cX2_make 27 = .ok (.if_icmp .ge 44, 3) := by decide +kernel
theorem dX2_make_30 : decode cX2_make 30 = .ok (.aload_n 0, 1) := by decide +kernel
theorem dX2_make_31 : decode cX2_make 31 = .ok (.getfield 9, 3) := by decide +kernel
theorem dX2_make_34 : decode cX2_make 34 = .ok (.iload_n 2, 1) := by decide +kernel
theorem dX2_make_35 : decode cX2_make 35 = .ok (.aload_n 0, 1) := by decide +kernel
theorem dX2_make_36 : decode cX2_make 36 = .ok (.getfield 38, 3) := by decide +kernel
theorem dX2_make_39 : decode cX2_make 39 = .ok (.iastore, 1) := by decide +kernel
theorem dX2_make_40 : decode cX2_make 40 = .ok (.aload_n 0, 1) := by decide +kernel
theorem dX2_make_41 : decode cX2_make 41 = .ok (.aload_n 1, 1) := by decide +kernel
theorem dX2_make_42 : decode cX2_make 42 = .ok (.iload_n 2, 1) := by decide +kernel
theorem dX2_make_43 : decode cX2_make 43 = .ok (.iconst 0, 1) := by decide +kernel
theorem dX2_make_44 : decode cX2_make 44 = .ok (.aload_n 1, 1) := by decide +kernel
theorem dX2_make_45 : decode cX2_make 45 = .ok (.iload_n 2, 1) := by decide +kernel
theorem dX2_make_46 : decode cX2_make 46 = .ok (.invokevirtual 47, 3) := by decide +kernel
theorem dX2_make_49 : decode cX2_make 49 = .ok (.iconst 0, 1) := by decide +kernel
theorem dX2_make_50 : decode cX2_make 50 = .ok (.invokestatic 51, 3) := by decide +kernel
theorem dX2_make_53 : decode cX2_make 53 = .ok (.aload_n 0, 1) := by decide +kernel
theorem dX2_make_54 : decode cX2_make 54 = .ok (.getfield 9, 3) := by decide +kernel
theorem dX2_make_57 : decode cX2_make 57 = .ok (.iload_n 2, 1) := by decide +kernel
theorem dX2_make_58 : decode cX2_make 58 = .ok (.iconst 1, 1) := by decide +kernel
theorem dX2_make_59 : decode cX2_make 59 = .ok (.iadd, 1) := by decide +kernel
theorem dX2_make_60 : decode cX2_make 60 = .ok (.aload_n 0, 1) := by decide +kernel
theorem dX2_make_61 : decode cX2_make 61 = .ok (.getfield 38, 3) := by decide +kernel
theorem dX2_make_64 : decode cX2_make 64 = .ok (.iastore, 1) := by decide +kernel
theorem dX2_make_65 : decode cX2_make 65 = .ok (.iinc 2 1, 3) := by decide +kernel
theorem dX2_make_68 : decode cX2_make 68 = .ok (.goto (-51), 3) := by decide +kernel
theorem dX2_make_71 : decode cX2_make 71 = .ok (.return_, 1) := by decide +kernel
theorem dX2_firstOf_0 : decode cX2_firstOf 0 = .ok (.aload_n 0, 1) := by decide +kernel
theorem dX2_firstOf_1 : decode cX2_firstOf 1 = .ok (.getfield 9, 3) := by decide +kernel
theorem dX2_firstOf_4 : decode cX2_firstOf 4 = .ok (.iload_n 1, 1) := by decide +kernel
theorem dX2_firstOf_5 : decode cX2_firstOf 5 = .ok (.invokestatic 55, 3) := by decide +kernel
theorem dX2_firstOf_8 : decode cX2_firstOf 8 = .ok (.sipush 320, 3) := by decide +kernel
theorem dX2_firstOf_11 : decode cX2_firstOf 11 = .ok (.invokestatic 61, 3) := by decide +kernel
theorem dX2_firstOf_14 : decode cX2_firstOf 14 = .ok (.ireturn, 1) := by decide +kernel
theorem dX2_partOf_0 : decode cX2_partOf 0 = .ok (.iload_n 1, 1) := by decide +kernel
theorem dX2_partOf_1 : decode cX2_partOf 1 = .ok (.sipush 320, 3) := by decide +kernel
theorem dX2_partOf_4 : decode cX2_partOf 4 = .ok (.imul, 1) := by decide +kernel
theorem dX2_partOf_5 : decode cX2_partOf 5 = .ok (.iload_n 2, 1) := by decide +kernel
theorem dX2_partOf_6 : decode cX2_partOf 6 = .ok (.iadd, 1) := by decide +kernel
theorem dX2_partOf_7 : decode cX2_partOf 7 = .ok (.istore_n 3, 1) := by decide +kernel
theorem dX2_partOf_8 : decode cX2_partOf 8 = .ok (.iload_n 3, 1) := by decide +kernel
theorem dX2_partOf_9 : decode cX2_partOf 9 = .ok (.ifCond .lt 21, 3) := by decide +kernel
theorem dX2_partOf_12 : decode cX2_partOf 12 = .ok (.iload_n 3, 1) := by decide +kernel
theorem dX2_partOf_13 : decode cX2_partOf 13 = .ok (.aload_n 0, 1) := by decide +kernel
theorem dX2_partOf_14 : decode cX2_partOf 14 = .ok (.getfield 24, 3) := by decide +kernel
theorem dX2_partOf_17 : decode cX2_partOf 17 = .ok (.arraylength, 1) := by decide +kernel
theorem dX2_partOf_18 : decode cX2_partOf 18 = .ok (.if_icmp .ge 12, 3) := by decide +kernel
theorem dX2_partOf_21 : decode cX2_partOf 21 = .ok (.aload_n 0, 1) := by decide +kernel
theorem dX2_partOf_22 : decode cX2_partOf 22 = .ok (.getfield 24, 3) := by decide +kernel
theorem dX2_partOf_25 : decode cX2_partOf 25 = .ok (.iload_n 3, 1) := by decide +kernel
theorem dX2_partOf_26 : decode cX2_partOf 26 = .ok (.laload, 1) := by decide +kernel
theorem dX2_partOf_27 : decode cX2_partOf 27 = .ok (.goto 4, 3) := by decide +kernel
theorem dX2_partOf_30 : decode cX2_partOf 30 = .ok (.lconst 0, 1) := by decide +kernel
theorem dX2_partOf_31 : decode cX2_partOf 31 = .ok (.lreturn, 1) := by decide +kernel
theorem dX2_takenByAll_0 : decode cX2_takenByAll 0 = .ok (.iconst 0, 1) := by decide +kernel
theorem dX2_takenByAll_1 : decode cX2_takenByAll 1 = .ok (.istore_n 2, 1) := by decide +kernel
theorem dX2_takenByAll_2 : decode cX2_takenByAll 2 = .ok (.iconst 0, 1) := by decide +kernel
theorem dX2_takenByAll_3 : decode cX2_takenByAll 3 = .ok (.istore_n 3, 1) := by decide +kernel
theorem dX2_takenByAll_4 : decode cX2_takenByAll 4 = .ok (.iload_n 3, 1) := by decide +kernel
theorem dX2_takenByAll_5 : decode cX2_takenByAll 5 = .ok (.iconst 4, 1) := by decide +kernel
theorem dX2_takenByAll_6 : decode cX2_takenByAll 6 = .ok (.if_icmp .ge 22, 3) := by decide +kernel
theorem dX2_takenByAll_9 : decode cX2_takenByAll 9 = .ok (.iload_n 2, 1) := by decide +kernel
theorem dX2_takenByAll_10 : decode cX2_takenByAll 10 = .ok (.aload_n 1, 1) := by decide +kernel
theorem dX2_takenByAll_11 : decode cX2_takenByAll 11 = .ok (.iload_n 3, 1) := by decide +kernel
theorem dX2_takenByAll_12 : decode cX2_takenByAll 12 = .ok (.invokevirtual 65, 3) := by decide +kernel
theorem dX2_takenByAll_15 : decode cX2_takenByAll 15 = .ok (.bipush 6, 2) := by decide +kernel
theorem dX2_takenByAll_17 : decode cX2_takenByAll 17 = .ok (.iload_n 3, 1) := by decide +kernel
theorem dX2_takenByAll_18 : decode cX2_takenByAll 18 = .ok (.imul, 1) := by decide +kernel
theorem dX2_takenByAll_19 : decode cX2_takenByAll 19 = .ok (.ishl, 1) := by decide +kernel
theorem dX2_takenByAll_20 : decode cX2_takenByAll 20 = .ok (.ior, 1) := by decide +kernel
theorem dX2_takenByAll_21 : decode cX2_takenByAll 21 = .ok (.istore_n 2, 1) := by decide +kernel
theorem dX2_takenByAll_22 : decode cX2_takenByAll 22 = .ok (.iinc 3 1, 3) := by decide +kernel
theorem dX2_takenByAll_25 : decode cX2_takenByAll 25 = .ok (.goto (-21), 3) := by decide +kernel
theorem dX2_takenByAll_28 : decode cX2_takenByAll 28 = .ok (.iload_n 2, 1) := by decide +kernel
theorem dX2_takenByAll_29 : decode cX2_takenByAll 29 = .ok (.ireturn, 1) := by decide +kernel
theorem dX2_codeOfAll_0 : decode cX2_codeOfAll 0 = .ok (.iconst 0, 1) := by decide +kernel
theorem dX2_codeOfAll_1 : decode cX2_codeOfAll 1 = .ok (.istore_n 2, 1) := by decide +kernel
theorem dX2_codeOfAll_2 : decode cX2_codeOfAll 2 = .ok (.iconst 0, 1) := by decide +kernel
theorem dX2_codeOfAll_3 : decode cX2_codeOfAll 3 = .ok (.istore_n 3, 1) := by decide +kernel
theorem dX2_codeOfAll_4 : decode cX2_codeOfAll 4 = .ok (.iload_n 3, 1) := by decide +kernel
theorem dX2_codeOfAll_5 : decode cX2_codeOfAll 5 = .ok (.iconst 4, 1) := by decide +kernel
theorem dX2_codeOfAll_6 : decode cX2_codeOfAll 6 = .ok (.if_icmp .ge 24, 3) := by decide +kernel
theorem dX2_codeOfAll_9 : decode cX2_codeOfAll 9 = .ok (.iload_n 2, 1) := by decide +kernel
theorem dX2_codeOfAll_10 : decode cX2_codeOfAll 10 = .ok (.aload_n 1, 1) := by decide +kernel
theorem dX2_codeOfAll_11 : decode cX2_codeOfAll 11 = .ok (.iload_n 3, 1) := by decide +kernel
theorem dX2_codeOfAll_12 : decode cX2_codeOfAll 12 = .ok (.invokevirtual 65, 3) := by decide +kernel
theorem dX2_codeOfAll_15 : decode cX2_codeOfAll 15 = .ok (.aload_n 0, 1) := by decide +kernel
theorem dX2_codeOfAll_16 : decode cX2_codeOfAll 16 = .ok (.getfield 28, 3) := by decide +kernel
theorem dX2_codeOfAll_19 : decode cX2_codeOfAll 19 = .ok (.iload_n 3, 1) := by decide +kernel
theorem dX2_codeOfAll_20 : decode cX2_codeOfAll 20 = .ok (.iaload, 1) := by decide +kernel
theorem dX2_codeOfAll_21 : decode cX2_codeOfAll 21 = .ok (.imul, 1) := by decide +kernel
theorem dX2_codeOfAll_22 : decode cX2_codeOfAll 22 = .ok (.iadd, 1) := by decide +kernel
theorem dX2_codeOfAll_23 : decode cX2_codeOfAll 23 = .ok (.istore_n 2, 1) := by decide +kernel
theorem dX2_codeOfAll_24 : decode cX2_codeOfAll 24 = .ok (.iinc 3 1, 3) := by decide +kernel
theorem dX2_codeOfAll_27 : decode cX2_codeOfAll 27 = .ok (.goto (-23), 3) := by decide +kernel
theorem dX2_codeOfAll_30 : decode cX2_codeOfAll 30 = .ok (.iload_n 2, 1) := by decide +kernel
theorem dX2_codeOfAll_31 : decode cX2_codeOfAll 31 = .ok (.ireturn, 1) := by decide +kernel
theorem dX2_setStrides_0 : decode cX2_setStrides 0 = .ok (.aload_n 0, 1) := by decide +kernel
theorem dX2_setStrides_1 : decode cX2_setStrides 1 = .ok (.getfield 28, 3) := by decide +kernel
theorem dX2_setStrides_4 : decode cX2_setStrides 4 = .ok (.iconst 0, 1) := by decide +kernel
theorem dX2_setStrides_5 : decode cX2_setStrides 5 = .ok (.invokestatic 68, 3) := by decide +kernel
theorem dX2_setStrides_8 : decode cX2_setStrides 8 = .ok (.iconst 1, 1) := by decide +kernel
theorem dX2_setStrides_9 : decode cX2_setStrides 9 = .ok (.istore_n 2, 1) := by decide +kernel
theorem dX2_setStrides_10 : decode cX2_setStrides 10 = .ok (.iconst 0, 1) := by decide +kernel
theorem dX2_setStrides_11 : decode cX2_setStrides 11 = .ok (.istore_n 3, 1) := by decide +kernel
theorem dX2_setStrides_12 : decode cX2_setStrides 12 = .ok (.iload_n 3, 1) := by decide +kernel
theorem dX2_setStrides_13 : decode cX2_setStrides 13 = .ok (.aload_n 1, 1) := by decide +kernel
theorem dX2_setStrides_14 : decode cX2_setStrides 14 = .ok (.getfield 74, 3) := by decide +kernel
theorem dX2_setStrides_17 : decode cX2_setStrides 17 = .ok (.iconst 1, 1) := by decide +kernel
theorem dX2_setStrides_18 : decode cX2_setStrides 18 = .ok (.isub, 1) := by decide +kernel
theorem dX2_setStrides_19 : decode cX2_setStrides 19 = .ok (.if_icmp .ge 31, 3) := by decide +kernel
theorem dX2_setStrides_22 : decode cX2_setStrides 22 = .ok (.iload_n 3, 1) := by decide +kernel
theorem dX2_setStrides_23 : decode cX2_setStrides 23 = .ok (.iconst 4, 1) := by decide +kernel
theorem dX2_setStrides_24 : decode cX2_setStrides 24 = .ok (.if_icmp .ge 26, 3) := by decide +kernel
theorem dX2_setStrides_27 : decode cX2_setStrides 27 = .ok (.aload_n 0, 1) := by decide +kernel
theorem dX2_setStrides_28 : decode cX2_setStrides 28 = .ok (.getfield 28, 3) := by decide +kernel
theorem dX2_setStrides_31 : decode cX2_setStrides 31 = .ok (.iload_n 3, 1) := by decide +kernel
theorem dX2_setStrides_32 : decode cX2_setStrides 32 = .ok (.iload_n 2, 1) := by decide +kernel
theorem dX2_setStrides_33 : decode cX2_setStrides 33 = .ok (.iastore, 1) := by decide +kernel
theorem dX2_setStrides_34 : decode cX2_setStrides 34 = .ok (.iload_n 2, 1) := by decide +kernel
theorem dX2_setStrides_35 : decode cX2_setStrides 35 = .ok (.aload_n 1, 1) := by decide +kernel
theorem dX2_setStrides_36 : decode cX2_setStrides 36 = .ok (.iload_n 3, 1) := by decide +kernel
theorem dX2_setStrides_37 : decode cX2_setStrides 37 = .ok (.invokevirtual 65, 3) := by decide +kernel
theorem dX2_setStrides_40 : decode cX2_setStrides 40 = .ok (.iconst 1, 1) := by decide +kernel
theorem dX2_setStrides_41 : decode cX2_setStrides 41 = .ok (.iadd, 1) := by decide +kernel
theorem dX2_setStrides_42 : decode cX2_setStrides 42 = .ok (.imul, 1) := by decide +kernel
theorem dX2_setStrides_43 : decode cX2_setStrides 43 = .ok (.istore_n 2, 1) := by decide +kernel
theorem dX2_setStrides_44 : decode cX2_setStrides 44 = .ok (.iinc 3 1, 3) := by decide +kernel
theorem dX2_setStrides_47 : decode cX2_setStrides 47 = .ok (.goto (-35), 3) := by decide +kernel
theorem dX2_setStrides_50 : decode cX2_setStrides 50 = .ok (.return_, 1) := by decide +kernel
theorem dX2_setScale_0 : decode cX2_setScale 0 = .ok (.aload_n 0, 1) := by decide +kernel
theorem dX2_setScale_1 : decode cX2_setScale 1 = .ok (.lconst 1, 1) := by decide +kernel
theorem dX2_setScale_2 : decode cX2_setScale 2 = .ok (.putfield 77, 3) := by decide +kernel
theorem dX2_setScale_5 : decode cX2_setScale 5 = .ok (.iconst 0, 1) := by decide +kernel
theorem dX2_setScale_6 : decode cX2_setScale 6 = .ok (.istore_n 2, 1) := by decide +kernel
theorem dX2_setScale_7 : decode cX2_setScale 7 = .ok (.iload_n 2, 1) := by decide +kernel
theorem dX2_setScale_8 : decode cX2_setScale 8 = .ok (.iconst 4, 1) := by decide +kernel
theorem dX2_setScale_9 : decode cX2_setScale 9 = .ok (.if_icmp .ge 47, 3) := by decide +kernel
theorem dX2_setScale_12 : decode cX2_setScale 12 = .ok (.aload_n 0, 1) := by decide +kernel
theorem dX2_setScale_13 : decode cX2_setScale 13 = .ok (.dup, 1) := by decide +kernel
theorem dX2_setScale_14 : decode cX2_setScale 14 = .ok (.getfield 77, 3) := by decide +kernel
theorem dX2_setScale_17 : decode cX2_setScale 17 = .ok (.iconst 1, 1) := by decide +kernel
theorem dX2_setScale_18 : decode cX2_setScale 18 = .ok (.aload_n 1, 1) := by decide +kernel
theorem dX2_setScale_19 : decode cX2_setScale 19 = .ok (.iload_n 2, 1) := by decide +kernel
theorem dX2_setScale_20 : decode cX2_setScale 20 = .ok (.invokevirtual 47, 3) := by decide +kernel
theorem dX2_setScale_23 : decode cX2_setScale 23 = .ok (.invokestatic 81, 3) := by decide +kernel
theorem dX2_setScale_26 : decode cX2_setScale 26 = .ok (.i2l, 1) := by decide +kernel
theorem dX2_setScale_27 : decode cX2_setScale 27 = .ok (.lmul, 1) := by decide +kernel
theorem dX2_setScale_28 : decode cX2_setScale 28 = .ok (.putfield 77, 3) := by decide +kernel
theorem dX2_setScale_31 : decode cX2_setScale 31 = .ok (.aload_n 0, 1) := by decide +kernel
theorem dX2_setScale_32 : decode cX2_setScale 32 = .ok (.dup, 1) := by decide +kernel
theorem dX2_setScale_33 : decode cX2_setScale 33 = .ok (.getfield 77, 3) := by decide +kernel
theorem dX2_setScale_36 : decode cX2_setScale 36 = .ok (.iconst 1, 1) := by decide +kernel
theorem dX2_setScale_37 : decode cX2_setScale 37 = .ok (.aload_n 1, 1) := by decide +kernel
theorem dX2_setScale_38 : decode cX2_setScale 38 = .ok (.iload_n 2, 1) := by decide +kernel
theorem dX2_setScale_39 : decode cX2_setScale 39 = .ok (.invokevirtual 65, 3) := by decide +kernel
theorem dX2_setScale_42 : decode cX2_setScale 42 = .ok (.invokestatic 81, 3) := by decide +kernel
theorem dX2_setScale_45 : decode cX2_setScale 45 = .ok (.i2l, 1) := by decide +kernel
theorem dX2_setScale_46 : decode cX2_setScale 46 = .ok (.lmul, 1) := by decide +kernel
theorem dX2_setScale_47 : decode cX2_setScale 47 = .ok (.putfield 77, 3) := by decide +kernel
theorem dX2_setScale_50 : decode cX2_setScale 50 = .ok (.iinc 2 1, 3) := by decide +kernel
theorem dX2_setScale_53 : decode cX2_setScale 53 = .ok (.goto (-46), 3) := by decide +kernel
theorem dX2_setScale_56 : decode cX2_setScale 56 = .ok (.return_, 1) := by decide +kernel
theorem dX2_lay_0 : decode cX2_lay 0 = .ok (.iload_n 3, 1) := by decide +kernel
theorem dX2_lay_1 : decode cX2_lay 1 = .ok (.ifCond .lt 16, 3) := by decide +kernel
theorem dX2_lay_4 : decode cX2_lay 4 = .ok (.iload_n 3, 1) := by decide +kernel
theorem dX2_lay_5 : decode cX2_lay 5 = .ok (.aload_n 1, 1) := by decide +kernel
theorem dX2_lay_6 : decode cX2_lay 6 = .ok (.getfield 74, 3) := by decide +kernel
theorem dX2_lay_9 : decode cX2_lay 9 = .ok (.if_icmp .ge 8, 3) := by decide +kernel
theorem dX2_lay_12 : decode cX2_lay 12 = .ok (.iload_n 3, 1) := by decide +kernel
theorem dX2_lay_13 : decode cX2_lay 13 = .ok (.iconst 4, 1) := by decide +kernel
theorem dX2_lay_14 : decode cX2_lay 14 = .ok (.if_icmp .lt 12, 3) := by decide +kernel
theorem dX2_lay_17 : decode cX2_lay 17 = .ok (.aload_n 0, 1) := by decide +kernel
theorem dX2_lay_18 : decode cX2_lay 18 = .ok (.aload_n 1, 1) := by decide +kernel
theorem dX2_lay_19 : decode cX2_lay 19 = .ok (.iload_n 2, 1) := by decide +kernel
theorem dX2_lay_20 : decode cX2_lay 20 = .ok (.iload 5, 2) := by decide +kernel
theorem dX2_lay_22 : decode cX2_lay 22 = .ok (.invokevirtual 86, 3) := by decide +kernel
theorem dX2_lay_25 : decode cX2_lay 25 = .ok (.return_, 1) := by decide +kernel
theorem dX2_lay_26 : decode cX2_lay 26 = .ok (.aload_n 1, 1) := by decide +kernel
theorem dX2_lay_27 : decode cX2_lay 27 = .ok (.iload_n 2, 1) := by decide +kernel
theorem dX2_lay_28 : decode cX2_lay 28 = .ok (.iload_n 3, 1) := by decide +kernel
theorem dX2_lay_29 : decode cX2_lay 29 = .ok (.invokevirtual 90, 3) := by decide +kernel
theorem dX2_lay_32 : decode cX2_lay 32 = .ok (.ifCond .eq 7, 3) := by decide +kernel
theorem dX2_lay_35 : decode cX2_lay 35 = .ok (.iconst 0, 1) := by decide +kernel
theorem dX2_lay_36 : decode cX2_lay 36 = .ok (.goto 13, 3) := by decide +kernel
theorem dX2_lay_39 : decode cX2_lay 39 = .ok (.iload 4, 2) := by decide +kernel
theorem dX2_lay_41 : decode cX2_lay 41 = .ok (.aload_n 1, 1) := by decide +kernel
theorem dX2_lay_42 : decode cX2_lay 42 = .ok (.iload_n 3, 1) := by decide +kernel
theorem dX2_lay_43 : decode cX2_lay 43 = .ok (.invokevirtual 65, 3) := by decide +kernel
theorem dX2_lay_46 : decode cX2_lay 46 = .ok (.invokestatic 94, 3) := by decide +kernel
theorem dX2_lay_49 : decode cX2_lay 49 = .ok (.istore 6, 2) := by decide +kernel
theorem dX2_lay_51 : decode cX2_lay 51 = .ok (.iload_n 3, 1) := by decide +kernel
theorem dX2_lay_52 : decode cX2_lay 52 = .ok (.aload_n 1, 1) := by decide +kernel
theorem dX2_lay_53 : decode cX2_lay 53 = .ok (.getfield 74, 3) := by decide +kernel
theorem dX2_lay_56 : decode cX2_lay 56 = .ok (.iconst 1, 1) := by decide +kernel
theorem dX2_lay_57 : decode cX2_lay 57 = .ok (.isub, 1) := by decide +kernel
theorem dX2_lay_58 : decode cX2_lay 58 = .ok (.if_icmp .ne 8, 3) := by decide +kernel
theorem dX2_lay_61 : decode cX2_lay 61 = .ok (.iload 4, 2) := by decide +kernel
theorem dX2_lay_63 : decode cX2_lay 63 = .ok (.goto 4, 3) := by decide +kernel
theorem dX2_lay_66 : decode cX2_lay 66 = .ok (.iconst 0, 1) := by decide +kernel
theorem dX2_lay_67 : decode cX2_lay 67 = .ok (.istore 7, 2) := by decide +kernel
theorem dX2_lay_69 : decode cX2_lay 69 = .ok (.iload 7, 2) := by decide +kernel
theorem dX2_lay_71 : decode cX2_lay 71 = .ok (.iload 6, 2) := by decide +kernel
theorem dX2_lay_73 : decode cX2_lay 73 = .ok (.if_icmp .gt 31, 3) := by decide +kernel
theorem dX2_lay_76 : decode cX2_lay 76 = .ok (.aload_n 0, 1) := by decide +kernel
theorem dX2_lay_77 : decode cX2_lay 77 = .ok (.aload_n 1, 1) := by decide +kernel
theorem dX2_lay_78 : decode cX2_lay 78 = .ok (.iload_n 2, 1) := by decide +kernel
theorem dX2_lay_79 : decode cX2_lay 79 = .ok (.iload_n 3, 1) := by decide +kernel
theorem dX2_lay_80 : decode cX2_lay 80 = .ok (.iconst 1, 1) := by decide +kernel
theorem dX2_lay_81 : decode cX2_lay 81 = .ok (.iadd, 1) := by decide +kernel
theorem dX2_lay_82 : decode cX2_lay 82 = .ok (.iload 4, 2) := by decide +kernel
theorem dX2_lay_84 : decode cX2_lay 84 = .ok (.iload 7, 2) := by decide +kernel
theorem dX2_lay_86 : decode cX2_lay 86 = .ok (.isub, 1) := by decide +kernel
theorem dX2_lay_87 : decode cX2_lay 87 = .ok (.iload 5, 2) := by decide +kernel
theorem dX2_lay_89 : decode cX2_lay 89 = .ok (.iload_n 3, 1) := by decide +kernel
theorem dX2_lay_90 : decode cX2_lay 90 = .ok (.iload 7, 2) := by decide +kernel
theorem dX2_lay_92 : decode cX2_lay 92 = .ok (.invokestatic 97, 3) := by decide +kernel
theorem dX2_lay_95 : decode cX2_lay 95 = .ok (.invokestatic 51, 3) := by decide +kernel
theorem dX2_lay_98 : decode cX2_lay 98 = .ok (.iinc 7 1, 3) := by decide +kernel
theorem dX2_lay_101 : decode cX2_lay 101 = .ok (.goto (-32), 3) := by decide +kernel
theorem dX2_lay_104 : decode cX2_lay 104 = .ok (.return_, 1) := by decide +kernel
theorem dX2_keep_0 : decode cX2_keep 0 = .ok (.aload_n 1, 1) := by decide +kernel
theorem dX2_keep_1 : decode cX2_keep 1 = .ok (.iload_n 2, 1) := by decide +kernel
theorem dX2_keep_2 : decode cX2_keep 2 = .ok (.invokevirtual 47, 3) := by decide +kernel
theorem dX2_keep_5 : decode cX2_keep 5 = .ok (.istore 4, 2) := by decide +kernel
theorem dX2_keep_7 : decode cX2_keep 7 = .ok (.iconst 0, 1) := by decide +kernel
theorem dX2_keep_8 : decode cX2_keep 8 = .ok (.istore 5, 2) := by decide +kernel
theorem dX2_keep_10 : decode cX2_keep 10 = .ok (.iconst 0, 1) := by decide +kernel
theorem dX2_keep_11 : decode cX2_keep 11 = .ok (.istore 6, 2) := by decide +kernel
theorem dX2_keep_13 : decode cX2_keep 13 = .ok (.iload 4, 2) := by decide +kernel
theorem dX2_keep_15 : decode cX2_keep 15 = .ok (.invokestatic 103, 3) := by decide +kernel
theorem dX2_keep_18 : decode cX2_keep 18 = .ok (.lstore 7, 2) := by decide +kernel
theorem dX2_keep_20 : decode cX2_keep 20 = .ok (.lconst 0, 1) := by decide +kernel
theorem dX2_keep_21 : decode cX2_keep 21 = .ok (.lstore 9, 2) := by decide +kernel
theorem dX2_keep_23 : decode cX2_keep 23 = .ok (.lconst 0, 1) := by decide +kernel
theorem dX2_keep_24 : decode cX2_keep 24 = .ok (.lstore 11, 2) := by decide +kernel
theorem dX2_keep_26 : decode cX2_keep 26 = .ok (.lconst 0, 1) := by decide +kernel
theorem dX2_keep_27 : decode cX2_keep 27 = .ok (.lstore 13, 2) := by decide +kernel
theorem dX2_keep_29 : decode cX2_keep 29 = .ok (.iconst 0, 1) := by decide +kernel
theorem dX2_keep_30 : decode cX2_keep 30 = .ok (.istore 15, 2) := by decide +kernel
theorem dX2_keep_32 : decode cX2_keep 32 = .ok (.iload 15, 2) := by decide +kernel
theorem dX2_keep_34 : decode cX2_keep 34 = .ok (.iconst 4, 1) := by decide +kernel
theorem dX2_keep_35 : decode cX2_keep 35 = .ok (.if_icmp .ge 118, 3) := by decide +kernel
theorem dX2_keep_38 : decode cX2_keep 38 = .ok (.iload_n 3, 1) := by decide +kernel
theorem dX2_keep_39 : decode cX2_keep 39 = .ok (.iload 15, 2) := by decide +kernel
theorem dX2_keep_41 : decode cX2_keep 41 = .ok (.invokestatic 107, 3) := by decide +kernel
theorem dX2_keep_44 : decode cX2_keep 44 = .ok (.istore 16, 2) := by decide +kernel
theorem dX2_keep_46 : decode cX2_keep 46 = .ok (.iload 4, 2) := by decide +kernel
theorem dX2_keep_48 : decode cX2_keep 48 = .ok (.i2l, 1) := by decide +kernel
theorem dX2_keep_49 : decode cX2_keep 49 = .ok (.aload_n 1, 1) := by decide +kernel
theorem dX2_keep_50 : decode cX2_keep 50 = .ok (.iload 15, 2) := by decide +kernel
theorem dX2_keep_52 : decode cX2_keep 52 = .ok (.invokevirtual 65, 3) := by decide +kernel
theorem dX2_keep_55 : decode cX2_keep 55 = .ok (.i2l, 1) := by decide +kernel
theorem dX2_keep_56 : decode cX2_keep 56 = .ok (.lmul, 1) := by decide +kernel
theorem dX2_keep_57 : decode cX2_keep 57 = .ok (.lstore 17, 2) := by decide +kernel
theorem dX2_keep_59 : decode cX2_keep 59 = .ok (.iload 5, 2) := by decide +kernel
theorem dX2_keep_61 : decode cX2_keep 61 = .ok (.iload 16, 2) := by decide +kernel
theorem dX2_keep_63 : decode cX2_keep 63 = .ok (.bipush 6, 2) := by decide +kernel
theorem dX2_keep_65 : decode cX2_keep 65 = .ok (.iload 15, 2) := by decide +kernel
theorem dX2_keep_67 : decode cX2_keep 67 = .ok (.imul, 1) := by decide +kernel
theorem dX2_keep_68 : decode cX2_keep 68 = .ok (.ishl, 1) := by decide +kernel
theorem dX2_keep_69 : decode cX2_keep 69 = .ok (.ior, 1) := by decide +kernel
theorem dX2_keep_70 : decode cX2_keep 70 = .ok (.istore 5, 2) := by decide +kernel
theorem dX2_keep_72 : decode cX2_keep 72 = .ok (.iload 6, 2) := by decide +kernel
theorem dX2_keep_74 : decode cX2_keep 74 = .ok (.iload 16, 2) := by decide +kernel
theorem dX2_keep_76 : decode cX2_keep 76 = .ok (.aload_n 0, 1) := by decide +kernel
theorem dX2_keep_77 : decode cX2_keep 77 = .ok (.getfield 28, 3) := by decide +kernel
theorem dX2_keep_80 : decode cX2_keep 80 = .ok (.iload 15, 2) := by decide +kernel
theorem dX2_keep_82 : decode cX2_keep 82 = .ok (.iaload, 1) := by decide +kernel
theorem dX2_keep_83 : decode cX2_keep 83 = .ok (.imul, 1) := by decide +kernel
theorem dX2_keep_84 : decode cX2_keep 84 = .ok (.iadd, 1) := by decide +kernel
theorem dX2_keep_85 : decode cX2_keep 85 = .ok (.istore 6, 2) := by decide +kernel
theorem dX2_keep_87 : decode cX2_keep 87 = .ok (.lload 7, 2) := by decide +kernel
theorem dX2_keep_89 : decode cX2_keep 89 = .ok (.iload 16, 2) := by decide +kernel
theorem dX2_keep_91 : decode cX2_keep 91 = .ok (.invokestatic 103, 3) := by decide +kernel
theorem dX2_keep_94 : decode cX2_keep 94 = .ok (.invokestatic 110, 3) := by decide +kernel
theorem dX2_keep_97 : decode cX2_keep 97 = .ok (.lstore 7, 2) := by decide +kernel
theorem dX2_keep_99 : decode cX2_keep 99 = .ok (.lload 9, 2) := by decide +kernel
theorem dX2_keep_101 : decode cX2_keep 101 = .ok (.iload 16, 2) := by decide +kernel
theorem dX2_keep_103 : decode cX2_keep 103 = .ok (.iload 16, 2) := by decide +kernel
theorem dX2_keep_105 : decode cX2_keep 105 = .ok (.imul, 1) := by decide +kernel
theorem dX2_keep_106 : decode cX2_keep 106 = .ok (.i2l, 1) := by decide +kernel
theorem dX2_keep_107 : decode cX2_keep 107 = .ok (.aload_n 0, 1) := by decide +kernel
theorem dX2_keep_108 : decode cX2_keep 108 = .ok (.getfield 77, 3) := by decide +kernel
theorem dX2_keep_111 : decode cX2_keep 111 = .ok (.lload 17, 2) := by decide +kernel
theorem dX2_keep_113 : decode cX2_keep 113 = .ok (.invokestatic 110, 3) := by decide +kernel
theorem dX2_keep_116 : decode cX2_keep 116 = .ok (.lmul, 1) := by decide +kernel
theorem dX2_keep_117 : decode cX2_keep 117 = .ok (.ladd, 1) := by decide +kernel
theorem dX2_keep_118 : decode cX2_keep 118 = .ok (.lstore 9, 2) := by decide +kernel
theorem dX2_keep_120 : decode cX2_keep 120 = .ok (.lload 11, 2) := by decide +kernel
theorem dX2_keep_122 : decode cX2_keep 122 = .ok (.iload 16, 2) := by decide +kernel
theorem dX2_keep_124 : decode cX2_keep 124 = .ok (.iload_n 2, 1) := by decide +kernel
theorem dX2_keep_125 : decode cX2_keep 125 = .ok (.iconst 1, 1) := by decide +kernel
theorem dX2_keep_126 : decode cX2_keep 126 = .ok (.iadd, 1) := by decide +kernel
theorem dX2_keep_127 : decode cX2_keep 127 = .ok (.imul, 1) := by decide +kernel
theorem dX2_keep_128 : decode cX2_keep 128 = .ok (.iload 15, 2) := by decide +kernel
theorem dX2_keep_130 : decode cX2_keep 130 = .ok (.iconst 1, 1) := by decide +kernel
theorem dX2_keep_131 : decode cX2_keep 131 = .ok (.iadd, 1) := by decide +kernel
theorem dX2_keep_132 : decode cX2_keep 132 = .ok (.imul, 1) := by decide +kernel
theorem dX2_keep_133 : decode cX2_keep 133 = .ok (.i2l, 1) := by decide +kernel
theorem dX2_keep_134 : decode cX2_keep 134 = .ok (.ladd, 1) := by decide +kernel
theorem dX2_keep_135 : decode cX2_keep 135 = .ok (.lstore 11, 2) := by decide +kernel
theorem dX2_keep_137 : decode cX2_keep 137 = .ok (.lload 13, 2) := by decide +kernel
theorem dX2_keep_139 : decode cX2_keep 139 = .ok (.iload 16, 2) := by decide +kernel
theorem dX2_keep_141 : decode cX2_keep 141 = .ok (.i2l, 1) := by decide +kernel
theorem dX2_keep_142 : decode cX2_keep 142 = .ok (.invokestatic 114, 3) := by decide +kernel
theorem dX2_keep_145 : decode cX2_keep 145 = .ok (.lstore 13, 2) := by decide +kernel
theorem dX2_keep_147 : decode cX2_keep 147 = .ok (.iinc 15 1, 3) := by decide +kernel
theorem dX2_keep_150 : decode cX2_keep 150 = .ok (.goto (-118), 3) := by decide +kernel
theorem dX2_keep_153 : decode cX2_keep 153 = .ok (.aload_n 0, 1) := by decide +kernel
theorem dX2_keep_154 : decode cX2_keep 154 = .ok (.getfield 15, 3) := by decide +kernel
theorem dX2_keep_157 : decode cX2_keep 157 = .ok (.aload_n 0, 1) := by decide +kernel
theorem dX2_keep_158 : decode cX2_keep 158 = .ok (.getfield 38, 3) := by decide +kernel
theorem dX2_keep_161 : decode cX2_keep 161 = .ok (.iload_n 3, 1) := by decide +kernel
theorem dX2_keep_162 : decode cX2_keep 162 = .ok (.invokestatic 116, 3) := by decide +kernel
theorem dX2_keep_165 : decode cX2_keep 165 = .ok (.aload_n 0, 1) := by decide +kernel
theorem dX2_keep_166 : decode cX2_keep 166 = .ok (.getfield 18, 3) := by decide +kernel
theorem dX2_keep_169 : decode cX2_keep 169 = .ok (.aload_n 0, 1) := by decide +kernel
theorem dX2_keep_170 : decode cX2_keep 170 = .ok (.getfield 38, 3) := by decide +kernel
theorem dX2_keep_173 : decode cX2_keep 173 = .ok (.iload 5, 2) := by decide +kernel
theorem dX2_keep_175 : decode cX2_keep 175 = .ok (.invokestatic 116, 3) := by decide +kernel
theorem dX2_keep_178 : decode cX2_keep 178 = .ok (.aload_n 0, 1) := by decide +kernel
theorem dX2_keep_179 : decode cX2_keep 179 = .ok (.getfield 21, 3) := by decide +kernel
theorem dX2_keep_182 : decode cX2_keep 182 = .ok (.aload_n 0, 1) := by decide +kernel
theorem dX2_keep_183 : decode cX2_keep 183 = .ok (.getfield 38, 3) := by decide +kernel
theorem dX2_keep_186 : decode cX2_keep 186 = .ok (.iload 6, 2) := by decide +kernel
theorem dX2_keep_188 : decode cX2_keep 188 = .ok (.invokestatic 116, 3) := by decide +kernel
theorem dX2_keep_191 : decode cX2_keep 191 = .ok (.aload_n 0, 1) := by decide +kernel
theorem dX2_keep_192 : decode cX2_keep 192 = .ok (.lload 7, 2) := by decide +kernel
theorem dX2_keep_194 : decode cX2_keep 194 = .ok (.lload 9, 2) := by decide +kernel
theorem dX2_keep_196 : decode cX2_keep 196 = .ok (.lload 11, 2) := by decide +kernel
theorem dX2_keep_198 : decode cX2_keep 198 = .ok (.lload 13, 2) := by decide +kernel
theorem dX2_keep_200 : decode cX2_keep 200 = .ok (.invokevirtual 120, 3) := by decide +kernel
theorem dX2_keep_203 : decode cX2_keep 203 = .ok (.aload_n 0, 1) := by decide +kernel
theorem dX2_keep_204 : decode cX2_keep 204 = .ok (.sipush 320, 3) := by decide +kernel
theorem dX2_keep_207 : decode cX2_keep 207 = .ok (.aload_n 0, 1) := by decide +kernel
theorem dX2_keep_208 : decode cX2_keep 208 = .ok (.getfield 38, 3) := by decide +kernel
theorem dX2_keep_211 : decode cX2_keep 211 = .ok (.iconst 1, 1) := by decide +kernel
theorem dX2_keep_212 : decode cX2_keep 212 = .ok (.iadd, 1) := by decide +kernel
theorem dX2_keep_213 : decode cX2_keep 213 = .ok (.invokestatic 94, 3) := by decide +kernel
theorem dX2_keep_216 : decode cX2_keep 216 = .ok (.putfield 38, 3) := by decide +kernel
theorem dX2_keep_219 : decode cX2_keep 219 = .ok (.return_, 1) := by decide +kernel
theorem dX2_putParts_0 : decode cX2_putParts 0 = .ok (.aload_n 0, 1) := by decide +kernel
theorem dX2_putParts_1 : decode cX2_putParts 1 = .ok (.getfield 38, 3) := by decide +kernel
theorem dX2_putParts_4 : decode cX2_putParts 4 = .ok (.ifCond .lt 67, 3) := by decide +kernel
theorem dX2_putParts_7 : decode cX2_putParts 7 = .ok (.aload_n 0, 1) := by decide +kernel
theorem dX2_putParts_8 : decode cX2_putParts 8 = .ok (.getfield 38, 3) := by decide +kernel
theorem dX2_putParts_11 : decode cX2_putParts 11 = .ok (.sipush 320, 3) := by decide +kernel
theorem dX2_putParts_14 : decode cX2_putParts 14 = .ok (.if_icmp .ge 57, 3) := by decide +kernel
theorem dX2_putParts_17 : decode cX2_putParts 17 = .ok (.aload_n 0, 1) := by decide +kernel
theorem dX2_putParts_18 : decode cX2_putParts 18 = .ok (.getfield 24, 3) := by decide +kernel
theorem dX2_putParts_21 : decode cX2_putParts 21 = .ok (.aload_n 0, 1) := by decide +kernel
theorem dX2_putParts_22 : decode cX2_putParts 22 = .ok (.getfield 38, 3) := by decide +kernel
theorem dX2_putParts_25 : decode cX2_putParts 25 = .ok (.lload_n 1, 1) := by decide +kernel
theorem dX2_putParts_26 : decode cX2_putParts 26 = .ok (.lastore, 1) := by decide +kernel
theorem dX2_putParts_27 : decode cX2_putParts 27 = .ok (.aload_n 0, 1) := by decide +kernel
theorem dX2_putParts_28 : decode cX2_putParts 28 = .ok (.getfield 24, 3) := by decide +kernel
theorem dX2_putParts_31 : decode cX2_putParts 31 = .ok (.sipush 320, 3) := by decide +kernel
theorem dX2_putParts_34 : decode cX2_putParts 34 = .ok (.aload_n 0, 1) := by decide +kernel
theorem dX2_putParts_35 : decode cX2_putParts 35 = .ok (.getfield 38, 3) := by decide +kernel
theorem dX2_putParts_38 : decode cX2_putParts 38 = .ok (.iadd, 1) := by decide +kernel
theorem dX2_putParts_39 : decode cX2_putParts 39 = .ok (.lload_n 3, 1) := by decide +kernel
theorem dX2_putParts_40 : decode cX2_putParts 40 = .ok (.lastore, 1) := by decide +kernel
theorem dX2_putParts_41 : decode cX2_putParts 41 = .ok (.aload_n 0, 1) := by decide +kernel
theorem dX2_putParts_42 : decode cX2_putParts 42 = .ok (.getfield 24, 3) := by decide +kernel
theorem dX2_putParts_45 : decode cX2_putParts 45 = .ok (.sipush 640, 3) := by decide +kernel
theorem dX2_putParts_48 : decode cX2_putParts 48 = .ok (.aload_n 0, 1) := by decide +kernel
theorem dX2_putParts_49 : decode cX2_putParts 49 = .ok (.getfield 38, 3) := by decide +kernel
theorem dX2_putParts_52 : decode cX2_putParts 52 = .ok (.iadd, 1) := by decide +kernel
theorem dX2_putParts_53 : decode cX2_putParts 53 = .ok (.lload 5, 2) := by decide +kernel
theorem dX2_putParts_55 : decode cX2_putParts 55 = .ok (.lastore, 1) := by decide +kernel
theorem dX2_putParts_56 : decode cX2_putParts 56 = .ok (.aload_n 0, 1) := by decide +kernel
theorem dX2_putParts_57 : decode cX2_putParts 57 = .ok (.getfield 24, 3) := by decide +kernel
theorem dX2_putParts_60 : decode cX2_putParts 60 = .ok (.sipush 960, 3) := by decide +kernel
theorem dX2_putParts_63 : decode cX2_putParts 63 = .ok (.aload_n 0, 1) := by decide +kernel
theorem dX2_putParts_64 : decode cX2_putParts 64 = .ok (.getfield 38, 3) := by decide +kernel
theorem dX2_putParts_67 : decode cX2_putParts 67 = .ok (.iadd, 1) := by decide +kernel
theorem dX2_putParts_68 : decode cX2_putParts 68 = .ok (.lload 7, 2) := by decide +kernel
theorem dX2_putParts_70 : decode cX2_putParts 70 = .ok (.lastore, 1) := by decide +kernel
theorem dX2_putParts_71 : decode cX2_putParts 71 = .ok (.return_, 1) := by decide +kernel
theorem dX2_factorial_0 : decode cX2_factorial 0 = .ok (.iload_n 0, 1) := by decide +kernel
theorem dX2_factorial_1 : decode cX2_factorial 1 = .ok (.ifCond .lt 19, 3) := by decide +kernel
theorem dX2_factorial_4 : decode cX2_factorial 4 = .ok (.iload_n 0, 1) := by decide +kernel
theorem dX2_factorial_5 : decode cX2_factorial 5 = .ok (.getstatic 124, 3) := by decide +kernel
theorem dX2_factorial_8 : decode cX2_factorial 8 = .ok (.arraylength, 1) := by decide +kernel
theorem dX2_factorial_9 : decode cX2_factorial 9 = .ok (.if_icmp .ge 11, 3) := by decide +kernel
theorem dX2_factorial_12 : decode cX2_factorial 12 = .ok (.getstatic 124, 3) := by decide +kernel
theorem dX2_factorial_15 : decode cX2_factorial 15 = .ok (.iload_n 0, 1) := by decide +kernel
theorem dX2_factorial_16 : decode cX2_factorial 16 = .ok (.laload, 1) := by decide +kernel
theorem dX2_factorial_17 : decode cX2_factorial 17 = .ok (.goto 4, 3) := by decide +kernel
theorem dX2_factorial_20 : decode cX2_factorial 20 = .ok (.lconst 1, 1) := by decide +kernel
theorem dX2_factorial_21 : decode cX2_factorial 21 = .ok (.lreturn, 1) := by decide +kernel
theorem dX3_shift_0 : decode cX3_shift 0 = .ok (.iconst 4, 1) := by decide +kernel
theorem dX3_shift_1 : decode cX3_shift 1 = .ok (.bipush 15, 2) := by decide +kernel
theorem dX3_shift_3 : decode cX3_shift 3 = .ok (.iconst 4, 1) := by decide +kernel
theorem dX3_shift_4 : decode cX3_shift 4 = .ok (.iload_n 0, 1) := by decide +kernel
theorem dX3_shift_5 : decode cX3_shift 5 = .ok (.imul, 1) := by decide +kernel
theorem dX3_shift_6 : decode cX3_shift 6 = .ok (.isub, 1) := by decide +kernel
theorem dX3_shift_7 : decode cX3_shift 7 = .ok (.iload_n 1, 1) := by decide +kernel
theorem dX3_shift_8 : decode cX3_shift 8 = .ok (.isub, 1) := by decide +kernel
theorem dX3_shift_9 : decode cX3_shift 9 = .ok (.imul, 1) := by decide +kernel
theorem dX3_shift_10 : decode cX3_shift 10 = .ok (.ireturn, 1) := by decide +kernel
theorem dX3_get_0 : decode cX3_get 0 = .ok (.lload_n 0, 1) := by decide +kernel
theorem dX3_get_1 : decode cX3_get 1 = .ok (.iload_n 2, 1) := by decide +kernel
theorem dX3_get_2 : decode cX3_get 2 = .ok (.lushr, 1) := by decide +kernel
theorem dX3_get_3 : decode cX3_get 3 = .ok (.l2i, 1) := by decide +kernel
theorem dX3_get_4 : decode cX3_get 4 = .ok (.bipush 15, 2) := by decide +kernel
theorem dX3_get_6 : decode cX3_get 6 = .ok (.iand, 1) := by decide +kernel
theorem dX3_get_7 : decode cX3_get 7 = .ok (.ireturn, 1) := by decide +kernel
theorem dX3_one_0 : decode cX3_one 0 = .ok (.lconst 1, 1) := by decide +kernel
theorem dX3_one_1 : decode cX3_one 1 = .ok (.iload_n 0, 1) := by decide +kernel
theorem dX3_one_2 : decode cX3_one 2 = .ok (.iload_n 1, 1) := by decide +kernel
theorem dX3_one_3 : decode cX3_one 3 = .ok (.invokestatic 11, 3) := by decide +kernel
theorem dX3_one_6 : decode cX3_one 6 = .ok (.lshl, 1) := by decide +kernel
theorem dX3_one_7 : decode cX3_one 7 = .ok (.lreturn, 1) := by decide +kernel
theorem dX3_swapStep_0 : decode cX3_swapStep 0 = .ok (.iload_n 0, 1) := by decide +kernel
theorem dX3_swapStep_1 : decode cX3_swapStep 1 = .ok (.iload_n 2, 1) := by decide +kernel
theorem dX3_swapStep_2 : decode cX3_swapStep 2 = .ok (.invokestatic 15, 3) := by decide +kernel
theorem dX3_swapStep_5 : decode cX3_swapStep 5 = .ok (.iload_n 1, 1) := by decide +kernel
theorem dX3_swapStep_6 : decode cX3_swapStep 6 = .ok (.iload_n 3, 1) := by decide +kernel
theorem dX3_swapStep_7 : decode cX3_swapStep 7 = .ok (.invokestatic 15, 3) := by decide +kernel
theorem dX3_swapStep_10 : decode cX3_swapStep 10 = .ok (.ladd, 1) := by decide +kernel
theorem dX3_swapStep_11 : decode cX3_swapStep 11 = .ok (.iload_n 0, 1) := by decide +kernel
theorem dX3_swapStep_12 : decode cX3_swapStep 12 = .ok (.iload_n 3, 1) := by decide +kernel
theorem dX3_swapStep_13 : decode cX3_swapStep 13 = .ok (.invokestatic 15, 3) := by decide +kernel
theorem dX3_swapStep_16 : decode cX3_swapStep 16 = .ok (.lsub, 1) := by decide +kernel
theorem dX3_swapStep_17 : decode cX3_swapStep 17 = .ok (.iload_n 1, 1) := by decide +kernel
theorem dX3_swapStep_18 : decode cX3_swapStep 18 = .ok (.iload_n 2, 1) := by decide +kernel
theorem dX3_swapStep_19 : decode cX3_swapStep 19 = .ok (.invokestatic 15, 3) := by decide +kernel
theorem dX3_swapStep_22 : decode cX3_swapStep 22 = .ok (.lsub, 1) := by decide +kernel
theorem dX3_swapStep_23 : decode cX3_swapStep 23 = .ok (.lreturn, 1) := by decide +kernel
theorem dX3_lineOf_0 : decode cX3_lineOf 0 = .ok (.lload_n 0, 1) := by decide +kernel
theorem dX3_lineOf_1 : decode cX3_lineOf 1 = .ok (.iload_n 2, 1) := by decide +kernel
theorem dX3_lineOf_2 : decode cX3_lineOf 2 = .ok (.iconst 3, 1) := by decide +kernel
theorem dX3_lineOf_3 : decode cX3_lineOf 3 = .ok (.invokestatic 11, 3) := by decide +kernel
theorem dX3_lineOf_6 : decode cX3_lineOf 6 = .ok (.lushr, 1) := by decide +kernel
theorem dX3_lineOf_7 : decode cX3_lineOf 7 = .ok (.l2i, 1) := by decide +kernel
theorem dX3_lineOf_8 : decode cX3_lineOf 8 = .ok (.ldc 19, 2) := by decide +kernel
theorem dX3_lineOf_10 : decode cX3_lineOf 10 = .ok (.iand, 1) := by decide +kernel
theorem dX3_lineOf_11 : decode cX3_lineOf 11 = .ok (.ireturn, 1) := by decide +kernel
theorem dX3_withLine_0 : decode cX3_withLine 0 = .ok (.lload_n 0, 1) := by decide +kernel
theorem dX3_withLine_1 : decode cX3_withLine 1 = .ok (.iload_n 3, 1) := by decide +kernel
theorem dX3_withLine_2 : decode cX3_withLine 2 = .ok (.i2l, 1) := by decide +kernel
theorem dX3_withLine_3 : decode cX3_withLine 3 = .ok (.iload_n 2, 1) := by decide +kernel
theorem dX3_withLine_4 : decode cX3_withLine 4 = .ok (.iconst 3, 1) := by decide +kernel
theorem dX3_withLine_5 : decode cX3_withLine 5 = .ok (.invokestatic 11, 3) := by decide +kernel
theorem dX3_withLine_8 : decode cX3_withLine 8 = .ok (.lshl, 1) := by decide +kernel
theorem dX3_withLine_9 : decode cX3_withLine 9 = .ok (.lor, 1) := by decide +kernel
theorem dX3_withLine_10 : decode cX3_withLine 10 = .ok (.lreturn, 1) := by decide +kernel
theorem dX3_inLine_0 : decode cX3_inLine 0 = .ok (.iload_n 0, 1) := by decide +kernel
theorem dX3_inLine_1 : decode cX3_inLine 1 = .ok (.iconst 4, 1) := by decide +kernel
theorem dX3_inLine_2 : decode cX3_inLine 2 = .ok (.iconst 3, 1) := by decide +kernel
theorem dX3_inLine_3 : decode cX3_inLine 3 = .ok (.iload_n 1, 1) := by decide +kernel
theorem dX3_inLine_4 : decode cX3_inLine 4 = .ok (.isub, 1) := by decide +kernel
theorem dX3_inLine_5 : decode cX3_inLine 5 = .ok (.imul, 1) := by decide +kernel
theorem dX3_inLine_6 : decode cX3_inLine 6 = .ok (.ishr, 1) := by decide +kernel
theorem dX3_inLine_7 : decode cX3_inLine 7 = .ok (.bipush 15, 2) := by decide +kernel
theorem dX3_inLine_9 : decode cX3_inLine 9 = .ok (.iand, 1) := by decide +kernel
theorem dX3_inLine_10 : decode cX3_inLine 10 = .ok (.ireturn, 1) := by decide +kernel
theorem dX3_putInLine_0 : decode cX3_putInLine 0 = .ok (.iload_n 0, 1) := by decide +kernel
theorem dX3_putInLine_1 : decode cX3_putInLine 1 = .ok (.iload_n 2, 1) := by decide +kernel
theorem dX3_putInLine_2 : decode cX3_putInLine 2 = .ok (.iconst 4, 1) := by decide +kernel
theorem dX3_putInLine_3 : decode cX3_putInLine 3 = .ok (.iconst 3, 1) := by decide +kernel
theorem dX3_putInLine_4 : decode cX3_putInLine 4 = .ok (.iload_n 1, 1) := by decide +kernel
theorem dX3_putInLine_5 : decode cX3_putInLine 5 = .ok (.isub, 1) := by decide +kernel
theorem dX3_putInLine_6 : decode cX3_putInLine 6 = .ok (.imul, 1) := by decide +kernel
theorem dX3_putInLine_7 : decode cX3_putInLine 7 = .ok (.ishl, 1) := by decide +kernel
theorem dX3_putInLine_8 : decode cX3_putInLine 8 = .ok (.ior, 1) := by decide +kernel
theorem dX3_putInLine_9 : decode cX3_putInLine 9 = .ok (.ireturn, 1) := by decide +kernel
theorem dX4_init_0 : decode cX4_init 0 = .ok (.aload_n 0, 1) := by decide +kernel
theorem dX4_init_1 : decode cX4_init 1 = .ok (.invokespecial 5, 3) := by decide +kernel
theorem dX4_init_4 : decode cX4_init 4 = .ok (.aload_n 0, 1) := by decide +kernel
theorem dX4_init_5 : decode cX4_init 5 = .ok (.sipush 1920, 3) := by decide +kernel
theorem dX4_init_8 : decode cX4_init 8 = .ok (.newarray .long, 2) := by decide +kernel
theorem dX4_init_10 : decode cX4_init 10 = .ok (.putfield 13, 3) := by decide +kernel
theorem dX4_init_13 : decode cX4_init 13 = .ok (.aload_n 0, 1) := by decide +kernel
theorem dX4_init_14 : decode cX4_init 14 = .ok (.sipush 1920, 3) := by decide +kernel
theorem dX4_init_17 : decode cX4_init 17 = .ok (.newarray .long, 2) := by decide +kernel
theorem dX4_init_19 : decode cX4_init 19 = .ok (.putfield 17, 3) := by decide +kernel
theorem dX4_init_22 : decode cX4_init 22 = .ok (.aload_n 0, 1) := by decide +kernel
theorem dX4_init_23 : decode cX4_init 23 = .ok (.iconst 4, 1) := by decide +kernel
theorem dX4_init_24 : decode cX4_init 24 = .ok (.newarray .boolean, 2) := by decide +kernel
theorem dX4_init_26 : decode cX4_init 26 = .ok (.putfield 20, 3) := by decide +kernel
theorem dX4_init_29 : decode cX4_init 29 = .ok (.aload_n 0, 1) := by decide +kernel
theorem dX4_init_30 : decode cX4_init 30 = .ok (.iconst 4, 1) := by decide +kernel
theorem dX4_init_31 : decode cX4_init 31 = .ok (.newarray .boolean, 2) := by decide +kernel
theorem dX4_init_33 : decode cX4_init 33 = .ok (.putfield 24, 3) := by decide +kernel
theorem dX4_init_36 : decode cX4_init 36 = .ok (.aload_n 0, 1) := by decide +kernel
theorem dX4_init_37 : decode cX4_init 37 = .ok (.iconst 4, 1) := by decide +kernel
theorem dX4_init_38 : decode cX4_init 38 = .ok (.newarray .long, 2) := by decide +kernel
theorem dX4_init_40 : decode cX4_init 40 = .ok (.putfield 27, 3) := by decide +kernel
theorem dX4_init_43 : decode cX4_init 43 = .ok (.aload_n 0, 1) := by decide +kernel
theorem dX4_init_44 : decode cX4_init 44 = .ok (.iconst 4, 1) := by decide +kernel
theorem dX4_init_45 : decode cX4_init 45 = .ok (.newarray .long, 2) := by decide +kernel
theorem dX4_init_47 : decode cX4_init 47 = .ok (.putfield 30, 3) := by decide +kernel
theorem dX4_init_50 : decode cX4_init 50 = .ok (.aload_n 0, 1) := by decide +kernel
theorem dX4_init_51 : decode cX4_init 51 = .ok (.iconst 4, 1) := by decide +kernel
theorem dX4_init_52 : decode cX4_init 52 = .ok (.newarray .long, 2) := by decide +kernel
theorem dX4_init_54 : decode cX4_init 54 = .ok (.putfield 33, 3) := by decide +kernel
theorem dX4_init_57 : decode cX4_init 57 = .ok (.aload_n 0, 1) := by decide +kernel
theorem dX4_init_58 : decode cX4_init 58 = .ok (.aload_n 1, 1) := by decide +kernel
theorem dX4_init_59 : decode cX4_init 59 = .ok (.putfield 36, 3) := by decide +kernel
theorem dX4_init_62 : decode cX4_init 62 = .ok (.return_, 1) := by decide +kernel
theorem dX4_forget_0 : decode cX4_forget 0 = .ok (.iconst 0, 1) := by decide +kernel
theorem dX4_forget_1 : decode cX4_forget 1 = .ok (.istore_n 1, 1) := by decide +kernel
theorem dX4_forget_2 : decode cX4_forget 2 = .ok (.iload_n 1, 1) := by decide +kernel
theorem dX4_forget_3 : decode cX4_forget 3 = .ok (.iconst 4, 1) := by decide +kernel
theorem dX4_forget_4 : decode cX4_forget 4 = .ok (.if_icmp .ge 23, 3) := by decide +kernel
theorem dX4_forget_7 : decode cX4_forget 7 = .ok (.aload_n 0, 1) := by decide +kernel
theorem dX4_forget_8 : decode cX4_forget 8 = .ok (.getfield 20, 3) := by decide +kernel
theorem dX4_forget_11 : decode cX4_forget 11 = .ok (.iload_n 1, 1) := by decide +kernel
theorem dX4_forget_12 : decode cX4_forget 12 = .ok (.iconst 0, 1) := by decide +kernel
theorem dX4_forget_13 : decode cX4_forget 13 = .ok (.bastore, 1) := by decide +kernel
theorem dX4_forget_14 : decode cX4_forget 14 = .ok (.aload_n 0, 1) := by decide +kernel
theorem dX4_forget_15 : decode cX4_forget 15 = .ok (.getfield 24, 3) := by decide +kernel
theorem dX4_forget_18 : decode cX4_forget 18 = .ok (.iload_n 1, 1) := by decide +kernel
theorem dX4_forget_19 : decode cX4_forget 19 = .ok (.iconst 0, 1) := by decide +kernel
theorem dX4_forget_20 : decode cX4_forget 20 = .ok (.bastore, 1) := by decide +kernel
theorem dX4_forget_21 : decode cX4_forget 21 = .ok (.iinc 1 1, 3) := by decide +kernel
theorem dX4_forget_24 : decode cX4_forget 24 = .ok (.goto (-22), 3) := by decide +kernel
theorem dX4_forget_27 : decode cX4_forget 27 = .ok (.return_, 1) := by decide +kernel
theorem dX4_valueOf_0 : decode cX4_valueOf 0 = .ok (.iload_n 1, 1) := by decide +kernel
theorem dX4_valueOf_1 : decode cX4_valueOf 1 = .ok (.invokestatic 40, 3) := by decide +kernel
theorem dX4_valueOf_4 : decode cX4_valueOf 4 = .ok (.lstore 4, 2) := by decide +kernel
theorem dX4_valueOf_6 : decode cX4_valueOf 6 = .ok (.iconst 0, 1) := by decide +kernel
theorem dX4_valueOf_7 : decode cX4_valueOf 7 = .ok (.istore 6, 2) := by decide +kernel
theorem dX4_valueOf_9 : decode cX4_valueOf 9 = .ok (.iconst 0, 1) := by decide +kernel
theorem dX4_valueOf_10 : decode cX4_valueOf 10 = .ok (.istore 7, 2) := by decide +kernel
theorem dX4_valueOf_12 : decode cX4_valueOf 12 = .ok (.iload 7, 2) := by decide +kernel
theorem dX4_valueOf_14 : decode cX4_valueOf 14 = .ok (.aload_n 0, 1) := by decide +kernel
theorem dX4_valueOf_15 : decode cX4_valueOf 15 = .ok (.getfield 36, 3) := by decide +kernel
theorem dX4_valueOf_18 : decode cX4_valueOf 18 = .ok (.getfield 44, 3) := by decide +kernel
theorem dX4_valueOf_21 : decode cX4_valueOf 21 = .ok (.if_icmp .ge 65, 3) := by decide +kernel
theorem dX4_valueOf_24 : decode cX4_valueOf 24 = .ok (.aload_n 0, 1) := by decide +kernel
theorem dX4_valueOf_25 : decode cX4_valueOf 25 = .ok (.getfield 36, 3) := by decide +kernel
theorem dX4_valueOf_28 : decode cX4_valueOf 28 = .ok (.iload 6, 2) := by decide +kernel
theorem dX4_valueOf_30 : decode cX4_valueOf 30 = .ok (.lload_n 2, 1) := by decide +kernel
theorem dX4_valueOf_31 : decode cX4_valueOf 31 = .ok (.iload 7, 2) := by decide +kernel
theorem dX4_valueOf_33 : decode cX4_valueOf 33 = .ok (.invokestatic 48, 3) := by decide +kernel
theorem dX4_valueOf_36 : decode cX4_valueOf 36 = .ok (.invokevirtual 54, 3) := by decide +kernel
theorem dX4_valueOf_39 : decode cX4_valueOf 39 = .ok (.istore 8, 2) := by decide +kernel
theorem dX4_valueOf_41 : decode cX4_valueOf 41 = .ok (.iload 8, 2) := by decide +kernel
theorem dX4_valueOf_43 : decode cX4_valueOf 43 = .ok (.iconst (-1), 1) := by decide +kernel
theorem dX4_valueOf_44 : decode cX4_valueOf 44 = .ok (.if_icmp .ne 7, 3) := by decide +kernel
theorem dX4_valueOf_47 : decode cX4_valueOf 47 = .ok (.ldc2_w 58, 3) := by decide +kernel
theorem dX4_valueOf_50 : decode cX4_valueOf 50 = .ok (.lreturn, 1) := by decide +kernel
theorem dX4_valueOf_51 : decode cX4_valueOf 51 = .ok (.iload_n 1, 1) := by decide +kernel
theorem dX4_valueOf_52 : decode cX4_valueOf 52 = .ok (.lload 4, 2) := by decide +kernel
theorem dX4_valueOf_54 : decode cX4_valueOf 54 = .ok (.aload_n 0, 1) := by decide +kernel
theorem dX4_valueOf_55 : decode cX4_valueOf 55 = .ok (.getfield 36, 3) := by decide +kernel
theorem dX4_valueOf_58 : decode cX4_valueOf 58 = .ok (.iload_n 1, 1) := by decide +kernel
theorem dX4_valueOf_59 : decode cX4_valueOf 59 = .ok (.iload 8, 2) := by decide +kernel
theorem dX4_valueOf_61 : decode cX4_valueOf 61 = .ok (.invokevirtual 60, 3) := by decide +kernel
theorem dX4_valueOf_64 : decode cX4_valueOf 64 = .ok (.invokestatic 64, 3) := by decide +kernel
theorem dX4_valueOf_67 : decode cX4_valueOf 67 = .ok (.lstore 4, 2) := by decide +kernel
theorem dX4_valueOf_69 : decode cX4_valueOf 69 = .ok (.aload_n 0, 1) := by decide +kernel
theorem dX4_valueOf_70 : decode cX4_valueOf 70 = .ok (.getfield 36, 3) := by decide +kernel
theorem dX4_valueOf_73 : decode cX4_valueOf 73 = .ok (.iload 8, 2) := by decide +kernel
theorem dX4_valueOf_75 : decode cX4_valueOf 75 = .ok (.invokevirtual 68, 3) := by decide +kernel
theorem dX4_valueOf_78 : decode cX4_valueOf 78 = .ok (.istore 6, 2) := by decide +kernel
theorem dX4_valueOf_80 : decode cX4_valueOf 80 = .ok (.iinc 7 1, 3) := by decide +kernel
theorem dX4_valueOf_83 : decode cX4_valueOf 83 = .ok (.goto (-71), 3) := by decide +kernel
theorem dX4_valueOf_86 : decode cX4_valueOf 86 = .ok (.lload 4, 2) := by decide +kernel
theorem dX4_valueOf_88 : decode cX4_valueOf 88 = .ok (.lreturn, 1) := by decide +kernel
theorem dX4_farOut_0 : decode cX4_farOut 0 = .ok (.aload_n 0, 1) := by decide +kernel
theorem dX4_farOut_1 : decode cX4_farOut 1 = .ok (.iload_n 1, 1) := by decide +kernel
theorem dX4_farOut_2 : decode cX4_farOut 2 = .ok (.aload_n 0, 1) := by decide +kernel
theorem dX4_farOut_3 : decode cX4_farOut 3 = .ok (.iload_n 1, 1) := by decide +kernel
theorem dX4_farOut_4 : decode cX4_farOut 4 = .ok (.lload_n 2, 1) := by decide +kernel
theorem dX4_farOut_5 : decode cX4_farOut 5 = .ok (.invokevirtual 72, 3) := by decide +kernel
theorem dX4_farOut_8 : decode cX4_farOut 8 = .ok (.invokevirtual 76, 3) := by decide +kernel
theorem dX4_farOut_11 : decode cX4_farOut 11 = .ok (.aload_n 0, 1) := by decide +kernel
theorem dX4_farOut_12 : decode cX4_farOut 12 = .ok (.getfield 30, 3) := by decide +kernel
theorem dX4_farOut_15 : decode cX4_farOut 15 = .ok (.iload_n 1, 1) := by decide +kernel
theorem dX4_farOut_16 : decode cX4_farOut 16 = .ok (.invokestatic 80, 3) := by decide +kernel
theorem dX4_farOut_19 : decode cX4_farOut 19 = .ok (.lreturn, 1) := by decide +kernel
theorem dX4_farOutHeft_0 : decode cX4_farOutHeft 0 = .ok (.aload_n 0, 1) := by decide +kernel
theorem dX4_farOutHeft_1 : decode cX4_farOutHeft 1 = .ok (.iload_n 1, 1) := by decide +kernel
theorem dX4_farOutHeft_2 : decode cX4_farOutHeft 2 = .ok (.aload_n 0, 1) := by decide +kernel
theorem dX4_farOutHeft_3 : decode cX4_farOutHeft 3 = .ok (.iload_n 1, 1) := by decide +kernel
theorem dX4_farOutHeft_4 : decode cX4_farOutHeft 4 = .ok (.lload_n 2, 1) := by decide +kernel
theorem dX4_farOutHeft_5 : decode cX4_farOutHeft 5 = .ok (.invokevirtual 72, 3) := by decide +kernel
theorem dX4_farOutHeft_8 : decode cX4_farOutHeft 8 = .ok (.invokevirtual 76, 3) := by decide +kernel
theorem dX4_farOutHeft_11 : decode cX4_farOutHeft 11 = .ok (.aload_n 0, 1) := by decide +kernel
theorem dX4_farOutHeft_12 : decode cX4_farOutHeft 12 = .ok (.getfield 33, 3) := by decide +kernel
theorem dX4_farOutHeft_15 : decode cX4_farOutHeft 15 = .ok (.iload_n 1, 1) := by decide +kernel
theorem dX4_farOutHeft_16 : decode cX4_farOutHeft 16 = .ok (.invokestatic 80, 3) := by decide +kernel
theorem dX4_farOutHeft_19 : decode cX4_farOutHeft 19 = .ok (.lreturn, 1) := by decide +kernel
theorem dX4_firstHeaviest_0 : decode cX4_firstHeaviest 0 = .ok (.aload_n 0, 1) := by decide +kernel
theorem dX4_firstHeaviest_1 : decode cX4_firstHeaviest 1 = .ok (.iconst 0, 1) := by decide +kernel
theorem dX4_firstHeaviest_2 : decode cX4_firstHeaviest 2 = .ok (.invokevirtual 86, 3) := by decide +kernel
theorem dX4_firstHeaviest_5 : decode cX4_firstHeaviest 5 = .ok (.aload_n 0, 1) := by decide +kernel
theorem dX4_firstHeaviest_6 : decode cX4_firstHeaviest 6 = .ok (.aload_n 0, 1) := by decide +kernel
theorem dX4_firstHeaviest_7 : decode cX4_firstHeaviest 7 = .ok (.getfield 17, 3) := by decide +kernel
theorem dX4_firstHeaviest_10 : decode cX4_firstHeaviest 10 = .ok (.invokevirtual 90, 3) := by decide +kernel
theorem dX4_firstHeaviest_13 : decode cX4_firstHeaviest 13 = .ok (.lreturn, 1) := by decide +kernel
theorem dX4_firstLightest_0 : decode cX4_firstLightest 0 = .ok (.aload_n 0, 1) := by decide +kernel
theorem dX4_firstLightest_1 : decode cX4_firstLightest 1 = .ok (.iconst 0, 1) := by decide +kernel
theorem dX4_firstLightest_2 : decode cX4_firstLightest 2 = .ok (.invokevirtual 86, 3) := by decide +kernel
theorem dX4_firstLightest_5 : decode cX4_firstLightest 5 = .ok (.aload_n 0, 1) := by decide +kernel
theorem dX4_firstLightest_6 : decode cX4_firstLightest 6 = .ok (.aload_n 0, 1) := by decide +kernel
theorem dX4_firstLightest_7 : decode cX4_firstLightest 7 = .ok (.getfield 13, 3) := by decide +kernel
theorem dX4_firstLightest_10 : decode cX4_firstLightest 10 = .ok (.invokevirtual 90, 3) := by decide +kernel
theorem dX4_firstLightest_13 : decode cX4_firstLightest 13 = .ok (.lreturn, 1) := by decide +kernel
theorem dX4_firstWith_0 : decode cX4_firstWith 0 = .ok (.lconst 0, 1) := by decide +kernel
theorem dX4_firstWith_1 : decode cX4_firstWith 1 = .ok (.lstore_n 2, 1) := by decide +kernel
theorem dX4_firstWith_2 : decode cX4_firstWith 2 = .ok (.iconst 0, 1) := by decide +kernel
theorem dX4_firstWith_3 : decode cX4_firstWith 3 = .ok (.istore 4, 2) := by decide +kernel
theorem dX4_firstWith_5 : decode cX4_firstWith 5 = .ok (.iconst 0, 1) := by decide +kernel
theorem dX4_firstWith_6 : decode cX4_firstWith 6 = .ok (.istore 5, 2) := by decide +kernel
theorem dX4_firstWith_8 : decode cX4_firstWith 8 = .ok (.iload 5, 2) := by decide +kernel
theorem dX4_firstWith_10 : decode cX4_firstWith 10 = .ok (.aload_n 0, 1) := by decide +kernel
theorem dX4_firstWith_11 : decode cX4_firstWith 11 = .ok (.getfield 36, 3) := by decide +kernel
theorem dX4_firstWith_14 : decode cX4_firstWith 14 = .ok (.getfield 44, 3) := by decide +kernel
theorem dX4_firstWith_17 : decode cX4_firstWith 17 = .ok (.if_icmp .ge 141, 3) := by decide +kernel
theorem dX4_firstWith_20 : decode cX4_firstWith 20 = .ok (.aload_n 1, 1) := by decide +kernel
theorem dX4_firstWith_21 : decode cX4_firstWith 21 = .ok (.iconst 0, 1) := by decide +kernel
theorem dX4_firstWith_22 : decode cX4_firstWith 22 = .ok (.iload 4, 2) := by decide +kernel
theorem dX4_firstWith_24 : decode cX4_firstWith 24 = .ok (.invokestatic 94, 3) := by decide +kernel
theorem dX4_firstWith_27 : decode cX4_firstWith 27 = .ok (.invokestatic 80, 3) := by decide +kernel
theorem dX4_firstWith_30 : decode cX4_firstWith 30 = .ok (.lstore 6, 2) := by decide +kernel
theorem dX4_firstWith_32 : decode cX4_firstWith 32 = .ok (.iload 4, 2) := by decide +kernel
theorem dX4_firstWith_34 : decode cX4_firstWith 34 = .ok (.istore 8, 2) := by decide +kernel
theorem dX4_firstWith_36 : decode cX4_firstWith 36 = .ok (.aload_n 0, 1) := by decide +kernel
theorem dX4_firstWith_37 : decode cX4_firstWith 37 = .ok (.getfield 36, 3) := by decide +kernel
theorem dX4_firstWith_40 : decode cX4_firstWith 40 = .ok (.iload 4, 2) := by decide +kernel
theorem dX4_firstWith_42 : decode cX4_firstWith 42 = .ok (.iconst 1, 1) := by decide +kernel
theorem dX4_firstWith_43 : decode cX4_firstWith 43 = .ok (.iadd, 1) := by decide +kernel
theorem dX4_firstWith_44 : decode cX4_firstWith 44 = .ok (.invokevirtual 97, 3) := by decide +kernel
theorem dX4_firstWith_47 : decode cX4_firstWith 47 = .ok (.istore 9, 2) := by decide +kernel
theorem dX4_firstWith_49 : decode cX4_firstWith 49 = .ok (.aload_n 0, 1) := by decide +kernel
theorem dX4_firstWith_50 : decode cX4_firstWith 50 = .ok (.getfield 36, 3) := by decide +kernel
theorem dX4_firstWith_53 : decode cX4_firstWith 53 = .ok (.iload 4, 2) := by decide +kernel
theorem dX4_firstWith_55 : decode cX4_firstWith 55 = .ok (.invokevirtual 97, 3) := by decide +kernel
theorem dX4_firstWith_58 : decode cX4_firstWith 58 = .ok (.istore 10, 2) := by decide +kernel
theorem dX4_firstWith_60 : decode cX4_firstWith 60 = .ok (.iload 10, 2) := by decide +kernel
theorem dX4_firstWith_62 : decode cX4_firstWith 62 = .ok (.iload 9, 2) := by decide +kernel
theorem dX4_firstWith_64 : decode cX4_firstWith 64 = .ok (.if_icmp .ge 84, 3) := by decide +kernel
theorem dX4_firstWith_67 : decode cX4_firstWith 67 = .ok (.aload_n 0, 1) := by decide +kernel
theorem dX4_firstWith_68 : decode cX4_firstWith 68 = .ok (.getfield 36, 3) := by decide +kernel
theorem dX4_firstWith_71 : decode cX4_firstWith 71 = .ok (.iload 10, 2) := by decide +kernel
theorem dX4_firstWith_73 : decode cX4_firstWith 73 = .ok (.invokevirtual 68, 3) := by decide +kernel
theorem dX4_firstWith_76 : decode cX4_firstWith 76 = .ok (.istore 11, 2) := by decide +kernel
theorem dX4_firstWith_78 : decode cX4_firstWith 78 = .ok (.aload_n 0, 1) := by decide +kernel
theorem dX4_firstWith_79 : decode cX4_firstWith 79 = .ok (.getfield 36, 3) := by decide +kernel
theorem dX4_firstWith_82 : decode cX4_firstWith 82 = .ok (.iconst 0, 1) := by decide +kernel
theorem dX4_firstWith_83 : decode cX4_firstWith 83 = .ok (.iload 10, 2) := by decide +kernel
theorem dX4_firstWith_85 : decode cX4_firstWith 85 = .ok (.invokevirtual 60, 3) := by decide +kernel
theorem dX4_firstWith_88 : decode cX4_firstWith 88 = .ok (.aload_n 1, 1) := by decide +kernel
theorem dX4_firstWith_89 : decode cX4_firstWith 89 = .ok (.iconst 0, 1) := by decide +kernel
theorem dX4_firstWith_90 : decode cX4_firstWith 90 = .ok (.iload 11, 2) := by decide +kernel
theorem dX4_firstWith_92 : decode cX4_firstWith 92 = .ok (.invokestatic 94, 3) := by decide +kernel
theorem dX4_firstWith_95 : decode cX4_firstWith 95 = .ok (.invokestatic 80, 3) := by decide +kernel
theorem dX4_firstWith_98 : decode cX4_firstWith 98 = .ok (.lmul, 1) := by decide +kernel
theorem dX4_firstWith_99 : decode cX4_firstWith 99 = .ok (.lstore 12, 2) := by decide +kernel
theorem dX4_firstWith_101 : decode cX4_firstWith 101 = .ok (.aload_n 0, 1) := by decide +kernel
theorem dX4_firstWith_102 : decode cX4_firstWith 102 = .ok (.getfield 36, 3) := by decide +kernel
theorem dX4_firstWith_105 : decode cX4_firstWith 105 = .ok (.iload 11, 2) := by decide +kernel
theorem dX4_firstWith_107 : decode cX4_firstWith 107 = .ok (.invokevirtual 100, 3) := by decide +kernel
theorem dX4_firstWith_110 : decode cX4_firstWith 110 = .ok (.lconst 0, 1) := by decide +kernel
theorem dX4_firstWith_111 : decode cX4_firstWith 111 = .ok (.lcmp, 1) := by decide +kernel
theorem dX4_firstWith_112 : decode cX4_firstWith 112 = .ok (.ifCond .le 18, 3) := by decide +kernel
theorem dX4_firstWith_115 : decode cX4_firstWith 115 = .ok (.lload 12, 2) := by decide +kernel
theorem dX4_firstWith_117 : decode cX4_firstWith 117 = .ok (.lload 6, 2) := by decide +kernel
theorem dX4_firstWith_119 : decode cX4_firstWith 119 = .ok (.lcmp, 1) := by decide +kernel
theorem dX4_firstWith_120 : decode cX4_firstWith 120 = .ok (.ifCond .ne 10, 3) := by decide +kernel
theorem dX4_firstWith_123 : decode cX4_firstWith 123 = .ok (.iload 11, 2) := by decide +kernel
theorem dX4_firstWith_125 : decode cX4_firstWith 125 = .ok (.istore 8, 2) := by decide +kernel
theorem dX4_firstWith_127 : decode cX4_firstWith 127 = .ok (.goto 21, 3) := by decide +kernel
theorem dX4_firstWith_130 : decode cX4_firstWith 130 = .ok (.lload_n 2, 1) := by decide +kernel
theorem dX4_firstWith_131 : decode cX4_firstWith 131 = .ok (.aload_n 0, 1) := by decide +kernel
theorem dX4_firstWith_132 : decode cX4_firstWith 132 = .ok (.getfield 36, 3) := by decide +kernel
theorem dX4_firstWith_135 : decode cX4_firstWith 135 = .ok (.iload 11, 2) := by decide +kernel
theorem dX4_firstWith_137 : decode cX4_firstWith 137 = .ok (.invokevirtual 100, 3) := by decide +kernel
theorem dX4_firstWith_140 : decode cX4_firstWith 140 = .ok (.ladd, 1) := by decide +kernel
theorem dX4_firstWith_141 : decode cX4_firstWith 141 = .ok (.lstore_n 2, 1) := by decide +kernel
theorem dX4_firstWith_142 : decode cX4_firstWith 142 = .ok (.iinc 10 1, 3) := by decide +kernel
theorem dX4_firstWith_145 : decode cX4_firstWith 145 = .ok (.goto (-85), 3) := by decide +kernel
theorem dX4_firstWith_148 : decode cX4_firstWith 148 = .ok (.iload 8, 2) := by decide +kernel
theorem dX4_firstWith_150 : decode cX4_firstWith 150 = .ok (.istore 4, 2) := by decide +kernel
theorem dX4_firstWith_152 : decode cX4_firstWith 152 = .ok (.iinc 5 1, 3) := by decide +kernel
theorem dX4_firstWith_155 : decode cX4_firstWith 155 = .ok (.goto (-147), 3) := by decide +kernel
theorem dX4_firstWith_158 : decode cX4_firstWith 158 = .ok (.lload_n 2, 1) := by decide +kernel
theorem dX4_firstWith_159 : decode cX4_firstWith 159 = .ok (.lreturn, 1) := by decide +kernel
theorem dX4_slot_0 : decode cX4_slot 0 = .ok (.iload_n 0, 1) := by decide +kernel
theorem dX4_slot_1 : decode cX4_slot 1 = .ok (.sipush 480, 3) := by decide +kernel
theorem dX4_slot_4 : decode cX4_slot 4 = .ok (.imul, 1) := by decide +kernel
theorem dX4_slot_5 : decode cX4_slot 5 = .ok (.iload_n 1, 1) := by decide +kernel
theorem dX4_slot_6 : decode cX4_slot 6 = .ok (.iadd, 1) := by decide +kernel
theorem dX4_slot_7 : decode cX4_slot 7 = .ok (.ireturn, 1) := by decide +kernel
theorem dX4_start_0 : decode cX4_start 0 = .ok (.iload_n 0, 1) := by decide +kernel
theorem dX4_start_1 : decode cX4_start 1 = .ok (.ifCond .ne 7, 3) := by decide +kernel
theorem dX4_start_4 : decode cX4_start 4 = .ok (.lconst 1, 1) := by decide +kernel
theorem dX4_start_5 : decode cX4_start 5 = .ok (.goto 4, 3) := by decide +kernel
theorem dX4_start_8 : decode cX4_start 8 = .ok (.lconst 0, 1) := by decide +kernel
theorem dX4_start_9 : decode cX4_start 9 = .ok (.lreturn, 1) := by decide +kernel
theorem dX4_join_0 : decode cX4_join 0 = .ok (.iload_n 0, 1) := by decide +kernel
theorem dX4_join_1 : decode cX4_join 1 = .ok (.lookupswitch 37 #[(0, 27), (3, 31)], 27) := by decide +kernel
theorem dX4_join_28 : decode cX4_join 28 = .ok (.lload_n 1, 1) := by decide +kernel
theorem dX4_join_29 : decode cX4_join 29 = .ok (.lload_n 3, 1) := by decide +kernel
theorem dX4_join_30 : decode cX4_join 30 = .ok (.lmul, 1) := by decide +kernel
theorem dX4_join_31 : decode cX4_join 31 = .ok (.lreturn, 1) := by decide +kernel
theorem dX4_join_32 : decode cX4_join 32 = .ok (.lload_n 1, 1) := by decide +kernel
theorem dX4_join_33 : decode cX4_join 33 = .ok (.lload_n 3, 1) := by decide +kernel
theorem dX4_join_34 : decode cX4_join 34 = .ok (.invokestatic 103, 3) := by decide +kernel
theorem dX4_join_37 : decode cX4_join 37 = .ok (.lreturn, 1) := by decide +kernel
theorem dX4_join_38 : decode cX4_join 38 = .ok (.lload_n 1, 1) := by decide +kernel
theorem dX4_join_39 : decode cX4_join 39 = .ok (.lload_n 3, 1) := by decide +kernel
theorem dX4_join_40 : decode cX4_join 40 = .ok (.ladd, 1) := by decide +kernel
theorem dX4_join_41 : decode cX4_join 41 = .ok (.lreturn, 1) := by decide +kernel
theorem dX4_bound_0 : decode cX4_bound 0 = .ok (.aload_n 0, 1) := by decide +kernel
theorem dX4_bound_1 : decode cX4_bound 1 = .ok (.getfield 20, 3) := by decide +kernel
theorem dX4_bound_4 : decode cX4_bound 4 = .ok (.iload_n 1, 1) := by decide +kernel
theorem dX4_bound_5 : decode cX4_bound 5 = .ok (.invokestatic 109, 3) := by decide +kernel
theorem dX4_bound_8 : decode cX4_bound 8 = .ok (.ifCond .eq 4, 3) := by decide +kernel
theorem dX4_bound_11 : decode cX4_bound 11 = .ok (.return_, 1) := by decide +kernel
theorem dX4_bound_12 : decode cX4_bound 12 = .ok (.aload_n 0, 1) := by decide +kernel
theorem dX4_bound_13 : decode cX4_bound 13 = .ok (.getfield 20, 3) := by decide +kernel
theorem dX4_bound_16 : decode cX4_bound 16 = .ok (.iload_n 1, 1) := by decide +kernel
theorem dX4_bound_17 : decode cX4_bound 17 = .ok (.iconst 1, 1) := by decide +kernel
theorem dX4_bound_18 : decode cX4_bound 18 = .ok (.invokestatic 112, 3) := by decide +kernel
theorem dX4_bound_21 : decode cX4_bound 21 = .ok (.aload_n 0, 1) := by decide +kernel
theorem dX4_bound_22 : decode cX4_bound 22 = .ok (.getfield 36, 3) := by decide +kernel
theorem dX4_bound_25 : decode cX4_bound 25 = .ok (.getfield 116, 3) := by decide +kernel
theorem dX4_bound_28 : decode cX4_bound 28 = .ok (.iconst 1, 1) := by decide +kernel
theorem dX4_bound_29 : decode cX4_bound 29 = .ok (.isub, 1) := by decide +kernel
theorem dX4_bound_30 : decode cX4_bound 30 = .ok (.istore_n 2, 1) := by decide +kernel
theorem dX4_bound_31 : decode cX4_bound 31 = .ok (.iload_n 2, 1) := by decide +kernel
theorem dX4_bound_32 : decode cX4_bound 32 = .ok (.ifCond .lt 61, 3) := by decide +kernel
theorem dX4_bound_35 : decode cX4_bound 35 = .ok (.aload_n 0, 1) := by decide +kernel
theorem dX4_bound_36 : decode cX4_bound 36 = .ok (.getfield 36, 3) := by decide +kernel
theorem dX4_bound_39 : decode cX4_bound 39 = .ok (.iload_n 2, 1) := by decide +kernel
theorem dX4_bound_40 : decode cX4_bound 40 = .ok (.invokevirtual 119, 3) := by decide +kernel
theorem dX4_bound_43 : decode cX4_bound 43 = .ok (.ifCond .eq 38, 3) := by decide +kernel
theorem dX4_bound_46 : decode cX4_bound 46 = .ok (.aload_n 0, 1) := by decide +kernel
theorem dX4_bound_47 : decode cX4_bound 47 = .ok (.getfield 13, 3) := by decide +kernel
theorem dX4_bound_50 : decode cX4_bound 50 = .ok (.iload_n 1, 1) := by decide +kernel
theorem dX4_bound_51 : decode cX4_bound 51 = .ok (.iload_n 2, 1) := by decide +kernel
theorem dX4_bound_52 : decode cX4_bound 52 = .ok (.invokestatic 94, 3) := by decide +kernel
theorem dX4_bound_55 : decode cX4_bound 55 = .ok (.iload_n 1, 1) := by decide +kernel
theorem dX4_bound_56 : decode cX4_bound 56 = .ok (.invokestatic 40, 3) := by decide +kernel
theorem dX4_bound_59 : decode cX4_bound 59 = .ok (.invokestatic 123, 3) := by decide +kernel
theorem dX4_bound_62 : decode cX4_bound 62 = .ok (.aload_n 0, 1) := by decide +kernel
theorem dX4_bound_63 : decode cX4_bound 63 = .ok (.getfield 17, 3) := by decide +kernel
theorem dX4_bound_66 : decode cX4_bound 66 = .ok (.iload_n 1, 1) := by decide +kernel
theorem dX4_bound_67 : decode cX4_bound 67 = .ok (.iload_n 2, 1) := by decide +kernel
theorem dX4_bound_68 : decode cX4_bound 68 = .ok (.invokestatic 94, 3) := by decide +kernel
theorem dX4_bound_71 : decode cX4_bound 71 = .ok (.iload_n 1, 1) := by decide +kernel
theorem dX4_bound_72 : decode cX4_bound 72 = .ok (.invokestatic 40, 3) := by decide +kernel
theorem dX4_bound_75 : decode cX4_bound 75 = .ok (.invokestatic 123, 3) := by decide +kernel
theorem dX4_bound_78 : decode cX4_bound 78 = .ok (.goto 9, 3) := by decide +kernel
theorem dX4_bound_81 : decode cX4_bound 81 = .ok (.aload_n 0, 1) := by decide +kernel
theorem dX4_bound_82 : decode cX4_bound 82 = .ok (.iload_n 1, 1) := by decide +kernel
theorem dX4_bound_83 : decode cX4_bound 83 = .ok (.iload_n 2, 1) := by decide +kernel
theorem dX4_bound_84 : decode cX4_bound 84 = .ok (.invokevirtual 126, 3) := by decide +kernel
theorem dX4_bound_87 : decode cX4_bound 87 = .ok (.iinc 2 (-1), 3) := by decide +kernel
theorem dX4_bound_90 : decode cX4_bound 90 = .ok (.goto (-59), 3) := by decide +kernel
theorem dX4_bound_93 : decode cX4_bound 93 = .ok (.return_, 1) := by decide +kernel
theorem dX4_boundNode_0 : decode cX4_boundNode 0 = .ok (.iconst 1, 1) := by decide +kernel
theorem dX4_boundNode_1 : decode cX4_boundNode 1 = .ok (.istore_n 3, 1) := by decide +kernel
theorem dX4_boundNode_2 : decode cX4_boundNode 2 = .ok (.lconst 0, 1) := by decide +kernel
theorem dX4_boundNode_3 : decode cX4_boundNode 3 = .ok (.lstore 4, 2) := by decide +kernel
theorem dX4_boundNode_5 : decode cX4_boundNode 5 = .ok (.lconst 0, 1) := by decide +kernel
theorem dX4_boundNode_6 : decode cX4_boundNode 6 = .ok (.lstore 6, 2) := by decide +kernel
theorem dX4_boundNode_8 : decode cX4_boundNode 8 = .ok (.aload_n 0, 1) := by decide +kernel
theorem dX4_boundNode_9 : decode cX4_boundNode 9 = .ok (.getfield 36, 3) := by decide +kernel
theorem dX4_boundNode_12 : decode cX4_boundNode 12 = .ok (.iload_n 2, 1) := by decide +kernel
theorem dX4_boundNode_13 : decode cX4_boundNode 13 = .ok (.iconst 1, 1) := by decide +kernel
theorem dX4_boundNode_14 : decode cX4_boundNode 14 = .ok (.iadd, 1) := by decide +kernel
theorem dX4_boundNode_15 : decode cX4_boundNode 15 = .ok (.invokevirtual 97, 3) := by decide +kernel
theorem dX4_boundNode_18 : decode cX4_boundNode 18 = .ok (.istore 8, 2) := by decide +kernel
theorem dX4_boundNode_20 : decode cX4_boundNode 20 = .ok (.aload_n 0, 1) := by decide +kernel
theorem dX4_boundNode_21 : decode cX4_boundNode 21 = .ok (.getfield 36, 3) := by decide +kernel
theorem dX4_boundNode_24 : decode cX4_boundNode 24 = .ok (.iload_n 2, 1) := by decide +kernel
theorem dX4_boundNode_25 : decode cX4_boundNode 25 = .ok (.invokevirtual 97, 3) := by decide +kernel
theorem dX4_boundNode_28 : decode cX4_boundNode 28 = .ok (.istore 9, 2) := by decide +kernel
theorem dX4_boundNode_30 : decode cX4_boundNode 30 = .ok (.iload 9, 2) := by decide +kernel
theorem dX4_boundNode_32 : decode cX4_boundNode 32 = .ok (.iload 8, 2) := by decide +kernel
theorem dX4_boundNode_34 : decode cX4_boundNode 34 = .ok (.if_icmp .ge 127, 3) := by decide +kernel
theorem dX4_boundNode_37 : decode cX4_boundNode 37 = .ok (.aload_n 0, 1) := by decide +kernel
theorem dX4_boundNode_38 : decode cX4_boundNode 38 = .ok (.getfield 36, 3) := by decide +kernel
theorem dX4_boundNode_41 : decode cX4_boundNode 41 = .ok (.getfield 130, 3) := by decide +kernel
theorem dX4_boundNode_44 : decode cX4_boundNode 44 = .ok (.iload 9, 2) := by decide +kernel
theorem dX4_boundNode_46 : decode cX4_boundNode 46 = .ok (.iaload, 1) := by decide +kernel
theorem dX4_boundNode_47 : decode cX4_boundNode 47 = .ok (.istore 10, 2) := by decide +kernel
theorem dX4_boundNode_49 : decode cX4_boundNode 49 = .ok (.aload_n 0, 1) := by decide +kernel
theorem dX4_boundNode_50 : decode cX4_boundNode 50 = .ok (.getfield 36, 3) := by decide +kernel
theorem dX4_boundNode_53 : decode cX4_boundNode 53 = .ok (.iload 10, 2) := by decide +kernel
theorem dX4_boundNode_55 : decode cX4_boundNode 55 = .ok (.invokevirtual 100, 3) := by decide +kernel
theorem dX4_boundNode_58 : decode cX4_boundNode 58 = .ok (.lconst 0, 1) := by decide +kernel
theorem dX4_boundNode_59 : decode cX4_boundNode 59 = .ok (.lcmp, 1) := by decide +kernel
theorem dX4_boundNode_60 : decode cX4_boundNode 60 = .ok (.ifCond .le 95, 3) := by decide +kernel
theorem dX4_boundNode_63 : decode cX4_boundNode 63 = .ok (.aload_n 0, 1) := by decide +kernel
theorem dX4_boundNode_64 : decode cX4_boundNode 64 = .ok (.getfield 36, 3) := by decide +kernel
theorem dX4_boundNode_67 : decode cX4_boundNode 67 = .ok (.iload_n 1, 1) := by decide +kernel
theorem dX4_boundNode_68 : decode cX4_boundNode 68 = .ok (.iload 9, 2) := by decide +kernel
theorem dX4_boundNode_70 : decode cX4_boundNode 70 = .ok (.invokevirtual 60, 3) := by decide +kernel
theorem dX4_boundNode_73 : decode cX4_boundNode 73 = .ok (.lstore 11, 2) := by decide +kernel
theorem dX4_boundNode_75 : decode cX4_boundNode 75 = .ok (.iload_n 1, 1) := by decide +kernel
theorem dX4_boundNode_76 : decode cX4_boundNode 76 = .ok (.lload 11, 2) := by decide +kernel
theorem dX4_boundNode_78 : decode cX4_boundNode 78 = .ok (.aload_n 0, 1) := by decide +kernel
theorem dX4_boundNode_79 : decode cX4_boundNode 79 = .ok (.getfield 13, 3) := by decide +kernel
theorem dX4_boundNode_82 : decode cX4_boundNode 82 = .ok (.iload_n 1, 1) := by decide +kernel
theorem dX4_boundNode_83 : decode cX4_boundNode 83 = .ok (.iload 10, 2) := by decide +kernel
theorem dX4_boundNode_85 : decode cX4_boundNode 85 = .ok (.invokestatic 94, 3) := by decide +kernel
theorem dX4_boundNode_88 : decode cX4_boundNode 88 = .ok (.invokestatic 80, 3) := by decide +kernel
theorem dX4_boundNode_91 : decode cX4_boundNode 91 = .ok (.invokestatic 64, 3) := by decide +kernel
theorem dX4_boundNode_94 : decode cX4_boundNode 94 = .ok (.lstore 13, 2) := by decide +kernel
theorem dX4_boundNode_96 : decode cX4_boundNode 96 = .ok (.iload_n 1, 1) := by decide +kernel
theorem dX4_boundNode_97 : decode cX4_boundNode 97 = .ok (.lload 11, 2) := by decide +kernel
theorem dX4_boundNode_99 : decode cX4_boundNode 99 = .ok (.aload_n 0, 1) := by decide +kernel
theorem dX4_boundNode_100 : decode cX4_boundNode 100 = .ok (.getfield 17, 3) := by decide +kernel
theorem dX4_boundNode_103 : decode cX4_boundNode 103 = .ok (.iload_n 1, 1) := by decide +kernel
theorem dX4_boundNode_104 : decode cX4_boundNode 104 = .ok (.iload 10, 2) := by decide +kernel
theorem dX4_boundNode_106 : decode cX4_boundNode 106 = .ok (.invokestatic 94, 3) := by decide +kernel
theorem dX4_boundNode_109 : decode cX4_boundNode 109 = .ok (.invokestatic 80, 3) := by decide +kernel
theorem dX4_boundNode_112 : decode cX4_boundNode 112 = .ok (.invokestatic 64, 3) := by decide +kernel
theorem dX4_boundNode_115 : decode cX4_boundNode 115 = .ok (.lstore 15, 2) := by decide +kernel
theorem dX4_boundNode_117 : decode cX4_boundNode 117 = .ok (.iload_n 3, 1) := by decide +kernel
theorem dX4_boundNode_118 : decode cX4_boundNode 118 = .ok (.ifCond .eq 8, 3) := by decide +kernel
theorem dX4_boundNode_121 : decode cX4_boundNode 121 = .ok (.lload 13, 2) := by decide +kernel
theorem dX4_boundNode_123 : decode cX4_boundNode 123 = .ok (.goto 10, 3) := by decide +kernel
theorem dX4_boundNode_126 : decode cX4_boundNode 126 = .ok (.lload 4, 2) := by decide +kernel
theorem dX4_boundNode_128 : decode cX4_boundNode 128 = .ok (.lload 13, 2) := by decide +kernel
theorem dX4_boundNode_130 : decode cX4_boundNode 130 = .ok (.invokestatic 134, 3) := by decide +kernel
theorem dX4_boundNode_133 : decode cX4_boundNode 133 = .ok (.lstore 4, 2) := by decide +kernel
theorem dX4_boundNode_135 : decode cX4_boundNode 135 = .ok (.iload_n 3, 1) := by decide +kernel
theorem dX4_boundNode_136 : decode cX4_boundNode 136 = .ok (.ifCond .eq 8, 3) := by decide +kernel
theorem dX4_boundNode_139 : decode cX4_boundNode 139 = .ok (.lload 15, 2) := by decide +kernel
theorem dX4_boundNode_141 : decode cX4_boundNode 141 = .ok (.goto 10, 3) := by decide +kernel
theorem dX4_boundNode_144 : decode cX4_boundNode 144 = .ok (.lload 6, 2) := by decide +kernel
theorem dX4_boundNode_146 : decode cX4_boundNode 146 = .ok (.lload 15, 2) := by decide +kernel
theorem dX4_boundNode_148 : decode cX4_boundNode 148 = .ok (.invokestatic 103, 3) := by decide +kernel
theorem dX4_boundNode_151 : decode cX4_boundNode 151 = .ok (.lstore 6, 2) := by decide +kernel
theorem dX4_boundNode_153 : decode cX4_boundNode 153 = .ok (.iconst 0, 1) := by decide +kernel
theorem dX4_boundNode_154 : decode cX4_boundNode 154 = .ok (.istore_n 3, 1) := by decide +kernel
theorem dX4_boundNode_155 : decode cX4_boundNode 155 = .ok (.iinc 9 1, 3) := by decide +kernel
theorem dX4_boundNode_158 : decode cX4_boundNode 158 = .ok (.goto (-128), 3) := by decide +kernel
theorem dX4_boundNode_161 : decode cX4_boundNode 161 = .ok (.aload_n 0, 1) := by decide +kernel
theorem dX4_boundNode_162 : decode cX4_boundNode 162 = .ok (.getfield 13, 3) := by decide +kernel
theorem dX4_boundNode_165 : decode cX4_boundNode 165 = .ok (.iload_n 1, 1) := by decide +kernel
theorem dX4_boundNode_166 : decode cX4_boundNode 166 = .ok (.iload_n 2, 1) := by decide +kernel
theorem dX4_boundNode_167 : decode cX4_boundNode 167 = .ok (.invokestatic 94, 3) := by decide +kernel
theorem dX4_boundNode_170 : decode cX4_boundNode 170 = .ok (.lload 4, 2) := by decide +kernel
theorem dX4_boundNode_172 : decode cX4_boundNode 172 = .ok (.invokestatic 123, 3) := by decide +kernel
theorem dX4_boundNode_175 : decode cX4_boundNode 175 = .ok (.aload_n 0, 1) := by decide +kernel
theorem dX4_boundNode_176 : decode cX4_boundNode 176 = .ok (.getfield 17, 3) := by decide +kernel
theorem dX4_boundNode_179 : decode cX4_boundNode 179 = .ok (.iload_n 1, 1) := by decide +kernel
theorem dX4_boundNode_180 : decode cX4_boundNode 180 = .ok (.iload_n 2, 1) := by decide +kernel
theorem dX4_boundNode_181 : decode cX4_boundNode 181 = .ok (.invokestatic 94, 3) := by decide +kernel
theorem dX4_boundNode_184 : decode cX4_boundNode 184 = .ok (.lload 6, 2) := by decide +kernel
theorem dX4_boundNode_186 : decode cX4_boundNode 186 = .ok (.invokestatic 123, 3) := by decide +kernel
theorem dX4_boundNode_189 : decode cX4_boundNode 189 = .ok (.return_, 1) := by decide +kernel
theorem dX4_gatherAll_0 : decode cX4_gatherAll 0 = .ok (.aload_n 0, 1) := by decide +kernel
theorem dX4_gatherAll_1 : decode cX4_gatherAll 1 = .ok (.getfield 24, 3) := by decide +kernel
theorem dX4_gatherAll_4 : decode cX4_gatherAll 4 = .ok (.iload_n 1, 1) := by decide +kernel
theorem dX4_gatherAll_5 : decode cX4_gatherAll 5 = .ok (.invokestatic 109, 3) := by decide +kernel
theorem dX4_gatherAll_8 : decode cX4_gatherAll 8 = .ok (.ifCond .eq 17, 3) := by decide +kernel
theorem dX4_gatherAll_11 : decode cX4_gatherAll 11 = .ok (.aload_n 0, 1) := by decide +kernel
theorem dX4_gatherAll_12 : decode cX4_gatherAll 12 = .ok (.getfield 27, 3) := by decide +kernel
theorem dX4_gatherAll_15 : decode cX4_gatherAll 15 = .ok (.iload_n 1, 1) := by decide +kernel
theorem dX4_gatherAll_16 : decode cX4_gatherAll 16 = .ok (.invokestatic 80, 3) := by decide +kernel
theorem dX4_gatherAll_19 : decode cX4_gatherAll 19 = .ok (.lload_n 2, 1) := by decide +kernel
theorem dX4_gatherAll_20 : decode cX4_gatherAll 20 = .ok (.lcmp, 1) := by decide +kernel
theorem dX4_gatherAll_21 : decode cX4_gatherAll 21 = .ok (.ifCond .ne 4, 3) := by decide +kernel
theorem dX4_gatherAll_24 : decode cX4_gatherAll 24 = .ok (.return_, 1) := by decide +kernel
theorem dX4_gatherAll_25 : decode cX4_gatherAll 25 = .ok (.aload_n 0, 1) := by decide +kernel
theorem dX4_gatherAll_26 : decode cX4_gatherAll 26 = .ok (.iload_n 1, 1) := by decide +kernel
theorem dX4_gatherAll_27 : decode cX4_gatherAll 27 = .ok (.invokevirtual 86, 3) := by decide +kernel
theorem dX4_gatherAll_30 : decode cX4_gatherAll 30 = .ok (.aload_n 0, 1) := by decide +kernel
theorem dX4_gatherAll_31 : decode cX4_gatherAll 31 = .ok (.lload_n 2, 1) := by decide +kernel
theorem dX4_gatherAll_32 : decode cX4_gatherAll 32 = .ok (.putfield 137, 3) := by decide +kernel
theorem dX4_gatherAll_35 : decode cX4_gatherAll 35 = .ok (.aload_n 0, 1) := by decide +kernel
theorem dX4_gatherAll_36 : decode cX4_gatherAll 36 = .ok (.lconst 0, 1) := by decide +kernel
theorem dX4_gatherAll_37 : decode cX4_gatherAll 37 = .ok (.putfield 141, 3) := by decide +kernel
theorem dX4_gatherAll_40 : decode cX4_gatherAll 40 = .ok (.aload_n 0, 1) := by decide +kernel
theorem dX4_gatherAll_41 : decode cX4_gatherAll 41 = .ok (.lconst 0, 1) := by decide +kernel
theorem dX4_gatherAll_42 : decode cX4_gatherAll 42 = .ok (.putfield 144, 3) := by decide +kernel
theorem dX4_gatherAll_45 : decode cX4_gatherAll 45 = .ok (.aload_n 0, 1) := by decide +kernel
theorem dX4_gatherAll_46 : decode cX4_gatherAll 46 = .ok (.iload_n 1, 1) := by decide +kernel
theorem dX4_gatherAll_47 : decode cX4_gatherAll 47 = .ok (.iconst 0, 1) := by decide +kernel
theorem dX4_gatherAll_48 : decode cX4_gatherAll 48 = .ok (.iconst 0, 1) := by decide +kernel
theorem dX4_gatherAll_49 : decode cX4_gatherAll 49 = .ok (.iload_n 1, 1) := by decide +kernel
theorem dX4_gatherAll_50 : decode cX4_gatherAll 50 = .ok (.invokestatic 40, 3) := by decide +kernel
theorem dX4_gatherAll_53 : decode cX4_gatherAll 53 = .ok (.lconst 1, 1) := by decide +kernel
theorem dX4_gatherAll_54 : decode cX4_gatherAll 54 = .ok (.invokestatic 147, 3) := by decide +kernel
theorem dX4_gatherAll_57 : decode cX4_gatherAll 57 = .ok (.aload_n 0, 1) := by decide +kernel
theorem dX4_gatherAll_58 : decode cX4_gatherAll 58 = .ok (.getfield 24, 3) := by decide +kernel
theorem dX4_gatherAll_61 : decode cX4_gatherAll 61 = .ok (.iload_n 1, 1) := by decide +kernel
theorem dX4_gatherAll_62 : decode cX4_gatherAll 62 = .ok (.iconst 1, 1) := by decide +kernel
theorem dX4_gatherAll_63 : decode cX4_gatherAll 63 = .ok (.invokestatic 112, 3) := by decide +kernel
theorem dX4_gatherAll_66 : decode cX4_gatherAll 66 = .ok (.aload_n 0, 1) := by decide +kernel
theorem dX4_gatherAll_67 : decode cX4_gatherAll 67 = .ok (.getfield 27, 3) := by decide +kernel
theorem dX4_gatherAll_70 : decode cX4_gatherAll 70 = .ok (.iload_n 1, 1) := by decide +kernel
theorem dX4_gatherAll_71 : decode cX4_gatherAll 71 = .ok (.lload_n 2, 1) := by decide +kernel
theorem dX4_gatherAll_72 : decode cX4_gatherAll 72 = .ok (.invokestatic 123, 3) := by decide +kernel
theorem dX4_gatherAll_75 : decode cX4_gatherAll 75 = .ok (.aload_n 0, 1) := by decide +kernel
theorem dX4_gatherAll_76 : decode cX4_gatherAll 76 = .ok (.getfield 30, 3) := by decide +kernel
theorem dX4_gatherAll_79 : decode cX4_gatherAll 79 = .ok (.iload_n 1, 1) := by decide +kernel
theorem dX4_gatherAll_80 : decode cX4_gatherAll 80 = .ok (.aload_n 0, 1) := by decide +kernel
theorem dX4_gatherAll_81 : decode cX4_gatherAll 81 = .ok (.getfield 141, 3) := by decide +kernel
theorem dX4_gatherAll_84 : decode cX4_gatherAll 84 = .ok (.invokestatic 123, 3) := by decide +kernel
theorem dX4_gatherAll_87 : decode cX4_gatherAll 87 = .ok (.aload_n 0, 1) := by decide +kernel
theorem dX4_gatherAll_88 : decode cX4_gatherAll 88 = .ok (.getfield 33, 3) := by decide +kernel
theorem dX4_gatherAll_91 : decode cX4_gatherAll 91 = .ok (.iload_n 1, 1) := by decide +kernel
theorem dX4_gatherAll_92 : decode cX4_gatherAll 92 = .ok (.aload_n 0, 1) := by decide +kernel
theorem dX4_gatherAll_93 : decode cX4_gatherAll 93 = .ok (.getfield 144, 3) := by decide +kernel
theorem dX4_gatherAll_96 : decode cX4_gatherAll 96 = .ok (.invokestatic 123, 3) := by decide +kernel
theorem dX4_gatherAll_99 : decode cX4_gatherAll 99 = .ok (.return_, 1) := by decide +kernel
theorem dX4_gather_0 : decode cX4_gather 0 = .ok (.iload_n 1, 1) := by decide +kernel
theorem dX4_gather_1 : decode cX4_gather 1 = .ok (.iload_n 2, 1) := by decide +kernel
theorem dX4_gather_2 : decode cX4_gather 2 = .ok (.invokestatic 94, 3) := by decide +kernel
theorem dX4_gather_5 : decode cX4_gather 5 = .ok (.istore 8, 2) := by decide +kernel
theorem dX4_gather_7 : decode cX4_gather 7 = .ok (.iload_n 3, 1) := by decide +kernel
theorem dX4_gather_8 : decode cX4_gather 8 = .ok (.iconst 4, 1) := by decide +kernel
theorem dX4_gather_9 : decode cX4_gather 9 = .ok (.if_icmp .gt 27, 3) := by decide +kernel
theorem dX4_gather_12 : decode cX4_gather 12 = .ok (.iload_n 2, 1) := by decide +kernel
theorem dX4_gather_13 : decode cX4_gather 13 = .ok (.ifCond .lt 23, 3) := by decide +kernel
theorem dX4_gather_16 : decode cX4_gather 16 = .ok (.iload_n 2, 1) := by decide +kernel
theorem dX4_gather_17 : decode cX4_gather 17 = .ok (.sipush 480, 3) := by decide +kernel
theorem dX4_gather_20 : decode cX4_gather 20 = .ok (.if_icmp .ge 16, 3) := by decide +kernel
theorem dX4_gather_23 : decode cX4_gather 23 = .ok (.iload 8, 2) := by decide +kernel
theorem dX4_gather_25 : decode cX4_gather 25 = .ok (.ifCond .lt 11, 3) := by decide +kernel
theorem dX4_gather_28 : decode cX4_gather 28 = .ok (.iload 8, 2) := by decide +kernel
theorem dX4_gather_30 : decode cX4_gather 30 = .ok (.sipush 1920, 3) := by decide +kernel
theorem dX4_gather_33 : decode cX4_gather 33 = .ok (.if_icmp .lt 4, 3) := by decide +kernel
theorem dX4_gather_36 : decode cX4_gather 36 = .ok (.return_, 1) := by decide +kernel
theorem dX4_gather_37 : decode cX4_gather 37 = .ok (.iload_n 1, 1) := by decide +kernel
theorem dX4_gather_38 : decode cX4_gather 38 = .ok (.lload 4, 2) := by decide +kernel
theorem dX4_gather_40 : decode cX4_gather 40 = .ok (.aload_n 0, 1) := by decide +kernel
theorem dX4_gather_41 : decode cX4_gather 41 = .ok (.getfield 13, 3) := by decide +kernel
theorem dX4_gather_44 : decode cX4_gather 44 = .ok (.iload 8, 2) := by decide +kernel
theorem dX4_gather_46 : decode cX4_gather 46 = .ok (.laload, 1) := by decide +kernel
theorem dX4_gather_47 : decode cX4_gather 47 = .ok (.invokestatic 64, 3) := by decide +kernel
theorem dX4_gather_50 : decode cX4_gather 50 = .ok (.lstore 9, 2) := by decide +kernel
theorem dX4_gather_52 : decode cX4_gather 52 = .ok (.iload_n 1, 1) := by decide +kernel
theorem dX4_gather_53 : decode cX4_gather 53 = .ok (.lload 4, 2) := by decide +kernel
theorem dX4_gather_55 : decode cX4_gather 55 = .ok (.aload_n 0, 1) := by decide +kernel
theorem dX4_gather_56 : decode cX4_gather 56 = .ok (.getfield 17, 3) := by decide +kernel
theorem dX4_gather_59 : decode cX4_gather 59 = .ok (.iload 8, 2) := by decide +kernel
theorem dX4_gather_61 : decode cX4_gather 61 = .ok (.laload, 1) := by decide +kernel
theorem dX4_gather_62 : decode cX4_gather 62 = .ok (.invokestatic 64, 3) := by decide +kernel
theorem dX4_gather_65 : decode cX4_gather 65 = .ok (.lstore 11, 2) := by decide +kernel
theorem dX4_gather_67 : decode cX4_gather 67 = .ok (.iload_n 1, 1) := by decide +kernel
theorem dX4_gather_68 : decode cX4_gather 68 = .ok (.ifCond .ne 21, 3) := by decide +kernel
theorem dX4_gather_71 : decode cX4_gather 71 = .ok (.lload 11, 2) := by decide +kernel
theorem dX4_gather_73 : decode cX4_gather 73 = .ok (.aload_n 0, 1) := by decide +kernel
theorem dX4_gather_74 : decode cX4_gather 74 = .ok (.getfield 137, 3) := by decide +kernel
theorem dX4_gather_77 : decode cX4_gather 77 = .ok (.lcmp, 1) := by decide +kernel
theorem dX4_gather_78 : decode cX4_gather 78 = .ok (.ifCond .gt 7, 3) := by decide +kernel
theorem dX4_gather_81 : decode cX4_gather 81 = .ok (.iconst 1, 1) := by decide +kernel
theorem dX4_gather_82 : decode cX4_gather 82 = .ok (.goto 22, 3) := by decide +kernel
theorem dX4_gather_85 : decode cX4_gather 85 = .ok (.iconst 0, 1) := by decide +kernel
theorem dX4_gather_86 : decode cX4_gather 86 = .ok (.goto 18, 3) := by decide +kernel
theorem dX4_gather_89 : decode cX4_gather 89 = .ok (.lload 9, 2) := by decide +kernel
theorem dX4_gather_91 : decode cX4_gather 91 = .ok (.aload_n 0, 1) := by decide +kernel
theorem dX4_gather_92 : decode cX4_gather 92 = .ok (.getfield 137, 3) := by decide +kernel
theorem dX4_gather_95 : decode cX4_gather 95 = .ok (.lcmp, 1) := by decide +kernel
theorem dX4_gather_96 : decode cX4_gather 96 = .ok (.ifCond .lt 7, 3) := by decide +kernel
theorem dX4_gather_99 : decode cX4_gather 99 = .ok (.iconst 1, 1) := by decide +kernel
theorem dX4_gather_100 : decode cX4_gather 100 = .ok (.goto 4, 3) := by decide +kernel
theorem dX4_gather_103 : decode cX4_gather 103 = .ok (.iconst 0, 1) := by decide +kernel
theorem dX4_gather_104 : decode cX4_gather 104 = .ok (.istore 13, 2) := by decide +kernel
theorem dX4_gather_106 : decode cX4_gather 106 = .ok (.iload_n 1, 1) := by decide +kernel
theorem dX4_gather_107 : decode cX4_gather 107 = .ok (.ifCond .ne 21, 3) := by decide +kernel
theorem dX4_gather_110 : decode cX4_gather 110 = .ok (.lload 9, 2) := by decide +kernel
theorem dX4_gather_112 : decode cX4_gather 112 = .ok (.aload_n 0, 1) := by decide +kernel
theorem dX4_gather_113 : decode cX4_gather 113 = .ok (.getfield 137, 3) := by decide +kernel
theorem dX4_gather_116 : decode cX4_gather 116 = .ok (.lcmp, 1) := by decide +kernel
theorem dX4_gather_117 : decode cX4_gather 117 = .ok (.ifCond .gt 7, 3) := by decide +kernel
theorem dX4_gather_120 : decode cX4_gather 120 = .ok (.iconst 1, 1) := by decide +kernel
theorem dX4_gather_121 : decode cX4_gather 121 = .ok (.goto 22, 3) := by decide +kernel
theorem dX4_gather_124 : decode cX4_gather 124 = .ok (.iconst 0, 1) := by decide +kernel
theorem dX4_gather_125 : decode cX4_gather 125 = .ok (.goto 18, 3) := by decide +kernel
theorem dX4_gather_128 : decode cX4_gather 128 = .ok (.lload 11, 2) := by decide +kernel
theorem dX4_gather_130 : decode cX4_gather 130 = .ok (.aload_n 0, 1) := by decide +kernel
theorem dX4_gather_131 : decode cX4_gather 131 = .ok (.getfield 137, 3) := by decide +kernel
theorem dX4_gather_134 : decode cX4_gather 134 = .ok (.lcmp, 1) := by decide +kernel
theorem dX4_gather_135 : decode cX4_gather 135 = .ok (.ifCond .lt 7, 3) := by decide +kernel
theorem dX4_gather_138 : decode cX4_gather 138 = .ok (.iconst 1, 1) := by decide +kernel
theorem dX4_gather_139 : decode cX4_gather 139 = .ok (.goto 4, 3) := by decide +kernel
theorem dX4_gather_142 : decode cX4_gather 142 = .ok (.iconst 0, 1) := by decide +kernel
theorem dX4_gather_143 : decode cX4_gather 143 = .ok (.istore 14, 2) := by decide +kernel
theorem dX4_gather_145 : decode cX4_gather 145 = .ok (.iload 13, 2) := by decide +kernel
theorem dX4_gather_147 : decode cX4_gather 147 = .ok (.ifCond .eq 45, 3) := by decide +kernel
theorem dX4_gather_150 : decode cX4_gather 150 = .ok (.aload_n 0, 1) := by decide +kernel
theorem dX4_gather_151 : decode cX4_gather 151 = .ok (.dup, 1) := by decide +kernel
theorem dX4_gather_152 : decode cX4_gather 152 = .ok (.getfield 141, 3) := by decide +kernel
theorem dX4_gather_155 : decode cX4_gather 155 = .ok (.aload_n 0, 1) := by decide +kernel
theorem dX4_gather_156 : decode cX4_gather 156 = .ok (.getfield 36, 3) := by decide +kernel
theorem dX4_gather_159 : decode cX4_gather 159 = .ok (.getfield 151, 3) := by decide +kernel
theorem dX4_gather_162 : decode cX4_gather 162 = .ok (.iload_n 2, 1) := by decide +kernel
theorem dX4_gather_163 : decode cX4_gather 163 = .ok (.laload, 1) := by decide +kernel
theorem dX4_gather_164 : decode cX4_gather 164 = .ok (.ladd, 1) := by decide +kernel
theorem dX4_gather_165 : decode cX4_gather 165 = .ok (.putfield 141, 3) := by decide +kernel
theorem dX4_gather_168 : decode cX4_gather 168 = .ok (.aload_n 0, 1) := by decide +kernel
theorem dX4_gather_169 : decode cX4_gather 169 = .ok (.dup, 1) := by decide +kernel
theorem dX4_gather_170 : decode cX4_gather 170 = .ok (.getfield 144, 3) := by decide +kernel
theorem dX4_gather_173 : decode cX4_gather 173 = .ok (.lload 6, 2) := by decide +kernel
theorem dX4_gather_175 : decode cX4_gather 175 = .ok (.aload_n 0, 1) := by decide +kernel
theorem dX4_gather_176 : decode cX4_gather 176 = .ok (.getfield 36, 3) := by decide +kernel
theorem dX4_gather_179 : decode cX4_gather 179 = .ok (.getfield 154, 3) := by decide +kernel
theorem dX4_gather_182 : decode cX4_gather 182 = .ok (.iload_n 2, 1) := by decide +kernel
theorem dX4_gather_183 : decode cX4_gather 183 = .ok (.laload, 1) := by decide +kernel
theorem dX4_gather_184 : decode cX4_gather 184 = .ok (.lmul, 1) := by decide +kernel
theorem dX4_gather_185 : decode cX4_gather 185 = .ok (.ladd, 1) := by decide +kernel
theorem dX4_gather_186 : decode cX4_gather 186 = .ok (.putfield 144, 3) := by decide +kernel
theorem dX4_gather_189 : decode cX4_gather 189 = .ok (.goto 19, 3) := by decide +kernel
theorem dX4_gather_192 : decode cX4_gather 192 = .ok (.iload 14, 2) := by decide +kernel
theorem dX4_gather_194 : decode cX4_gather 194 = .ok (.ifCond .eq 14, 3) := by decide +kernel
theorem dX4_gather_197 : decode cX4_gather 197 = .ok (.aload_n 0, 1) := by decide +kernel
theorem dX4_gather_198 : decode cX4_gather 198 = .ok (.iload_n 1, 1) := by decide +kernel
theorem dX4_gather_199 : decode cX4_gather 199 = .ok (.iload_n 2, 1) := by decide +kernel
theorem dX4_gather_200 : decode cX4_gather 200 = .ok (.iload_n 3, 1) := by decide +kernel
theorem dX4_gather_201 : decode cX4_gather 201 = .ok (.lload 4, 2) := by decide +kernel
theorem dX4_gather_203 : decode cX4_gather 203 = .ok (.lload 6, 2) := by decide +kernel
theorem dX4_gather_205 : decode cX4_gather 205 = .ok (.invokestatic 157, 3) := by decide +kernel
theorem dX4_gather_208 : decode cX4_gather 208 = .ok (.return_, 1) := by decide +kernel
theorem dX4_gatherBehind_0 : decode cX4_gatherBehind 0 = .ok (.aload_n 0, 1) := by decide +kernel
theorem dX4_gatherBehind_1 : decode cX4_gatherBehind 1 = .ok (.getfield 36, 3) := by decide +kernel
theorem dX4_gatherBehind_4 : decode cX4_gatherBehind 4 = .ok (.astore 8, 2) := by decide +kernel
theorem dX4_gatherBehind_6 : decode cX4_gatherBehind 6 = .ok (.aload 8, 2) := by decide +kernel
theorem dX4_gatherBehind_8 : decode cX4_gatherBehind 8 = .ok (.iload_n 2, 1) := by decide +kernel
theorem dX4_gatherBehind_9 : decode cX4_gatherBehind 9 = .ok (.iconst 1, 1) := by decide +kernel
theorem dX4_gatherBehind_10 : decode cX4_gatherBehind 10 = .ok (.iadd, 1) := by decide +kernel
theorem dX4_gatherBehind_11 : decode cX4_gatherBehind 11 = .ok (.invokevirtual 97, 3) := by decide +kernel
theorem dX4_gatherBehind_14 : decode cX4_gatherBehind 14 = .ok (.istore 9, 2) := by decide +kernel
theorem dX4_gatherBehind_16 : decode cX4_gatherBehind 16 = .ok (.aload 8, 2) := by decide +kernel
theorem dX4_gatherBehind_18 : decode cX4_gatherBehind 18 = .ok (.iload_n 2, 1) := by decide +kernel
theorem dX4_gatherBehind_19 : decode cX4_gatherBehind 19 = .ok (.invokevirtual 97, 3) := by decide +kernel
theorem dX4_gatherBehind_22 : decode cX4_gatherBehind 22 = .ok (.istore 10, 2) := by decide +kernel
theorem dX4_gatherBehind_24 : decode cX4_gatherBehind 24 = .ok (.iload 10, 2) := by decide +kernel
theorem dX4_gatherBehind_26 : decode cX4_gatherBehind 26 = .ok (.iload 9, 2) := by decide +kernel
theorem dX4_gatherBehind_28 : decode cX4_gatherBehind 28 = .ok (.if_icmp .ge 89, 3) := by decide +kernel
theorem dX4_gatherBehind_31 : decode cX4_gatherBehind 31 = .ok (.aload 8, 2) := by decide +kernel
theorem dX4_gatherBehind_33 : decode cX4_gatherBehind 33 = .ok (.getfield 130, 3) := by decide +kernel
theorem dX4_gatherBehind_36 : decode cX4_gatherBehind 36 = .ok (.iload 10, 2) := by decide +kernel
theorem dX4_gatherBehind_38 : decode cX4_gatherBehind 38 = .ok (.iaload, 1) := by decide +kernel
theorem dX4_gatherBehind_39 : decode cX4_gatherBehind 39 = .ok (.istore 11, 2) := by decide +kernel
theorem dX4_gatherBehind_41 : decode cX4_gatherBehind 41 = .ok (.iload 11, 2) := by decide +kernel
theorem dX4_gatherBehind_43 : decode cX4_gatherBehind 43 = .ok (.iload_n 2, 1) := by decide +kernel
theorem dX4_gatherBehind_44 : decode cX4_gatherBehind 44 = .ok (.if_icmp .le 67, 3) := by decide +kernel
theorem dX4_gatherBehind_47 : decode cX4_gatherBehind 47 = .ok (.aload 8, 2) := by decide +kernel
theorem dX4_gatherBehind_49 : decode cX4_gatherBehind 49 = .ok (.iload 11, 2) := by decide +kernel
theorem dX4_gatherBehind_51 : decode cX4_gatherBehind 51 = .ok (.invokevirtual 100, 3) := by decide +kernel
theorem dX4_gatherBehind_54 : decode cX4_gatherBehind 54 = .ok (.lconst 0, 1) := by decide +kernel
theorem dX4_gatherBehind_55 : decode cX4_gatherBehind 55 = .ok (.lcmp, 1) := by decide +kernel
theorem dX4_gatherBehind_56 : decode cX4_gatherBehind 56 = .ok (.ifCond .le 55, 3) := by decide +kernel
theorem dX4_gatherBehind_59 : decode cX4_gatherBehind 59 = .ok (.aload 8, 2) := by decide +kernel
theorem dX4_gatherBehind_61 : decode cX4_gatherBehind 61 = .ok (.iload_n 1, 1) := by decide +kernel
theorem dX4_gatherBehind_62 : decode cX4_gatherBehind 62 = .ok (.iload 10, 2) := by decide +kernel
theorem dX4_gatherBehind_64 : decode cX4_gatherBehind 64 = .ok (.invokevirtual 60, 3) := by decide +kernel
theorem dX4_gatherBehind_67 : decode cX4_gatherBehind 67 = .ok (.lstore 12, 2) := by decide +kernel
theorem dX4_gatherBehind_69 : decode cX4_gatherBehind 69 = .ok (.iload_n 1, 1) := by decide +kernel
theorem dX4_gatherBehind_70 : decode cX4_gatherBehind 70 = .ok (.ifCond .ne 8, 3) := by decide +kernel
theorem dX4_gatherBehind_73 : decode cX4_gatherBehind 73 = .ok (.lload 12, 2) := by decide +kernel
theorem dX4_gatherBehind_75 : decode cX4_gatherBehind 75 = .ok (.goto 11, 3) := by decide +kernel
theorem dX4_gatherBehind_78 : decode cX4_gatherBehind 78 = .ok (.aload 8, 2) := by decide +kernel
theorem dX4_gatherBehind_80 : decode cX4_gatherBehind 80 = .ok (.iconst 0, 1) := by decide +kernel
theorem dX4_gatherBehind_81 : decode cX4_gatherBehind 81 = .ok (.iload 10, 2) := by decide +kernel
theorem dX4_gatherBehind_83 : decode cX4_gatherBehind 83 = .ok (.invokevirtual 60, 3) := by decide +kernel
theorem dX4_gatherBehind_86 : decode cX4_gatherBehind 86 = .ok (.lstore 14, 2) := by decide +kernel
theorem dX4_gatherBehind_88 : decode cX4_gatherBehind 88 = .ok (.aload_n 0, 1) := by decide +kernel
theorem dX4_gatherBehind_89 : decode cX4_gatherBehind 89 = .ok (.iload_n 1, 1) := by decide +kernel
theorem dX4_gatherBehind_90 : decode cX4_gatherBehind 90 = .ok (.iload 11, 2) := by decide +kernel
theorem dX4_gatherBehind_92 : decode cX4_gatherBehind 92 = .ok (.iload_n 3, 1) := by decide +kernel
theorem dX4_gatherBehind_93 : decode cX4_gatherBehind 93 = .ok (.iconst 1, 1) := by decide +kernel
theorem dX4_gatherBehind_94 : decode cX4_gatherBehind 94 = .ok (.iadd, 1) := by decide +kernel
theorem dX4_gatherBehind_95 : decode cX4_gatherBehind 95 = .ok (.iload_n 1, 1) := by decide +kernel
theorem dX4_gatherBehind_96 : decode cX4_gatherBehind 96 = .ok (.lload 4, 2) := by decide +kernel
theorem dX4_gatherBehind_98 : decode cX4_gatherBehind 98 = .ok (.lload 12, 2) := by decide +kernel
theorem dX4_gatherBehind_100 : decode cX4_gatherBehind 100 = .ok (.invokestatic 64, 3) := by decide +kernel
theorem dX4_gatherBehind_103 : decode cX4_gatherBehind 103 = .ok (.lload 6, 2) := by decide +kernel
theorem dX4_gatherBehind_105 : decode cX4_gatherBehind 105 = .ok (.lload 14, 2) := by decide +kernel
theorem dX4_gatherBehind_107 : decode cX4_gatherBehind 107 = .ok (.lmul, 1) := by decide +kernel
theorem dX4_gatherBehind_108 : decode cX4_gatherBehind 108 = .ok (.invokestatic 147, 3) := by decide +kernel
theorem dX4_gatherBehind_111 : decode cX4_gatherBehind 111 = .ok (.iinc 10 1, 3) := by decide +kernel
theorem dX4_gatherBehind_114 : decode cX4_gatherBehind 114 = .ok (.goto (-90), 3) := by decide +kernel
theorem dX4_gatherBehind_117 : decode cX4_gatherBehind 117 = .ok (.return_, 1) := by decide +kernel
theorem dX5_init_0 : decode cX5_init 0 = .ok (.aload_n 0, 1) := by decide +kernel
theorem dX5_init_1 : decode cX5_init 1 = .ok (.invokespecial 3, 3) := by decide +kernel
theorem dX5_init_4 : decode cX5_init 4 = .ok (.aload_n 0, 1) := by decide +kernel
theorem dX5_init_5 : decode cX5_init 5 = .ok (.sipush 264, 3) := by decide +kernel
theorem dX5_init_8 : decode cX5_init 8 = .ok (.newarray .long, 2) := by decide +kernel
theorem dX5_init_10 : decode cX5_init 10 = .ok (.putfield 9, 3) := by decide +kernel
theorem dX5_init_13 : decode cX5_init 13 = .ok (.aload_n 0, 1) := by decide +kernel
theorem dX5_init_14 : decode cX5_init 14 = .ok (.sipush 264, 3) := by decide +kernel
theorem dX5_init_17 : decode cX5_init 17 = .ok (.newarray .int, 2) := by decide +kernel
theorem dX5_init_19 : decode cX5_init 19 = .ok (.putfield 13, 3) := by decide +kernel
theorem dX5_init_22 : decode cX5_init 22 = .ok (.aload_n 0, 1) := by decide +kernel
theorem dX5_init_23 : decode cX5_init 23 = .ok (.sipush 264, 3) := by decide +kernel
theorem dX5_init_26 : decode cX5_init 26 = .ok (.newarray .int, 2) := by decide +kernel
theorem dX5_init_28 : decode cX5_init 28 = .ok (.putfield 17, 3) := by decide +kernel
theorem dX5_init_31 : decode cX5_init 31 = .ok (.aload_n 0, 1) := by decide +kernel
theorem dX5_init_32 : decode cX5_init 32 = .ok (.sipush 264, 3) := by decide +kernel
theorem dX5_init_35 : decode cX5_init 35 = .ok (.newarray .int, 2) := by decide +kernel
theorem dX5_init_37 : decode cX5_init 37 = .ok (.putfield 20, 3) := by decide +kernel
theorem dX5_init_40 : decode cX5_init 40 = .ok (.return_, 1) := by decide +kernel
theorem dX5_make_0 : decode cX5_make 0 = .ok (.aload_n 0, 1) := by decide +kernel
theorem dX5_make_1 : decode cX5_make 1 = .ok (.iconst 0, 1) := by decide +kernel
theorem dX5_make_2 : decode cX5_make 2 = .ok (.putfield 23, 3) := by decide +kernel
theorem dX5_make_5 : decode cX5_make 5 = .ok (.aload_n 0, 1) := by decide +kernel
theorem dX5_make_6 : decode cX5_make 6 = .ok (.aload_n 1, 1) := by decide +kernel
theorem dX5_make_7 : decode cX5_make 7 = .ok (.getfield 27, 3) := by decide +kernel
theorem dX5_make_10 : decode cX5_make 10 = .ok (.aload_n 1, 1) := by decide +kernel
theorem dX5_make_11 : decode cX5_make 11 = .ok (.getfield 27, 3) := by decide +kernel
theorem dX5_make_14 : decode cX5_make 14 = .ok (.iconst 1, 1) := by decide +kernel
theorem dX5_make_15 : decode cX5_make 15 = .ok (.isub, 1) := by decide +kernel
theorem dX5_make_16 : decode cX5_make 16 = .ok (.imul, 1) := by decide +kernel
theorem dX5_make_17 : decode cX5_make 17 = .ok (.aload_n 1, 1) := by decide +kernel
theorem dX5_make_18 : decode cX5_make 18 = .ok (.getfield 32, 3) := by decide +kernel
theorem dX5_make_21 : decode cX5_make 21 = .ok (.imul, 1) := by decide +kernel
theorem dX5_make_22 : decode cX5_make 22 = .ok (.aload_n 1, 1) := by decide +kernel
theorem dX5_make_23 : decode cX5_make 23 = .ok (.getfield 32, 3) := by decide +kernel
theorem dX5_make_26 : decode cX5_make 26 = .ok (.iconst 1, 1) := by decide +kernel
theorem dX5_make_27 : decode cX5_make 27 = .ok (.isub, 1) := by decide +kernel
theorem dX5_make_28 : decode cX5_make 28 = .ok (.imul, 1) := by decide +kernel
theorem dX5_make_29 : decode cX5_make 29 = .ok (.putfield 35, 3) := by decide +kernel
theorem dX5_make_32 : decode cX5_make 32 = .ok (.iconst 0, 1) := by decide +kernel
theorem dX5_make_33 : decode cX5_make 33 = .ok (.istore_n 2, 1) := by decide +kernel
theorem dX5_make_34 : decode cX5_make 34 = .ok (.iload_n 2, 1) := by decide +kernel
theorem dX5_make_35 : decode cX5_make 35 = .ok (.aload_n 1, 1) := by decide +kernel
theorem dX5_make_36 : decode cX5_make 36 = .ok (.getfield 27, 3) := by decide +kernel
theorem dX5_make_39 : decode cX5_make 39 = .ok (.if_icmp .ge 34, 3) := by decide +kernel
theorem dX5_make_42 : decode cX5_make 42 = .ok (.iload_n 2, 1) := by decide +kernel
theorem dX5_make_43 : decode cX5_make 43 = .ok (.iconst 1, 1) := by decide +kernel
theorem dX5_make_44 : decode cX5_make 44 = .ok (.iadd, 1) := by decide +kernel
theorem dX5_make_45 : decode cX5_make 45 = .ok (.istore_n 3, 1) := by decide +kernel
theorem dX5_make_46 : decode cX5_make 46 = .ok (.iload_n 3, 1) := by decide +kernel
theorem dX5_make_47 : decode cX5_make 47 = .ok (.aload_n 1, 1) := by decide +kernel
theorem dX5_make_48 : decode cX5_make 48 = .ok (.getfield 27, 3) := by decide +kernel
theorem dX5_make_51 : decode cX5_make 51 = .ok (.if_icmp .ge 16, 3) := by decide +kernel
theorem dX5_make_54 : decode cX5_make 54 = .ok (.aload_n 0, 1) := by decide +kernel
theorem dX5_make_55 : decode cX5_make 55 = .ok (.aload_n 1, 1) := by decide +kernel
theorem dX5_make_56 : decode cX5_make 56 = .ok (.iload_n 2, 1) := by decide +kernel
theorem dX5_make_57 : decode cX5_make 57 = .ok (.iload_n 3, 1) := by decide +kernel
theorem dX5_make_58 : decode cX5_make 58 = .ok (.invokevirtual 38, 3) := by decide +kernel
theorem dX5_make_61 : decode cX5_make 61 = .ok (.iinc 3 1, 3) := by decide +kernel
theorem dX5_make_64 : decode cX5_make 64 = .ok (.goto (-18), 3) := by decide +kernel
theorem dX5_make_67 : decode cX5_make 67 = .ok (.iinc 2 1, 3) := by decide +kernel
theorem dX5_make_70 : decode cX5_make 70 = .ok (.goto (-36), 3) := by decide +kernel
theorem dX5_make_73 : decode cX5_make 73 = .ok (.aload_n 0, 1) := by decide +kernel
theorem dX5_make_74 : decode cX5_make 74 = .ok (.aload_n 0, 1) := by decide +kernel
theorem dX5_make_75 : decode cX5_make 75 = .ok (.getfield 23, 3) := by decide +kernel
theorem dX5_make_78 : decode cX5_make 78 = .ok (.putfield 42, 3) := by decide +kernel
theorem dX5_make_81 : decode cX5_make 81 = .ok (.iconst 0, 1) := by decide +kernel
theorem dX5_make_82 : decode cX5_make 82 = .ok (.istore_n 2, 1) := by decide +kernel
theorem dX5_make_83 : decode cX5_make 83 = .ok (.iload_n 2, 1) := by decide +kernel
theorem dX5_make_84 : decode cX5_make 84 = .ok (.aload_n 1, 1) := by decide +kernel
theorem dX5_make_85 : decode cX5_make 85 = .ok (.getfield 27, 3) := by decide +kernel
theorem dX5_make_88 : decode cX5_make 88 = .ok (.if_icmp .ge 56, 3) := by decide +kernel
theorem dX5_make_91 : decode cX5_make 91 = .ok (.iload_n 2, 1) := by decide +kernel
theorem dX5_make_92 : decode cX5_make 92 = .ok (.iconst 1, 1) := by decide +kernel
theorem dX5_make_93 : decode cX5_make 93 = .ok (.iadd, 1) := by decide +kernel
theorem dX5_make_94 : decode cX5_make 94 = .ok (.istore_n 3, 1) := by decide +kernel
theorem dX5_make_95 : decode cX5_make 95 = .ok (.iload_n 3, 1) := by decide +kernel
theorem dX5_make_96 : decode cX5_make 96 = .ok (.aload_n 1, 1) := by decide +kernel
theorem dX5_make_97 : decode cX5_make 97 = .ok (.getfield 27, 3) := by decide +kernel
theorem dX5_make_100 : decode cX5_make 100 = .ok (.if_icmp .ge 38, 3) := by decide +kernel
theorem dX5_make_103 : decode cX5_make 103 = .ok (.iload_n 2, 1) := by decide +kernel
theorem dX5_make_104 : decode cX5_make 104 = .ok (.iconst 1, 1) := by decide +kernel
theorem dX5_make_105 : decode cX5_make 105 = .ok (.iadd, 1) := by decide +kernel
theorem dX5_make_106 : decode cX5_make 106 = .ok (.istore 4, 2) := by decide +kernel
theorem dX5_make_108 : decode cX5_make 108 = .ok (.iload 4, 2) := by decide +kernel
theorem dX5_make_110 : decode cX5_make 110 = .ok (.aload_n 1, 1) := by decide +kernel
theorem dX5_make_111 : decode cX5_make 111 = .ok (.getfield 27, 3) := by decide +kernel
theorem dX5_make_114 : decode cX5_make 114 = .ok (.if_icmp .ge 18, 3) := by decide +kernel
theorem dX5_make_117 : decode cX5_make 117 = .ok (.aload_n 0, 1) := by decide +kernel
theorem dX5_make_118 : decode cX5_make 118 = .ok (.aload_n 1, 1) := by decide +kernel
theorem dX5_make_119 : decode cX5_make 119 = .ok (.iload_n 2, 1) := by decide +kernel
theorem dX5_make_120 : decode cX5_make 120 = .ok (.iload_n 3, 1) := by decide +kernel
theorem dX5_make_121 : decode cX5_make 121 = .ok (.iload 4, 2) := by decide +kernel
theorem dX5_make_123 : decode cX5_make 123 = .ok (.invokevirtual 45, 3) := by decide +kernel
theorem dX5_make_126 : decode cX5_make 126 = .ok (.iinc 4 1, 3) := by decide +kernel
theorem dX5_make_129 : decode cX5_make 129 = .ok (.goto (-21), 3) := by decide +kernel
theorem dX5_make_132 : decode cX5_make 132 = .ok (.iinc 3 1, 3) := by decide +kernel
theorem dX5_make_135 : decode cX5_make 135 = .ok (.goto (-40), 3) := by decide +kernel
theorem dX5_make_138 : decode cX5_make 138 = .ok (.iinc 2 1, 3) := by decide +kernel
theorem dX5_make_141 : decode cX5_make 141 = .ok (.goto (-58), 3) := by decide +kernel
theorem dX5_make_144 : decode cX5_make 144 = .ok (.return_, 1) := by decide +kernel
theorem dX5_addSwaps_0 : decode cX5_addSwaps 0 = .ok (.iconst 0, 1) := by decide +kernel
theorem dX5_addSwaps_1 : decode cX5_addSwaps 1 = .ok (.istore 4, 2) := by decide +kernel
theorem dX5_addSwaps_3 : decode cX5_addSwaps 3 = .ok (.iload 4, 2) := by decide +kernel
theorem dX5_addSwaps_5 : decode cX5_addSwaps 5 = .ok (.aload_n 1, 1) := by decide +kernel
theorem dX5_addSwaps_6 : decode cX5_addSwaps 6 = .ok (.getfield 32, 3) := by decide +kernel
theorem dX5_addSwaps_9 : decode cX5_addSwaps 9 = .ok (.if_icmp .ge 117, 3) := by decide +kernel
theorem dX5_addSwaps_12 : decode cX5_addSwaps 12 = .ok (.iconst 0, 1) := by decide +kernel
theorem dX5_addSwaps_13 : decode cX5_addSwaps 13 = .ok (.istore 5, 2) := by decide +kernel
theorem dX5_addSwaps_15 : decode cX5_addSwaps 15 = .ok (.iload 5, 2) := by decide +kernel
theorem dX5_addSwaps_17 : decode cX5_addSwaps 17 = .ok (.aload_n 1, 1) := by decide +kernel
theorem dX5_addSwaps_18 : decode cX5_addSwaps 18 = .ok (.getfield 32, 3) := by decide +kernel
theorem dX5_addSwaps_21 : decode cX5_addSwaps 21 = .ok (.if_icmp .ge 99, 3) := by decide +kernel
theorem dX5_addSwaps_24 : decode cX5_addSwaps 24 = .ok (.aload_n 1, 1) := by decide +kernel
theorem dX5_addSwaps_25 : decode cX5_addSwaps 25 = .ok (.iload_n 2, 1) := by decide +kernel
theorem dX5_addSwaps_26 : decode cX5_addSwaps 26 = .ok (.iload 4, 2) := by decide +kernel
theorem dX5_addSwaps_28 : decode cX5_addSwaps 28 = .ok (.invokevirtual 49, 3) := by decide +kernel
theorem dX5_addSwaps_31 : decode cX5_addSwaps 31 = .ok (.ifCond .ne 37, 3) := by decide +kernel
theorem dX5_addSwaps_34 : decode cX5_addSwaps 34 = .ok (.aload_n 1, 1) := by decide +kernel
theorem dX5_addSwaps_35 : decode cX5_addSwaps 35 = .ok (.iload_n 2, 1) := by decide +kernel
theorem dX5_addSwaps_36 : decode cX5_addSwaps 36 = .ok (.iload 5, 2) := by decide +kernel
theorem dX5_addSwaps_38 : decode cX5_addSwaps 38 = .ok (.invokevirtual 49, 3) := by decide +kernel
theorem dX5_addSwaps_41 : decode cX5_addSwaps 41 = .ok (.ifCond .ne 27, 3) := by decide +kernel
theorem dX5_addSwaps_44 : decode cX5_addSwaps 44 = .ok (.aload_n 1, 1) := by decide +kernel
theorem dX5_addSwaps_45 : decode cX5_addSwaps 45 = .ok (.iload_n 3, 1) := by decide +kernel
theorem dX5_addSwaps_46 : decode cX5_addSwaps 46 = .ok (.iload 4, 2) := by decide +kernel
theorem dX5_addSwaps_48 : decode cX5_addSwaps 48 = .ok (.invokevirtual 49, 3) := by decide +kernel
theorem dX5_addSwaps_51 : decode cX5_addSwaps 51 = .ok (.ifCond .ne 17, 3) := by decide +kernel
theorem dX5_addSwaps_54 : decode cX5_addSwaps 54 = .ok (.aload_n 1, 1) := by decide +kernel
theorem dX5_addSwaps_55 : decode cX5_addSwaps 55 = .ok (.iload_n 3, 1) := by decide +kernel
theorem dX5_addSwaps_56 : decode cX5_addSwaps 56 = .ok (.iload 5, 2) := by decide +kernel
theorem dX5_addSwaps_58 : decode cX5_addSwaps 58 = .ok (.invokevirtual 49, 3) := by decide +kernel
theorem dX5_addSwaps_61 : decode cX5_addSwaps 61 = .ok (.ifCond .ne 7, 3) := by decide +kernel
theorem dX5_addSwaps_64 : decode cX5_addSwaps 64 = .ok (.iconst 1, 1) := by decide +kernel
theorem dX5_addSwaps_65 : decode cX5_addSwaps 65 = .ok (.goto 4, 3) := by decide +kernel
theorem dX5_addSwaps_68 : decode cX5_addSwaps 68 = .ok (.iconst 0, 1) := by decide +kernel
theorem dX5_addSwaps_69 : decode cX5_addSwaps 69 = .ok (.istore 6, 2) := by decide +kernel
theorem dX5_addSwaps_71 : decode cX5_addSwaps 71 = .ok (.iload 4, 2) := by decide +kernel
theorem dX5_addSwaps_73 : decode cX5_addSwaps 73 = .ok (.iload 5, 2) := by decide +kernel
theorem dX5_addSwaps_75 : decode cX5_addSwaps 75 = .ok (.if_icmp .eq 39, 3) := by decide +kernel
theorem dX5_addSwaps_78 : decode cX5_addSwaps 78 = .ok (.iload 6, 2) := by decide +kernel
theorem dX5_addSwaps_80 : decode cX5_addSwaps 80 = .ok (.ifCond .eq 34, 3) := by decide +kernel
theorem dX5_addSwaps_83 : decode cX5_addSwaps 83 = .ok (.iload_n 3, 1) := by decide +kernel
theorem dX5_addSwaps_84 : decode cX5_addSwaps 84 = .ok (.iload 4, 2) := by decide +kernel
theorem dX5_addSwaps_86 : decode cX5_addSwaps 86 = .ok (.invokestatic 53, 3) := by decide +kernel
theorem dX5_addSwaps_89 : decode cX5_addSwaps 89 = .ok (.istore 7, 2) := by decide +kernel
theorem dX5_addSwaps_91 : decode cX5_addSwaps 91 = .ok (.aload_n 0, 1) := by decide +kernel
theorem dX5_addSwaps_92 : decode cX5_addSwaps 92 = .ok (.iload_n 2, 1) := by decide +kernel
theorem dX5_addSwaps_93 : decode cX5_addSwaps 93 = .ok (.iload_n 3, 1) := by decide +kernel
theorem dX5_addSwaps_94 : decode cX5_addSwaps 94 = .ok (.iload 4, 2) := by decide +kernel
theorem dX5_addSwaps_96 : decode cX5_addSwaps 96 = .ok (.iload 5, 2) := by decide +kernel
theorem dX5_addSwaps_98 : decode cX5_addSwaps 98 = .ok (.invokestatic 59, 3) := by decide +kernel
theorem dX5_addSwaps_101 : decode cX5_addSwaps 101 = .ok (.iload_n 2, 1) := by decide +kernel
theorem dX5_addSwaps_102 : decode cX5_addSwaps 102 = .ok (.iload 5, 2) := by decide +kernel
theorem dX5_addSwaps_104 : decode cX5_addSwaps 104 = .ok (.invokestatic 53, 3) := by decide +kernel
theorem dX5_addSwaps_107 : decode cX5_addSwaps 107 = .ok (.iload 7, 2) := by decide +kernel
theorem dX5_addSwaps_109 : decode cX5_addSwaps 109 = .ok (.iload 7, 2) := by decide +kernel
theorem dX5_addSwaps_111 : decode cX5_addSwaps 111 = .ok (.invokevirtual 63, 3) := by decide +kernel
theorem dX5_addSwaps_114 : decode cX5_addSwaps 114 = .ok (.iinc 5 1, 3) := by decide +kernel
theorem dX5_addSwaps_117 : decode cX5_addSwaps 117 = .ok (.goto (-102), 3) := by decide +kernel
theorem dX5_addSwaps_120 : decode cX5_addSwaps 120 = .ok (.iinc 4 1, 3) := by decide +kernel
theorem dX5_addSwaps_123 : decode cX5_addSwaps 123 = .ok (.goto (-120), 3) := by decide +kernel
theorem dX5_addSwaps_126 : decode cX5_addSwaps 126 = .ok (.return_, 1) := by decide +kernel
theorem dX5_addTurns_0 : decode cX5_addTurns 0 = .ok (.iconst 0, 1) := by decide +kernel
theorem dX5_addTurns_1 : decode cX5_addTurns 1 = .ok (.istore 5, 2) := by decide +kernel
theorem dX5_addTurns_3 : decode cX5_addTurns 3 = .ok (.iload 5, 2) := by decide +kernel
theorem dX5_addTurns_5 : decode cX5_addTurns 5 = .ok (.aload_n 1, 1) := by decide +kernel
theorem dX5_addTurns_6 : decode cX5_addTurns 6 = .ok (.getfield 32, 3) := by decide +kernel
theorem dX5_addTurns_9 : decode cX5_addTurns 9 = .ok (.if_icmp .ge 220, 3) := by decide +kernel
theorem dX5_addTurns_12 : decode cX5_addTurns 12 = .ok (.iload_n 3, 1) := by decide +kernel
theorem dX5_addTurns_13 : decode cX5_addTurns 13 = .ok (.iload 4, 2) := by decide +kernel
theorem dX5_addTurns_15 : decode cX5_addTurns 15 = .ok (.if_icmp .eq 214, 3) := by decide +kernel
theorem dX5_addTurns_18 : decode cX5_addTurns 18 = .ok (.iconst 0, 1) := by decide +kernel
theorem dX5_addTurns_19 : decode cX5_addTurns 19 = .ok (.istore 6, 2) := by decide +kernel
theorem dX5_addTurns_21 : decode cX5_addTurns 21 = .ok (.iload 6, 2) := by decide +kernel
theorem dX5_addTurns_23 : decode cX5_addTurns 23 = .ok (.aload_n 1, 1) := by decide +kernel
theorem dX5_addTurns_24 : decode cX5_addTurns 24 = .ok (.getfield 32, 3) := by decide +kernel
theorem dX5_addTurns_27 : decode cX5_addTurns 27 = .ok (.if_icmp .ge 196, 3) := by decide +kernel
theorem dX5_addTurns_30 : decode cX5_addTurns 30 = .ok (.iconst 0, 1) := by decide +kernel
theorem dX5_addTurns_31 : decode cX5_addTurns 31 = .ok (.istore 7, 2) := by decide +kernel
theorem dX5_addTurns_33 : decode cX5_addTurns 33 = .ok (.iload 7, 2) := by decide +kernel
theorem dX5_addTurns_35 : decode cX5_addTurns 35 = .ok (.aload_n 1, 1) := by decide +kernel
theorem dX5_addTurns_36 : decode cX5_addTurns 36 = .ok (.getfield 32, 3) := by decide +kernel
theorem dX5_addTurns_39 : decode cX5_addTurns 39 = .ok (.if_icmp .ge 178, 3) := by decide +kernel
theorem dX5_addTurns_42 : decode cX5_addTurns 42 = .ok (.aload_n 1, 1) := by decide +kernel
theorem dX5_addTurns_43 : decode cX5_addTurns 43 = .ok (.iload_n 2, 1) := by decide +kernel
theorem dX5_addTurns_44 : decode cX5_addTurns 44 = .ok (.iload 5, 2) := by decide +kernel
theorem dX5_addTurns_46 : decode cX5_addTurns 46 = .ok (.invokevirtual 49, 3) := by decide +kernel
theorem dX5_addTurns_49 : decode cX5_addTurns 49 = .ok (.ifCond .ne 59, 3) := by decide +kernel
theorem dX5_addTurns_52 : decode cX5_addTurns 52 = .ok (.aload_n 1, 1) := by decide +kernel
theorem dX5_addTurns_53 : decode cX5_addTurns 53 = .ok (.iload_n 2, 1) := by decide +kernel
theorem dX5_addTurns_54 : decode cX5_addTurns 54 = .ok (.iload 6, 2) := by decide +kernel
theorem dX5_addTurns_56 : decode cX5_addTurns 56 = .ok (.invokevirtual 49, 3) := by decide +kernel
theorem dX5_addTurns_59 : decode cX5_addTurns 59 = .ok (.ifCond .ne 49, 3) := by decide +kernel
theorem dX5_addTurns_62 : decode cX5_addTurns 62 = .ok (.aload_n 1, 1) := by decide +kernel
theorem dX5_addTurns_63 : decode cX5_addTurns 63 = .ok (.iload_n 3, 1) := by decide +kernel
theorem dX5_addTurns_64 : decode cX5_addTurns 64 = .ok (.iload 6, 2) := by decide +kernel
theorem dX5_addTurns_66 : decode cX5_addTurns 66 = .ok (.invokevirtual 49, 3) := by decide +kernel
theorem dX5_addTurns_69 : decode cX5_addTurns 69 = .ok (.ifCond .ne 39, 3) := by decide +kernel
theorem dX5_addTurns_72 : decode cX5_addTurns 72 = .ok (.aload_n 1, 1) := by decide +kernel
theorem dX5_addTurns_73 : decode cX5_addTurns 73 = .ok (.iload_n 3, 1) := by decide +kernel
theorem dX5_addTurns_74 : decode cX5_addTurns 74 = .ok (.iload 7, 2) := by decide +kernel
theorem dX5_addTurns_76 : decode cX5_addTurns 76 = .ok (.invokevirtual 49, 3) := by decide +kernel
theorem dX5_addTurns_79 : decode cX5_addTurns 79 = .ok (.ifCond .ne 29, 3) := by decide +kernel
theorem dX5_addTurns_82 : decode cX5_addTurns 82 = .ok (.aload_n 1, 1) := by decide +kernel
theorem dX5_addTurns_83 : decode cX5_addTurns 83 = .ok (.iload 4, 2) := by decide +kernel
theorem dX5_addTurns_85 : decode cX5_addTurns 85 = .ok (.iload 7, 2) := by decide +kernel
theorem dX5_addTurns_87 : decode cX5_addTurns 87 = .ok (.invokevirtual 49, 3) := by decide +kernel
theorem dX5_addTurns_90 : decode cX5_addTurns 90 = .ok (.ifCond .ne 18, 3) := by decide +kernel
theorem dX5_addTurns_93 : decode cX5_addTurns 93 = .ok (.aload_n 1, 1) := by decide +kernel
theorem dX5_addTurns_94 : decode cX5_addTurns 94 = .ok (.iload 4, 2) := by decide +kernel
theorem dX5_addTurns_96 : decode cX5_addTurns 96 = .ok (.iload 5, 2) := by decide +kernel
theorem dX5_addTurns_98 : decode cX5_addTurns 98 = .ok (.invokevirtual 49, 3) := by decide +kernel
theorem dX5_addTurns_101 : decode cX5_addTurns 101 = .ok (.ifCond .ne 7, 3) := by decide +kernel
theorem dX5_addTurns_104 : decode cX5_addTurns 104 = .ok (.iconst 1, 1) := by decide +kernel
theorem dX5_addTurns_105 : decode cX5_addTurns 105 = .ok (.goto 4, 3) := by decide +kernel
theorem dX5_addTurns_108 : decode cX5_addTurns 108 = .ok (.iconst 0, 1) := by decide +kernel
theorem dX5_addTurns_109 : decode cX5_addTurns 109 = .ok (.istore 8, 2) := by decide +kernel
theorem dX5_addTurns_111 : decode cX5_addTurns 111 = .ok (.iload 5, 2) := by decide +kernel
theorem dX5_addTurns_113 : decode cX5_addTurns 113 = .ok (.iload 6, 2) := by decide +kernel
theorem dX5_addTurns_115 : decode cX5_addTurns 115 = .ok (.if_icmp .eq 96, 3) := by decide +kernel
theorem dX5_addTurns_118 : decode cX5_addTurns 118 = .ok (.iload 6, 2) := by decide +kernel
theorem dX5_addTurns_120 : decode cX5_addTurns 120 = .ok (.iload 7, 2) := by decide +kernel
theorem dX5_addTurns_122 : decode cX5_addTurns 122 = .ok (.if_icmp .eq 89, 3) := by decide +kernel
theorem dX5_addTurns_125 : decode cX5_addTurns 125 = .ok (.iload 7, 2) := by decide +kernel
theorem dX5_addTurns_127 : decode cX5_addTurns 127 = .ok (.iload 5, 2) := by decide +kernel
theorem dX5_addTurns_129 : decode cX5_addTurns 129 = .ok (.if_icmp .eq 82, 3) := by decide +kernel
theorem dX5_addTurns_132 : decode cX5_addTurns 132 = .ok (.iload 8, 2) := by decide +kernel
theorem dX5_addTurns_134 : decode cX5_addTurns 134 = .ok (.ifCond .eq 77, 3) := by decide +kernel
theorem dX5_addTurns_137 : decode cX5_addTurns 137 = .ok (.iload_n 2, 1) := by decide +kernel
theorem dX5_addTurns_138 : decode cX5_addTurns 138 = .ok (.iload 5, 2) := by decide +kernel
theorem dX5_addTurns_140 : decode cX5_addTurns 140 = .ok (.invokestatic 67, 3) := by decide +kernel
theorem dX5_addTurns_143 : decode cX5_addTurns 143 = .ok (.iload_n 3, 1) := by decide +kernel
theorem dX5_addTurns_144 : decode cX5_addTurns 144 = .ok (.iload 6, 2) := by decide +kernel
theorem dX5_addTurns_146 : decode cX5_addTurns 146 = .ok (.invokestatic 67, 3) := by decide +kernel
theorem dX5_addTurns_149 : decode cX5_addTurns 149 = .ok (.ladd, 1) := by decide +kernel
theorem dX5_addTurns_150 : decode cX5_addTurns 150 = .ok (.iload 4, 2) := by decide +kernel
theorem dX5_addTurns_152 : decode cX5_addTurns 152 = .ok (.iload 7, 2) := by decide +kernel
theorem dX5_addTurns_154 : decode cX5_addTurns 154 = .ok (.invokestatic 67, 3) := by decide +kernel
theorem dX5_addTurns_157 : decode cX5_addTurns 157 = .ok (.ladd, 1) := by decide +kernel
theorem dX5_addTurns_158 : decode cX5_addTurns 158 = .ok (.lstore 9, 2) := by decide +kernel
theorem dX5_addTurns_160 : decode cX5_addTurns 160 = .ok (.iload_n 2, 1) := by decide +kernel
theorem dX5_addTurns_161 : decode cX5_addTurns 161 = .ok (.iload 6, 2) := by decide +kernel
theorem dX5_addTurns_163 : decode cX5_addTurns 163 = .ok (.invokestatic 67, 3) := by decide +kernel
theorem dX5_addTurns_166 : decode cX5_addTurns 166 = .ok (.iload_n 3, 1) := by decide +kernel
theorem dX5_addTurns_167 : decode cX5_addTurns 167 = .ok (.iload 7, 2) := by decide +kernel
theorem dX5_addTurns_169 : decode cX5_addTurns 169 = .ok (.invokestatic 67, 3) := by decide +kernel
theorem dX5_addTurns_172 : decode cX5_addTurns 172 = .ok (.ladd, 1) := by decide +kernel
theorem dX5_addTurns_173 : decode cX5_addTurns 173 = .ok (.iload 4, 2) := by decide +kernel
theorem dX5_addTurns_175 : decode cX5_addTurns 175 = .ok (.iload 5, 2) := by decide +kernel
theorem dX5_addTurns_177 : decode cX5_addTurns 177 = .ok (.invokestatic 67, 3) := by decide +kernel
theorem dX5_addTurns_180 : decode cX5_addTurns 180 = .ok (.ladd, 1) := by decide +kernel
theorem dX5_addTurns_181 : decode cX5_addTurns 181 = .ok (.lstore 11, 2) := by decide +kernel
theorem dX5_addTurns_183 : decode cX5_addTurns 183 = .ok (.aload_n 0, 1) := by decide +kernel
theorem dX5_addTurns_184 : decode cX5_addTurns 184 = .ok (.lload 9, 2) := by decide +kernel
theorem dX5_addTurns_186 : decode cX5_addTurns 186 = .ok (.lload 11, 2) := by decide +kernel
theorem dX5_addTurns_188 : decode cX5_addTurns 188 = .ok (.lsub, 1) := by decide +kernel
theorem dX5_addTurns_189 : decode cX5_addTurns 189 = .ok (.iload_n 2, 1) := by decide +kernel
theorem dX5_addTurns_190 : decode cX5_addTurns 190 = .ok (.iload 6, 2) := by decide +kernel
theorem dX5_addTurns_192 : decode cX5_addTurns 192 = .ok (.invokestatic 53, 3) := by decide +kernel
theorem dX5_addTurns_195 : decode cX5_addTurns 195 = .ok (.iload_n 3, 1) := by decide +kernel
