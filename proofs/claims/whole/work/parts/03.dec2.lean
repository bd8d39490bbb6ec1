theorem dX5_addTurns_196 : decode cX5_addTurns 196 = .ok (.iload 7, 2) := by decide +kernel
theorem dX5_addTurns_198 : decode cX5_addTurns 198 = .ok (.invokestatic 53, 3) := by decide +kernel
theorem dX5_addTurns_201 : decode cX5_addTurns 201 = .ok (.iload 4, 2) := by decide +kernel
theorem dX5_addTurns_203 : decode cX5_addTurns 203 = .ok (.iload 5, 2) := by decide +kernel
theorem dX5_addTurns_205 : decode cX5_addTurns 205 = .ok (.invokestatic 53, 3) := by decide +kernel
theorem dX5_addTurns_208 : decode cX5_addTurns 208 = .ok (.invokevirtual 63, 3) := by decide +kernel
theorem dX5_addTurns_211 : decode cX5_addTurns 211 = .ok (.iinc 7 1, 3) := by decide +kernel
theorem dX5_addTurns_214 : decode cX5_addTurns 214 = .ok (.goto (-181), 3) := by decide +kernel
theorem dX5_addTurns_217 : decode cX5_addTurns 217 = .ok (.iinc 6 1, 3) := by decide +kernel
theorem dX5_addTurns_220 : decode cX5_addTurns 220 = .ok (.goto (-199), 3) := by decide +kernel
theorem dX5_addTurns_223 : decode cX5_addTurns 223 = .ok (.iinc 5 1, 3) := by decide +kernel
theorem dX5_addTurns_226 : decode cX5_addTurns 226 = .ok (.goto (-223), 3) := by decide +kernel
theorem dX5_addTurns_229 : decode cX5_addTurns 229 = .ok (.return_, 1) := by decide +kernel
theorem dX5_add_0 : decode cX5_add 0 = .ok (.aload_n 0, 1) := by decide +kernel
theorem dX5_add_1 : decode cX5_add 1 = .ok (.getfield 23, 3) := by decide +kernel
theorem dX5_add_4 : decode cX5_add 4 = .ok (.ifCond .lt 13, 3) := by decide +kernel
theorem dX5_add_7 : decode cX5_add 7 = .ok (.aload_n 0, 1) := by decide +kernel
theorem dX5_add_8 : decode cX5_add 8 = .ok (.getfield 23, 3) := by decide +kernel
theorem dX5_add_11 : decode cX5_add 11 = .ok (.sipush 264, 3) := by decide +kernel
theorem dX5_add_14 : decode cX5_add 14 = .ok (.if_icmp .lt 4, 3) := by decide +kernel
theorem dX5_add_17 : decode cX5_add 17 = .ok (.return_, 1) := by decide +kernel
theorem dX5_add_18 : decode cX5_add 18 = .ok (.aload_n 0, 1) := by decide +kernel
theorem dX5_add_19 : decode cX5_add 19 = .ok (.getfield 9, 3) := by decide +kernel
theorem dX5_add_22 : decode cX5_add 22 = .ok (.aload_n 0, 1) := by decide +kernel
theorem dX5_add_23 : decode cX5_add 23 = .ok (.getfield 23, 3) := by decide +kernel
theorem dX5_add_26 : decode cX5_add 26 = .ok (.lload_n 1, 1) := by decide +kernel
theorem dX5_add_27 : decode cX5_add 27 = .ok (.lastore, 1) := by decide +kernel
theorem dX5_add_28 : decode cX5_add 28 = .ok (.aload_n 0, 1) := by decide +kernel
theorem dX5_add_29 : decode cX5_add 29 = .ok (.getfield 13, 3) := by decide +kernel
theorem dX5_add_32 : decode cX5_add 32 = .ok (.aload_n 0, 1) := by decide +kernel
theorem dX5_add_33 : decode cX5_add 33 = .ok (.getfield 23, 3) := by decide +kernel
theorem dX5_add_36 : decode cX5_add 36 = .ok (.iload_n 3, 1) := by decide +kernel
theorem dX5_add_37 : decode cX5_add 37 = .ok (.iastore, 1) := by decide +kernel
theorem dX5_add_38 : decode cX5_add 38 = .ok (.aload_n 0, 1) := by decide +kernel
theorem dX5_add_39 : decode cX5_add 39 = .ok (.getfield 17, 3) := by decide +kernel
theorem dX5_add_42 : decode cX5_add 42 = .ok (.aload_n 0, 1) := by decide +kernel
theorem dX5_add_43 : decode cX5_add 43 = .ok (.getfield 23, 3) := by decide +kernel
theorem dX5_add_46 : decode cX5_add 46 = .ok (.iload 4, 2) := by decide +kernel
theorem dX5_add_48 : decode cX5_add 48 = .ok (.iastore, 1) := by decide +kernel
theorem dX5_add_49 : decode cX5_add 49 = .ok (.aload_n 0, 1) := by decide +kernel
theorem dX5_add_50 : decode cX5_add 50 = .ok (.getfield 20, 3) := by decide +kernel
theorem dX5_add_53 : decode cX5_add 53 = .ok (.aload_n 0, 1) := by decide +kernel
theorem dX5_add_54 : decode cX5_add 54 = .ok (.getfield 23, 3) := by decide +kernel
theorem dX5_add_57 : decode cX5_add 57 = .ok (.iload 5, 2) := by decide +kernel
theorem dX5_add_59 : decode cX5_add 59 = .ok (.iastore, 1) := by decide +kernel
theorem dX5_add_60 : decode cX5_add 60 = .ok (.aload_n 0, 1) := by decide +kernel
theorem dX5_add_61 : decode cX5_add 61 = .ok (.dup, 1) := by decide +kernel
theorem dX5_add_62 : decode cX5_add 62 = .ok (.getfield 23, 3) := by decide +kernel
theorem dX5_add_65 : decode cX5_add 65 = .ok (.iconst 1, 1) := by decide +kernel
theorem dX5_add_66 : decode cX5_add 66 = .ok (.iadd, 1) := by decide +kernel
theorem dX5_add_67 : decode cX5_add 67 = .ok (.putfield 23, 3) := by decide +kernel
theorem dX5_add_70 : decode cX5_add 70 = .ok (.return_, 1) := by decide +kernel
theorem dX5_can_0 : decode cX5_can 0 = .ok (.iload_n 3, 1) := by decide +kernel
theorem dX5_can_1 : decode cX5_can 1 = .ok (.ifCond .lt 53, 3) := by decide +kernel
theorem dX5_can_4 : decode cX5_can 4 = .ok (.iload_n 3, 1) := by decide +kernel
theorem dX5_can_5 : decode cX5_can 5 = .ok (.sipush 264, 3) := by decide +kernel
theorem dX5_can_8 : decode cX5_can 8 = .ok (.if_icmp .ge 46, 3) := by decide +kernel
theorem dX5_can_11 : decode cX5_can 11 = .ok (.lload_n 1, 1) := by decide +kernel
theorem dX5_can_12 : decode cX5_can 12 = .ok (.aload_n 0, 1) := by decide +kernel
theorem dX5_can_13 : decode cX5_can 13 = .ok (.getfield 13, 3) := by decide +kernel
theorem dX5_can_16 : decode cX5_can 16 = .ok (.iload_n 3, 1) := by decide +kernel
theorem dX5_can_17 : decode cX5_can 17 = .ok (.iaload, 1) := by decide +kernel
theorem dX5_can_18 : decode cX5_can 18 = .ok (.invokestatic 71, 3) := by decide +kernel
theorem dX5_can_21 : decode cX5_can 21 = .ok (.ifCond .le 33, 3) := by decide +kernel
theorem dX5_can_24 : decode cX5_can 24 = .ok (.lload_n 1, 1) := by decide +kernel
theorem dX5_can_25 : decode cX5_can 25 = .ok (.aload_n 0, 1) := by decide +kernel
theorem dX5_can_26 : decode cX5_can 26 = .ok (.getfield 17, 3) := by decide +kernel
theorem dX5_can_29 : decode cX5_can 29 = .ok (.iload_n 3, 1) := by decide +kernel
theorem dX5_can_30 : decode cX5_can 30 = .ok (.iaload, 1) := by decide +kernel
theorem dX5_can_31 : decode cX5_can 31 = .ok (.invokestatic 71, 3) := by decide +kernel
theorem dX5_can_34 : decode cX5_can 34 = .ok (.ifCond .le 20, 3) := by decide +kernel
theorem dX5_can_37 : decode cX5_can 37 = .ok (.lload_n 1, 1) := by decide +kernel
theorem dX5_can_38 : decode cX5_can 38 = .ok (.aload_n 0, 1) := by decide +kernel
theorem dX5_can_39 : decode cX5_can 39 = .ok (.getfield 20, 3) := by decide +kernel
theorem dX5_can_42 : decode cX5_can 42 = .ok (.iload_n 3, 1) := by decide +kernel
theorem dX5_can_43 : decode cX5_can 43 = .ok (.iaload, 1) := by decide +kernel
theorem dX5_can_44 : decode cX5_can 44 = .ok (.invokestatic 71, 3) := by decide +kernel
theorem dX5_can_47 : decode cX5_can 47 = .ok (.ifCond .le 7, 3) := by decide +kernel
theorem dX5_can_50 : decode cX5_can 50 = .ok (.iconst 1, 1) := by decide +kernel
theorem dX5_can_51 : decode cX5_can 51 = .ok (.goto 4, 3) := by decide +kernel
theorem dX5_can_54 : decode cX5_can 54 = .ok (.iconst 0, 1) := by decide +kernel
theorem dX5_can_55 : decode cX5_can 55 = .ok (.ireturn, 1) := by decide +kernel
theorem dX5_moved_0 : decode cX5_moved 0 = .ok (.iload_n 3, 1) := by decide +kernel
theorem dX5_moved_1 : decode cX5_moved 1 = .ok (.ifCond .lt 21, 3) := by decide +kernel
theorem dX5_moved_4 : decode cX5_moved 4 = .ok (.iload_n 3, 1) := by decide +kernel
theorem dX5_moved_5 : decode cX5_moved 5 = .ok (.sipush 264, 3) := by decide +kernel
theorem dX5_moved_8 : decode cX5_moved 8 = .ok (.if_icmp .ge 14, 3) := by decide +kernel
theorem dX5_moved_11 : decode cX5_moved 11 = .ok (.lload_n 1, 1) := by decide +kernel
theorem dX5_moved_12 : decode cX5_moved 12 = .ok (.aload_n 0, 1) := by decide +kernel
theorem dX5_moved_13 : decode cX5_moved 13 = .ok (.getfield 9, 3) := by decide +kernel
theorem dX5_moved_16 : decode cX5_moved 16 = .ok (.iload_n 3, 1) := by decide +kernel
theorem dX5_moved_17 : decode cX5_moved 17 = .ok (.laload, 1) := by decide +kernel
theorem dX5_moved_18 : decode cX5_moved 18 = .ok (.ladd, 1) := by decide +kernel
theorem dX5_moved_19 : decode cX5_moved 19 = .ok (.goto 4, 3) := by decide +kernel
theorem dX5_moved_22 : decode cX5_moved 22 = .ok (.lload_n 1, 1) := by decide +kernel
theorem dX5_moved_23 : decode cX5_moved 23 = .ok (.lreturn, 1) := by decide +kernel
theorem dX5_swapsOn_0 : decode cX5_swapsOn 0 = .ok (.iconst 0, 1) := by decide +kernel
theorem dX5_swapsOn_1 : decode cX5_swapsOn 1 = .ok (.istore_n 3, 1) := by decide +kernel
theorem dX5_swapsOn_2 : decode cX5_swapsOn 2 = .ok (.iconst 0, 1) := by decide +kernel
theorem dX5_swapsOn_3 : decode cX5_swapsOn 3 = .ok (.istore 4, 2) := by decide +kernel
theorem dX5_swapsOn_5 : decode cX5_swapsOn 5 = .ok (.iload 4, 2) := by decide +kernel
theorem dX5_swapsOn_7 : decode cX5_swapsOn 7 = .ok (.aload_n 0, 1) := by decide +kernel
theorem dX5_swapsOn_8 : decode cX5_swapsOn 8 = .ok (.getfield 42, 3) := by decide +kernel
theorem dX5_swapsOn_11 : decode cX5_swapsOn 11 = .ok (.if_icmp .ge 22, 3) := by decide +kernel
theorem dX5_swapsOn_14 : decode cX5_swapsOn 14 = .ok (.aload_n 0, 1) := by decide +kernel
theorem dX5_swapsOn_15 : decode cX5_swapsOn 15 = .ok (.lload_n 1, 1) := by decide +kernel
theorem dX5_swapsOn_16 : decode cX5_swapsOn 16 = .ok (.iload 4, 2) := by decide +kernel
theorem dX5_swapsOn_18 : decode cX5_swapsOn 18 = .ok (.invokevirtual 75, 3) := by decide +kernel
theorem dX5_swapsOn_21 : decode cX5_swapsOn 21 = .ok (.ifCond .eq 6, 3) := by decide +kernel
theorem dX5_swapsOn_24 : decode cX5_swapsOn 24 = .ok (.iinc 3 1, 3) := by decide +kernel
theorem dX5_swapsOn_27 : decode cX5_swapsOn 27 = .ok (.iinc 4 1, 3) := by decide +kernel
theorem dX5_swapsOn_30 : decode cX5_swapsOn 30 = .ok (.goto (-25), 3) := by decide +kernel
theorem dX5_swapsOn_33 : decode cX5_swapsOn 33 = .ok (.iload_n 3, 1) := by decide +kernel
theorem dX5_swapsOn_34 : decode cX5_swapsOn 34 = .ok (.ireturn, 1) := by decide +kernel
theorem dX6_init_0 : decode cX6_init 0 = .ok (.aload_n 0, 1) := by decide +kernel
theorem dX6_init_1 : decode cX6_init 1 = .ok (.invokespecial 5, 3) := by decide +kernel
theorem dX6_init_4 : decode cX6_init 4 = .ok (.aload_n 0, 1) := by decide +kernel
theorem dX6_init_5 : decode cX6_init 5 = .ok (.sipush 1000, 3) := by decide +kernel
theorem dX6_init_8 : decode cX6_init 8 = .ok (.newarray .long, 2) := by decide +kernel
theorem dX6_init_10 : decode cX6_init 10 = .ok (.putfield 11, 3) := by decide +kernel
theorem dX6_init_13 : decode cX6_init 13 = .ok (.aload_n 0, 1) := by decide +kernel
theorem dX6_init_14 : decode cX6_init 14 = .ok (.sipush 1001, 3) := by decide +kernel
theorem dX6_init_17 : decode cX6_init 17 = .ok (.newarray .int, 2) := by decide +kernel
theorem dX6_init_19 : decode cX6_init 19 = .ok (.putfield 17, 3) := by decide +kernel
theorem dX6_init_22 : decode cX6_init 22 = .ok (.aload_n 0, 1) := by decide +kernel
theorem dX6_init_23 : decode cX6_init 23 = .ok (.sipush 256, 3) := by decide +kernel
theorem dX6_init_26 : decode cX6_init 26 = .ok (.newarray .int, 2) := by decide +kernel
theorem dX6_init_28 : decode cX6_init 28 = .ok (.putfield 21, 3) := by decide +kernel
theorem dX6_init_31 : decode cX6_init 31 = .ok (.aload_n 0, 1) := by decide +kernel
theorem dX6_init_32 : decode cX6_init 32 = .ok (.sipush 1000, 3) := by decide +kernel
theorem dX6_init_35 : decode cX6_init 35 = .ok (.newarray .int, 2) := by decide +kernel
theorem dX6_init_37 : decode cX6_init 37 = .ok (.putfield 24, 3) := by decide +kernel
theorem dX6_init_40 : decode cX6_init 40 = .ok (.aload_n 0, 1) := by decide +kernel
theorem dX6_init_41 : decode cX6_init 41 = .ok (.sipush 1000, 3) := by decide +kernel
theorem dX6_init_44 : decode cX6_init 44 = .ok (.newarray .int, 2) := by decide +kernel
theorem dX6_init_46 : decode cX6_init 46 = .ok (.putfield 27, 3) := by decide +kernel
theorem dX6_init_49 : decode cX6_init 49 = .ok (.aload_n 0, 1) := by decide +kernel
theorem dX6_init_50 : decode cX6_init 50 = .ok (.sipush 1000, 3) := by decide +kernel
theorem dX6_init_53 : decode cX6_init 53 = .ok (.newarray .int, 2) := by decide +kernel
theorem dX6_init_55 : decode cX6_init 55 = .ok (.putfield 30, 3) := by decide +kernel
theorem dX6_init_58 : decode cX6_init 58 = .ok (.aload_n 0, 1) := by decide +kernel
theorem dX6_init_59 : decode cX6_init 59 = .ok (.sipush 1000, 3) := by decide +kernel
theorem dX6_init_62 : decode cX6_init 62 = .ok (.newarray .int, 2) := by decide +kernel
theorem dX6_init_64 : decode cX6_init 64 = .ok (.putfield 33, 3) := by decide +kernel
theorem dX6_init_67 : decode cX6_init 67 = .ok (.aload_n 0, 1) := by decide +kernel
theorem dX6_init_68 : decode cX6_init 68 = .ok (.sipush 1000, 3) := by decide +kernel
theorem dX6_init_71 : decode cX6_init 71 = .ok (.newarray .long, 2) := by decide +kernel
theorem dX6_init_73 : decode cX6_init 73 = .ok (.putfield 36, 3) := by decide +kernel
theorem dX6_init_76 : decode cX6_init 76 = .ok (.aload_n 0, 1) := by decide +kernel
theorem dX6_init_77 : decode cX6_init 77 = .ok (.sipush 1000, 3) := by decide +kernel
theorem dX6_init_80 : decode cX6_init 80 = .ok (.newarray .long, 2) := by decide +kernel
theorem dX6_init_82 : decode cX6_init 82 = .ok (.putfield 39, 3) := by decide +kernel
theorem dX6_init_85 : decode cX6_init 85 = .ok (.aload_n 0, 1) := by decide +kernel
theorem dX6_init_86 : decode cX6_init 86 = .ok (.aload_n 1, 1) := by decide +kernel
theorem dX6_init_87 : decode cX6_init 87 = .ok (.putfield 42, 3) := by decide +kernel
theorem dX6_init_90 : decode cX6_init 90 = .ok (.aload_n 0, 1) := by decide +kernel
theorem dX6_init_91 : decode cX6_init 91 = .ok (.aload_n 2, 1) := by decide +kernel
theorem dX6_init_92 : decode cX6_init 92 = .ok (.putfield 46, 3) := by decide +kernel
theorem dX6_init_95 : decode cX6_init 95 = .ok (.return_, 1) := by decide +kernel
theorem dX6_forget_0 : decode cX6_forget 0 = .ok (.aload_n 0, 1) := by decide +kernel
theorem dX6_forget_1 : decode cX6_forget 1 = .ok (.iconst 0, 1) := by decide +kernel
theorem dX6_forget_2 : decode cX6_forget 2 = .ok (.putfield 50, 3) := by decide +kernel
theorem dX6_forget_5 : decode cX6_forget 5 = .ok (.return_, 1) := by decide +kernel
theorem dX6_prepare_0 : decode cX6_prepare 0 = .ok (.aload_n 0, 1) := by decide +kernel
theorem dX6_prepare_1 : decode cX6_prepare 1 = .ok (.getfield 50, 3) := by decide +kernel
theorem dX6_prepare_4 : decode cX6_prepare 4 = .ok (.ifCond .eq 4, 3) := by decide +kernel
theorem dX6_prepare_7 : decode cX6_prepare 7 = .ok (.return_, 1) := by decide +kernel
theorem dX6_prepare_8 : decode cX6_prepare 8 = .ok (.aload_n 0, 1) := by decide +kernel
theorem dX6_prepare_9 : decode cX6_prepare 9 = .ok (.iconst 1, 1) := by decide +kernel
theorem dX6_prepare_10 : decode cX6_prepare 10 = .ok (.putfield 50, 3) := by decide +kernel
theorem dX6_prepare_13 : decode cX6_prepare 13 = .ok (.aload_n 0, 1) := by decide +kernel
theorem dX6_prepare_14 : decode cX6_prepare 14 = .ok (.iconst (-1), 1) := by decide +kernel
theorem dX6_prepare_15 : decode cX6_prepare 15 = .ok (.putfield 54, 3) := by decide +kernel
theorem dX6_prepare_18 : decode cX6_prepare 18 = .ok (.aload_n 0, 1) := by decide +kernel
theorem dX6_prepare_19 : decode cX6_prepare 19 = .ok (.iconst (-1), 1) := by decide +kernel
theorem dX6_prepare_20 : decode cX6_prepare 20 = .ok (.putfield 58, 3) := by decide +kernel
theorem dX6_prepare_23 : decode cX6_prepare 23 = .ok (.aload_n 0, 1) := by decide +kernel
theorem dX6_prepare_24 : decode cX6_prepare 24 = .ok (.ldc2_w 61, 3) := by decide +kernel
theorem dX6_prepare_27 : decode cX6_prepare 27 = .ok (.aload_n 0, 1) := by decide +kernel
theorem dX6_prepare_28 : decode cX6_prepare 28 = .ok (.getfield 42, 3) := by decide +kernel
theorem dX6_prepare_31 : decode cX6_prepare 31 = .ok (.invokevirtual 63, 3) := by decide +kernel
theorem dX6_prepare_34 : decode cX6_prepare 34 = .ok (.invokestatic 69, 3) := by decide +kernel
theorem dX6_prepare_37 : decode cX6_prepare 37 = .ok (.l2i, 1) := by decide +kernel
theorem dX6_prepare_38 : decode cX6_prepare 38 = .ok (.putfield 75, 3) := by decide +kernel
theorem dX6_prepare_41 : decode cX6_prepare 41 = .ok (.iconst 0, 1) := by decide +kernel
theorem dX6_prepare_42 : decode cX6_prepare 42 = .ok (.istore_n 1, 1) := by decide +kernel
theorem dX6_prepare_43 : decode cX6_prepare 43 = .ok (.iload_n 1, 1) := by decide +kernel
theorem dX6_prepare_44 : decode cX6_prepare 44 = .ok (.aload_n 0, 1) := by decide +kernel
theorem dX6_prepare_45 : decode cX6_prepare 45 = .ok (.getfield 75, 3) := by decide +kernel
theorem dX6_prepare_48 : decode cX6_prepare 48 = .ok (.if_icmp .ge 26, 3) := by decide +kernel
theorem dX6_prepare_51 : decode cX6_prepare 51 = .ok (.aload_n 0, 1) := by decide +kernel
theorem dX6_prepare_52 : decode cX6_prepare 52 = .ok (.getfield 11, 3) := by decide +kernel
theorem dX6_prepare_55 : decode cX6_prepare 55 = .ok (.iload_n 1, 1) := by decide +kernel
theorem dX6_prepare_56 : decode cX6_prepare 56 = .ok (.aload_n 0, 1) := by decide +kernel
theorem dX6_prepare_57 : decode cX6_prepare 57 = .ok (.getfield 42, 3) := by decide +kernel
theorem dX6_prepare_60 : decode cX6_prepare 60 = .ok (.iload_n 1, 1) := by decide +kernel
theorem dX6_prepare_61 : decode cX6_prepare 61 = .ok (.i2l, 1) := by decide +kernel
theorem dX6_prepare_62 : decode cX6_prepare 62 = .ok (.invokevirtual 77, 3) := by decide +kernel
theorem dX6_prepare_65 : decode cX6_prepare 65 = .ok (.invokestatic 81, 3) := by decide +kernel
theorem dX6_prepare_68 : decode cX6_prepare 68 = .ok (.iinc 1 1, 3) := by decide +kernel
theorem dX6_prepare_71 : decode cX6_prepare 71 = .ok (.goto (-28), 3) := by decide +kernel
theorem dX6_prepare_74 : decode cX6_prepare 74 = .ok (.aload_n 0, 1) := by decide +kernel
theorem dX6_prepare_75 : decode cX6_prepare 75 = .ok (.iconst 0, 1) := by decide +kernel
theorem dX6_prepare_76 : decode cX6_prepare 76 = .ok (.putfield 87, 3) := by decide +kernel
theorem dX6_prepare_79 : decode cX6_prepare 79 = .ok (.iconst 0, 1) := by decide +kernel
theorem dX6_prepare_80 : decode cX6_prepare 80 = .ok (.istore_n 1, 1) := by decide +kernel
theorem dX6_prepare_81 : decode cX6_prepare 81 = .ok (.iload_n 1, 1) := by decide +kernel
theorem dX6_prepare_82 : decode cX6_prepare 82 = .ok (.aload_n 0, 1) := by decide +kernel
theorem dX6_prepare_83 : decode cX6_prepare 83 = .ok (.getfield 75, 3) := by decide +kernel
theorem dX6_prepare_86 : decode cX6_prepare 86 = .ok (.if_icmp .ge 30, 3) := by decide +kernel
theorem dX6_prepare_89 : decode cX6_prepare 89 = .ok (.aload_n 0, 1) := by decide +kernel
theorem dX6_prepare_90 : decode cX6_prepare 90 = .ok (.getfield 17, 3) := by decide +kernel
theorem dX6_prepare_93 : decode cX6_prepare 93 = .ok (.iload_n 1, 1) := by decide +kernel
theorem dX6_prepare_94 : decode cX6_prepare 94 = .ok (.aload_n 0, 1) := by decide +kernel
theorem dX6_prepare_95 : decode cX6_prepare 95 = .ok (.getfield 87, 3) := by decide +kernel
theorem dX6_prepare_98 : decode cX6_prepare 98 = .ok (.invokestatic 90, 3) := by decide +kernel
theorem dX6_prepare_101 : decode cX6_prepare 101 = .ok (.aload_n 0, 1) := by decide +kernel
theorem dX6_prepare_102 : decode cX6_prepare 102 = .ok (.aload_n 0, 1) := by decide +kernel
theorem dX6_prepare_103 : decode cX6_prepare 103 = .ok (.iload_n 1, 1) := by decide +kernel
theorem dX6_prepare_104 : decode cX6_prepare 104 = .ok (.invokevirtual 93, 3) := by decide +kernel
theorem dX6_prepare_107 : decode cX6_prepare 107 = .ok (.invokevirtual 97, 3) := by decide +kernel
theorem dX6_prepare_110 : decode cX6_prepare 110 = .ok (.iinc 1 1, 3) := by decide +kernel
theorem dX6_prepare_113 : decode cX6_prepare 113 = .ok (.goto (-32), 3) := by decide +kernel
theorem dX6_prepare_116 : decode cX6_prepare 116 = .ok (.aload_n 0, 1) := by decide +kernel
theorem dX6_prepare_117 : decode cX6_prepare 117 = .ok (.getfield 17, 3) := by decide +kernel
theorem dX6_prepare_120 : decode cX6_prepare 120 = .ok (.aload_n 0, 1) := by decide +kernel
theorem dX6_prepare_121 : decode cX6_prepare 121 = .ok (.getfield 75, 3) := by decide +kernel
theorem dX6_prepare_124 : decode cX6_prepare 124 = .ok (.aload_n 0, 1) := by decide +kernel
theorem dX6_prepare_125 : decode cX6_prepare 125 = .ok (.getfield 87, 3) := by decide +kernel
theorem dX6_prepare_128 : decode cX6_prepare 128 = .ok (.invokestatic 90, 3) := by decide +kernel
theorem dX6_prepare_131 : decode cX6_prepare 131 = .ok (.aload_n 0, 1) := by decide +kernel
theorem dX6_prepare_132 : decode cX6_prepare 132 = .ok (.invokevirtual 101, 3) := by decide +kernel
theorem dX6_prepare_135 : decode cX6_prepare 135 = .ok (.return_, 1) := by decide +kernel
theorem dX6_linkSwaps_0 : decode cX6_linkSwaps 0 = .ok (.iconst 0, 1) := by decide +kernel
theorem dX6_linkSwaps_1 : decode cX6_linkSwaps 1 = .ok (.istore_n 3, 1) := by decide +kernel
theorem dX6_linkSwaps_2 : decode cX6_linkSwaps 2 = .ok (.iload_n 3, 1) := by decide +kernel
theorem dX6_linkSwaps_3 : decode cX6_linkSwaps 3 = .ok (.aload_n 0, 1) := by decide +kernel
theorem dX6_linkSwaps_4 : decode cX6_linkSwaps 4 = .ok (.getfield 46, 3) := by decide +kernel
theorem dX6_linkSwaps_7 : decode cX6_linkSwaps 7 = .ok (.getfield 104, 3) := by decide +kernel
theorem dX6_linkSwaps_10 : decode cX6_linkSwaps 10 = .ok (.if_icmp .ge 38, 3) := by decide +kernel
theorem dX6_linkSwaps_13 : decode cX6_linkSwaps 13 = .ok (.aload_n 0, 1) := by decide +kernel
theorem dX6_linkSwaps_14 : decode cX6_linkSwaps 14 = .ok (.getfield 46, 3) := by decide +kernel
theorem dX6_linkSwaps_17 : decode cX6_linkSwaps 17 = .ok (.lload_n 1, 1) := by decide +kernel
theorem dX6_linkSwaps_18 : decode cX6_linkSwaps 18 = .ok (.iload_n 3, 1) := by decide +kernel
theorem dX6_linkSwaps_19 : decode cX6_linkSwaps 19 = .ok (.invokevirtual 107, 3) := by decide +kernel
theorem dX6_linkSwaps_22 : decode cX6_linkSwaps 22 = .ok (.ifCond .eq 20, 3) := by decide +kernel
theorem dX6_linkSwaps_25 : decode cX6_linkSwaps 25 = .ok (.aload_n 0, 1) := by decide +kernel
theorem dX6_linkSwaps_26 : decode cX6_linkSwaps 26 = .ok (.aload_n 0, 1) := by decide +kernel
theorem dX6_linkSwaps_27 : decode cX6_linkSwaps 27 = .ok (.aload_n 0, 1) := by decide +kernel
theorem dX6_linkSwaps_28 : decode cX6_linkSwaps 28 = .ok (.getfield 46, 3) := by decide +kernel
theorem dX6_linkSwaps_31 : decode cX6_linkSwaps 31 = .ok (.lload_n 1, 1) := by decide +kernel
theorem dX6_linkSwaps_32 : decode cX6_linkSwaps 32 = .ok (.iload_n 3, 1) := by decide +kernel
theorem dX6_linkSwaps_33 : decode cX6_linkSwaps 33 = .ok (.invokevirtual 111, 3) := by decide +kernel
theorem dX6_linkSwaps_36 : decode cX6_linkSwaps 36 = .ok (.invokevirtual 115, 3) := by decide +kernel
theorem dX6_linkSwaps_39 : decode cX6_linkSwaps 39 = .ok (.invokevirtual 119, 3) := by decide +kernel
theorem dX6_linkSwaps_42 : decode cX6_linkSwaps 42 = .ok (.iinc 3 1, 3) := by decide +kernel
theorem dX6_linkSwaps_45 : decode cX6_linkSwaps 45 = .ok (.goto (-43), 3) := by decide +kernel
theorem dX6_linkSwaps_48 : decode cX6_linkSwaps 48 = .ok (.return_, 1) := by decide +kernel
theorem dX6_addNear_0 : decode cX6_addNear 0 = .ok (.aload_n 0, 1) := by decide +kernel
theorem dX6_addNear_1 : decode cX6_addNear 1 = .ok (.getfield 87, 3) := by decide +kernel
theorem dX6_addNear_4 : decode cX6_addNear 4 = .ok (.aload_n 0, 1) := by decide +kernel
theorem dX6_addNear_5 : decode cX6_addNear 5 = .ok (.getfield 21, 3) := by decide +kernel
theorem dX6_addNear_8 : decode cX6_addNear 8 = .ok (.arraylength, 1) := by decide +kernel
theorem dX6_addNear_9 : decode cX6_addNear 9 = .ok (.if_icmp .lt 36, 3) := by decide +kernel
theorem dX6_addNear_12 : decode cX6_addNear 12 = .ok (.aload_n 0, 1) := by decide +kernel
theorem dX6_addNear_13 : decode cX6_addNear 13 = .ok (.getfield 21, 3) := by decide +kernel
theorem dX6_addNear_16 : decode cX6_addNear 16 = .ok (.arraylength, 1) := by decide +kernel
theorem dX6_addNear_17 : decode cX6_addNear 17 = .ok (.ldc 123, 2) := by decide +kernel
theorem dX6_addNear_19 : decode cX6_addNear 19 = .ok (.if_icmp .ge 26, 3) := by decide +kernel
theorem dX6_addNear_22 : decode cX6_addNear 22 = .ok (.aload_n 0, 1) := by decide +kernel
theorem dX6_addNear_23 : decode cX6_addNear 23 = .ok (.aload_n 0, 1) := by decide +kernel
theorem dX6_addNear_24 : decode cX6_addNear 24 = .ok (.getfield 21, 3) := by decide +kernel
theorem dX6_addNear_27 : decode cX6_addNear 27 = .ok (.ldc 123, 2) := by decide +kernel
theorem dX6_addNear_29 : decode cX6_addNear 29 = .ok (.iconst 2, 1) := by decide +kernel
theorem dX6_addNear_30 : decode cX6_addNear 30 = .ok (.aload_n 0, 1) := by decide +kernel
theorem dX6_addNear_31 : decode cX6_addNear 31 = .ok (.getfield 21, 3) := by decide +kernel
theorem dX6_addNear_34 : decode cX6_addNear 34 = .ok (.arraylength, 1) := by decide +kernel
theorem dX6_addNear_35 : decode cX6_addNear 35 = .ok (.imul, 1) := by decide +kernel
theorem dX6_addNear_36 : decode cX6_addNear 36 = .ok (.invokestatic 124, 3) := by decide +kernel
theorem dX6_addNear_39 : decode cX6_addNear 39 = .ok (.invokestatic 127, 3) := by decide +kernel
theorem dX6_addNear_42 : decode cX6_addNear 42 = .ok (.putfield 21, 3) := by decide +kernel
theorem dX6_addNear_45 : decode cX6_addNear 45 = .ok (.aload_n 0, 1) := by decide +kernel
theorem dX6_addNear_46 : decode cX6_addNear 46 = .ok (.getfield 87, 3) := by decide +kernel
theorem dX6_addNear_49 : decode cX6_addNear 49 = .ok (.ifCond .lt 35, 3) := by decide +kernel
theorem dX6_addNear_52 : decode cX6_addNear 52 = .ok (.aload_n 0, 1) := by decide +kernel
theorem dX6_addNear_53 : decode cX6_addNear 53 = .ok (.getfield 87, 3) := by decide +kernel
theorem dX6_addNear_56 : decode cX6_addNear 56 = .ok (.aload_n 0, 1) := by decide +kernel
theorem dX6_addNear_57 : decode cX6_addNear 57 = .ok (.getfield 21, 3) := by decide +kernel
theorem dX6_addNear_60 : decode cX6_addNear 60 = .ok (.arraylength, 1) := by decide +kernel
theorem dX6_addNear_61 : decode cX6_addNear 61 = .ok (.if_icmp .ge 23, 3) := by decide +kernel
theorem dX6_addNear_64 : decode cX6_addNear 64 = .ok (.aload_n 0, 1) := by decide +kernel
theorem dX6_addNear_65 : decode cX6_addNear 65 = .ok (.getfield 21, 3) := by decide +kernel
theorem dX6_addNear_68 : decode cX6_addNear 68 = .ok (.aload_n 0, 1) := by decide +kernel
theorem dX6_addNear_69 : decode cX6_addNear 69 = .ok (.getfield 87, 3) := by decide +kernel
theorem dX6_addNear_72 : decode cX6_addNear 72 = .ok (.iload_n 1, 1) := by decide +kernel
theorem dX6_addNear_73 : decode cX6_addNear 73 = .ok (.iastore, 1) := by decide +kernel
theorem dX6_addNear_74 : decode cX6_addNear 74 = .ok (.aload_n 0, 1) := by decide +kernel
theorem dX6_addNear_75 : decode cX6_addNear 75 = .ok (.dup, 1) := by decide +kernel
theorem dX6_addNear_76 : decode cX6_addNear 76 = .ok (.getfield 87, 3) := by decide +kernel
theorem dX6_addNear_79 : decode cX6_addNear 79 = .ok (.iconst 1, 1) := by decide +kernel
theorem dX6_addNear_80 : decode cX6_addNear 80 = .ok (.iadd, 1) := by decide +kernel
theorem dX6_addNear_81 : decode cX6_addNear 81 = .ok (.putfield 87, 3) := by decide +kernel
theorem dX6_addNear_84 : decode cX6_addNear 84 = .ok (.return_, 1) := by decide +kernel
theorem dX6_cellsAt_0 : decode cX6_cellsAt 0 = .ok (.aload_n 0, 1) := by decide +kernel
theorem dX6_cellsAt_1 : decode cX6_cellsAt 1 = .ok (.getfield 11, 3) := by decide +kernel
theorem dX6_cellsAt_4 : decode cX6_cellsAt 4 = .ok (.iload_n 1, 1) := by decide +kernel
theorem dX6_cellsAt_5 : decode cX6_cellsAt 5 = .ok (.invokestatic 133, 3) := by decide +kernel
theorem dX6_cellsAt_8 : decode cX6_cellsAt 8 = .ok (.lreturn, 1) := by decide +kernel
theorem dX6_firstNearOf_0 : decode cX6_firstNearOf 0 = .ok (.iload_n 1, 1) := by decide +kernel
theorem dX6_firstNearOf_1 : decode cX6_firstNearOf 1 = .ok (.ifCond .lt 19, 3) := by decide +kernel
theorem dX6_firstNearOf_4 : decode cX6_firstNearOf 4 = .ok (.iload_n 1, 1) := by decide +kernel
theorem dX6_firstNearOf_5 : decode cX6_firstNearOf 5 = .ok (.sipush 1000, 3) := by decide +kernel
theorem dX6_firstNearOf_8 : decode cX6_firstNearOf 8 = .ok (.if_icmp .gt 12, 3) := by decide +kernel
theorem dX6_firstNearOf_11 : decode cX6_firstNearOf 11 = .ok (.aload_n 0, 1) := by decide +kernel
theorem dX6_firstNearOf_12 : decode cX6_firstNearOf 12 = .ok (.getfield 17, 3) := by decide +kernel
theorem dX6_firstNearOf_15 : decode cX6_firstNearOf 15 = .ok (.iload_n 1, 1) := by decide +kernel
theorem dX6_firstNearOf_16 : decode cX6_firstNearOf 16 = .ok (.iaload, 1) := by decide +kernel
theorem dX6_firstNearOf_17 : decode cX6_firstNearOf 17 = .ok (.goto 4, 3) := by decide +kernel
theorem dX6_firstNearOf_20 : decode cX6_firstNearOf 20 = .ok (.iconst 0, 1) := by decide +kernel
theorem dX6_firstNearOf_21 : decode cX6_firstNearOf 21 = .ok (.istore_n 2, 1) := by decide +kernel
theorem dX6_firstNearOf_22 : decode cX6_firstNearOf 22 = .ok (.iload_n 2, 1) := by decide +kernel
theorem dX6_firstNearOf_23 : decode cX6_firstNearOf 23 = .ok (.ifCond .lt 16, 3) := by decide +kernel
theorem dX6_firstNearOf_26 : decode cX6_firstNearOf 26 = .ok (.iload_n 2, 1) := by decide +kernel
theorem dX6_firstNearOf_27 : decode cX6_firstNearOf 27 = .ok (.aload_n 0, 1) := by decide +kernel
theorem dX6_firstNearOf_28 : decode cX6_firstNearOf 28 = .ok (.getfield 21, 3) := by decide +kernel
theorem dX6_firstNearOf_31 : decode cX6_firstNearOf 31 = .ok (.arraylength, 1) := by decide +kernel
theorem dX6_firstNearOf_32 : decode cX6_firstNearOf 32 = .ok (.if_icmp .gt 7, 3) := by decide +kernel
theorem dX6_firstNearOf_35 : decode cX6_firstNearOf 35 = .ok (.iload_n 2, 1) := by decide +kernel
theorem dX6_firstNearOf_36 : decode cX6_firstNearOf 36 = .ok (.goto 4, 3) := by decide +kernel
theorem dX6_firstNearOf_39 : decode cX6_firstNearOf 39 = .ok (.iconst 0, 1) := by decide +kernel
theorem dX6_firstNearOf_40 : decode cX6_firstNearOf 40 = .ok (.ireturn, 1) := by decide +kernel
theorem dX6_find_0 : decode cX6_find 0 = .ok (.lload_n 1, 1) := by decide +kernel
theorem dX6_find_1 : decode cX6_find 1 = .ok (.ldc2_w 137, 3) := by decide +kernel
theorem dX6_find_4 : decode cX6_find 4 = .ok (.lxor, 1) := by decide +kernel
theorem dX6_find_5 : decode cX6_find 5 = .ok (.lstore_n 3, 1) := by decide +kernel
theorem dX6_find_6 : decode cX6_find 6 = .ok (.iconst 0, 1) := by decide +kernel
theorem dX6_find_7 : decode cX6_find 7 = .ok (.istore 5, 2) := by decide +kernel
theorem dX6_find_9 : decode cX6_find 9 = .ok (.sipush 512, 3) := by decide +kernel
theorem dX6_find_12 : decode cX6_find 12 = .ok (.istore 6, 2) := by decide +kernel
theorem dX6_find_14 : decode cX6_find 14 = .ok (.iload 6, 2) := by decide +kernel
theorem dX6_find_16 : decode cX6_find 16 = .ok (.ifCond .le 56, 3) := by decide +kernel
theorem dX6_find_19 : decode cX6_find 19 = .ok (.iload 5, 2) := by decide +kernel
theorem dX6_find_21 : decode cX6_find 21 = .ok (.iload 6, 2) := by decide +kernel
theorem dX6_find_23 : decode cX6_find 23 = .ok (.iadd, 1) := by decide +kernel
theorem dX6_find_24 : decode cX6_find 24 = .ok (.istore 7, 2) := by decide +kernel
theorem dX6_find_26 : decode cX6_find 26 = .ok (.iload 7, 2) := by decide +kernel
theorem dX6_find_28 : decode cX6_find 28 = .ok (.aload_n 0, 1) := by decide +kernel
theorem dX6_find_29 : decode cX6_find 29 = .ok (.getfield 75, 3) := by decide +kernel
theorem dX6_find_32 : decode cX6_find 32 = .ok (.if_icmp .ge 31, 3) := by decide +kernel
theorem dX6_find_35 : decode cX6_find 35 = .ok (.iload 7, 2) := by decide +kernel
theorem dX6_find_37 : decode cX6_find 37 = .ok (.sipush 1000, 3) := by decide +kernel
theorem dX6_find_40 : decode cX6_find 40 = .ok (.if_icmp .ge 23, 3) := by decide +kernel
theorem dX6_find_43 : decode cX6_find 43 = .ok (.aload_n 0, 1) := by decide +kernel
theorem dX6_find_44 : decode cX6_find 44 = .ok (.getfield 11, 3) := by decide +kernel
theorem dX6_find_47 : decode cX6_find 47 = .ok (.iload 7, 2) := by decide +kernel
theorem dX6_find_49 : decode cX6_find 49 = .ok (.laload, 1) := by decide +kernel
theorem dX6_find_50 : decode cX6_find 50 = .ok (.ldc2_w 137, 3) := by decide +kernel
theorem dX6_find_53 : decode cX6_find 53 = .ok (.lxor, 1) := by decide +kernel
theorem dX6_find_54 : decode cX6_find 54 = .ok (.lload_n 3, 1) := by decide +kernel
theorem dX6_find_55 : decode cX6_find 55 = .ok (.lcmp, 1) := by decide +kernel
theorem dX6_find_56 : decode cX6_find 56 = .ok (.ifCond .gt 7, 3) := by decide +kernel
theorem dX6_find_59 : decode cX6_find 59 = .ok (.iload 7, 2) := by decide +kernel
theorem dX6_find_61 : decode cX6_find 61 = .ok (.istore 5, 2) := by decide +kernel
theorem dX6_find_63 : decode cX6_find 63 = .ok (.iload 6, 2) := by decide +kernel
theorem dX6_find_65 : decode cX6_find 65 = .ok (.iconst 1, 1) := by decide +kernel
theorem dX6_find_66 : decode cX6_find 66 = .ok (.ishr, 1) := by decide +kernel
theorem dX6_find_67 : decode cX6_find 67 = .ok (.istore 6, 2) := by decide +kernel
theorem dX6_find_69 : decode cX6_find 69 = .ok (.goto (-55), 3) := by decide +kernel
theorem dX6_find_72 : decode cX6_find 72 = .ok (.iload 5, 2) := by decide +kernel
theorem dX6_find_74 : decode cX6_find 74 = .ok (.ireturn, 1) := by decide +kernel
theorem dX6_splitIntoClasses_0 : decode cX6_splitIntoClasses 0 = .ok (.aload_n 0, 1) := by decide +kernel
theorem dX6_splitIntoClasses_1 : decode cX6_splitIntoClasses 1 = .ok (.getfield 24, 3) := by decide +kernel
theorem dX6_splitIntoClasses_4 : decode cX6_splitIntoClasses 4 = .ok (.iconst (-1), 1) := by decide +kernel
theorem dX6_splitIntoClasses_5 : decode cX6_splitIntoClasses 5 = .ok (.invokestatic 139, 3) := by decide +kernel
theorem dX6_splitIntoClasses_8 : decode cX6_splitIntoClasses 8 = .ok (.aload_n 0, 1) := by decide +kernel
theorem dX6_splitIntoClasses_9 : decode cX6_splitIntoClasses 9 = .ok (.iconst 0, 1) := by decide +kernel
theorem dX6_splitIntoClasses_10 : decode cX6_splitIntoClasses 10 = .ok (.putfield 143, 3) := by decide +kernel
theorem dX6_splitIntoClasses_13 : decode cX6_splitIntoClasses 13 = .ok (.iconst 0, 1) := by decide +kernel
theorem dX6_splitIntoClasses_14 : decode cX6_splitIntoClasses 14 = .ok (.istore_n 1, 1) := by decide +kernel
theorem dX6_splitIntoClasses_15 : decode cX6_splitIntoClasses 15 = .ok (.iload_n 1, 1) := by decide +kernel
theorem dX6_splitIntoClasses_16 : decode cX6_splitIntoClasses 16 = .ok (.aload_n 0, 1) := by decide +kernel
theorem dX6_splitIntoClasses_17 : decode cX6_splitIntoClasses 17 = .ok (.getfield 75, 3) := by decide +kernel
theorem dX6_splitIntoClasses_20 : decode cX6_splitIntoClasses 20 = .ok (.if_icmp .ge 54, 3) := by decide +kernel
theorem dX6_splitIntoClasses_23 : decode cX6_splitIntoClasses 23 = .ok (.aload_n 0, 1) := by decide +kernel
theorem dX6_splitIntoClasses_24 : decode cX6_splitIntoClasses 24 = .ok (.getfield 24, 3) := by decide +kernel
theorem dX6_splitIntoClasses_27 : decode cX6_splitIntoClasses 27 = .ok (.iload_n 1, 1) := by decide +kernel
theorem dX6_splitIntoClasses_28 : decode cX6_splitIntoClasses 28 = .ok (.invokestatic 146, 3) := by decide +kernel
theorem dX6_splitIntoClasses_31 : decode cX6_splitIntoClasses 31 = .ok (.iconst (-1), 1) := by decide +kernel
theorem dX6_splitIntoClasses_32 : decode cX6_splitIntoClasses 32 = .ok (.if_icmp .ne 36, 3) := by decide +kernel
theorem dX6_splitIntoClasses_35 : decode cX6_splitIntoClasses 35 = .ok (.aload_n 0, 1) := by decide +kernel
theorem dX6_splitIntoClasses_36 : decode cX6_splitIntoClasses 36 = .ok (.dup, 1) := by decide +kernel
theorem dX6_splitIntoClasses_37 : decode cX6_splitIntoClasses 37 = .ok (.getfield 143, 3) := by decide +kernel
theorem dX6_splitIntoClasses_40 : decode cX6_splitIntoClasses 40 = .ok (.iconst 1, 1) := by decide +kernel
theorem dX6_splitIntoClasses_41 : decode cX6_splitIntoClasses 41 = .ok (.iadd, 1) := by decide +kernel
theorem dX6_splitIntoClasses_42 : decode cX6_splitIntoClasses 42 = .ok (.putfield 143, 3) := by decide +kernel
theorem dX6_splitIntoClasses_45 : decode cX6_splitIntoClasses 45 = .ok (.aload_n 0, 1) := by decide +kernel
theorem dX6_splitIntoClasses_46 : decode cX6_splitIntoClasses 46 = .ok (.aload_n 0, 1) := by decide +kernel
theorem dX6_splitIntoClasses_47 : decode cX6_splitIntoClasses 47 = .ok (.getfield 24, 3) := by decide +kernel
theorem dX6_splitIntoClasses_50 : decode cX6_splitIntoClasses 50 = .ok (.iload_n 1, 1) := by decide +kernel
theorem dX6_splitIntoClasses_51 : decode cX6_splitIntoClasses 51 = .ok (.iload_n 1, 1) := by decide +kernel
theorem dX6_splitIntoClasses_52 : decode cX6_splitIntoClasses 52 = .ok (.iconst 0, 1) := by decide +kernel
theorem dX6_splitIntoClasses_53 : decode cX6_splitIntoClasses 53 = .ok (.invokevirtual 149, 3) := by decide +kernel
theorem dX6_splitIntoClasses_56 : decode cX6_splitIntoClasses 56 = .ok (.aload_n 0, 1) := by decide +kernel
theorem dX6_splitIntoClasses_57 : decode cX6_splitIntoClasses 57 = .ok (.getfield 27, 3) := by decide +kernel
theorem dX6_splitIntoClasses_60 : decode cX6_splitIntoClasses 60 = .ok (.iload_n 1, 1) := by decide +kernel
theorem dX6_splitIntoClasses_61 : decode cX6_splitIntoClasses 61 = .ok (.aload_n 0, 1) := by decide +kernel
theorem dX6_splitIntoClasses_62 : decode cX6_splitIntoClasses 62 = .ok (.getfield 153, 3) := by decide +kernel
theorem dX6_splitIntoClasses_65 : decode cX6_splitIntoClasses 65 = .ok (.invokestatic 90, 3) := by decide +kernel
theorem dX6_splitIntoClasses_68 : decode cX6_splitIntoClasses 68 = .ok (.iinc 1 1, 3) := by decide +kernel
theorem dX6_splitIntoClasses_71 : decode cX6_splitIntoClasses 71 = .ok (.goto (-56), 3) := by decide +kernel
theorem dX6_splitIntoClasses_74 : decode cX6_splitIntoClasses 74 = .ok (.return_, 1) := by decide +kernel
theorem dX6_spread_0 : decode cX6_spread 0 = .ok (.aload_n 0, 1) := by decide +kernel
theorem dX6_spread_1 : decode cX6_spread 1 = .ok (.iconst 0, 1) := by decide +kernel
theorem dX6_spread_2 : decode cX6_spread 2 = .ok (.putfield 153, 3) := by decide +kernel
theorem dX6_spread_5 : decode cX6_spread 5 = .ok (.aload_n 0, 1) := by decide +kernel
theorem dX6_spread_6 : decode cX6_spread 6 = .ok (.aload_n 1, 1) := by decide +kernel
theorem dX6_spread_7 : decode cX6_spread 7 = .ok (.iload_n 2, 1) := by decide +kernel
theorem dX6_spread_8 : decode cX6_spread 8 = .ok (.iload_n 3, 1) := by decide +kernel
theorem dX6_spread_9 : decode cX6_spread 9 = .ok (.invokevirtual 156, 3) := by decide +kernel
theorem dX6_spread_12 : decode cX6_spread 12 = .ok (.iconst 0, 1) := by decide +kernel
theorem dX6_spread_13 : decode cX6_spread 13 = .ok (.istore 5, 2) := by decide +kernel
theorem dX6_spread_15 : decode cX6_spread 15 = .ok (.iload 5, 2) := by decide +kernel
theorem dX6_spread_17 : decode cX6_spread 17 = .ok (.aload_n 0, 1) := by decide +kernel
theorem dX6_spread_18 : decode cX6_spread 18 = .ok (.getfield 153, 3) := by decide +kernel
theorem dX6_spread_21 : decode cX6_spread 21 = .ok (.if_icmp .ge 84, 3) := by decide +kernel
theorem dX6_spread_24 : decode cX6_spread 24 = .ok (.iload 5, 2) := by decide +kernel
theorem dX6_spread_26 : decode cX6_spread 26 = .ok (.sipush 1000, 3) := by decide +kernel
theorem dX6_spread_29 : decode cX6_spread 29 = .ok (.if_icmp .ge 76, 3) := by decide +kernel
theorem dX6_spread_32 : decode cX6_spread 32 = .ok (.aload_n 0, 1) := by decide +kernel
theorem dX6_spread_33 : decode cX6_spread 33 = .ok (.getfield 33, 3) := by decide +kernel
theorem dX6_spread_36 : decode cX6_spread 36 = .ok (.iload 5, 2) := by decide +kernel
theorem dX6_spread_38 : decode cX6_spread 38 = .ok (.invokestatic 146, 3) := by decide +kernel
theorem dX6_spread_41 : decode cX6_spread 41 = .ok (.istore 6, 2) := by decide +kernel
theorem dX6_spread_43 : decode cX6_spread 43 = .ok (.aload_n 1, 1) := by decide +kernel
theorem dX6_spread_44 : decode cX6_spread 44 = .ok (.iload 6, 2) := by decide +kernel
theorem dX6_spread_46 : decode cX6_spread 46 = .ok (.invokestatic 146, 3) := by decide +kernel
theorem dX6_spread_49 : decode cX6_spread 49 = .ok (.iload 4, 2) := by decide +kernel
theorem dX6_spread_51 : decode cX6_spread 51 = .ok (.iadd, 1) := by decide +kernel
theorem dX6_spread_52 : decode cX6_spread 52 = .ok (.istore 7, 2) := by decide +kernel
theorem dX6_spread_54 : decode cX6_spread 54 = .ok (.aload_n 0, 1) := by decide +kernel
theorem dX6_spread_55 : decode cX6_spread 55 = .ok (.iload 6, 2) := by decide +kernel
theorem dX6_spread_57 : decode cX6_spread 57 = .ok (.iconst 1, 1) := by decide +kernel
theorem dX6_spread_58 : decode cX6_spread 58 = .ok (.iadd, 1) := by decide +kernel
theorem dX6_spread_59 : decode cX6_spread 59 = .ok (.invokevirtual 159, 3) := by decide +kernel
theorem dX6_spread_62 : decode cX6_spread 62 = .ok (.istore 8, 2) := by decide +kernel
theorem dX6_spread_64 : decode cX6_spread 64 = .ok (.aload_n 0, 1) := by decide +kernel
theorem dX6_spread_65 : decode cX6_spread 65 = .ok (.iload 6, 2) := by decide +kernel
theorem dX6_spread_67 : decode cX6_spread 67 = .ok (.invokevirtual 159, 3) := by decide +kernel
theorem dX6_spread_70 : decode cX6_spread 70 = .ok (.istore 9, 2) := by decide +kernel
theorem dX6_spread_72 : decode cX6_spread 72 = .ok (.iload 9, 2) := by decide +kernel
theorem dX6_spread_74 : decode cX6_spread 74 = .ok (.iload 8, 2) := by decide +kernel
theorem dX6_spread_76 : decode cX6_spread 76 = .ok (.if_icmp .ge 23, 3) := by decide +kernel
theorem dX6_spread_79 : decode cX6_spread 79 = .ok (.aload_n 0, 1) := by decide +kernel
theorem dX6_spread_80 : decode cX6_spread 80 = .ok (.aload_n 1, 1) := by decide +kernel
theorem dX6_spread_81 : decode cX6_spread 81 = .ok (.aload_n 0, 1) := by decide +kernel
theorem dX6_spread_82 : decode cX6_spread 82 = .ok (.getfield 21, 3) := by decide +kernel
theorem dX6_spread_85 : decode cX6_spread 85 = .ok (.iload 9, 2) := by decide +kernel
theorem dX6_spread_87 : decode cX6_spread 87 = .ok (.iaload, 1) := by decide +kernel
theorem dX6_spread_88 : decode cX6_spread 88 = .ok (.iload 7, 2) := by decide +kernel
theorem dX6_spread_90 : decode cX6_spread 90 = .ok (.invokevirtual 156, 3) := by decide +kernel
theorem dX6_spread_93 : decode cX6_spread 93 = .ok (.iinc 9 1, 3) := by decide +kernel
theorem dX6_spread_96 : decode cX6_spread 96 = .ok (.goto (-24), 3) := by decide +kernel
theorem dX6_spread_99 : decode cX6_spread 99 = .ok (.iinc 5 1, 3) := by decide +kernel
theorem dX6_spread_102 : decode cX6_spread 102 = .ok (.goto (-87), 3) := by decide +kernel
theorem dX6_spread_105 : decode cX6_spread 105 = .ok (.return_, 1) := by decide +kernel
theorem dX6_reach_0 : decode cX6_reach 0 = .ok (.iload_n 2, 1) := by decide +kernel
theorem dX6_reach_1 : decode cX6_reach 1 = .ok (.ifCond .lt 20, 3) := by decide +kernel
theorem dX6_reach_4 : decode cX6_reach 4 = .ok (.iload_n 2, 1) := by decide +kernel
theorem dX6_reach_5 : decode cX6_reach 5 = .ok (.aload_n 1, 1) := by decide +kernel
theorem dX6_reach_6 : decode cX6_reach 6 = .ok (.arraylength, 1) := by decide +kernel
theorem dX6_reach_7 : decode cX6_reach 7 = .ok (.if_icmp .ge 14, 3) := by decide +kernel
theorem dX6_reach_10 : decode cX6_reach 10 = .ok (.aload_n 1, 1) := by decide +kernel
theorem dX6_reach_11 : decode cX6_reach 11 = .ok (.iload_n 2, 1) := by decide +kernel
theorem dX6_reach_12 : decode cX6_reach 12 = .ok (.iaload, 1) := by decide +kernel
theorem dX6_reach_13 : decode cX6_reach 13 = .ok (.iconst (-1), 1) := by decide +kernel
theorem dX6_reach_14 : decode cX6_reach 14 = .ok (.if_icmp .ne 7, 3) := by decide +kernel
theorem dX6_reach_17 : decode cX6_reach 17 = .ok (.iconst 1, 1) := by decide +kernel
theorem dX6_reach_18 : decode cX6_reach 18 = .ok (.goto 4, 3) := by decide +kernel
theorem dX6_reach_21 : decode cX6_reach 21 = .ok (.iconst 0, 1) := by decide +kernel
theorem dX6_reach_22 : decode cX6_reach 22 = .ok (.istore 4, 2) := by decide +kernel
theorem dX6_reach_24 : decode cX6_reach 24 = .ok (.iload 4, 2) := by decide +kernel
theorem dX6_reach_26 : decode cX6_reach 26 = .ok (.ifCond .eq 44, 3) := by decide +kernel
theorem dX6_reach_29 : decode cX6_reach 29 = .ok (.aload_n 0, 1) := by decide +kernel
theorem dX6_reach_30 : decode cX6_reach 30 = .ok (.getfield 153, 3) := by decide +kernel
theorem dX6_reach_33 : decode cX6_reach 33 = .ok (.ifCond .lt 37, 3) := by decide +kernel
theorem dX6_reach_36 : decode cX6_reach 36 = .ok (.aload_n 0, 1) := by decide +kernel
theorem dX6_reach_37 : decode cX6_reach 37 = .ok (.getfield 153, 3) := by decide +kernel
theorem dX6_reach_40 : decode cX6_reach 40 = .ok (.sipush 1000, 3) := by decide +kernel
theorem dX6_reach_43 : decode cX6_reach 43 = .ok (.if_icmp .ge 27, 3) := by decide +kernel
theorem dX6_reach_46 : decode cX6_reach 46 = .ok (.aload_n 1, 1) := by decide +kernel
theorem dX6_reach_47 : decode cX6_reach 47 = .ok (.iload_n 2, 1) := by decide +kernel
theorem dX6_reach_48 : decode cX6_reach 48 = .ok (.iload_n 3, 1) := by decide +kernel
theorem dX6_reach_49 : decode cX6_reach 49 = .ok (.iastore, 1) := by decide +kernel
theorem dX6_reach_50 : decode cX6_reach 50 = .ok (.aload_n 0, 1) := by decide +kernel
theorem dX6_reach_51 : decode cX6_reach 51 = .ok (.getfield 33, 3) := by decide +kernel
theorem dX6_reach_54 : decode cX6_reach 54 = .ok (.aload_n 0, 1) := by decide +kernel
theorem dX6_reach_55 : decode cX6_reach 55 = .ok (.getfield 153, 3) := by decide +kernel
theorem dX6_reach_58 : decode cX6_reach 58 = .ok (.iload_n 2, 1) := by decide +kernel
theorem dX6_reach_59 : decode cX6_reach 59 = .ok (.iastore, 1) := by decide +kernel
theorem dX6_reach_60 : decode cX6_reach 60 = .ok (.aload_n 0, 1) := by decide +kernel
theorem dX6_reach_61 : decode cX6_reach 61 = .ok (.dup, 1) := by decide +kernel
theorem dX6_reach_62 : decode cX6_reach 62 = .ok (.getfield 153, 3) := by decide +kernel
theorem dX6_reach_65 : decode cX6_reach 65 = .ok (.iconst 1, 1) := by decide +kernel
theorem dX6_reach_66 : decode cX6_reach 66 = .ok (.iadd, 1) := by decide +kernel
theorem dX6_reach_67 : decode cX6_reach 67 = .ok (.putfield 153, 3) := by decide +kernel
theorem dX6_reach_70 : decode cX6_reach 70 = .ok (.return_, 1) := by decide +kernel
theorem dX6_measureFrom_0 : decode cX6_measureFrom 0 = .ok (.aload_n 0, 1) := by decide +kernel
theorem dX6_measureFrom_1 : decode cX6_measureFrom 1 = .ok (.getfield 54, 3) := by decide +kernel
theorem dX6_measureFrom_4 : decode cX6_measureFrom 4 = .ok (.iload_n 1, 1) := by decide +kernel
theorem dX6_measureFrom_5 : decode cX6_measureFrom 5 = .ok (.if_icmp .eq 27, 3) := by decide +kernel
theorem dX6_measureFrom_8 : decode cX6_measureFrom 8 = .ok (.aload_n 0, 1) := by decide +kernel
theorem dX6_measureFrom_9 : decode cX6_measureFrom 9 = .ok (.getfield 30, 3) := by decide +kernel
theorem dX6_measureFrom_12 : decode cX6_measureFrom 12 = .ok (.iconst (-1), 1) := by decide +kernel
theorem dX6_measureFrom_13 : decode cX6_measureFrom 13 = .ok (.invokestatic 139, 3) := by decide +kernel
theorem dX6_measureFrom_16 : decode cX6_measureFrom 16 = .ok (.aload_n 0, 1) := by decide +kernel
theorem dX6_measureFrom_17 : decode cX6_measureFrom 17 = .ok (.aload_n 0, 1) := by decide +kernel
theorem dX6_measureFrom_18 : decode cX6_measureFrom 18 = .ok (.getfield 30, 3) := by decide +kernel
theorem dX6_measureFrom_21 : decode cX6_measureFrom 21 = .ok (.iload_n 1, 1) := by decide +kernel
theorem dX6_measureFrom_22 : decode cX6_measureFrom 22 = .ok (.iconst 0, 1) := by decide +kernel
theorem dX6_measureFrom_23 : decode cX6_measureFrom 23 = .ok (.iconst 1, 1) := by decide +kernel
theorem dX6_measureFrom_24 : decode cX6_measureFrom 24 = .ok (.invokevirtual 149, 3) := by decide +kernel
theorem dX6_measureFrom_27 : decode cX6_measureFrom 27 = .ok (.aload_n 0, 1) := by decide +kernel
theorem dX6_measureFrom_28 : decode cX6_measureFrom 28 = .ok (.iload_n 1, 1) := by decide +kernel
theorem dX6_measureFrom_29 : decode cX6_measureFrom 29 = .ok (.putfield 54, 3) := by decide +kernel
theorem dX6_measureFrom_32 : decode cX6_measureFrom 32 = .ok (.return_, 1) := by decide +kernel
theorem dX6_distanceOf_0 : decode cX6_distanceOf 0 = .ok (.aload_n 0, 1) := by decide +kernel
theorem dX6_distanceOf_1 : decode cX6_distanceOf 1 = .ok (.getfield 30, 3) := by decide +kernel
theorem dX6_distanceOf_4 : decode cX6_distanceOf 4 = .ok (.iload_n 1, 1) := by decide +kernel
theorem dX6_distanceOf_5 : decode cX6_distanceOf 5 = .ok (.invokestatic 146, 3) := by decide +kernel
theorem dX6_distanceOf_8 : decode cX6_distanceOf 8 = .ok (.ireturn, 1) := by decide +kernel
theorem dX6_classTotal_0 : decode cX6_classTotal 0 = .ok (.aload_n 0, 1) := by decide +kernel
theorem dX6_classTotal_1 : decode cX6_classTotal 1 = .ok (.getfield 143, 3) := by decide +kernel
theorem dX6_classTotal_4 : decode cX6_classTotal 4 = .ok (.ireturn, 1) := by decide +kernel
theorem dX6_headOf_0 : decode cX6_headOf 0 = .ok (.aload_n 0, 1) := by decide +kernel
theorem dX6_headOf_1 : decode cX6_headOf 1 = .ok (.getfield 24, 3) := by decide +kernel
theorem dX6_headOf_4 : decode cX6_headOf 4 = .ok (.iload_n 1, 1) := by decide +kernel
theorem dX6_headOf_5 : decode cX6_headOf 5 = .ok (.invokestatic 146, 3) := by decide +kernel
theorem dX6_headOf_8 : decode cX6_headOf 8 = .ok (.ireturn, 1) := by decide +kernel
theorem dX6_classSize_0 : decode cX6_classSize 0 = .ok (.aload_n 0, 1) := by decide +kernel
theorem dX6_classSize_1 : decode cX6_classSize 1 = .ok (.getfield 27, 3) := by decide +kernel
theorem dX6_classSize_4 : decode cX6_classSize 4 = .ok (.aload_n 0, 1) := by decide +kernel
theorem dX6_classSize_5 : decode cX6_classSize 5 = .ok (.iload_n 1, 1) := by decide +kernel
theorem dX6_classSize_6 : decode cX6_classSize 6 = .ok (.invokevirtual 163, 3) := by decide +kernel
theorem dX6_classSize_9 : decode cX6_classSize 9 = .ok (.invokestatic 146, 3) := by decide +kernel
theorem dX6_classSize_12 : decode cX6_classSize 12 = .ok (.ireturn, 1) := by decide +kernel
theorem dX6_joinedTotal_0 : decode cX6_joinedTotal 0 = .ok (.aload_n 0, 1) := by decide +kernel
theorem dX6_joinedTotal_1 : decode cX6_joinedTotal 1 = .ok (.getfield 58, 3) := by decide +kernel
theorem dX6_joinedTotal_4 : decode cX6_joinedTotal 4 = .ok (.iconst (-1), 1) := by decide +kernel
theorem dX6_joinedTotal_5 : decode cX6_joinedTotal 5 = .ok (.if_icmp .ne 26, 3) := by decide +kernel
theorem dX6_joinedTotal_8 : decode cX6_joinedTotal 8 = .ok (.aload_n 0, 1) := by decide +kernel
theorem dX6_joinedTotal_9 : decode cX6_joinedTotal 9 = .ok (.aload_n 0, 1) := by decide +kernel
theorem dX6_joinedTotal_10 : decode cX6_joinedTotal 10 = .ok (.getfield 143, 3) := by decide +kernel
theorem dX6_joinedTotal_13 : decode cX6_joinedTotal 13 = .ok (.iconst 1, 1) := by decide +kernel
theorem dX6_joinedTotal_14 : decode cX6_joinedTotal 14 = .ok (.if_icmp .le 10, 3) := by decide +kernel
theorem dX6_joinedTotal_17 : decode cX6_joinedTotal 17 = .ok (.aload_n 0, 1) := by decide +kernel
theorem dX6_joinedTotal_18 : decode cX6_joinedTotal 18 = .ok (.invokevirtual 166, 3) := by decide +kernel
theorem dX6_joinedTotal_21 : decode cX6_joinedTotal 21 = .ok (.goto 7, 3) := by decide +kernel
theorem dX6_joinedTotal_24 : decode cX6_joinedTotal 24 = .ok (.aload_n 0, 1) := by decide +kernel
theorem dX6_joinedTotal_25 : decode cX6_joinedTotal 25 = .ok (.getfield 143, 3) := by decide +kernel
theorem dX6_joinedTotal_28 : decode cX6_joinedTotal 28 = .ok (.putfield 58, 3) := by decide +kernel
theorem dX6_joinedTotal_31 : decode cX6_joinedTotal 31 = .ok (.aload_n 0, 1) := by decide +kernel
theorem dX6_joinedTotal_32 : decode cX6_joinedTotal 32 = .ok (.getfield 58, 3) := by decide +kernel
theorem dX6_joinedTotal_35 : decode cX6_joinedTotal 35 = .ok (.ireturn, 1) := by decide +kernel
theorem dX6_countJoined_0 : decode cX6_countJoined 0 = .ok (.aload_n 0, 1) := by decide +kernel
theorem dX6_countJoined_1 : decode cX6_countJoined 1 = .ok (.iconst (-1), 1) := by decide +kernel
theorem dX6_countJoined_2 : decode cX6_countJoined 2 = .ok (.putfield 54, 3) := by decide +kernel
theorem dX6_countJoined_5 : decode cX6_countJoined 5 = .ok (.aload_n 0, 1) := by decide +kernel
theorem dX6_countJoined_6 : decode cX6_countJoined 6 = .ok (.getfield 30, 3) := by decide +kernel
theorem dX6_countJoined_9 : decode cX6_countJoined 9 = .ok (.iconst (-1), 1) := by decide +kernel
theorem dX6_countJoined_10 : decode cX6_countJoined 10 = .ok (.invokestatic 139, 3) := by decide +kernel
theorem dX6_countJoined_13 : decode cX6_countJoined 13 = .ok (.iconst 0, 1) := by decide +kernel
theorem dX6_countJoined_14 : decode cX6_countJoined 14 = .ok (.istore_n 1, 1) := by decide +kernel
theorem dX6_countJoined_15 : decode cX6_countJoined 15 = .ok (.iconst 0, 1) := by decide +kernel
theorem dX6_countJoined_16 : decode cX6_countJoined 16 = .ok (.istore_n 2, 1) := by decide +kernel
theorem dX6_countJoined_17 : decode cX6_countJoined 17 = .ok (.iload_n 2, 1) := by decide +kernel
theorem dX6_countJoined_18 : decode cX6_countJoined 18 = .ok (.aload_n 0, 1) := by decide +kernel
theorem dX6_countJoined_19 : decode cX6_countJoined 19 = .ok (.getfield 75, 3) := by decide +kernel
theorem dX6_countJoined_22 : decode cX6_countJoined 22 = .ok (.if_icmp .ge 26, 3) := by decide +kernel
theorem dX6_countJoined_25 : decode cX6_countJoined 25 = .ok (.aload_n 0, 1) := by decide +kernel
theorem dX6_countJoined_26 : decode cX6_countJoined 26 = .ok (.iload_n 2, 1) := by decide +kernel
theorem dX6_countJoined_27 : decode cX6_countJoined 27 = .ok (.invokevirtual 170, 3) := by decide +kernel
theorem dX6_countJoined_30 : decode cX6_countJoined 30 = .ok (.iconst (-1), 1) := by decide +kernel
theorem dX6_countJoined_31 : decode cX6_countJoined 31 = .ok (.if_icmp .ne 11, 3) := by decide +kernel
theorem dX6_countJoined_34 : decode cX6_countJoined 34 = .ok (.iinc 1 1, 3) := by decide +kernel
theorem dX6_countJoined_37 : decode cX6_countJoined 37 = .ok (.aload_n 0, 1) := by decide +kernel
theorem dX6_countJoined_38 : decode cX6_countJoined 38 = .ok (.iload_n 2, 1) := by decide +kernel
theorem dX6_countJoined_39 : decode cX6_countJoined 39 = .ok (.invokevirtual 173, 3) := by decide +kernel
theorem dX6_countJoined_42 : decode cX6_countJoined 42 = .ok (.iinc 2 1, 3) := by decide +kernel
theorem dX6_countJoined_45 : decode cX6_countJoined 45 = .ok (.goto (-28), 3) := by decide +kernel
theorem dX6_countJoined_48 : decode cX6_countJoined 48 = .ok (.iload_n 1, 1) := by decide +kernel
theorem dX6_countJoined_49 : decode cX6_countJoined 49 = .ok (.ireturn, 1) := by decide +kernel
theorem dX6_spreadByAll_0 : decode cX6_spreadByAll 0 = .ok (.aload_n 0, 1) := by decide +kernel
theorem dX6_spreadByAll_1 : decode cX6_spreadByAll 1 = .ok (.iconst 0, 1) := by decide +kernel
theorem dX6_spreadByAll_2 : decode cX6_spreadByAll 2 = .ok (.putfield 153, 3) := by decide +kernel
theorem dX6_spreadByAll_5 : decode cX6_spreadByAll 5 = .ok (.aload_n 0, 1) := by decide +kernel
theorem dX6_spreadByAll_6 : decode cX6_spreadByAll 6 = .ok (.aload_n 0, 1) := by decide +kernel
theorem dX6_spreadByAll_7 : decode cX6_spreadByAll 7 = .ok (.getfield 30, 3) := by decide +kernel
theorem dX6_spreadByAll_10 : decode cX6_spreadByAll 10 = .ok (.iload_n 1, 1) := by decide +kernel
theorem dX6_spreadByAll_11 : decode cX6_spreadByAll 11 = .ok (.iconst 0, 1) := by decide +kernel
theorem dX6_spreadByAll_12 : decode cX6_spreadByAll 12 = .ok (.invokevirtual 156, 3) := by decide +kernel
theorem dX6_spreadByAll_15 : decode cX6_spreadByAll 15 = .ok (.iconst 0, 1) := by decide +kernel
theorem dX6_spreadByAll_16 : decode cX6_spreadByAll 16 = .ok (.istore_n 2, 1) := by decide +kernel
theorem dX6_spreadByAll_17 : decode cX6_spreadByAll 17 = .ok (.iload_n 2, 1) := by decide +kernel
theorem dX6_spreadByAll_18 : decode cX6_spreadByAll 18 = .ok (.aload_n 0, 1) := by decide +kernel
theorem dX6_spreadByAll_19 : decode cX6_spreadByAll 19 = .ok (.getfield 153, 3) := by decide +kernel
theorem dX6_spreadByAll_22 : decode cX6_spreadByAll 22 = .ok (.if_icmp .ge 86, 3) := by decide +kernel
theorem dX6_spreadByAll_25 : decode cX6_spreadByAll 25 = .ok (.iload_n 2, 1) := by decide +kernel
theorem dX6_spreadByAll_26 : decode cX6_spreadByAll 26 = .ok (.sipush 1000, 3) := by decide +kernel
theorem dX6_spreadByAll_29 : decode cX6_spreadByAll 29 = .ok (.if_icmp .ge 79, 3) := by decide +kernel
theorem dX6_spreadByAll_32 : decode cX6_spreadByAll 32 = .ok (.aload_n 0, 1) := by decide +kernel
theorem dX6_spreadByAll_33 : decode cX6_spreadByAll 33 = .ok (.aload_n 0, 1) := by decide +kernel
theorem dX6_spreadByAll_34 : decode cX6_spreadByAll 34 = .ok (.getfield 33, 3) := by decide +kernel
theorem dX6_spreadByAll_37 : decode cX6_spreadByAll 37 = .ok (.iload_n 2, 1) := by decide +kernel
theorem dX6_spreadByAll_38 : decode cX6_spreadByAll 38 = .ok (.invokestatic 146, 3) := by decide +kernel
theorem dX6_spreadByAll_41 : decode cX6_spreadByAll 41 = .ok (.invokevirtual 93, 3) := by decide +kernel
theorem dX6_spreadByAll_44 : decode cX6_spreadByAll 44 = .ok (.lstore_n 3, 1) := by decide +kernel
theorem dX6_spreadByAll_45 : decode cX6_spreadByAll 45 = .ok (.iconst 0, 1) := by decide +kernel
theorem dX6_spreadByAll_46 : decode cX6_spreadByAll 46 = .ok (.istore 5, 2) := by decide +kernel
theorem dX6_spreadByAll_48 : decode cX6_spreadByAll 48 = .ok (.iload 5, 2) := by decide +kernel
theorem dX6_spreadByAll_50 : decode cX6_spreadByAll 50 = .ok (.aload_n 0, 1) := by decide +kernel
theorem dX6_spreadByAll_51 : decode cX6_spreadByAll 51 = .ok (.getfield 46, 3) := by decide +kernel
theorem dX6_spreadByAll_54 : decode cX6_spreadByAll 54 = .ok (.getfield 176, 3) := by decide +kernel
theorem dX6_spreadByAll_57 : decode cX6_spreadByAll 57 = .ok (.if_icmp .ge 45, 3) := by decide +kernel
theorem dX6_spreadByAll_60 : decode cX6_spreadByAll 60 = .ok (.aload_n 0, 1) := by decide +kernel
theorem dX6_spreadByAll_61 : decode cX6_spreadByAll 61 = .ok (.getfield 46, 3) := by decide +kernel
theorem dX6_spreadByAll_64 : decode cX6_spreadByAll 64 = .ok (.lload_n 3, 1) := by decide +kernel
theorem dX6_spreadByAll_65 : decode cX6_spreadByAll 65 = .ok (.iload 5, 2) := by decide +kernel
theorem dX6_spreadByAll_67 : decode cX6_spreadByAll 67 = .ok (.invokevirtual 107, 3) := by decide +kernel
theorem dX6_spreadByAll_70 : decode cX6_spreadByAll 70 = .ok (.ifCond .eq 26, 3) := by decide +kernel
theorem dX6_spreadByAll_73 : decode cX6_spreadByAll 73 = .ok (.aload_n 0, 1) := by decide +kernel
theorem dX6_spreadByAll_74 : decode cX6_spreadByAll 74 = .ok (.aload_n 0, 1) := by decide +kernel
theorem dX6_spreadByAll_75 : decode cX6_spreadByAll 75 = .ok (.getfield 30, 3) := by decide +kernel
theorem dX6_spreadByAll_78 : decode cX6_spreadByAll 78 = .ok (.aload_n 0, 1) := by decide +kernel
theorem dX6_spreadByAll_79 : decode cX6_spreadByAll 79 = .ok (.aload_n 0, 1) := by decide +kernel
theorem dX6_spreadByAll_80 : decode cX6_spreadByAll 80 = .ok (.getfield 46, 3) := by decide +kernel
theorem dX6_spreadByAll_83 : decode cX6_spreadByAll 83 = .ok (.lload_n 3, 1) := by decide +kernel
theorem dX6_spreadByAll_84 : decode cX6_spreadByAll 84 = .ok (.iload 5, 2) := by decide +kernel
theorem dX6_spreadByAll_86 : decode cX6_spreadByAll 86 = .ok (.invokevirtual 111, 3) := by decide +kernel
theorem dX6_spreadByAll_89 : decode cX6_spreadByAll 89 = .ok (.invokevirtual 115, 3) := by decide +kernel
theorem dX6_spreadByAll_92 : decode cX6_spreadByAll 92 = .ok (.iconst 0, 1) := by decide +kernel
theorem dX6_spreadByAll_93 : decode cX6_spreadByAll 93 = .ok (.invokevirtual 156, 3) := by decide +kernel
theorem dX6_spreadByAll_96 : decode cX6_spreadByAll 96 = .ok (.iinc 5 1, 3) := by decide +kernel
theorem dX6_spreadByAll_99 : decode cX6_spreadByAll 99 = .ok (.goto (-51), 3) := by decide +kernel
theorem dX6_spreadByAll_102 : decode cX6_spreadByAll 102 = .ok (.iinc 2 1, 3) := by decide +kernel
theorem dX6_spreadByAll_105 : decode cX6_spreadByAll 105 = .ok (.goto (-88), 3) := by decide +kernel
theorem dX6_spreadByAll_108 : decode cX6_spreadByAll 108 = .ok (.return_, 1) := by decide +kernel
theorem dX6_distance_0 : decode cX6_distance 0 = .ok (.aload_n 0, 1) := by decide +kernel
theorem dX6_distance_1 : decode cX6_distance 1 = .ok (.getfield 54, 3) := by decide +kernel
theorem dX6_distance_4 : decode cX6_distance 4 = .ok (.iload_n 2, 1) := by decide +kernel
theorem dX6_distance_5 : decode cX6_distance 5 = .ok (.if_icmp .ne 9, 3) := by decide +kernel
theorem dX6_distance_8 : decode cX6_distance 8 = .ok (.aload_n 0, 1) := by decide +kernel
theorem dX6_distance_9 : decode cX6_distance 9 = .ok (.iload_n 1, 1) := by decide +kernel
theorem dX6_distance_10 : decode cX6_distance 10 = .ok (.invokevirtual 170, 3) := by decide +kernel
theorem dX6_distance_13 : decode cX6_distance 13 = .ok (.ireturn, 1) := by decide +kernel
theorem dX6_distance_14 : decode cX6_distance 14 = .ok (.aload_n 0, 1) := by decide +kernel
theorem dX6_distance_15 : decode cX6_distance 15 = .ok (.iload_n 1, 1) := by decide +kernel
theorem dX6_distance_16 : decode cX6_distance 16 = .ok (.invokevirtual 179, 3) := by decide +kernel
theorem dX6_distance_19 : decode cX6_distance 19 = .ok (.aload_n 0, 1) := by decide +kernel
theorem dX6_distance_20 : decode cX6_distance 20 = .ok (.iload_n 2, 1) := by decide +kernel
theorem dX6_distance_21 : decode cX6_distance 21 = .ok (.invokevirtual 170, 3) := by decide +kernel
theorem dX6_distance_24 : decode cX6_distance 24 = .ok (.ireturn, 1) := by decide +kernel
theorem dX6_greatestDistance_0 : decode cX6_greatestDistance 0 = .ok (.aload_n 0, 1) := by decide +kernel
theorem dX6_greatestDistance_1 : decode cX6_greatestDistance 1 = .ok (.aload_n 0, 1) := by decide +kernel
theorem dX6_greatestDistance_2 : decode cX6_greatestDistance 2 = .ok (.iload_n 1, 1) := by decide +kernel
theorem dX6_greatestDistance_3 : decode cX6_greatestDistance 3 = .ok (.invokevirtual 182, 3) := by decide +kernel
theorem dX6_greatestDistance_6 : decode cX6_greatestDistance 6 = .ok (.invokevirtual 170, 3) := by decide +kernel
theorem dX6_greatestDistance_9 : decode cX6_greatestDistance 9 = .ok (.ireturn, 1) := by decide +kernel
theorem dX6_firstAtGreatest_0 : decode cX6_firstAtGreatest 0 = .ok (.aload_n 0, 1) := by decide +kernel
theorem dX6_firstAtGreatest_1 : decode cX6_firstAtGreatest 1 = .ok (.iload_n 1, 1) := by decide +kernel
theorem dX6_firstAtGreatest_2 : decode cX6_firstAtGreatest 2 = .ok (.invokevirtual 179, 3) := by decide +kernel
theorem dX6_firstAtGreatest_5 : decode cX6_firstAtGreatest 5 = .ok (.iload_n 1, 1) := by decide +kernel
theorem dX6_firstAtGreatest_6 : decode cX6_firstAtGreatest 6 = .ok (.istore_n 2, 1) := by decide +kernel
theorem dX6_firstAtGreatest_7 : decode cX6_firstAtGreatest 7 = .ok (.iconst 0, 1) := by decide +kernel
theorem dX6_firstAtGreatest_8 : decode cX6_firstAtGreatest 8 = .ok (.istore_n 3, 1) := by decide +kernel
theorem dX6_firstAtGreatest_9 : decode cX6_firstAtGreatest 9 = .ok (.iload_n 3, 1) := by decide +kernel
theorem dX6_firstAtGreatest_10 : decode cX6_firstAtGreatest 10 = .ok (.aload_n 0, 1) := by decide +kernel
theorem dX6_firstAtGreatest_11 : decode cX6_firstAtGreatest 11 = .ok (.getfield 75, 3) := by decide +kernel
theorem dX6_firstAtGreatest_14 : decode cX6_firstAtGreatest 14 = .ok (.if_icmp .ge 24, 3) := by decide +kernel
theorem dX6_firstAtGreatest_17 : decode cX6_firstAtGreatest 17 = .ok (.aload_n 0, 1) := by decide +kernel
theorem dX6_firstAtGreatest_18 : decode cX6_firstAtGreatest 18 = .ok (.iload_n 3, 1) := by decide +kernel
theorem dX6_firstAtGreatest_19 : decode cX6_firstAtGreatest 19 = .ok (.invokevirtual 170, 3) := by decide +kernel
theorem dX6_firstAtGreatest_22 : decode cX6_firstAtGreatest 22 = .ok (.aload_n 0, 1) := by decide +kernel
theorem dX6_firstAtGreatest_23 : decode cX6_firstAtGreatest 23 = .ok (.iload_n 2, 1) := by decide +kernel
theorem dX6_firstAtGreatest_24 : decode cX6_firstAtGreatest 24 = .ok (.invokevirtual 170, 3) := by decide +kernel
theorem dX6_firstAtGreatest_27 : decode cX6_firstAtGreatest 27 = .ok (.if_icmp .le 5, 3) := by decide +kernel
theorem dX6_firstAtGreatest_30 : decode cX6_firstAtGreatest 30 = .ok (.iload_n 3, 1) := by decide +kernel
theorem dX6_firstAtGreatest_31 : decode cX6_firstAtGreatest 31 = .ok (.istore_n 2, 1) := by decide +kernel
theorem dX6_firstAtGreatest_32 : decode cX6_firstAtGreatest 32 = .ok (.iinc 3 1, 3) := by decide +kernel
theorem dX6_firstAtGreatest_35 : decode cX6_firstAtGreatest 35 = .ok (.goto (-26), 3) := by decide +kernel
theorem dX6_firstAtGreatest_38 : decode cX6_firstAtGreatest 38 = .ok (.iload_n 2, 1) := by decide +kernel
theorem dX6_firstAtGreatest_39 : decode cX6_firstAtGreatest 39 = .ok (.ireturn, 1) := by decide +kernel
theorem dX6_reached_0 : decode cX6_reached 0 = .ok (.aload_n 0, 1) := by decide +kernel
theorem dX6_reached_1 : decode cX6_reached 1 = .ok (.iload_n 1, 1) := by decide +kernel
theorem dX6_reached_2 : decode cX6_reached 2 = .ok (.invokevirtual 179, 3) := by decide +kernel
theorem dX6_reached_5 : decode cX6_reached 5 = .ok (.iconst 0, 1) := by decide +kernel
theorem dX6_reached_6 : decode cX6_reached 6 = .ok (.istore_n 3, 1) := by decide +kernel
theorem dX6_reached_7 : decode cX6_reached 7 = .ok (.iconst 0, 1) := by decide +kernel
theorem dX6_reached_8 : decode cX6_reached 8 = .ok (.istore 4, 2) := by decide +kernel
theorem dX6_reached_10 : decode cX6_reached 10 = .ok (.iload 4, 2) := by decide +kernel
theorem dX6_reached_12 : decode cX6_reached 12 = .ok (.aload_n 0, 1) := by decide +kernel
theorem dX6_reached_13 : decode cX6_reached 13 = .ok (.getfield 75, 3) := by decide +kernel
theorem dX6_reached_16 : decode cX6_reached 16 = .ok (.if_icmp .ge 32, 3) := by decide +kernel
theorem dX6_reached_19 : decode cX6_reached 19 = .ok (.aload_n 0, 1) := by decide +kernel
theorem dX6_reached_20 : decode cX6_reached 20 = .ok (.iload 4, 2) := by decide +kernel
theorem dX6_reached_22 : decode cX6_reached 22 = .ok (.invokevirtual 170, 3) := by decide +kernel
theorem dX6_reached_25 : decode cX6_reached 25 = .ok (.iconst (-1), 1) := by decide +kernel
theorem dX6_reached_26 : decode cX6_reached 26 = .ok (.if_icmp .eq 16, 3) := by decide +kernel
theorem dX6_reached_29 : decode cX6_reached 29 = .ok (.aload_n 0, 1) := by decide +kernel
theorem dX6_reached_30 : decode cX6_reached 30 = .ok (.iload 4, 2) := by decide +kernel
theorem dX6_reached_32 : decode cX6_reached 32 = .ok (.invokevirtual 170, 3) := by decide +kernel
theorem dX6_reached_35 : decode cX6_reached 35 = .ok (.iload_n 2, 1) := by decide +kernel
theorem dX6_reached_36 : decode cX6_reached 36 = .ok (.if_icmp .gt 6, 3) := by decide +kernel
theorem dX6_reached_39 : decode cX6_reached 39 = .ok (.iinc 3 1, 3) := by decide +kernel
theorem dX6_reached_42 : decode cX6_reached 42 = .ok (.iinc 4 1, 3) := by decide +kernel
theorem dX6_reached_45 : decode cX6_reached 45 = .ok (.goto (-35), 3) := by decide +kernel
theorem dX6_reached_48 : decode cX6_reached 48 = .ok (.iload_n 3, 1) := by decide +kernel
theorem dX6_reached_49 : decode cX6_reached 49 = .ok (.ireturn, 1) := by decide +kernel
theorem dX6_choiceRows_0 : decode cX6_choiceRows 0 = .ok (.aload_n 0, 1) := by decide +kernel
theorem dX6_choiceRows_1 : decode cX6_choiceRows 1 = .ok (.getfield 36, 3) := by decide +kernel
theorem dX6_choiceRows_4 : decode cX6_choiceRows 4 = .ok (.lconst 0, 1) := by decide +kernel
theorem dX6_choiceRows_5 : decode cX6_choiceRows 5 = .ok (.invokestatic 185, 3) := by decide +kernel
theorem dX6_choiceRows_8 : decode cX6_choiceRows 8 = .ok (.aload_n 0, 1) := by decide +kernel
theorem dX6_choiceRows_9 : decode cX6_choiceRows 9 = .ok (.getfield 36, 3) := by decide +kernel
theorem dX6_choiceRows_12 : decode cX6_choiceRows 12 = .ok (.iload_n 1, 1) := by decide +kernel
theorem dX6_choiceRows_13 : decode cX6_choiceRows 13 = .ok (.lconst 1, 1) := by decide +kernel
theorem dX6_choiceRows_14 : decode cX6_choiceRows 14 = .ok (.invokestatic 81, 3) := by decide +kernel
theorem dX6_choiceRows_17 : decode cX6_choiceRows 17 = .ok (.iconst 0, 1) := by decide +kernel
theorem dX6_choiceRows_18 : decode cX6_choiceRows 18 = .ok (.istore 4, 2) := by decide +kernel
theorem dX6_choiceRows_20 : decode cX6_choiceRows 20 = .ok (.iload 4, 2) := by decide +kernel
theorem dX6_choiceRows_22 : decode cX6_choiceRows 22 = .ok (.iload_n 2, 1) := by decide +kernel
theorem dX6_choiceRows_23 : decode cX6_choiceRows 23 = .ok (.if_icmp .ge 62, 3) := by decide +kernel
theorem dX6_choiceRows_26 : decode cX6_choiceRows 26 = .ok (.iconst 0, 1) := by decide +kernel
theorem dX6_choiceRows_27 : decode cX6_choiceRows 27 = .ok (.istore 5, 2) := by decide +kernel
theorem dX6_choiceRows_29 : decode cX6_choiceRows 29 = .ok (.iload 5, 2) := by decide +kernel
theorem dX6_choiceRows_31 : decode cX6_choiceRows 31 = .ok (.aload_n 0, 1) := by decide +kernel
theorem dX6_choiceRows_32 : decode cX6_choiceRows 32 = .ok (.getfield 75, 3) := by decide +kernel
theorem dX6_choiceRows_35 : decode cX6_choiceRows 35 = .ok (.if_icmp .ge 24, 3) := by decide +kernel
theorem dX6_choiceRows_38 : decode cX6_choiceRows 38 = .ok (.aload_n 0, 1) := by decide +kernel
theorem dX6_choiceRows_39 : decode cX6_choiceRows 39 = .ok (.getfield 39, 3) := by decide +kernel
theorem dX6_choiceRows_42 : decode cX6_choiceRows 42 = .ok (.iload 5, 2) := by decide +kernel
theorem dX6_choiceRows_44 : decode cX6_choiceRows 44 = .ok (.aload_n 0, 1) := by decide +kernel
theorem dX6_choiceRows_45 : decode cX6_choiceRows 45 = .ok (.iload 5, 2) := by decide +kernel
theorem dX6_choiceRows_47 : decode cX6_choiceRows 47 = .ok (.invokevirtual 188, 3) := by decide +kernel
theorem dX6_choiceRows_50 : decode cX6_choiceRows 50 = .ok (.invokestatic 81, 3) := by decide +kernel
theorem dX6_choiceRows_53 : decode cX6_choiceRows 53 = .ok (.iinc 5 1, 3) := by decide +kernel
theorem dX6_choiceRows_56 : decode cX6_choiceRows 56 = .ok (.goto (-27), 3) := by decide +kernel
theorem dX6_choiceRows_59 : decode cX6_choiceRows 59 = .ok (.aload_n 0, 1) := by decide +kernel
theorem dX6_choiceRows_60 : decode cX6_choiceRows 60 = .ok (.getfield 36, 3) := by decide +kernel
theorem dX6_choiceRows_63 : decode cX6_choiceRows 63 = .ok (.astore 5, 2) := by decide +kernel
theorem dX6_choiceRows_65 : decode cX6_choiceRows 65 = .ok (.aload_n 0, 1) := by decide +kernel
theorem dX6_choiceRows_66 : decode cX6_choiceRows 66 = .ok (.aload_n 0, 1) := by decide +kernel
theorem dX6_choiceRows_67 : decode cX6_choiceRows 67 = .ok (.getfield 39, 3) := by decide +kernel
theorem dX6_choiceRows_70 : decode cX6_choiceRows 70 = .ok (.putfield 36, 3) := by decide +kernel
theorem dX6_choiceRows_73 : decode cX6_choiceRows 73 = .ok (.aload_n 0, 1) := by decide +kernel
theorem dX6_choiceRows_74 : decode cX6_choiceRows 74 = .ok (.aload 5, 2) := by decide +kernel
theorem dX6_choiceRows_76 : decode cX6_choiceRows 76 = .ok (.putfield 39, 3) := by decide +kernel
theorem dX6_choiceRows_79 : decode cX6_choiceRows 79 = .ok (.iinc 4 1, 3) := by decide +kernel
theorem dX6_choiceRows_82 : decode cX6_choiceRows 82 = .ok (.goto (-62), 3) := by decide +kernel
theorem dX6_choiceRows_85 : decode cX6_choiceRows 85 = .ok (.aload_n 0, 1) := by decide +kernel
theorem dX6_choiceRows_86 : decode cX6_choiceRows 86 = .ok (.getfield 36, 3) := by decide +kernel
theorem dX6_choiceRows_89 : decode cX6_choiceRows 89 = .ok (.iload_n 3, 1) := by decide +kernel
theorem dX6_choiceRows_90 : decode cX6_choiceRows 90 = .ok (.invokestatic 133, 3) := by decide +kernel
theorem dX6_choiceRows_93 : decode cX6_choiceRows 93 = .ok (.lreturn, 1) := by decide +kernel
theorem dX6_choiceRowsTo_0 : decode cX6_choiceRowsTo 0 = .ok (.aload_n 0, 1) := by decide +kernel
theorem dX6_choiceRowsTo_1 : decode cX6_choiceRowsTo 1 = .ok (.iload_n 1, 1) := by decide +kernel
theorem dX6_choiceRowsTo_2 : decode cX6_choiceRowsTo 2 = .ok (.invokevirtual 159, 3) := by decide +kernel
theorem dX6_choiceRowsTo_5 : decode cX6_choiceRowsTo 5 = .ok (.istore_n 2, 1) := by decide +kernel
theorem dX6_choiceRowsTo_6 : decode cX6_choiceRowsTo 6 = .ok (.aload_n 0, 1) := by decide +kernel
theorem dX6_choiceRowsTo_7 : decode cX6_choiceRowsTo 7 = .ok (.iload_n 1, 1) := by decide +kernel
theorem dX6_choiceRowsTo_8 : decode cX6_choiceRowsTo 8 = .ok (.iconst 1, 1) := by decide +kernel
theorem dX6_choiceRowsTo_9 : decode cX6_choiceRowsTo 9 = .ok (.iadd, 1) := by decide +kernel
theorem dX6_choiceRowsTo_10 : decode cX6_choiceRowsTo 10 = .ok (.invokevirtual 159, 3) := by decide +kernel
theorem dX6_choiceRowsTo_13 : decode cX6_choiceRowsTo 13 = .ok (.istore_n 3, 1) := by decide +kernel
theorem dX6_choiceRowsTo_14 : decode cX6_choiceRowsTo 14 = .ok (.aload_n 0, 1) := by decide +kernel
theorem dX6_choiceRowsTo_15 : decode cX6_choiceRowsTo 15 = .ok (.getfield 36, 3) := by decide +kernel
theorem dX6_choiceRowsTo_18 : decode cX6_choiceRowsTo 18 = .ok (.iload_n 1, 1) := by decide +kernel
theorem dX6_choiceRowsTo_19 : decode cX6_choiceRowsTo 19 = .ok (.invokestatic 133, 3) := by decide +kernel
theorem dX6_choiceRowsTo_22 : decode cX6_choiceRowsTo 22 = .ok (.aload_n 0, 1) := by decide +kernel
theorem dX6_choiceRowsTo_23 : decode cX6_choiceRowsTo 23 = .ok (.getfield 46, 3) := by decide +kernel
theorem dX6_choiceRowsTo_26 : decode cX6_choiceRowsTo 26 = .ok (.getfield 191, 3) := by decide +kernel
theorem dX6_choiceRowsTo_29 : decode cX6_choiceRowsTo 29 = .ok (.iconst 2, 1) := by decide +kernel
theorem dX6_choiceRowsTo_30 : decode cX6_choiceRowsTo 30 = .ok (.iload_n 3, 1) := by decide +kernel
theorem dX6_choiceRowsTo_31 : decode cX6_choiceRowsTo 31 = .ok (.iload_n 2, 1) := by decide +kernel
theorem dX6_choiceRowsTo_32 : decode cX6_choiceRowsTo 32 = .ok (.isub, 1) := by decide +kernel
theorem dX6_choiceRowsTo_33 : decode cX6_choiceRowsTo 33 = .ok (.imul, 1) := by decide +kernel
theorem dX6_choiceRowsTo_34 : decode cX6_choiceRowsTo 34 = .ok (.isub, 1) := by decide +kernel
theorem dX6_choiceRowsTo_35 : decode cX6_choiceRowsTo 35 = .ok (.i2l, 1) := by decide +kernel
theorem dX6_choiceRowsTo_36 : decode cX6_choiceRowsTo 36 = .ok (.lmul, 1) := by decide +kernel
theorem dX6_choiceRowsTo_37 : decode cX6_choiceRowsTo 37 = .ok (.lstore 4, 2) := by decide +kernel
theorem dX6_choiceRowsTo_39 : decode cX6_choiceRowsTo 39 = .ok (.iload_n 2, 1) := by decide +kernel
theorem dX6_choiceRowsTo_40 : decode cX6_choiceRowsTo 40 = .ok (.istore 6, 2) := by decide +kernel
theorem dX6_choiceRowsTo_42 : decode cX6_choiceRowsTo 42 = .ok (.iload 6, 2) := by decide +kernel
theorem dX6_choiceRowsTo_44 : decode cX6_choiceRowsTo 44 = .ok (.iload_n 3, 1) := by decide +kernel
theorem dX6_choiceRowsTo_45 : decode cX6_choiceRowsTo 45 = .ok (.if_icmp .ge 53, 3) := by decide +kernel
theorem dX6_choiceRowsTo_48 : decode cX6_choiceRowsTo 48 = .ok (.aload_n 0, 1) := by decide +kernel
theorem dX6_choiceRowsTo_49 : decode cX6_choiceRowsTo 49 = .ok (.getfield 21, 3) := by decide +kernel
theorem dX6_choiceRowsTo_52 : decode cX6_choiceRowsTo 52 = .ok (.iload 6, 2) := by decide +kernel
theorem dX6_choiceRowsTo_54 : decode cX6_choiceRowsTo 54 = .ok (.iaload, 1) := by decide +kernel
theorem dX6_choiceRowsTo_55 : decode cX6_choiceRowsTo 55 = .ok (.istore 7, 2) := by decide +kernel
theorem dX6_choiceRowsTo_57 : decode cX6_choiceRowsTo 57 = .ok (.lload 4, 2) := by decide +kernel
theorem dX6_choiceRowsTo_59 : decode cX6_choiceRowsTo 59 = .ok (.iload 7, 2) := by decide +kernel
theorem dX6_choiceRowsTo_61 : decode cX6_choiceRowsTo 61 = .ok (.ifCond .lt 27, 3) := by decide +kernel
theorem dX6_choiceRowsTo_64 : decode cX6_choiceRowsTo 64 = .ok (.iload 7, 2) := by decide +kernel
theorem dX6_choiceRowsTo_66 : decode cX6_choiceRowsTo 66 = .ok (.aload_n 0, 1) := by decide +kernel
theorem dX6_choiceRowsTo_67 : decode cX6_choiceRowsTo 67 = .ok (.getfield 36, 3) := by decide +kernel
theorem dX6_choiceRowsTo_70 : decode cX6_choiceRowsTo 70 = .ok (.arraylength, 1) := by decide +kernel
theorem dX6_choiceRowsTo_71 : decode cX6_choiceRowsTo 71 = .ok (.if_icmp .ge 17, 3) := by decide +kernel
theorem dX6_choiceRowsTo_74 : decode cX6_choiceRowsTo 74 = .ok (.ldc2_w 194, 3) := by decide +kernel
theorem dX6_choiceRowsTo_77 : decode cX6_choiceRowsTo 77 = .ok (.aload_n 0, 1) := by decide +kernel
theorem dX6_choiceRowsTo_78 : decode cX6_choiceRowsTo 78 = .ok (.getfield 36, 3) := by decide +kernel
theorem dX6_choiceRowsTo_81 : decode cX6_choiceRowsTo 81 = .ok (.iload 7, 2) := by decide +kernel
theorem dX6_choiceRowsTo_83 : decode cX6_choiceRowsTo 83 = .ok (.laload, 1) := by decide +kernel
theorem dX6_choiceRowsTo_84 : decode cX6_choiceRowsTo 84 = .ok (.lmul, 1) := by decide +kernel
theorem dX6_choiceRowsTo_85 : decode cX6_choiceRowsTo 85 = .ok (.goto 4, 3) := by decide +kernel
theorem dX6_choiceRowsTo_88 : decode cX6_choiceRowsTo 88 = .ok (.lconst 0, 1) := by decide +kernel
theorem dX6_choiceRowsTo_89 : decode cX6_choiceRowsTo 89 = .ok (.ladd, 1) := by decide +kernel
theorem dX6_choiceRowsTo_90 : decode cX6_choiceRowsTo 90 = .ok (.lstore 4, 2) := by decide +kernel
theorem dX6_choiceRowsTo_92 : decode cX6_choiceRowsTo 92 = .ok (.iinc 6 1, 3) := by decide +kernel
theorem dX6_choiceRowsTo_95 : decode cX6_choiceRowsTo 95 = .ok (.goto (-53), 3) := by decide +kernel
theorem dX6_choiceRowsTo_98 : decode cX6_choiceRowsTo 98 = .ok (.lload 4, 2) := by decide +kernel
theorem dX6_choiceRowsTo_100 : decode cX6_choiceRowsTo 100 = .ok (.lreturn, 1) := by decide +kernel
theorem dX8_init_0 : decode cX8_init 0 = .ok (.aload_n 0, 1) := by decide +kernel
theorem dX8_init_1 : decode cX8_init 1 = .ok (.invokespecial 3, 3) := by decide +kernel
theorem dX8_init_4 : decode cX8_init 4 = .ok (.aload_n 0, 1) := by decide +kernel
theorem dX8_init_5 : decode cX8_init 5 = .ok (.iconst (-1), 1) := by decide +kernel
theorem dX8_init_6 : decode cX8_init 6 = .ok (.putfield 9, 3) := by decide +kernel
theorem dX8_init_9 : decode cX8_init 9 = .ok (.aload_n 0, 1) := by decide +kernel
theorem dX8_init_10 : decode cX8_init 10 = .ok (.bipush 16, 2) := by decide +kernel
theorem dX8_init_12 : decode cX8_init 12 = .ok (.newarray .int, 2) := by decide +kernel
theorem dX8_init_14 : decode cX8_init 14 = .ok (.putfield 15, 3) := by decide +kernel
theorem dX8_init_17 : decode cX8_init 17 = .ok (.return_, 1) := by decide +kernel
theorem dX8_read_0 : decode cX8_read 0 = .ok (.aload_n 0, 1) := by decide +kernel
theorem dX8_read_1 : decode cX8_read 1 = .ok (.iconst 0, 1) := by decide +kernel
theorem dX8_read_2 : decode cX8_read 2 = .ok (.putfield 19, 3) := by decide +kernel
theorem dX8_read_5 : decode cX8_read 5 = .ok (.aload_n 0, 1) := by decide +kernel
theorem dX8_read_6 : decode cX8_read 6 = .ok (.iconst (-1), 1) := by decide +kernel
theorem dX8_read_7 : decode cX8_read 7 = .ok (.putfield 9, 3) := by decide +kernel
theorem dX8_read_10 : decode cX8_read 10 = .ok (.aload_n 0, 1) := by decide +kernel
theorem dX8_read_11 : decode cX8_read 11 = .ok (.iconst 0, 1) := by decide +kernel
theorem dX8_read_12 : decode cX8_read 12 = .ok (.putfield 22, 3) := by decide +kernel
theorem dX8_read_15 : decode cX8_read 15 = .ok (.aload_n 0, 1) := by decide +kernel
theorem dX8_read_16 : decode cX8_read 16 = .ok (.iconst 0, 1) := by decide +kernel
theorem dX8_read_17 : decode cX8_read 17 = .ok (.putfield 25, 3) := by decide +kernel
theorem dX8_read_20 : decode cX8_read 20 = .ok (.aload_n 0, 1) := by decide +kernel
theorem dX8_read_21 : decode cX8_read 21 = .ok (.iconst 0, 1) := by decide +kernel
theorem dX8_read_22 : decode cX8_read 22 = .ok (.putfield 28, 3) := by decide +kernel
theorem dX8_read_25 : decode cX8_read 25 = .ok (.aload_n 0, 1) := by decide +kernel
theorem dX8_read_26 : decode cX8_read 26 = .ok (.iconst 0, 1) := by decide +kernel
theorem dX8_read_27 : decode cX8_read 27 = .ok (.putfield 31, 3) := by decide +kernel
theorem dX8_read_30 : decode cX8_read 30 = .ok (.aload_n 0, 1) := by decide +kernel
theorem dX8_read_31 : decode cX8_read 31 = .ok (.iconst 0, 1) := by decide +kernel
theorem dX8_read_32 : decode cX8_read 32 = .ok (.putfield 34, 3) := by decide +kernel
theorem dX8_read_35 : decode cX8_read 35 = .ok (.aload_n 0, 1) := by decide +kernel
theorem dX8_read_36 : decode cX8_read 36 = .ok (.iconst 0, 1) := by decide +kernel
theorem dX8_read_37 : decode cX8_read 37 = .ok (.putfield 37, 3) := by decide +kernel
theorem dX8_read_40 : decode cX8_read 40 = .ok (.aload_n 0, 1) := by decide +kernel
theorem dX8_read_41 : decode cX8_read 41 = .ok (.getfield 15, 3) := by decide +kernel
theorem dX8_read_44 : decode cX8_read 44 = .ok (.iconst 0, 1) := by decide +kernel
theorem dX8_read_45 : decode cX8_read 45 = .ok (.invokestatic 40, 3) := by decide +kernel
theorem dX8_read_48 : decode cX8_read 48 = .ok (.aload_n 0, 1) := by decide +kernel
theorem dX8_read_49 : decode cX8_read 49 = .ok (.aload_n 1, 1) := by decide +kernel
theorem dX8_read_50 : decode cX8_read 50 = .ok (.invokevirtual 46, 3) := by decide +kernel
theorem dX8_read_53 : decode cX8_read 53 = .ok (.aload_n 0, 1) := by decide +kernel
theorem dX8_read_54 : decode cX8_read 54 = .ok (.getfield 50, 3) := by decide +kernel
theorem dX8_read_57 : decode cX8_read 57 = .ok (.ifCond .ne 5, 3) := by decide +kernel
theorem dX8_read_60 : decode cX8_read 60 = .ok (.iconst 1, 1) := by decide +kernel
theorem dX8_read_61 : decode cX8_read 61 = .ok (.ireturn, 1) := by decide +kernel
theorem dX8_read_62 : decode cX8_read 62 = .ok (.aload_n 0, 1) := by decide +kernel
theorem dX8_read_63 : decode cX8_read 63 = .ok (.aload_n 1, 1) := by decide +kernel
theorem dX8_read_64 : decode cX8_read 64 = .ok (.invokevirtual 53, 3) := by decide +kernel
theorem dX8_read_67 : decode cX8_read 67 = .ok (.ifCond .ne 5, 3) := by decide +kernel
theorem dX8_read_70 : decode cX8_read 70 = .ok (.iconst 0, 1) := by decide +kernel
theorem dX8_read_71 : decode cX8_read 71 = .ok (.ireturn, 1) := by decide +kernel
theorem dX8_read_72 : decode cX8_read 72 = .ok (.iconst 0, 1) := by decide +kernel
theorem dX8_read_73 : decode cX8_read 73 = .ok (.istore_n 2, 1) := by decide +kernel
theorem dX8_read_74 : decode cX8_read 74 = .ok (.iload_n 2, 1) := by decide +kernel
theorem dX8_read_75 : decode cX8_read 75 = .ok (.aload_n 0, 1) := by decide +kernel
theorem dX8_read_76 : decode cX8_read 76 = .ok (.getfield 22, 3) := by decide +kernel
theorem dX8_read_79 : decode cX8_read 79 = .ok (.if_icmp .ge 20, 3) := by decide +kernel
theorem dX8_read_82 : decode cX8_read 82 = .ok (.aload_n 0, 1) := by decide +kernel
theorem dX8_read_83 : decode cX8_read 83 = .ok (.aload_n 1, 1) := by decide +kernel
theorem dX8_read_84 : decode cX8_read 84 = .ok (.iload_n 2, 1) := by decide +kernel
theorem dX8_read_85 : decode cX8_read 85 = .ok (.invokevirtual 57, 3) := by decide +kernel
theorem dX8_read_88 : decode cX8_read 88 = .ok (.ifCond .ne 5, 3) := by decide +kernel
theorem dX8_read_91 : decode cX8_read 91 = .ok (.iconst 0, 1) := by decide +kernel
theorem dX8_read_92 : decode cX8_read 92 = .ok (.ireturn, 1) := by decide +kernel
theorem dX8_read_93 : decode cX8_read 93 = .ok (.iinc 2 1, 3) := by decide +kernel
theorem dX8_read_96 : decode cX8_read 96 = .ok (.goto (-22), 3) := by decide +kernel
theorem dX8_read_99 : decode cX8_read 99 = .ok (.iconst 0, 1) := by decide +kernel
theorem dX8_read_100 : decode cX8_read 100 = .ok (.istore_n 2, 1) := by decide +kernel
theorem dX8_read_101 : decode cX8_read 101 = .ok (.iload_n 2, 1) := by decide +kernel
theorem dX8_read_102 : decode cX8_read 102 = .ok (.bipush 16, 2) := by decide +kernel
theorem dX8_read_104 : decode cX8_read 104 = .ok (.if_icmp .gt 26, 3) := by decide +kernel
theorem dX8_read_107 : decode cX8_read 107 = .ok (.aload_n 0, 1) := by decide +kernel
theorem dX8_read_108 : decode cX8_read 108 = .ok (.getfield 50, 3) := by decide +kernel
theorem dX8_read_111 : decode cX8_read 111 = .ok (.ifCond .eq 19, 3) := by decide +kernel
theorem dX8_read_114 : decode cX8_read 114 = .ok (.aload_n 0, 1) := by decide +kernel
theorem dX8_read_115 : decode cX8_read 115 = .ok (.aload_n 1, 1) := by decide +kernel
theorem dX8_read_116 : decode cX8_read 116 = .ok (.invokevirtual 61, 3) := by decide +kernel
theorem dX8_read_119 : decode cX8_read 119 = .ok (.ifCond .ne 5, 3) := by decide +kernel
theorem dX8_read_122 : decode cX8_read 122 = .ok (.iconst 0, 1) := by decide +kernel
theorem dX8_read_123 : decode cX8_read 123 = .ok (.ireturn, 1) := by decide +kernel
theorem dX8_read_124 : decode cX8_read 124 = .ok (.iinc 2 1, 3) := by decide +kernel
theorem dX8_read_127 : decode cX8_read 127 = .ok (.goto (-26), 3) := by decide +kernel
theorem dX8_read_130 : decode cX8_read 130 = .ok (.iconst 1, 1) := by decide +kernel
theorem dX8_read_131 : decode cX8_read 131 = .ok (.ireturn, 1) := by decide +kernel
theorem dX8_countAt_0 : decode cX8_countAt 0 = .ok (.aload_n 0, 1) := by decide +kernel
theorem dX8_countAt_1 : decode cX8_countAt 1 = .ok (.getfield 15, 3) := by decide +kernel
theorem dX8_countAt_4 : decode cX8_countAt 4 = .ok (.iconst 4, 1) := by decide +kernel
theorem dX8_countAt_5 : decode cX8_countAt 5 = .ok (.iload_n 1, 1) := by decide +kernel
theorem dX8_countAt_6 : decode cX8_countAt 6 = .ok (.imul, 1) := by decide +kernel
theorem dX8_countAt_7 : decode cX8_countAt 7 = .ok (.iload_n 2, 1) := by decide +kernel
theorem dX8_countAt_8 : decode cX8_countAt 8 = .ok (.iadd, 1) := by decide +kernel
theorem dX8_countAt_9 : decode cX8_countAt 9 = .ok (.invokestatic 64, 3) := by decide +kernel
theorem dX8_countAt_12 : decode cX8_countAt 12 = .ok (.ireturn, 1) := by decide +kernel
theorem dX8_readSizes_0 : decode cX8_readSizes 0 = .ok (.aload_n 0, 1) := by decide +kernel
theorem dX8_readSizes_1 : decode cX8_readSizes 1 = .ok (.aload_n 1, 1) := by decide +kernel
theorem dX8_readSizes_2 : decode cX8_readSizes 2 = .ok (.ldc 70, 2) := by decide +kernel
theorem dX8_readSizes_4 : decode cX8_readSizes 4 = .ok (.invokevirtual 72, 3) := by decide +kernel
theorem dX8_readSizes_7 : decode cX8_readSizes 7 = .ok (.ifCond .eq 22, 3) := by decide +kernel
theorem dX8_readSizes_10 : decode cX8_readSizes 10 = .ok (.aload_n 0, 1) := by decide +kernel
theorem dX8_readSizes_11 : decode cX8_readSizes 11 = .ok (.aload_n 1, 1) := by decide +kernel
theorem dX8_readSizes_12 : decode cX8_readSizes 12 = .ok (.ldc 76, 2) := by decide +kernel
theorem dX8_readSizes_14 : decode cX8_readSizes 14 = .ok (.invokevirtual 72, 3) := by decide +kernel
theorem dX8_readSizes_17 : decode cX8_readSizes 17 = .ok (.ifCond .eq 12, 3) := by decide +kernel
theorem dX8_readSizes_20 : decode cX8_readSizes 20 = .ok (.aload_n 0, 1) := by decide +kernel
theorem dX8_readSizes_21 : decode cX8_readSizes 21 = .ok (.iconst 2, 1) := by decide +kernel
theorem dX8_readSizes_22 : decode cX8_readSizes 22 = .ok (.iconst 4, 1) := by decide +kernel
theorem dX8_readSizes_23 : decode cX8_readSizes 23 = .ok (.invokevirtual 77, 3) := by decide +kernel
theorem dX8_readSizes_26 : decode cX8_readSizes 26 = .ok (.ifCond .ne 5, 3) := by decide +kernel
theorem dX8_readSizes_29 : decode cX8_readSizes 29 = .ok (.iconst 0, 1) := by decide +kernel
theorem dX8_readSizes_30 : decode cX8_readSizes 30 = .ok (.ireturn, 1) := by decide +kernel
theorem dX8_readSizes_31 : decode cX8_readSizes 31 = .ok (.aload_n 0, 1) := by decide +kernel
theorem dX8_readSizes_32 : decode cX8_readSizes 32 = .ok (.getfield 81, 3) := by decide +kernel
theorem dX8_readSizes_35 : decode cX8_readSizes 35 = .ok (.istore_n 2, 1) := by decide +kernel
theorem dX8_readSizes_36 : decode cX8_readSizes 36 = .ok (.aload_n 0, 1) := by decide +kernel
theorem dX8_readSizes_37 : decode cX8_readSizes 37 = .ok (.aload_n 1, 1) := by decide +kernel
theorem dX8_readSizes_38 : decode cX8_readSizes 38 = .ok (.invokevirtual 46, 3) := by decide +kernel
theorem dX8_readSizes_41 : decode cX8_readSizes 41 = .ok (.aload_n 0, 1) := by decide +kernel
theorem dX8_readSizes_42 : decode cX8_readSizes 42 = .ok (.aload_n 1, 1) := by decide +kernel
theorem dX8_readSizes_43 : decode cX8_readSizes 43 = .ok (.ldc 84, 2) := by decide +kernel
theorem dX8_readSizes_45 : decode cX8_readSizes 45 = .ok (.invokevirtual 72, 3) := by decide +kernel
theorem dX8_readSizes_48 : decode cX8_readSizes 48 = .ok (.ifCond .eq 12, 3) := by decide +kernel
theorem dX8_readSizes_51 : decode cX8_readSizes 51 = .ok (.aload_n 0, 1) := by decide +kernel
theorem dX8_readSizes_52 : decode cX8_readSizes 52 = .ok (.iconst 2, 1) := by decide +kernel
theorem dX8_readSizes_53 : decode cX8_readSizes 53 = .ok (.iconst 4, 1) := by decide +kernel
theorem dX8_readSizes_54 : decode cX8_readSizes 54 = .ok (.invokevirtual 77, 3) := by decide +kernel
theorem dX8_readSizes_57 : decode cX8_readSizes 57 = .ok (.ifCond .ne 5, 3) := by decide +kernel
theorem dX8_readSizes_60 : decode cX8_readSizes 60 = .ok (.iconst 0, 1) := by decide +kernel
theorem dX8_readSizes_61 : decode cX8_readSizes 61 = .ok (.ireturn, 1) := by decide +kernel
theorem dX8_readSizes_62 : decode cX8_readSizes 62 = .ok (.aload_n 0, 1) := by decide +kernel
theorem dX8_readSizes_63 : decode cX8_readSizes 63 = .ok (.getfield 81, 3) := by decide +kernel
theorem dX8_readSizes_66 : decode cX8_readSizes 66 = .ok (.istore_n 3, 1) := by decide +kernel
theorem dX8_readSizes_67 : decode cX8_readSizes 67 = .ok (.aload_n 0, 1) := by decide +kernel
theorem dX8_readSizes_68 : decode cX8_readSizes 68 = .ok (.aload_n 1, 1) := by decide +kernel
theorem dX8_readSizes_69 : decode cX8_readSizes 69 = .ok (.invokevirtual 46, 3) := by decide +kernel
theorem dX8_readSizes_72 : decode cX8_readSizes 72 = .ok (.aload_n 0, 1) := by decide +kernel
theorem dX8_readSizes_73 : decode cX8_readSizes 73 = .ok (.aload_n 1, 1) := by decide +kernel
theorem dX8_readSizes_74 : decode cX8_readSizes 74 = .ok (.invokevirtual 85, 3) := by decide +kernel
theorem dX8_readSizes_77 : decode cX8_readSizes 77 = .ok (.ifCond .ne 5, 3) := by decide +kernel
theorem dX8_readSizes_80 : decode cX8_readSizes 80 = .ok (.iconst 0, 1) := by decide +kernel
theorem dX8_readSizes_81 : decode cX8_readSizes 81 = .ok (.ireturn, 1) := by decide +kernel
theorem dX8_readSizes_82 : decode cX8_readSizes 82 = .ok (.aload_n 0, 1) := by decide +kernel
theorem dX8_readSizes_83 : decode cX8_readSizes 83 = .ok (.iload_n 2, 1) := by decide +kernel
theorem dX8_readSizes_84 : decode cX8_readSizes 84 = .ok (.putfield 22, 3) := by decide +kernel
theorem dX8_readSizes_87 : decode cX8_readSizes 87 = .ok (.aload_n 0, 1) := by decide +kernel
theorem dX8_readSizes_88 : decode cX8_readSizes 88 = .ok (.iload_n 3, 1) := by decide +kernel
theorem dX8_readSizes_89 : decode cX8_readSizes 89 = .ok (.putfield 25, 3) := by decide +kernel
theorem dX8_readSizes_92 : decode cX8_readSizes 92 = .ok (.iconst 1, 1) := by decide +kernel
theorem dX8_readSizes_93 : decode cX8_readSizes 93 = .ok (.ireturn, 1) := by decide +kernel
theorem dX8_readCounts_0 : decode cX8_readCounts 0 = .ok (.aload_n 0, 1) := by decide +kernel
theorem dX8_readCounts_1 : decode cX8_readCounts 1 = .ok (.aload_n 1, 1) := by decide +kernel
theorem dX8_readCounts_2 : decode cX8_readCounts 2 = .ok (.ldc 88, 2) := by decide +kernel
theorem dX8_readCounts_4 : decode cX8_readCounts 4 = .ok (.invokevirtual 72, 3) := by decide +kernel
theorem dX8_readCounts_7 : decode cX8_readCounts 7 = .ok (.ifCond .ne 5, 3) := by decide +kernel
theorem dX8_readCounts_10 : decode cX8_readCounts 10 = .ok (.iconst 0, 1) := by decide +kernel
theorem dX8_readCounts_11 : decode cX8_readCounts 11 = .ok (.ireturn, 1) := by decide +kernel
theorem dX8_readCounts_12 : decode cX8_readCounts 12 = .ok (.iconst 0, 1) := by decide +kernel
theorem dX8_readCounts_13 : decode cX8_readCounts 13 = .ok (.istore_n 3, 1) := by decide +kernel
theorem dX8_readCounts_14 : decode cX8_readCounts 14 = .ok (.iload_n 3, 1) := by decide +kernel
theorem dX8_readCounts_15 : decode cX8_readCounts 15 = .ok (.aload_n 0, 1) := by decide +kernel
theorem dX8_readCounts_16 : decode cX8_readCounts 16 = .ok (.getfield 25, 3) := by decide +kernel
theorem dX8_readCounts_19 : decode cX8_readCounts 19 = .ok (.if_icmp .ge 75, 3) := by decide +kernel
theorem dX8_readCounts_22 : decode cX8_readCounts 22 = .ok (.aload_n 0, 1) := by decide +kernel
theorem dX8_readCounts_23 : decode cX8_readCounts 23 = .ok (.iconst 0, 1) := by decide +kernel
theorem dX8_readCounts_24 : decode cX8_readCounts 24 = .ok (.bipush 9, 2) := by decide +kernel
theorem dX8_readCounts_26 : decode cX8_readCounts 26 = .ok (.invokevirtual 77, 3) := by decide +kernel
theorem dX8_readCounts_29 : decode cX8_readCounts 29 = .ok (.ifCond .ne 5, 3) := by decide +kernel
theorem dX8_readCounts_32 : decode cX8_readCounts 32 = .ok (.iconst 0, 1) := by decide +kernel
theorem dX8_readCounts_33 : decode cX8_readCounts 33 = .ok (.ireturn, 1) := by decide +kernel
theorem dX8_readCounts_34 : decode cX8_readCounts 34 = .ok (.aload_n 0, 1) := by decide +kernel
theorem dX8_readCounts_35 : decode cX8_readCounts 35 = .ok (.getfield 34, 3) := by decide +kernel
theorem dX8_readCounts_38 : decode cX8_readCounts 38 = .ok (.aload_n 0, 1) := by decide +kernel
theorem dX8_readCounts_39 : decode cX8_readCounts 39 = .ok (.getfield 81, 3) := by decide +kernel
theorem dX8_readCounts_42 : decode cX8_readCounts 42 = .ok (.iadd, 1) := by decide +kernel
theorem dX8_readCounts_43 : decode cX8_readCounts 43 = .ok (.bipush 20, 2) := by decide +kernel
theorem dX8_readCounts_45 : decode cX8_readCounts 45 = .ok (.if_icmp .le 9, 3) := by decide +kernel
theorem dX8_readCounts_48 : decode cX8_readCounts 48 = .ok (.aload_n 0, 1) := by decide +kernel
theorem dX8_readCounts_49 : decode cX8_readCounts 49 = .ok (.iconst 2, 1) := by decide +kernel
theorem dX8_readCounts_50 : decode cX8_readCounts 50 = .ok (.invokevirtual 90, 3) := by decide +kernel
theorem dX8_readCounts_53 : decode cX8_readCounts 53 = .ok (.ireturn, 1) := by decide +kernel
theorem dX8_readCounts_54 : decode cX8_readCounts 54 = .ok (.aload_n 0, 1) := by decide +kernel
theorem dX8_readCounts_55 : decode cX8_readCounts 55 = .ok (.dup, 1) := by decide +kernel
theorem dX8_readCounts_56 : decode cX8_readCounts 56 = .ok (.getfield 34, 3) := by decide +kernel
theorem dX8_readCounts_59 : decode cX8_readCounts 59 = .ok (.aload_n 0, 1) := by decide +kernel
theorem dX8_readCounts_60 : decode cX8_readCounts 60 = .ok (.getfield 81, 3) := by decide +kernel
theorem dX8_readCounts_63 : decode cX8_readCounts 63 = .ok (.iadd, 1) := by decide +kernel
theorem dX8_readCounts_64 : decode cX8_readCounts 64 = .ok (.putfield 34, 3) := by decide +kernel
theorem dX8_readCounts_67 : decode cX8_readCounts 67 = .ok (.aload_n 0, 1) := by decide +kernel
theorem dX8_readCounts_68 : decode cX8_readCounts 68 = .ok (.getfield 15, 3) := by decide +kernel
theorem dX8_readCounts_71 : decode cX8_readCounts 71 = .ok (.iconst 4, 1) := by decide +kernel
theorem dX8_readCounts_72 : decode cX8_readCounts 72 = .ok (.iload_n 2, 1) := by decide +kernel
theorem dX8_readCounts_73 : decode cX8_readCounts 73 = .ok (.imul, 1) := by decide +kernel
theorem dX8_readCounts_74 : decode cX8_readCounts 74 = .ok (.iload_n 3, 1) := by decide +kernel
theorem dX8_readCounts_75 : decode cX8_readCounts 75 = .ok (.iadd, 1) := by decide +kernel
theorem dX8_readCounts_76 : decode cX8_readCounts 76 = .ok (.aload_n 0, 1) := by decide +kernel
theorem dX8_readCounts_77 : decode cX8_readCounts 77 = .ok (.getfield 81, 3) := by decide +kernel
theorem dX8_readCounts_80 : decode cX8_readCounts 80 = .ok (.invokestatic 94, 3) := by decide +kernel
theorem dX8_readCounts_83 : decode cX8_readCounts 83 = .ok (.aload_n 0, 1) := by decide +kernel
theorem dX8_readCounts_84 : decode cX8_readCounts 84 = .ok (.aload_n 1, 1) := by decide +kernel
theorem dX8_readCounts_85 : decode cX8_readCounts 85 = .ok (.invokevirtual 46, 3) := by decide +kernel
theorem dX8_readCounts_88 : decode cX8_readCounts 88 = .ok (.iinc 3 1, 3) := by decide +kernel
theorem dX8_readCounts_91 : decode cX8_readCounts 91 = .ok (.goto (-77), 3) := by decide +kernel
theorem dX8_readCounts_94 : decode cX8_readCounts 94 = .ok (.aload_n 0, 1) := by decide +kernel
theorem dX8_readCounts_95 : decode cX8_readCounts 95 = .ok (.aload_n 1, 1) := by decide +kernel
theorem dX8_readCounts_96 : decode cX8_readCounts 96 = .ok (.invokevirtual 85, 3) := by decide +kernel
theorem dX8_readCounts_99 : decode cX8_readCounts 99 = .ok (.ireturn, 1) := by decide +kernel
theorem dX8_readHole_0 : decode cX8_readHole 0 = .ok (.aload_n 0, 1) := by decide +kernel
theorem dX8_readHole_1 : decode cX8_readHole 1 = .ok (.aload_n 1, 1) := by decide +kernel
theorem dX8_readHole_2 : decode cX8_readHole 2 = .ok (.ldc 98, 2) := by decide +kernel
theorem dX8_readHole_4 : decode cX8_readHole 4 = .ok (.invokevirtual 72, 3) := by decide +kernel
theorem dX8_readHole_7 : decode cX8_readHole 7 = .ok (.ifCond .eq 17, 3) := by decide +kernel
theorem dX8_readHole_10 : decode cX8_readHole 10 = .ok (.aload_n 0, 1) := by decide +kernel
theorem dX8_readHole_11 : decode cX8_readHole 11 = .ok (.iconst 0, 1) := by decide +kernel
theorem dX8_readHole_12 : decode cX8_readHole 12 = .ok (.aload_n 0, 1) := by decide +kernel
theorem dX8_readHole_13 : decode cX8_readHole 13 = .ok (.getfield 22, 3) := by decide +kernel
theorem dX8_readHole_16 : decode cX8_readHole 16 = .ok (.iconst 1, 1) := by decide +kernel
theorem dX8_readHole_17 : decode cX8_readHole 17 = .ok (.isub, 1) := by decide +kernel
theorem dX8_readHole_18 : decode cX8_readHole 18 = .ok (.invokevirtual 77, 3) := by decide +kernel
theorem dX8_readHole_21 : decode cX8_readHole 21 = .ok (.ifCond .ne 5, 3) := by decide +kernel
theorem dX8_readHole_24 : decode cX8_readHole 24 = .ok (.iconst 0, 1) := by decide +kernel
theorem dX8_readHole_25 : decode cX8_readHole 25 = .ok (.ireturn, 1) := by decide +kernel
theorem dX8_readHole_26 : decode cX8_readHole 26 = .ok (.aload_n 0, 1) := by decide +kernel
theorem dX8_readHole_27 : decode cX8_readHole 27 = .ok (.getfield 81, 3) := by decide +kernel
theorem dX8_readHole_30 : decode cX8_readHole 30 = .ok (.istore_n 2, 1) := by decide +kernel
theorem dX8_readHole_31 : decode cX8_readHole 31 = .ok (.aload_n 0, 1) := by decide +kernel
theorem dX8_readHole_32 : decode cX8_readHole 32 = .ok (.aload_n 1, 1) := by decide +kernel
theorem dX8_readHole_33 : decode cX8_readHole 33 = .ok (.invokevirtual 46, 3) := by decide +kernel
theorem dX8_readHole_36 : decode cX8_readHole 36 = .ok (.aload_n 0, 1) := by decide +kernel
theorem dX8_readHole_37 : decode cX8_readHole 37 = .ok (.iconst 0, 1) := by decide +kernel
theorem dX8_readHole_38 : decode cX8_readHole 38 = .ok (.aload_n 0, 1) := by decide +kernel
theorem dX8_readHole_39 : decode cX8_readHole 39 = .ok (.getfield 25, 3) := by decide +kernel
theorem dX8_readHole_42 : decode cX8_readHole 42 = .ok (.iconst 1, 1) := by decide +kernel
theorem dX8_readHole_43 : decode cX8_readHole 43 = .ok (.isub, 1) := by decide +kernel
theorem dX8_readHole_44 : decode cX8_readHole 44 = .ok (.invokevirtual 77, 3) := by decide +kernel
theorem dX8_readHole_47 : decode cX8_readHole 47 = .ok (.ifCond .ne 5, 3) := by decide +kernel
theorem dX8_readHole_50 : decode cX8_readHole 50 = .ok (.iconst 0, 1) := by decide +kernel
theorem dX8_readHole_51 : decode cX8_readHole 51 = .ok (.ireturn, 1) := by decide +kernel
theorem dX8_readHole_52 : decode cX8_readHole 52 = .ok (.iconst 4, 1) := by decide +kernel
theorem dX8_readHole_53 : decode cX8_readHole 53 = .ok (.iload_n 2, 1) := by decide +kernel
theorem dX8_readHole_54 : decode cX8_readHole 54 = .ok (.imul, 1) := by decide +kernel
theorem dX8_readHole_55 : decode cX8_readHole 55 = .ok (.aload_n 0, 1) := by decide +kernel
theorem dX8_readHole_56 : decode cX8_readHole 56 = .ok (.getfield 81, 3) := by decide +kernel
theorem dX8_readHole_59 : decode cX8_readHole 59 = .ok (.iadd, 1) := by decide +kernel
theorem dX8_readHole_60 : decode cX8_readHole 60 = .ok (.istore_n 3, 1) := by decide +kernel
theorem dX8_readHole_61 : decode cX8_readHole 61 = .ok (.aload_n 0, 1) := by decide +kernel
theorem dX8_readHole_62 : decode cX8_readHole 62 = .ok (.getfield 31, 3) := by decide +kernel
theorem dX8_readHole_65 : decode cX8_readHole 65 = .ok (.iload_n 3, 1) := by decide +kernel
theorem dX8_readHole_66 : decode cX8_readHole 66 = .ok (.ishr, 1) := by decide +kernel
theorem dX8_readHole_67 : decode cX8_readHole 67 = .ok (.iconst 1, 1) := by decide +kernel
theorem dX8_readHole_68 : decode cX8_readHole 68 = .ok (.iand, 1) := by decide +kernel
theorem dX8_readHole_69 : decode cX8_readHole 69 = .ok (.ifCond .ne 14, 3) := by decide +kernel
theorem dX8_readHole_72 : decode cX8_readHole 72 = .ok (.aload_n 0, 1) := by decide +kernel
theorem dX8_readHole_73 : decode cX8_readHole 73 = .ok (.getfield 15, 3) := by decide +kernel
theorem dX8_readHole_76 : decode cX8_readHole 76 = .ok (.iload_n 3, 1) := by decide +kernel
theorem dX8_readHole_77 : decode cX8_readHole 77 = .ok (.invokestatic 64, 3) := by decide +kernel
theorem dX8_readHole_80 : decode cX8_readHole 80 = .ok (.ifCond .eq 9, 3) := by decide +kernel
theorem dX8_readHole_83 : decode cX8_readHole 83 = .ok (.aload_n 0, 1) := by decide +kernel
theorem dX8_readHole_84 : decode cX8_readHole 84 = .ok (.iconst 2, 1) := by decide +kernel
theorem dX8_readHole_85 : decode cX8_readHole 85 = .ok (.invokevirtual 90, 3) := by decide +kernel
theorem dX8_readHole_88 : decode cX8_readHole 88 = .ok (.ireturn, 1) := by decide +kernel
theorem dX8_readHole_89 : decode cX8_readHole 89 = .ok (.aload_n 0, 1) := by decide +kernel
theorem dX8_readHole_90 : decode cX8_readHole 90 = .ok (.dup, 1) := by decide +kernel
theorem dX8_readHole_91 : decode cX8_readHole 91 = .ok (.getfield 31, 3) := by decide +kernel
theorem dX8_readHole_94 : decode cX8_readHole 94 = .ok (.iconst 1, 1) := by decide +kernel
theorem dX8_readHole_95 : decode cX8_readHole 95 = .ok (.iload_n 3, 1) := by decide +kernel
theorem dX8_readHole_96 : decode cX8_readHole 96 = .ok (.ishl, 1) := by decide +kernel
theorem dX8_readHole_97 : decode cX8_readHole 97 = .ok (.ior, 1) := by decide +kernel
theorem dX8_readHole_98 : decode cX8_readHole 98 = .ok (.putfield 31, 3) := by decide +kernel
theorem dX8_readHole_101 : decode cX8_readHole 101 = .ok (.aload_n 0, 1) := by decide +kernel
theorem dX8_readHole_102 : decode cX8_readHole 102 = .ok (.aload_n 1, 1) := by decide +kernel
theorem dX8_readHole_103 : decode cX8_readHole 103 = .ok (.invokevirtual 46, 3) := by decide +kernel
theorem dX8_readHole_106 : decode cX8_readHole 106 = .ok (.aload_n 0, 1) := by decide +kernel
theorem dX8_readHole_107 : decode cX8_readHole 107 = .ok (.aload_n 1, 1) := by decide +kernel
theorem dX8_readHole_108 : decode cX8_readHole 108 = .ok (.invokevirtual 85, 3) := by decide +kernel
theorem dX8_readHole_111 : decode cX8_readHole 111 = .ok (.ireturn, 1) := by decide +kernel
theorem dX8_passWord_0 : decode cX8_passWord 0 = .ok (.aload_n 0, 1) := by decide +kernel
theorem dX8_passWord_1 : decode cX8_passWord 1 = .ok (.getfield 50, 3) := by decide +kernel
theorem dX8_passWord_4 : decode cX8_passWord 4 = .ok (.iconst 1, 1) := by decide +kernel
theorem dX8_passWord_5 : decode cX8_passWord 5 = .ok (.if_icmp .ne 12, 3) := by decide +kernel
theorem dX8_passWord_8 : decode cX8_passWord 8 = .ok (.aload_n 0, 1) := by decide +kernel
theorem dX8_passWord_9 : decode cX8_passWord 9 = .ok (.aload_n 1, 1) := by decide +kernel
theorem dX8_passWord_10 : decode cX8_passWord 10 = .ok (.aload_n 2, 1) := by decide +kernel
theorem dX8_passWord_11 : decode cX8_passWord 11 = .ok (.invokevirtual 100, 3) := by decide +kernel
theorem dX8_passWord_14 : decode cX8_passWord 14 = .ok (.ifCond .ne 9, 3) := by decide +kernel
theorem dX8_passWord_17 : decode cX8_passWord 17 = .ok (.aload_n 0, 1) := by decide +kernel
theorem dX8_passWord_18 : decode cX8_passWord 18 = .ok (.iconst 1, 1) := by decide +kernel
theorem dX8_passWord_19 : decode cX8_passWord 19 = .ok (.invokevirtual 90, 3) := by decide +kernel
theorem dX8_passWord_22 : decode cX8_passWord 22 = .ok (.ireturn, 1) := by decide +kernel
theorem dX8_passWord_23 : decode cX8_passWord 23 = .ok (.aload_n 0, 1) := by decide +kernel
theorem dX8_passWord_24 : decode cX8_passWord 24 = .ok (.aload_n 1, 1) := by decide +kernel
theorem dX8_passWord_25 : decode cX8_passWord 25 = .ok (.invokevirtual 46, 3) := by decide +kernel
theorem dX8_passWord_28 : decode cX8_passWord 28 = .ok (.iconst 1, 1) := by decide +kernel
theorem dX8_passWord_29 : decode cX8_passWord 29 = .ok (.ireturn, 1) := by decide +kernel
theorem dX8_passSign_0 : decode cX8_passSign 0 = .ok (.aload_n 0, 1) := by decide +kernel
theorem dX8_passSign_1 : decode cX8_passSign 1 = .ok (.getfield 50, 3) := by decide +kernel
theorem dX8_passSign_4 : decode cX8_passSign 4 = .ok (.iconst 3, 1) := by decide +kernel
theorem dX8_passSign_5 : decode cX8_passSign 5 = .ok (.if_icmp .eq 9, 3) := by decide +kernel
theorem dX8_passSign_8 : decode cX8_passSign 8 = .ok (.aload_n 0, 1) := by decide +kernel
theorem dX8_passSign_9 : decode cX8_passSign 9 = .ok (.iconst 1, 1) := by decide +kernel
theorem dX8_passSign_10 : decode cX8_passSign 10 = .ok (.invokevirtual 90, 3) := by decide +kernel
theorem dX8_passSign_13 : decode cX8_passSign 13 = .ok (.ireturn, 1) := by decide +kernel
theorem dX8_passSign_14 : decode cX8_passSign 14 = .ok (.aload_n 0, 1) := by decide +kernel
theorem dX8_passSign_15 : decode cX8_passSign 15 = .ok (.dup, 1) := by decide +kernel
theorem dX8_passSign_16 : decode cX8_passSign 16 = .ok (.getfield 28, 3) := by decide +kernel
theorem dX8_passSign_19 : decode cX8_passSign 19 = .ok (.iconst 1, 1) := by decide +kernel
theorem dX8_passSign_20 : decode cX8_passSign 20 = .ok (.iadd, 1) := by decide +kernel
theorem dX8_passSign_21 : decode cX8_passSign 21 = .ok (.putfield 28, 3) := by decide +kernel
theorem dX8_passSign_24 : decode cX8_passSign 24 = .ok (.aload_n 0, 1) := by decide +kernel
theorem dX8_passSign_25 : decode cX8_passSign 25 = .ok (.aload_n 1, 1) := by decide +kernel
theorem dX8_passSign_26 : decode cX8_passSign 26 = .ok (.invokevirtual 46, 3) := by decide +kernel
theorem dX8_passSign_29 : decode cX8_passSign 29 = .ok (.iconst 1, 1) := by decide +kernel
theorem dX8_passSign_30 : decode cX8_passSign 30 = .ok (.ireturn, 1) := by decide +kernel
theorem dX8_isNumber_0 : decode cX8_isNumber 0 = .ok (.aload_n 0, 1) := by decide +kernel
theorem dX8_isNumber_1 : decode cX8_isNumber 1 = .ok (.getfield 50, 3) := by decide +kernel
theorem dX8_isNumber_4 : decode cX8_isNumber 4 = .ok (.iconst 2, 1) := by decide +kernel
theorem dX8_isNumber_5 : decode cX8_isNumber 5 = .ok (.if_icmp .eq 9, 3) := by decide +kernel
theorem dX8_isNumber_8 : decode cX8_isNumber 8 = .ok (.aload_n 0, 1) := by decide +kernel
theorem dX8_isNumber_9 : decode cX8_isNumber 9 = .ok (.iconst 1, 1) := by decide +kernel
theorem dX8_isNumber_10 : decode cX8_isNumber 10 = .ok (.invokevirtual 90, 3) := by decide +kernel
theorem dX8_isNumber_13 : decode cX8_isNumber 13 = .ok (.ireturn, 1) := by decide +kernel
theorem dX8_isNumber_14 : decode cX8_isNumber 14 = .ok (.aload_n 0, 1) := by decide +kernel
theorem dX8_isNumber_15 : decode cX8_isNumber 15 = .ok (.getfield 81, 3) := by decide +kernel
theorem dX8_isNumber_18 : decode cX8_isNumber 18 = .ok (.iload_n 1, 1) := by decide +kernel
theorem dX8_isNumber_19 : decode cX8_isNumber 19 = .ok (.if_icmp .lt 11, 3) := by decide +kernel
theorem dX8_isNumber_22 : decode cX8_isNumber 22 = .ok (.aload_n 0, 1) := by decide +kernel
theorem dX8_isNumber_23 : decode cX8_isNumber 23 = .ok (.getfield 81, 3) := by decide +kernel
theorem dX8_isNumber_26 : decode cX8_isNumber 26 = .ok (.iload_n 2, 1) := by decide +kernel
theorem dX8_isNumber_27 : decode cX8_isNumber 27 = .ok (.if_icmp .le 11, 3) := by decide +kernel
theorem dX8_isNumber_30 : decode cX8_isNumber 30 = .ok (.aload_n 0, 1) := by decide +kernel
theorem dX8_isNumber_31 : decode cX8_isNumber 31 = .ok (.iconst 2, 1) := by decide +kernel
theorem dX8_isNumber_32 : decode cX8_isNumber 32 = .ok (.invokevirtual 90, 3) := by decide +kernel
theorem dX8_isNumber_35 : decode cX8_isNumber 35 = .ok (.ifCond .eq 7, 3) := by decide +kernel
theorem dX8_isNumber_38 : decode cX8_isNumber 38 = .ok (.iconst 1, 1) := by decide +kernel
theorem dX8_isNumber_39 : decode cX8_isNumber 39 = .ok (.goto 4, 3) := by decide +kernel
theorem dX8_isNumber_42 : decode cX8_isNumber 42 = .ok (.iconst 0, 1) := by decide +kernel
theorem dX8_isNumber_43 : decode cX8_isNumber 43 = .ok (.ireturn, 1) := by decide +kernel
theorem dX8_isWord_0 : decode cX8_isWord 0 = .ok (.aload_n 0, 1) := by decide +kernel
theorem dX8_isWord_1 : decode cX8_isWord 1 = .ok (.getfield 37, 3) := by decide +kernel
theorem dX8_isWord_4 : decode cX8_isWord 4 = .ok (.aload_n 0, 1) := by decide +kernel
theorem dX8_isWord_5 : decode cX8_isWord 5 = .ok (.getfield 103, 3) := by decide +kernel
theorem dX8_isWord_8 : decode cX8_isWord 8 = .ok (.isub, 1) := by decide +kernel
theorem dX8_isWord_9 : decode cX8_isWord 9 = .ok (.aload_n 2, 1) := by decide +kernel
theorem dX8_isWord_10 : decode cX8_isWord 10 = .ok (.invokevirtual 106, 3) := by decide +kernel
theorem dX8_isWord_13 : decode cX8_isWord 13 = .ok (.if_icmp .eq 5, 3) := by decide +kernel
theorem dX8_isWord_16 : decode cX8_isWord 16 = .ok (.iconst 0, 1) := by decide +kernel
theorem dX8_isWord_17 : decode cX8_isWord 17 = .ok (.ireturn, 1) := by decide +kernel
theorem dX8_isWord_18 : decode cX8_isWord 18 = .ok (.iconst 0, 1) := by decide +kernel
theorem dX8_isWord_19 : decode cX8_isWord 19 = .ok (.istore_n 3, 1) := by decide +kernel
theorem dX8_isWord_20 : decode cX8_isWord 20 = .ok (.iload_n 3, 1) := by decide +kernel
theorem dX8_isWord_21 : decode cX8_isWord 21 = .ok (.aload_n 2, 1) := by decide +kernel
theorem dX8_isWord_22 : decode cX8_isWord 22 = .ok (.invokevirtual 106, 3) := by decide +kernel
theorem dX8_isWord_25 : decode cX8_isWord 25 = .ok (.if_icmp .ge 29, 3) := by decide +kernel
theorem dX8_isWord_28 : decode cX8_isWord 28 = .ok (.aload_n 1, 1) := by decide +kernel
theorem dX8_isWord_29 : decode cX8_isWord 29 = .ok (.aload_n 0, 1) := by decide +kernel
theorem dX8_isWord_30 : decode cX8_isWord 30 = .ok (.getfield 103, 3) := by decide +kernel
theorem dX8_isWord_33 : decode cX8_isWord 33 = .ok (.iload_n 3, 1) := by decide +kernel
theorem dX8_isWord_34 : decode cX8_isWord 34 = .ok (.iadd, 1) := by decide +kernel
theorem dX8_isWord_35 : decode cX8_isWord 35 = .ok (.invokevirtual 112, 3) := by decide +kernel
theorem dX8_isWord_38 : decode cX8_isWord 38 = .ok (.aload_n 2, 1) := by decide +kernel
theorem dX8_isWord_39 : decode cX8_isWord 39 = .ok (.iload_n 3, 1) := by decide +kernel
theorem dX8_isWord_40 : decode cX8_isWord 40 = .ok (.invokevirtual 118, 3) := by decide +kernel
theorem dX8_isWord_43 : decode cX8_isWord 43 = .ok (.if_icmp .eq 5, 3) := by decide +kernel
theorem dX8_isWord_46 : decode cX8_isWord 46 = .ok (.iconst 0, 1) := by decide +kernel
theorem dX8_isWord_47 : decode cX8_isWord 47 = .ok (.ireturn, 1) := by decide +kernel
theorem dX8_isWord_48 : decode cX8_isWord 48 = .ok (.iinc 3 1, 3) := by decide +kernel
theorem dX8_isWord_51 : decode cX8_isWord 51 = .ok (.goto (-31), 3) := by decide +kernel
theorem dX8_isWord_54 : decode cX8_isWord 54 = .ok (.iconst 1, 1) := by decide +kernel
theorem dX8_isWord_55 : decode cX8_isWord 55 = .ok (.ireturn, 1) := by decide +kernel
theorem dX8_fail_0 : decode cX8_fail 0 = .ok (.aload_n 0, 1) := by decide +kernel
theorem dX8_fail_1 : decode cX8_fail 1 = .ok (.iload_n 1, 1) := by decide +kernel
theorem dX8_fail_2 : decode cX8_fail 2 = .ok (.putfield 19, 3) := by decide +kernel
theorem dX8_fail_5 : decode cX8_fail 5 = .ok (.aload_n 0, 1) := by decide +kernel
theorem dX8_fail_6 : decode cX8_fail 6 = .ok (.aload_n 0, 1) := by decide +kernel
theorem dX8_fail_7 : decode cX8_fail 7 = .ok (.getfield 103, 3) := by decide +kernel
theorem dX8_fail_10 : decode cX8_fail 10 = .ok (.putfield 9, 3) := by decide +kernel
theorem dX8_fail_13 : decode cX8_fail 13 = .ok (.iconst 0, 1) := by decide +kernel
theorem dX8_fail_14 : decode cX8_fail 14 = .ok (.ireturn, 1) := by decide +kernel
theorem dX8_advance_0 : decode cX8_advance 0 = .ok (.aload_n 0, 1) := by decide +kernel
theorem dX8_advance_1 : decode cX8_advance 1 = .ok (.aload_n 0, 1) := by decide +kernel
theorem dX8_advance_2 : decode cX8_advance 2 = .ok (.getfield 37, 3) := by decide +kernel
theorem dX8_advance_5 : decode cX8_advance 5 = .ok (.putfield 103, 3) := by decide +kernel
theorem dX8_advance_8 : decode cX8_advance 8 = .ok (.aload_n 0, 1) := by decide +kernel
theorem dX8_advance_9 : decode cX8_advance 9 = .ok (.getfield 103, 3) := by decide +kernel
theorem dX8_advance_12 : decode cX8_advance 12 = .ok (.aload_n 1, 1) := by decide +kernel
theorem dX8_advance_13 : decode cX8_advance 13 = .ok (.getfield 122, 3) := by decide +kernel
theorem dX8_advance_16 : decode cX8_advance 16 = .ok (.if_icmp .ge 30, 3) := by decide +kernel
theorem dX8_advance_19 : decode cX8_advance 19 = .ok (.aload_n 1, 1) := by decide +kernel
theorem dX8_advance_20 : decode cX8_advance 20 = .ok (.aload_n 0, 1) := by decide +kernel
theorem dX8_advance_21 : decode cX8_advance 21 = .ok (.getfield 103, 3) := by decide +kernel
theorem dX8_advance_24 : decode cX8_advance 24 = .ok (.invokevirtual 112, 3) := by decide +kernel
theorem dX8_advance_27 : decode cX8_advance 27 = .ok (.invokestatic 124, 3) := by decide +kernel
theorem dX8_advance_30 : decode cX8_advance 30 = .ok (.ifCond .eq 16, 3) := by decide +kernel
theorem dX8_advance_33 : decode cX8_advance 33 = .ok (.aload_n 0, 1) := by decide +kernel
theorem dX8_advance_34 : decode cX8_advance 34 = .ok (.dup, 1) := by decide +kernel
theorem dX8_advance_35 : decode cX8_advance 35 = .ok (.getfield 103, 3) := by decide +kernel
theorem dX8_advance_38 : decode cX8_advance 38 = .ok (.iconst 1, 1) := by decide +kernel
theorem dX8_advance_39 : decode cX8_advance 39 = .ok (.iadd, 1) := by decide +kernel
theorem dX8_advance_40 : decode cX8_advance 40 = .ok (.putfield 103, 3) := by decide +kernel
theorem dX8_advance_43 : decode cX8_advance 43 = .ok (.goto (-35), 3) := by decide +kernel
theorem dX8_advance_46 : decode cX8_advance 46 = .ok (.aload_n 0, 1) := by decide +kernel
theorem dX8_advance_47 : decode cX8_advance 47 = .ok (.aload_n 0, 1) := by decide +kernel
theorem dX8_advance_48 : decode cX8_advance 48 = .ok (.getfield 103, 3) := by decide +kernel
theorem dX8_advance_51 : decode cX8_advance 51 = .ok (.putfield 37, 3) := by decide +kernel
theorem dX8_advance_54 : decode cX8_advance 54 = .ok (.aload_n 0, 1) := by decide +kernel
theorem dX8_advance_55 : decode cX8_advance 55 = .ok (.aload_n 1, 1) := by decide +kernel
theorem dX8_advance_56 : decode cX8_advance 56 = .ok (.aload_n 0, 1) := by decide +kernel
theorem dX8_advance_57 : decode cX8_advance 57 = .ok (.getfield 103, 3) := by decide +kernel
theorem dX8_advance_60 : decode cX8_advance 60 = .ok (.invokestatic 127, 3) := by decide +kernel
theorem dX8_advance_63 : decode cX8_advance 63 = .ok (.putfield 50, 3) := by decide +kernel
theorem dX8_advance_66 : decode cX8_advance 66 = .ok (.aload_n 0, 1) := by decide +kernel
theorem dX8_advance_67 : decode cX8_advance 67 = .ok (.getfield 50, 3) := by decide +kernel
theorem dX8_advance_70 : decode cX8_advance 70 = .ok (.iconst 1, 1) := by decide +kernel
theorem dX8_advance_71 : decode cX8_advance 71 = .ok (.if_icmp .eq 11, 3) := by decide +kernel
theorem dX8_advance_74 : decode cX8_advance 74 = .ok (.aload_n 0, 1) := by decide +kernel
theorem dX8_advance_75 : decode cX8_advance 75 = .ok (.getfield 50, 3) := by decide +kernel
theorem dX8_advance_78 : decode cX8_advance 78 = .ok (.iconst 2, 1) := by decide +kernel
theorem dX8_advance_79 : decode cX8_advance 79 = .ok (.if_icmp .ne 66, 3) := by decide +kernel
theorem dX8_advance_82 : decode cX8_advance 82 = .ok (.aload_n 0, 1) := by decide +kernel
theorem dX8_advance_83 : decode cX8_advance 83 = .ok (.getfield 37, 3) := by decide +kernel
theorem dX8_advance_86 : decode cX8_advance 86 = .ok (.aload_n 1, 1) := by decide +kernel
theorem dX8_advance_87 : decode cX8_advance 87 = .ok (.getfield 122, 3) := by decide +kernel
theorem dX8_advance_90 : decode cX8_advance 90 = .ok (.if_icmp .ge 31, 3) := by decide +kernel
theorem dX8_advance_93 : decode cX8_advance 93 = .ok (.aload_n 1, 1) := by decide +kernel
theorem dX8_advance_94 : decode cX8_advance 94 = .ok (.aload_n 0, 1) := by decide +kernel
theorem dX8_advance_95 : decode cX8_advance 95 = .ok (.getfield 37, 3) := by decide +kernel
theorem dX8_advance_98 : decode cX8_advance 98 = .ok (.invokestatic 127, 3) := by decide +kernel
theorem dX8_advance_101 : decode cX8_advance 101 = .ok (.aload_n 0, 1) := by decide +kernel
theorem dX8_advance_102 : decode cX8_advance 102 = .ok (.getfield 50, 3) := by decide +kernel
theorem dX8_advance_105 : decode cX8_advance 105 = .ok (.if_icmp .ne 16, 3) := by decide +kernel
theorem dX8_advance_108 : decode cX8_advance 108 = .ok (.aload_n 0, 1) := by decide +kernel
theorem dX8_advance_109 : decode cX8_advance 109 = .ok (.dup, 1) := by decide +kernel
theorem dX8_advance_110 : decode cX8_advance 110 = .ok (.getfield 37, 3) := by decide +kernel
theorem dX8_advance_113 : decode cX8_advance 113 = .ok (.iconst 1, 1) := by decide +kernel
theorem dX8_advance_114 : decode cX8_advance 114 = .ok (.iadd, 1) := by decide +kernel
theorem dX8_advance_115 : decode cX8_advance 115 = .ok (.putfield 37, 3) := by decide +kernel
theorem dX8_advance_118 : decode cX8_advance 118 = .ok (.goto (-36), 3) := by decide +kernel
theorem dX8_advance_121 : decode cX8_advance 121 = .ok (.aload_n 0, 1) := by decide +kernel
theorem dX8_advance_122 : decode cX8_advance 122 = .ok (.aload_n 0, 1) := by decide +kernel
theorem dX8_advance_123 : decode cX8_advance 123 = .ok (.getfield 50, 3) := by decide +kernel
theorem dX8_advance_126 : decode cX8_advance 126 = .ok (.iconst 2, 1) := by decide +kernel
theorem dX8_advance_127 : decode cX8_advance 127 = .ok (.if_icmp .ne 11, 3) := by decide +kernel
theorem dX8_advance_130 : decode cX8_advance 130 = .ok (.aload_n 0, 1) := by decide +kernel
theorem dX8_advance_131 : decode cX8_advance 131 = .ok (.aload_n 1, 1) := by decide +kernel
theorem dX8_advance_132 : decode cX8_advance 132 = .ok (.invokevirtual 131, 3) := by decide +kernel
theorem dX8_advance_135 : decode cX8_advance 135 = .ok (.goto 4, 3) := by decide +kernel
theorem dX8_advance_138 : decode cX8_advance 138 = .ok (.iconst 0, 1) := by decide +kernel
theorem dX8_advance_139 : decode cX8_advance 139 = .ok (.putfield 81, 3) := by decide +kernel
theorem dX8_advance_142 : decode cX8_advance 142 = .ok (.goto 20, 3) := by decide +kernel
theorem dX8_advance_145 : decode cX8_advance 145 = .ok (.aload_n 0, 1) := by decide +kernel
theorem dX8_advance_146 : decode cX8_advance 146 = .ok (.getfield 50, 3) := by decide +kernel
theorem dX8_advance_149 : decode cX8_advance 149 = .ok (.ifCond .eq 13, 3) := by decide +kernel
theorem dX8_advance_152 : decode cX8_advance 152 = .ok (.aload_n 0, 1) := by decide +kernel
theorem dX8_advance_153 : decode cX8_advance 153 = .ok (.dup, 1) := by decide +kernel
theorem dX8_advance_154 : decode cX8_advance 154 = .ok (.getfield 37, 3) := by decide +kernel
theorem dX8_advance_157 : decode cX8_advance 157 = .ok (.iconst 1, 1) := by decide +kernel
theorem dX8_advance_158 : decode cX8_advance 158 = .ok (.iadd, 1) := by decide +kernel
theorem dX8_advance_159 : decode cX8_advance 159 = .ok (.putfield 37, 3) := by decide +kernel
theorem dX8_advance_162 : decode cX8_advance 162 = .ok (.return_, 1) := by decide +kernel
theorem dX8_numberIn_0 : decode cX8_numberIn 0 = .ok (.iconst 0, 1) := by decide +kernel
theorem dX8_numberIn_1 : decode cX8_numberIn 1 = .ok (.istore_n 2, 1) := by decide +kernel
theorem dX8_numberIn_2 : decode cX8_numberIn 2 = .ok (.aload_n 0, 1) := by decide +kernel
theorem dX8_numberIn_3 : decode cX8_numberIn 3 = .ok (.getfield 103, 3) := by decide +kernel
theorem dX8_numberIn_6 : decode cX8_numberIn 6 = .ok (.istore_n 3, 1) := by decide +kernel
theorem dX8_numberIn_7 : decode cX8_numberIn 7 = .ok (.iload_n 3, 1) := by decide +kernel
theorem dX8_numberIn_8 : decode cX8_numberIn 8 = .ok (.aload_n 0, 1) := by decide +kernel
theorem dX8_numberIn_9 : decode cX8_numberIn 9 = .ok (.getfield 37, 3) := by decide +kernel
theorem dX8_numberIn_12 : decode cX8_numberIn 12 = .ok (.if_icmp .ge 29, 3) := by decide +kernel
theorem dX8_numberIn_15 : decode cX8_numberIn 15 = .ok (.sipush 1000, 3) := by decide +kernel
theorem dX8_numberIn_18 : decode cX8_numberIn 18 = .ok (.bipush 10, 2) := by decide +kernel
theorem dX8_numberIn_20 : decode cX8_numberIn 20 = .ok (.iload_n 2, 1) := by decide +kernel
theorem dX8_numberIn_21 : decode cX8_numberIn 21 = .ok (.imul, 1) := by decide +kernel
theorem dX8_numberIn_22 : decode cX8_numberIn 22 = .ok (.aload_n 1, 1) := by decide +kernel
theorem dX8_numberIn_23 : decode cX8_numberIn 23 = .ok (.iload_n 3, 1) := by decide +kernel
theorem dX8_numberIn_24 : decode cX8_numberIn 24 = .ok (.invokevirtual 112, 3) := by decide +kernel
theorem dX8_numberIn_27 : decode cX8_numberIn 27 = .ok (.iadd, 1) := by decide +kernel
theorem dX8_numberIn_28 : decode cX8_numberIn 28 = .ok (.bipush 48, 2) := by decide +kernel
theorem dX8_numberIn_30 : decode cX8_numberIn 30 = .ok (.isub, 1) := by decide +kernel
theorem dX8_numberIn_31 : decode cX8_numberIn 31 = .ok (.invokestatic 135, 3) := by decide +kernel
theorem dX8_numberIn_34 : decode cX8_numberIn 34 = .ok (.istore_n 2, 1) := by decide +kernel
theorem dX8_numberIn_35 : decode cX8_numberIn 35 = .ok (.iinc 3 1, 3) := by decide +kernel
theorem dX8_numberIn_38 : decode cX8_numberIn 38 = .ok (.goto (-31), 3) := by decide +kernel
theorem dX8_numberIn_41 : decode cX8_numberIn 41 = .ok (.iload_n 2, 1) := by decide +kernel
theorem dX8_numberIn_42 : decode cX8_numberIn 42 = .ok (.ireturn, 1) := by decide +kernel
theorem dX8_isBlank_0 : decode cX8_isBlank 0 = .ok (.iload_n 0, 1) := by decide +kernel
theorem dX8_isBlank_1 : decode cX8_isBlank 1 = .ok (.bipush 32, 2) := by decide +kernel
theorem dX8_isBlank_3 : decode cX8_isBlank 3 = .ok (.if_icmp .eq 9, 3) := by decide +kernel
theorem dX8_isBlank_6 : decode cX8_isBlank 6 = .ok (.iload_n 0, 1) := by decide +kernel
theorem dX8_isBlank_7 : decode cX8_isBlank 7 = .ok (.bipush 10, 2) := by decide +kernel
theorem dX8_isBlank_9 : decode cX8_isBlank 9 = .ok (.if_icmp .ne 7, 3) := by decide +kernel
theorem dX8_isBlank_12 : decode cX8_isBlank 12 = .ok (.iconst 1, 1) := by decide +kernel
theorem dX8_isBlank_13 : decode cX8_isBlank 13 = .ok (.goto 4, 3) := by decide +kernel
theorem dX8_isBlank_16 : decode cX8_isBlank 16 = .ok (.iconst 0, 1) := by decide +kernel
theorem dX8_isBlank_17 : decode cX8_isBlank 17 = .ok (.ireturn, 1) := by decide +kernel
theorem dX8_kindOf_0 : decode cX8_kindOf 0 = .ok (.iload_n 1, 1) := by decide +kernel
theorem dX8_kindOf_1 : decode cX8_kindOf 1 = .ok (.aload_n 0, 1) := by decide +kernel
theorem dX8_kindOf_2 : decode cX8_kindOf 2 = .ok (.getfield 122, 3) := by decide +kernel
theorem dX8_kindOf_5 : decode cX8_kindOf 5 = .ok (.if_icmp .lt 5, 3) := by decide +kernel
theorem dX8_kindOf_8 : decode cX8_kindOf 8 = .ok (.iconst 0, 1) := by decide +kernel
theorem dX8_kindOf_9 : decode cX8_kindOf 9 = .ok (.ireturn, 1) := by decide +kernel
theorem dX8_kindOf_10 : decode cX8_kindOf 10 = .ok (.aload_n 0, 1) := by decide +kernel
theorem dX8_kindOf_11 : decode cX8_kindOf 11 = .ok (.iload_n 1, 1) := by decide +kernel
theorem dX8_kindOf_12 : decode cX8_kindOf 12 = .ok (.invokevirtual 112, 3) := by decide +kernel
theorem dX8_kindOf_15 : decode cX8_kindOf 15 = .ok (.istore_n 2, 1) := by decide +kernel
theorem dX8_kindOf_16 : decode cX8_kindOf 16 = .ok (.iload_n 2, 1) := by decide +kernel
theorem dX8_kindOf_17 : decode cX8_kindOf 17 = .ok (.bipush 97, 2) := by decide +kernel
theorem dX8_kindOf_19 : decode cX8_kindOf 19 = .ok (.if_icmp .lt 11, 3) := by decide +kernel
theorem dX8_kindOf_22 : decode cX8_kindOf 22 = .ok (.iload_n 2, 1) := by decide +kernel
theorem dX8_kindOf_23 : decode cX8_kindOf 23 = .ok (.bipush 122, 2) := by decide +kernel
theorem dX8_kindOf_25 : decode cX8_kindOf 25 = .ok (.if_icmp .gt 5, 3) := by decide +kernel
theorem dX8_kindOf_28 : decode cX8_kindOf 28 = .ok (.iconst 1, 1) := by decide +kernel
theorem dX8_kindOf_29 : decode cX8_kindOf 29 = .ok (.ireturn, 1) := by decide +kernel
theorem dX8_kindOf_30 : decode cX8_kindOf 30 = .ok (.iload_n 2, 1) := by decide +kernel
theorem dX8_kindOf_31 : decode cX8_kindOf 31 = .ok (.bipush 48, 2) := by decide +kernel
theorem dX8_kindOf_33 : decode cX8_kindOf 33 = .ok (.if_icmp .lt 11, 3) := by decide +kernel
theorem dX8_kindOf_36 : decode cX8_kindOf 36 = .ok (.iload_n 2, 1) := by decide +kernel
theorem dX8_kindOf_37 : decode cX8_kindOf 37 = .ok (.bipush 57, 2) := by decide +kernel
theorem dX8_kindOf_39 : decode cX8_kindOf 39 = .ok (.if_icmp .gt 5, 3) := by decide +kernel
theorem dX8_kindOf_42 : decode cX8_kindOf 42 = .ok (.iconst 2, 1) := by decide +kernel
theorem dX8_kindOf_43 : decode cX8_kindOf 43 = .ok (.ireturn, 1) := by decide +kernel
theorem dX8_kindOf_44 : decode cX8_kindOf 44 = .ok (.iload_n 2, 1) := by decide +kernel
theorem dX8_kindOf_45 : decode cX8_kindOf 45 = .ok (.bipush 59, 2) := by decide +kernel
theorem dX8_kindOf_47 : decode cX8_kindOf 47 = .ok (.if_icmp .ne 7, 3) := by decide +kernel
theorem dX8_kindOf_50 : decode cX8_kindOf 50 = .ok (.iconst 3, 1) := by decide +kernel
theorem dX8_kindOf_51 : decode cX8_kindOf 51 = .ok (.goto 4, 3) := by decide +kernel
theorem dX8_kindOf_54 : decode cX8_kindOf 54 = .ok (.iconst 4, 1) := by decide +kernel
theorem dX8_kindOf_55 : decode cX8_kindOf 55 = .ok (.ireturn, 1) := by decide +kernel
theorem dX9_init_0 : decode cX9_init 0 = .ok (.aload_n 0, 1) := by decide +kernel
theorem dX9_init_1 : decode cX9_init 1 = .ok (.invokespecial 3, 3) := by decide +kernel
theorem dX9_init_4 : decode cX9_init 4 = .ok (.aload_n 0, 1) := by decide +kernel
theorem dX9_init_5 : decode cX9_init 5 = .ok (.iconst 4, 1) := by decide +kernel
theorem dX9_init_6 : decode cX9_init 6 = .ok (.newarray .int, 2) := by decide +kernel
theorem dX9_init_8 : decode cX9_init 8 = .ok (.putfield 9, 3) := by decide +kernel
theorem dX9_init_11 : decode cX9_init 11 = .ok (.aload_n 0, 1) := by decide +kernel
theorem dX9_init_12 : decode cX9_init 12 = .ok (.iconst 4, 1) := by decide +kernel
theorem dX9_init_13 : decode cX9_init 13 = .ok (.newarray .int, 2) := by decide +kernel
theorem dX9_init_15 : decode cX9_init 15 = .ok (.putfield 15, 3) := by decide +kernel
theorem dX9_init_18 : decode cX9_init 18 = .ok (.aload_n 0, 1) := by decide +kernel
theorem dX9_init_19 : decode cX9_init 19 = .ok (.bipush 20, 2) := by decide +kernel
theorem dX9_init_21 : decode cX9_init 21 = .ok (.newarray .long, 2) := by decide +kernel
theorem dX9_init_23 : decode cX9_init 23 = .ok (.putfield 18, 3) := by decide +kernel
theorem dX9_init_26 : decode cX9_init 26 = .ok (.return_, 1) := by decide +kernel
theorem dX9_take_0 : decode cX9_take 0 = .ok (.aload_n 0, 1) := by decide +kernel
theorem dX9_take_1 : decode cX9_take 1 = .ok (.aload_n 1, 1) := by decide +kernel
theorem dX9_take_2 : decode cX9_take 2 = .ok (.getfield 22, 3) := by decide +kernel
theorem dX9_take_5 : decode cX9_take 5 = .ok (.putfield 28, 3) := by decide +kernel
theorem dX9_take_8 : decode cX9_take 8 = .ok (.aload_n 0, 1) := by decide +kernel
theorem dX9_take_9 : decode cX9_take 9 = .ok (.aload_n 1, 1) := by decide +kernel
theorem dX9_take_10 : decode cX9_take 10 = .ok (.getfield 29, 3) := by decide +kernel
theorem dX9_take_13 : decode cX9_take 13 = .ok (.putfield 32, 3) := by decide +kernel
theorem dX9_take_16 : decode cX9_take 16 = .ok (.aload_n 0, 1) := by decide +kernel
theorem dX9_take_17 : decode cX9_take 17 = .ok (.aload_n 1, 1) := by decide +kernel
theorem dX9_take_18 : decode cX9_take 18 = .ok (.getfield 33, 3) := by decide +kernel
theorem dX9_take_21 : decode cX9_take 21 = .ok (.putfield 36, 3) := by decide +kernel
theorem dX9_take_24 : decode cX9_take 24 = .ok (.aload_n 0, 1) := by decide +kernel
theorem dX9_take_25 : decode cX9_take 25 = .ok (.aload_n 1, 1) := by decide +kernel
theorem dX9_take_26 : decode cX9_take 26 = .ok (.getfield 37, 3) := by decide +kernel
theorem dX9_take_29 : decode cX9_take 29 = .ok (.putfield 40, 3) := by decide +kernel
theorem dX9_take_32 : decode cX9_take 32 = .ok (.aload_n 0, 1) := by decide +kernel
theorem dX9_take_33 : decode cX9_take 33 = .ok (.iconst 0, 1) := by decide +kernel
theorem dX9_take_34 : decode cX9_take 34 = .ok (.putfield 41, 3) := by decide +kernel
theorem dX9_take_37 : decode cX9_take 37 = .ok (.aload_n 0, 1) := by decide +kernel
theorem dX9_take_38 : decode cX9_take 38 = .ok (.lconst 0, 1) := by decide +kernel
theorem dX9_take_39 : decode cX9_take 39 = .ok (.putfield 44, 3) := by decide +kernel
theorem dX9_take_42 : decode cX9_take 42 = .ok (.aload_n 0, 1) := by decide +kernel
theorem dX9_take_43 : decode cX9_take 43 = .ok (.iconst 0, 1) := by decide +kernel
theorem dX9_take_44 : decode cX9_take 44 = .ok (.putfield 48, 3) := by decide +kernel
theorem dX9_take_47 : decode cX9_take 47 = .ok (.aload_n 0, 1) := by decide +kernel
theorem dX9_take_48 : decode cX9_take 48 = .ok (.getfield 9, 3) := by decide +kernel
theorem dX9_take_51 : decode cX9_take 51 = .ok (.iconst 0, 1) := by decide +kernel
theorem dX9_take_52 : decode cX9_take 52 = .ok (.invokestatic 51, 3) := by decide +kernel
theorem dX9_take_55 : decode cX9_take 55 = .ok (.aload_n 0, 1) := by decide +kernel
theorem dX9_take_56 : decode cX9_take 56 = .ok (.getfield 15, 3) := by decide +kernel
theorem dX9_take_59 : decode cX9_take 59 = .ok (.iconst 0, 1) := by decide +kernel
theorem dX9_take_60 : decode cX9_take 60 = .ok (.invokestatic 51, 3) := by decide +kernel
theorem dX9_take_63 : decode cX9_take 63 = .ok (.iconst 0, 1) := by decide +kernel
theorem dX9_take_64 : decode cX9_take 64 = .ok (.istore_n 2, 1) := by decide +kernel
theorem dX9_take_65 : decode cX9_take 65 = .ok (.iload_n 2, 1) := by decide +kernel
theorem dX9_take_66 : decode cX9_take 66 = .ok (.iconst 4, 1) := by decide +kernel
theorem dX9_take_67 : decode cX9_take 67 = .ok (.if_icmp .ge 81, 3) := by decide +kernel
theorem dX9_take_70 : decode cX9_take 70 = .ok (.iconst 0, 1) := by decide +kernel
theorem dX9_take_71 : decode cX9_take 71 = .ok (.istore_n 3, 1) := by decide +kernel
theorem dX9_take_72 : decode cX9_take 72 = .ok (.iload_n 3, 1) := by decide +kernel
theorem dX9_take_73 : decode cX9_take 73 = .ok (.iconst 4, 1) := by decide +kernel
theorem dX9_take_74 : decode cX9_take 74 = .ok (.if_icmp .ge 68, 3) := by decide +kernel
theorem dX9_take_77 : decode cX9_take 77 = .ok (.aload_n 1, 1) := by decide +kernel
theorem dX9_take_78 : decode cX9_take 78 = .ok (.iload_n 2, 1) := by decide +kernel
theorem dX9_take_79 : decode cX9_take 79 = .ok (.iload_n 3, 1) := by decide +kernel
theorem dX9_take_80 : decode cX9_take 80 = .ok (.invokevirtual 57, 3) := by decide +kernel
theorem dX9_take_83 : decode cX9_take 83 = .ok (.istore 4, 2) := by decide +kernel
theorem dX9_take_85 : decode cX9_take 85 = .ok (.aload_n 0, 1) := by decide +kernel
theorem dX9_take_86 : decode cX9_take 86 = .ok (.dup, 1) := by decide +kernel
theorem dX9_take_87 : decode cX9_take 87 = .ok (.getfield 41, 3) := by decide +kernel
theorem dX9_take_90 : decode cX9_take 90 = .ok (.iload 4, 2) := by decide +kernel
theorem dX9_take_92 : decode cX9_take 92 = .ok (.iadd, 1) := by decide +kernel
theorem dX9_take_93 : decode cX9_take 93 = .ok (.putfield 41, 3) := by decide +kernel
theorem dX9_take_96 : decode cX9_take 96 = .ok (.aload_n 0, 1) := by decide +kernel
theorem dX9_take_97 : decode cX9_take 97 = .ok (.getfield 9, 3) := by decide +kernel
theorem dX9_take_100 : decode cX9_take 100 = .ok (.iload_n 2, 1) := by decide +kernel
theorem dX9_take_101 : decode cX9_take 101 = .ok (.dup2, 1) := by decide +kernel
theorem dX9_take_102 : decode cX9_take 102 = .ok (.iaload, 1) := by decide +kernel
theorem dX9_take_103 : decode cX9_take 103 = .ok (.iload 4, 2) := by decide +kernel
theorem dX9_take_105 : decode cX9_take 105 = .ok (.iadd, 1) := by decide +kernel
theorem dX9_take_106 : decode cX9_take 106 = .ok (.iastore, 1) := by decide +kernel
theorem dX9_take_107 : decode cX9_take 107 = .ok (.aload_n 0, 1) := by decide +kernel
theorem dX9_take_108 : decode cX9_take 108 = .ok (.getfield 15, 3) := by decide +kernel
theorem dX9_take_111 : decode cX9_take 111 = .ok (.iload_n 3, 1) := by decide +kernel
theorem dX9_take_112 : decode cX9_take 112 = .ok (.dup2, 1) := by decide +kernel
theorem dX9_take_113 : decode cX9_take 113 = .ok (.iaload, 1) := by decide +kernel
theorem dX9_take_114 : decode cX9_take 114 = .ok (.iload 4, 2) := by decide +kernel
theorem dX9_take_116 : decode cX9_take 116 = .ok (.iadd, 1) := by decide +kernel
theorem dX9_take_117 : decode cX9_take 117 = .ok (.iastore, 1) := by decide +kernel
theorem dX9_take_118 : decode cX9_take 118 = .ok (.aload_n 0, 1) := by decide +kernel
theorem dX9_take_119 : decode cX9_take 119 = .ok (.dup, 1) := by decide +kernel
theorem dX9_take_120 : decode cX9_take 120 = .ok (.getfield 44, 3) := by decide +kernel
theorem dX9_take_123 : decode cX9_take 123 = .ok (.iload 4, 2) := by decide +kernel
theorem dX9_take_125 : decode cX9_take 125 = .ok (.i2l, 1) := by decide +kernel
theorem dX9_take_126 : decode cX9_take 126 = .ok (.iload_n 2, 1) := by decide +kernel
theorem dX9_take_127 : decode cX9_take 127 = .ok (.iload_n 3, 1) := by decide +kernel
theorem dX9_take_128 : decode cX9_take 128 = .ok (.invokestatic 61, 3) := by decide +kernel
theorem dX9_take_131 : decode cX9_take 131 = .ok (.lshl, 1) := by decide +kernel
theorem dX9_take_132 : decode cX9_take 132 = .ok (.lor, 1) := by decide +kernel
theorem dX9_take_133 : decode cX9_take 133 = .ok (.putfield 44, 3) := by decide +kernel
theorem dX9_take_136 : decode cX9_take 136 = .ok (.iinc 3 1, 3) := by decide +kernel
theorem dX9_take_139 : decode cX9_take 139 = .ok (.goto (-67), 3) := by decide +kernel
theorem dX9_take_142 : decode cX9_take 142 = .ok (.iinc 2 1, 3) := by decide +kernel
theorem dX9_take_145 : decode cX9_take 145 = .ok (.goto (-80), 3) := by decide +kernel
theorem dX9_take_148 : decode cX9_take 148 = .ok (.return_, 1) := by decide +kernel
theorem dX9_isTold_0 : decode cX9_isTold 0 = .ok (.aload_n 0, 1) := by decide +kernel
theorem dX9_isTold_1 : decode cX9_isTold 1 = .ok (.getfield 28, 3) := by decide +kernel
theorem dX9_isTold_4 : decode cX9_isTold 4 = .ok (.ifCond .le 7, 3) := by decide +kernel
theorem dX9_isTold_7 : decode cX9_isTold 7 = .ok (.iconst 1, 1) := by decide +kernel
theorem dX9_isTold_8 : decode cX9_isTold 8 = .ok (.goto 4, 3) := by decide +kernel
theorem dX9_isTold_11 : decode cX9_isTold 11 = .ok (.iconst 0, 1) := by decide +kernel
theorem dX9_isTold_12 : decode cX9_isTold 12 = .ok (.ireturn, 1) := by decide +kernel
theorem dX9_has_0 : decode cX9_has 0 = .ok (.iload_n 1, 1) := by decide +kernel
theorem dX9_has_1 : decode cX9_has 1 = .ok (.ifCond .lt 27, 3) := by decide +kernel
theorem dX9_has_4 : decode cX9_has 4 = .ok (.iload_n 1, 1) := by decide +kernel
theorem dX9_has_5 : decode cX9_has 5 = .ok (.aload_n 0, 1) := by decide +kernel
theorem dX9_has_6 : decode cX9_has 6 = .ok (.getfield 28, 3) := by decide +kernel
theorem dX9_has_9 : decode cX9_has 9 = .ok (.if_icmp .ge 19, 3) := by decide +kernel
theorem dX9_has_12 : decode cX9_has 12 = .ok (.iload_n 2, 1) := by decide +kernel
theorem dX9_has_13 : decode cX9_has 13 = .ok (.ifCond .lt 15, 3) := by decide +kernel
theorem dX9_has_16 : decode cX9_has 16 = .ok (.iload_n 2, 1) := by decide +kernel
theorem dX9_has_17 : decode cX9_has 17 = .ok (.aload_n 0, 1) := by decide +kernel
theorem dX9_has_18 : decode cX9_has 18 = .ok (.getfield 32, 3) := by decide +kernel
theorem dX9_has_21 : decode cX9_has 21 = .ok (.if_icmp .ge 7, 3) := by decide +kernel
theorem dX9_has_24 : decode cX9_has 24 = .ok (.iconst 1, 1) := by decide +kernel
theorem dX9_has_25 : decode cX9_has 25 = .ok (.goto 4, 3) := by decide +kernel
theorem dX9_has_28 : decode cX9_has 28 = .ok (.iconst 0, 1) := by decide +kernel
theorem dX9_has_29 : decode cX9_has 29 = .ok (.ireturn, 1) := by decide +kernel
theorem dX9_at_0 : decode cX9_at 0 = .ok (.aload_n 0, 1) := by decide +kernel
theorem dX9_at_1 : decode cX9_at 1 = .ok (.getfield 44, 3) := by decide +kernel
theorem dX9_at_4 : decode cX9_at 4 = .ok (.iload_n 1, 1) := by decide +kernel
theorem dX9_at_5 : decode cX9_at 5 = .ok (.iload_n 2, 1) := by decide +kernel
theorem dX9_at_6 : decode cX9_at 6 = .ok (.invokestatic 61, 3) := by decide +kernel
theorem dX9_at_9 : decode cX9_at 9 = .ok (.invokestatic 66, 3) := by decide +kernel
theorem dX9_at_12 : decode cX9_at 12 = .ok (.ireturn, 1) := by decide +kernel
theorem dX9_isHole_0 : decode cX9_isHole 0 = .ok (.aload_n 0, 1) := by decide +kernel
theorem dX9_isHole_1 : decode cX9_isHole 1 = .ok (.getfield 40, 3) := by decide +kernel
theorem dX9_isHole_4 : decode cX9_isHole 4 = .ok (.iconst 4, 1) := by decide +kernel
theorem dX9_isHole_5 : decode cX9_isHole 5 = .ok (.iload_n 1, 1) := by decide +kernel
theorem dX9_isHole_6 : decode cX9_isHole 6 = .ok (.imul, 1) := by decide +kernel
theorem dX9_isHole_7 : decode cX9_isHole 7 = .ok (.iload_n 2, 1) := by decide +kernel
theorem dX9_isHole_8 : decode cX9_isHole 8 = .ok (.iadd, 1) := by decide +kernel
theorem dX9_isHole_9 : decode cX9_isHole 9 = .ok (.ishr, 1) := by decide +kernel
theorem dX9_isHole_10 : decode cX9_isHole 10 = .ok (.iconst 1, 1) := by decide +kernel
theorem dX9_isHole_11 : decode cX9_isHole 11 = .ok (.iand, 1) := by decide +kernel
theorem dX9_isHole_12 : decode cX9_isHole 12 = .ok (.ifCond .eq 7, 3) := by decide +kernel
theorem dX9_isHole_15 : decode cX9_isHole 15 = .ok (.iconst 1, 1) := by decide +kernel
theorem dX9_isHole_16 : decode cX9_isHole 16 = .ok (.goto 4, 3) := by decide +kernel
theorem dX9_isHole_19 : decode cX9_isHole 19 = .ok (.iconst 0, 1) := by decide +kernel
theorem dX9_isHole_20 : decode cX9_isHole 20 = .ok (.ireturn, 1) := by decide +kernel
theorem dX9_rowSum_0 : decode cX9_rowSum 0 = .ok (.aload_n 0, 1) := by decide +kernel
theorem dX9_rowSum_1 : decode cX9_rowSum 1 = .ok (.getfield 9, 3) := by decide +kernel
theorem dX9_rowSum_4 : decode cX9_rowSum 4 = .ok (.iload_n 1, 1) := by decide +kernel
theorem dX9_rowSum_5 : decode cX9_rowSum 5 = .ok (.invokestatic 70, 3) := by decide +kernel
theorem dX9_rowSum_8 : decode cX9_rowSum 8 = .ok (.ireturn, 1) := by decide +kernel
theorem dX9_columnSum_0 : decode cX9_columnSum 0 = .ok (.aload_n 0, 1) := by decide +kernel
theorem dX9_columnSum_1 : decode cX9_columnSum 1 = .ok (.getfield 15, 3) := by decide +kernel
theorem dX9_columnSum_4 : decode cX9_columnSum 4 = .ok (.iload_n 1, 1) := by decide +kernel
theorem dX9_columnSum_5 : decode cX9_columnSum 5 = .ok (.invokestatic 70, 3) := by decide +kernel
theorem dX9_columnSum_8 : decode cX9_columnSum 8 = .ok (.ireturn, 1) := by decide +kernel
theorem dX9_isFull_0 : decode cX9_isFull 0 = .ok (.aload_n 0, 1) := by decide +kernel
theorem dX9_isFull_1 : decode cX9_isFull 1 = .ok (.getfield 48, 3) := by decide +kernel
theorem dX9_isFull_4 : decode cX9_isFull 4 = .ok (.bipush 20, 2) := by decide +kernel
theorem dX9_isFull_6 : decode cX9_isFull 6 = .ok (.if_icmp .lt 7, 3) := by decide +kernel
theorem dX9_isFull_9 : decode cX9_isFull 9 = .ok (.iconst 1, 1) := by decide +kernel
theorem dX9_isFull_10 : decode cX9_isFull 10 = .ok (.goto 4, 3) := by decide +kernel
theorem dX9_isFull_13 : decode cX9_isFull 13 = .ok (.iconst 0, 1) := by decide +kernel
theorem dX9_isFull_14 : decode cX9_isFull 14 = .ok (.ireturn, 1) := by decide +kernel
theorem dX9_remember_0 : decode cX9_remember 0 = .ok (.aload_n 0, 1) := by decide +kernel
theorem dX9_remember_1 : decode cX9_remember 1 = .ok (.getfield 48, 3) := by decide +kernel
theorem dX9_remember_4 : decode cX9_remember 4 = .ok (.ifCond .lt 35, 3) := by decide +kernel
theorem dX9_remember_7 : decode cX9_remember 7 = .ok (.aload_n 0, 1) := by decide +kernel
theorem dX9_remember_8 : decode cX9_remember 8 = .ok (.getfield 48, 3) := by decide +kernel
theorem dX9_remember_11 : decode cX9_remember 11 = .ok (.bipush 20, 2) := by decide +kernel
theorem dX9_remember_13 : decode cX9_remember 13 = .ok (.if_icmp .ge 26, 3) := by decide +kernel
theorem dX9_remember_16 : decode cX9_remember 16 = .ok (.aload_n 0, 1) := by decide +kernel
theorem dX9_remember_17 : decode cX9_remember 17 = .ok (.getfield 18, 3) := by decide +kernel
theorem dX9_remember_20 : decode cX9_remember 20 = .ok (.aload_n 0, 1) := by decide +kernel
theorem dX9_remember_21 : decode cX9_remember 21 = .ok (.getfield 48, 3) := by decide +kernel
theorem dX9_remember_24 : decode cX9_remember 24 = .ok (.aload_n 0, 1) := by decide +kernel
theorem dX9_remember_25 : decode cX9_remember 25 = .ok (.getfield 44, 3) := by decide +kernel
theorem dX9_remember_28 : decode cX9_remember 28 = .ok (.lastore, 1) := by decide +kernel
theorem dX9_remember_29 : decode cX9_remember 29 = .ok (.aload_n 0, 1) := by decide +kernel
theorem dX9_remember_30 : decode cX9_remember 30 = .ok (.dup, 1) := by decide +kernel
theorem dX9_remember_31 : decode cX9_remember 31 = .ok (.getfield 48, 3) := by decide +kernel
theorem dX9_remember_34 : decode cX9_remember 34 = .ok (.iconst 1, 1) := by decide +kernel
theorem dX9_remember_35 : decode cX9_remember 35 = .ok (.iadd, 1) := by decide +kernel
theorem dX9_remember_36 : decode cX9_remember 36 = .ok (.putfield 48, 3) := by decide +kernel
theorem dX9_remember_39 : decode cX9_remember 39 = .ok (.return_, 1) := by decide +kernel
theorem dX9_goBackTo_0 : decode cX9_goBackTo 0 = .ok (.iload_n 1, 1) := by decide +kernel
theorem dX9_goBackTo_1 : decode cX9_goBackTo 1 = .ok (.ifCond .lt 32, 3) := by decide +kernel
theorem dX9_goBackTo_4 : decode cX9_goBackTo 4 = .ok (.iload_n 1, 1) := by decide +kernel
theorem dX9_goBackTo_5 : decode cX9_goBackTo 5 = .ok (.aload_n 0, 1) := by decide +kernel
theorem dX9_goBackTo_6 : decode cX9_goBackTo 6 = .ok (.getfield 48, 3) := by decide +kernel
theorem dX9_goBackTo_9 : decode cX9_goBackTo 9 = .ok (.if_icmp .ge 24, 3) := by decide +kernel
theorem dX9_goBackTo_12 : decode cX9_goBackTo 12 = .ok (.iload_n 1, 1) := by decide +kernel
theorem dX9_goBackTo_13 : decode cX9_goBackTo 13 = .ok (.bipush 20, 2) := by decide +kernel
theorem dX9_goBackTo_15 : decode cX9_goBackTo 15 = .ok (.if_icmp .ge 18, 3) := by decide +kernel
theorem dX9_goBackTo_18 : decode cX9_goBackTo 18 = .ok (.aload_n 0, 1) := by decide +kernel
theorem dX9_goBackTo_19 : decode cX9_goBackTo 19 = .ok (.aload_n 0, 1) := by decide +kernel
theorem dX9_goBackTo_20 : decode cX9_goBackTo 20 = .ok (.getfield 18, 3) := by decide +kernel
theorem dX9_goBackTo_23 : decode cX9_goBackTo 23 = .ok (.iload_n 1, 1) := by decide +kernel
theorem dX9_goBackTo_24 : decode cX9_goBackTo 24 = .ok (.laload, 1) := by decide +kernel
theorem dX9_goBackTo_25 : decode cX9_goBackTo 25 = .ok (.putfield 44, 3) := by decide +kernel
theorem dX9_goBackTo_28 : decode cX9_goBackTo 28 = .ok (.aload_n 0, 1) := by decide +kernel
theorem dX9_goBackTo_29 : decode cX9_goBackTo 29 = .ok (.iload_n 1, 1) := by decide +kernel
theorem dX9_goBackTo_30 : decode cX9_goBackTo 30 = .ok (.putfield 48, 3) := by decide +kernel
theorem dX9_goBackTo_33 : decode cX9_goBackTo 33 = .ok (.return_, 1) := by decide +kernel
theorem dX9_canSwap_0 : decode cX9_canSwap 0 = .ok (.aload_n 0, 1) := by decide +kernel
theorem dX9_canSwap_1 : decode cX9_canSwap 1 = .ok (.iload_n 1, 1) := by decide +kernel
theorem dX9_canSwap_2 : decode cX9_canSwap 2 = .ok (.iload 4, 2) := by decide +kernel
theorem dX9_canSwap_4 : decode cX9_canSwap 4 = .ok (.invokevirtual 75, 3) := by decide +kernel
theorem dX9_canSwap_7 : decode cX9_canSwap 7 = .ok (.ifCond .le 35, 3) := by decide +kernel
theorem dX9_canSwap_10 : decode cX9_canSwap 10 = .ok (.aload_n 0, 1) := by decide +kernel
theorem dX9_canSwap_11 : decode cX9_canSwap 11 = .ok (.iload_n 2, 1) := by decide +kernel
theorem dX9_canSwap_12 : decode cX9_canSwap 12 = .ok (.iload_n 3, 1) := by decide +kernel
theorem dX9_canSwap_13 : decode cX9_canSwap 13 = .ok (.invokevirtual 75, 3) := by decide +kernel
theorem dX9_canSwap_16 : decode cX9_canSwap 16 = .ok (.ifCond .le 26, 3) := by decide +kernel
theorem dX9_canSwap_19 : decode cX9_canSwap 19 = .ok (.aload_n 0, 1) := by decide +kernel
theorem dX9_canSwap_20 : decode cX9_canSwap 20 = .ok (.iload_n 1, 1) := by decide +kernel
theorem dX9_canSwap_21 : decode cX9_canSwap 21 = .ok (.iload_n 3, 1) := by decide +kernel
theorem dX9_canSwap_22 : decode cX9_canSwap 22 = .ok (.invokevirtual 78, 3) := by decide +kernel
theorem dX9_canSwap_25 : decode cX9_canSwap 25 = .ok (.ifCond .ne 17, 3) := by decide +kernel
theorem dX9_canSwap_28 : decode cX9_canSwap 28 = .ok (.aload_n 0, 1) := by decide +kernel
theorem dX9_canSwap_29 : decode cX9_canSwap 29 = .ok (.iload_n 2, 1) := by decide +kernel
theorem dX9_canSwap_30 : decode cX9_canSwap 30 = .ok (.iload 4, 2) := by decide +kernel
theorem dX9_canSwap_32 : decode cX9_canSwap 32 = .ok (.invokevirtual 78, 3) := by decide +kernel
theorem dX9_canSwap_35 : decode cX9_canSwap 35 = .ok (.ifCond .ne 7, 3) := by decide +kernel
theorem dX9_canSwap_38 : decode cX9_canSwap 38 = .ok (.iconst 1, 1) := by decide +kernel
theorem dX9_canSwap_39 : decode cX9_canSwap 39 = .ok (.goto 4, 3) := by decide +kernel
theorem dX9_canSwap_42 : decode cX9_canSwap 42 = .ok (.iconst 0, 1) := by decide +kernel
theorem dX9_canSwap_43 : decode cX9_canSwap 43 = .ok (.ireturn, 1) := by decide +kernel
theorem dX9_doSwap_0 : decode cX9_doSwap 0 = .ok (.aload_n 0, 1) := by decide +kernel
theorem dX9_doSwap_1 : decode cX9_doSwap 1 = .ok (.dup, 1) := by decide +kernel
theorem dX9_doSwap_2 : decode cX9_doSwap 2 = .ok (.getfield 44, 3) := by decide +kernel
theorem dX9_doSwap_5 : decode cX9_doSwap 5 = .ok (.iload_n 1, 1) := by decide +kernel
theorem dX9_doSwap_6 : decode cX9_doSwap 6 = .ok (.iload_n 2, 1) := by decide +kernel
theorem dX9_doSwap_7 : decode cX9_doSwap 7 = .ok (.iload_n 3, 1) := by decide +kernel
theorem dX9_doSwap_8 : decode cX9_doSwap 8 = .ok (.iload 4, 2) := by decide +kernel
theorem dX9_doSwap_10 : decode cX9_doSwap 10 = .ok (.invokestatic 82, 3) := by decide +kernel
theorem dX9_doSwap_13 : decode cX9_doSwap 13 = .ok (.ladd, 1) := by decide +kernel
theorem dX9_doSwap_14 : decode cX9_doSwap 14 = .ok (.putfield 44, 3) := by decide +kernel
theorem dX9_doSwap_17 : decode cX9_doSwap 17 = .ok (.return_, 1) := by decide +kernel
theorem dX9_choose_0 : decode cX9_choose 0 = .ok (.aload_n 1, 1) := by decide +kernel
theorem dX9_choose_1 : decode cX9_choose 1 = .ok (.aload_n 0, 1) := by decide +kernel
theorem dX9_choose_2 : decode cX9_choose 2 = .ok (.getfield 28, 3) := by decide +kernel
theorem dX9_choose_5 : decode cX9_choose 5 = .ok (.invokevirtual 86, 3) := by decide +kernel
theorem dX9_choose_8 : decode cX9_choose 8 = .ok (.istore_n 2, 1) := by decide +kernel
theorem dX9_choose_9 : decode cX9_choose 9 = .ok (.aload_n 1, 1) := by decide +kernel
theorem dX9_choose_10 : decode cX9_choose 10 = .ok (.aload_n 0, 1) := by decide +kernel
theorem dX9_choose_11 : decode cX9_choose 11 = .ok (.getfield 28, 3) := by decide +kernel
theorem dX9_choose_14 : decode cX9_choose 14 = .ok (.iload_n 2, 1) := by decide +kernel
theorem dX9_choose_15 : decode cX9_choose 15 = .ok (.invokevirtual 92, 3) := by decide +kernel
theorem dX9_choose_18 : decode cX9_choose 18 = .ok (.istore_n 3, 1) := by decide +kernel
theorem dX9_choose_19 : decode cX9_choose 19 = .ok (.aload_n 1, 1) := by decide +kernel
theorem dX9_choose_20 : decode cX9_choose 20 = .ok (.aload_n 0, 1) := by decide +kernel
theorem dX9_choose_21 : decode cX9_choose 21 = .ok (.getfield 32, 3) := by decide +kernel
theorem dX9_choose_24 : decode cX9_choose 24 = .ok (.invokevirtual 86, 3) := by decide +kernel
theorem dX9_choose_27 : decode cX9_choose 27 = .ok (.istore 4, 2) := by decide +kernel
theorem dX9_choose_29 : decode cX9_choose 29 = .ok (.aload_n 1, 1) := by decide +kernel
theorem dX9_choose_30 : decode cX9_choose 30 = .ok (.aload_n 0, 1) := by decide +kernel
theorem dX9_choose_31 : decode cX9_choose 31 = .ok (.getfield 32, 3) := by decide +kernel
theorem dX9_choose_34 : decode cX9_choose 34 = .ok (.iload 4, 2) := by decide +kernel
theorem dX9_choose_36 : decode cX9_choose 36 = .ok (.invokevirtual 92, 3) := by decide +kernel
theorem dX9_choose_39 : decode cX9_choose 39 = .ok (.istore 5, 2) := by decide +kernel
theorem dX9_choose_41 : decode cX9_choose 41 = .ok (.aload_n 0, 1) := by decide +kernel
theorem dX9_choose_42 : decode cX9_choose 42 = .ok (.iload_n 2, 1) := by decide +kernel
theorem dX9_choose_43 : decode cX9_choose 43 = .ok (.iload_n 3, 1) := by decide +kernel
theorem dX9_choose_44 : decode cX9_choose 44 = .ok (.iload 4, 2) := by decide +kernel
theorem dX9_choose_46 : decode cX9_choose 46 = .ok (.iload 5, 2) := by decide +kernel
theorem dX9_choose_48 : decode cX9_choose 48 = .ok (.invokevirtual 95, 3) := by decide +kernel
theorem dX9_choose_51 : decode cX9_choose 51 = .ok (.istore 6, 2) := by decide +kernel
theorem dX9_choose_53 : decode cX9_choose 53 = .ok (.iload 6, 2) := by decide +kernel
theorem dX9_choose_55 : decode cX9_choose 55 = .ok (.ifCond .eq 13, 3) := by decide +kernel
theorem dX9_choose_58 : decode cX9_choose 58 = .ok (.aload_n 0, 1) := by decide +kernel
theorem dX9_choose_59 : decode cX9_choose 59 = .ok (.iload_n 2, 1) := by decide +kernel
theorem dX9_choose_60 : decode cX9_choose 60 = .ok (.iload_n 3, 1) := by decide +kernel
theorem dX9_choose_61 : decode cX9_choose 61 = .ok (.iload 4, 2) := by decide +kernel
theorem dX9_choose_63 : decode cX9_choose 63 = .ok (.iload 5, 2) := by decide +kernel
theorem dX9_choose_65 : decode cX9_choose 65 = .ok (.invokevirtual 99, 3) := by decide +kernel
theorem dX9_choose_68 : decode cX9_choose 68 = .ok (.iload 6, 2) := by decide +kernel
theorem dX9_choose_70 : decode cX9_choose 70 = .ok (.ireturn, 1) := by decide +kernel
theorem dX9_product_0 : decode cX9_product 0 = .ok (.aload_n 0, 1) := by decide +kernel
theorem dX9_product_1 : decode cX9_product 1 = .ok (.iload_n 1, 1) := by decide +kernel
theorem dX9_product_2 : decode cX9_product 2 = .ok (.invokevirtual 103, 3) := by decide +kernel
theorem dX9_product_5 : decode cX9_product 5 = .ok (.aload_n 0, 1) := by decide +kernel
theorem dX9_product_6 : decode cX9_product 6 = .ok (.iload_n 2, 1) := by decide +kernel
theorem dX9_product_7 : decode cX9_product 7 = .ok (.invokevirtual 106, 3) := by decide +kernel
theorem dX9_product_10 : decode cX9_product 10 = .ok (.imul, 1) := by decide +kernel
theorem dX9_product_11 : decode cX9_product 11 = .ok (.ireturn, 1) := by decide +kernel
theorem dX9_over_0 : decode cX9_over 0 = .ok (.aload_n 0, 1) := by decide +kernel
theorem dX9_over_1 : decode cX9_over 1 = .ok (.getfield 41, 3) := by decide +kernel
theorem dX9_over_4 : decode cX9_over 4 = .ok (.ifCond .gt 7, 3) := by decide +kernel
theorem dX9_over_7 : decode cX9_over 7 = .ok (.fconst 0, 1) := by decide +kernel
theorem dX9_over_8 : decode cX9_over 8 = .ok (.goto 16, 3) := by decide +kernel
theorem dX9_over_11 : decode cX9_over 11 = .ok (.aload_n 0, 1) := by decide +kernel
theorem dX9_over_12 : decode cX9_over 12 = .ok (.iload_n 1, 1) := by decide +kernel
theorem dX9_over_13 : decode cX9_over 13 = .ok (.iload_n 2, 1) := by decide +kernel
theorem dX9_over_14 : decode cX9_over 14 = .ok (.invokevirtual 109, 3) := by decide +kernel
theorem dX9_over_17 : decode cX9_over 17 = .ok (.i2f, 1) := by decide +kernel
theorem dX9_over_18 : decode cX9_over 18 = .ok (.aload_n 0, 1) := by decide +kernel
theorem dX9_over_19 : decode cX9_over 19 = .ok (.getfield 41, 3) := by decide +kernel
theorem dX9_over_22 : decode cX9_over 22 = .ok (.i2f, 1) := by decide +kernel
theorem dX9_over_23 : decode cX9_over 23 = .ok (.fdiv, 1) := by decide +kernel
theorem dX9_over_24 : decode cX9_over 24 = .ok (.fstore_n 3, 1) := by decide +kernel
theorem dX9_over_25 : decode cX9_over 25 = .ok (.aload_n 0, 1) := by decide +kernel
theorem dX9_over_26 : decode cX9_over 26 = .ok (.iload_n 1, 1) := by decide +kernel
theorem dX9_over_27 : decode cX9_over 27 = .ok (.iload_n 2, 1) := by decide +kernel
theorem dX9_over_28 : decode cX9_over 28 = .ok (.invokevirtual 75, 3) := by decide +kernel
theorem dX9_over_31 : decode cX9_over 31 = .ok (.i2f, 1) := by decide +kernel
theorem dX9_over_32 : decode cX9_over 32 = .ok (.fload_n 3, 1) := by decide +kernel
theorem dX9_over_33 : decode cX9_over 33 = .ok (.fsub, 1) := by decide +kernel
theorem dX9_over_34 : decode cX9_over 34 = .ok (.freturn, 1) := by decide +kernel
theorem dX9_chiSum_0 : decode cX9_chiSum 0 = .ok (.dconst 0, 1) := by decide +kernel
theorem dX9_chiSum_1 : decode cX9_chiSum 1 = .ok (.dstore_n 1, 1) := by decide +kernel
theorem dX9_chiSum_2 : decode cX9_chiSum 2 = .ok (.iconst 0, 1) := by decide +kernel
theorem dX9_chiSum_3 : decode cX9_chiSum 3 = .ok (.istore_n 3, 1) := by decide +kernel
theorem dX9_chiSum_4 : decode cX9_chiSum 4 = .ok (.iload_n 3, 1) := by decide +kernel
theorem dX9_chiSum_5 : decode cX9_chiSum 5 = .ok (.aload_n 0, 1) := by decide +kernel
theorem dX9_chiSum_6 : decode cX9_chiSum 6 = .ok (.getfield 28, 3) := by decide +kernel
theorem dX9_chiSum_9 : decode cX9_chiSum 9 = .ok (.if_icmp .ge 85, 3) := by decide +kernel
theorem dX9_chiSum_12 : decode cX9_chiSum 12 = .ok (.iconst 0, 1) := by decide +kernel
theorem dX9_chiSum_13 : decode cX9_chiSum 13 = .ok (.istore 4, 2) := by decide +kernel
theorem dX9_chiSum_15 : decode cX9_chiSum 15 = .ok (.iload 4, 2) := by decide +kernel
theorem dX9_chiSum_17 : decode cX9_chiSum 17 = .ok (.aload_n 0, 1) := by decide +kernel
theorem dX9_chiSum_18 : decode cX9_chiSum 18 = .ok (.getfield 32, 3) := by decide +kernel
theorem dX9_chiSum_21 : decode cX9_chiSum 21 = .ok (.if_icmp .ge 67, 3) := by decide +kernel
theorem dX9_chiSum_24 : decode cX9_chiSum 24 = .ok (.aload_n 0, 1) := by decide +kernel
theorem dX9_chiSum_25 : decode cX9_chiSum 25 = .ok (.getfield 41, 3) := by decide +kernel
theorem dX9_chiSum_28 : decode cX9_chiSum 28 = .ok (.ifCond .gt 7, 3) := by decide +kernel
theorem dX9_chiSum_31 : decode cX9_chiSum 31 = .ok (.dconst 0, 1) := by decide +kernel
theorem dX9_chiSum_32 : decode cX9_chiSum 32 = .ok (.goto 17, 3) := by decide +kernel
theorem dX9_chiSum_35 : decode cX9_chiSum 35 = .ok (.aload_n 0, 1) := by decide +kernel
theorem dX9_chiSum_36 : decode cX9_chiSum 36 = .ok (.iload_n 3, 1) := by decide +kernel
theorem dX9_chiSum_37 : decode cX9_chiSum 37 = .ok (.iload 4, 2) := by decide +kernel
theorem dX9_chiSum_39 : decode cX9_chiSum 39 = .ok (.invokevirtual 109, 3) := by decide +kernel
theorem dX9_chiSum_42 : decode cX9_chiSum 42 = .ok (.i2d, 1) := by decide +kernel
theorem dX9_chiSum_43 : decode cX9_chiSum 43 = .ok (.aload_n 0, 1) := by decide +kernel
theorem dX9_chiSum_44 : decode cX9_chiSum 44 = .ok (.getfield 41, 3) := by decide +kernel
theorem dX9_chiSum_47 : decode cX9_chiSum 47 = .ok (.i2d, 1) := by decide +kernel
theorem dX9_chiSum_48 : decode cX9_chiSum 48 = .ok (.ddiv, 1) := by decide +kernel
theorem dX9_chiSum_49 : decode cX9_chiSum 49 = .ok (.dstore 5, 2) := by decide +kernel
theorem dX9_chiSum_51 : decode cX9_chiSum 51 = .ok (.dload 5, 2) := by decide +kernel
theorem dX9_chiSum_53 : decode cX9_chiSum 53 = .ok (.dconst 0, 1) := by decide +kernel
theorem dX9_chiSum_54 : decode cX9_chiSum 54 = .ok (.dcmp .l, 1) := by decide +kernel
theorem dX9_chiSum_55 : decode cX9_chiSum 55 = .ok (.ifCond .le 27, 3) := by decide +kernel
theorem dX9_chiSum_58 : decode cX9_chiSum 58 = .ok (.aload_n 0, 1) := by decide +kernel
theorem dX9_chiSum_59 : decode cX9_chiSum 59 = .ok (.iload_n 3, 1) := by decide +kernel
theorem dX9_chiSum_60 : decode cX9_chiSum 60 = .ok (.iload 4, 2) := by decide +kernel
theorem dX9_chiSum_62 : decode cX9_chiSum 62 = .ok (.invokevirtual 75, 3) := by decide +kernel
theorem dX9_chiSum_65 : decode cX9_chiSum 65 = .ok (.i2d, 1) := by decide +kernel
theorem dX9_chiSum_66 : decode cX9_chiSum 66 = .ok (.dload 5, 2) := by decide +kernel
theorem dX9_chiSum_68 : decode cX9_chiSum 68 = .ok (.dsub, 1) := by decide +kernel
theorem dX9_chiSum_69 : decode cX9_chiSum 69 = .ok (.dstore 7, 2) := by decide +kernel
theorem dX9_chiSum_71 : decode cX9_chiSum 71 = .ok (.dload_n 1, 1) := by decide +kernel
theorem dX9_chiSum_72 : decode cX9_chiSum 72 = .ok (.dload 7, 2) := by decide +kernel
theorem dX9_chiSum_74 : decode cX9_chiSum 74 = .ok (.dload 7, 2) := by decide +kernel
theorem dX9_chiSum_76 : decode cX9_chiSum 76 = .ok (.dmul, 1) := by decide +kernel
theorem dX9_chiSum_77 : decode cX9_chiSum 77 = .ok (.dload 5, 2) := by decide +kernel
theorem dX9_chiSum_79 : decode cX9_chiSum 79 = .ok (.ddiv, 1) := by decide +kernel
theorem dX9_chiSum_80 : decode cX9_chiSum 80 = .ok (.dadd, 1) := by decide +kernel
theorem dX9_chiSum_81 : decode cX9_chiSum 81 = .ok (.dstore_n 1, 1) := by decide +kernel
theorem dX9_chiSum_82 : decode cX9_chiSum 82 = .ok (.iinc 4 1, 3) := by decide +kernel
theorem dX9_chiSum_85 : decode cX9_chiSum 85 = .ok (.goto (-70), 3) := by decide +kernel
theorem dX9_chiSum_88 : decode cX9_chiSum 88 = .ok (.iinc 3 1, 3) := by decide +kernel
theorem dX9_chiSum_91 : decode cX9_chiSum 91 = .ok (.goto (-87), 3) := by decide +kernel
theorem dX9_chiSum_94 : decode cX9_chiSum 94 = .ok (.dload_n 1, 1) := by decide +kernel
theorem dX9_chiSum_95 : decode cX9_chiSum 95 = .ok (.dreturn, 1) := by decide +kernel
theorem dX10_init_0 : decode cX10_init 0 = .ok (.aload_n 0, 1) := by decide +kernel
theorem dX10_init_1 : decode cX10_init 1 = .ok (.invokespecial 1, 3) := by decide +kernel
theorem dX10_init_4 : decode cX10_init 4 = .ok (.aload_n 0, 1) := by decide +kernel
theorem dX10_init_5 : decode cX10_init 5 = .ok (.sipush 300, 3) := by decide +kernel
theorem dX10_init_8 : decode cX10_init 8 = .ok (.newarray .int, 2) := by decide +kernel
theorem dX10_init_10 : decode cX10_init 10 = .ok (.putfield 9, 3) := by decide +kernel
theorem dX10_init_13 : decode cX10_init 13 = .ok (.return_, 1) := by decide +kernel
theorem dX10_hasRoom_0 : decode cX10_hasRoom 0 = .ok (.aload_n 0, 1) := by decide +kernel
theorem dX10_hasRoom_1 : decode cX10_hasRoom 1 = .ok (.getfield 13, 3) := by decide +kernel
theorem dX10_hasRoom_4 : decode cX10_hasRoom 4 = .ok (.bipush 20, 2) := by decide +kernel
theorem dX10_hasRoom_6 : decode cX10_hasRoom 6 = .ok (.iadd, 1) := by decide +kernel
theorem dX10_hasRoom_7 : decode cX10_hasRoom 7 = .ok (.sipush 300, 3) := by decide +kernel
theorem dX10_hasRoom_10 : decode cX10_hasRoom 10 = .ok (.if_icmp .gt 7, 3) := by decide +kernel
theorem dX10_hasRoom_13 : decode cX10_hasRoom 13 = .ok (.iconst 1, 1) := by decide +kernel
theorem dX10_hasRoom_14 : decode cX10_hasRoom 14 = .ok (.goto 4, 3) := by decide +kernel
theorem dX10_hasRoom_17 : decode cX10_hasRoom 17 = .ok (.iconst 0, 1) := by decide +kernel
theorem dX10_hasRoom_18 : decode cX10_hasRoom 18 = .ok (.ireturn, 1) := by decide +kernel
theorem dX10_put_0 : decode cX10_put 0 = .ok (.bipush 24, 2) := by decide +kernel
theorem dX10_put_2 : decode cX10_put 2 = .ok (.istore_n 2, 1) := by decide +kernel
theorem dX10_put_3 : decode cX10_put 3 = .ok (.iload_n 2, 1) := by decide +kernel
theorem dX10_put_4 : decode cX10_put 4 = .ok (.ifCond .lt 52, 3) := by decide +kernel
theorem dX10_put_7 : decode cX10_put 7 = .ok (.aload_n 0, 1) := by decide +kernel
theorem dX10_put_8 : decode cX10_put 8 = .ok (.getfield 13, 3) := by decide +kernel
theorem dX10_put_11 : decode cX10_put 11 = .ok (.ifCond .lt 39, 3) := by decide +kernel
theorem dX10_put_14 : decode cX10_put 14 = .ok (.aload_n 0, 1) := by decide +kernel
theorem dX10_put_15 : decode cX10_put 15 = .ok (.getfield 13, 3) := by decide +kernel
theorem dX10_put_18 : decode cX10_put 18 = .ok (.sipush 300, 3) := by decide +kernel
theorem dX10_put_21 : decode cX10_put 21 = .ok (.if_icmp .ge 29, 3) := by decide +kernel
theorem dX10_put_24 : decode cX10_put 24 = .ok (.aload_n 0, 1) := by decide +kernel
theorem dX10_put_25 : decode cX10_put 25 = .ok (.getfield 9, 3) := by decide +kernel
theorem dX10_put_28 : decode cX10_put 28 = .ok (.aload_n 0, 1) := by decide +kernel
theorem dX10_put_29 : decode cX10_put 29 = .ok (.getfield 13, 3) := by decide +kernel
theorem dX10_put_32 : decode cX10_put 32 = .ok (.iload_n 1, 1) := by decide +kernel
theorem dX10_put_33 : decode cX10_put 33 = .ok (.iload_n 2, 1) := by decide +kernel
theorem dX10_put_34 : decode cX10_put 34 = .ok (.iushr, 1) := by decide +kernel
theorem dX10_put_35 : decode cX10_put 35 = .ok (.sipush 255, 3) := by decide +kernel
theorem dX10_put_38 : decode cX10_put 38 = .ok (.iand, 1) := by decide +kernel
theorem dX10_put_39 : decode cX10_put 39 = .ok (.iastore, 1) := by decide +kernel
theorem dX10_put_40 : decode cX10_put 40 = .ok (.aload_n 0, 1) := by decide +kernel
theorem dX10_put_41 : decode cX10_put 41 = .ok (.dup, 1) := by decide +kernel
theorem dX10_put_42 : decode cX10_put 42 = .ok (.getfield 13, 3) := by decide +kernel
theorem dX10_put_45 : decode cX10_put 45 = .ok (.iconst 1, 1) := by decide +kernel
theorem dX10_put_46 : decode cX10_put 46 = .ok (.iadd, 1) := by decide +kernel
theorem dX10_put_47 : decode cX10_put 47 = .ok (.putfield 13, 3) := by decide +kernel
theorem dX10_put_50 : decode cX10_put 50 = .ok (.iinc 2 (-8), 3) := by decide +kernel
theorem dX10_put_53 : decode cX10_put 53 = .ok (.goto (-50), 3) := by decide +kernel
theorem dX10_put_56 : decode cX10_put 56 = .ok (.return_, 1) := by decide +kernel
theorem dX10_byteAt_0 : decode cX10_byteAt 0 = .ok (.iload_n 1, 1) := by decide +kernel
theorem dX10_byteAt_1 : decode cX10_byteAt 1 = .ok (.ifCond .lt 27, 3) := by decide +kernel
theorem dX10_byteAt_4 : decode cX10_byteAt 4 = .ok (.iload_n 1, 1) := by decide +kernel
theorem dX10_byteAt_5 : decode cX10_byteAt 5 = .ok (.aload_n 0, 1) := by decide +kernel
theorem dX10_byteAt_6 : decode cX10_byteAt 6 = .ok (.getfield 13, 3) := by decide +kernel
theorem dX10_byteAt_9 : decode cX10_byteAt 9 = .ok (.if_icmp .ge 19, 3) := by decide +kernel
theorem dX10_byteAt_12 : decode cX10_byteAt 12 = .ok (.iload_n 1, 1) := by decide +kernel
theorem dX10_byteAt_13 : decode cX10_byteAt 13 = .ok (.sipush 300, 3) := by decide +kernel
theorem dX10_byteAt_16 : decode cX10_byteAt 16 = .ok (.if_icmp .ge 12, 3) := by decide +kernel
theorem dX10_byteAt_19 : decode cX10_byteAt 19 = .ok (.aload_n 0, 1) := by decide +kernel
theorem dX10_byteAt_20 : decode cX10_byteAt 20 = .ok (.getfield 9, 3) := by decide +kernel
theorem dX10_byteAt_23 : decode cX10_byteAt 23 = .ok (.iload_n 1, 1) := by decide +kernel
theorem dX10_byteAt_24 : decode cX10_byteAt 24 = .ok (.iaload, 1) := by decide +kernel
theorem dX10_byteAt_25 : decode cX10_byteAt 25 = .ok (.goto 4, 3) := by decide +kernel
theorem dX10_byteAt_28 : decode cX10_byteAt 28 = .ok (.iconst 0, 1) := by decide +kernel
theorem dX10_byteAt_29 : decode cX10_byteAt 29 = .ok (.ireturn, 1) := by decide +kernel
theorem dX11_init_0 : decode cX11_init 0 = .ok (.aload_n 0, 1) := by decide +kernel
theorem dX11_init_1 : decode cX11_init 1 = .ok (.invokespecial 3, 3) := by decide +kernel
theorem dX11_init_4 : decode cX11_init 4 = .ok (.aload_n 0, 1) := by decide +kernel
theorem dX11_init_5 : decode cX11_init 5 = .ok (.new 9, 3) := by decide +kernel
theorem dX11_init_8 : decode cX11_init 8 = .ok (.dup, 1) := by decide +kernel
theorem dX11_init_9 : decode cX11_init 9 = .ok (.invokespecial 11, 3) := by decide +kernel
theorem dX11_init_12 : decode cX11_init 12 = .ok (.putfield 12, 3) := by decide +kernel
theorem dX11_init_15 : decode cX11_init 15 = .ok (.aload_n 0, 1) := by decide +kernel
theorem dX11_init_16 : decode cX11_init 16 = .ok (.new 16, 3) := by decide +kernel
theorem dX11_init_19 : decode cX11_init 19 = .ok (.dup, 1) := by decide +kernel
theorem dX11_init_20 : decode cX11_init 20 = .ok (.invokespecial 18, 3) := by decide +kernel
theorem dX11_init_23 : decode cX11_init 23 = .ok (.putfield 19, 3) := by decide +kernel
theorem dX11_init_26 : decode cX11_init 26 = .ok (.aload_n 0, 1) := by decide +kernel
theorem dX11_init_27 : decode cX11_init 27 = .ok (.new 23, 3) := by decide +kernel
theorem dX11_init_30 : decode cX11_init 30 = .ok (.dup, 1) := by decide +kernel
theorem dX11_init_31 : decode cX11_init 31 = .ok (.invokespecial 25, 3) := by decide +kernel
theorem dX11_init_34 : decode cX11_init 34 = .ok (.putfield 26, 3) := by decide +kernel
theorem dX11_init_37 : decode cX11_init 37 = .ok (.aload_n 0, 1) := by decide +kernel
theorem dX11_init_38 : decode cX11_init 38 = .ok (.new 30, 3) := by decide +kernel
theorem dX11_init_41 : decode cX11_init 41 = .ok (.dup, 1) := by decide +kernel
theorem dX11_init_42 : decode cX11_init 42 = .ok (.invokespecial 32, 3) := by decide +kernel
theorem dX11_init_45 : decode cX11_init 45 = .ok (.putfield 33, 3) := by decide +kernel
theorem dX11_init_48 : decode cX11_init 48 = .ok (.aload_n 0, 1) := by decide +kernel
theorem dX11_init_49 : decode cX11_init 49 = .ok (.new 37, 3) := by decide +kernel
theorem dX11_init_52 : decode cX11_init 52 = .ok (.dup, 1) := by decide +kernel
theorem dX11_init_53 : decode cX11_init 53 = .ok (.invokespecial 39, 3) := by decide +kernel
theorem dX11_init_56 : decode cX11_init 56 = .ok (.putfield 40, 3) := by decide +kernel
theorem dX11_init_59 : decode cX11_init 59 = .ok (.aload_n 0, 1) := by decide +kernel
theorem dX11_init_60 : decode cX11_init 60 = .ok (.new 44, 3) := by decide +kernel
theorem dX11_init_63 : decode cX11_init 63 = .ok (.dup, 1) := by decide +kernel
theorem dX11_init_64 : decode cX11_init 64 = .ok (.invokespecial 46, 3) := by decide +kernel
theorem dX11_init_67 : decode cX11_init 67 = .ok (.putfield 47, 3) := by decide +kernel
theorem dX11_init_70 : decode cX11_init 70 = .ok (.aload_n 0, 1) := by decide +kernel
theorem dX11_init_71 : decode cX11_init 71 = .ok (.new 51, 3) := by decide +kernel
theorem dX11_init_74 : decode cX11_init 74 = .ok (.dup, 1) := by decide +kernel
theorem dX11_init_75 : decode cX11_init 75 = .ok (.aload_n 0, 1) := by decide +kernel
theorem dX11_init_76 : decode cX11_init 76 = .ok (.getfield 47, 3) := by decide +kernel
theorem dX11_init_79 : decode cX11_init 79 = .ok (.invokespecial 53, 3) := by decide +kernel
theorem dX11_init_82 : decode cX11_init 82 = .ok (.putfield 56, 3) := by decide +kernel
theorem dX11_init_85 : decode cX11_init 85 = .ok (.aload_n 0, 1) := by decide +kernel
theorem dX11_init_86 : decode cX11_init 86 = .ok (.new 60, 3) := by decide +kernel
theorem dX11_init_89 : decode cX11_init 89 = .ok (.dup, 1) := by decide +kernel
theorem dX11_init_90 : decode cX11_init 90 = .ok (.aload_n 0, 1) := by decide +kernel
theorem dX11_init_91 : decode cX11_init 91 = .ok (.getfield 47, 3) := by decide +kernel
theorem dX11_init_94 : decode cX11_init 94 = .ok (.aload_n 0, 1) := by decide +kernel
theorem dX11_init_95 : decode cX11_init 95 = .ok (.getfield 40, 3) := by decide +kernel
theorem dX11_init_98 : decode cX11_init 98 = .ok (.invokespecial 62, 3) := by decide +kernel
theorem dX11_init_101 : decode cX11_init 101 = .ok (.putfield 65, 3) := by decide +kernel
theorem dX11_init_104 : decode cX11_init 104 = .ok (.return_, 1) := by decide +kernel
theorem dX11_feed_0 : decode cX11_feed 0 = .ok (.aload_n 0, 1) := by decide +kernel
theorem dX11_feed_1 : decode cX11_feed 1 = .ok (.getfield 12, 3) := by decide +kernel
theorem dX11_feed_4 : decode cX11_feed 4 = .ok (.invokevirtual 69, 3) := by decide +kernel
theorem dX11_feed_7 : decode cX11_feed 7 = .ok (.ifCond .ne 5, 3) := by decide +kernel
theorem dX11_feed_10 : decode cX11_feed 10 = .ok (.iconst (-1), 1) := by decide +kernel
theorem dX11_feed_11 : decode cX11_feed 11 = .ok (.ireturn, 1) := by decide +kernel
theorem dX11_feed_12 : decode cX11_feed 12 = .ok (.aload_n 0, 1) := by decide +kernel
theorem dX11_feed_13 : decode cX11_feed 13 = .ok (.getfield 12, 3) := by decide +kernel
theorem dX11_feed_16 : decode cX11_feed 16 = .ok (.iload_n 1, 1) := by decide +kernel
theorem dX11_feed_17 : decode cX11_feed 17 = .ok (.invokevirtual 73, 3) := by decide +kernel
theorem dX11_feed_20 : decode cX11_feed 20 = .ok (.aload_n 0, 1) := by decide +kernel
theorem dX11_feed_21 : decode cX11_feed 21 = .ok (.getfield 12, 3) := by decide +kernel
theorem dX11_feed_24 : decode cX11_feed 24 = .ok (.iload_n 2, 1) := by decide +kernel
theorem dX11_feed_25 : decode cX11_feed 25 = .ok (.invokevirtual 73, 3) := by decide +kernel
theorem dX11_feed_28 : decode cX11_feed 28 = .ok (.aload_n 0, 1) := by decide +kernel
theorem dX11_feed_29 : decode cX11_feed 29 = .ok (.getfield 12, 3) := by decide +kernel
theorem dX11_feed_32 : decode cX11_feed 32 = .ok (.iload_n 3, 1) := by decide +kernel
theorem dX11_feed_33 : decode cX11_feed 33 = .ok (.invokevirtual 73, 3) := by decide +kernel
theorem dX11_feed_36 : decode cX11_feed 36 = .ok (.aload_n 0, 1) := by decide +kernel
theorem dX11_feed_37 : decode cX11_feed 37 = .ok (.getfield 12, 3) := by decide +kernel
theorem dX11_feed_40 : decode cX11_feed 40 = .ok (.iload 4, 2) := by decide +kernel
theorem dX11_feed_42 : decode cX11_feed 42 = .ok (.invokevirtual 73, 3) := by decide +kernel
theorem dX11_feed_45 : decode cX11_feed 45 = .ok (.aload_n 0, 1) := by decide +kernel
theorem dX11_feed_46 : decode cX11_feed 46 = .ok (.getfield 12, 3) := by decide +kernel
theorem dX11_feed_49 : decode cX11_feed 49 = .ok (.iload 5, 2) := by decide +kernel
theorem dX11_feed_51 : decode cX11_feed 51 = .ok (.invokevirtual 73, 3) := by decide +kernel
theorem dX11_feed_54 : decode cX11_feed 54 = .ok (.aload_n 0, 1) := by decide +kernel
theorem dX11_feed_55 : decode cX11_feed 55 = .ok (.getfield 12, 3) := by decide +kernel
theorem dX11_feed_58 : decode cX11_feed 58 = .ok (.getfield 77, 3) := by decide +kernel
theorem dX11_feed_61 : decode cX11_feed 61 = .ok (.ireturn, 1) := by decide +kernel
theorem dX11_end_0 : decode cX11_end 0 = .ok (.iload_n 1, 1) := by decide +kernel
theorem dX11_end_1 : decode cX11_end 1 = .ok (.ifCond .lt 14, 3) := by decide +kernel
theorem dX11_end_4 : decode cX11_end 4 = .ok (.iload_n 1, 1) := by decide +kernel
theorem dX11_end_5 : decode cX11_end 5 = .ok (.aload_n 0, 1) := by decide +kernel
theorem dX11_end_6 : decode cX11_end 6 = .ok (.getfield 12, 3) := by decide +kernel
theorem dX11_end_9 : decode cX11_end 9 = .ok (.getfield 77, 3) := by decide +kernel
theorem dX11_end_12 : decode cX11_end 12 = .ok (.if_icmp .le 5, 3) := by decide +kernel
theorem dX11_end_15 : decode cX11_end 15 = .ok (.iconst (-1), 1) := by decide +kernel
theorem dX11_end_16 : decode cX11_end 16 = .ok (.ireturn, 1) := by decide +kernel
theorem dX11_end_17 : decode cX11_end 17 = .ok (.aload_n 0, 1) := by decide +kernel
theorem dX11_end_18 : decode cX11_end 18 = .ok (.getfield 12, 3) := by decide +kernel
theorem dX11_end_21 : decode cX11_end 21 = .ok (.iload_n 1, 1) := by decide +kernel
theorem dX11_end_22 : decode cX11_end 22 = .ok (.putfield 77, 3) := by decide +kernel
theorem dX11_end_25 : decode cX11_end 25 = .ok (.iload_n 1, 1) := by decide +kernel
theorem dX11_end_26 : decode cX11_end 26 = .ok (.ireturn, 1) := by decide +kernel
theorem dX11_table_0 : decode cX11_table 0 = .ok (.aload_n 0, 1) := by decide +kernel
theorem dX11_table_1 : decode cX11_table 1 = .ok (.getfield 19, 3) := by decide +kernel
theorem dX11_table_4 : decode cX11_table 4 = .ok (.aload_n 0, 1) := by decide +kernel
theorem dX11_table_5 : decode cX11_table 5 = .ok (.getfield 12, 3) := by decide +kernel
theorem dX11_table_8 : decode cX11_table 8 = .ok (.invokevirtual 81, 3) := by decide +kernel
theorem dX11_table_11 : decode cX11_table 11 = .ok (.istore_n 1, 1) := by decide +kernel
theorem dX11_table_12 : decode cX11_table 12 = .ok (.aload_n 0, 1) := by decide +kernel
theorem dX11_table_13 : decode cX11_table 13 = .ok (.getfield 12, 3) := by decide +kernel
theorem dX11_table_16 : decode cX11_table 16 = .ok (.iconst 0, 1) := by decide +kernel
theorem dX11_table_17 : decode cX11_table 17 = .ok (.putfield 77, 3) := by decide +kernel
theorem dX11_table_20 : decode cX11_table 20 = .ok (.iload_n 1, 1) := by decide +kernel
theorem dX11_table_21 : decode cX11_table 21 = .ok (.ifCond .ne 6, 3) := by decide +kernel
theorem dX11_table_24 : decode cX11_table 24 = .ok (.bipush (-4), 2) := by decide +kernel
theorem dX11_table_26 : decode cX11_table 26 = .ok (.ireturn, 1) := by decide +kernel
theorem dX11_table_27 : decode cX11_table 27 = .ok (.aload_n 0, 1) := by decide +kernel
theorem dX11_table_28 : decode cX11_table 28 = .ok (.getfield 26, 3) := by decide +kernel
theorem dX11_table_31 : decode cX11_table 31 = .ok (.aload_n 0, 1) := by decide +kernel
theorem dX11_table_32 : decode cX11_table 32 = .ok (.getfield 19, 3) := by decide +kernel
theorem dX11_table_35 : decode cX11_table 35 = .ok (.invokevirtual 85, 3) := by decide +kernel
theorem dX11_table_38 : decode cX11_table 38 = .ok (.aload_n 0, 1) := by decide +kernel
theorem dX11_table_39 : decode cX11_table 39 = .ok (.getfield 26, 3) := by decide +kernel
theorem dX11_table_42 : decode cX11_table 42 = .ok (.invokevirtual 89, 3) := by decide +kernel
theorem dX11_table_45 : decode cX11_table 45 = .ok (.ifCond .eq 25, 3) := by decide +kernel
theorem dX11_table_48 : decode cX11_table 48 = .ok (.aload_n 0, 1) := by decide +kernel
theorem dX11_table_49 : decode cX11_table 49 = .ok (.getfield 40, 3) := by decide +kernel
theorem dX11_table_52 : decode cX11_table 52 = .ok (.aload_n 0, 1) := by decide +kernel
theorem dX11_table_53 : decode cX11_table 53 = .ok (.getfield 26, 3) := by decide +kernel
theorem dX11_table_56 : decode cX11_table 56 = .ok (.invokevirtual 92, 3) := by decide +kernel
theorem dX11_table_59 : decode cX11_table 59 = .ok (.aload_n 0, 1) := by decide +kernel
theorem dX11_table_60 : decode cX11_table 60 = .ok (.getfield 47, 3) := by decide +kernel
theorem dX11_table_63 : decode cX11_table 63 = .ok (.aload_n 0, 1) := by decide +kernel
theorem dX11_table_64 : decode cX11_table 64 = .ok (.getfield 26, 3) := by decide +kernel
theorem dX11_table_67 : decode cX11_table 67 = .ok (.invokevirtual 96, 3) := by decide +kernel
theorem dX11_table_70 : decode cX11_table 70 = .ok (.aload_n 0, 1) := by decide +kernel
theorem dX11_table_71 : decode cX11_table 71 = .ok (.getfield 56, 3) := by decide +kernel
theorem dX11_table_74 : decode cX11_table 74 = .ok (.invokevirtual 97, 3) := by decide +kernel
theorem dX11_table_77 : decode cX11_table 77 = .ok (.aload_n 0, 1) := by decide +kernel
theorem dX11_table_78 : decode cX11_table 78 = .ok (.getfield 65, 3) := by decide +kernel
theorem dX11_table_81 : decode cX11_table 81 = .ok (.invokevirtual 100, 3) := by decide +kernel
theorem dX11_table_84 : decode cX11_table 84 = .ok (.aload_n 0, 1) := by decide +kernel
theorem dX11_table_85 : decode cX11_table 85 = .ok (.getfield 26, 3) := by decide +kernel
theorem dX11_table_88 : decode cX11_table 88 = .ok (.getfield 101, 3) := by decide +kernel
theorem dX11_table_91 : decode cX11_table 91 = .ok (.ireturn, 1) := by decide +kernel
theorem dX11_fault_0 : decode cX11_fault 0 = .ok (.iload_n 1, 1) := by decide +kernel
theorem dX11_fault_1 : decode cX11_fault 1 = .ok (.lookupswitch 43 #[(0, 27), (1, 35)], 27) := by decide +kernel
theorem dX11_fault_28 : decode cX11_fault 28 = .ok (.aload_n 0, 1) := by decide +kernel
theorem dX11_fault_29 : decode cX11_fault 29 = .ok (.getfield 19, 3) := by decide +kernel
theorem dX11_fault_32 : decode cX11_fault 32 = .ok (.getfield 104, 3) := by decide +kernel
theorem dX11_fault_35 : decode cX11_fault 35 = .ok (.ireturn, 1) := by decide +kernel
theorem dX11_fault_36 : decode cX11_fault 36 = .ok (.aload_n 0, 1) := by decide +kernel
theorem dX11_fault_37 : decode cX11_fault 37 = .ok (.getfield 19, 3) := by decide +kernel
theorem dX11_fault_40 : decode cX11_fault 40 = .ok (.getfield 107, 3) := by decide +kernel
theorem dX11_fault_43 : decode cX11_fault 43 = .ok (.ireturn, 1) := by decide +kernel
theorem dX11_fault_44 : decode cX11_fault 44 = .ok (.iconst (-1), 1) := by decide +kernel
theorem dX11_fault_45 : decode cX11_fault 45 = .ok (.ireturn, 1) := by decide +kernel
theorem dX11_count_0 : decode cX11_count 0 = .ok (.iload_n 1, 1) := by decide +kernel
theorem dX11_count_1 : decode cX11_count 1 = .ok (.tableswitch 102 0 6 #[43, 51, 59, 67, 78, 86, 94], 43) := by decide +kernel
theorem dX11_count_44 : decode cX11_count 44 = .ok (.aload_n 0, 1) := by decide +kernel
theorem dX11_count_45 : decode cX11_count 45 = .ok (.getfield 26, 3) := by decide +kernel
theorem dX11_count_48 : decode cX11_count 48 = .ok (.getfield 110, 3) := by decide +kernel
theorem dX11_count_51 : decode cX11_count 51 = .ok (.ireturn, 1) := by decide +kernel
theorem dX11_count_52 : decode cX11_count 52 = .ok (.aload_n 0, 1) := by decide +kernel
theorem dX11_count_53 : decode cX11_count 53 = .ok (.getfield 26, 3) := by decide +kernel
theorem dX11_count_56 : decode cX11_count 56 = .ok (.getfield 113, 3) := by decide +kernel
theorem dX11_count_59 : decode cX11_count 59 = .ok (.ireturn, 1) := by decide +kernel
theorem dX11_count_60 : decode cX11_count 60 = .ok (.aload_n 0, 1) := by decide +kernel
theorem dX11_count_61 : decode cX11_count 61 = .ok (.getfield 26, 3) := by decide +kernel
theorem dX11_count_64 : decode cX11_count 64 = .ok (.getfield 116, 3) := by decide +kernel
theorem dX11_count_67 : decode cX11_count 67 = .ok (.ireturn, 1) := by decide +kernel
theorem dX11_count_68 : decode cX11_count 68 = .ok (.aload_n 0, 1) := by decide +kernel
theorem dX11_count_69 : decode cX11_count 69 = .ok (.getfield 26, 3) := by decide +kernel
theorem dX11_count_72 : decode cX11_count 72 = .ok (.getfield 119, 3) := by decide +kernel
theorem dX11_count_75 : decode cX11_count 75 = .ok (.invokestatic 122, 3) := by decide +kernel
theorem dX11_count_78 : decode cX11_count 78 = .ok (.ireturn, 1) := by decide +kernel
theorem dX11_count_79 : decode cX11_count 79 = .ok (.aload_n 0, 1) := by decide +kernel
theorem dX11_count_80 : decode cX11_count 80 = .ok (.getfield 26, 3) := by decide +kernel
theorem dX11_count_83 : decode cX11_count 83 = .ok (.getfield 128, 3) := by decide +kernel
theorem dX11_count_86 : decode cX11_count 86 = .ok (.ireturn, 1) := by decide +kernel
theorem dX11_count_87 : decode cX11_count 87 = .ok (.aload_n 0, 1) := by decide +kernel
theorem dX11_count_88 : decode cX11_count 88 = .ok (.getfield 26, 3) := by decide +kernel
theorem dX11_count_91 : decode cX11_count 91 = .ok (.getfield 101, 3) := by decide +kernel
theorem dX11_count_94 : decode cX11_count 94 = .ok (.ireturn, 1) := by decide +kernel
theorem dX11_count_95 : decode cX11_count 95 = .ok (.aload_n 0, 1) := by decide +kernel
theorem dX11_count_96 : decode cX11_count 96 = .ok (.getfield 12, 3) := by decide +kernel
theorem dX11_count_99 : decode cX11_count 99 = .ok (.getfield 77, 3) := by decide +kernel
theorem dX11_count_102 : decode cX11_count 102 = .ok (.ireturn, 1) := by decide +kernel
theorem dX11_count_103 : decode cX11_count 103 = .ok (.iconst (-1), 1) := by decide +kernel
theorem dX11_count_104 : decode cX11_count 104 = .ok (.ireturn, 1) := by decide +kernel
theorem dX11_cell_0 : decode cX11_cell 0 = .ok (.aload_n 0, 1) := by decide +kernel
theorem dX11_cell_1 : decode cX11_cell 1 = .ok (.getfield 26, 3) := by decide +kernel
theorem dX11_cell_4 : decode cX11_cell 4 = .ok (.iload_n 1, 1) := by decide +kernel
theorem dX11_cell_5 : decode cX11_cell 5 = .ok (.iload_n 2, 1) := by decide +kernel
theorem dX11_cell_6 : decode cX11_cell 6 = .ok (.invokevirtual 131, 3) := by decide +kernel
theorem dX11_cell_9 : decode cX11_cell 9 = .ok (.ifCond .eq 15, 3) := by decide +kernel
theorem dX11_cell_12 : decode cX11_cell 12 = .ok (.aload_n 0, 1) := by decide +kernel
theorem dX11_cell_13 : decode cX11_cell 13 = .ok (.getfield 26, 3) := by decide +kernel
theorem dX11_cell_16 : decode cX11_cell 16 = .ok (.iload_n 1, 1) := by decide +kernel
theorem dX11_cell_17 : decode cX11_cell 17 = .ok (.iload_n 2, 1) := by decide +kernel
theorem dX11_cell_18 : decode cX11_cell 18 = .ok (.invokevirtual 135, 3) := by decide +kernel
theorem dX11_cell_21 : decode cX11_cell 21 = .ok (.goto 5, 3) := by decide +kernel
theorem dX11_cell_24 : decode cX11_cell 24 = .ok (.bipush (-2), 2) := by decide +kernel
theorem dX11_cell_26 : decode cX11_cell 26 = .ok (.ireturn, 1) := by decide +kernel
theorem dX11_hole_0 : decode cX11_hole 0 = .ok (.aload_n 0, 1) := by decide +kernel
theorem dX11_hole_1 : decode cX11_hole 1 = .ok (.getfield 26, 3) := by decide +kernel
theorem dX11_hole_4 : decode cX11_hole 4 = .ok (.iload_n 1, 1) := by decide +kernel
theorem dX11_hole_5 : decode cX11_hole 5 = .ok (.iload_n 2, 1) := by decide +kernel
theorem dX11_hole_6 : decode cX11_hole 6 = .ok (.invokevirtual 131, 3) := by decide +kernel
theorem dX11_hole_9 : decode cX11_hole 9 = .ok (.ifCond .ne 6, 3) := by decide +kernel
theorem dX11_hole_12 : decode cX11_hole 12 = .ok (.bipush (-2), 2) := by decide +kernel
theorem dX11_hole_14 : decode cX11_hole 14 = .ok (.ireturn, 1) := by decide +kernel
theorem dX11_hole_15 : decode cX11_hole 15 = .ok (.aload_n 0, 1) := by decide +kernel
theorem dX11_hole_16 : decode cX11_hole 16 = .ok (.getfield 26, 3) := by decide +kernel
theorem dX11_hole_19 : decode cX11_hole 19 = .ok (.iload_n 1, 1) := by decide +kernel
theorem dX11_hole_20 : decode cX11_hole 20 = .ok (.iload_n 2, 1) := by decide +kernel
theorem dX11_hole_21 : decode cX11_hole 21 = .ok (.invokevirtual 139, 3) := by decide +kernel
theorem dX11_hole_24 : decode cX11_hole 24 = .ok (.ifCond .eq 7, 3) := by decide +kernel
theorem dX11_hole_27 : decode cX11_hole 27 = .ok (.iconst 1, 1) := by decide +kernel
theorem dX11_hole_28 : decode cX11_hole 28 = .ok (.goto 4, 3) := by decide +kernel
theorem dX11_hole_31 : decode cX11_hole 31 = .ok (.iconst 0, 1) := by decide +kernel
theorem dX11_hole_32 : decode cX11_hole 32 = .ok (.ireturn, 1) := by decide +kernel
theorem dX11_row_0 : decode cX11_row 0 = .ok (.aload_n 0, 1) := by decide +kernel
theorem dX11_row_1 : decode cX11_row 1 = .ok (.getfield 26, 3) := by decide +kernel
theorem dX11_row_4 : decode cX11_row 4 = .ok (.iload_n 1, 1) := by decide +kernel
theorem dX11_row_5 : decode cX11_row 5 = .ok (.iconst 0, 1) := by decide +kernel
theorem dX11_row_6 : decode cX11_row 6 = .ok (.invokevirtual 131, 3) := by decide +kernel
theorem dX11_row_9 : decode cX11_row 9 = .ok (.ifCond .eq 14, 3) := by decide +kernel
theorem dX11_row_12 : decode cX11_row 12 = .ok (.aload_n 0, 1) := by decide +kernel
theorem dX11_row_13 : decode cX11_row 13 = .ok (.getfield 26, 3) := by decide +kernel
theorem dX11_row_16 : decode cX11_row 16 = .ok (.iload_n 1, 1) := by decide +kernel
theorem dX11_row_17 : decode cX11_row 17 = .ok (.invokevirtual 142, 3) := by decide +kernel
theorem dX11_row_20 : decode cX11_row 20 = .ok (.goto 5, 3) := by decide +kernel
theorem dX11_row_23 : decode cX11_row 23 = .ok (.bipush (-2), 2) := by decide +kernel
theorem dX11_row_25 : decode cX11_row 25 = .ok (.ireturn, 1) := by decide +kernel
theorem dX11_column_0 : decode cX11_column 0 = .ok (.aload_n 0, 1) := by decide +kernel
theorem dX11_column_1 : decode cX11_column 1 = .ok (.getfield 26, 3) := by decide +kernel
theorem dX11_column_4 : decode cX11_column 4 = .ok (.iconst 0, 1) := by decide +kernel
theorem dX11_column_5 : decode cX11_column 5 = .ok (.iload_n 1, 1) := by decide +kernel
theorem dX11_column_6 : decode cX11_column 6 = .ok (.invokevirtual 131, 3) := by decide +kernel
theorem dX11_column_9 : decode cX11_column 9 = .ok (.ifCond .eq 14, 3) := by decide +kernel
theorem dX11_column_12 : decode cX11_column 12 = .ok (.aload_n 0, 1) := by decide +kernel
theorem dX11_column_13 : decode cX11_column 13 = .ok (.getfield 26, 3) := by decide +kernel
theorem dX11_column_16 : decode cX11_column 16 = .ok (.iload_n 1, 1) := by decide +kernel
theorem dX11_column_17 : decode cX11_column 17 = .ok (.invokevirtual 145, 3) := by decide +kernel
theorem dX11_column_20 : decode cX11_column 20 = .ok (.goto 5, 3) := by decide +kernel
theorem dX11_column_23 : decode cX11_column 23 = .ok (.bipush (-2), 2) := by decide +kernel
theorem dX11_column_25 : decode cX11_column 25 = .ok (.ireturn, 1) := by decide +kernel
theorem dX11_tables_0 : decode cX11_tables 0 = .ok (.aload_n 0, 1) := by decide +kernel
theorem dX11_tables_1 : decode cX11_tables 1 = .ok (.getfield 26, 3) := by decide +kernel
theorem dX11_tables_4 : decode cX11_tables 4 = .ok (.invokevirtual 89, 3) := by decide +kernel
theorem dX11_tables_7 : decode cX11_tables 7 = .ok (.ifCond .eq 13, 3) := by decide +kernel
theorem dX11_tables_10 : decode cX11_tables 10 = .ok (.aload_n 0, 1) := by decide +kernel
theorem dX11_tables_11 : decode cX11_tables 11 = .ok (.getfield 47, 3) := by decide +kernel
theorem dX11_tables_14 : decode cX11_tables 14 = .ok (.invokevirtual 148, 3) := by decide +kernel
theorem dX11_tables_17 : decode cX11_tables 17 = .ok (.goto 6, 3) := by decide +kernel
theorem dX11_tables_20 : decode cX11_tables 20 = .ok (.ldc2_w 152, 3) := by decide +kernel
theorem dX11_tables_23 : decode cX11_tables 23 = .ok (.lreturn, 1) := by decide +kernel
theorem dX11_rank_0 : decode cX11_rank 0 = .ok (.aload_n 0, 1) := by decide +kernel
theorem dX11_rank_1 : decode cX11_rank 1 = .ok (.getfield 26, 3) := by decide +kernel
theorem dX11_rank_4 : decode cX11_rank 4 = .ok (.invokevirtual 89, 3) := by decide +kernel
theorem dX11_rank_7 : decode cX11_rank 7 = .ok (.ifCond .eq 20, 3) := by decide +kernel
theorem dX11_rank_10 : decode cX11_rank 10 = .ok (.aload_n 0, 1) := by decide +kernel
theorem dX11_rank_11 : decode cX11_rank 11 = .ok (.getfield 47, 3) := by decide +kernel
theorem dX11_rank_14 : decode cX11_rank 14 = .ok (.aload_n 0, 1) := by decide +kernel
theorem dX11_rank_15 : decode cX11_rank 15 = .ok (.getfield 26, 3) := by decide +kernel
theorem dX11_rank_18 : decode cX11_rank 18 = .ok (.getfield 154, 3) := by decide +kernel
theorem dX11_rank_21 : decode cX11_rank 21 = .ok (.invokevirtual 158, 3) := by decide +kernel
theorem dX11_rank_24 : decode cX11_rank 24 = .ok (.goto 6, 3) := by decide +kernel
theorem dX11_rank_27 : decode cX11_rank 27 = .ok (.ldc2_w 152, 3) := by decide +kernel
theorem dX11_rank_30 : decode cX11_rank 30 = .ok (.lreturn, 1) := by decide +kernel
theorem dX11_of_0 : decode cX11_of 0 = .ok (.aload_n 0, 1) := by decide +kernel
theorem dX11_of_1 : decode cX11_of 1 = .ok (.getfield 26, 3) := by decide +kernel
theorem dX11_of_4 : decode cX11_of 4 = .ok (.iload_n 3, 1) := by decide +kernel
theorem dX11_of_5 : decode cX11_of 5 = .ok (.iload 4, 2) := by decide +kernel
theorem dX11_of_7 : decode cX11_of 7 = .ok (.invokevirtual 131, 3) := by decide +kernel
theorem dX11_of_10 : decode cX11_of 10 = .ok (.ifCond .eq 21, 3) := by decide +kernel
theorem dX11_of_13 : decode cX11_of 13 = .ok (.lload_n 1, 1) := by decide +kernel
theorem dX11_of_14 : decode cX11_of 14 = .ok (.lconst 0, 1) := by decide +kernel
theorem dX11_of_15 : decode cX11_of 15 = .ok (.lcmp, 1) := by decide +kernel
theorem dX11_of_16 : decode cX11_of 16 = .ok (.ifCond .lt 15, 3) := by decide +kernel
theorem dX11_of_19 : decode cX11_of 19 = .ok (.lload_n 1, 1) := by decide +kernel
theorem dX11_of_20 : decode cX11_of 20 = .ok (.aload_n 0, 1) := by decide +kernel
theorem dX11_of_21 : decode cX11_of 21 = .ok (.getfield 47, 3) := by decide +kernel
theorem dX11_of_24 : decode cX11_of 24 = .ok (.invokevirtual 148, 3) := by decide +kernel
theorem dX11_of_27 : decode cX11_of 27 = .ok (.lcmp, 1) := by decide +kernel
theorem dX11_of_28 : decode cX11_of 28 = .ok (.ifCond .lt 6, 3) := by decide +kernel
theorem dX11_of_31 : decode cX11_of 31 = .ok (.bipush (-2), 2) := by decide +kernel
theorem dX11_of_33 : decode cX11_of 33 = .ok (.ireturn, 1) := by decide +kernel
theorem dX11_of_34 : decode cX11_of 34 = .ok (.aload_n 0, 1) := by decide +kernel
theorem dX11_of_35 : decode cX11_of 35 = .ok (.getfield 47, 3) := by decide +kernel
theorem dX11_of_38 : decode cX11_of 38 = .ok (.lload_n 1, 1) := by decide +kernel
theorem dX11_of_39 : decode cX11_of 39 = .ok (.invokevirtual 162, 3) := by decide +kernel
theorem dX11_of_42 : decode cX11_of 42 = .ok (.iload_n 3, 1) := by decide +kernel
theorem dX11_of_43 : decode cX11_of 43 = .ok (.iload 4, 2) := by decide +kernel
theorem dX11_of_45 : decode cX11_of 45 = .ok (.invokestatic 165, 3) := by decide +kernel
theorem dX11_of_48 : decode cX11_of 48 = .ok (.invokestatic 170, 3) := by decide +kernel
theorem dX11_of_51 : decode cX11_of 51 = .ok (.ireturn, 1) := by decide +kernel
theorem dX11_least_0 : decode cX11_least 0 = .ok (.aload_n 0, 1) := by decide +kernel
theorem dX11_least_1 : decode cX11_least 1 = .ok (.getfield 26, 3) := by decide +kernel
theorem dX11_least_4 : decode cX11_least 4 = .ok (.iload_n 1, 1) := by decide +kernel
theorem dX11_least_5 : decode cX11_least 5 = .ok (.iload_n 2, 1) := by decide +kernel
theorem dX11_least_6 : decode cX11_least 6 = .ok (.invokevirtual 131, 3) := by decide +kernel
theorem dX11_least_9 : decode cX11_least 9 = .ok (.ifCond .eq 15, 3) := by decide +kernel
theorem dX11_least_12 : decode cX11_least 12 = .ok (.aload_n 0, 1) := by decide +kernel
theorem dX11_least_13 : decode cX11_least 13 = .ok (.getfield 47, 3) := by decide +kernel
theorem dX11_least_16 : decode cX11_least 16 = .ok (.iload_n 1, 1) := by decide +kernel
theorem dX11_least_17 : decode cX11_least 17 = .ok (.iload_n 2, 1) := by decide +kernel
theorem dX11_least_18 : decode cX11_least 18 = .ok (.invokevirtual 174, 3) := by decide +kernel
theorem dX11_least_21 : decode cX11_least 21 = .ok (.goto 5, 3) := by decide +kernel
theorem dX11_least_24 : decode cX11_least 24 = .ok (.bipush (-2), 2) := by decide +kernel
theorem dX11_least_26 : decode cX11_least 26 = .ok (.ireturn, 1) := by decide +kernel
theorem dX11_most_0 : decode cX11_most 0 = .ok (.aload_n 0, 1) := by decide +kernel
theorem dX11_most_1 : decode cX11_most 1 = .ok (.getfield 26, 3) := by decide +kernel
theorem dX11_most_4 : decode cX11_most 4 = .ok (.iload_n 1, 1) := by decide +kernel
theorem dX11_most_5 : decode cX11_most 5 = .ok (.iload_n 2, 1) := by decide +kernel
theorem dX11_most_6 : decode cX11_most 6 = .ok (.invokevirtual 131, 3) := by decide +kernel
theorem dX11_most_9 : decode cX11_most 9 = .ok (.ifCond .eq 15, 3) := by decide +kernel
theorem dX11_most_12 : decode cX11_most 12 = .ok (.aload_n 0, 1) := by decide +kernel
theorem dX11_most_13 : decode cX11_most 13 = .ok (.getfield 47, 3) := by decide +kernel
theorem dX11_most_16 : decode cX11_most 16 = .ok (.iload_n 1, 1) := by decide +kernel
theorem dX11_most_17 : decode cX11_most 17 = .ok (.iload_n 2, 1) := by decide +kernel
theorem dX11_most_18 : decode cX11_most 18 = .ok (.invokevirtual 177, 3) := by decide +kernel
theorem dX11_most_21 : decode cX11_most 21 = .ok (.goto 5, 3) := by decide +kernel
theorem dX11_most_24 : decode cX11_most 24 = .ok (.bipush (-2), 2) := by decide +kernel
theorem dX11_most_26 : decode cX11_most 26 = .ok (.ireturn, 1) := by decide +kernel
theorem dX11_fixed_0 : decode cX11_fixed 0 = .ok (.aload_n 0, 1) := by decide +kernel
theorem dX11_fixed_1 : decode cX11_fixed 1 = .ok (.getfield 26, 3) := by decide +kernel
theorem dX11_fixed_4 : decode cX11_fixed 4 = .ok (.invokevirtual 89, 3) := by decide +kernel
theorem dX11_fixed_7 : decode cX11_fixed 7 = .ok (.ifCond .ne 6, 3) := by decide +kernel
theorem dX11_fixed_10 : decode cX11_fixed 10 = .ok (.bipush (-2), 2) := by decide +kernel
theorem dX11_fixed_12 : decode cX11_fixed 12 = .ok (.ireturn, 1) := by decide +kernel
theorem dX11_fixed_13 : decode cX11_fixed 13 = .ok (.iconst 0, 1) := by decide +kernel
theorem dX11_fixed_14 : decode cX11_fixed 14 = .ok (.istore_n 1, 1) := by decide +kernel
theorem dX11_fixed_15 : decode cX11_fixed 15 = .ok (.iconst 0, 1) := by decide +kernel
theorem dX11_fixed_16 : decode cX11_fixed 16 = .ok (.istore_n 2, 1) := by decide +kernel
theorem dX11_fixed_17 : decode cX11_fixed 17 = .ok (.iload_n 2, 1) := by decide +kernel
theorem dX11_fixed_18 : decode cX11_fixed 18 = .ok (.aload_n 0, 1) := by decide +kernel
theorem dX11_fixed_19 : decode cX11_fixed 19 = .ok (.getfield 26, 3) := by decide +kernel
theorem dX11_fixed_22 : decode cX11_fixed 22 = .ok (.getfield 110, 3) := by decide +kernel
theorem dX11_fixed_25 : decode cX11_fixed 25 = .ok (.if_icmp .ge 77, 3) := by decide +kernel
theorem dX11_fixed_28 : decode cX11_fixed 28 = .ok (.iconst 0, 1) := by decide +kernel
theorem dX11_fixed_29 : decode cX11_fixed 29 = .ok (.istore_n 3, 1) := by decide +kernel
theorem dX11_fixed_30 : decode cX11_fixed 30 = .ok (.iload_n 3, 1) := by decide +kernel
theorem dX11_fixed_31 : decode cX11_fixed 31 = .ok (.aload_n 0, 1) := by decide +kernel
theorem dX11_fixed_32 : decode cX11_fixed 32 = .ok (.getfield 26, 3) := by decide +kernel
theorem dX11_fixed_35 : decode cX11_fixed 35 = .ok (.getfield 113, 3) := by decide +kernel
theorem dX11_fixed_38 : decode cX11_fixed 38 = .ok (.if_icmp .ge 58, 3) := by decide +kernel
theorem dX11_fixed_41 : decode cX11_fixed 41 = .ok (.aload_n 0, 1) := by decide +kernel
theorem dX11_fixed_42 : decode cX11_fixed 42 = .ok (.getfield 26, 3) := by decide +kernel
theorem dX11_fixed_45 : decode cX11_fixed 45 = .ok (.iload_n 2, 1) := by decide +kernel
theorem dX11_fixed_46 : decode cX11_fixed 46 = .ok (.iload_n 3, 1) := by decide +kernel
theorem dX11_fixed_47 : decode cX11_fixed 47 = .ok (.invokevirtual 139, 3) := by decide +kernel
theorem dX11_fixed_50 : decode cX11_fixed 50 = .ok (.ifCond .ne 40, 3) := by decide +kernel
theorem dX11_fixed_53 : decode cX11_fixed 53 = .ok (.aload_n 0, 1) := by decide +kernel
theorem dX11_fixed_54 : decode cX11_fixed 54 = .ok (.getfield 47, 3) := by decide +kernel
theorem dX11_fixed_57 : decode cX11_fixed 57 = .ok (.iload_n 2, 1) := by decide +kernel
theorem dX11_fixed_58 : decode cX11_fixed 58 = .ok (.iload_n 3, 1) := by decide +kernel
theorem dX11_fixed_59 : decode cX11_fixed 59 = .ok (.invokevirtual 174, 3) := by decide +kernel
theorem dX11_fixed_62 : decode cX11_fixed 62 = .ok (.aload_n 0, 1) := by decide +kernel
theorem dX11_fixed_63 : decode cX11_fixed 63 = .ok (.getfield 47, 3) := by decide +kernel
theorem dX11_fixed_66 : decode cX11_fixed 66 = .ok (.iload_n 2, 1) := by decide +kernel
theorem dX11_fixed_67 : decode cX11_fixed 67 = .ok (.iload_n 3, 1) := by decide +kernel
theorem dX11_fixed_68 : decode cX11_fixed 68 = .ok (.invokevirtual 177, 3) := by decide +kernel
theorem dX11_fixed_71 : decode cX11_fixed 71 = .ok (.if_icmp .ne 19, 3) := by decide +kernel
theorem dX11_fixed_74 : decode cX11_fixed 74 = .ok (.iload_n 1, 1) := by decide +kernel
theorem dX11_fixed_75 : decode cX11_fixed 75 = .ok (.iconst 1, 1) := by decide +kernel
theorem dX11_fixed_76 : decode cX11_fixed 76 = .ok (.iload_n 2, 1) := by decide +kernel
theorem dX11_fixed_77 : decode cX11_fixed 77 = .ok (.aload_n 0, 1) := by decide +kernel
theorem dX11_fixed_78 : decode cX11_fixed 78 = .ok (.getfield 26, 3) := by decide +kernel
theorem dX11_fixed_81 : decode cX11_fixed 81 = .ok (.getfield 113, 3) := by decide +kernel
theorem dX11_fixed_84 : decode cX11_fixed 84 = .ok (.imul, 1) := by decide +kernel
theorem dX11_fixed_85 : decode cX11_fixed 85 = .ok (.iload_n 3, 1) := by decide +kernel
theorem dX11_fixed_86 : decode cX11_fixed 86 = .ok (.iadd, 1) := by decide +kernel
theorem dX11_fixed_87 : decode cX11_fixed 87 = .ok (.ishl, 1) := by decide +kernel
theorem dX11_fixed_88 : decode cX11_fixed 88 = .ok (.ior, 1) := by decide +kernel
theorem dX11_fixed_89 : decode cX11_fixed 89 = .ok (.istore_n 1, 1) := by decide +kernel
theorem dX11_fixed_90 : decode cX11_fixed 90 = .ok (.iinc 3 1, 3) := by decide +kernel
theorem dX11_fixed_93 : decode cX11_fixed 93 = .ok (.goto (-63), 3) := by decide +kernel
theorem dX11_fixed_96 : decode cX11_fixed 96 = .ok (.iinc 2 1, 3) := by decide +kernel
theorem dX11_fixed_99 : decode cX11_fixed 99 = .ok (.goto (-82), 3) := by decide +kernel
theorem dX11_fixed_102 : decode cX11_fixed 102 = .ok (.iload_n 1, 1) := by decide +kernel
theorem dX11_fixed_103 : decode cX11_fixed 103 = .ok (.ireturn, 1) := by decide +kernel
theorem dX11_having_0 : decode cX11_having 0 = .ok (.aload_n 0, 1) := by decide +kernel
theorem dX11_having_1 : decode cX11_having 1 = .ok (.getfield 26, 3) := by decide +kernel
theorem dX11_having_4 : decode cX11_having 4 = .ok (.iload_n 1, 1) := by decide +kernel
theorem dX11_having_5 : decode cX11_having 5 = .ok (.iload_n 2, 1) := by decide +kernel
theorem dX11_having_6 : decode cX11_having 6 = .ok (.invokevirtual 131, 3) := by decide +kernel
theorem dX11_having_9 : decode cX11_having 9 = .ok (.ifCond .eq 13, 3) := by decide +kernel
theorem dX11_having_12 : decode cX11_having 12 = .ok (.iload_n 3, 1) := by decide +kernel
theorem dX11_having_13 : decode cX11_having 13 = .ok (.ifCond .lt 9, 3) := by decide +kernel
theorem dX11_having_16 : decode cX11_having 16 = .ok (.iload_n 3, 1) := by decide +kernel
theorem dX11_having_17 : decode cX11_having 17 = .ok (.bipush 20, 2) := by decide +kernel
theorem dX11_having_19 : decode cX11_having 19 = .ok (.if_icmp .le 7, 3) := by decide +kernel
theorem dX11_having_22 : decode cX11_having 22 = .ok (.ldc2_w 152, 3) := by decide +kernel
theorem dX11_having_25 : decode cX11_having 25 = .ok (.lreturn, 1) := by decide +kernel
theorem dX11_having_26 : decode cX11_having 26 = .ok (.aload_n 0, 1) := by decide +kernel
theorem dX11_having_27 : decode cX11_having 27 = .ok (.getfield 47, 3) := by decide +kernel
theorem dX11_having_30 : decode cX11_having 30 = .ok (.iload_n 1, 1) := by decide +kernel
theorem dX11_having_31 : decode cX11_having 31 = .ok (.iload_n 2, 1) := by decide +kernel
theorem dX11_having_32 : decode cX11_having 32 = .ok (.iload_n 3, 1) := by decide +kernel
theorem dX11_having_33 : decode cX11_having 33 = .ok (.invokevirtual 180, 3) := by decide +kernel
theorem dX11_having_36 : decode cX11_having 36 = .ok (.lreturn, 1) := by decide +kernel
theorem dX11_mean_0 : decode cX11_mean 0 = .ok (.aload_n 0, 1) := by decide +kernel
theorem dX11_mean_1 : decode cX11_mean 1 = .ok (.getfield 26, 3) := by decide +kernel
theorem dX11_mean_4 : decode cX11_mean 4 = .ok (.iload_n 1, 1) := by decide +kernel
theorem dX11_mean_5 : decode cX11_mean 5 = .ok (.iload_n 2, 1) := by decide +kernel
theorem dX11_mean_6 : decode cX11_mean 6 = .ok (.invokevirtual 131, 3) := by decide +kernel
theorem dX11_mean_9 : decode cX11_mean 9 = .ok (.ifCond .ne 7, 3) := by decide +kernel
theorem dX11_mean_12 : decode cX11_mean 12 = .ok (.ldc2_w 152, 3) := by decide +kernel
theorem dX11_mean_15 : decode cX11_mean 15 = .ok (.lreturn, 1) := by decide +kernel
theorem dX11_mean_16 : decode cX11_mean 16 = .ok (.aload_n 0, 1) := by decide +kernel
theorem dX11_mean_17 : decode cX11_mean 17 = .ok (.getfield 47, 3) := by decide +kernel
theorem dX11_mean_20 : decode cX11_mean 20 = .ok (.iload_n 1, 1) := by decide +kernel
theorem dX11_mean_21 : decode cX11_mean 21 = .ok (.iload_n 2, 1) := by decide +kernel
theorem dX11_mean_22 : decode cX11_mean 22 = .ok (.invokevirtual 184, 3) := by decide +kernel
theorem dX11_mean_25 : decode cX11_mean 25 = .ok (.aload_n 0, 1) := by decide +kernel
theorem dX11_mean_26 : decode cX11_mean 26 = .ok (.getfield 47, 3) := by decide +kernel
theorem dX11_mean_29 : decode cX11_mean 29 = .ok (.invokevirtual 148, 3) := by decide +kernel
theorem dX11_mean_32 : decode cX11_mean 32 = .ok (.iload_n 3, 1) := by decide +kernel
theorem dX11_mean_33 : decode cX11_mean 33 = .ok (.invokestatic 188, 3) := by decide +kernel
theorem dX11_mean_36 : decode cX11_mean 36 = .ok (.lreturn, 1) := by decide +kernel
theorem dX11_weight_0 : decode cX11_weight 0 = .ok (.aload_n 0, 1) := by decide +kernel
theorem dX11_weight_1 : decode cX11_weight 1 = .ok (.getfield 26, 3) := by decide +kernel
theorem dX11_weight_4 : decode cX11_weight 4 = .ok (.invokevirtual 89, 3) := by decide +kernel
theorem dX11_weight_7 : decode cX11_weight 7 = .ok (.ifCond .eq 21, 3) := by decide +kernel
theorem dX11_weight_10 : decode cX11_weight 10 = .ok (.aload_n 0, 1) := by decide +kernel
theorem dX11_weight_11 : decode cX11_weight 11 = .ok (.getfield 56, 3) := by decide +kernel
theorem dX11_weight_14 : decode cX11_weight 14 = .ok (.iconst 0, 1) := by decide +kernel
theorem dX11_weight_15 : decode cX11_weight 15 = .ok (.aload_n 0, 1) := by decide +kernel
theorem dX11_weight_16 : decode cX11_weight 16 = .ok (.getfield 26, 3) := by decide +kernel
theorem dX11_weight_19 : decode cX11_weight 19 = .ok (.getfield 154, 3) := by decide +kernel
theorem dX11_weight_22 : decode cX11_weight 22 = .ok (.invokevirtual 194, 3) := by decide +kernel
theorem dX11_weight_25 : decode cX11_weight 25 = .ok (.goto 6, 3) := by decide +kernel
theorem dX11_weight_28 : decode cX11_weight 28 = .ok (.ldc2_w 152, 3) := by decide +kernel
theorem dX11_weight_31 : decode cX11_weight 31 = .ok (.lreturn, 1) := by decide +kernel
theorem dX11_weights_0 : decode cX11_weights 0 = .ok (.aload_n 0, 1) := by decide +kernel
theorem dX11_weights_1 : decode cX11_weights 1 = .ok (.getfield 26, 3) := by decide +kernel
theorem dX11_weights_4 : decode cX11_weights 4 = .ok (.invokevirtual 89, 3) := by decide +kernel
theorem dX11_weights_7 : decode cX11_weights 7 = .ok (.ifCond .eq 13, 3) := by decide +kernel
theorem dX11_weights_10 : decode cX11_weights 10 = .ok (.aload_n 0, 1) := by decide +kernel
theorem dX11_weights_11 : decode cX11_weights 11 = .ok (.getfield 47, 3) := by decide +kernel
theorem dX11_weights_14 : decode cX11_weights 14 = .ok (.invokevirtual 198, 3) := by decide +kernel
theorem dX11_weights_17 : decode cX11_weights 17 = .ok (.goto 6, 3) := by decide +kernel
theorem dX11_weights_20 : decode cX11_weights 20 = .ok (.ldc2_w 152, 3) := by decide +kernel
theorem dX11_weights_23 : decode cX11_weights 23 = .ok (.lreturn, 1) := by decide +kernel
theorem dX11_heaviest_0 : decode cX11_heaviest 0 = .ok (.aload_n 0, 1) := by decide +kernel
theorem dX11_heaviest_1 : decode cX11_heaviest 1 = .ok (.getfield 26, 3) := by decide +kernel
theorem dX11_heaviest_4 : decode cX11_heaviest 4 = .ok (.invokevirtual 89, 3) := by decide +kernel
theorem dX11_heaviest_7 : decode cX11_heaviest 7 = .ok (.ifCond .eq 13, 3) := by decide +kernel
theorem dX11_heaviest_10 : decode cX11_heaviest 10 = .ok (.aload_n 0, 1) := by decide +kernel
theorem dX11_heaviest_11 : decode cX11_heaviest 11 = .ok (.getfield 56, 3) := by decide +kernel
theorem dX11_heaviest_14 : decode cX11_heaviest 14 = .ok (.invokevirtual 201, 3) := by decide +kernel
theorem dX11_heaviest_17 : decode cX11_heaviest 17 = .ok (.goto 6, 3) := by decide +kernel
theorem dX11_heaviest_20 : decode cX11_heaviest 20 = .ok (.ldc2_w 152, 3) := by decide +kernel
theorem dX11_heaviest_23 : decode cX11_heaviest 23 = .ok (.lreturn, 1) := by decide +kernel
theorem dX11_lightest_0 : decode cX11_lightest 0 = .ok (.aload_n 0, 1) := by decide +kernel
theorem dX11_lightest_1 : decode cX11_lightest 1 = .ok (.getfield 26, 3) := by decide +kernel
theorem dX11_lightest_4 : decode cX11_lightest 4 = .ok (.invokevirtual 89, 3) := by decide +kernel
theorem dX11_lightest_7 : decode cX11_lightest 7 = .ok (.ifCond .eq 13, 3) := by decide +kernel
theorem dX11_lightest_10 : decode cX11_lightest 10 = .ok (.aload_n 0, 1) := by decide +kernel
theorem dX11_lightest_11 : decode cX11_lightest 11 = .ok (.getfield 56, 3) := by decide +kernel
theorem dX11_lightest_14 : decode cX11_lightest 14 = .ok (.invokevirtual 204, 3) := by decide +kernel
theorem dX11_lightest_17 : decode cX11_lightest 17 = .ok (.goto 6, 3) := by decide +kernel
theorem dX11_lightest_20 : decode cX11_lightest 20 = .ok (.ldc2_w 152, 3) := by decide +kernel
theorem dX11_lightest_23 : decode cX11_lightest 23 = .ok (.lreturn, 1) := by decide +kernel
theorem dX11_statistic_0 : decode cX11_statistic 0 = .ok (.aload_n 0, 1) := by decide +kernel
theorem dX11_statistic_1 : decode cX11_statistic 1 = .ok (.iload_n 1, 1) := by decide +kernel
theorem dX11_statistic_2 : decode cX11_statistic 2 = .ok (.invokevirtual 207, 3) := by decide +kernel
theorem dX11_statistic_5 : decode cX11_statistic 5 = .ok (.ifCond .eq 21, 3) := by decide +kernel
theorem dX11_statistic_8 : decode cX11_statistic 8 = .ok (.aload_n 0, 1) := by decide +kernel
theorem dX11_statistic_9 : decode cX11_statistic 9 = .ok (.getfield 56, 3) := by decide +kernel
theorem dX11_statistic_12 : decode cX11_statistic 12 = .ok (.iload_n 1, 1) := by decide +kernel
theorem dX11_statistic_13 : decode cX11_statistic 13 = .ok (.aload_n 0, 1) := by decide +kernel
theorem dX11_statistic_14 : decode cX11_statistic 14 = .ok (.getfield 26, 3) := by decide +kernel
theorem dX11_statistic_17 : decode cX11_statistic 17 = .ok (.getfield 154, 3) := by decide +kernel
theorem dX11_statistic_20 : decode cX11_statistic 20 = .ok (.invokevirtual 194, 3) := by decide +kernel
theorem dX11_statistic_23 : decode cX11_statistic 23 = .ok (.goto 6, 3) := by decide +kernel
theorem dX11_statistic_26 : decode cX11_statistic 26 = .ok (.ldc2_w 152, 3) := by decide +kernel
theorem dX11_statistic_29 : decode cX11_statistic 29 = .ok (.lreturn, 1) := by decide +kernel
theorem dX11_extreme_0 : decode cX11_extreme 0 = .ok (.aload_n 0, 1) := by decide +kernel
theorem dX11_extreme_1 : decode cX11_extreme 1 = .ok (.iload_n 1, 1) := by decide +kernel
theorem dX11_extreme_2 : decode cX11_extreme 2 = .ok (.invokevirtual 207, 3) := by decide +kernel
theorem dX11_extreme_5 : decode cX11_extreme 5 = .ok (.ifCond .eq 21, 3) := by decide +kernel
theorem dX11_extreme_8 : decode cX11_extreme 8 = .ok (.aload_n 0, 1) := by decide +kernel
theorem dX11_extreme_9 : decode cX11_extreme 9 = .ok (.getfield 56, 3) := by decide +kernel
theorem dX11_extreme_12 : decode cX11_extreme 12 = .ok (.iload_n 1, 1) := by decide +kernel
theorem dX11_extreme_13 : decode cX11_extreme 13 = .ok (.aload_n 0, 1) := by decide +kernel
theorem dX11_extreme_14 : decode cX11_extreme 14 = .ok (.getfield 26, 3) := by decide +kernel
theorem dX11_extreme_17 : decode cX11_extreme 17 = .ok (.getfield 154, 3) := by decide +kernel
theorem dX11_extreme_20 : decode cX11_extreme 20 = .ok (.invokevirtual 211, 3) := by decide +kernel
theorem dX11_extreme_23 : decode cX11_extreme 23 = .ok (.goto 6, 3) := by decide +kernel
theorem dX11_extreme_26 : decode cX11_extreme 26 = .ok (.ldc2_w 152, 3) := by decide +kernel
theorem dX11_extreme_29 : decode cX11_extreme 29 = .ok (.lreturn, 1) := by decide +kernel
theorem dX11_share_0 : decode cX11_share 0 = .ok (.aload_n 0, 1) := by decide +kernel
theorem dX11_share_1 : decode cX11_share 1 = .ok (.iload_n 1, 1) := by decide +kernel
theorem dX11_share_2 : decode cX11_share 2 = .ok (.invokevirtual 207, 3) := by decide +kernel
theorem dX11_share_5 : decode cX11_share 5 = .ok (.ifCond .ne 7, 3) := by decide +kernel
theorem dX11_share_8 : decode cX11_share 8 = .ok (.ldc2_w 152, 3) := by decide +kernel
theorem dX11_share_11 : decode cX11_share 11 = .ok (.lreturn, 1) := by decide +kernel
theorem dX11_share_12 : decode cX11_share 12 = .ok (.aload_n 0, 1) := by decide +kernel
theorem dX11_share_13 : decode cX11_share 13 = .ok (.getfield 56, 3) := by decide +kernel
theorem dX11_share_16 : decode cX11_share 16 = .ok (.iload_n 1, 1) := by decide +kernel
theorem dX11_share_17 : decode cX11_share 17 = .ok (.aload_n 0, 1) := by decide +kernel
theorem dX11_share_18 : decode cX11_share 18 = .ok (.getfield 26, 3) := by decide +kernel
theorem dX11_share_21 : decode cX11_share 21 = .ok (.getfield 154, 3) := by decide +kernel
theorem dX11_share_24 : decode cX11_share 24 = .ok (.invokevirtual 214, 3) := by decide +kernel
theorem dX11_share_27 : decode cX11_share 27 = .ok (.aload_n 0, 1) := by decide +kernel
theorem dX11_share_28 : decode cX11_share 28 = .ok (.getfield 47, 3) := by decide +kernel
theorem dX11_share_31 : decode cX11_share 31 = .ok (.invokevirtual 198, 3) := by decide +kernel
theorem dX11_share_34 : decode cX11_share 34 = .ok (.iload_n 2, 1) := by decide +kernel
theorem dX11_share_35 : decode cX11_share 35 = .ok (.invokestatic 188, 3) := by decide +kernel
theorem dX11_share_38 : decode cX11_share 38 = .ok (.lreturn, 1) := by decide +kernel
theorem dX11_chi_0 : decode cX11_chi 0 = .ok (.aload_n 0, 1) := by decide +kernel
theorem dX11_chi_1 : decode cX11_chi 1 = .ok (.getfield 26, 3) := by decide +kernel
theorem dX11_chi_4 : decode cX11_chi 4 = .ok (.invokevirtual 89, 3) := by decide +kernel
theorem dX11_chi_7 : decode cX11_chi 7 = .ok (.ifCond .eq 16, 3) := by decide +kernel
theorem dX11_chi_10 : decode cX11_chi 10 = .ok (.aload_n 0, 1) := by decide +kernel
theorem dX11_chi_11 : decode cX11_chi 11 = .ok (.getfield 26, 3) := by decide +kernel
theorem dX11_chi_14 : decode cX11_chi 14 = .ok (.invokevirtual 217, 3) := by decide +kernel
theorem dX11_chi_17 : decode cX11_chi 17 = .ok (.invokestatic 221, 3) := by decide +kernel
theorem dX11_chi_20 : decode cX11_chi 20 = .ok (.goto 6, 3) := by decide +kernel
theorem dX11_chi_23 : decode cX11_chi 23 = .ok (.ldc2_w 152, 3) := by decide +kernel
theorem dX11_chi_26 : decode cX11_chi 26 = .ok (.lreturn, 1) := by decide +kernel
theorem dX11_excess_0 : decode cX11_excess 0 = .ok (.aload_n 0, 1) := by decide +kernel
theorem dX11_excess_1 : decode cX11_excess 1 = .ok (.getfield 26, 3) := by decide +kernel
theorem dX11_excess_4 : decode cX11_excess 4 = .ok (.iload_n 1, 1) := by decide +kernel
theorem dX11_excess_5 : decode cX11_excess 5 = .ok (.iload_n 2, 1) := by decide +kernel
theorem dX11_excess_6 : decode cX11_excess 6 = .ok (.invokevirtual 131, 3) := by decide +kernel
theorem dX11_excess_9 : decode cX11_excess 9 = .ok (.ifCond .eq 18, 3) := by decide +kernel
theorem dX11_excess_12 : decode cX11_excess 12 = .ok (.aload_n 0, 1) := by decide +kernel
theorem dX11_excess_13 : decode cX11_excess 13 = .ok (.getfield 26, 3) := by decide +kernel
theorem dX11_excess_16 : decode cX11_excess 16 = .ok (.iload_n 1, 1) := by decide +kernel
theorem dX11_excess_17 : decode cX11_excess 17 = .ok (.iload_n 2, 1) := by decide +kernel
theorem dX11_excess_18 : decode cX11_excess 18 = .ok (.invokevirtual 225, 3) := by decide +kernel
theorem dX11_excess_21 : decode cX11_excess 21 = .ok (.invokestatic 229, 3) := by decide +kernel
theorem dX11_excess_24 : decode cX11_excess 24 = .ok (.goto 5, 3) := by decide +kernel
theorem dX11_excess_27 : decode cX11_excess 27 = .ok (.bipush (-2), 2) := by decide +kernel
theorem dX11_excess_29 : decode cX11_excess 29 = .ok (.ireturn, 1) := by decide +kernel
theorem dX11_swaps_0 : decode cX11_swaps 0 = .ok (.aload_n 0, 1) := by decide +kernel
theorem dX11_swaps_1 : decode cX11_swaps 1 = .ok (.getfield 26, 3) := by decide +kernel
theorem dX11_swaps_4 : decode cX11_swaps 4 = .ok (.invokevirtual 89, 3) := by decide +kernel
theorem dX11_swaps_7 : decode cX11_swaps 7 = .ok (.ifCond .eq 20, 3) := by decide +kernel
theorem dX11_swaps_10 : decode cX11_swaps 10 = .ok (.aload_n 0, 1) := by decide +kernel
theorem dX11_swaps_11 : decode cX11_swaps 11 = .ok (.getfield 40, 3) := by decide +kernel
theorem dX11_swaps_14 : decode cX11_swaps 14 = .ok (.aload_n 0, 1) := by decide +kernel
theorem dX11_swaps_15 : decode cX11_swaps 15 = .ok (.getfield 26, 3) := by decide +kernel
theorem dX11_swaps_18 : decode cX11_swaps 18 = .ok (.getfield 154, 3) := by decide +kernel
theorem dX11_swaps_21 : decode cX11_swaps 21 = .ok (.invokevirtual 233, 3) := by decide +kernel
theorem dX11_swaps_24 : decode cX11_swaps 24 = .ok (.goto 5, 3) := by decide +kernel
theorem dX11_swaps_27 : decode cX11_swaps 27 = .ok (.bipush (-2), 2) := by decide +kernel
theorem dX11_swaps_29 : decode cX11_swaps 29 = .ok (.ireturn, 1) := by decide +kernel
theorem dX11_classes_0 : decode cX11_classes 0 = .ok (.aload_n 0, 1) := by decide +kernel
theorem dX11_classes_1 : decode cX11_classes 1 = .ok (.invokevirtual 237, 3) := by decide +kernel
theorem dX11_classes_4 : decode cX11_classes 4 = .ok (.istore_n 1, 1) := by decide +kernel
theorem dX11_classes_5 : decode cX11_classes 5 = .ok (.iload_n 1, 1) := by decide +kernel
theorem dX11_classes_6 : decode cX11_classes 6 = .ok (.ifCond .eq 7, 3) := by decide +kernel
theorem dX11_classes_9 : decode cX11_classes 9 = .ok (.iload_n 1, 1) := by decide +kernel
theorem dX11_classes_10 : decode cX11_classes 10 = .ok (.goto 10, 3) := by decide +kernel
theorem dX11_classes_13 : decode cX11_classes 13 = .ok (.aload_n 0, 1) := by decide +kernel
theorem dX11_classes_14 : decode cX11_classes 14 = .ok (.getfield 65, 3) := by decide +kernel
theorem dX11_classes_17 : decode cX11_classes 17 = .ok (.invokevirtual 241, 3) := by decide +kernel
theorem dX11_classes_20 : decode cX11_classes 20 = .ok (.ireturn, 1) := by decide +kernel
theorem dX11_joined_0 : decode cX11_joined 0 = .ok (.aload_n 0, 1) := by decide +kernel
theorem dX11_joined_1 : decode cX11_joined 1 = .ok (.invokevirtual 237, 3) := by decide +kernel
theorem dX11_joined_4 : decode cX11_joined 4 = .ok (.istore_n 1, 1) := by decide +kernel
theorem dX11_joined_5 : decode cX11_joined 5 = .ok (.iload_n 1, 1) := by decide +kernel
theorem dX11_joined_6 : decode cX11_joined 6 = .ok (.ifCond .eq 7, 3) := by decide +kernel
theorem dX11_joined_9 : decode cX11_joined 9 = .ok (.iload_n 1, 1) := by decide +kernel
theorem dX11_joined_10 : decode cX11_joined 10 = .ok (.goto 10, 3) := by decide +kernel
theorem dX11_joined_13 : decode cX11_joined 13 = .ok (.aload_n 0, 1) := by decide +kernel
theorem dX11_joined_14 : decode cX11_joined 14 = .ok (.getfield 65, 3) := by decide +kernel
theorem dX11_joined_17 : decode cX11_joined 17 = .ok (.invokevirtual 244, 3) := by decide +kernel
theorem dX11_joined_20 : decode cX11_joined 20 = .ok (.ireturn, 1) := by decide +kernel
theorem dX11_classOf_0 : decode cX11_classOf 0 = .ok (.aload_n 0, 1) := by decide +kernel
theorem dX11_classOf_1 : decode cX11_classOf 1 = .ok (.iload_n 1, 1) := by decide +kernel
theorem dX11_classOf_2 : decode cX11_classOf 2 = .ok (.invokevirtual 247, 3) := by decide +kernel
theorem dX11_classOf_5 : decode cX11_classOf 5 = .ok (.istore_n 2, 1) := by decide +kernel
theorem dX11_classOf_6 : decode cX11_classOf 6 = .ok (.iload_n 2, 1) := by decide +kernel
theorem dX11_classOf_7 : decode cX11_classOf 7 = .ok (.ifCond .eq 7, 3) := by decide +kernel
theorem dX11_classOf_10 : decode cX11_classOf 10 = .ok (.iload_n 2, 1) := by decide +kernel
theorem dX11_classOf_11 : decode cX11_classOf 11 = .ok (.goto 11, 3) := by decide +kernel
theorem dX11_classOf_14 : decode cX11_classOf 14 = .ok (.aload_n 0, 1) := by decide +kernel
theorem dX11_classOf_15 : decode cX11_classOf 15 = .ok (.getfield 65, 3) := by decide +kernel
theorem dX11_classOf_18 : decode cX11_classOf 18 = .ok (.iload_n 1, 1) := by decide +kernel
theorem dX11_classOf_19 : decode cX11_classOf 19 = .ok (.invokevirtual 250, 3) := by decide +kernel
theorem dX11_classOf_22 : decode cX11_classOf 22 = .ok (.ireturn, 1) := by decide +kernel
theorem dX11_sized_0 : decode cX11_sized 0 = .ok (.aload_n 0, 1) := by decide +kernel
theorem dX11_sized_1 : decode cX11_sized 1 = .ok (.iload_n 1, 1) := by decide +kernel
theorem dX11_sized_2 : decode cX11_sized 2 = .ok (.invokevirtual 247, 3) := by decide +kernel
theorem dX11_sized_5 : decode cX11_sized 5 = .ok (.istore_n 2, 1) := by decide +kernel
theorem dX11_sized_6 : decode cX11_sized 6 = .ok (.iload_n 2, 1) := by decide +kernel
theorem dX11_sized_7 : decode cX11_sized 7 = .ok (.ifCond .eq 7, 3) := by decide +kernel
theorem dX11_sized_10 : decode cX11_sized 10 = .ok (.iload_n 2, 1) := by decide +kernel
theorem dX11_sized_11 : decode cX11_sized 11 = .ok (.goto 11, 3) := by decide +kernel
theorem dX11_sized_14 : decode cX11_sized 14 = .ok (.aload_n 0, 1) := by decide +kernel
theorem dX11_sized_15 : decode cX11_sized 15 = .ok (.getfield 65, 3) := by decide +kernel
theorem dX11_sized_18 : decode cX11_sized 18 = .ok (.iload_n 1, 1) := by decide +kernel
theorem dX11_sized_19 : decode cX11_sized 19 = .ok (.invokevirtual 253, 3) := by decide +kernel
theorem dX11_sized_22 : decode cX11_sized 22 = .ok (.ireturn, 1) := by decide +kernel
theorem dX11_apart_0 : decode cX11_apart 0 = .ok (.aload_n 0, 1) := by decide +kernel
theorem dX11_apart_1 : decode cX11_apart 1 = .ok (.iload_n 1, 1) := by decide +kernel
theorem dX11_apart_2 : decode cX11_apart 2 = .ok (.invokevirtual 247, 3) := by decide +kernel
theorem dX11_apart_5 : decode cX11_apart 5 = .ok (.istore_n 3, 1) := by decide +kernel
theorem dX11_apart_6 : decode cX11_apart 6 = .ok (.iload_n 3, 1) := by decide +kernel
theorem dX11_apart_7 : decode cX11_apart 7 = .ok (.ifCond .ne 9, 3) := by decide +kernel
theorem dX11_apart_10 : decode cX11_apart 10 = .ok (.aload_n 0, 1) := by decide +kernel
theorem dX11_apart_11 : decode cX11_apart 11 = .ok (.iload_n 2, 1) := by decide +kernel
theorem dX11_apart_12 : decode cX11_apart 12 = .ok (.invokevirtual 247, 3) := by decide +kernel
theorem dX11_apart_15 : decode cX11_apart 15 = .ok (.istore_n 3, 1) := by decide +kernel
theorem dX11_apart_16 : decode cX11_apart 16 = .ok (.iload_n 3, 1) := by decide +kernel
theorem dX11_apart_17 : decode cX11_apart 17 = .ok (.ifCond .eq 7, 3) := by decide +kernel
theorem dX11_apart_20 : decode cX11_apart 20 = .ok (.iload_n 3, 1) := by decide +kernel
theorem dX11_apart_21 : decode cX11_apart 21 = .ok (.goto 12, 3) := by decide +kernel
theorem dX11_apart_24 : decode cX11_apart 24 = .ok (.aload_n 0, 1) := by decide +kernel
theorem dX11_apart_25 : decode cX11_apart 25 = .ok (.getfield 65, 3) := by decide +kernel
theorem dX11_apart_28 : decode cX11_apart 28 = .ok (.iload_n 1, 1) := by decide +kernel
theorem dX11_apart_29 : decode cX11_apart 29 = .ok (.iload_n 2, 1) := by decide +kernel
theorem dX11_apart_30 : decode cX11_apart 30 = .ok (.invokevirtual 256, 3) := by decide +kernel
theorem dX11_apart_33 : decode cX11_apart 33 = .ok (.ireturn, 1) := by decide +kernel
theorem dX11_far_0 : decode cX11_far 0 = .ok (.aload_n 0, 1) := by decide +kernel
theorem dX11_far_1 : decode cX11_far 1 = .ok (.invokevirtual 237, 3) := by decide +kernel
theorem dX11_far_4 : decode cX11_far 4 = .ok (.istore_n 1, 1) := by decide +kernel
theorem dX11_far_5 : decode cX11_far 5 = .ok (.iload_n 1, 1) := by decide +kernel
theorem dX11_far_6 : decode cX11_far 6 = .ok (.ifCond .eq 7, 3) := by decide +kernel
theorem dX11_far_9 : decode cX11_far 9 = .ok (.iload_n 1, 1) := by decide +kernel
theorem dX11_far_10 : decode cX11_far 10 = .ok (.goto 14, 3) := by decide +kernel
theorem dX11_far_13 : decode cX11_far 13 = .ok (.aload_n 0, 1) := by decide +kernel
theorem dX11_far_14 : decode cX11_far 14 = .ok (.getfield 65, 3) := by decide +kernel
theorem dX11_far_17 : decode cX11_far 17 = .ok (.aload_n 0, 1) := by decide +kernel
theorem dX11_far_18 : decode cX11_far 18 = .ok (.invokevirtual 259, 3) := by decide +kernel
theorem dX11_far_21 : decode cX11_far 21 = .ok (.invokevirtual 262, 3) := by decide +kernel
theorem dX11_far_24 : decode cX11_far 24 = .ok (.ireturn, 1) := by decide +kernel
theorem dX11_farthest_0 : decode cX11_farthest 0 = .ok (.aload_n 0, 1) := by decide +kernel
theorem dX11_farthest_1 : decode cX11_farthest 1 = .ok (.invokevirtual 237, 3) := by decide +kernel
theorem dX11_farthest_4 : decode cX11_farthest 4 = .ok (.istore_n 1, 1) := by decide +kernel
theorem dX11_farthest_5 : decode cX11_farthest 5 = .ok (.iload_n 1, 1) := by decide +kernel
theorem dX11_farthest_6 : decode cX11_farthest 6 = .ok (.ifCond .eq 7, 3) := by decide +kernel
theorem dX11_farthest_9 : decode cX11_farthest 9 = .ok (.iload_n 1, 1) := by decide +kernel
theorem dX11_farthest_10 : decode cX11_farthest 10 = .ok (.goto 14, 3) := by decide +kernel
theorem dX11_farthest_13 : decode cX11_farthest 13 = .ok (.aload_n 0, 1) := by decide +kernel
theorem dX11_farthest_14 : decode cX11_farthest 14 = .ok (.getfield 65, 3) := by decide +kernel
theorem dX11_farthest_17 : decode cX11_farthest 17 = .ok (.aload_n 0, 1) := by decide +kernel
theorem dX11_farthest_18 : decode cX11_farthest 18 = .ok (.invokevirtual 259, 3) := by decide +kernel
theorem dX11_farthest_21 : decode cX11_farthest 21 = .ok (.invokevirtual 265, 3) := by decide +kernel
theorem dX11_farthest_24 : decode cX11_farthest 24 = .ok (.ireturn, 1) := by decide +kernel
theorem dX11_within_0 : decode cX11_within 0 = .ok (.iload_n 1, 1) := by decide +kernel
theorem dX11_within_1 : decode cX11_within 1 = .ok (.ifCond .lt 9, 3) := by decide +kernel
theorem dX11_within_4 : decode cX11_within 4 = .ok (.iload_n 1, 1) := by decide +kernel
theorem dX11_within_5 : decode cX11_within 5 = .ok (.bipush 40, 2) := by decide +kernel
theorem dX11_within_7 : decode cX11_within 7 = .ok (.if_icmp .le 6, 3) := by decide +kernel
theorem dX11_within_10 : decode cX11_within 10 = .ok (.bipush (-2), 2) := by decide +kernel
theorem dX11_within_12 : decode cX11_within 12 = .ok (.ireturn, 1) := by decide +kernel
theorem dX11_within_13 : decode cX11_within 13 = .ok (.aload_n 0, 1) := by decide +kernel
theorem dX11_within_14 : decode cX11_within 14 = .ok (.invokevirtual 237, 3) := by decide +kernel
theorem dX11_within_17 : decode cX11_within 17 = .ok (.istore_n 2, 1) := by decide +kernel
theorem dX11_within_18 : decode cX11_within 18 = .ok (.iload_n 2, 1) := by decide +kernel
theorem dX11_within_19 : decode cX11_within 19 = .ok (.ifCond .eq 7, 3) := by decide +kernel
theorem dX11_within_22 : decode cX11_within 22 = .ok (.iload_n 2, 1) := by decide +kernel
theorem dX11_within_23 : decode cX11_within 23 = .ok (.goto 15, 3) := by decide +kernel
theorem dX11_within_26 : decode cX11_within 26 = .ok (.aload_n 0, 1) := by decide +kernel
theorem dX11_within_27 : decode cX11_within 27 = .ok (.getfield 65, 3) := by decide +kernel
theorem dX11_within_30 : decode cX11_within 30 = .ok (.aload_n 0, 1) := by decide +kernel
theorem dX11_within_31 : decode cX11_within 31 = .ok (.invokevirtual 259, 3) := by decide +kernel
theorem dX11_within_34 : decode cX11_within 34 = .ok (.iload_n 1, 1) := by decide +kernel
theorem dX11_within_35 : decode cX11_within 35 = .ok (.invokevirtual 268, 3) := by decide +kernel
theorem dX11_within_38 : decode cX11_within 38 = .ok (.ireturn, 1) := by decide +kernel
theorem dX11_ways_0 : decode cX11_ways 0 = .ok (.iload_n 1, 1) := by decide +kernel
theorem dX11_ways_1 : decode cX11_ways 1 = .ok (.ifCond .lt 8, 3) := by decide +kernel
theorem dX11_ways_4 : decode cX11_ways 4 = .ok (.iload_n 1, 1) := by decide +kernel
theorem dX11_ways_5 : decode cX11_ways 5 = .ok (.iconst 4, 1) := by decide +kernel
theorem dX11_ways_6 : decode cX11_ways 6 = .ok (.if_icmp .le 7, 3) := by decide +kernel
theorem dX11_ways_9 : decode cX11_ways 9 = .ok (.ldc2_w 152, 3) := by decide +kernel
theorem dX11_ways_12 : decode cX11_ways 12 = .ok (.lreturn, 1) := by decide +kernel
theorem dX11_ways_13 : decode cX11_ways 13 = .ok (.aload_n 0, 1) := by decide +kernel
theorem dX11_ways_14 : decode cX11_ways 14 = .ok (.iload_n 2, 1) := by decide +kernel
theorem dX11_ways_15 : decode cX11_ways 15 = .ok (.invokevirtual 247, 3) := by decide +kernel
theorem dX11_ways_18 : decode cX11_ways 18 = .ok (.istore_n 3, 1) := by decide +kernel
theorem dX11_ways_19 : decode cX11_ways 19 = .ok (.iload_n 3, 1) := by decide +kernel
theorem dX11_ways_20 : decode cX11_ways 20 = .ok (.ifCond .eq 8, 3) := by decide +kernel
theorem dX11_ways_23 : decode cX11_ways 23 = .ok (.iload_n 3, 1) := by decide +kernel
theorem dX11_ways_24 : decode cX11_ways 24 = .ok (.i2l, 1) := by decide +kernel
theorem dX11_ways_25 : decode cX11_ways 25 = .ok (.goto 16, 3) := by decide +kernel
