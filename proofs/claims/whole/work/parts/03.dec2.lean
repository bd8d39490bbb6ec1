theorem dX6_find_45 : decode cX6_find 45 = .ok (.iload_n 3, 1) := by decide +kernel
theorem dX6_find_46 : decode cX6_find 46 = .ok (.iload 4, 2) := by decide +kernel
theorem dX6_find_48 : decode cX6_find 48 = .ok (.iadd, 1) := by decide +kernel
theorem dX6_find_49 : decode cX6_find 49 = .ok (.istore_n 3, 1) := by decide +kernel
theorem dX6_find_50 : decode cX6_find 50 = .ok (.iload 4, 2) := by decide +kernel
theorem dX6_find_52 : decode cX6_find 52 = .ok (.iconst 1, 1) := by decide +kernel
theorem dX6_find_53 : decode cX6_find 53 = .ok (.ishr, 1) := by decide +kernel
theorem dX6_find_54 : decode cX6_find 54 = .ok (.istore 4, 2) := by decide +kernel
theorem dX6_find_56 : decode cX6_find 56 = .ok (.goto (-49), 3) := by decide +kernel
theorem dX6_find_59 : decode cX6_find 59 = .ok (.iload_n 3, 1) := by decide +kernel
theorem dX6_find_60 : decode cX6_find 60 = .ok (.ireturn, 1) := by decide +kernel
theorem dX6_splitIntoClasses_0 : decode cX6_splitIntoClasses 0 = .ok (.aload_n 0, 1) := by decide +kernel
theorem dX6_splitIntoClasses_1 : decode cX6_splitIntoClasses 1 = .ok (.getfield 24, 3) := by decide +kernel
theorem dX6_splitIntoClasses_4 : decode cX6_splitIntoClasses 4 = .ok (.iconst (-1), 1) := by decide +kernel
theorem dX6_splitIntoClasses_5 : decode cX6_splitIntoClasses 5 = .ok (.invokestatic 117, 3) := by decide +kernel
theorem dX6_splitIntoClasses_8 : decode cX6_splitIntoClasses 8 = .ok (.aload_n 0, 1) := by decide +kernel
theorem dX6_splitIntoClasses_9 : decode cX6_splitIntoClasses 9 = .ok (.iconst 0, 1) := by decide +kernel
theorem dX6_splitIntoClasses_10 : decode cX6_splitIntoClasses 10 = .ok (.putfield 121, 3) := by decide +kernel
theorem dX6_splitIntoClasses_13 : decode cX6_splitIntoClasses 13 = .ok (.iconst 0, 1) := by decide +kernel
theorem dX6_splitIntoClasses_14 : decode cX6_splitIntoClasses 14 = .ok (.istore_n 1, 1) := by decide +kernel
theorem dX6_splitIntoClasses_15 : decode cX6_splitIntoClasses 15 = .ok (.iload_n 1, 1) := by decide +kernel
theorem dX6_splitIntoClasses_16 : decode cX6_splitIntoClasses 16 = .ok (.aload_n 0, 1) := by decide +kernel
theorem dX6_splitIntoClasses_17 : decode cX6_splitIntoClasses 17 = .ok (.getfield 75, 3) := by decide +kernel
theorem dX6_splitIntoClasses_20 : decode cX6_splitIntoClasses 20 = .ok (.if_icmp .ge 50, 3) := by decide +kernel
theorem dX6_splitIntoClasses_23 : decode cX6_splitIntoClasses 23 = .ok (.aload_n 0, 1) := by decide +kernel
theorem dX6_splitIntoClasses_24 : decode cX6_splitIntoClasses 24 = .ok (.getfield 24, 3) := by decide +kernel
theorem dX6_splitIntoClasses_27 : decode cX6_splitIntoClasses 27 = .ok (.iload_n 1, 1) := by decide +kernel
theorem dX6_splitIntoClasses_28 : decode cX6_splitIntoClasses 28 = .ok (.iaload, 1) := by decide +kernel
theorem dX6_splitIntoClasses_29 : decode cX6_splitIntoClasses 29 = .ok (.iconst (-1), 1) := by decide +kernel
theorem dX6_splitIntoClasses_30 : decode cX6_splitIntoClasses 30 = .ok (.if_icmp .ne 34, 3) := by decide +kernel
theorem dX6_splitIntoClasses_33 : decode cX6_splitIntoClasses 33 = .ok (.aload_n 0, 1) := by decide +kernel
theorem dX6_splitIntoClasses_34 : decode cX6_splitIntoClasses 34 = .ok (.dup, 1) := by decide +kernel
theorem dX6_splitIntoClasses_35 : decode cX6_splitIntoClasses 35 = .ok (.getfield 121, 3) := by decide +kernel
theorem dX6_splitIntoClasses_38 : decode cX6_splitIntoClasses 38 = .ok (.iconst 1, 1) := by decide +kernel
theorem dX6_splitIntoClasses_39 : decode cX6_splitIntoClasses 39 = .ok (.iadd, 1) := by decide +kernel
theorem dX6_splitIntoClasses_40 : decode cX6_splitIntoClasses 40 = .ok (.putfield 121, 3) := by decide +kernel
theorem dX6_splitIntoClasses_43 : decode cX6_splitIntoClasses 43 = .ok (.aload_n 0, 1) := by decide +kernel
theorem dX6_splitIntoClasses_44 : decode cX6_splitIntoClasses 44 = .ok (.aload_n 0, 1) := by decide +kernel
theorem dX6_splitIntoClasses_45 : decode cX6_splitIntoClasses 45 = .ok (.getfield 24, 3) := by decide +kernel
theorem dX6_splitIntoClasses_48 : decode cX6_splitIntoClasses 48 = .ok (.iload_n 1, 1) := by decide +kernel
theorem dX6_splitIntoClasses_49 : decode cX6_splitIntoClasses 49 = .ok (.iload_n 1, 1) := by decide +kernel
theorem dX6_splitIntoClasses_50 : decode cX6_splitIntoClasses 50 = .ok (.iconst 0, 1) := by decide +kernel
theorem dX6_splitIntoClasses_51 : decode cX6_splitIntoClasses 51 = .ok (.invokevirtual 124, 3) := by decide +kernel
theorem dX6_splitIntoClasses_54 : decode cX6_splitIntoClasses 54 = .ok (.aload_n 0, 1) := by decide +kernel
theorem dX6_splitIntoClasses_55 : decode cX6_splitIntoClasses 55 = .ok (.getfield 27, 3) := by decide +kernel
theorem dX6_splitIntoClasses_58 : decode cX6_splitIntoClasses 58 = .ok (.iload_n 1, 1) := by decide +kernel
theorem dX6_splitIntoClasses_59 : decode cX6_splitIntoClasses 59 = .ok (.aload_n 0, 1) := by decide +kernel
theorem dX6_splitIntoClasses_60 : decode cX6_splitIntoClasses 60 = .ok (.getfield 128, 3) := by decide +kernel
theorem dX6_splitIntoClasses_63 : decode cX6_splitIntoClasses 63 = .ok (.iastore, 1) := by decide +kernel
theorem dX6_splitIntoClasses_64 : decode cX6_splitIntoClasses 64 = .ok (.iinc 1 1, 3) := by decide +kernel
theorem dX6_splitIntoClasses_67 : decode cX6_splitIntoClasses 67 = .ok (.goto (-52), 3) := by decide +kernel
theorem dX6_splitIntoClasses_70 : decode cX6_splitIntoClasses 70 = .ok (.return_, 1) := by decide +kernel
theorem dX6_spread_0 : decode cX6_spread 0 = .ok (.aload_n 0, 1) := by decide +kernel
theorem dX6_spread_1 : decode cX6_spread 1 = .ok (.iconst 0, 1) := by decide +kernel
theorem dX6_spread_2 : decode cX6_spread 2 = .ok (.putfield 128, 3) := by decide +kernel
theorem dX6_spread_5 : decode cX6_spread 5 = .ok (.aload_n 0, 1) := by decide +kernel
theorem dX6_spread_6 : decode cX6_spread 6 = .ok (.aload_n 1, 1) := by decide +kernel
theorem dX6_spread_7 : decode cX6_spread 7 = .ok (.iload_n 2, 1) := by decide +kernel
theorem dX6_spread_8 : decode cX6_spread 8 = .ok (.iload_n 3, 1) := by decide +kernel
theorem dX6_spread_9 : decode cX6_spread 9 = .ok (.invokevirtual 131, 3) := by decide +kernel
theorem dX6_spread_12 : decode cX6_spread 12 = .ok (.iconst 0, 1) := by decide +kernel
theorem dX6_spread_13 : decode cX6_spread 13 = .ok (.istore 5, 2) := by decide +kernel
theorem dX6_spread_15 : decode cX6_spread 15 = .ok (.iload 5, 2) := by decide +kernel
theorem dX6_spread_17 : decode cX6_spread 17 = .ok (.aload_n 0, 1) := by decide +kernel
theorem dX6_spread_18 : decode cX6_spread 18 = .ok (.getfield 128, 3) := by decide +kernel
theorem dX6_spread_21 : decode cX6_spread 21 = .ok (.if_icmp .ge 75, 3) := by decide +kernel
theorem dX6_spread_24 : decode cX6_spread 24 = .ok (.iload 5, 2) := by decide +kernel
theorem dX6_spread_26 : decode cX6_spread 26 = .ok (.aload_n 0, 1) := by decide +kernel
theorem dX6_spread_27 : decode cX6_spread 27 = .ok (.getfield 75, 3) := by decide +kernel
theorem dX6_spread_30 : decode cX6_spread 30 = .ok (.if_icmp .ge 66, 3) := by decide +kernel
theorem dX6_spread_33 : decode cX6_spread 33 = .ok (.aload_n 0, 1) := by decide +kernel
theorem dX6_spread_34 : decode cX6_spread 34 = .ok (.getfield 33, 3) := by decide +kernel
theorem dX6_spread_37 : decode cX6_spread 37 = .ok (.iload 5, 2) := by decide +kernel
theorem dX6_spread_39 : decode cX6_spread 39 = .ok (.iaload, 1) := by decide +kernel
theorem dX6_spread_40 : decode cX6_spread 40 = .ok (.istore 6, 2) := by decide +kernel
theorem dX6_spread_42 : decode cX6_spread 42 = .ok (.aload_n 0, 1) := by decide +kernel
theorem dX6_spread_43 : decode cX6_spread 43 = .ok (.getfield 17, 3) := by decide +kernel
theorem dX6_spread_46 : decode cX6_spread 46 = .ok (.iload 6, 2) := by decide +kernel
theorem dX6_spread_48 : decode cX6_spread 48 = .ok (.iaload, 1) := by decide +kernel
theorem dX6_spread_49 : decode cX6_spread 49 = .ok (.istore 7, 2) := by decide +kernel
theorem dX6_spread_51 : decode cX6_spread 51 = .ok (.iload 7, 2) := by decide +kernel
theorem dX6_spread_53 : decode cX6_spread 53 = .ok (.aload_n 0, 1) := by decide +kernel
theorem dX6_spread_54 : decode cX6_spread 54 = .ok (.getfield 17, 3) := by decide +kernel
theorem dX6_spread_57 : decode cX6_spread 57 = .ok (.iload 6, 2) := by decide +kernel
theorem dX6_spread_59 : decode cX6_spread 59 = .ok (.iconst 1, 1) := by decide +kernel
theorem dX6_spread_60 : decode cX6_spread 60 = .ok (.iadd, 1) := by decide +kernel
theorem dX6_spread_61 : decode cX6_spread 61 = .ok (.iaload, 1) := by decide +kernel
theorem dX6_spread_62 : decode cX6_spread 62 = .ok (.if_icmp .ge 28, 3) := by decide +kernel
theorem dX6_spread_65 : decode cX6_spread 65 = .ok (.aload_n 0, 1) := by decide +kernel
theorem dX6_spread_66 : decode cX6_spread 66 = .ok (.aload_n 1, 1) := by decide +kernel
theorem dX6_spread_67 : decode cX6_spread 67 = .ok (.aload_n 0, 1) := by decide +kernel
theorem dX6_spread_68 : decode cX6_spread 68 = .ok (.getfield 21, 3) := by decide +kernel
theorem dX6_spread_71 : decode cX6_spread 71 = .ok (.iload 7, 2) := by decide +kernel
theorem dX6_spread_73 : decode cX6_spread 73 = .ok (.iaload, 1) := by decide +kernel
theorem dX6_spread_74 : decode cX6_spread 74 = .ok (.aload_n 1, 1) := by decide +kernel
theorem dX6_spread_75 : decode cX6_spread 75 = .ok (.iload 6, 2) := by decide +kernel
theorem dX6_spread_77 : decode cX6_spread 77 = .ok (.iaload, 1) := by decide +kernel
theorem dX6_spread_78 : decode cX6_spread 78 = .ok (.iload 4, 2) := by decide +kernel
theorem dX6_spread_80 : decode cX6_spread 80 = .ok (.iadd, 1) := by decide +kernel
theorem dX6_spread_81 : decode cX6_spread 81 = .ok (.invokevirtual 131, 3) := by decide +kernel
theorem dX6_spread_84 : decode cX6_spread 84 = .ok (.iinc 7 1, 3) := by decide +kernel
theorem dX6_spread_87 : decode cX6_spread 87 = .ok (.goto (-36), 3) := by decide +kernel
theorem dX6_spread_90 : decode cX6_spread 90 = .ok (.iinc 5 1, 3) := by decide +kernel
theorem dX6_spread_93 : decode cX6_spread 93 = .ok (.goto (-78), 3) := by decide +kernel
theorem dX6_spread_96 : decode cX6_spread 96 = .ok (.return_, 1) := by decide +kernel
theorem dX6_reach_0 : decode cX6_reach 0 = .ok (.aload_n 1, 1) := by decide +kernel
theorem dX6_reach_1 : decode cX6_reach 1 = .ok (.iload_n 2, 1) := by decide +kernel
theorem dX6_reach_2 : decode cX6_reach 2 = .ok (.iaload, 1) := by decide +kernel
theorem dX6_reach_3 : decode cX6_reach 3 = .ok (.iconst (-1), 1) := by decide +kernel
theorem dX6_reach_4 : decode cX6_reach 4 = .ok (.if_icmp .ne 37, 3) := by decide +kernel
theorem dX6_reach_7 : decode cX6_reach 7 = .ok (.aload_n 0, 1) := by decide +kernel
theorem dX6_reach_8 : decode cX6_reach 8 = .ok (.getfield 128, 3) := by decide +kernel
theorem dX6_reach_11 : decode cX6_reach 11 = .ok (.sipush 1000, 3) := by decide +kernel
theorem dX6_reach_14 : decode cX6_reach 14 = .ok (.if_icmp .ge 27, 3) := by decide +kernel
theorem dX6_reach_17 : decode cX6_reach 17 = .ok (.aload_n 1, 1) := by decide +kernel
theorem dX6_reach_18 : decode cX6_reach 18 = .ok (.iload_n 2, 1) := by decide +kernel
theorem dX6_reach_19 : decode cX6_reach 19 = .ok (.iload_n 3, 1) := by decide +kernel
theorem dX6_reach_20 : decode cX6_reach 20 = .ok (.iastore, 1) := by decide +kernel
theorem dX6_reach_21 : decode cX6_reach 21 = .ok (.aload_n 0, 1) := by decide +kernel
theorem dX6_reach_22 : decode cX6_reach 22 = .ok (.getfield 33, 3) := by decide +kernel
theorem dX6_reach_25 : decode cX6_reach 25 = .ok (.aload_n 0, 1) := by decide +kernel
theorem dX6_reach_26 : decode cX6_reach 26 = .ok (.getfield 128, 3) := by decide +kernel
theorem dX6_reach_29 : decode cX6_reach 29 = .ok (.iload_n 2, 1) := by decide +kernel
theorem dX6_reach_30 : decode cX6_reach 30 = .ok (.iastore, 1) := by decide +kernel
theorem dX6_reach_31 : decode cX6_reach 31 = .ok (.aload_n 0, 1) := by decide +kernel
theorem dX6_reach_32 : decode cX6_reach 32 = .ok (.dup, 1) := by decide +kernel
theorem dX6_reach_33 : decode cX6_reach 33 = .ok (.getfield 128, 3) := by decide +kernel
theorem dX6_reach_36 : decode cX6_reach 36 = .ok (.iconst 1, 1) := by decide +kernel
theorem dX6_reach_37 : decode cX6_reach 37 = .ok (.iadd, 1) := by decide +kernel
theorem dX6_reach_38 : decode cX6_reach 38 = .ok (.putfield 128, 3) := by decide +kernel
theorem dX6_reach_41 : decode cX6_reach 41 = .ok (.return_, 1) := by decide +kernel
theorem dX6_measureFrom_0 : decode cX6_measureFrom 0 = .ok (.aload_n 0, 1) := by decide +kernel
theorem dX6_measureFrom_1 : decode cX6_measureFrom 1 = .ok (.getfield 54, 3) := by decide +kernel
theorem dX6_measureFrom_4 : decode cX6_measureFrom 4 = .ok (.iload_n 1, 1) := by decide +kernel
theorem dX6_measureFrom_5 : decode cX6_measureFrom 5 = .ok (.if_icmp .eq 27, 3) := by decide +kernel
theorem dX6_measureFrom_8 : decode cX6_measureFrom 8 = .ok (.aload_n 0, 1) := by decide +kernel
theorem dX6_measureFrom_9 : decode cX6_measureFrom 9 = .ok (.getfield 30, 3) := by decide +kernel
theorem dX6_measureFrom_12 : decode cX6_measureFrom 12 = .ok (.iconst (-1), 1) := by decide +kernel
theorem dX6_measureFrom_13 : decode cX6_measureFrom 13 = .ok (.invokestatic 117, 3) := by decide +kernel
theorem dX6_measureFrom_16 : decode cX6_measureFrom 16 = .ok (.aload_n 0, 1) := by decide +kernel
theorem dX6_measureFrom_17 : decode cX6_measureFrom 17 = .ok (.aload_n 0, 1) := by decide +kernel
theorem dX6_measureFrom_18 : decode cX6_measureFrom 18 = .ok (.getfield 30, 3) := by decide +kernel
theorem dX6_measureFrom_21 : decode cX6_measureFrom 21 = .ok (.iload_n 1, 1) := by decide +kernel
theorem dX6_measureFrom_22 : decode cX6_measureFrom 22 = .ok (.iconst 0, 1) := by decide +kernel
theorem dX6_measureFrom_23 : decode cX6_measureFrom 23 = .ok (.iconst 1, 1) := by decide +kernel
theorem dX6_measureFrom_24 : decode cX6_measureFrom 24 = .ok (.invokevirtual 124, 3) := by decide +kernel
theorem dX6_measureFrom_27 : decode cX6_measureFrom 27 = .ok (.aload_n 0, 1) := by decide +kernel
theorem dX6_measureFrom_28 : decode cX6_measureFrom 28 = .ok (.iload_n 1, 1) := by decide +kernel
theorem dX6_measureFrom_29 : decode cX6_measureFrom 29 = .ok (.putfield 54, 3) := by decide +kernel
theorem dX6_measureFrom_32 : decode cX6_measureFrom 32 = .ok (.return_, 1) := by decide +kernel
theorem dX6_classTotal_0 : decode cX6_classTotal 0 = .ok (.aload_n 0, 1) := by decide +kernel
theorem dX6_classTotal_1 : decode cX6_classTotal 1 = .ok (.getfield 121, 3) := by decide +kernel
theorem dX6_classTotal_4 : decode cX6_classTotal 4 = .ok (.ireturn, 1) := by decide +kernel
theorem dX6_headOf_0 : decode cX6_headOf 0 = .ok (.iload_n 1, 1) := by decide +kernel
theorem dX6_headOf_1 : decode cX6_headOf 1 = .ok (.ifCond .lt 20, 3) := by decide +kernel
theorem dX6_headOf_4 : decode cX6_headOf 4 = .ok (.iload_n 1, 1) := by decide +kernel
theorem dX6_headOf_5 : decode cX6_headOf 5 = .ok (.aload_n 0, 1) := by decide +kernel
theorem dX6_headOf_6 : decode cX6_headOf 6 = .ok (.getfield 75, 3) := by decide +kernel
theorem dX6_headOf_9 : decode cX6_headOf 9 = .ok (.if_icmp .ge 12, 3) := by decide +kernel
theorem dX6_headOf_12 : decode cX6_headOf 12 = .ok (.aload_n 0, 1) := by decide +kernel
theorem dX6_headOf_13 : decode cX6_headOf 13 = .ok (.getfield 24, 3) := by decide +kernel
theorem dX6_headOf_16 : decode cX6_headOf 16 = .ok (.iload_n 1, 1) := by decide +kernel
theorem dX6_headOf_17 : decode cX6_headOf 17 = .ok (.iaload, 1) := by decide +kernel
theorem dX6_headOf_18 : decode cX6_headOf 18 = .ok (.goto 5, 3) := by decide +kernel
theorem dX6_headOf_21 : decode cX6_headOf 21 = .ok (.bipush (-2), 2) := by decide +kernel
theorem dX6_headOf_23 : decode cX6_headOf 23 = .ok (.ireturn, 1) := by decide +kernel
theorem dX6_classSize_0 : decode cX6_classSize 0 = .ok (.aload_n 0, 1) := by decide +kernel
theorem dX6_classSize_1 : decode cX6_classSize 1 = .ok (.iload_n 1, 1) := by decide +kernel
theorem dX6_classSize_2 : decode cX6_classSize 2 = .ok (.invokevirtual 135, 3) := by decide +kernel
theorem dX6_classSize_5 : decode cX6_classSize 5 = .ok (.istore_n 2, 1) := by decide +kernel
theorem dX6_classSize_6 : decode cX6_classSize 6 = .ok (.iload_n 2, 1) := by decide +kernel
theorem dX6_classSize_7 : decode cX6_classSize 7 = .ok (.ifCond .lt 20, 3) := by decide +kernel
theorem dX6_classSize_10 : decode cX6_classSize 10 = .ok (.iload_n 2, 1) := by decide +kernel
theorem dX6_classSize_11 : decode cX6_classSize 11 = .ok (.aload_n 0, 1) := by decide +kernel
theorem dX6_classSize_12 : decode cX6_classSize 12 = .ok (.getfield 75, 3) := by decide +kernel
theorem dX6_classSize_15 : decode cX6_classSize 15 = .ok (.if_icmp .ge 12, 3) := by decide +kernel
theorem dX6_classSize_18 : decode cX6_classSize 18 = .ok (.aload_n 0, 1) := by decide +kernel
theorem dX6_classSize_19 : decode cX6_classSize 19 = .ok (.getfield 27, 3) := by decide +kernel
theorem dX6_classSize_22 : decode cX6_classSize 22 = .ok (.iload_n 2, 1) := by decide +kernel
theorem dX6_classSize_23 : decode cX6_classSize 23 = .ok (.iaload, 1) := by decide +kernel
theorem dX6_classSize_24 : decode cX6_classSize 24 = .ok (.goto 5, 3) := by decide +kernel
theorem dX6_classSize_27 : decode cX6_classSize 27 = .ok (.bipush (-2), 2) := by decide +kernel
theorem dX6_classSize_29 : decode cX6_classSize 29 = .ok (.ireturn, 1) := by decide +kernel
theorem dX6_joinedTotal_0 : decode cX6_joinedTotal 0 = .ok (.aload_n 0, 1) := by decide +kernel
theorem dX6_joinedTotal_1 : decode cX6_joinedTotal 1 = .ok (.getfield 58, 3) := by decide +kernel
theorem dX6_joinedTotal_4 : decode cX6_joinedTotal 4 = .ok (.iconst (-1), 1) := by decide +kernel
theorem dX6_joinedTotal_5 : decode cX6_joinedTotal 5 = .ok (.if_icmp .ne 26, 3) := by decide +kernel
theorem dX6_joinedTotal_8 : decode cX6_joinedTotal 8 = .ok (.aload_n 0, 1) := by decide +kernel
theorem dX6_joinedTotal_9 : decode cX6_joinedTotal 9 = .ok (.aload_n 0, 1) := by decide +kernel
theorem dX6_joinedTotal_10 : decode cX6_joinedTotal 10 = .ok (.getfield 121, 3) := by decide +kernel
theorem dX6_joinedTotal_13 : decode cX6_joinedTotal 13 = .ok (.iconst 1, 1) := by decide +kernel
theorem dX6_joinedTotal_14 : decode cX6_joinedTotal 14 = .ok (.if_icmp .le 10, 3) := by decide +kernel
theorem dX6_joinedTotal_17 : decode cX6_joinedTotal 17 = .ok (.aload_n 0, 1) := by decide +kernel
theorem dX6_joinedTotal_18 : decode cX6_joinedTotal 18 = .ok (.invokevirtual 139, 3) := by decide +kernel
theorem dX6_joinedTotal_21 : decode cX6_joinedTotal 21 = .ok (.goto 7, 3) := by decide +kernel
theorem dX6_joinedTotal_24 : decode cX6_joinedTotal 24 = .ok (.aload_n 0, 1) := by decide +kernel
theorem dX6_joinedTotal_25 : decode cX6_joinedTotal 25 = .ok (.getfield 121, 3) := by decide +kernel
theorem dX6_joinedTotal_28 : decode cX6_joinedTotal 28 = .ok (.putfield 58, 3) := by decide +kernel
theorem dX6_joinedTotal_31 : decode cX6_joinedTotal 31 = .ok (.aload_n 0, 1) := by decide +kernel
theorem dX6_joinedTotal_32 : decode cX6_joinedTotal 32 = .ok (.getfield 58, 3) := by decide +kernel
theorem dX6_joinedTotal_35 : decode cX6_joinedTotal 35 = .ok (.ireturn, 1) := by decide +kernel
theorem dX6_countJoined_0 : decode cX6_countJoined 0 = .ok (.aload_n 0, 1) := by decide +kernel
theorem dX6_countJoined_1 : decode cX6_countJoined 1 = .ok (.iconst (-1), 1) := by decide +kernel
theorem dX6_countJoined_2 : decode cX6_countJoined 2 = .ok (.putfield 54, 3) := by decide +kernel
theorem dX6_countJoined_5 : decode cX6_countJoined 5 = .ok (.aload_n 0, 1) := by decide +kernel
theorem dX6_countJoined_6 : decode cX6_countJoined 6 = .ok (.getfield 30, 3) := by decide +kernel
theorem dX6_countJoined_9 : decode cX6_countJoined 9 = .ok (.iconst (-1), 1) := by decide +kernel
theorem dX6_countJoined_10 : decode cX6_countJoined 10 = .ok (.invokestatic 117, 3) := by decide +kernel
theorem dX6_countJoined_13 : decode cX6_countJoined 13 = .ok (.iconst 0, 1) := by decide +kernel
theorem dX6_countJoined_14 : decode cX6_countJoined 14 = .ok (.istore_n 1, 1) := by decide +kernel
theorem dX6_countJoined_15 : decode cX6_countJoined 15 = .ok (.iconst 0, 1) := by decide +kernel
theorem dX6_countJoined_16 : decode cX6_countJoined 16 = .ok (.istore_n 2, 1) := by decide +kernel
theorem dX6_countJoined_17 : decode cX6_countJoined 17 = .ok (.iload_n 2, 1) := by decide +kernel
theorem dX6_countJoined_18 : decode cX6_countJoined 18 = .ok (.aload_n 0, 1) := by decide +kernel
theorem dX6_countJoined_19 : decode cX6_countJoined 19 = .ok (.getfield 75, 3) := by decide +kernel
theorem dX6_countJoined_22 : decode cX6_countJoined 22 = .ok (.if_icmp .ge 27, 3) := by decide +kernel
theorem dX6_countJoined_25 : decode cX6_countJoined 25 = .ok (.aload_n 0, 1) := by decide +kernel
theorem dX6_countJoined_26 : decode cX6_countJoined 26 = .ok (.getfield 30, 3) := by decide +kernel
theorem dX6_countJoined_29 : decode cX6_countJoined 29 = .ok (.iload_n 2, 1) := by decide +kernel
theorem dX6_countJoined_30 : decode cX6_countJoined 30 = .ok (.iaload, 1) := by decide +kernel
theorem dX6_countJoined_31 : decode cX6_countJoined 31 = .ok (.iconst (-1), 1) := by decide +kernel
theorem dX6_countJoined_32 : decode cX6_countJoined 32 = .ok (.if_icmp .ne 11, 3) := by decide +kernel
theorem dX6_countJoined_35 : decode cX6_countJoined 35 = .ok (.iinc 1 1, 3) := by decide +kernel
theorem dX6_countJoined_38 : decode cX6_countJoined 38 = .ok (.aload_n 0, 1) := by decide +kernel
theorem dX6_countJoined_39 : decode cX6_countJoined 39 = .ok (.iload_n 2, 1) := by decide +kernel
theorem dX6_countJoined_40 : decode cX6_countJoined 40 = .ok (.invokevirtual 143, 3) := by decide +kernel
theorem dX6_countJoined_43 : decode cX6_countJoined 43 = .ok (.iinc 2 1, 3) := by decide +kernel
theorem dX6_countJoined_46 : decode cX6_countJoined 46 = .ok (.goto (-29), 3) := by decide +kernel
theorem dX6_countJoined_49 : decode cX6_countJoined 49 = .ok (.iload_n 1, 1) := by decide +kernel
theorem dX6_countJoined_50 : decode cX6_countJoined 50 = .ok (.ireturn, 1) := by decide +kernel
theorem dX6_spreadByAll_0 : decode cX6_spreadByAll 0 = .ok (.aload_n 0, 1) := by decide +kernel
theorem dX6_spreadByAll_1 : decode cX6_spreadByAll 1 = .ok (.iconst 0, 1) := by decide +kernel
theorem dX6_spreadByAll_2 : decode cX6_spreadByAll 2 = .ok (.putfield 128, 3) := by decide +kernel
theorem dX6_spreadByAll_5 : decode cX6_spreadByAll 5 = .ok (.aload_n 0, 1) := by decide +kernel
theorem dX6_spreadByAll_6 : decode cX6_spreadByAll 6 = .ok (.aload_n 0, 1) := by decide +kernel
theorem dX6_spreadByAll_7 : decode cX6_spreadByAll 7 = .ok (.getfield 30, 3) := by decide +kernel
theorem dX6_spreadByAll_10 : decode cX6_spreadByAll 10 = .ok (.iload_n 1, 1) := by decide +kernel
theorem dX6_spreadByAll_11 : decode cX6_spreadByAll 11 = .ok (.iconst 0, 1) := by decide +kernel
theorem dX6_spreadByAll_12 : decode cX6_spreadByAll 12 = .ok (.invokevirtual 131, 3) := by decide +kernel
theorem dX6_spreadByAll_15 : decode cX6_spreadByAll 15 = .ok (.iconst 0, 1) := by decide +kernel
theorem dX6_spreadByAll_16 : decode cX6_spreadByAll 16 = .ok (.istore_n 2, 1) := by decide +kernel
theorem dX6_spreadByAll_17 : decode cX6_spreadByAll 17 = .ok (.iload_n 2, 1) := by decide +kernel
theorem dX6_spreadByAll_18 : decode cX6_spreadByAll 18 = .ok (.aload_n 0, 1) := by decide +kernel
theorem dX6_spreadByAll_19 : decode cX6_spreadByAll 19 = .ok (.getfield 128, 3) := by decide +kernel
theorem dX6_spreadByAll_22 : decode cX6_spreadByAll 22 = .ok (.if_icmp .ge 93, 3) := by decide +kernel
theorem dX6_spreadByAll_25 : decode cX6_spreadByAll 25 = .ok (.iload_n 2, 1) := by decide +kernel
theorem dX6_spreadByAll_26 : decode cX6_spreadByAll 26 = .ok (.aload_n 0, 1) := by decide +kernel
theorem dX6_spreadByAll_27 : decode cX6_spreadByAll 27 = .ok (.getfield 75, 3) := by decide +kernel
theorem dX6_spreadByAll_30 : decode cX6_spreadByAll 30 = .ok (.if_icmp .ge 85, 3) := by decide +kernel
theorem dX6_spreadByAll_33 : decode cX6_spreadByAll 33 = .ok (.aload_n 0, 1) := by decide +kernel
theorem dX6_spreadByAll_34 : decode cX6_spreadByAll 34 = .ok (.getfield 33, 3) := by decide +kernel
theorem dX6_spreadByAll_37 : decode cX6_spreadByAll 37 = .ok (.iload_n 2, 1) := by decide +kernel
theorem dX6_spreadByAll_38 : decode cX6_spreadByAll 38 = .ok (.iaload, 1) := by decide +kernel
theorem dX6_spreadByAll_39 : decode cX6_spreadByAll 39 = .ok (.istore_n 3, 1) := by decide +kernel
theorem dX6_spreadByAll_40 : decode cX6_spreadByAll 40 = .ok (.iconst 0, 1) := by decide +kernel
theorem dX6_spreadByAll_41 : decode cX6_spreadByAll 41 = .ok (.istore 4, 2) := by decide +kernel
theorem dX6_spreadByAll_43 : decode cX6_spreadByAll 43 = .ok (.iload 4, 2) := by decide +kernel
theorem dX6_spreadByAll_45 : decode cX6_spreadByAll 45 = .ok (.aload_n 0, 1) := by decide +kernel
theorem dX6_spreadByAll_46 : decode cX6_spreadByAll 46 = .ok (.getfield 46, 3) := by decide +kernel
theorem dX6_spreadByAll_49 : decode cX6_spreadByAll 49 = .ok (.getfield 146, 3) := by decide +kernel
theorem dX6_spreadByAll_52 : decode cX6_spreadByAll 52 = .ok (.if_icmp .ge 57, 3) := by decide +kernel
theorem dX6_spreadByAll_55 : decode cX6_spreadByAll 55 = .ok (.aload_n 0, 1) := by decide +kernel
theorem dX6_spreadByAll_56 : decode cX6_spreadByAll 56 = .ok (.getfield 46, 3) := by decide +kernel
theorem dX6_spreadByAll_59 : decode cX6_spreadByAll 59 = .ok (.aload_n 0, 1) := by decide +kernel
theorem dX6_spreadByAll_60 : decode cX6_spreadByAll 60 = .ok (.getfield 11, 3) := by decide +kernel
theorem dX6_spreadByAll_63 : decode cX6_spreadByAll 63 = .ok (.iload_n 3, 1) := by decide +kernel
theorem dX6_spreadByAll_64 : decode cX6_spreadByAll 64 = .ok (.laload, 1) := by decide +kernel
theorem dX6_spreadByAll_65 : decode cX6_spreadByAll 65 = .ok (.iload 4, 2) := by decide +kernel
theorem dX6_spreadByAll_67 : decode cX6_spreadByAll 67 = .ok (.invokevirtual 94, 3) := by decide +kernel
theorem dX6_spreadByAll_70 : decode cX6_spreadByAll 70 = .ok (.ifCond .eq 33, 3) := by decide +kernel
theorem dX6_spreadByAll_73 : decode cX6_spreadByAll 73 = .ok (.aload_n 0, 1) := by decide +kernel
theorem dX6_spreadByAll_74 : decode cX6_spreadByAll 74 = .ok (.aload_n 0, 1) := by decide +kernel
theorem dX6_spreadByAll_75 : decode cX6_spreadByAll 75 = .ok (.getfield 30, 3) := by decide +kernel
theorem dX6_spreadByAll_78 : decode cX6_spreadByAll 78 = .ok (.aload_n 0, 1) := by decide +kernel
theorem dX6_spreadByAll_79 : decode cX6_spreadByAll 79 = .ok (.aload_n 0, 1) := by decide +kernel
theorem dX6_spreadByAll_80 : decode cX6_spreadByAll 80 = .ok (.getfield 11, 3) := by decide +kernel
theorem dX6_spreadByAll_83 : decode cX6_spreadByAll 83 = .ok (.iload_n 3, 1) := by decide +kernel
theorem dX6_spreadByAll_84 : decode cX6_spreadByAll 84 = .ok (.laload, 1) := by decide +kernel
theorem dX6_spreadByAll_85 : decode cX6_spreadByAll 85 = .ok (.aload_n 0, 1) := by decide +kernel
theorem dX6_spreadByAll_86 : decode cX6_spreadByAll 86 = .ok (.getfield 46, 3) := by decide +kernel
theorem dX6_spreadByAll_89 : decode cX6_spreadByAll 89 = .ok (.getfield 108, 3) := by decide +kernel
theorem dX6_spreadByAll_92 : decode cX6_spreadByAll 92 = .ok (.iload 4, 2) := by decide +kernel
theorem dX6_spreadByAll_94 : decode cX6_spreadByAll 94 = .ok (.laload, 1) := by decide +kernel
theorem dX6_spreadByAll_95 : decode cX6_spreadByAll 95 = .ok (.ladd, 1) := by decide +kernel
theorem dX6_spreadByAll_96 : decode cX6_spreadByAll 96 = .ok (.invokevirtual 111, 3) := by decide +kernel
theorem dX6_spreadByAll_99 : decode cX6_spreadByAll 99 = .ok (.iconst 0, 1) := by decide +kernel
theorem dX6_spreadByAll_100 : decode cX6_spreadByAll 100 = .ok (.invokevirtual 131, 3) := by decide +kernel
theorem dX6_spreadByAll_103 : decode cX6_spreadByAll 103 = .ok (.iinc 4 1, 3) := by decide +kernel
theorem dX6_spreadByAll_106 : decode cX6_spreadByAll 106 = .ok (.goto (-63), 3) := by decide +kernel
theorem dX6_spreadByAll_109 : decode cX6_spreadByAll 109 = .ok (.iinc 2 1, 3) := by decide +kernel
theorem dX6_spreadByAll_112 : decode cX6_spreadByAll 112 = .ok (.goto (-95), 3) := by decide +kernel
theorem dX6_spreadByAll_115 : decode cX6_spreadByAll 115 = .ok (.return_, 1) := by decide +kernel
theorem dX6_distance_0 : decode cX6_distance 0 = .ok (.iload_n 1, 1) := by decide +kernel
theorem dX6_distance_1 : decode cX6_distance 1 = .ok (.ifCond .lt 23, 3) := by decide +kernel
theorem dX6_distance_4 : decode cX6_distance 4 = .ok (.iload_n 1, 1) := by decide +kernel
theorem dX6_distance_5 : decode cX6_distance 5 = .ok (.aload_n 0, 1) := by decide +kernel
theorem dX6_distance_6 : decode cX6_distance 6 = .ok (.getfield 75, 3) := by decide +kernel
theorem dX6_distance_9 : decode cX6_distance 9 = .ok (.if_icmp .ge 15, 3) := by decide +kernel
theorem dX6_distance_12 : decode cX6_distance 12 = .ok (.iload_n 2, 1) := by decide +kernel
theorem dX6_distance_13 : decode cX6_distance 13 = .ok (.ifCond .lt 11, 3) := by decide +kernel
theorem dX6_distance_16 : decode cX6_distance 16 = .ok (.iload_n 2, 1) := by decide +kernel
theorem dX6_distance_17 : decode cX6_distance 17 = .ok (.aload_n 0, 1) := by decide +kernel
theorem dX6_distance_18 : decode cX6_distance 18 = .ok (.getfield 75, 3) := by decide +kernel
theorem dX6_distance_21 : decode cX6_distance 21 = .ok (.if_icmp .lt 6, 3) := by decide +kernel
theorem dX6_distance_24 : decode cX6_distance 24 = .ok (.bipush (-2), 2) := by decide +kernel
theorem dX6_distance_26 : decode cX6_distance 26 = .ok (.ireturn, 1) := by decide +kernel
theorem dX6_distance_27 : decode cX6_distance 27 = .ok (.aload_n 0, 1) := by decide +kernel
theorem dX6_distance_28 : decode cX6_distance 28 = .ok (.getfield 54, 3) := by decide +kernel
theorem dX6_distance_31 : decode cX6_distance 31 = .ok (.iload_n 2, 1) := by decide +kernel
theorem dX6_distance_32 : decode cX6_distance 32 = .ok (.if_icmp .ne 10, 3) := by decide +kernel
theorem dX6_distance_35 : decode cX6_distance 35 = .ok (.aload_n 0, 1) := by decide +kernel
theorem dX6_distance_36 : decode cX6_distance 36 = .ok (.getfield 30, 3) := by decide +kernel
theorem dX6_distance_39 : decode cX6_distance 39 = .ok (.iload_n 1, 1) := by decide +kernel
theorem dX6_distance_40 : decode cX6_distance 40 = .ok (.iaload, 1) := by decide +kernel
theorem dX6_distance_41 : decode cX6_distance 41 = .ok (.ireturn, 1) := by decide +kernel
theorem dX6_distance_42 : decode cX6_distance 42 = .ok (.aload_n 0, 1) := by decide +kernel
theorem dX6_distance_43 : decode cX6_distance 43 = .ok (.iload_n 1, 1) := by decide +kernel
theorem dX6_distance_44 : decode cX6_distance 44 = .ok (.invokevirtual 149, 3) := by decide +kernel
theorem dX6_distance_47 : decode cX6_distance 47 = .ok (.aload_n 0, 1) := by decide +kernel
theorem dX6_distance_48 : decode cX6_distance 48 = .ok (.getfield 30, 3) := by decide +kernel
theorem dX6_distance_51 : decode cX6_distance 51 = .ok (.iload_n 2, 1) := by decide +kernel
theorem dX6_distance_52 : decode cX6_distance 52 = .ok (.iaload, 1) := by decide +kernel
theorem dX6_distance_53 : decode cX6_distance 53 = .ok (.ireturn, 1) := by decide +kernel
theorem dX6_greatestDistance_0 : decode cX6_greatestDistance 0 = .ok (.aload_n 0, 1) := by decide +kernel
theorem dX6_greatestDistance_1 : decode cX6_greatestDistance 1 = .ok (.iload_n 1, 1) := by decide +kernel
theorem dX6_greatestDistance_2 : decode cX6_greatestDistance 2 = .ok (.invokevirtual 152, 3) := by decide +kernel
theorem dX6_greatestDistance_5 : decode cX6_greatestDistance 5 = .ok (.istore_n 2, 1) := by decide +kernel
theorem dX6_greatestDistance_6 : decode cX6_greatestDistance 6 = .ok (.iload_n 2, 1) := by decide +kernel
theorem dX6_greatestDistance_7 : decode cX6_greatestDistance 7 = .ok (.ifCond .lt 20, 3) := by decide +kernel
theorem dX6_greatestDistance_10 : decode cX6_greatestDistance 10 = .ok (.iload_n 2, 1) := by decide +kernel
theorem dX6_greatestDistance_11 : decode cX6_greatestDistance 11 = .ok (.aload_n 0, 1) := by decide +kernel
theorem dX6_greatestDistance_12 : decode cX6_greatestDistance 12 = .ok (.getfield 75, 3) := by decide +kernel
theorem dX6_greatestDistance_15 : decode cX6_greatestDistance 15 = .ok (.if_icmp .ge 12, 3) := by decide +kernel
theorem dX6_greatestDistance_18 : decode cX6_greatestDistance 18 = .ok (.aload_n 0, 1) := by decide +kernel
theorem dX6_greatestDistance_19 : decode cX6_greatestDistance 19 = .ok (.getfield 30, 3) := by decide +kernel
theorem dX6_greatestDistance_22 : decode cX6_greatestDistance 22 = .ok (.iload_n 2, 1) := by decide +kernel
theorem dX6_greatestDistance_23 : decode cX6_greatestDistance 23 = .ok (.iaload, 1) := by decide +kernel
theorem dX6_greatestDistance_24 : decode cX6_greatestDistance 24 = .ok (.goto 5, 3) := by decide +kernel
theorem dX6_greatestDistance_27 : decode cX6_greatestDistance 27 = .ok (.bipush (-2), 2) := by decide +kernel
theorem dX6_greatestDistance_29 : decode cX6_greatestDistance 29 = .ok (.ireturn, 1) := by decide +kernel
theorem dX6_firstAtGreatest_0 : decode cX6_firstAtGreatest 0 = .ok (.iload_n 1, 1) := by decide +kernel
theorem dX6_firstAtGreatest_1 : decode cX6_firstAtGreatest 1 = .ok (.ifCond .lt 11, 3) := by decide +kernel
theorem dX6_firstAtGreatest_4 : decode cX6_firstAtGreatest 4 = .ok (.iload_n 1, 1) := by decide +kernel
theorem dX6_firstAtGreatest_5 : decode cX6_firstAtGreatest 5 = .ok (.aload_n 0, 1) := by decide +kernel
theorem dX6_firstAtGreatest_6 : decode cX6_firstAtGreatest 6 = .ok (.getfield 75, 3) := by decide +kernel
theorem dX6_firstAtGreatest_9 : decode cX6_firstAtGreatest 9 = .ok (.if_icmp .lt 6, 3) := by decide +kernel
theorem dX6_firstAtGreatest_12 : decode cX6_firstAtGreatest 12 = .ok (.bipush (-2), 2) := by decide +kernel
theorem dX6_firstAtGreatest_14 : decode cX6_firstAtGreatest 14 = .ok (.ireturn, 1) := by decide +kernel
theorem dX6_firstAtGreatest_15 : decode cX6_firstAtGreatest 15 = .ok (.aload_n 0, 1) := by decide +kernel
theorem dX6_firstAtGreatest_16 : decode cX6_firstAtGreatest 16 = .ok (.iload_n 1, 1) := by decide +kernel
theorem dX6_firstAtGreatest_17 : decode cX6_firstAtGreatest 17 = .ok (.invokevirtual 149, 3) := by decide +kernel
theorem dX6_firstAtGreatest_20 : decode cX6_firstAtGreatest 20 = .ok (.iload_n 1, 1) := by decide +kernel
theorem dX6_firstAtGreatest_21 : decode cX6_firstAtGreatest 21 = .ok (.istore_n 2, 1) := by decide +kernel
theorem dX6_firstAtGreatest_22 : decode cX6_firstAtGreatest 22 = .ok (.iconst 0, 1) := by decide +kernel
theorem dX6_firstAtGreatest_23 : decode cX6_firstAtGreatest 23 = .ok (.istore_n 3, 1) := by decide +kernel
theorem dX6_firstAtGreatest_24 : decode cX6_firstAtGreatest 24 = .ok (.iload_n 3, 1) := by decide +kernel
theorem dX6_firstAtGreatest_25 : decode cX6_firstAtGreatest 25 = .ok (.aload_n 0, 1) := by decide +kernel
theorem dX6_firstAtGreatest_26 : decode cX6_firstAtGreatest 26 = .ok (.getfield 75, 3) := by decide +kernel
theorem dX6_firstAtGreatest_29 : decode cX6_firstAtGreatest 29 = .ok (.if_icmp .ge 26, 3) := by decide +kernel
theorem dX6_firstAtGreatest_32 : decode cX6_firstAtGreatest 32 = .ok (.aload_n 0, 1) := by decide +kernel
theorem dX6_firstAtGreatest_33 : decode cX6_firstAtGreatest 33 = .ok (.getfield 30, 3) := by decide +kernel
theorem dX6_firstAtGreatest_36 : decode cX6_firstAtGreatest 36 = .ok (.iload_n 3, 1) := by decide +kernel
theorem dX6_firstAtGreatest_37 : decode cX6_firstAtGreatest 37 = .ok (.iaload, 1) := by decide +kernel
theorem dX6_firstAtGreatest_38 : decode cX6_firstAtGreatest 38 = .ok (.aload_n 0, 1) := by decide +kernel
theorem dX6_firstAtGreatest_39 : decode cX6_firstAtGreatest 39 = .ok (.getfield 30, 3) := by decide +kernel
theorem dX6_firstAtGreatest_42 : decode cX6_firstAtGreatest 42 = .ok (.iload_n 2, 1) := by decide +kernel
theorem dX6_firstAtGreatest_43 : decode cX6_firstAtGreatest 43 = .ok (.iaload, 1) := by decide +kernel
theorem dX6_firstAtGreatest_44 : decode cX6_firstAtGreatest 44 = .ok (.if_icmp .le 5, 3) := by decide +kernel
theorem dX6_firstAtGreatest_47 : decode cX6_firstAtGreatest 47 = .ok (.iload_n 3, 1) := by decide +kernel
theorem dX6_firstAtGreatest_48 : decode cX6_firstAtGreatest 48 = .ok (.istore_n 2, 1) := by decide +kernel
theorem dX6_firstAtGreatest_49 : decode cX6_firstAtGreatest 49 = .ok (.iinc 3 1, 3) := by decide +kernel
theorem dX6_firstAtGreatest_52 : decode cX6_firstAtGreatest 52 = .ok (.goto (-28), 3) := by decide +kernel
theorem dX6_firstAtGreatest_55 : decode cX6_firstAtGreatest 55 = .ok (.iload_n 2, 1) := by decide +kernel
theorem dX6_firstAtGreatest_56 : decode cX6_firstAtGreatest 56 = .ok (.ireturn, 1) := by decide +kernel
theorem dX6_reached_0 : decode cX6_reached 0 = .ok (.iload_n 1, 1) := by decide +kernel
theorem dX6_reached_1 : decode cX6_reached 1 = .ok (.ifCond .lt 11, 3) := by decide +kernel
theorem dX6_reached_4 : decode cX6_reached 4 = .ok (.iload_n 1, 1) := by decide +kernel
theorem dX6_reached_5 : decode cX6_reached 5 = .ok (.aload_n 0, 1) := by decide +kernel
theorem dX6_reached_6 : decode cX6_reached 6 = .ok (.getfield 75, 3) := by decide +kernel
theorem dX6_reached_9 : decode cX6_reached 9 = .ok (.if_icmp .lt 6, 3) := by decide +kernel
theorem dX6_reached_12 : decode cX6_reached 12 = .ok (.bipush (-2), 2) := by decide +kernel
theorem dX6_reached_14 : decode cX6_reached 14 = .ok (.ireturn, 1) := by decide +kernel
theorem dX6_reached_15 : decode cX6_reached 15 = .ok (.aload_n 0, 1) := by decide +kernel
theorem dX6_reached_16 : decode cX6_reached 16 = .ok (.iload_n 1, 1) := by decide +kernel
theorem dX6_reached_17 : decode cX6_reached 17 = .ok (.invokevirtual 149, 3) := by decide +kernel
theorem dX6_reached_20 : decode cX6_reached 20 = .ok (.iconst 0, 1) := by decide +kernel
theorem dX6_reached_21 : decode cX6_reached 21 = .ok (.istore_n 3, 1) := by decide +kernel
theorem dX6_reached_22 : decode cX6_reached 22 = .ok (.iconst 0, 1) := by decide +kernel
theorem dX6_reached_23 : decode cX6_reached 23 = .ok (.istore 4, 2) := by decide +kernel
theorem dX6_reached_25 : decode cX6_reached 25 = .ok (.iload 4, 2) := by decide +kernel
theorem dX6_reached_27 : decode cX6_reached 27 = .ok (.aload_n 0, 1) := by decide +kernel
theorem dX6_reached_28 : decode cX6_reached 28 = .ok (.getfield 75, 3) := by decide +kernel
theorem dX6_reached_31 : decode cX6_reached 31 = .ok (.if_icmp .ge 34, 3) := by decide +kernel
theorem dX6_reached_34 : decode cX6_reached 34 = .ok (.aload_n 0, 1) := by decide +kernel
theorem dX6_reached_35 : decode cX6_reached 35 = .ok (.getfield 30, 3) := by decide +kernel
theorem dX6_reached_38 : decode cX6_reached 38 = .ok (.iload 4, 2) := by decide +kernel
theorem dX6_reached_40 : decode cX6_reached 40 = .ok (.iaload, 1) := by decide +kernel
theorem dX6_reached_41 : decode cX6_reached 41 = .ok (.iconst (-1), 1) := by decide +kernel
theorem dX6_reached_42 : decode cX6_reached 42 = .ok (.if_icmp .eq 17, 3) := by decide +kernel
theorem dX6_reached_45 : decode cX6_reached 45 = .ok (.aload_n 0, 1) := by decide +kernel
theorem dX6_reached_46 : decode cX6_reached 46 = .ok (.getfield 30, 3) := by decide +kernel
theorem dX6_reached_49 : decode cX6_reached 49 = .ok (.iload 4, 2) := by decide +kernel
theorem dX6_reached_51 : decode cX6_reached 51 = .ok (.iaload, 1) := by decide +kernel
theorem dX6_reached_52 : decode cX6_reached 52 = .ok (.iload_n 2, 1) := by decide +kernel
theorem dX6_reached_53 : decode cX6_reached 53 = .ok (.if_icmp .gt 6, 3) := by decide +kernel
theorem dX6_reached_56 : decode cX6_reached 56 = .ok (.iinc 3 1, 3) := by decide +kernel
theorem dX6_reached_59 : decode cX6_reached 59 = .ok (.iinc 4 1, 3) := by decide +kernel
theorem dX6_reached_62 : decode cX6_reached 62 = .ok (.goto (-37), 3) := by decide +kernel
theorem dX6_reached_65 : decode cX6_reached 65 = .ok (.iload_n 3, 1) := by decide +kernel
theorem dX6_reached_66 : decode cX6_reached 66 = .ok (.ireturn, 1) := by decide +kernel
theorem dX6_choiceRows_0 : decode cX6_choiceRows 0 = .ok (.iload_n 1, 1) := by decide +kernel
theorem dX6_choiceRows_1 : decode cX6_choiceRows 1 = .ok (.ifCond .lt 23, 3) := by decide +kernel
theorem dX6_choiceRows_4 : decode cX6_choiceRows 4 = .ok (.iload_n 1, 1) := by decide +kernel
theorem dX6_choiceRows_5 : decode cX6_choiceRows 5 = .ok (.aload_n 0, 1) := by decide +kernel
theorem dX6_choiceRows_6 : decode cX6_choiceRows 6 = .ok (.getfield 75, 3) := by decide +kernel
theorem dX6_choiceRows_9 : decode cX6_choiceRows 9 = .ok (.if_icmp .ge 15, 3) := by decide +kernel
theorem dX6_choiceRows_12 : decode cX6_choiceRows 12 = .ok (.iload_n 3, 1) := by decide +kernel
theorem dX6_choiceRows_13 : decode cX6_choiceRows 13 = .ok (.ifCond .lt 11, 3) := by decide +kernel
theorem dX6_choiceRows_16 : decode cX6_choiceRows 16 = .ok (.iload_n 3, 1) := by decide +kernel
theorem dX6_choiceRows_17 : decode cX6_choiceRows 17 = .ok (.aload_n 0, 1) := by decide +kernel
theorem dX6_choiceRows_18 : decode cX6_choiceRows 18 = .ok (.getfield 75, 3) := by decide +kernel
theorem dX6_choiceRows_21 : decode cX6_choiceRows 21 = .ok (.if_icmp .lt 7, 3) := by decide +kernel
theorem dX6_choiceRows_24 : decode cX6_choiceRows 24 = .ok (.ldc2_w 155, 3) := by decide +kernel
theorem dX6_choiceRows_27 : decode cX6_choiceRows 27 = .ok (.lreturn, 1) := by decide +kernel
theorem dX6_choiceRows_28 : decode cX6_choiceRows 28 = .ok (.aload_n 0, 1) := by decide +kernel
theorem dX6_choiceRows_29 : decode cX6_choiceRows 29 = .ok (.getfield 36, 3) := by decide +kernel
theorem dX6_choiceRows_32 : decode cX6_choiceRows 32 = .ok (.lconst 0, 1) := by decide +kernel
theorem dX6_choiceRows_33 : decode cX6_choiceRows 33 = .ok (.invokestatic 157, 3) := by decide +kernel
theorem dX6_choiceRows_36 : decode cX6_choiceRows 36 = .ok (.aload_n 0, 1) := by decide +kernel
theorem dX6_choiceRows_37 : decode cX6_choiceRows 37 = .ok (.getfield 36, 3) := by decide +kernel
theorem dX6_choiceRows_40 : decode cX6_choiceRows 40 = .ok (.iload_n 1, 1) := by decide +kernel
theorem dX6_choiceRows_41 : decode cX6_choiceRows 41 = .ok (.lconst 1, 1) := by decide +kernel
theorem dX6_choiceRows_42 : decode cX6_choiceRows 42 = .ok (.lastore, 1) := by decide +kernel
theorem dX6_choiceRows_43 : decode cX6_choiceRows 43 = .ok (.iconst 0, 1) := by decide +kernel
theorem dX6_choiceRows_44 : decode cX6_choiceRows 44 = .ok (.istore 4, 2) := by decide +kernel
theorem dX6_choiceRows_46 : decode cX6_choiceRows 46 = .ok (.iload 4, 2) := by decide +kernel
theorem dX6_choiceRows_48 : decode cX6_choiceRows 48 = .ok (.iload_n 2, 1) := by decide +kernel
theorem dX6_choiceRows_49 : decode cX6_choiceRows 49 = .ok (.if_icmp .ge 148, 3) := by decide +kernel
theorem dX6_choiceRows_52 : decode cX6_choiceRows 52 = .ok (.iconst 0, 1) := by decide +kernel
theorem dX6_choiceRows_53 : decode cX6_choiceRows 53 = .ok (.istore 5, 2) := by decide +kernel
theorem dX6_choiceRows_55 : decode cX6_choiceRows 55 = .ok (.iload 5, 2) := by decide +kernel
theorem dX6_choiceRows_57 : decode cX6_choiceRows 57 = .ok (.aload_n 0, 1) := by decide +kernel
theorem dX6_choiceRows_58 : decode cX6_choiceRows 58 = .ok (.getfield 75, 3) := by decide +kernel
theorem dX6_choiceRows_61 : decode cX6_choiceRows 61 = .ok (.if_icmp .ge 110, 3) := by decide +kernel
theorem dX6_choiceRows_64 : decode cX6_choiceRows 64 = .ok (.aload_n 0, 1) := by decide +kernel
theorem dX6_choiceRows_65 : decode cX6_choiceRows 65 = .ok (.getfield 17, 3) := by decide +kernel
theorem dX6_choiceRows_68 : decode cX6_choiceRows 68 = .ok (.iload 5, 2) := by decide +kernel
theorem dX6_choiceRows_70 : decode cX6_choiceRows 70 = .ok (.iconst 1, 1) := by decide +kernel
theorem dX6_choiceRows_71 : decode cX6_choiceRows 71 = .ok (.iadd, 1) := by decide +kernel
theorem dX6_choiceRows_72 : decode cX6_choiceRows 72 = .ok (.iaload, 1) := by decide +kernel
theorem dX6_choiceRows_73 : decode cX6_choiceRows 73 = .ok (.aload_n 0, 1) := by decide +kernel
theorem dX6_choiceRows_74 : decode cX6_choiceRows 74 = .ok (.getfield 17, 3) := by decide +kernel
theorem dX6_choiceRows_77 : decode cX6_choiceRows 77 = .ok (.iload 5, 2) := by decide +kernel
theorem dX6_choiceRows_79 : decode cX6_choiceRows 79 = .ok (.iaload, 1) := by decide +kernel
theorem dX6_choiceRows_80 : decode cX6_choiceRows 80 = .ok (.isub, 1) := by decide +kernel
theorem dX6_choiceRows_81 : decode cX6_choiceRows 81 = .ok (.istore 6, 2) := by decide +kernel
theorem dX6_choiceRows_83 : decode cX6_choiceRows 83 = .ok (.aload_n 0, 1) := by decide +kernel
theorem dX6_choiceRows_84 : decode cX6_choiceRows 84 = .ok (.getfield 36, 3) := by decide +kernel
theorem dX6_choiceRows_87 : decode cX6_choiceRows 87 = .ok (.iload 5, 2) := by decide +kernel
theorem dX6_choiceRows_89 : decode cX6_choiceRows 89 = .ok (.laload, 1) := by decide +kernel
theorem dX6_choiceRows_90 : decode cX6_choiceRows 90 = .ok (.aload_n 0, 1) := by decide +kernel
theorem dX6_choiceRows_91 : decode cX6_choiceRows 91 = .ok (.getfield 46, 3) := by decide +kernel
theorem dX6_choiceRows_94 : decode cX6_choiceRows 94 = .ok (.getfield 160, 3) := by decide +kernel
theorem dX6_choiceRows_97 : decode cX6_choiceRows 97 = .ok (.iconst 2, 1) := by decide +kernel
theorem dX6_choiceRows_98 : decode cX6_choiceRows 98 = .ok (.iload 6, 2) := by decide +kernel
theorem dX6_choiceRows_100 : decode cX6_choiceRows 100 = .ok (.imul, 1) := by decide +kernel
theorem dX6_choiceRows_101 : decode cX6_choiceRows 101 = .ok (.isub, 1) := by decide +kernel
theorem dX6_choiceRows_102 : decode cX6_choiceRows 102 = .ok (.i2l, 1) := by decide +kernel
theorem dX6_choiceRows_103 : decode cX6_choiceRows 103 = .ok (.lmul, 1) := by decide +kernel
theorem dX6_choiceRows_104 : decode cX6_choiceRows 104 = .ok (.lstore 7, 2) := by decide +kernel
theorem dX6_choiceRows_106 : decode cX6_choiceRows 106 = .ok (.aload_n 0, 1) := by decide +kernel
theorem dX6_choiceRows_107 : decode cX6_choiceRows 107 = .ok (.getfield 17, 3) := by decide +kernel
theorem dX6_choiceRows_110 : decode cX6_choiceRows 110 = .ok (.iload 5, 2) := by decide +kernel
theorem dX6_choiceRows_112 : decode cX6_choiceRows 112 = .ok (.iaload, 1) := by decide +kernel
theorem dX6_choiceRows_113 : decode cX6_choiceRows 113 = .ok (.istore 9, 2) := by decide +kernel
theorem dX6_choiceRows_115 : decode cX6_choiceRows 115 = .ok (.iload 9, 2) := by decide +kernel
theorem dX6_choiceRows_117 : decode cX6_choiceRows 117 = .ok (.aload_n 0, 1) := by decide +kernel
theorem dX6_choiceRows_118 : decode cX6_choiceRows 118 = .ok (.getfield 17, 3) := by decide +kernel
theorem dX6_choiceRows_121 : decode cX6_choiceRows 121 = .ok (.iload 5, 2) := by decide +kernel
theorem dX6_choiceRows_123 : decode cX6_choiceRows 123 = .ok (.iconst 1, 1) := by decide +kernel
theorem dX6_choiceRows_124 : decode cX6_choiceRows 124 = .ok (.iadd, 1) := by decide +kernel
theorem dX6_choiceRows_125 : decode cX6_choiceRows 125 = .ok (.iaload, 1) := by decide +kernel
theorem dX6_choiceRows_126 : decode cX6_choiceRows 126 = .ok (.if_icmp .ge 30, 3) := by decide +kernel
theorem dX6_choiceRows_129 : decode cX6_choiceRows 129 = .ok (.lload 7, 2) := by decide +kernel
theorem dX6_choiceRows_131 : decode cX6_choiceRows 131 = .ok (.ldc2_w 163, 3) := by decide +kernel
theorem dX6_choiceRows_134 : decode cX6_choiceRows 134 = .ok (.aload_n 0, 1) := by decide +kernel
theorem dX6_choiceRows_135 : decode cX6_choiceRows 135 = .ok (.getfield 36, 3) := by decide +kernel
theorem dX6_choiceRows_138 : decode cX6_choiceRows 138 = .ok (.aload_n 0, 1) := by decide +kernel
theorem dX6_choiceRows_139 : decode cX6_choiceRows 139 = .ok (.getfield 21, 3) := by decide +kernel
theorem dX6_choiceRows_142 : decode cX6_choiceRows 142 = .ok (.iload 9, 2) := by decide +kernel
theorem dX6_choiceRows_144 : decode cX6_choiceRows 144 = .ok (.iaload, 1) := by decide +kernel
theorem dX6_choiceRows_145 : decode cX6_choiceRows 145 = .ok (.laload, 1) := by decide +kernel
theorem dX6_choiceRows_146 : decode cX6_choiceRows 146 = .ok (.lmul, 1) := by decide +kernel
theorem dX6_choiceRows_147 : decode cX6_choiceRows 147 = .ok (.ladd, 1) := by decide +kernel
theorem dX6_choiceRows_148 : decode cX6_choiceRows 148 = .ok (.lstore 7, 2) := by decide +kernel
theorem dX6_choiceRows_150 : decode cX6_choiceRows 150 = .ok (.iinc 9 1, 3) := by decide +kernel
theorem dX6_choiceRows_153 : decode cX6_choiceRows 153 = .ok (.goto (-38), 3) := by decide +kernel
theorem dX6_choiceRows_156 : decode cX6_choiceRows 156 = .ok (.aload_n 0, 1) := by decide +kernel
theorem dX6_choiceRows_157 : decode cX6_choiceRows 157 = .ok (.getfield 39, 3) := by decide +kernel
theorem dX6_choiceRows_160 : decode cX6_choiceRows 160 = .ok (.iload 5, 2) := by decide +kernel
theorem dX6_choiceRows_162 : decode cX6_choiceRows 162 = .ok (.lload 7, 2) := by decide +kernel
theorem dX6_choiceRows_164 : decode cX6_choiceRows 164 = .ok (.lastore, 1) := by decide +kernel
theorem dX6_choiceRows_165 : decode cX6_choiceRows 165 = .ok (.iinc 5 1, 3) := by decide +kernel
theorem dX6_choiceRows_168 : decode cX6_choiceRows 168 = .ok (.goto (-113), 3) := by decide +kernel
theorem dX6_choiceRows_171 : decode cX6_choiceRows 171 = .ok (.aload_n 0, 1) := by decide +kernel
theorem dX6_choiceRows_172 : decode cX6_choiceRows 172 = .ok (.getfield 36, 3) := by decide +kernel
theorem dX6_choiceRows_175 : decode cX6_choiceRows 175 = .ok (.astore 5, 2) := by decide +kernel
theorem dX6_choiceRows_177 : decode cX6_choiceRows 177 = .ok (.aload_n 0, 1) := by decide +kernel
theorem dX6_choiceRows_178 : decode cX6_choiceRows 178 = .ok (.aload_n 0, 1) := by decide +kernel
theorem dX6_choiceRows_179 : decode cX6_choiceRows 179 = .ok (.getfield 39, 3) := by decide +kernel
theorem dX6_choiceRows_182 : decode cX6_choiceRows 182 = .ok (.putfield 36, 3) := by decide +kernel
theorem dX6_choiceRows_185 : decode cX6_choiceRows 185 = .ok (.aload_n 0, 1) := by decide +kernel
theorem dX6_choiceRows_186 : decode cX6_choiceRows 186 = .ok (.aload 5, 2) := by decide +kernel
theorem dX6_choiceRows_188 : decode cX6_choiceRows 188 = .ok (.putfield 39, 3) := by decide +kernel
theorem dX6_choiceRows_191 : decode cX6_choiceRows 191 = .ok (.iinc 4 1, 3) := by decide +kernel
theorem dX6_choiceRows_194 : decode cX6_choiceRows 194 = .ok (.goto (-148), 3) := by decide +kernel
theorem dX6_choiceRows_197 : decode cX6_choiceRows 197 = .ok (.aload_n 0, 1) := by decide +kernel
theorem dX6_choiceRows_198 : decode cX6_choiceRows 198 = .ok (.getfield 36, 3) := by decide +kernel
theorem dX6_choiceRows_201 : decode cX6_choiceRows 201 = .ok (.iload_n 3, 1) := by decide +kernel
theorem dX6_choiceRows_202 : decode cX6_choiceRows 202 = .ok (.laload, 1) := by decide +kernel
theorem dX6_choiceRows_203 : decode cX6_choiceRows 203 = .ok (.lreturn, 1) := by decide +kernel
theorem dX7_quotient_0 : decode cX7_quotient 0 = .ok (.lload_n 2, 1) := by decide +kernel
theorem dX7_quotient_1 : decode cX7_quotient 1 = .ok (.lconst 0, 1) := by decide +kernel
theorem dX7_quotient_2 : decode cX7_quotient 2 = .ok (.lcmp, 1) := by decide +kernel
theorem dX7_quotient_3 : decode cX7_quotient 3 = .ok (.ifCond .ne 7, 3) := by decide +kernel
theorem dX7_quotient_6 : decode cX7_quotient 6 = .ok (.lconst 0, 1) := by decide +kernel
theorem dX7_quotient_7 : decode cX7_quotient 7 = .ok (.goto 6, 3) := by decide +kernel
theorem dX7_quotient_10 : decode cX7_quotient 10 = .ok (.lload_n 0, 1) := by decide +kernel
theorem dX7_quotient_11 : decode cX7_quotient 11 = .ok (.lload_n 2, 1) := by decide +kernel
theorem dX7_quotient_12 : decode cX7_quotient 12 = .ok (.ldiv, 1) := by decide +kernel
theorem dX7_quotient_13 : decode cX7_quotient 13 = .ok (.lreturn, 1) := by decide +kernel
theorem dX7_lowest_0 : decode cX7_lowest 0 = .ok (.iload 4, 2) := by decide +kernel
theorem dX7_lowest_2 : decode cX7_lowest 2 = .ok (.ifCond .eq 13, 3) := by decide +kernel
theorem dX7_lowest_5 : decode cX7_lowest 5 = .ok (.iload 4, 2) := by decide +kernel
theorem dX7_lowest_7 : decode cX7_lowest 7 = .ok (.iconst 1, 1) := by decide +kernel
theorem dX7_lowest_8 : decode cX7_lowest 8 = .ok (.if_icmp .eq 7, 3) := by decide +kernel
theorem dX7_lowest_11 : decode cX7_lowest 11 = .ok (.ldc2_w 9, 3) := by decide +kernel
theorem dX7_lowest_14 : decode cX7_lowest 14 = .ok (.lreturn, 1) := by decide +kernel
theorem dX7_lowest_15 : decode cX7_lowest 15 = .ok (.iload 4, 2) := by decide +kernel
theorem dX7_lowest_17 : decode cX7_lowest 17 = .ok (.ifCond .ne 7, 3) := by decide +kernel
theorem dX7_lowest_20 : decode cX7_lowest 20 = .ok (.lload_n 0, 1) := by decide +kernel
theorem dX7_lowest_21 : decode cX7_lowest 21 = .ok (.goto 4, 3) := by decide +kernel
theorem dX7_lowest_24 : decode cX7_lowest 24 = .ok (.lload_n 2, 1) := by decide +kernel
theorem dX7_lowest_25 : decode cX7_lowest 25 = .ok (.lload_n 0, 1) := by decide +kernel
theorem dX7_lowest_26 : decode cX7_lowest 26 = .ok (.lload_n 2, 1) := by decide +kernel
theorem dX7_lowest_27 : decode cX7_lowest 27 = .ok (.invokestatic 11, 3) := by decide +kernel
theorem dX7_lowest_30 : decode cX7_lowest 30 = .ok (.invokestatic 17, 3) := by decide +kernel
theorem dX7_lowest_33 : decode cX7_lowest 33 = .ok (.lreturn, 1) := by decide +kernel
theorem dX7_divisor_0 : decode cX7_divisor 0 = .ok (.lload_n 0, 1) := by decide +kernel
theorem dX7_divisor_1 : decode cX7_divisor 1 = .ok (.lstore 4, 2) := by decide +kernel
theorem dX7_divisor_3 : decode cX7_divisor 3 = .ok (.lload_n 2, 1) := by decide +kernel
theorem dX7_divisor_4 : decode cX7_divisor 4 = .ok (.lstore 6, 2) := by decide +kernel
theorem dX7_divisor_6 : decode cX7_divisor 6 = .ok (.iconst 0, 1) := by decide +kernel
theorem dX7_divisor_7 : decode cX7_divisor 7 = .ok (.istore 8, 2) := by decide +kernel
theorem dX7_divisor_9 : decode cX7_divisor 9 = .ok (.iload 8, 2) := by decide +kernel
theorem dX7_divisor_11 : decode cX7_divisor 11 = .ok (.sipush 200, 3) := by decide +kernel
theorem dX7_divisor_14 : decode cX7_divisor 14 = .ok (.if_icmp .ge 31, 3) := by decide +kernel
theorem dX7_divisor_17 : decode cX7_divisor 17 = .ok (.lload 6, 2) := by decide +kernel
theorem dX7_divisor_19 : decode cX7_divisor 19 = .ok (.lconst 0, 1) := by decide +kernel
theorem dX7_divisor_20 : decode cX7_divisor 20 = .ok (.lcmp, 1) := by decide +kernel
theorem dX7_divisor_21 : decode cX7_divisor 21 = .ok (.ifCond .eq 24, 3) := by decide +kernel
theorem dX7_divisor_24 : decode cX7_divisor 24 = .ok (.lload 4, 2) := by decide +kernel
theorem dX7_divisor_26 : decode cX7_divisor 26 = .ok (.lload 6, 2) := by decide +kernel
theorem dX7_divisor_28 : decode cX7_divisor 28 = .ok (.lrem, 1) := by decide +kernel
theorem dX7_divisor_29 : decode cX7_divisor 29 = .ok (.lstore 9, 2) := by decide +kernel
theorem dX7_divisor_31 : decode cX7_divisor 31 = .ok (.lload 6, 2) := by decide +kernel
theorem dX7_divisor_33 : decode cX7_divisor 33 = .ok (.lstore 4, 2) := by decide +kernel
theorem dX7_divisor_35 : decode cX7_divisor 35 = .ok (.lload 9, 2) := by decide +kernel
theorem dX7_divisor_37 : decode cX7_divisor 37 = .ok (.lstore 6, 2) := by decide +kernel
theorem dX7_divisor_39 : decode cX7_divisor 39 = .ok (.iinc 8 1, 3) := by decide +kernel
theorem dX7_divisor_42 : decode cX7_divisor 42 = .ok (.goto (-33), 3) := by decide +kernel
theorem dX7_divisor_45 : decode cX7_divisor 45 = .ok (.lload 4, 2) := by decide +kernel
theorem dX7_divisor_47 : decode cX7_divisor 47 = .ok (.lreturn, 1) := by decide +kernel
theorem dX7_bitsOfDouble_0 : decode cX7_bitsOfDouble 0 = .ok (.dload_n 0, 1) := by decide +kernel
theorem dX7_bitsOfDouble_1 : decode cX7_bitsOfDouble 1 = .ok (.dconst 0, 1) := by decide +kernel
theorem dX7_bitsOfDouble_2 : decode cX7_bitsOfDouble 2 = .ok (.dcmp .l, 1) := by decide +kernel
theorem dX7_bitsOfDouble_3 : decode cX7_bitsOfDouble 3 = .ok (.ifCond .gt 5, 3) := by decide +kernel
theorem dX7_bitsOfDouble_6 : decode cX7_bitsOfDouble 6 = .ok (.lconst 0, 1) := by decide +kernel
theorem dX7_bitsOfDouble_7 : decode cX7_bitsOfDouble 7 = .ok (.lreturn, 1) := by decide +kernel
theorem dX7_bitsOfDouble_8 : decode cX7_bitsOfDouble 8 = .ok (.dload_n 0, 1) := by decide +kernel
theorem dX7_bitsOfDouble_9 : decode cX7_bitsOfDouble 9 = .ok (.dstore_n 2, 1) := by decide +kernel
theorem dX7_bitsOfDouble_10 : decode cX7_bitsOfDouble 10 = .ok (.ldc2_w 20, 3) := by decide +kernel
theorem dX7_bitsOfDouble_13 : decode cX7_bitsOfDouble 13 = .ok (.lstore 4, 2) := by decide +kernel
theorem dX7_bitsOfDouble_15 : decode cX7_bitsOfDouble 15 = .ok (.iconst 0, 1) := by decide +kernel
theorem dX7_bitsOfDouble_16 : decode cX7_bitsOfDouble 16 = .ok (.istore 6, 2) := by decide +kernel
theorem dX7_bitsOfDouble_18 : decode cX7_bitsOfDouble 18 = .ok (.iload 6, 2) := by decide +kernel
theorem dX7_bitsOfDouble_20 : decode cX7_bitsOfDouble 20 = .ok (.sipush 1100, 3) := by decide +kernel
theorem dX7_bitsOfDouble_23 : decode cX7_bitsOfDouble 23 = .ok (.if_icmp .ge 29, 3) := by decide +kernel
theorem dX7_bitsOfDouble_26 : decode cX7_bitsOfDouble 26 = .ok (.dload_n 2, 1) := by decide +kernel
theorem dX7_bitsOfDouble_27 : decode cX7_bitsOfDouble 27 = .ok (.ldc2_w 22, 3) := by decide +kernel
theorem dX7_bitsOfDouble_30 : decode cX7_bitsOfDouble 30 = .ok (.dcmp .l, 1) := by decide +kernel
theorem dX7_bitsOfDouble_31 : decode cX7_bitsOfDouble 31 = .ok (.ifCond .lt 21, 3) := by decide +kernel
theorem dX7_bitsOfDouble_34 : decode cX7_bitsOfDouble 34 = .ok (.dload_n 2, 1) := by decide +kernel
theorem dX7_bitsOfDouble_35 : decode cX7_bitsOfDouble 35 = .ok (.ldc2_w 22, 3) := by decide +kernel
theorem dX7_bitsOfDouble_38 : decode cX7_bitsOfDouble 38 = .ok (.ddiv, 1) := by decide +kernel
theorem dX7_bitsOfDouble_39 : decode cX7_bitsOfDouble 39 = .ok (.dstore_n 2, 1) := by decide +kernel
theorem dX7_bitsOfDouble_40 : decode cX7_bitsOfDouble 40 = .ok (.lload 4, 2) := by decide +kernel
theorem dX7_bitsOfDouble_42 : decode cX7_bitsOfDouble 42 = .ok (.lconst 1, 1) := by decide +kernel
theorem dX7_bitsOfDouble_43 : decode cX7_bitsOfDouble 43 = .ok (.ladd, 1) := by decide +kernel
theorem dX7_bitsOfDouble_44 : decode cX7_bitsOfDouble 44 = .ok (.lstore 4, 2) := by decide +kernel
theorem dX7_bitsOfDouble_46 : decode cX7_bitsOfDouble 46 = .ok (.iinc 6 1, 3) := by decide +kernel
theorem dX7_bitsOfDouble_49 : decode cX7_bitsOfDouble 49 = .ok (.goto (-31), 3) := by decide +kernel
theorem dX7_bitsOfDouble_52 : decode cX7_bitsOfDouble 52 = .ok (.iconst 0, 1) := by decide +kernel
theorem dX7_bitsOfDouble_53 : decode cX7_bitsOfDouble 53 = .ok (.istore 6, 2) := by decide +kernel
theorem dX7_bitsOfDouble_55 : decode cX7_bitsOfDouble 55 = .ok (.iload 6, 2) := by decide +kernel
theorem dX7_bitsOfDouble_57 : decode cX7_bitsOfDouble 57 = .ok (.sipush 1100, 3) := by decide +kernel
theorem dX7_bitsOfDouble_60 : decode cX7_bitsOfDouble 60 = .ok (.if_icmp .ge 27, 3) := by decide +kernel
theorem dX7_bitsOfDouble_63 : decode cX7_bitsOfDouble 63 = .ok (.dload_n 2, 1) := by decide +kernel
theorem dX7_bitsOfDouble_64 : decode cX7_bitsOfDouble 64 = .ok (.dconst 1, 1) := by decide +kernel
theorem dX7_bitsOfDouble_65 : decode cX7_bitsOfDouble 65 = .ok (.dcmp .g, 1) := by decide +kernel
theorem dX7_bitsOfDouble_66 : decode cX7_bitsOfDouble 66 = .ok (.ifCond .ge 21, 3) := by decide +kernel
theorem dX7_bitsOfDouble_69 : decode cX7_bitsOfDouble 69 = .ok (.dload_n 2, 1) := by decide +kernel
theorem dX7_bitsOfDouble_70 : decode cX7_bitsOfDouble 70 = .ok (.ldc2_w 22, 3) := by decide +kernel
theorem dX7_bitsOfDouble_73 : decode cX7_bitsOfDouble 73 = .ok (.dmul, 1) := by decide +kernel
theorem dX7_bitsOfDouble_74 : decode cX7_bitsOfDouble 74 = .ok (.dstore_n 2, 1) := by decide +kernel
theorem dX7_bitsOfDouble_75 : decode cX7_bitsOfDouble 75 = .ok (.lload 4, 2) := by decide +kernel
theorem dX7_bitsOfDouble_77 : decode cX7_bitsOfDouble 77 = .ok (.lconst 1, 1) := by decide +kernel
theorem dX7_bitsOfDouble_78 : decode cX7_bitsOfDouble 78 = .ok (.lsub, 1) := by decide +kernel
theorem dX7_bitsOfDouble_79 : decode cX7_bitsOfDouble 79 = .ok (.lstore 4, 2) := by decide +kernel
theorem dX7_bitsOfDouble_81 : decode cX7_bitsOfDouble 81 = .ok (.iinc 6 1, 3) := by decide +kernel
theorem dX7_bitsOfDouble_84 : decode cX7_bitsOfDouble 84 = .ok (.goto (-29), 3) := by decide +kernel
theorem dX7_bitsOfDouble_87 : decode cX7_bitsOfDouble 87 = .ok (.lload 4, 2) := by decide +kernel
theorem dX7_bitsOfDouble_89 : decode cX7_bitsOfDouble 89 = .ok (.bipush 52, 2) := by decide +kernel
theorem dX7_bitsOfDouble_91 : decode cX7_bitsOfDouble 91 = .ok (.lshl, 1) := by decide +kernel
theorem dX7_bitsOfDouble_92 : decode cX7_bitsOfDouble 92 = .ok (.dload_n 2, 1) := by decide +kernel
theorem dX7_bitsOfDouble_93 : decode cX7_bitsOfDouble 93 = .ok (.dconst 1, 1) := by decide +kernel
theorem dX7_bitsOfDouble_94 : decode cX7_bitsOfDouble 94 = .ok (.dsub, 1) := by decide +kernel
theorem dX7_bitsOfDouble_95 : decode cX7_bitsOfDouble 95 = .ok (.ldc2_w 24, 3) := by decide +kernel
theorem dX7_bitsOfDouble_98 : decode cX7_bitsOfDouble 98 = .ok (.dmul, 1) := by decide +kernel
theorem dX7_bitsOfDouble_99 : decode cX7_bitsOfDouble 99 = .ok (.d2l, 1) := by decide +kernel
theorem dX7_bitsOfDouble_100 : decode cX7_bitsOfDouble 100 = .ok (.lor, 1) := by decide +kernel
theorem dX7_bitsOfDouble_101 : decode cX7_bitsOfDouble 101 = .ok (.lreturn, 1) := by decide +kernel
theorem dX7_bitsOfFloat_0 : decode cX7_bitsOfFloat 0 = .ok (.fload_n 0, 1) := by decide +kernel
theorem dX7_bitsOfFloat_1 : decode cX7_bitsOfFloat 1 = .ok (.fconst 0, 1) := by decide +kernel
theorem dX7_bitsOfFloat_2 : decode cX7_bitsOfFloat 2 = .ok (.fcmp .g, 1) := by decide +kernel
theorem dX7_bitsOfFloat_3 : decode cX7_bitsOfFloat 3 = .ok (.ifCond .ge 8, 3) := by decide +kernel
theorem dX7_bitsOfFloat_6 : decode cX7_bitsOfFloat 6 = .ok (.fload_n 0, 1) := by decide +kernel
theorem dX7_bitsOfFloat_7 : decode cX7_bitsOfFloat 7 = .ok (.fneg, 1) := by decide +kernel
theorem dX7_bitsOfFloat_8 : decode cX7_bitsOfFloat 8 = .ok (.goto 4, 3) := by decide +kernel
theorem dX7_bitsOfFloat_11 : decode cX7_bitsOfFloat 11 = .ok (.fload_n 0, 1) := by decide +kernel
theorem dX7_bitsOfFloat_12 : decode cX7_bitsOfFloat 12 = .ok (.f2d, 1) := by decide +kernel
theorem dX7_bitsOfFloat_13 : decode cX7_bitsOfFloat 13 = .ok (.invokestatic 26, 3) := by decide +kernel
theorem dX7_bitsOfFloat_16 : decode cX7_bitsOfFloat 16 = .ok (.lstore_n 1, 1) := by decide +kernel
theorem dX7_bitsOfFloat_17 : decode cX7_bitsOfFloat 17 = .ok (.lload_n 1, 1) := by decide +kernel
theorem dX7_bitsOfFloat_18 : decode cX7_bitsOfFloat 18 = .ok (.lconst 0, 1) := by decide +kernel
theorem dX7_bitsOfFloat_19 : decode cX7_bitsOfFloat 19 = .ok (.lcmp, 1) := by decide +kernel
theorem dX7_bitsOfFloat_20 : decode cX7_bitsOfFloat 20 = .ok (.ifCond .ne 5, 3) := by decide +kernel
theorem dX7_bitsOfFloat_23 : decode cX7_bitsOfFloat 23 = .ok (.iconst 0, 1) := by decide +kernel
theorem dX7_bitsOfFloat_24 : decode cX7_bitsOfFloat 24 = .ok (.ireturn, 1) := by decide +kernel
theorem dX7_bitsOfFloat_25 : decode cX7_bitsOfFloat 25 = .ok (.lload_n 1, 1) := by decide +kernel
theorem dX7_bitsOfFloat_26 : decode cX7_bitsOfFloat 26 = .ok (.bipush 29, 2) := by decide +kernel
theorem dX7_bitsOfFloat_28 : decode cX7_bitsOfFloat 28 = .ok (.lushr, 1) := by decide +kernel
theorem dX7_bitsOfFloat_29 : decode cX7_bitsOfFloat 29 = .ok (.ldc2_w 30, 3) := by decide +kernel
theorem dX7_bitsOfFloat_32 : decode cX7_bitsOfFloat 32 = .ok (.lsub, 1) := by decide +kernel
theorem dX7_bitsOfFloat_33 : decode cX7_bitsOfFloat 33 = .ok (.l2i, 1) := by decide +kernel
theorem dX7_bitsOfFloat_34 : decode cX7_bitsOfFloat 34 = .ok (.istore_n 3, 1) := by decide +kernel
theorem dX7_bitsOfFloat_35 : decode cX7_bitsOfFloat 35 = .ok (.fload_n 0, 1) := by decide +kernel
theorem dX7_bitsOfFloat_36 : decode cX7_bitsOfFloat 36 = .ok (.fconst 0, 1) := by decide +kernel
theorem dX7_bitsOfFloat_37 : decode cX7_bitsOfFloat 37 = .ok (.fcmp .g, 1) := by decide +kernel
theorem dX7_bitsOfFloat_38 : decode cX7_bitsOfFloat 38 = .ok (.ifCond .ge 10, 3) := by decide +kernel
theorem dX7_bitsOfFloat_41 : decode cX7_bitsOfFloat 41 = .ok (.iload_n 3, 1) := by decide +kernel
theorem dX7_bitsOfFloat_42 : decode cX7_bitsOfFloat 42 = .ok (.ldc 32, 2) := by decide +kernel
theorem dX7_bitsOfFloat_44 : decode cX7_bitsOfFloat 44 = .ok (.ior, 1) := by decide +kernel
theorem dX7_bitsOfFloat_45 : decode cX7_bitsOfFloat 45 = .ok (.goto 4, 3) := by decide +kernel
theorem dX7_bitsOfFloat_48 : decode cX7_bitsOfFloat 48 = .ok (.iload_n 3, 1) := by decide +kernel
theorem dX7_bitsOfFloat_49 : decode cX7_bitsOfFloat 49 = .ok (.ireturn, 1) := by decide +kernel
theorem dX8_init_0 : decode cX8_init 0 = .ok (.aload_n 0, 1) := by decide +kernel
theorem dX8_init_1 : decode cX8_init 1 = .ok (.invokespecial 3, 3) := by decide +kernel
theorem dX8_init_4 : decode cX8_init 4 = .ok (.aload_n 0, 1) := by decide +kernel
theorem dX8_init_5 : decode cX8_init 5 = .ok (.iconst (-1), 1) := by decide +kernel
theorem dX8_init_6 : decode cX8_init 6 = .ok (.putfield 9, 3) := by decide +kernel
theorem dX8_init_9 : decode cX8_init 9 = .ok (.aload_n 0, 1) := by decide +kernel
theorem dX8_init_10 : decode cX8_init 10 = .ok (.bipush 16, 2) := by decide +kernel
theorem dX8_init_12 : decode cX8_init 12 = .ok (.newarray .int, 2) := by decide +kernel
theorem dX8_init_14 : decode cX8_init 14 = .ok (.putfield 15, 3) := by decide +kernel
theorem dX8_init_17 : decode cX8_init 17 = .ok (.return_, 1) := by decide +kernel
theorem dX8_read_0 : decode cX8_read 0 = .ok (.aload_n 0, 1) := by decide +kernel
theorem dX8_read_1 : decode cX8_read 1 = .ok (.iconst 0, 1) := by decide +kernel
theorem dX8_read_2 : decode cX8_read 2 = .ok (.putfield 19, 3) := by decide +kernel
theorem dX8_read_5 : decode cX8_read 5 = .ok (.aload_n 0, 1) := by decide +kernel
theorem dX8_read_6 : decode cX8_read 6 = .ok (.iconst (-1), 1) := by decide +kernel
theorem dX8_read_7 : decode cX8_read 7 = .ok (.putfield 9, 3) := by decide +kernel
theorem dX8_read_10 : decode cX8_read 10 = .ok (.aload_n 0, 1) := by decide +kernel
theorem dX8_read_11 : decode cX8_read 11 = .ok (.iconst 0, 1) := by decide +kernel
theorem dX8_read_12 : decode cX8_read 12 = .ok (.putfield 22, 3) := by decide +kernel
theorem dX8_read_15 : decode cX8_read 15 = .ok (.aload_n 0, 1) := by decide +kernel
theorem dX8_read_16 : decode cX8_read 16 = .ok (.iconst 0, 1) := by decide +kernel
theorem dX8_read_17 : decode cX8_read 17 = .ok (.putfield 25, 3) := by decide +kernel
theorem dX8_read_20 : decode cX8_read 20 = .ok (.aload_n 0, 1) := by decide +kernel
theorem dX8_read_21 : decode cX8_read 21 = .ok (.iconst 0, 1) := by decide +kernel
theorem dX8_read_22 : decode cX8_read 22 = .ok (.putfield 28, 3) := by decide +kernel
theorem dX8_read_25 : decode cX8_read 25 = .ok (.aload_n 0, 1) := by decide +kernel
theorem dX8_read_26 : decode cX8_read 26 = .ok (.iconst 0, 1) := by decide +kernel
theorem dX8_read_27 : decode cX8_read 27 = .ok (.putfield 31, 3) := by decide +kernel
theorem dX8_read_30 : decode cX8_read 30 = .ok (.aload_n 0, 1) := by decide +kernel
theorem dX8_read_31 : decode cX8_read 31 = .ok (.iconst 0, 1) := by decide +kernel
theorem dX8_read_32 : decode cX8_read 32 = .ok (.putfield 34, 3) := by decide +kernel
theorem dX8_read_35 : decode cX8_read 35 = .ok (.aload_n 0, 1) := by decide +kernel
theorem dX8_read_36 : decode cX8_read 36 = .ok (.iconst 0, 1) := by decide +kernel
theorem dX8_read_37 : decode cX8_read 37 = .ok (.putfield 37, 3) := by decide +kernel
theorem dX8_read_40 : decode cX8_read 40 = .ok (.aload_n 0, 1) := by decide +kernel
theorem dX8_read_41 : decode cX8_read 41 = .ok (.getfield 15, 3) := by decide +kernel
theorem dX8_read_44 : decode cX8_read 44 = .ok (.iconst 0, 1) := by decide +kernel
theorem dX8_read_45 : decode cX8_read 45 = .ok (.invokestatic 40, 3) := by decide +kernel
theorem dX8_read_48 : decode cX8_read 48 = .ok (.aload_n 0, 1) := by decide +kernel
theorem dX8_read_49 : decode cX8_read 49 = .ok (.aload_n 1, 1) := by decide +kernel
theorem dX8_read_50 : decode cX8_read 50 = .ok (.invokevirtual 46, 3) := by decide +kernel
theorem dX8_read_53 : decode cX8_read 53 = .ok (.aload_n 0, 1) := by decide +kernel
theorem dX8_read_54 : decode cX8_read 54 = .ok (.getfield 50, 3) := by decide +kernel
theorem dX8_read_57 : decode cX8_read 57 = .ok (.ifCond .ne 5, 3) := by decide +kernel
theorem dX8_read_60 : decode cX8_read 60 = .ok (.iconst 1, 1) := by decide +kernel
theorem dX8_read_61 : decode cX8_read 61 = .ok (.ireturn, 1) := by decide +kernel
theorem dX8_read_62 : decode cX8_read 62 = .ok (.aload_n 0, 1) := by decide +kernel
theorem dX8_read_63 : decode cX8_read 63 = .ok (.aload_n 1, 1) := by decide +kernel
theorem dX8_read_64 : decode cX8_read 64 = .ok (.invokevirtual 53, 3) := by decide +kernel
theorem dX8_read_67 : decode cX8_read 67 = .ok (.ifCond .ne 5, 3) := by decide +kernel
theorem dX8_read_70 : decode cX8_read 70 = .ok (.iconst 0, 1) := by decide +kernel
theorem dX8_read_71 : decode cX8_read 71 = .ok (.ireturn, 1) := by decide +kernel
theorem dX8_read_72 : decode cX8_read 72 = .ok (.iconst 0, 1) := by decide +kernel
theorem dX8_read_73 : decode cX8_read 73 = .ok (.istore_n 2, 1) := by decide +kernel
theorem dX8_read_74 : decode cX8_read 74 = .ok (.iload_n 2, 1) := by decide +kernel
theorem dX8_read_75 : decode cX8_read 75 = .ok (.aload_n 0, 1) := by decide +kernel
theorem dX8_read_76 : decode cX8_read 76 = .ok (.getfield 22, 3) := by decide +kernel
theorem dX8_read_79 : decode cX8_read 79 = .ok (.if_icmp .ge 20, 3) := by decide +kernel
theorem dX8_read_82 : decode cX8_read 82 = .ok (.aload_n 0, 1) := by decide +kernel
theorem dX8_read_83 : decode cX8_read 83 = .ok (.aload_n 1, 1) := by decide +kernel
theorem dX8_read_84 : decode cX8_read 84 = .ok (.iload_n 2, 1) := by decide +kernel
theorem dX8_read_85 : decode cX8_read 85 = .ok (.invokevirtual 57, 3) := by decide +kernel
theorem dX8_read_88 : decode cX8_read 88 = .ok (.ifCond .ne 5, 3) := by decide +kernel
theorem dX8_read_91 : decode cX8_read 91 = .ok (.iconst 0, 1) := by decide +kernel
theorem dX8_read_92 : decode cX8_read 92 = .ok (.ireturn, 1) := by decide +kernel
theorem dX8_read_93 : decode cX8_read 93 = .ok (.iinc 2 1, 3) := by decide +kernel
theorem dX8_read_96 : decode cX8_read 96 = .ok (.goto (-22), 3) := by decide +kernel
theorem dX8_read_99 : decode cX8_read 99 = .ok (.iconst 0, 1) := by decide +kernel
theorem dX8_read_100 : decode cX8_read 100 = .ok (.istore_n 2, 1) := by decide +kernel
theorem dX8_read_101 : decode cX8_read 101 = .ok (.iload_n 2, 1) := by decide +kernel
theorem dX8_read_102 : decode cX8_read 102 = .ok (.bipush 16, 2) := by decide +kernel
theorem dX8_read_104 : decode cX8_read 104 = .ok (.if_icmp .gt 26, 3) := by decide +kernel
theorem dX8_read_107 : decode cX8_read 107 = .ok (.aload_n 0, 1) := by decide +kernel
theorem dX8_read_108 : decode cX8_read 108 = .ok (.getfield 50, 3) := by decide +kernel
theorem dX8_read_111 : decode cX8_read 111 = .ok (.ifCond .eq 19, 3) := by decide +kernel
theorem dX8_read_114 : decode cX8_read 114 = .ok (.aload_n 0, 1) := by decide +kernel
theorem dX8_read_115 : decode cX8_read 115 = .ok (.aload_n 1, 1) := by decide +kernel
theorem dX8_read_116 : decode cX8_read 116 = .ok (.invokevirtual 61, 3) := by decide +kernel
theorem dX8_read_119 : decode cX8_read 119 = .ok (.ifCond .ne 5, 3) := by decide +kernel
theorem dX8_read_122 : decode cX8_read 122 = .ok (.iconst 0, 1) := by decide +kernel
theorem dX8_read_123 : decode cX8_read 123 = .ok (.ireturn, 1) := by decide +kernel
theorem dX8_read_124 : decode cX8_read 124 = .ok (.iinc 2 1, 3) := by decide +kernel
theorem dX8_read_127 : decode cX8_read 127 = .ok (.goto (-26), 3) := by decide +kernel
theorem dX8_read_130 : decode cX8_read 130 = .ok (.iconst 1, 1) := by decide +kernel
theorem dX8_read_131 : decode cX8_read 131 = .ok (.ireturn, 1) := by decide +kernel
theorem dX8_readSizes_0 : decode cX8_readSizes 0 = .ok (.aload_n 0, 1) := by decide +kernel
theorem dX8_readSizes_1 : decode cX8_readSizes 1 = .ok (.aload_n 1, 1) := by decide +kernel
theorem dX8_readSizes_2 : decode cX8_readSizes 2 = .ok (.ldc 64, 2) := by decide +kernel
theorem dX8_readSizes_4 : decode cX8_readSizes 4 = .ok (.invokevirtual 66, 3) := by decide +kernel
theorem dX8_readSizes_7 : decode cX8_readSizes 7 = .ok (.ifCond .eq 22, 3) := by decide +kernel
theorem dX8_readSizes_10 : decode cX8_readSizes 10 = .ok (.aload_n 0, 1) := by decide +kernel
theorem dX8_readSizes_11 : decode cX8_readSizes 11 = .ok (.aload_n 1, 1) := by decide +kernel
theorem dX8_readSizes_12 : decode cX8_readSizes 12 = .ok (.ldc 70, 2) := by decide +kernel
theorem dX8_readSizes_14 : decode cX8_readSizes 14 = .ok (.invokevirtual 66, 3) := by decide +kernel
theorem dX8_readSizes_17 : decode cX8_readSizes 17 = .ok (.ifCond .eq 12, 3) := by decide +kernel
theorem dX8_readSizes_20 : decode cX8_readSizes 20 = .ok (.aload_n 0, 1) := by decide +kernel
theorem dX8_readSizes_21 : decode cX8_readSizes 21 = .ok (.iconst 2, 1) := by decide +kernel
theorem dX8_readSizes_22 : decode cX8_readSizes 22 = .ok (.iconst 4, 1) := by decide +kernel
theorem dX8_readSizes_23 : decode cX8_readSizes 23 = .ok (.invokevirtual 71, 3) := by decide +kernel
theorem dX8_readSizes_26 : decode cX8_readSizes 26 = .ok (.ifCond .ne 5, 3) := by decide +kernel
theorem dX8_readSizes_29 : decode cX8_readSizes 29 = .ok (.iconst 0, 1) := by decide +kernel
theorem dX8_readSizes_30 : decode cX8_readSizes 30 = .ok (.ireturn, 1) := by decide +kernel
theorem dX8_readSizes_31 : decode cX8_readSizes 31 = .ok (.aload_n 0, 1) := by decide +kernel
theorem dX8_readSizes_32 : decode cX8_readSizes 32 = .ok (.getfield 75, 3) := by decide +kernel
theorem dX8_readSizes_35 : decode cX8_readSizes 35 = .ok (.istore_n 2, 1) := by decide +kernel
theorem dX8_readSizes_36 : decode cX8_readSizes 36 = .ok (.aload_n 0, 1) := by decide +kernel
theorem dX8_readSizes_37 : decode cX8_readSizes 37 = .ok (.aload_n 1, 1) := by decide +kernel
theorem dX8_readSizes_38 : decode cX8_readSizes 38 = .ok (.invokevirtual 46, 3) := by decide +kernel
theorem dX8_readSizes_41 : decode cX8_readSizes 41 = .ok (.aload_n 0, 1) := by decide +kernel
theorem dX8_readSizes_42 : decode cX8_readSizes 42 = .ok (.aload_n 1, 1) := by decide +kernel
theorem dX8_readSizes_43 : decode cX8_readSizes 43 = .ok (.ldc 78, 2) := by decide +kernel
theorem dX8_readSizes_45 : decode cX8_readSizes 45 = .ok (.invokevirtual 66, 3) := by decide +kernel
theorem dX8_readSizes_48 : decode cX8_readSizes 48 = .ok (.ifCond .eq 12, 3) := by decide +kernel
theorem dX8_readSizes_51 : decode cX8_readSizes 51 = .ok (.aload_n 0, 1) := by decide +kernel
theorem dX8_readSizes_52 : decode cX8_readSizes 52 = .ok (.iconst 2, 1) := by decide +kernel
theorem dX8_readSizes_53 : decode cX8_readSizes 53 = .ok (.iconst 4, 1) := by decide +kernel
theorem dX8_readSizes_54 : decode cX8_readSizes 54 = .ok (.invokevirtual 71, 3) := by decide +kernel
theorem dX8_readSizes_57 : decode cX8_readSizes 57 = .ok (.ifCond .ne 5, 3) := by decide +kernel
theorem dX8_readSizes_60 : decode cX8_readSizes 60 = .ok (.iconst 0, 1) := by decide +kernel
theorem dX8_readSizes_61 : decode cX8_readSizes 61 = .ok (.ireturn, 1) := by decide +kernel
theorem dX8_readSizes_62 : decode cX8_readSizes 62 = .ok (.aload_n 0, 1) := by decide +kernel
theorem dX8_readSizes_63 : decode cX8_readSizes 63 = .ok (.getfield 75, 3) := by decide +kernel
theorem dX8_readSizes_66 : decode cX8_readSizes 66 = .ok (.istore_n 3, 1) := by decide +kernel
theorem dX8_readSizes_67 : decode cX8_readSizes 67 = .ok (.aload_n 0, 1) := by decide +kernel
theorem dX8_readSizes_68 : decode cX8_readSizes 68 = .ok (.aload_n 1, 1) := by decide +kernel
theorem dX8_readSizes_69 : decode cX8_readSizes 69 = .ok (.invokevirtual 46, 3) := by decide +kernel
theorem dX8_readSizes_72 : decode cX8_readSizes 72 = .ok (.aload_n 0, 1) := by decide +kernel
theorem dX8_readSizes_73 : decode cX8_readSizes 73 = .ok (.aload_n 1, 1) := by decide +kernel
theorem dX8_readSizes_74 : decode cX8_readSizes 74 = .ok (.invokevirtual 79, 3) := by decide +kernel
theorem dX8_readSizes_77 : decode cX8_readSizes 77 = .ok (.ifCond .ne 5, 3) := by decide +kernel
theorem dX8_readSizes_80 : decode cX8_readSizes 80 = .ok (.iconst 0, 1) := by decide +kernel
theorem dX8_readSizes_81 : decode cX8_readSizes 81 = .ok (.ireturn, 1) := by decide +kernel
theorem dX8_readSizes_82 : decode cX8_readSizes 82 = .ok (.aload_n 0, 1) := by decide +kernel
theorem dX8_readSizes_83 : decode cX8_readSizes 83 = .ok (.iload_n 2, 1) := by decide +kernel
theorem dX8_readSizes_84 : decode cX8_readSizes 84 = .ok (.putfield 22, 3) := by decide +kernel
theorem dX8_readSizes_87 : decode cX8_readSizes 87 = .ok (.aload_n 0, 1) := by decide +kernel
theorem dX8_readSizes_88 : decode cX8_readSizes 88 = .ok (.iload_n 3, 1) := by decide +kernel
theorem dX8_readSizes_89 : decode cX8_readSizes 89 = .ok (.putfield 25, 3) := by decide +kernel
theorem dX8_readSizes_92 : decode cX8_readSizes 92 = .ok (.iconst 1, 1) := by decide +kernel
theorem dX8_readSizes_93 : decode cX8_readSizes 93 = .ok (.ireturn, 1) := by decide +kernel
theorem dX8_readCounts_0 : decode cX8_readCounts 0 = .ok (.aload_n 0, 1) := by decide +kernel
theorem dX8_readCounts_1 : decode cX8_readCounts 1 = .ok (.aload_n 1, 1) := by decide +kernel
theorem dX8_readCounts_2 : decode cX8_readCounts 2 = .ok (.ldc 82, 2) := by decide +kernel
theorem dX8_readCounts_4 : decode cX8_readCounts 4 = .ok (.invokevirtual 66, 3) := by decide +kernel
theorem dX8_readCounts_7 : decode cX8_readCounts 7 = .ok (.ifCond .ne 5, 3) := by decide +kernel
theorem dX8_readCounts_10 : decode cX8_readCounts 10 = .ok (.iconst 0, 1) := by decide +kernel
theorem dX8_readCounts_11 : decode cX8_readCounts 11 = .ok (.ireturn, 1) := by decide +kernel
theorem dX8_readCounts_12 : decode cX8_readCounts 12 = .ok (.iconst 0, 1) := by decide +kernel
theorem dX8_readCounts_13 : decode cX8_readCounts 13 = .ok (.istore_n 3, 1) := by decide +kernel
theorem dX8_readCounts_14 : decode cX8_readCounts 14 = .ok (.iload_n 3, 1) := by decide +kernel
theorem dX8_readCounts_15 : decode cX8_readCounts 15 = .ok (.aload_n 0, 1) := by decide +kernel
theorem dX8_readCounts_16 : decode cX8_readCounts 16 = .ok (.getfield 25, 3) := by decide +kernel
theorem dX8_readCounts_19 : decode cX8_readCounts 19 = .ok (.if_icmp .ge 73, 3) := by decide +kernel
theorem dX8_readCounts_22 : decode cX8_readCounts 22 = .ok (.aload_n 0, 1) := by decide +kernel
theorem dX8_readCounts_23 : decode cX8_readCounts 23 = .ok (.iconst 0, 1) := by decide +kernel
theorem dX8_readCounts_24 : decode cX8_readCounts 24 = .ok (.bipush 9, 2) := by decide +kernel
theorem dX8_readCounts_26 : decode cX8_readCounts 26 = .ok (.invokevirtual 71, 3) := by decide +kernel
theorem dX8_readCounts_29 : decode cX8_readCounts 29 = .ok (.ifCond .ne 5, 3) := by decide +kernel
theorem dX8_readCounts_32 : decode cX8_readCounts 32 = .ok (.iconst 0, 1) := by decide +kernel
theorem dX8_readCounts_33 : decode cX8_readCounts 33 = .ok (.ireturn, 1) := by decide +kernel
theorem dX8_readCounts_34 : decode cX8_readCounts 34 = .ok (.aload_n 0, 1) := by decide +kernel
theorem dX8_readCounts_35 : decode cX8_readCounts 35 = .ok (.getfield 34, 3) := by decide +kernel
theorem dX8_readCounts_38 : decode cX8_readCounts 38 = .ok (.aload_n 0, 1) := by decide +kernel
theorem dX8_readCounts_39 : decode cX8_readCounts 39 = .ok (.getfield 75, 3) := by decide +kernel
theorem dX8_readCounts_42 : decode cX8_readCounts 42 = .ok (.iadd, 1) := by decide +kernel
theorem dX8_readCounts_43 : decode cX8_readCounts 43 = .ok (.bipush 20, 2) := by decide +kernel
theorem dX8_readCounts_45 : decode cX8_readCounts 45 = .ok (.if_icmp .le 9, 3) := by decide +kernel
theorem dX8_readCounts_48 : decode cX8_readCounts 48 = .ok (.aload_n 0, 1) := by decide +kernel
theorem dX8_readCounts_49 : decode cX8_readCounts 49 = .ok (.iconst 2, 1) := by decide +kernel
theorem dX8_readCounts_50 : decode cX8_readCounts 50 = .ok (.invokevirtual 84, 3) := by decide +kernel
theorem dX8_readCounts_53 : decode cX8_readCounts 53 = .ok (.ireturn, 1) := by decide +kernel
theorem dX8_readCounts_54 : decode cX8_readCounts 54 = .ok (.aload_n 0, 1) := by decide +kernel
theorem dX8_readCounts_55 : decode cX8_readCounts 55 = .ok (.dup, 1) := by decide +kernel
theorem dX8_readCounts_56 : decode cX8_readCounts 56 = .ok (.getfield 34, 3) := by decide +kernel
theorem dX8_readCounts_59 : decode cX8_readCounts 59 = .ok (.aload_n 0, 1) := by decide +kernel
theorem dX8_readCounts_60 : decode cX8_readCounts 60 = .ok (.getfield 75, 3) := by decide +kernel
theorem dX8_readCounts_63 : decode cX8_readCounts 63 = .ok (.iadd, 1) := by decide +kernel
theorem dX8_readCounts_64 : decode cX8_readCounts 64 = .ok (.putfield 34, 3) := by decide +kernel
theorem dX8_readCounts_67 : decode cX8_readCounts 67 = .ok (.aload_n 0, 1) := by decide +kernel
theorem dX8_readCounts_68 : decode cX8_readCounts 68 = .ok (.getfield 15, 3) := by decide +kernel
theorem dX8_readCounts_71 : decode cX8_readCounts 71 = .ok (.iconst 4, 1) := by decide +kernel
theorem dX8_readCounts_72 : decode cX8_readCounts 72 = .ok (.iload_n 2, 1) := by decide +kernel
theorem dX8_readCounts_73 : decode cX8_readCounts 73 = .ok (.imul, 1) := by decide +kernel
theorem dX8_readCounts_74 : decode cX8_readCounts 74 = .ok (.iload_n 3, 1) := by decide +kernel
theorem dX8_readCounts_75 : decode cX8_readCounts 75 = .ok (.iadd, 1) := by decide +kernel
theorem dX8_readCounts_76 : decode cX8_readCounts 76 = .ok (.aload_n 0, 1) := by decide +kernel
theorem dX8_readCounts_77 : decode cX8_readCounts 77 = .ok (.getfield 75, 3) := by decide +kernel
theorem dX8_readCounts_80 : decode cX8_readCounts 80 = .ok (.iastore, 1) := by decide +kernel
theorem dX8_readCounts_81 : decode cX8_readCounts 81 = .ok (.aload_n 0, 1) := by decide +kernel
theorem dX8_readCounts_82 : decode cX8_readCounts 82 = .ok (.aload_n 1, 1) := by decide +kernel
theorem dX8_readCounts_83 : decode cX8_readCounts 83 = .ok (.invokevirtual 46, 3) := by decide +kernel
theorem dX8_readCounts_86 : decode cX8_readCounts 86 = .ok (.iinc 3 1, 3) := by decide +kernel
theorem dX8_readCounts_89 : decode cX8_readCounts 89 = .ok (.goto (-75), 3) := by decide +kernel
theorem dX8_readCounts_92 : decode cX8_readCounts 92 = .ok (.aload_n 0, 1) := by decide +kernel
theorem dX8_readCounts_93 : decode cX8_readCounts 93 = .ok (.aload_n 1, 1) := by decide +kernel
theorem dX8_readCounts_94 : decode cX8_readCounts 94 = .ok (.invokevirtual 79, 3) := by decide +kernel
theorem dX8_readCounts_97 : decode cX8_readCounts 97 = .ok (.ireturn, 1) := by decide +kernel
theorem dX8_readHole_0 : decode cX8_readHole 0 = .ok (.aload_n 0, 1) := by decide +kernel
theorem dX8_readHole_1 : decode cX8_readHole 1 = .ok (.aload_n 1, 1) := by decide +kernel
theorem dX8_readHole_2 : decode cX8_readHole 2 = .ok (.ldc 88, 2) := by decide +kernel
theorem dX8_readHole_4 : decode cX8_readHole 4 = .ok (.invokevirtual 66, 3) := by decide +kernel
theorem dX8_readHole_7 : decode cX8_readHole 7 = .ok (.ifCond .eq 17, 3) := by decide +kernel
theorem dX8_readHole_10 : decode cX8_readHole 10 = .ok (.aload_n 0, 1) := by decide +kernel
theorem dX8_readHole_11 : decode cX8_readHole 11 = .ok (.iconst 0, 1) := by decide +kernel
theorem dX8_readHole_12 : decode cX8_readHole 12 = .ok (.aload_n 0, 1) := by decide +kernel
theorem dX8_readHole_13 : decode cX8_readHole 13 = .ok (.getfield 22, 3) := by decide +kernel
theorem dX8_readHole_16 : decode cX8_readHole 16 = .ok (.iconst 1, 1) := by decide +kernel
theorem dX8_readHole_17 : decode cX8_readHole 17 = .ok (.isub, 1) := by decide +kernel
theorem dX8_readHole_18 : decode cX8_readHole 18 = .ok (.invokevirtual 71, 3) := by decide +kernel
theorem dX8_readHole_21 : decode cX8_readHole 21 = .ok (.ifCond .ne 5, 3) := by decide +kernel
theorem dX8_readHole_24 : decode cX8_readHole 24 = .ok (.iconst 0, 1) := by decide +kernel
theorem dX8_readHole_25 : decode cX8_readHole 25 = .ok (.ireturn, 1) := by decide +kernel
theorem dX8_readHole_26 : decode cX8_readHole 26 = .ok (.aload_n 0, 1) := by decide +kernel
theorem dX8_readHole_27 : decode cX8_readHole 27 = .ok (.getfield 75, 3) := by decide +kernel
theorem dX8_readHole_30 : decode cX8_readHole 30 = .ok (.istore_n 2, 1) := by decide +kernel
theorem dX8_readHole_31 : decode cX8_readHole 31 = .ok (.aload_n 0, 1) := by decide +kernel
theorem dX8_readHole_32 : decode cX8_readHole 32 = .ok (.aload_n 1, 1) := by decide +kernel
theorem dX8_readHole_33 : decode cX8_readHole 33 = .ok (.invokevirtual 46, 3) := by decide +kernel
theorem dX8_readHole_36 : decode cX8_readHole 36 = .ok (.aload_n 0, 1) := by decide +kernel
theorem dX8_readHole_37 : decode cX8_readHole 37 = .ok (.iconst 0, 1) := by decide +kernel
theorem dX8_readHole_38 : decode cX8_readHole 38 = .ok (.aload_n 0, 1) := by decide +kernel
theorem dX8_readHole_39 : decode cX8_readHole 39 = .ok (.getfield 25, 3) := by decide +kernel
theorem dX8_readHole_42 : decode cX8_readHole 42 = .ok (.iconst 1, 1) := by decide +kernel
theorem dX8_readHole_43 : decode cX8_readHole 43 = .ok (.isub, 1) := by decide +kernel
theorem dX8_readHole_44 : decode cX8_readHole 44 = .ok (.invokevirtual 71, 3) := by decide +kernel
theorem dX8_readHole_47 : decode cX8_readHole 47 = .ok (.ifCond .ne 5, 3) := by decide +kernel
theorem dX8_readHole_50 : decode cX8_readHole 50 = .ok (.iconst 0, 1) := by decide +kernel
theorem dX8_readHole_51 : decode cX8_readHole 51 = .ok (.ireturn, 1) := by decide +kernel
theorem dX8_readHole_52 : decode cX8_readHole 52 = .ok (.iconst 4, 1) := by decide +kernel
theorem dX8_readHole_53 : decode cX8_readHole 53 = .ok (.iload_n 2, 1) := by decide +kernel
theorem dX8_readHole_54 : decode cX8_readHole 54 = .ok (.imul, 1) := by decide +kernel
theorem dX8_readHole_55 : decode cX8_readHole 55 = .ok (.aload_n 0, 1) := by decide +kernel
theorem dX8_readHole_56 : decode cX8_readHole 56 = .ok (.getfield 75, 3) := by decide +kernel
theorem dX8_readHole_59 : decode cX8_readHole 59 = .ok (.iadd, 1) := by decide +kernel
theorem dX8_readHole_60 : decode cX8_readHole 60 = .ok (.istore_n 3, 1) := by decide +kernel
theorem dX8_readHole_61 : decode cX8_readHole 61 = .ok (.aload_n 0, 1) := by decide +kernel
theorem dX8_readHole_62 : decode cX8_readHole 62 = .ok (.getfield 31, 3) := by decide +kernel
theorem dX8_readHole_65 : decode cX8_readHole 65 = .ok (.iload_n 3, 1) := by decide +kernel
theorem dX8_readHole_66 : decode cX8_readHole 66 = .ok (.ishr, 1) := by decide +kernel
theorem dX8_readHole_67 : decode cX8_readHole 67 = .ok (.iconst 1, 1) := by decide +kernel
theorem dX8_readHole_68 : decode cX8_readHole 68 = .ok (.iand, 1) := by decide +kernel
theorem dX8_readHole_69 : decode cX8_readHole 69 = .ok (.ifCond .ne 18, 3) := by decide +kernel
theorem dX8_readHole_72 : decode cX8_readHole 72 = .ok (.iload_n 3, 1) := by decide +kernel
theorem dX8_readHole_73 : decode cX8_readHole 73 = .ok (.bipush 16, 2) := by decide +kernel
theorem dX8_readHole_75 : decode cX8_readHole 75 = .ok (.if_icmp .ge 12, 3) := by decide +kernel
theorem dX8_readHole_78 : decode cX8_readHole 78 = .ok (.aload_n 0, 1) := by decide +kernel
theorem dX8_readHole_79 : decode cX8_readHole 79 = .ok (.getfield 15, 3) := by decide +kernel
theorem dX8_readHole_82 : decode cX8_readHole 82 = .ok (.iload_n 3, 1) := by decide +kernel
theorem dX8_readHole_83 : decode cX8_readHole 83 = .ok (.iaload, 1) := by decide +kernel
theorem dX8_readHole_84 : decode cX8_readHole 84 = .ok (.ifCond .eq 9, 3) := by decide +kernel
theorem dX8_readHole_87 : decode cX8_readHole 87 = .ok (.aload_n 0, 1) := by decide +kernel
theorem dX8_readHole_88 : decode cX8_readHole 88 = .ok (.iconst 2, 1) := by decide +kernel
theorem dX8_readHole_89 : decode cX8_readHole 89 = .ok (.invokevirtual 84, 3) := by decide +kernel
theorem dX8_readHole_92 : decode cX8_readHole 92 = .ok (.ireturn, 1) := by decide +kernel
theorem dX8_readHole_93 : decode cX8_readHole 93 = .ok (.aload_n 0, 1) := by decide +kernel
theorem dX8_readHole_94 : decode cX8_readHole 94 = .ok (.dup, 1) := by decide +kernel
theorem dX8_readHole_95 : decode cX8_readHole 95 = .ok (.getfield 31, 3) := by decide +kernel
theorem dX8_readHole_98 : decode cX8_readHole 98 = .ok (.iconst 1, 1) := by decide +kernel
theorem dX8_readHole_99 : decode cX8_readHole 99 = .ok (.iload_n 3, 1) := by decide +kernel
theorem dX8_readHole_100 : decode cX8_readHole 100 = .ok (.ishl, 1) := by decide +kernel
theorem dX8_readHole_101 : decode cX8_readHole 101 = .ok (.ior, 1) := by decide +kernel
theorem dX8_readHole_102 : decode cX8_readHole 102 = .ok (.putfield 31, 3) := by decide +kernel
theorem dX8_readHole_105 : decode cX8_readHole 105 = .ok (.aload_n 0, 1) := by decide +kernel
theorem dX8_readHole_106 : decode cX8_readHole 106 = .ok (.aload_n 1, 1) := by decide +kernel
theorem dX8_readHole_107 : decode cX8_readHole 107 = .ok (.invokevirtual 46, 3) := by decide +kernel
theorem dX8_readHole_110 : decode cX8_readHole 110 = .ok (.aload_n 0, 1) := by decide +kernel
theorem dX8_readHole_111 : decode cX8_readHole 111 = .ok (.aload_n 1, 1) := by decide +kernel
theorem dX8_readHole_112 : decode cX8_readHole 112 = .ok (.invokevirtual 79, 3) := by decide +kernel
theorem dX8_readHole_115 : decode cX8_readHole 115 = .ok (.ireturn, 1) := by decide +kernel
theorem dX8_passWord_0 : decode cX8_passWord 0 = .ok (.aload_n 0, 1) := by decide +kernel
theorem dX8_passWord_1 : decode cX8_passWord 1 = .ok (.getfield 50, 3) := by decide +kernel
theorem dX8_passWord_4 : decode cX8_passWord 4 = .ok (.iconst 1, 1) := by decide +kernel
theorem dX8_passWord_5 : decode cX8_passWord 5 = .ok (.if_icmp .ne 12, 3) := by decide +kernel
theorem dX8_passWord_8 : decode cX8_passWord 8 = .ok (.aload_n 0, 1) := by decide +kernel
theorem dX8_passWord_9 : decode cX8_passWord 9 = .ok (.aload_n 1, 1) := by decide +kernel
theorem dX8_passWord_10 : decode cX8_passWord 10 = .ok (.aload_n 2, 1) := by decide +kernel
theorem dX8_passWord_11 : decode cX8_passWord 11 = .ok (.invokevirtual 90, 3) := by decide +kernel
theorem dX8_passWord_14 : decode cX8_passWord 14 = .ok (.ifCond .ne 9, 3) := by decide +kernel
theorem dX8_passWord_17 : decode cX8_passWord 17 = .ok (.aload_n 0, 1) := by decide +kernel
theorem dX8_passWord_18 : decode cX8_passWord 18 = .ok (.iconst 1, 1) := by decide +kernel
theorem dX8_passWord_19 : decode cX8_passWord 19 = .ok (.invokevirtual 84, 3) := by decide +kernel
theorem dX8_passWord_22 : decode cX8_passWord 22 = .ok (.ireturn, 1) := by decide +kernel
theorem dX8_passWord_23 : decode cX8_passWord 23 = .ok (.aload_n 0, 1) := by decide +kernel
theorem dX8_passWord_24 : decode cX8_passWord 24 = .ok (.aload_n 1, 1) := by decide +kernel
theorem dX8_passWord_25 : decode cX8_passWord 25 = .ok (.invokevirtual 46, 3) := by decide +kernel
theorem dX8_passWord_28 : decode cX8_passWord 28 = .ok (.iconst 1, 1) := by decide +kernel
theorem dX8_passWord_29 : decode cX8_passWord 29 = .ok (.ireturn, 1) := by decide +kernel
theorem dX8_passSign_0 : decode cX8_passSign 0 = .ok (.aload_n 0, 1) := by decide +kernel
theorem dX8_passSign_1 : decode cX8_passSign 1 = .ok (.getfield 50, 3) := by decide +kernel
theorem dX8_passSign_4 : decode cX8_passSign 4 = .ok (.iconst 3, 1) := by decide +kernel
theorem dX8_passSign_5 : decode cX8_passSign 5 = .ok (.if_icmp .eq 9, 3) := by decide +kernel
theorem dX8_passSign_8 : decode cX8_passSign 8 = .ok (.aload_n 0, 1) := by decide +kernel
theorem dX8_passSign_9 : decode cX8_passSign 9 = .ok (.iconst 1, 1) := by decide +kernel
theorem dX8_passSign_10 : decode cX8_passSign 10 = .ok (.invokevirtual 84, 3) := by decide +kernel
theorem dX8_passSign_13 : decode cX8_passSign 13 = .ok (.ireturn, 1) := by decide +kernel
theorem dX8_passSign_14 : decode cX8_passSign 14 = .ok (.aload_n 0, 1) := by decide +kernel
theorem dX8_passSign_15 : decode cX8_passSign 15 = .ok (.dup, 1) := by decide +kernel
theorem dX8_passSign_16 : decode cX8_passSign 16 = .ok (.getfield 28, 3) := by decide +kernel
theorem dX8_passSign_19 : decode cX8_passSign 19 = .ok (.iconst 1, 1) := by decide +kernel
theorem dX8_passSign_20 : decode cX8_passSign 20 = .ok (.iadd, 1) := by decide +kernel
theorem dX8_passSign_21 : decode cX8_passSign 21 = .ok (.putfield 28, 3) := by decide +kernel
theorem dX8_passSign_24 : decode cX8_passSign 24 = .ok (.aload_n 0, 1) := by decide +kernel
theorem dX8_passSign_25 : decode cX8_passSign 25 = .ok (.aload_n 1, 1) := by decide +kernel
theorem dX8_passSign_26 : decode cX8_passSign 26 = .ok (.invokevirtual 46, 3) := by decide +kernel
theorem dX8_passSign_29 : decode cX8_passSign 29 = .ok (.iconst 1, 1) := by decide +kernel
theorem dX8_passSign_30 : decode cX8_passSign 30 = .ok (.ireturn, 1) := by decide +kernel
theorem dX8_isNumber_0 : decode cX8_isNumber 0 = .ok (.aload_n 0, 1) := by decide +kernel
theorem dX8_isNumber_1 : decode cX8_isNumber 1 = .ok (.getfield 50, 3) := by decide +kernel
theorem dX8_isNumber_4 : decode cX8_isNumber 4 = .ok (.iconst 2, 1) := by decide +kernel
theorem dX8_isNumber_5 : decode cX8_isNumber 5 = .ok (.if_icmp .eq 9, 3) := by decide +kernel
theorem dX8_isNumber_8 : decode cX8_isNumber 8 = .ok (.aload_n 0, 1) := by decide +kernel
theorem dX8_isNumber_9 : decode cX8_isNumber 9 = .ok (.iconst 1, 1) := by decide +kernel
theorem dX8_isNumber_10 : decode cX8_isNumber 10 = .ok (.invokevirtual 84, 3) := by decide +kernel
theorem dX8_isNumber_13 : decode cX8_isNumber 13 = .ok (.ireturn, 1) := by decide +kernel
theorem dX8_isNumber_14 : decode cX8_isNumber 14 = .ok (.aload_n 0, 1) := by decide +kernel
theorem dX8_isNumber_15 : decode cX8_isNumber 15 = .ok (.getfield 75, 3) := by decide +kernel
theorem dX8_isNumber_18 : decode cX8_isNumber 18 = .ok (.iload_n 1, 1) := by decide +kernel
theorem dX8_isNumber_19 : decode cX8_isNumber 19 = .ok (.if_icmp .lt 11, 3) := by decide +kernel
theorem dX8_isNumber_22 : decode cX8_isNumber 22 = .ok (.aload_n 0, 1) := by decide +kernel
theorem dX8_isNumber_23 : decode cX8_isNumber 23 = .ok (.getfield 75, 3) := by decide +kernel
theorem dX8_isNumber_26 : decode cX8_isNumber 26 = .ok (.iload_n 2, 1) := by decide +kernel
theorem dX8_isNumber_27 : decode cX8_isNumber 27 = .ok (.if_icmp .le 11, 3) := by decide +kernel
theorem dX8_isNumber_30 : decode cX8_isNumber 30 = .ok (.aload_n 0, 1) := by decide +kernel
theorem dX8_isNumber_31 : decode cX8_isNumber 31 = .ok (.iconst 2, 1) := by decide +kernel
theorem dX8_isNumber_32 : decode cX8_isNumber 32 = .ok (.invokevirtual 84, 3) := by decide +kernel
theorem dX8_isNumber_35 : decode cX8_isNumber 35 = .ok (.ifCond .eq 7, 3) := by decide +kernel
theorem dX8_isNumber_38 : decode cX8_isNumber 38 = .ok (.iconst 1, 1) := by decide +kernel
theorem dX8_isNumber_39 : decode cX8_isNumber 39 = .ok (.goto 4, 3) := by decide +kernel
theorem dX8_isNumber_42 : decode cX8_isNumber 42 = .ok (.iconst 0, 1) := by decide +kernel
theorem dX8_isNumber_43 : decode cX8_isNumber 43 = .ok (.ireturn, 1) := by decide +kernel
theorem dX8_isWord_0 : decode cX8_isWord 0 = .ok (.aload_n 0, 1) := by decide +kernel
theorem dX8_isWord_1 : decode cX8_isWord 1 = .ok (.getfield 37, 3) := by decide +kernel
theorem dX8_isWord_4 : decode cX8_isWord 4 = .ok (.aload_n 0, 1) := by decide +kernel
theorem dX8_isWord_5 : decode cX8_isWord 5 = .ok (.getfield 93, 3) := by decide +kernel
theorem dX8_isWord_8 : decode cX8_isWord 8 = .ok (.isub, 1) := by decide +kernel
theorem dX8_isWord_9 : decode cX8_isWord 9 = .ok (.aload_n 2, 1) := by decide +kernel
theorem dX8_isWord_10 : decode cX8_isWord 10 = .ok (.invokevirtual 96, 3) := by decide +kernel
theorem dX8_isWord_13 : decode cX8_isWord 13 = .ok (.if_icmp .eq 5, 3) := by decide +kernel
theorem dX8_isWord_16 : decode cX8_isWord 16 = .ok (.iconst 0, 1) := by decide +kernel
theorem dX8_isWord_17 : decode cX8_isWord 17 = .ok (.ireturn, 1) := by decide +kernel
theorem dX8_isWord_18 : decode cX8_isWord 18 = .ok (.iconst 0, 1) := by decide +kernel
theorem dX8_isWord_19 : decode cX8_isWord 19 = .ok (.istore_n 3, 1) := by decide +kernel
theorem dX8_isWord_20 : decode cX8_isWord 20 = .ok (.iload_n 3, 1) := by decide +kernel
theorem dX8_isWord_21 : decode cX8_isWord 21 = .ok (.aload_n 2, 1) := by decide +kernel
theorem dX8_isWord_22 : decode cX8_isWord 22 = .ok (.invokevirtual 96, 3) := by decide +kernel
theorem dX8_isWord_25 : decode cX8_isWord 25 = .ok (.if_icmp .ge 29, 3) := by decide +kernel
theorem dX8_isWord_28 : decode cX8_isWord 28 = .ok (.aload_n 1, 1) := by decide +kernel
theorem dX8_isWord_29 : decode cX8_isWord 29 = .ok (.aload_n 0, 1) := by decide +kernel
theorem dX8_isWord_30 : decode cX8_isWord 30 = .ok (.getfield 93, 3) := by decide +kernel
theorem dX8_isWord_33 : decode cX8_isWord 33 = .ok (.iload_n 3, 1) := by decide +kernel
theorem dX8_isWord_34 : decode cX8_isWord 34 = .ok (.iadd, 1) := by decide +kernel
theorem dX8_isWord_35 : decode cX8_isWord 35 = .ok (.invokevirtual 102, 3) := by decide +kernel
theorem dX8_isWord_38 : decode cX8_isWord 38 = .ok (.aload_n 2, 1) := by decide +kernel
theorem dX8_isWord_39 : decode cX8_isWord 39 = .ok (.iload_n 3, 1) := by decide +kernel
theorem dX8_isWord_40 : decode cX8_isWord 40 = .ok (.invokevirtual 108, 3) := by decide +kernel
theorem dX8_isWord_43 : decode cX8_isWord 43 = .ok (.if_icmp .eq 5, 3) := by decide +kernel
theorem dX8_isWord_46 : decode cX8_isWord 46 = .ok (.iconst 0, 1) := by decide +kernel
theorem dX8_isWord_47 : decode cX8_isWord 47 = .ok (.ireturn, 1) := by decide +kernel
theorem dX8_isWord_48 : decode cX8_isWord 48 = .ok (.iinc 3 1, 3) := by decide +kernel
theorem dX8_isWord_51 : decode cX8_isWord 51 = .ok (.goto (-31), 3) := by decide +kernel
theorem dX8_isWord_54 : decode cX8_isWord 54 = .ok (.iconst 1, 1) := by decide +kernel
theorem dX8_isWord_55 : decode cX8_isWord 55 = .ok (.ireturn, 1) := by decide +kernel
theorem dX8_fail_0 : decode cX8_fail 0 = .ok (.aload_n 0, 1) := by decide +kernel
theorem dX8_fail_1 : decode cX8_fail 1 = .ok (.iload_n 1, 1) := by decide +kernel
theorem dX8_fail_2 : decode cX8_fail 2 = .ok (.putfield 19, 3) := by decide +kernel
theorem dX8_fail_5 : decode cX8_fail 5 = .ok (.aload_n 0, 1) := by decide +kernel
theorem dX8_fail_6 : decode cX8_fail 6 = .ok (.aload_n 0, 1) := by decide +kernel
theorem dX8_fail_7 : decode cX8_fail 7 = .ok (.getfield 93, 3) := by decide +kernel
theorem dX8_fail_10 : decode cX8_fail 10 = .ok (.putfield 9, 3) := by decide +kernel
theorem dX8_fail_13 : decode cX8_fail 13 = .ok (.iconst 0, 1) := by decide +kernel
theorem dX8_fail_14 : decode cX8_fail 14 = .ok (.ireturn, 1) := by decide +kernel
theorem dX8_advance_0 : decode cX8_advance 0 = .ok (.aload_n 0, 1) := by decide +kernel
theorem dX8_advance_1 : decode cX8_advance 1 = .ok (.aload_n 0, 1) := by decide +kernel
theorem dX8_advance_2 : decode cX8_advance 2 = .ok (.getfield 37, 3) := by decide +kernel
theorem dX8_advance_5 : decode cX8_advance 5 = .ok (.putfield 93, 3) := by decide +kernel
theorem dX8_advance_8 : decode cX8_advance 8 = .ok (.aload_n 0, 1) := by decide +kernel
theorem dX8_advance_9 : decode cX8_advance 9 = .ok (.getfield 93, 3) := by decide +kernel
theorem dX8_advance_12 : decode cX8_advance 12 = .ok (.aload_n 1, 1) := by decide +kernel
theorem dX8_advance_13 : decode cX8_advance 13 = .ok (.getfield 112, 3) := by decide +kernel
theorem dX8_advance_16 : decode cX8_advance 16 = .ok (.if_icmp .ge 30, 3) := by decide +kernel
theorem dX8_advance_19 : decode cX8_advance 19 = .ok (.aload_n 1, 1) := by decide +kernel
theorem dX8_advance_20 : decode cX8_advance 20 = .ok (.aload_n 0, 1) := by decide +kernel
theorem dX8_advance_21 : decode cX8_advance 21 = .ok (.getfield 93, 3) := by decide +kernel
theorem dX8_advance_24 : decode cX8_advance 24 = .ok (.invokevirtual 102, 3) := by decide +kernel
theorem dX8_advance_27 : decode cX8_advance 27 = .ok (.invokestatic 114, 3) := by decide +kernel
theorem dX8_advance_30 : decode cX8_advance 30 = .ok (.ifCond .eq 16, 3) := by decide +kernel
theorem dX8_advance_33 : decode cX8_advance 33 = .ok (.aload_n 0, 1) := by decide +kernel
theorem dX8_advance_34 : decode cX8_advance 34 = .ok (.dup, 1) := by decide +kernel
theorem dX8_advance_35 : decode cX8_advance 35 = .ok (.getfield 93, 3) := by decide +kernel
theorem dX8_advance_38 : decode cX8_advance 38 = .ok (.iconst 1, 1) := by decide +kernel
theorem dX8_advance_39 : decode cX8_advance 39 = .ok (.iadd, 1) := by decide +kernel
theorem dX8_advance_40 : decode cX8_advance 40 = .ok (.putfield 93, 3) := by decide +kernel
theorem dX8_advance_43 : decode cX8_advance 43 = .ok (.goto (-35), 3) := by decide +kernel
theorem dX8_advance_46 : decode cX8_advance 46 = .ok (.aload_n 0, 1) := by decide +kernel
theorem dX8_advance_47 : decode cX8_advance 47 = .ok (.aload_n 0, 1) := by decide +kernel
theorem dX8_advance_48 : decode cX8_advance 48 = .ok (.getfield 93, 3) := by decide +kernel
theorem dX8_advance_51 : decode cX8_advance 51 = .ok (.putfield 37, 3) := by decide +kernel
theorem dX8_advance_54 : decode cX8_advance 54 = .ok (.aload_n 0, 1) := by decide +kernel
theorem dX8_advance_55 : decode cX8_advance 55 = .ok (.aload_n 1, 1) := by decide +kernel
theorem dX8_advance_56 : decode cX8_advance 56 = .ok (.aload_n 0, 1) := by decide +kernel
theorem dX8_advance_57 : decode cX8_advance 57 = .ok (.getfield 93, 3) := by decide +kernel
theorem dX8_advance_60 : decode cX8_advance 60 = .ok (.invokestatic 117, 3) := by decide +kernel
theorem dX8_advance_63 : decode cX8_advance 63 = .ok (.putfield 50, 3) := by decide +kernel
theorem dX8_advance_66 : decode cX8_advance 66 = .ok (.aload_n 0, 1) := by decide +kernel
theorem dX8_advance_67 : decode cX8_advance 67 = .ok (.getfield 50, 3) := by decide +kernel
theorem dX8_advance_70 : decode cX8_advance 70 = .ok (.iconst 1, 1) := by decide +kernel
theorem dX8_advance_71 : decode cX8_advance 71 = .ok (.if_icmp .eq 11, 3) := by decide +kernel
theorem dX8_advance_74 : decode cX8_advance 74 = .ok (.aload_n 0, 1) := by decide +kernel
theorem dX8_advance_75 : decode cX8_advance 75 = .ok (.getfield 50, 3) := by decide +kernel
theorem dX8_advance_78 : decode cX8_advance 78 = .ok (.iconst 2, 1) := by decide +kernel
theorem dX8_advance_79 : decode cX8_advance 79 = .ok (.if_icmp .ne 66, 3) := by decide +kernel
theorem dX8_advance_82 : decode cX8_advance 82 = .ok (.aload_n 0, 1) := by decide +kernel
theorem dX8_advance_83 : decode cX8_advance 83 = .ok (.getfield 37, 3) := by decide +kernel
theorem dX8_advance_86 : decode cX8_advance 86 = .ok (.aload_n 1, 1) := by decide +kernel
theorem dX8_advance_87 : decode cX8_advance 87 = .ok (.getfield 112, 3) := by decide +kernel
theorem dX8_advance_90 : decode cX8_advance 90 = .ok (.if_icmp .ge 31, 3) := by decide +kernel
theorem dX8_advance_93 : decode cX8_advance 93 = .ok (.aload_n 1, 1) := by decide +kernel
theorem dX8_advance_94 : decode cX8_advance 94 = .ok (.aload_n 0, 1) := by decide +kernel
theorem dX8_advance_95 : decode cX8_advance 95 = .ok (.getfield 37, 3) := by decide +kernel
theorem dX8_advance_98 : decode cX8_advance 98 = .ok (.invokestatic 117, 3) := by decide +kernel
theorem dX8_advance_101 : decode cX8_advance 101 = .ok (.aload_n 0, 1) := by decide +kernel
theorem dX8_advance_102 : decode cX8_advance 102 = .ok (.getfield 50, 3) := by decide +kernel
theorem dX8_advance_105 : decode cX8_advance 105 = .ok (.if_icmp .ne 16, 3) := by decide +kernel
theorem dX8_advance_108 : decode cX8_advance 108 = .ok (.aload_n 0, 1) := by decide +kernel
theorem dX8_advance_109 : decode cX8_advance 109 = .ok (.dup, 1) := by decide +kernel
theorem dX8_advance_110 : decode cX8_advance 110 = .ok (.getfield 37, 3) := by decide +kernel
theorem dX8_advance_113 : decode cX8_advance 113 = .ok (.iconst 1, 1) := by decide +kernel
theorem dX8_advance_114 : decode cX8_advance 114 = .ok (.iadd, 1) := by decide +kernel
theorem dX8_advance_115 : decode cX8_advance 115 = .ok (.putfield 37, 3) := by decide +kernel
theorem dX8_advance_118 : decode cX8_advance 118 = .ok (.goto (-36), 3) := by decide +kernel
theorem dX8_advance_121 : decode cX8_advance 121 = .ok (.aload_n 0, 1) := by decide +kernel
theorem dX8_advance_122 : decode cX8_advance 122 = .ok (.aload_n 0, 1) := by decide +kernel
theorem dX8_advance_123 : decode cX8_advance 123 = .ok (.getfield 50, 3) := by decide +kernel
theorem dX8_advance_126 : decode cX8_advance 126 = .ok (.iconst 2, 1) := by decide +kernel
theorem dX8_advance_127 : decode cX8_advance 127 = .ok (.if_icmp .ne 11, 3) := by decide +kernel
theorem dX8_advance_130 : decode cX8_advance 130 = .ok (.aload_n 0, 1) := by decide +kernel
theorem dX8_advance_131 : decode cX8_advance 131 = .ok (.aload_n 1, 1) := by decide +kernel
theorem dX8_advance_132 : decode cX8_advance 132 = .ok (.invokevirtual 121, 3) := by decide +kernel
theorem dX8_advance_135 : decode cX8_advance 135 = .ok (.goto 4, 3) := by decide +kernel
theorem dX8_advance_138 : decode cX8_advance 138 = .ok (.iconst 0, 1) := by decide +kernel
theorem dX8_advance_139 : decode cX8_advance 139 = .ok (.putfield 75, 3) := by decide +kernel
theorem dX8_advance_142 : decode cX8_advance 142 = .ok (.goto 20, 3) := by decide +kernel
theorem dX8_advance_145 : decode cX8_advance 145 = .ok (.aload_n 0, 1) := by decide +kernel
theorem dX8_advance_146 : decode cX8_advance 146 = .ok (.getfield 50, 3) := by decide +kernel
theorem dX8_advance_149 : decode cX8_advance 149 = .ok (.ifCond .eq 13, 3) := by decide +kernel
theorem dX8_advance_152 : decode cX8_advance 152 = .ok (.aload_n 0, 1) := by decide +kernel
theorem dX8_advance_153 : decode cX8_advance 153 = .ok (.dup, 1) := by decide +kernel
theorem dX8_advance_154 : decode cX8_advance 154 = .ok (.getfield 37, 3) := by decide +kernel
theorem dX8_advance_157 : decode cX8_advance 157 = .ok (.iconst 1, 1) := by decide +kernel
theorem dX8_advance_158 : decode cX8_advance 158 = .ok (.iadd, 1) := by decide +kernel
theorem dX8_advance_159 : decode cX8_advance 159 = .ok (.putfield 37, 3) := by decide +kernel
theorem dX8_advance_162 : decode cX8_advance 162 = .ok (.return_, 1) := by decide +kernel
theorem dX8_numberIn_0 : decode cX8_numberIn 0 = .ok (.iconst 0, 1) := by decide +kernel
theorem dX8_numberIn_1 : decode cX8_numberIn 1 = .ok (.istore_n 2, 1) := by decide +kernel
theorem dX8_numberIn_2 : decode cX8_numberIn 2 = .ok (.aload_n 0, 1) := by decide +kernel
theorem dX8_numberIn_3 : decode cX8_numberIn 3 = .ok (.getfield 93, 3) := by decide +kernel
theorem dX8_numberIn_6 : decode cX8_numberIn 6 = .ok (.istore_n 3, 1) := by decide +kernel
theorem dX8_numberIn_7 : decode cX8_numberIn 7 = .ok (.iload_n 3, 1) := by decide +kernel
theorem dX8_numberIn_8 : decode cX8_numberIn 8 = .ok (.aload_n 0, 1) := by decide +kernel
theorem dX8_numberIn_9 : decode cX8_numberIn 9 = .ok (.getfield 37, 3) := by decide +kernel
theorem dX8_numberIn_12 : decode cX8_numberIn 12 = .ok (.if_icmp .ge 29, 3) := by decide +kernel
theorem dX8_numberIn_15 : decode cX8_numberIn 15 = .ok (.sipush 1000, 3) := by decide +kernel
theorem dX8_numberIn_18 : decode cX8_numberIn 18 = .ok (.bipush 10, 2) := by decide +kernel
theorem dX8_numberIn_20 : decode cX8_numberIn 20 = .ok (.iload_n 2, 1) := by decide +kernel
theorem dX8_numberIn_21 : decode cX8_numberIn 21 = .ok (.imul, 1) := by decide +kernel
theorem dX8_numberIn_22 : decode cX8_numberIn 22 = .ok (.aload_n 1, 1) := by decide +kernel
theorem dX8_numberIn_23 : decode cX8_numberIn 23 = .ok (.iload_n 3, 1) := by decide +kernel
theorem dX8_numberIn_24 : decode cX8_numberIn 24 = .ok (.invokevirtual 102, 3) := by decide +kernel
theorem dX8_numberIn_27 : decode cX8_numberIn 27 = .ok (.iadd, 1) := by decide +kernel
theorem dX8_numberIn_28 : decode cX8_numberIn 28 = .ok (.bipush 48, 2) := by decide +kernel
theorem dX8_numberIn_30 : decode cX8_numberIn 30 = .ok (.isub, 1) := by decide +kernel
theorem dX8_numberIn_31 : decode cX8_numberIn 31 = .ok (.invokestatic 125, 3) := by decide +kernel
theorem dX8_numberIn_34 : decode cX8_numberIn 34 = .ok (.istore_n 2, 1) := by decide +kernel
theorem dX8_numberIn_35 : decode cX8_numberIn 35 = .ok (.iinc 3 1, 3) := by decide +kernel
theorem dX8_numberIn_38 : decode cX8_numberIn 38 = .ok (.goto (-31), 3) := by decide +kernel
theorem dX8_numberIn_41 : decode cX8_numberIn 41 = .ok (.iload_n 2, 1) := by decide +kernel
theorem dX8_numberIn_42 : decode cX8_numberIn 42 = .ok (.ireturn, 1) := by decide +kernel
theorem dX8_isBlank_0 : decode cX8_isBlank 0 = .ok (.iload_n 0, 1) := by decide +kernel
theorem dX8_isBlank_1 : decode cX8_isBlank 1 = .ok (.bipush 32, 2) := by decide +kernel
theorem dX8_isBlank_3 : decode cX8_isBlank 3 = .ok (.if_icmp .eq 9, 3) := by decide +kernel
theorem dX8_isBlank_6 : decode cX8_isBlank 6 = .ok (.iload_n 0, 1) := by decide +kernel
theorem dX8_isBlank_7 : decode cX8_isBlank 7 = .ok (.bipush 10, 2) := by decide +kernel
theorem dX8_isBlank_9 : decode cX8_isBlank 9 = .ok (.if_icmp .ne 7, 3) := by decide +kernel
theorem dX8_isBlank_12 : decode cX8_isBlank 12 = .ok (.iconst 1, 1) := by decide +kernel
theorem dX8_isBlank_13 : decode cX8_isBlank 13 = .ok (.goto 4, 3) := by decide +kernel
theorem dX8_isBlank_16 : decode cX8_isBlank 16 = .ok (.iconst 0, 1) := by decide +kernel
theorem dX8_isBlank_17 : decode cX8_isBlank 17 = .ok (.ireturn, 1) := by decide +kernel
theorem dX8_kindOf_0 : decode cX8_kindOf 0 = .ok (.iload_n 1, 1) := by decide +kernel
theorem dX8_kindOf_1 : decode cX8_kindOf 1 = .ok (.aload_n 0, 1) := by decide +kernel
theorem dX8_kindOf_2 : decode cX8_kindOf 2 = .ok (.getfield 112, 3) := by decide +kernel
theorem dX8_kindOf_5 : decode cX8_kindOf 5 = .ok (.if_icmp .lt 5, 3) := by decide +kernel
theorem dX8_kindOf_8 : decode cX8_kindOf 8 = .ok (.iconst 0, 1) := by decide +kernel
theorem dX8_kindOf_9 : decode cX8_kindOf 9 = .ok (.ireturn, 1) := by decide +kernel
theorem dX8_kindOf_10 : decode cX8_kindOf 10 = .ok (.aload_n 0, 1) := by decide +kernel
theorem dX8_kindOf_11 : decode cX8_kindOf 11 = .ok (.iload_n 1, 1) := by decide +kernel
theorem dX8_kindOf_12 : decode cX8_kindOf 12 = .ok (.invokevirtual 102, 3) := by decide +kernel
theorem dX8_kindOf_15 : decode cX8_kindOf 15 = .ok (.istore_n 2, 1) := by decide +kernel
theorem dX8_kindOf_16 : decode cX8_kindOf 16 = .ok (.iload_n 2, 1) := by decide +kernel
theorem dX8_kindOf_17 : decode cX8_kindOf 17 = .ok (.bipush 97, 2) := by decide +kernel
theorem dX8_kindOf_19 : decode cX8_kindOf 19 = .ok (.if_icmp .lt 11, 3) := by decide +kernel
theorem dX8_kindOf_22 : decode cX8_kindOf 22 = .ok (.iload_n 2, 1) := by decide +kernel
theorem dX8_kindOf_23 : decode cX8_kindOf 23 = .ok (.bipush 122, 2) := by decide +kernel
theorem dX8_kindOf_25 : decode cX8_kindOf 25 = .ok (.if_icmp .gt 5, 3) := by decide +kernel
theorem dX8_kindOf_28 : decode cX8_kindOf 28 = .ok (.iconst 1, 1) := by decide +kernel
theorem dX8_kindOf_29 : decode cX8_kindOf 29 = .ok (.ireturn, 1) := by decide +kernel
theorem dX8_kindOf_30 : decode cX8_kindOf 30 = .ok (.iload_n 2, 1) := by decide +kernel
theorem dX8_kindOf_31 : decode cX8_kindOf 31 = .ok (.bipush 48, 2) := by decide +kernel
theorem dX8_kindOf_33 : decode cX8_kindOf 33 = .ok (.if_icmp .lt 11, 3) := by decide +kernel
theorem dX8_kindOf_36 : decode cX8_kindOf 36 = .ok (.iload_n 2, 1) := by decide +kernel
theorem dX8_kindOf_37 : decode cX8_kindOf 37 = .ok (.bipush 57, 2) := by decide +kernel
theorem dX8_kindOf_39 : decode cX8_kindOf 39 = .ok (.if_icmp .gt 5, 3) := by decide +kernel
theorem dX8_kindOf_42 : decode cX8_kindOf 42 = .ok (.iconst 2, 1) := by decide +kernel
theorem dX8_kindOf_43 : decode cX8_kindOf 43 = .ok (.ireturn, 1) := by decide +kernel
theorem dX8_kindOf_44 : decode cX8_kindOf 44 = .ok (.iload_n 2, 1) := by decide +kernel
theorem dX8_kindOf_45 : decode cX8_kindOf 45 = .ok (.bipush 59, 2) := by decide +kernel
theorem dX8_kindOf_47 : decode cX8_kindOf 47 = .ok (.if_icmp .ne 7, 3) := by decide +kernel
theorem dX8_kindOf_50 : decode cX8_kindOf 50 = .ok (.iconst 3, 1) := by decide +kernel
theorem dX8_kindOf_51 : decode cX8_kindOf 51 = .ok (.goto 4, 3) := by decide +kernel
theorem dX8_kindOf_54 : decode cX8_kindOf 54 = .ok (.iconst 4, 1) := by decide +kernel
theorem dX8_kindOf_55 : decode cX8_kindOf 55 = .ok (.ireturn, 1) := by decide +kernel
theorem dX9_init_0 : decode cX9_init 0 = .ok (.aload_n 0, 1) := by decide +kernel
theorem dX9_init_1 : decode cX9_init 1 = .ok (.invokespecial 3, 3) := by decide +kernel
theorem dX9_init_4 : decode cX9_init 4 = .ok (.aload_n 0, 1) := by decide +kernel
theorem dX9_init_5 : decode cX9_init 5 = .ok (.iconst 4, 1) := by decide +kernel
theorem dX9_init_6 : decode cX9_init 6 = .ok (.newarray .int, 2) := by decide +kernel
theorem dX9_init_8 : decode cX9_init 8 = .ok (.putfield 9, 3) := by decide +kernel
theorem dX9_init_11 : decode cX9_init 11 = .ok (.aload_n 0, 1) := by decide +kernel
theorem dX9_init_12 : decode cX9_init 12 = .ok (.iconst 4, 1) := by decide +kernel
theorem dX9_init_13 : decode cX9_init 13 = .ok (.newarray .int, 2) := by decide +kernel
theorem dX9_init_15 : decode cX9_init 15 = .ok (.putfield 15, 3) := by decide +kernel
theorem dX9_init_18 : decode cX9_init 18 = .ok (.aload_n 0, 1) := by decide +kernel
theorem dX9_init_19 : decode cX9_init 19 = .ok (.bipush 20, 2) := by decide +kernel
theorem dX9_init_21 : decode cX9_init 21 = .ok (.newarray .long, 2) := by decide +kernel
theorem dX9_init_23 : decode cX9_init 23 = .ok (.putfield 18, 3) := by decide +kernel
theorem dX9_init_26 : decode cX9_init 26 = .ok (.return_, 1) := by decide +kernel
theorem dX9_take_0 : decode cX9_take 0 = .ok (.aload_n 0, 1) := by decide +kernel
theorem dX9_take_1 : decode cX9_take 1 = .ok (.aload_n 1, 1) := by decide +kernel
theorem dX9_take_2 : decode cX9_take 2 = .ok (.getfield 22, 3) := by decide +kernel
theorem dX9_take_5 : decode cX9_take 5 = .ok (.putfield 28, 3) := by decide +kernel
theorem dX9_take_8 : decode cX9_take 8 = .ok (.aload_n 0, 1) := by decide +kernel
theorem dX9_take_9 : decode cX9_take 9 = .ok (.aload_n 1, 1) := by decide +kernel
theorem dX9_take_10 : decode cX9_take 10 = .ok (.getfield 29, 3) := by decide +kernel
theorem dX9_take_13 : decode cX9_take 13 = .ok (.putfield 32, 3) := by decide +kernel
theorem dX9_take_16 : decode cX9_take 16 = .ok (.aload_n 0, 1) := by decide +kernel
theorem dX9_take_17 : decode cX9_take 17 = .ok (.aload_n 1, 1) := by decide +kernel
theorem dX9_take_18 : decode cX9_take 18 = .ok (.getfield 33, 3) := by decide +kernel
theorem dX9_take_21 : decode cX9_take 21 = .ok (.putfield 36, 3) := by decide +kernel
theorem dX9_take_24 : decode cX9_take 24 = .ok (.aload_n 0, 1) := by decide +kernel
theorem dX9_take_25 : decode cX9_take 25 = .ok (.aload_n 1, 1) := by decide +kernel
theorem dX9_take_26 : decode cX9_take 26 = .ok (.getfield 37, 3) := by decide +kernel
theorem dX9_take_29 : decode cX9_take 29 = .ok (.putfield 40, 3) := by decide +kernel
theorem dX9_take_32 : decode cX9_take 32 = .ok (.aload_n 0, 1) := by decide +kernel
theorem dX9_take_33 : decode cX9_take 33 = .ok (.iconst 0, 1) := by decide +kernel
theorem dX9_take_34 : decode cX9_take 34 = .ok (.putfield 41, 3) := by decide +kernel
theorem dX9_take_37 : decode cX9_take 37 = .ok (.aload_n 0, 1) := by decide +kernel
theorem dX9_take_38 : decode cX9_take 38 = .ok (.lconst 0, 1) := by decide +kernel
theorem dX9_take_39 : decode cX9_take 39 = .ok (.putfield 44, 3) := by decide +kernel
theorem dX9_take_42 : decode cX9_take 42 = .ok (.aload_n 0, 1) := by decide +kernel
theorem dX9_take_43 : decode cX9_take 43 = .ok (.iconst 0, 1) := by decide +kernel
theorem dX9_take_44 : decode cX9_take 44 = .ok (.putfield 48, 3) := by decide +kernel
theorem dX9_take_47 : decode cX9_take 47 = .ok (.aload_n 0, 1) := by decide +kernel
theorem dX9_take_48 : decode cX9_take 48 = .ok (.getfield 9, 3) := by decide +kernel
theorem dX9_take_51 : decode cX9_take 51 = .ok (.iconst 0, 1) := by decide +kernel
theorem dX9_take_52 : decode cX9_take 52 = .ok (.invokestatic 51, 3) := by decide +kernel
theorem dX9_take_55 : decode cX9_take 55 = .ok (.aload_n 0, 1) := by decide +kernel
theorem dX9_take_56 : decode cX9_take 56 = .ok (.getfield 15, 3) := by decide +kernel
theorem dX9_take_59 : decode cX9_take 59 = .ok (.iconst 0, 1) := by decide +kernel
theorem dX9_take_60 : decode cX9_take 60 = .ok (.invokestatic 51, 3) := by decide +kernel
theorem dX9_take_63 : decode cX9_take 63 = .ok (.iconst 0, 1) := by decide +kernel
theorem dX9_take_64 : decode cX9_take 64 = .ok (.istore_n 2, 1) := by decide +kernel
theorem dX9_take_65 : decode cX9_take 65 = .ok (.iload_n 2, 1) := by decide +kernel
theorem dX9_take_66 : decode cX9_take 66 = .ok (.iconst 4, 1) := by decide +kernel
theorem dX9_take_67 : decode cX9_take 67 = .ok (.if_icmp .ge 85, 3) := by decide +kernel
theorem dX9_take_70 : decode cX9_take 70 = .ok (.iconst 0, 1) := by decide +kernel
theorem dX9_take_71 : decode cX9_take 71 = .ok (.istore_n 3, 1) := by decide +kernel
theorem dX9_take_72 : decode cX9_take 72 = .ok (.iload_n 3, 1) := by decide +kernel
theorem dX9_take_73 : decode cX9_take 73 = .ok (.iconst 4, 1) := by decide +kernel
theorem dX9_take_74 : decode cX9_take 74 = .ok (.if_icmp .ge 72, 3) := by decide +kernel
theorem dX9_take_77 : decode cX9_take 77 = .ok (.aload_n 1, 1) := by decide +kernel
theorem dX9_take_78 : decode cX9_take 78 = .ok (.getfield 57, 3) := by decide +kernel
theorem dX9_take_81 : decode cX9_take 81 = .ok (.iconst 4, 1) := by decide +kernel
theorem dX9_take_82 : decode cX9_take 82 = .ok (.iload_n 2, 1) := by decide +kernel
theorem dX9_take_83 : decode cX9_take 83 = .ok (.imul, 1) := by decide +kernel
theorem dX9_take_84 : decode cX9_take 84 = .ok (.iload_n 3, 1) := by decide +kernel
theorem dX9_take_85 : decode cX9_take 85 = .ok (.iadd, 1) := by decide +kernel
theorem dX9_take_86 : decode cX9_take 86 = .ok (.iaload, 1) := by decide +kernel
theorem dX9_take_87 : decode cX9_take 87 = .ok (.istore 4, 2) := by decide +kernel
theorem dX9_take_89 : decode cX9_take 89 = .ok (.aload_n 0, 1) := by decide +kernel
theorem dX9_take_90 : decode cX9_take 90 = .ok (.dup, 1) := by decide +kernel
theorem dX9_take_91 : decode cX9_take 91 = .ok (.getfield 41, 3) := by decide +kernel
theorem dX9_take_94 : decode cX9_take 94 = .ok (.iload 4, 2) := by decide +kernel
theorem dX9_take_96 : decode cX9_take 96 = .ok (.iadd, 1) := by decide +kernel
theorem dX9_take_97 : decode cX9_take 97 = .ok (.putfield 41, 3) := by decide +kernel
theorem dX9_take_100 : decode cX9_take 100 = .ok (.aload_n 0, 1) := by decide +kernel
theorem dX9_take_101 : decode cX9_take 101 = .ok (.getfield 9, 3) := by decide +kernel
theorem dX9_take_104 : decode cX9_take 104 = .ok (.iload_n 2, 1) := by decide +kernel
theorem dX9_take_105 : decode cX9_take 105 = .ok (.dup2, 1) := by decide +kernel
theorem dX9_take_106 : decode cX9_take 106 = .ok (.iaload, 1) := by decide +kernel
theorem dX9_take_107 : decode cX9_take 107 = .ok (.iload 4, 2) := by decide +kernel
theorem dX9_take_109 : decode cX9_take 109 = .ok (.iadd, 1) := by decide +kernel
theorem dX9_take_110 : decode cX9_take 110 = .ok (.iastore, 1) := by decide +kernel
theorem dX9_take_111 : decode cX9_take 111 = .ok (.aload_n 0, 1) := by decide +kernel
theorem dX9_take_112 : decode cX9_take 112 = .ok (.getfield 15, 3) := by decide +kernel
theorem dX9_take_115 : decode cX9_take 115 = .ok (.iload_n 3, 1) := by decide +kernel
theorem dX9_take_116 : decode cX9_take 116 = .ok (.dup2, 1) := by decide +kernel
theorem dX9_take_117 : decode cX9_take 117 = .ok (.iaload, 1) := by decide +kernel
theorem dX9_take_118 : decode cX9_take 118 = .ok (.iload 4, 2) := by decide +kernel
theorem dX9_take_120 : decode cX9_take 120 = .ok (.iadd, 1) := by decide +kernel
theorem dX9_take_121 : decode cX9_take 121 = .ok (.iastore, 1) := by decide +kernel
theorem dX9_take_122 : decode cX9_take 122 = .ok (.aload_n 0, 1) := by decide +kernel
theorem dX9_take_123 : decode cX9_take 123 = .ok (.dup, 1) := by decide +kernel
theorem dX9_take_124 : decode cX9_take 124 = .ok (.getfield 44, 3) := by decide +kernel
theorem dX9_take_127 : decode cX9_take 127 = .ok (.iload 4, 2) := by decide +kernel
theorem dX9_take_129 : decode cX9_take 129 = .ok (.i2l, 1) := by decide +kernel
theorem dX9_take_130 : decode cX9_take 130 = .ok (.iload_n 2, 1) := by decide +kernel
theorem dX9_take_131 : decode cX9_take 131 = .ok (.iload_n 3, 1) := by decide +kernel
theorem dX9_take_132 : decode cX9_take 132 = .ok (.invokestatic 60, 3) := by decide +kernel
theorem dX9_take_135 : decode cX9_take 135 = .ok (.lshl, 1) := by decide +kernel
theorem dX9_take_136 : decode cX9_take 136 = .ok (.lor, 1) := by decide +kernel
theorem dX9_take_137 : decode cX9_take 137 = .ok (.putfield 44, 3) := by decide +kernel
theorem dX9_take_140 : decode cX9_take 140 = .ok (.iinc 3 1, 3) := by decide +kernel
theorem dX9_take_143 : decode cX9_take 143 = .ok (.goto (-71), 3) := by decide +kernel
theorem dX9_take_146 : decode cX9_take 146 = .ok (.iinc 2 1, 3) := by decide +kernel
theorem dX9_take_149 : decode cX9_take 149 = .ok (.goto (-84), 3) := by decide +kernel
theorem dX9_take_152 : decode cX9_take 152 = .ok (.return_, 1) := by decide +kernel
theorem dX9_isTold_0 : decode cX9_isTold 0 = .ok (.aload_n 0, 1) := by decide +kernel
theorem dX9_isTold_1 : decode cX9_isTold 1 = .ok (.getfield 28, 3) := by decide +kernel
theorem dX9_isTold_4 : decode cX9_isTold 4 = .ok (.ifCond .le 7, 3) := by decide +kernel
theorem dX9_isTold_7 : decode cX9_isTold 7 = .ok (.iconst 1, 1) := by decide +kernel
theorem dX9_isTold_8 : decode cX9_isTold 8 = .ok (.goto 4, 3) := by decide +kernel
theorem dX9_isTold_11 : decode cX9_isTold 11 = .ok (.iconst 0, 1) := by decide +kernel
theorem dX9_isTold_12 : decode cX9_isTold 12 = .ok (.ireturn, 1) := by decide +kernel
theorem dX9_has_0 : decode cX9_has 0 = .ok (.iload_n 1, 1) := by decide +kernel
theorem dX9_has_1 : decode cX9_has 1 = .ok (.ifCond .lt 27, 3) := by decide +kernel
theorem dX9_has_4 : decode cX9_has 4 = .ok (.iload_n 1, 1) := by decide +kernel
theorem dX9_has_5 : decode cX9_has 5 = .ok (.aload_n 0, 1) := by decide +kernel
theorem dX9_has_6 : decode cX9_has 6 = .ok (.getfield 28, 3) := by decide +kernel
theorem dX9_has_9 : decode cX9_has 9 = .ok (.if_icmp .ge 19, 3) := by decide +kernel
theorem dX9_has_12 : decode cX9_has 12 = .ok (.iload_n 2, 1) := by decide +kernel
theorem dX9_has_13 : decode cX9_has 13 = .ok (.ifCond .lt 15, 3) := by decide +kernel
theorem dX9_has_16 : decode cX9_has 16 = .ok (.iload_n 2, 1) := by decide +kernel
theorem dX9_has_17 : decode cX9_has 17 = .ok (.aload_n 0, 1) := by decide +kernel
theorem dX9_has_18 : decode cX9_has 18 = .ok (.getfield 32, 3) := by decide +kernel
theorem dX9_has_21 : decode cX9_has 21 = .ok (.if_icmp .ge 7, 3) := by decide +kernel
theorem dX9_has_24 : decode cX9_has 24 = .ok (.iconst 1, 1) := by decide +kernel
theorem dX9_has_25 : decode cX9_has 25 = .ok (.goto 4, 3) := by decide +kernel
theorem dX9_has_28 : decode cX9_has 28 = .ok (.iconst 0, 1) := by decide +kernel
theorem dX9_has_29 : decode cX9_has 29 = .ok (.ireturn, 1) := by decide +kernel
theorem dX9_at_0 : decode cX9_at 0 = .ok (.aload_n 0, 1) := by decide +kernel
theorem dX9_at_1 : decode cX9_at 1 = .ok (.getfield 44, 3) := by decide +kernel
theorem dX9_at_4 : decode cX9_at 4 = .ok (.iload_n 1, 1) := by decide +kernel
theorem dX9_at_5 : decode cX9_at 5 = .ok (.iload_n 2, 1) := by decide +kernel
theorem dX9_at_6 : decode cX9_at 6 = .ok (.invokestatic 60, 3) := by decide +kernel
theorem dX9_at_9 : decode cX9_at 9 = .ok (.invokestatic 66, 3) := by decide +kernel
theorem dX9_at_12 : decode cX9_at 12 = .ok (.ireturn, 1) := by decide +kernel
theorem dX9_isHole_0 : decode cX9_isHole 0 = .ok (.aload_n 0, 1) := by decide +kernel
theorem dX9_isHole_1 : decode cX9_isHole 1 = .ok (.getfield 40, 3) := by decide +kernel
theorem dX9_isHole_4 : decode cX9_isHole 4 = .ok (.iconst 4, 1) := by decide +kernel
theorem dX9_isHole_5 : decode cX9_isHole 5 = .ok (.iload_n 1, 1) := by decide +kernel
theorem dX9_isHole_6 : decode cX9_isHole 6 = .ok (.imul, 1) := by decide +kernel
theorem dX9_isHole_7 : decode cX9_isHole 7 = .ok (.iload_n 2, 1) := by decide +kernel
theorem dX9_isHole_8 : decode cX9_isHole 8 = .ok (.iadd, 1) := by decide +kernel
theorem dX9_isHole_9 : decode cX9_isHole 9 = .ok (.ishr, 1) := by decide +kernel
theorem dX9_isHole_10 : decode cX9_isHole 10 = .ok (.iconst 1, 1) := by decide +kernel
theorem dX9_isHole_11 : decode cX9_isHole 11 = .ok (.iand, 1) := by decide +kernel
theorem dX9_isHole_12 : decode cX9_isHole 12 = .ok (.ifCond .eq 7, 3) := by decide +kernel
theorem dX9_isHole_15 : decode cX9_isHole 15 = .ok (.iconst 1, 1) := by decide +kernel
theorem dX9_isHole_16 : decode cX9_isHole 16 = .ok (.goto 4, 3) := by decide +kernel
theorem dX9_isHole_19 : decode cX9_isHole 19 = .ok (.iconst 0, 1) := by decide +kernel
theorem dX9_isHole_20 : decode cX9_isHole 20 = .ok (.ireturn, 1) := by decide +kernel
theorem dX9_isFull_0 : decode cX9_isFull 0 = .ok (.aload_n 0, 1) := by decide +kernel
theorem dX9_isFull_1 : decode cX9_isFull 1 = .ok (.getfield 48, 3) := by decide +kernel
theorem dX9_isFull_4 : decode cX9_isFull 4 = .ok (.bipush 20, 2) := by decide +kernel
theorem dX9_isFull_6 : decode cX9_isFull 6 = .ok (.if_icmp .lt 7, 3) := by decide +kernel
theorem dX9_isFull_9 : decode cX9_isFull 9 = .ok (.iconst 1, 1) := by decide +kernel
theorem dX9_isFull_10 : decode cX9_isFull 10 = .ok (.goto 4, 3) := by decide +kernel
theorem dX9_isFull_13 : decode cX9_isFull 13 = .ok (.iconst 0, 1) := by decide +kernel
theorem dX9_isFull_14 : decode cX9_isFull 14 = .ok (.ireturn, 1) := by decide +kernel
theorem dX9_remember_0 : decode cX9_remember 0 = .ok (.aload_n 0, 1) := by decide +kernel
theorem dX9_remember_1 : decode cX9_remember 1 = .ok (.getfield 48, 3) := by decide +kernel
theorem dX9_remember_4 : decode cX9_remember 4 = .ok (.ifCond .lt 35, 3) := by decide +kernel
theorem dX9_remember_7 : decode cX9_remember 7 = .ok (.aload_n 0, 1) := by decide +kernel
theorem dX9_remember_8 : decode cX9_remember 8 = .ok (.getfield 48, 3) := by decide +kernel
theorem dX9_remember_11 : decode cX9_remember 11 = .ok (.bipush 20, 2) := by decide +kernel
theorem dX9_remember_13 : decode cX9_remember 13 = .ok (.if_icmp .ge 26, 3) := by decide +kernel
theorem dX9_remember_16 : decode cX9_remember 16 = .ok (.aload_n 0, 1) := by decide +kernel
theorem dX9_remember_17 : decode cX9_remember 17 = .ok (.getfield 18, 3) := by decide +kernel
theorem dX9_remember_20 : decode cX9_remember 20 = .ok (.aload_n 0, 1) := by decide +kernel
theorem dX9_remember_21 : decode cX9_remember 21 = .ok (.getfield 48, 3) := by decide +kernel
theorem dX9_remember_24 : decode cX9_remember 24 = .ok (.aload_n 0, 1) := by decide +kernel
theorem dX9_remember_25 : decode cX9_remember 25 = .ok (.getfield 44, 3) := by decide +kernel
theorem dX9_remember_28 : decode cX9_remember 28 = .ok (.lastore, 1) := by decide +kernel
theorem dX9_remember_29 : decode cX9_remember 29 = .ok (.aload_n 0, 1) := by decide +kernel
theorem dX9_remember_30 : decode cX9_remember 30 = .ok (.dup, 1) := by decide +kernel
theorem dX9_remember_31 : decode cX9_remember 31 = .ok (.getfield 48, 3) := by decide +kernel
theorem dX9_remember_34 : decode cX9_remember 34 = .ok (.iconst 1, 1) := by decide +kernel
theorem dX9_remember_35 : decode cX9_remember 35 = .ok (.iadd, 1) := by decide +kernel
theorem dX9_remember_36 : decode cX9_remember 36 = .ok (.putfield 48, 3) := by decide +kernel
theorem dX9_remember_39 : decode cX9_remember 39 = .ok (.return_, 1) := by decide +kernel
theorem dX9_goBackTo_0 : decode cX9_goBackTo 0 = .ok (.iload_n 1, 1) := by decide +kernel
theorem dX9_goBackTo_1 : decode cX9_goBackTo 1 = .ok (.ifCond .lt 32, 3) := by decide +kernel
theorem dX9_goBackTo_4 : decode cX9_goBackTo 4 = .ok (.iload_n 1, 1) := by decide +kernel
theorem dX9_goBackTo_5 : decode cX9_goBackTo 5 = .ok (.aload_n 0, 1) := by decide +kernel
theorem dX9_goBackTo_6 : decode cX9_goBackTo 6 = .ok (.getfield 48, 3) := by decide +kernel
theorem dX9_goBackTo_9 : decode cX9_goBackTo 9 = .ok (.if_icmp .ge 24, 3) := by decide +kernel
theorem dX9_goBackTo_12 : decode cX9_goBackTo 12 = .ok (.iload_n 1, 1) := by decide +kernel
theorem dX9_goBackTo_13 : decode cX9_goBackTo 13 = .ok (.bipush 20, 2) := by decide +kernel
theorem dX9_goBackTo_15 : decode cX9_goBackTo 15 = .ok (.if_icmp .ge 18, 3) := by decide +kernel
theorem dX9_goBackTo_18 : decode cX9_goBackTo 18 = .ok (.aload_n 0, 1) := by decide +kernel
theorem dX9_goBackTo_19 : decode cX9_goBackTo 19 = .ok (.aload_n 0, 1) := by decide +kernel
theorem dX9_goBackTo_20 : decode cX9_goBackTo 20 = .ok (.getfield 18, 3) := by decide +kernel
theorem dX9_goBackTo_23 : decode cX9_goBackTo 23 = .ok (.iload_n 1, 1) := by decide +kernel
theorem dX9_goBackTo_24 : decode cX9_goBackTo 24 = .ok (.laload, 1) := by decide +kernel
theorem dX9_goBackTo_25 : decode cX9_goBackTo 25 = .ok (.putfield 44, 3) := by decide +kernel
theorem dX9_goBackTo_28 : decode cX9_goBackTo 28 = .ok (.aload_n 0, 1) := by decide +kernel
theorem dX9_goBackTo_29 : decode cX9_goBackTo 29 = .ok (.iload_n 1, 1) := by decide +kernel
theorem dX9_goBackTo_30 : decode cX9_goBackTo 30 = .ok (.putfield 48, 3) := by decide +kernel
theorem dX9_goBackTo_33 : decode cX9_goBackTo 33 = .ok (.return_, 1) := by decide +kernel
theorem dX9_canSwap_0 : decode cX9_canSwap 0 = .ok (.aload_n 0, 1) := by decide +kernel
theorem dX9_canSwap_1 : decode cX9_canSwap 1 = .ok (.iload_n 1, 1) := by decide +kernel
theorem dX9_canSwap_2 : decode cX9_canSwap 2 = .ok (.iload 4, 2) := by decide +kernel
theorem dX9_canSwap_4 : decode cX9_canSwap 4 = .ok (.invokevirtual 70, 3) := by decide +kernel
theorem dX9_canSwap_7 : decode cX9_canSwap 7 = .ok (.ifCond .le 35, 3) := by decide +kernel
theorem dX9_canSwap_10 : decode cX9_canSwap 10 = .ok (.aload_n 0, 1) := by decide +kernel
theorem dX9_canSwap_11 : decode cX9_canSwap 11 = .ok (.iload_n 2, 1) := by decide +kernel
theorem dX9_canSwap_12 : decode cX9_canSwap 12 = .ok (.iload_n 3, 1) := by decide +kernel
theorem dX9_canSwap_13 : decode cX9_canSwap 13 = .ok (.invokevirtual 70, 3) := by decide +kernel
theorem dX9_canSwap_16 : decode cX9_canSwap 16 = .ok (.ifCond .le 26, 3) := by decide +kernel
theorem dX9_canSwap_19 : decode cX9_canSwap 19 = .ok (.aload_n 0, 1) := by decide +kernel
theorem dX9_canSwap_20 : decode cX9_canSwap 20 = .ok (.iload_n 1, 1) := by decide +kernel
theorem dX9_canSwap_21 : decode cX9_canSwap 21 = .ok (.iload_n 3, 1) := by decide +kernel
theorem dX9_canSwap_22 : decode cX9_canSwap 22 = .ok (.invokevirtual 73, 3) := by decide +kernel
theorem dX9_canSwap_25 : decode cX9_canSwap 25 = .ok (.ifCond .ne 17, 3) := by decide +kernel
theorem dX9_canSwap_28 : decode cX9_canSwap 28 = .ok (.aload_n 0, 1) := by decide +kernel
theorem dX9_canSwap_29 : decode cX9_canSwap 29 = .ok (.iload_n 2, 1) := by decide +kernel
theorem dX9_canSwap_30 : decode cX9_canSwap 30 = .ok (.iload 4, 2) := by decide +kernel
theorem dX9_canSwap_32 : decode cX9_canSwap 32 = .ok (.invokevirtual 73, 3) := by decide +kernel
theorem dX9_canSwap_35 : decode cX9_canSwap 35 = .ok (.ifCond .ne 7, 3) := by decide +kernel
theorem dX9_canSwap_38 : decode cX9_canSwap 38 = .ok (.iconst 1, 1) := by decide +kernel
theorem dX9_canSwap_39 : decode cX9_canSwap 39 = .ok (.goto 4, 3) := by decide +kernel
theorem dX9_canSwap_42 : decode cX9_canSwap 42 = .ok (.iconst 0, 1) := by decide +kernel
theorem dX9_canSwap_43 : decode cX9_canSwap 43 = .ok (.ireturn, 1) := by decide +kernel
theorem dX9_doSwap_0 : decode cX9_doSwap 0 = .ok (.aload_n 0, 1) := by decide +kernel
theorem dX9_doSwap_1 : decode cX9_doSwap 1 = .ok (.dup, 1) := by decide +kernel
theorem dX9_doSwap_2 : decode cX9_doSwap 2 = .ok (.getfield 44, 3) := by decide +kernel
theorem dX9_doSwap_5 : decode cX9_doSwap 5 = .ok (.iload_n 1, 1) := by decide +kernel
theorem dX9_doSwap_6 : decode cX9_doSwap 6 = .ok (.iload_n 2, 1) := by decide +kernel
theorem dX9_doSwap_7 : decode cX9_doSwap 7 = .ok (.iload_n 3, 1) := by decide +kernel
theorem dX9_doSwap_8 : decode cX9_doSwap 8 = .ok (.iload 4, 2) := by decide +kernel
theorem dX9_doSwap_10 : decode cX9_doSwap 10 = .ok (.invokestatic 77, 3) := by decide +kernel
theorem dX9_doSwap_13 : decode cX9_doSwap 13 = .ok (.ladd, 1) := by decide +kernel
theorem dX9_doSwap_14 : decode cX9_doSwap 14 = .ok (.putfield 44, 3) := by decide +kernel
theorem dX9_doSwap_17 : decode cX9_doSwap 17 = .ok (.return_, 1) := by decide +kernel
theorem dX9_choose_0 : decode cX9_choose 0 = .ok (.aload_n 1, 1) := by decide +kernel
theorem dX9_choose_1 : decode cX9_choose 1 = .ok (.aload_n 0, 1) := by decide +kernel
theorem dX9_choose_2 : decode cX9_choose 2 = .ok (.getfield 28, 3) := by decide +kernel
theorem dX9_choose_5 : decode cX9_choose 5 = .ok (.invokevirtual 81, 3) := by decide +kernel
theorem dX9_choose_8 : decode cX9_choose 8 = .ok (.istore_n 2, 1) := by decide +kernel
theorem dX9_choose_9 : decode cX9_choose 9 = .ok (.aload_n 1, 1) := by decide +kernel
theorem dX9_choose_10 : decode cX9_choose 10 = .ok (.aload_n 0, 1) := by decide +kernel
theorem dX9_choose_11 : decode cX9_choose 11 = .ok (.getfield 28, 3) := by decide +kernel
theorem dX9_choose_14 : decode cX9_choose 14 = .ok (.iload_n 2, 1) := by decide +kernel
theorem dX9_choose_15 : decode cX9_choose 15 = .ok (.invokevirtual 87, 3) := by decide +kernel
theorem dX9_choose_18 : decode cX9_choose 18 = .ok (.istore_n 3, 1) := by decide +kernel
theorem dX9_choose_19 : decode cX9_choose 19 = .ok (.aload_n 1, 1) := by decide +kernel
theorem dX9_choose_20 : decode cX9_choose 20 = .ok (.aload_n 0, 1) := by decide +kernel
theorem dX9_choose_21 : decode cX9_choose 21 = .ok (.getfield 32, 3) := by decide +kernel
theorem dX9_choose_24 : decode cX9_choose 24 = .ok (.invokevirtual 81, 3) := by decide +kernel
theorem dX9_choose_27 : decode cX9_choose 27 = .ok (.istore 4, 2) := by decide +kernel
theorem dX9_choose_29 : decode cX9_choose 29 = .ok (.aload_n 1, 1) := by decide +kernel
theorem dX9_choose_30 : decode cX9_choose 30 = .ok (.aload_n 0, 1) := by decide +kernel
theorem dX9_choose_31 : decode cX9_choose 31 = .ok (.getfield 32, 3) := by decide +kernel
theorem dX9_choose_34 : decode cX9_choose 34 = .ok (.iload 4, 2) := by decide +kernel
theorem dX9_choose_36 : decode cX9_choose 36 = .ok (.invokevirtual 87, 3) := by decide +kernel
theorem dX9_choose_39 : decode cX9_choose 39 = .ok (.istore 5, 2) := by decide +kernel
theorem dX9_choose_41 : decode cX9_choose 41 = .ok (.aload_n 0, 1) := by decide +kernel
theorem dX9_choose_42 : decode cX9_choose 42 = .ok (.iload_n 2, 1) := by decide +kernel
theorem dX9_choose_43 : decode cX9_choose 43 = .ok (.iload_n 3, 1) := by decide +kernel
theorem dX9_choose_44 : decode cX9_choose 44 = .ok (.iload 4, 2) := by decide +kernel
theorem dX9_choose_46 : decode cX9_choose 46 = .ok (.iload 5, 2) := by decide +kernel
theorem dX9_choose_48 : decode cX9_choose 48 = .ok (.invokevirtual 90, 3) := by decide +kernel
theorem dX9_choose_51 : decode cX9_choose 51 = .ok (.istore 6, 2) := by decide +kernel
theorem dX9_choose_53 : decode cX9_choose 53 = .ok (.iload 6, 2) := by decide +kernel
theorem dX9_choose_55 : decode cX9_choose 55 = .ok (.ifCond .eq 13, 3) := by decide +kernel
theorem dX9_choose_58 : decode cX9_choose 58 = .ok (.aload_n 0, 1) := by decide +kernel
theorem dX9_choose_59 : decode cX9_choose 59 = .ok (.iload_n 2, 1) := by decide +kernel
theorem dX9_choose_60 : decode cX9_choose 60 = .ok (.iload_n 3, 1) := by decide +kernel
theorem dX9_choose_61 : decode cX9_choose 61 = .ok (.iload 4, 2) := by decide +kernel
theorem dX9_choose_63 : decode cX9_choose 63 = .ok (.iload 5, 2) := by decide +kernel
theorem dX9_choose_65 : decode cX9_choose 65 = .ok (.invokevirtual 94, 3) := by decide +kernel
theorem dX9_choose_68 : decode cX9_choose 68 = .ok (.iload 6, 2) := by decide +kernel
theorem dX9_choose_70 : decode cX9_choose 70 = .ok (.ireturn, 1) := by decide +kernel
theorem dX9_product_0 : decode cX9_product 0 = .ok (.aload_n 0, 1) := by decide +kernel
theorem dX9_product_1 : decode cX9_product 1 = .ok (.iload_n 1, 1) := by decide +kernel
theorem dX9_product_2 : decode cX9_product 2 = .ok (.iload_n 2, 1) := by decide +kernel
theorem dX9_product_3 : decode cX9_product 3 = .ok (.invokevirtual 98, 3) := by decide +kernel
theorem dX9_product_6 : decode cX9_product 6 = .ok (.ifCond .eq 19, 3) := by decide +kernel
theorem dX9_product_9 : decode cX9_product 9 = .ok (.aload_n 0, 1) := by decide +kernel
theorem dX9_product_10 : decode cX9_product 10 = .ok (.getfield 9, 3) := by decide +kernel
theorem dX9_product_13 : decode cX9_product 13 = .ok (.iload_n 1, 1) := by decide +kernel
theorem dX9_product_14 : decode cX9_product 14 = .ok (.iaload, 1) := by decide +kernel
theorem dX9_product_15 : decode cX9_product 15 = .ok (.aload_n 0, 1) := by decide +kernel
theorem dX9_product_16 : decode cX9_product 16 = .ok (.getfield 15, 3) := by decide +kernel
theorem dX9_product_19 : decode cX9_product 19 = .ok (.iload_n 2, 1) := by decide +kernel
theorem dX9_product_20 : decode cX9_product 20 = .ok (.iaload, 1) := by decide +kernel
theorem dX9_product_21 : decode cX9_product 21 = .ok (.imul, 1) := by decide +kernel
theorem dX9_product_22 : decode cX9_product 22 = .ok (.goto 4, 3) := by decide +kernel
theorem dX9_product_25 : decode cX9_product 25 = .ok (.iconst 0, 1) := by decide +kernel
theorem dX9_product_26 : decode cX9_product 26 = .ok (.ireturn, 1) := by decide +kernel
theorem dX9_over_0 : decode cX9_over 0 = .ok (.aload_n 0, 1) := by decide +kernel
theorem dX9_over_1 : decode cX9_over 1 = .ok (.getfield 41, 3) := by decide +kernel
theorem dX9_over_4 : decode cX9_over 4 = .ok (.ifCond .gt 7, 3) := by decide +kernel
theorem dX9_over_7 : decode cX9_over 7 = .ok (.fconst 0, 1) := by decide +kernel
theorem dX9_over_8 : decode cX9_over 8 = .ok (.goto 16, 3) := by decide +kernel
theorem dX9_over_11 : decode cX9_over 11 = .ok (.aload_n 0, 1) := by decide +kernel
theorem dX9_over_12 : decode cX9_over 12 = .ok (.iload_n 1, 1) := by decide +kernel
theorem dX9_over_13 : decode cX9_over 13 = .ok (.iload_n 2, 1) := by decide +kernel
theorem dX9_over_14 : decode cX9_over 14 = .ok (.invokevirtual 101, 3) := by decide +kernel
theorem dX9_over_17 : decode cX9_over 17 = .ok (.i2f, 1) := by decide +kernel
theorem dX9_over_18 : decode cX9_over 18 = .ok (.aload_n 0, 1) := by decide +kernel
theorem dX9_over_19 : decode cX9_over 19 = .ok (.getfield 41, 3) := by decide +kernel
theorem dX9_over_22 : decode cX9_over 22 = .ok (.i2f, 1) := by decide +kernel
theorem dX9_over_23 : decode cX9_over 23 = .ok (.fdiv, 1) := by decide +kernel
theorem dX9_over_24 : decode cX9_over 24 = .ok (.fstore_n 3, 1) := by decide +kernel
theorem dX9_over_25 : decode cX9_over 25 = .ok (.aload_n 0, 1) := by decide +kernel
theorem dX9_over_26 : decode cX9_over 26 = .ok (.iload_n 1, 1) := by decide +kernel
theorem dX9_over_27 : decode cX9_over 27 = .ok (.iload_n 2, 1) := by decide +kernel
theorem dX9_over_28 : decode cX9_over 28 = .ok (.invokevirtual 70, 3) := by decide +kernel
theorem dX9_over_31 : decode cX9_over 31 = .ok (.i2f, 1) := by decide +kernel
theorem dX9_over_32 : decode cX9_over 32 = .ok (.fload_n 3, 1) := by decide +kernel
theorem dX9_over_33 : decode cX9_over 33 = .ok (.fsub, 1) := by decide +kernel
theorem dX9_over_34 : decode cX9_over 34 = .ok (.freturn, 1) := by decide +kernel
theorem dX9_chiSum_0 : decode cX9_chiSum 0 = .ok (.dconst 0, 1) := by decide +kernel
theorem dX9_chiSum_1 : decode cX9_chiSum 1 = .ok (.dstore_n 1, 1) := by decide +kernel
theorem dX9_chiSum_2 : decode cX9_chiSum 2 = .ok (.iconst 0, 1) := by decide +kernel
theorem dX9_chiSum_3 : decode cX9_chiSum 3 = .ok (.istore_n 3, 1) := by decide +kernel
theorem dX9_chiSum_4 : decode cX9_chiSum 4 = .ok (.iload_n 3, 1) := by decide +kernel
theorem dX9_chiSum_5 : decode cX9_chiSum 5 = .ok (.aload_n 0, 1) := by decide +kernel
theorem dX9_chiSum_6 : decode cX9_chiSum 6 = .ok (.getfield 28, 3) := by decide +kernel
theorem dX9_chiSum_9 : decode cX9_chiSum 9 = .ok (.if_icmp .ge 85, 3) := by decide +kernel
theorem dX9_chiSum_12 : decode cX9_chiSum 12 = .ok (.iconst 0, 1) := by decide +kernel
theorem dX9_chiSum_13 : decode cX9_chiSum 13 = .ok (.istore 4, 2) := by decide +kernel
theorem dX9_chiSum_15 : decode cX9_chiSum 15 = .ok (.iload 4, 2) := by decide +kernel
theorem dX9_chiSum_17 : decode cX9_chiSum 17 = .ok (.aload_n 0, 1) := by decide +kernel
theorem dX9_chiSum_18 : decode cX9_chiSum 18 = .ok (.getfield 32, 3) := by decide +kernel
theorem dX9_chiSum_21 : decode cX9_chiSum 21 = .ok (.if_icmp .ge 67, 3) := by decide +kernel
theorem dX9_chiSum_24 : decode cX9_chiSum 24 = .ok (.aload_n 0, 1) := by decide +kernel
theorem dX9_chiSum_25 : decode cX9_chiSum 25 = .ok (.getfield 41, 3) := by decide +kernel
theorem dX9_chiSum_28 : decode cX9_chiSum 28 = .ok (.ifCond .gt 7, 3) := by decide +kernel
theorem dX9_chiSum_31 : decode cX9_chiSum 31 = .ok (.dconst 0, 1) := by decide +kernel
theorem dX9_chiSum_32 : decode cX9_chiSum 32 = .ok (.goto 17, 3) := by decide +kernel
theorem dX9_chiSum_35 : decode cX9_chiSum 35 = .ok (.aload_n 0, 1) := by decide +kernel
theorem dX9_chiSum_36 : decode cX9_chiSum 36 = .ok (.iload_n 3, 1) := by decide +kernel
theorem dX9_chiSum_37 : decode cX9_chiSum 37 = .ok (.iload 4, 2) := by decide +kernel
theorem dX9_chiSum_39 : decode cX9_chiSum 39 = .ok (.invokevirtual 101, 3) := by decide +kernel
theorem dX9_chiSum_42 : decode cX9_chiSum 42 = .ok (.i2d, 1) := by decide +kernel
theorem dX9_chiSum_43 : decode cX9_chiSum 43 = .ok (.aload_n 0, 1) := by decide +kernel
theorem dX9_chiSum_44 : decode cX9_chiSum 44 = .ok (.getfield 41, 3) := by decide +kernel
theorem dX9_chiSum_47 : decode cX9_chiSum 47 = .ok (.i2d, 1) := by decide +kernel
theorem dX9_chiSum_48 : decode cX9_chiSum 48 = .ok (.ddiv, 1) := by decide +kernel
theorem dX9_chiSum_49 : decode cX9_chiSum 49 = .ok (.dstore 5, 2) := by decide +kernel
theorem dX9_chiSum_51 : decode cX9_chiSum 51 = .ok (.dload 5, 2) := by decide +kernel
theorem dX9_chiSum_53 : decode cX9_chiSum 53 = .ok (.dconst 0, 1) := by decide +kernel
theorem dX9_chiSum_54 : decode cX9_chiSum 54 = .ok (.dcmp .l, 1) := by decide +kernel
theorem dX9_chiSum_55 : decode cX9_chiSum 55 = .ok (.ifCond .le 27, 3) := by decide +kernel
theorem dX9_chiSum_58 : decode cX9_chiSum 58 = .ok (.aload_n 0, 1) := by decide +kernel
theorem dX9_chiSum_59 : decode cX9_chiSum 59 = .ok (.iload_n 3, 1) := by decide +kernel
theorem dX9_chiSum_60 : decode cX9_chiSum 60 = .ok (.iload 4, 2) := by decide +kernel
theorem dX9_chiSum_62 : decode cX9_chiSum 62 = .ok (.invokevirtual 70, 3) := by decide +kernel
theorem dX9_chiSum_65 : decode cX9_chiSum 65 = .ok (.i2d, 1) := by decide +kernel
theorem dX9_chiSum_66 : decode cX9_chiSum 66 = .ok (.dload 5, 2) := by decide +kernel
theorem dX9_chiSum_68 : decode cX9_chiSum 68 = .ok (.dsub, 1) := by decide +kernel
theorem dX9_chiSum_69 : decode cX9_chiSum 69 = .ok (.dstore 7, 2) := by decide +kernel
theorem dX9_chiSum_71 : decode cX9_chiSum 71 = .ok (.dload_n 1, 1) := by decide +kernel
theorem dX9_chiSum_72 : decode cX9_chiSum 72 = .ok (.dload 7, 2) := by decide +kernel
theorem dX9_chiSum_74 : decode cX9_chiSum 74 = .ok (.dload 7, 2) := by decide +kernel
theorem dX9_chiSum_76 : decode cX9_chiSum 76 = .ok (.dmul, 1) := by decide +kernel
theorem dX9_chiSum_77 : decode cX9_chiSum 77 = .ok (.dload 5, 2) := by decide +kernel
theorem dX9_chiSum_79 : decode cX9_chiSum 79 = .ok (.ddiv, 1) := by decide +kernel
theorem dX9_chiSum_80 : decode cX9_chiSum 80 = .ok (.dadd, 1) := by decide +kernel
theorem dX9_chiSum_81 : decode cX9_chiSum 81 = .ok (.dstore_n 1, 1) := by decide +kernel
theorem dX9_chiSum_82 : decode cX9_chiSum 82 = .ok (.iinc 4 1, 3) := by decide +kernel
theorem dX9_chiSum_85 : decode cX9_chiSum 85 = .ok (.goto (-70), 3) := by decide +kernel
theorem dX9_chiSum_88 : decode cX9_chiSum 88 = .ok (.iinc 3 1, 3) := by decide +kernel
theorem dX9_chiSum_91 : decode cX9_chiSum 91 = .ok (.goto (-87), 3) := by decide +kernel
theorem dX9_chiSum_94 : decode cX9_chiSum 94 = .ok (.dload_n 1, 1) := by decide +kernel
theorem dX9_chiSum_95 : decode cX9_chiSum 95 = .ok (.dreturn, 1) := by decide +kernel
theorem dX10_init_0 : decode cX10_init 0 = .ok (.aload_n 0, 1) := by decide +kernel
theorem dX10_init_1 : decode cX10_init 1 = .ok (.invokespecial 1, 3) := by decide +kernel
theorem dX10_init_4 : decode cX10_init 4 = .ok (.aload_n 0, 1) := by decide +kernel
theorem dX10_init_5 : decode cX10_init 5 = .ok (.sipush 300, 3) := by decide +kernel
theorem dX10_init_8 : decode cX10_init 8 = .ok (.newarray .int, 2) := by decide +kernel
theorem dX10_init_10 : decode cX10_init 10 = .ok (.putfield 9, 3) := by decide +kernel
theorem dX10_init_13 : decode cX10_init 13 = .ok (.return_, 1) := by decide +kernel
theorem dX10_hasRoom_0 : decode cX10_hasRoom 0 = .ok (.aload_n 0, 1) := by decide +kernel
theorem dX10_hasRoom_1 : decode cX10_hasRoom 1 = .ok (.getfield 13, 3) := by decide +kernel
theorem dX10_hasRoom_4 : decode cX10_hasRoom 4 = .ok (.bipush 20, 2) := by decide +kernel
theorem dX10_hasRoom_6 : decode cX10_hasRoom 6 = .ok (.iadd, 1) := by decide +kernel
theorem dX10_hasRoom_7 : decode cX10_hasRoom 7 = .ok (.sipush 300, 3) := by decide +kernel
theorem dX10_hasRoom_10 : decode cX10_hasRoom 10 = .ok (.if_icmp .gt 7, 3) := by decide +kernel
theorem dX10_hasRoom_13 : decode cX10_hasRoom 13 = .ok (.iconst 1, 1) := by decide +kernel
theorem dX10_hasRoom_14 : decode cX10_hasRoom 14 = .ok (.goto 4, 3) := by decide +kernel
theorem dX10_hasRoom_17 : decode cX10_hasRoom 17 = .ok (.iconst 0, 1) := by decide +kernel
theorem dX10_hasRoom_18 : decode cX10_hasRoom 18 = .ok (.ireturn, 1) := by decide +kernel
theorem dX10_put_0 : decode cX10_put 0 = .ok (.bipush 24, 2) := by decide +kernel
theorem dX10_put_2 : decode cX10_put 2 = .ok (.istore_n 2, 1) := by decide +kernel
theorem dX10_put_3 : decode cX10_put 3 = .ok (.iload_n 2, 1) := by decide +kernel
theorem dX10_put_4 : decode cX10_put 4 = .ok (.ifCond .lt 52, 3) := by decide +kernel
theorem dX10_put_7 : decode cX10_put 7 = .ok (.aload_n 0, 1) := by decide +kernel
theorem dX10_put_8 : decode cX10_put 8 = .ok (.getfield 13, 3) := by decide +kernel
theorem dX10_put_11 : decode cX10_put 11 = .ok (.ifCond .lt 39, 3) := by decide +kernel
theorem dX10_put_14 : decode cX10_put 14 = .ok (.aload_n 0, 1) := by decide +kernel
theorem dX10_put_15 : decode cX10_put 15 = .ok (.getfield 13, 3) := by decide +kernel
theorem dX10_put_18 : decode cX10_put 18 = .ok (.sipush 300, 3) := by decide +kernel
theorem dX10_put_21 : decode cX10_put 21 = .ok (.if_icmp .ge 29, 3) := by decide +kernel
theorem dX10_put_24 : decode cX10_put 24 = .ok (.aload_n 0, 1) := by decide +kernel
theorem dX10_put_25 : decode cX10_put 25 = .ok (.getfield 9, 3) := by decide +kernel
theorem dX10_put_28 : decode cX10_put 28 = .ok (.aload_n 0, 1) := by decide +kernel
theorem dX10_put_29 : decode cX10_put 29 = .ok (.getfield 13, 3) := by decide +kernel
theorem dX10_put_32 : decode cX10_put 32 = .ok (.iload_n 1, 1) := by decide +kernel
theorem dX10_put_33 : decode cX10_put 33 = .ok (.iload_n 2, 1) := by decide +kernel
theorem dX10_put_34 : decode cX10_put 34 = .ok (.iushr, 1) := by decide +kernel
theorem dX10_put_35 : decode cX10_put 35 = .ok (.sipush 255, 3) := by decide +kernel
theorem dX10_put_38 : decode cX10_put 38 = .ok (.iand, 1) := by decide +kernel
theorem dX10_put_39 : decode cX10_put 39 = .ok (.iastore, 1) := by decide +kernel
theorem dX10_put_40 : decode cX10_put 40 = .ok (.aload_n 0, 1) := by decide +kernel
theorem dX10_put_41 : decode cX10_put 41 = .ok (.dup, 1) := by decide +kernel
theorem dX10_put_42 : decode cX10_put 42 = .ok (.getfield 13, 3) := by decide +kernel
theorem dX10_put_45 : decode cX10_put 45 = .ok (.iconst 1, 1) := by decide +kernel
theorem dX10_put_46 : decode cX10_put 46 = .ok (.iadd, 1) := by decide +kernel
theorem dX10_put_47 : decode cX10_put 47 = .ok (.putfield 13, 3) := by decide +kernel
theorem dX10_put_50 : decode cX10_put 50 = .ok (.iinc 2 (-8), 3) := by decide +kernel
theorem dX10_put_53 : decode cX10_put 53 = .ok (.goto (-50), 3) := by decide +kernel
theorem dX10_put_56 : decode cX10_put 56 = .ok (.return_, 1) := by decide +kernel
theorem dX10_byteAt_0 : decode cX10_byteAt 0 = .ok (.iload_n 1, 1) := by decide +kernel
theorem dX10_byteAt_1 : decode cX10_byteAt 1 = .ok (.ifCond .lt 27, 3) := by decide +kernel
theorem dX10_byteAt_4 : decode cX10_byteAt 4 = .ok (.iload_n 1, 1) := by decide +kernel
theorem dX10_byteAt_5 : decode cX10_byteAt 5 = .ok (.aload_n 0, 1) := by decide +kernel
theorem dX10_byteAt_6 : decode cX10_byteAt 6 = .ok (.getfield 13, 3) := by decide +kernel
theorem dX10_byteAt_9 : decode cX10_byteAt 9 = .ok (.if_icmp .ge 19, 3) := by decide +kernel
theorem dX10_byteAt_12 : decode cX10_byteAt 12 = .ok (.iload_n 1, 1) := by decide +kernel
theorem dX10_byteAt_13 : decode cX10_byteAt 13 = .ok (.sipush 300, 3) := by decide +kernel
theorem dX10_byteAt_16 : decode cX10_byteAt 16 = .ok (.if_icmp .ge 12, 3) := by decide +kernel
theorem dX10_byteAt_19 : decode cX10_byteAt 19 = .ok (.aload_n 0, 1) := by decide +kernel
theorem dX10_byteAt_20 : decode cX10_byteAt 20 = .ok (.getfield 9, 3) := by decide +kernel
theorem dX10_byteAt_23 : decode cX10_byteAt 23 = .ok (.iload_n 1, 1) := by decide +kernel
theorem dX10_byteAt_24 : decode cX10_byteAt 24 = .ok (.iaload, 1) := by decide +kernel
theorem dX10_byteAt_25 : decode cX10_byteAt 25 = .ok (.goto 4, 3) := by decide +kernel
theorem dX10_byteAt_28 : decode cX10_byteAt 28 = .ok (.iconst 0, 1) := by decide +kernel
theorem dX10_byteAt_29 : decode cX10_byteAt 29 = .ok (.ireturn, 1) := by decide +kernel
theorem dX11_init_0 : decode cX11_init 0 = .ok (.aload_n 0, 1) := by decide +kernel
theorem dX11_init_1 : decode cX11_init 1 = .ok (.invokespecial 3, 3) := by decide +kernel
theorem dX11_init_4 : decode cX11_init 4 = .ok (.aload_n 0, 1) := by decide +kernel
theorem dX11_init_5 : decode cX11_init 5 = .ok (.new 9, 3) := by decide +kernel
theorem dX11_init_8 : decode cX11_init 8 = .ok (.dup, 1) := by decide +kernel
theorem dX11_init_9 : decode cX11_init 9 = .ok (.invokespecial 11, 3) := by decide +kernel
theorem dX11_init_12 : decode cX11_init 12 = .ok (.putfield 12, 3) := by decide +kernel
theorem dX11_init_15 : decode cX11_init 15 = .ok (.aload_n 0, 1) := by decide +kernel
theorem dX11_init_16 : decode cX11_init 16 = .ok (.new 16, 3) := by decide +kernel
theorem dX11_init_19 : decode cX11_init 19 = .ok (.dup, 1) := by decide +kernel
theorem dX11_init_20 : decode cX11_init 20 = .ok (.invokespecial 18, 3) := by decide +kernel
theorem dX11_init_23 : decode cX11_init 23 = .ok (.putfield 19, 3) := by decide +kernel
theorem dX11_init_26 : decode cX11_init 26 = .ok (.aload_n 0, 1) := by decide +kernel
theorem dX11_init_27 : decode cX11_init 27 = .ok (.new 23, 3) := by decide +kernel
theorem dX11_init_30 : decode cX11_init 30 = .ok (.dup, 1) := by decide +kernel
theorem dX11_init_31 : decode cX11_init 31 = .ok (.invokespecial 25, 3) := by decide +kernel
theorem dX11_init_34 : decode cX11_init 34 = .ok (.putfield 26, 3) := by decide +kernel
theorem dX11_init_37 : decode cX11_init 37 = .ok (.aload_n 0, 1) := by decide +kernel
theorem dX11_init_38 : decode cX11_init 38 = .ok (.new 30, 3) := by decide +kernel
theorem dX11_init_41 : decode cX11_init 41 = .ok (.dup, 1) := by decide +kernel
theorem dX11_init_42 : decode cX11_init 42 = .ok (.invokespecial 32, 3) := by decide +kernel
theorem dX11_init_45 : decode cX11_init 45 = .ok (.putfield 33, 3) := by decide +kernel
theorem dX11_init_48 : decode cX11_init 48 = .ok (.aload_n 0, 1) := by decide +kernel
theorem dX11_init_49 : decode cX11_init 49 = .ok (.new 37, 3) := by decide +kernel
theorem dX11_init_52 : decode cX11_init 52 = .ok (.dup, 1) := by decide +kernel
theorem dX11_init_53 : decode cX11_init 53 = .ok (.invokespecial 39, 3) := by decide +kernel
theorem dX11_init_56 : decode cX11_init 56 = .ok (.putfield 40, 3) := by decide +kernel
theorem dX11_init_59 : decode cX11_init 59 = .ok (.aload_n 0, 1) := by decide +kernel
theorem dX11_init_60 : decode cX11_init 60 = .ok (.new 44, 3) := by decide +kernel
theorem dX11_init_63 : decode cX11_init 63 = .ok (.dup, 1) := by decide +kernel
theorem dX11_init_64 : decode cX11_init 64 = .ok (.invokespecial 46, 3) := by decide +kernel
theorem dX11_init_67 : decode cX11_init 67 = .ok (.putfield 47, 3) := by decide +kernel
theorem dX11_init_70 : decode cX11_init 70 = .ok (.aload_n 0, 1) := by decide +kernel
theorem dX11_init_71 : decode cX11_init 71 = .ok (.new 51, 3) := by decide +kernel
theorem dX11_init_74 : decode cX11_init 74 = .ok (.dup, 1) := by decide +kernel
theorem dX11_init_75 : decode cX11_init 75 = .ok (.aload_n 0, 1) := by decide +kernel
theorem dX11_init_76 : decode cX11_init 76 = .ok (.getfield 47, 3) := by decide +kernel
theorem dX11_init_79 : decode cX11_init 79 = .ok (.invokespecial 53, 3) := by decide +kernel
theorem dX11_init_82 : decode cX11_init 82 = .ok (.putfield 56, 3) := by decide +kernel
theorem dX11_init_85 : decode cX11_init 85 = .ok (.aload_n 0, 1) := by decide +kernel
theorem dX11_init_86 : decode cX11_init 86 = .ok (.new 60, 3) := by decide +kernel
theorem dX11_init_89 : decode cX11_init 89 = .ok (.dup, 1) := by decide +kernel
theorem dX11_init_90 : decode cX11_init 90 = .ok (.aload_n 0, 1) := by decide +kernel
theorem dX11_init_91 : decode cX11_init 91 = .ok (.getfield 47, 3) := by decide +kernel
theorem dX11_init_94 : decode cX11_init 94 = .ok (.aload_n 0, 1) := by decide +kernel
theorem dX11_init_95 : decode cX11_init 95 = .ok (.getfield 40, 3) := by decide +kernel
theorem dX11_init_98 : decode cX11_init 98 = .ok (.invokespecial 62, 3) := by decide +kernel
theorem dX11_init_101 : decode cX11_init 101 = .ok (.putfield 65, 3) := by decide +kernel
theorem dX11_init_104 : decode cX11_init 104 = .ok (.return_, 1) := by decide +kernel
theorem dX11_feed_0 : decode cX11_feed 0 = .ok (.aload_n 0, 1) := by decide +kernel
theorem dX11_feed_1 : decode cX11_feed 1 = .ok (.getfield 12, 3) := by decide +kernel
theorem dX11_feed_4 : decode cX11_feed 4 = .ok (.invokevirtual 69, 3) := by decide +kernel
theorem dX11_feed_7 : decode cX11_feed 7 = .ok (.ifCond .ne 5, 3) := by decide +kernel
theorem dX11_feed_10 : decode cX11_feed 10 = .ok (.iconst (-1), 1) := by decide +kernel
theorem dX11_feed_11 : decode cX11_feed 11 = .ok (.ireturn, 1) := by decide +kernel
theorem dX11_feed_12 : decode cX11_feed 12 = .ok (.aload_n 0, 1) := by decide +kernel
theorem dX11_feed_13 : decode cX11_feed 13 = .ok (.getfield 12, 3) := by decide +kernel
theorem dX11_feed_16 : decode cX11_feed 16 = .ok (.iload_n 1, 1) := by decide +kernel
theorem dX11_feed_17 : decode cX11_feed 17 = .ok (.invokevirtual 73, 3) := by decide +kernel
theorem dX11_feed_20 : decode cX11_feed 20 = .ok (.aload_n 0, 1) := by decide +kernel
theorem dX11_feed_21 : decode cX11_feed 21 = .ok (.getfield 12, 3) := by decide +kernel
theorem dX11_feed_24 : decode cX11_feed 24 = .ok (.iload_n 2, 1) := by decide +kernel
theorem dX11_feed_25 : decode cX11_feed 25 = .ok (.invokevirtual 73, 3) := by decide +kernel
theorem dX11_feed_28 : decode cX11_feed 28 = .ok (.aload_n 0, 1) := by decide +kernel
theorem dX11_feed_29 : decode cX11_feed 29 = .ok (.getfield 12, 3) := by decide +kernel
theorem dX11_feed_32 : decode cX11_feed 32 = .ok (.iload_n 3, 1) := by decide +kernel
theorem dX11_feed_33 : decode cX11_feed 33 = .ok (.invokevirtual 73, 3) := by decide +kernel
theorem dX11_feed_36 : decode cX11_feed 36 = .ok (.aload_n 0, 1) := by decide +kernel
theorem dX11_feed_37 : decode cX11_feed 37 = .ok (.getfield 12, 3) := by decide +kernel
theorem dX11_feed_40 : decode cX11_feed 40 = .ok (.iload 4, 2) := by decide +kernel
theorem dX11_feed_42 : decode cX11_feed 42 = .ok (.invokevirtual 73, 3) := by decide +kernel
theorem dX11_feed_45 : decode cX11_feed 45 = .ok (.aload_n 0, 1) := by decide +kernel
theorem dX11_feed_46 : decode cX11_feed 46 = .ok (.getfield 12, 3) := by decide +kernel
theorem dX11_feed_49 : decode cX11_feed 49 = .ok (.iload 5, 2) := by decide +kernel
theorem dX11_feed_51 : decode cX11_feed 51 = .ok (.invokevirtual 73, 3) := by decide +kernel
theorem dX11_feed_54 : decode cX11_feed 54 = .ok (.aload_n 0, 1) := by decide +kernel
theorem dX11_feed_55 : decode cX11_feed 55 = .ok (.getfield 12, 3) := by decide +kernel
theorem dX11_feed_58 : decode cX11_feed 58 = .ok (.getfield 77, 3) := by decide +kernel
theorem dX11_feed_61 : decode cX11_feed 61 = .ok (.ireturn, 1) := by decide +kernel
theorem dX11_end_0 : decode cX11_end 0 = .ok (.iload_n 1, 1) := by decide +kernel
theorem dX11_end_1 : decode cX11_end 1 = .ok (.ifCond .lt 14, 3) := by decide +kernel
theorem dX11_end_4 : decode cX11_end 4 = .ok (.iload_n 1, 1) := by decide +kernel
theorem dX11_end_5 : decode cX11_end 5 = .ok (.aload_n 0, 1) := by decide +kernel
theorem dX11_end_6 : decode cX11_end 6 = .ok (.getfield 12, 3) := by decide +kernel
theorem dX11_end_9 : decode cX11_end 9 = .ok (.getfield 77, 3) := by decide +kernel
theorem dX11_end_12 : decode cX11_end 12 = .ok (.if_icmp .le 5, 3) := by decide +kernel
theorem dX11_end_15 : decode cX11_end 15 = .ok (.iconst (-1), 1) := by decide +kernel
theorem dX11_end_16 : decode cX11_end 16 = .ok (.ireturn, 1) := by decide +kernel
theorem dX11_end_17 : decode cX11_end 17 = .ok (.aload_n 0, 1) := by decide +kernel
theorem dX11_end_18 : decode cX11_end 18 = .ok (.getfield 12, 3) := by decide +kernel
theorem dX11_end_21 : decode cX11_end 21 = .ok (.iload_n 1, 1) := by decide +kernel
theorem dX11_end_22 : decode cX11_end 22 = .ok (.putfield 77, 3) := by decide +kernel
theorem dX11_end_25 : decode cX11_end 25 = .ok (.iload_n 1, 1) := by decide +kernel
theorem dX11_end_26 : decode cX11_end 26 = .ok (.ireturn, 1) := by decide +kernel
theorem dX11_table_0 : decode cX11_table 0 = .ok (.aload_n 0, 1) := by decide +kernel
theorem dX11_table_1 : decode cX11_table 1 = .ok (.getfield 19, 3) := by decide +kernel
theorem dX11_table_4 : decode cX11_table 4 = .ok (.aload_n 0, 1) := by decide +kernel
theorem dX11_table_5 : decode cX11_table 5 = .ok (.getfield 12, 3) := by decide +kernel
theorem dX11_table_8 : decode cX11_table 8 = .ok (.invokevirtual 81, 3) := by decide +kernel
theorem dX11_table_11 : decode cX11_table 11 = .ok (.istore_n 1, 1) := by decide +kernel
theorem dX11_table_12 : decode cX11_table 12 = .ok (.aload_n 0, 1) := by decide +kernel
theorem dX11_table_13 : decode cX11_table 13 = .ok (.getfield 12, 3) := by decide +kernel
theorem dX11_table_16 : decode cX11_table 16 = .ok (.iconst 0, 1) := by decide +kernel
theorem dX11_table_17 : decode cX11_table 17 = .ok (.putfield 77, 3) := by decide +kernel
theorem dX11_table_20 : decode cX11_table 20 = .ok (.iload_n 1, 1) := by decide +kernel
theorem dX11_table_21 : decode cX11_table 21 = .ok (.ifCond .ne 6, 3) := by decide +kernel
theorem dX11_table_24 : decode cX11_table 24 = .ok (.bipush (-4), 2) := by decide +kernel
theorem dX11_table_26 : decode cX11_table 26 = .ok (.ireturn, 1) := by decide +kernel
theorem dX11_table_27 : decode cX11_table 27 = .ok (.aload_n 0, 1) := by decide +kernel
theorem dX11_table_28 : decode cX11_table 28 = .ok (.getfield 26, 3) := by decide +kernel
theorem dX11_table_31 : decode cX11_table 31 = .ok (.aload_n 0, 1) := by decide +kernel
theorem dX11_table_32 : decode cX11_table 32 = .ok (.getfield 19, 3) := by decide +kernel
theorem dX11_table_35 : decode cX11_table 35 = .ok (.invokevirtual 85, 3) := by decide +kernel
theorem dX11_table_38 : decode cX11_table 38 = .ok (.aload_n 0, 1) := by decide +kernel
theorem dX11_table_39 : decode cX11_table 39 = .ok (.getfield 26, 3) := by decide +kernel
theorem dX11_table_42 : decode cX11_table 42 = .ok (.invokevirtual 89, 3) := by decide +kernel
theorem dX11_table_45 : decode cX11_table 45 = .ok (.ifCond .eq 25, 3) := by decide +kernel
theorem dX11_table_48 : decode cX11_table 48 = .ok (.aload_n 0, 1) := by decide +kernel
theorem dX11_table_49 : decode cX11_table 49 = .ok (.getfield 40, 3) := by decide +kernel
theorem dX11_table_52 : decode cX11_table 52 = .ok (.aload_n 0, 1) := by decide +kernel
theorem dX11_table_53 : decode cX11_table 53 = .ok (.getfield 26, 3) := by decide +kernel
theorem dX11_table_56 : decode cX11_table 56 = .ok (.invokevirtual 92, 3) := by decide +kernel
theorem dX11_table_59 : decode cX11_table 59 = .ok (.aload_n 0, 1) := by decide +kernel
theorem dX11_table_60 : decode cX11_table 60 = .ok (.getfield 47, 3) := by decide +kernel
theorem dX11_table_63 : decode cX11_table 63 = .ok (.aload_n 0, 1) := by decide +kernel
theorem dX11_table_64 : decode cX11_table 64 = .ok (.getfield 26, 3) := by decide +kernel
theorem dX11_table_67 : decode cX11_table 67 = .ok (.invokevirtual 96, 3) := by decide +kernel
theorem dX11_table_70 : decode cX11_table 70 = .ok (.aload_n 0, 1) := by decide +kernel
theorem dX11_table_71 : decode cX11_table 71 = .ok (.getfield 56, 3) := by decide +kernel
theorem dX11_table_74 : decode cX11_table 74 = .ok (.invokevirtual 97, 3) := by decide +kernel
theorem dX11_table_77 : decode cX11_table 77 = .ok (.aload_n 0, 1) := by decide +kernel
theorem dX11_table_78 : decode cX11_table 78 = .ok (.getfield 65, 3) := by decide +kernel
theorem dX11_table_81 : decode cX11_table 81 = .ok (.invokevirtual 100, 3) := by decide +kernel
theorem dX11_table_84 : decode cX11_table 84 = .ok (.aload_n 0, 1) := by decide +kernel
theorem dX11_table_85 : decode cX11_table 85 = .ok (.getfield 26, 3) := by decide +kernel
theorem dX11_table_88 : decode cX11_table 88 = .ok (.getfield 101, 3) := by decide +kernel
theorem dX11_table_91 : decode cX11_table 91 = .ok (.ireturn, 1) := by decide +kernel
theorem dX11_fault_0 : decode cX11_fault 0 = .ok (.iload_n 1, 1) := by decide +kernel
theorem dX11_fault_1 : decode cX11_fault 1 = .ok (.lookupswitch 43 #[(0, 27), (1, 35)], 27) := by decide +kernel
theorem dX11_fault_28 : decode cX11_fault 28 = .ok (.aload_n 0, 1) := by decide +kernel
theorem dX11_fault_29 : decode cX11_fault 29 = .ok (.getfield 19, 3) := by decide +kernel
theorem dX11_fault_32 : decode cX11_fault 32 = .ok (.getfield 104, 3) := by decide +kernel
theorem dX11_fault_35 : decode cX11_fault 35 = .ok (.ireturn, 1) := by decide +kernel
theorem dX11_fault_36 : decode cX11_fault 36 = .ok (.aload_n 0, 1) := by decide +kernel
theorem dX11_fault_37 : decode cX11_fault 37 = .ok (.getfield 19, 3) := by decide +kernel
theorem dX11_fault_40 : decode cX11_fault 40 = .ok (.getfield 107, 3) := by decide +kernel
theorem dX11_fault_43 : decode cX11_fault 43 = .ok (.ireturn, 1) := by decide +kernel
theorem dX11_fault_44 : decode cX11_fault 44 = .ok (.iconst (-1), 1) := by decide +kernel
theorem dX11_fault_45 : decode cX11_fault 45 = .ok (.ireturn, 1) := by decide +kernel
theorem dX11_count_0 : decode cX11_count 0 = .ok (.iload_n 1, 1) := by decide +kernel
theorem dX11_count_1 : decode cX11_count 1 = .ok (.tableswitch 102 0 6 #[43, 51, 59, 67, 78, 86, 94], 43) := by decide +kernel
theorem dX11_count_44 : decode cX11_count 44 = .ok (.aload_n 0, 1) := by decide +kernel
theorem dX11_count_45 : decode cX11_count 45 = .ok (.getfield 26, 3) := by decide +kernel
theorem dX11_count_48 : decode cX11_count 48 = .ok (.getfield 110, 3) := by decide +kernel
theorem dX11_count_51 : decode cX11_count 51 = .ok (.ireturn, 1) := by decide +kernel
theorem dX11_count_52 : decode cX11_count 52 = .ok (.aload_n 0, 1) := by decide +kernel
theorem dX11_count_53 : decode cX11_count 53 = .ok (.getfield 26, 3) := by decide +kernel
theorem dX11_count_56 : decode cX11_count 56 = .ok (.getfield 113, 3) := by decide +kernel
theorem dX11_count_59 : decode cX11_count 59 = .ok (.ireturn, 1) := by decide +kernel
theorem dX11_count_60 : decode cX11_count 60 = .ok (.aload_n 0, 1) := by decide +kernel
theorem dX11_count_61 : decode cX11_count 61 = .ok (.getfield 26, 3) := by decide +kernel
theorem dX11_count_64 : decode cX11_count 64 = .ok (.getfield 116, 3) := by decide +kernel
theorem dX11_count_67 : decode cX11_count 67 = .ok (.ireturn, 1) := by decide +kernel
theorem dX11_count_68 : decode cX11_count 68 = .ok (.aload_n 0, 1) := by decide +kernel
theorem dX11_count_69 : decode cX11_count 69 = .ok (.getfield 26, 3) := by decide +kernel
theorem dX11_count_72 : decode cX11_count 72 = .ok (.getfield 119, 3) := by decide +kernel
theorem dX11_count_75 : decode cX11_count 75 = .ok (.invokestatic 122, 3) := by decide +kernel
theorem dX11_count_78 : decode cX11_count 78 = .ok (.ireturn, 1) := by decide +kernel
theorem dX11_count_79 : decode cX11_count 79 = .ok (.aload_n 0, 1) := by decide +kernel
theorem dX11_count_80 : decode cX11_count 80 = .ok (.getfield 26, 3) := by decide +kernel
theorem dX11_count_83 : decode cX11_count 83 = .ok (.getfield 128, 3) := by decide +kernel
theorem dX11_count_86 : decode cX11_count 86 = .ok (.ireturn, 1) := by decide +kernel
theorem dX11_count_87 : decode cX11_count 87 = .ok (.aload_n 0, 1) := by decide +kernel
theorem dX11_count_88 : decode cX11_count 88 = .ok (.getfield 26, 3) := by decide +kernel
theorem dX11_count_91 : decode cX11_count 91 = .ok (.getfield 101, 3) := by decide +kernel
theorem dX11_count_94 : decode cX11_count 94 = .ok (.ireturn, 1) := by decide +kernel
theorem dX11_count_95 : decode cX11_count 95 = .ok (.aload_n 0, 1) := by decide +kernel
theorem dX11_count_96 : decode cX11_count 96 = .ok (.getfield 12, 3) := by decide +kernel
theorem dX11_count_99 : decode cX11_count 99 = .ok (.getfield 77, 3) := by decide +kernel
theorem dX11_count_102 : decode cX11_count 102 = .ok (.ireturn, 1) := by decide +kernel
theorem dX11_count_103 : decode cX11_count 103 = .ok (.iconst (-1), 1) := by decide +kernel
theorem dX11_count_104 : decode cX11_count 104 = .ok (.ireturn, 1) := by decide +kernel
theorem dX11_cell_0 : decode cX11_cell 0 = .ok (.aload_n 0, 1) := by decide +kernel
theorem dX11_cell_1 : decode cX11_cell 1 = .ok (.getfield 26, 3) := by decide +kernel
theorem dX11_cell_4 : decode cX11_cell 4 = .ok (.iload_n 1, 1) := by decide +kernel
theorem dX11_cell_5 : decode cX11_cell 5 = .ok (.iload_n 2, 1) := by decide +kernel
theorem dX11_cell_6 : decode cX11_cell 6 = .ok (.invokevirtual 131, 3) := by decide +kernel
theorem dX11_cell_9 : decode cX11_cell 9 = .ok (.ifCond .eq 15, 3) := by decide +kernel
theorem dX11_cell_12 : decode cX11_cell 12 = .ok (.aload_n 0, 1) := by decide +kernel
theorem dX11_cell_13 : decode cX11_cell 13 = .ok (.getfield 26, 3) := by decide +kernel
theorem dX11_cell_16 : decode cX11_cell 16 = .ok (.iload_n 1, 1) := by decide +kernel
theorem dX11_cell_17 : decode cX11_cell 17 = .ok (.iload_n 2, 1) := by decide +kernel
theorem dX11_cell_18 : decode cX11_cell 18 = .ok (.invokevirtual 135, 3) := by decide +kernel
theorem dX11_cell_21 : decode cX11_cell 21 = .ok (.goto 5, 3) := by decide +kernel
theorem dX11_cell_24 : decode cX11_cell 24 = .ok (.bipush (-2), 2) := by decide +kernel
theorem dX11_cell_26 : decode cX11_cell 26 = .ok (.ireturn, 1) := by decide +kernel
theorem dX11_hole_0 : decode cX11_hole 0 = .ok (.aload_n 0, 1) := by decide +kernel
theorem dX11_hole_1 : decode cX11_hole 1 = .ok (.getfield 26, 3) := by decide +kernel
theorem dX11_hole_4 : decode cX11_hole 4 = .ok (.iload_n 1, 1) := by decide +kernel
theorem dX11_hole_5 : decode cX11_hole 5 = .ok (.iload_n 2, 1) := by decide +kernel
theorem dX11_hole_6 : decode cX11_hole 6 = .ok (.invokevirtual 131, 3) := by decide +kernel
theorem dX11_hole_9 : decode cX11_hole 9 = .ok (.ifCond .ne 6, 3) := by decide +kernel
theorem dX11_hole_12 : decode cX11_hole 12 = .ok (.bipush (-2), 2) := by decide +kernel
theorem dX11_hole_14 : decode cX11_hole 14 = .ok (.ireturn, 1) := by decide +kernel
theorem dX11_hole_15 : decode cX11_hole 15 = .ok (.aload_n 0, 1) := by decide +kernel
theorem dX11_hole_16 : decode cX11_hole 16 = .ok (.getfield 26, 3) := by decide +kernel
theorem dX11_hole_19 : decode cX11_hole 19 = .ok (.iload_n 1, 1) := by decide +kernel
theorem dX11_hole_20 : decode cX11_hole 20 = .ok (.iload_n 2, 1) := by decide +kernel
theorem dX11_hole_21 : decode cX11_hole 21 = .ok (.invokevirtual 139, 3) := by decide +kernel
theorem dX11_hole_24 : decode cX11_hole 24 = .ok (.ifCond .eq 7, 3) := by decide +kernel
theorem dX11_hole_27 : decode cX11_hole 27 = .ok (.iconst 1, 1) := by decide +kernel
theorem dX11_hole_28 : decode cX11_hole 28 = .ok (.goto 4, 3) := by decide +kernel
theorem dX11_hole_31 : decode cX11_hole 31 = .ok (.iconst 0, 1) := by decide +kernel
theorem dX11_hole_32 : decode cX11_hole 32 = .ok (.ireturn, 1) := by decide +kernel
theorem dX11_row_0 : decode cX11_row 0 = .ok (.aload_n 0, 1) := by decide +kernel
theorem dX11_row_1 : decode cX11_row 1 = .ok (.getfield 26, 3) := by decide +kernel
theorem dX11_row_4 : decode cX11_row 4 = .ok (.iload_n 1, 1) := by decide +kernel
theorem dX11_row_5 : decode cX11_row 5 = .ok (.iconst 0, 1) := by decide +kernel
theorem dX11_row_6 : decode cX11_row 6 = .ok (.invokevirtual 131, 3) := by decide +kernel
theorem dX11_row_9 : decode cX11_row 9 = .ok (.ifCond .eq 15, 3) := by decide +kernel
theorem dX11_row_12 : decode cX11_row 12 = .ok (.aload_n 0, 1) := by decide +kernel
theorem dX11_row_13 : decode cX11_row 13 = .ok (.getfield 26, 3) := by decide +kernel
theorem dX11_row_16 : decode cX11_row 16 = .ok (.getfield 142, 3) := by decide +kernel
theorem dX11_row_19 : decode cX11_row 19 = .ok (.iload_n 1, 1) := by decide +kernel
theorem dX11_row_20 : decode cX11_row 20 = .ok (.iaload, 1) := by decide +kernel
theorem dX11_row_21 : decode cX11_row 21 = .ok (.goto 5, 3) := by decide +kernel
theorem dX11_row_24 : decode cX11_row 24 = .ok (.bipush (-2), 2) := by decide +kernel
theorem dX11_row_26 : decode cX11_row 26 = .ok (.ireturn, 1) := by decide +kernel
theorem dX11_column_0 : decode cX11_column 0 = .ok (.aload_n 0, 1) := by decide +kernel
theorem dX11_column_1 : decode cX11_column 1 = .ok (.getfield 26, 3) := by decide +kernel
theorem dX11_column_4 : decode cX11_column 4 = .ok (.iconst 0, 1) := by decide +kernel
theorem dX11_column_5 : decode cX11_column 5 = .ok (.iload_n 1, 1) := by decide +kernel
theorem dX11_column_6 : decode cX11_column 6 = .ok (.invokevirtual 131, 3) := by decide +kernel
theorem dX11_column_9 : decode cX11_column 9 = .ok (.ifCond .eq 15, 3) := by decide +kernel
theorem dX11_column_12 : decode cX11_column 12 = .ok (.aload_n 0, 1) := by decide +kernel
theorem dX11_column_13 : decode cX11_column 13 = .ok (.getfield 26, 3) := by decide +kernel
theorem dX11_column_16 : decode cX11_column 16 = .ok (.getfield 146, 3) := by decide +kernel
theorem dX11_column_19 : decode cX11_column 19 = .ok (.iload_n 1, 1) := by decide +kernel
theorem dX11_column_20 : decode cX11_column 20 = .ok (.iaload, 1) := by decide +kernel
theorem dX11_column_21 : decode cX11_column 21 = .ok (.goto 5, 3) := by decide +kernel
theorem dX11_column_24 : decode cX11_column 24 = .ok (.bipush (-2), 2) := by decide +kernel
theorem dX11_column_26 : decode cX11_column 26 = .ok (.ireturn, 1) := by decide +kernel
theorem dX11_tables_0 : decode cX11_tables 0 = .ok (.aload_n 0, 1) := by decide +kernel
theorem dX11_tables_1 : decode cX11_tables 1 = .ok (.getfield 26, 3) := by decide +kernel
theorem dX11_tables_4 : decode cX11_tables 4 = .ok (.invokevirtual 89, 3) := by decide +kernel
theorem dX11_tables_7 : decode cX11_tables 7 = .ok (.ifCond .eq 13, 3) := by decide +kernel
theorem dX11_tables_10 : decode cX11_tables 10 = .ok (.aload_n 0, 1) := by decide +kernel
theorem dX11_tables_11 : decode cX11_tables 11 = .ok (.getfield 47, 3) := by decide +kernel
theorem dX11_tables_14 : decode cX11_tables 14 = .ok (.invokevirtual 149, 3) := by decide +kernel
theorem dX11_tables_17 : decode cX11_tables 17 = .ok (.goto 6, 3) := by decide +kernel
theorem dX11_tables_20 : decode cX11_tables 20 = .ok (.ldc2_w 153, 3) := by decide +kernel
theorem dX11_tables_23 : decode cX11_tables 23 = .ok (.lreturn, 1) := by decide +kernel
theorem dX11_rank_0 : decode cX11_rank 0 = .ok (.aload_n 0, 1) := by decide +kernel
theorem dX11_rank_1 : decode cX11_rank 1 = .ok (.getfield 26, 3) := by decide +kernel
theorem dX11_rank_4 : decode cX11_rank 4 = .ok (.invokevirtual 89, 3) := by decide +kernel
theorem dX11_rank_7 : decode cX11_rank 7 = .ok (.ifCond .eq 20, 3) := by decide +kernel
theorem dX11_rank_10 : decode cX11_rank 10 = .ok (.aload_n 0, 1) := by decide +kernel
theorem dX11_rank_11 : decode cX11_rank 11 = .ok (.getfield 47, 3) := by decide +kernel
theorem dX11_rank_14 : decode cX11_rank 14 = .ok (.aload_n 0, 1) := by decide +kernel
theorem dX11_rank_15 : decode cX11_rank 15 = .ok (.getfield 26, 3) := by decide +kernel
theorem dX11_rank_18 : decode cX11_rank 18 = .ok (.getfield 155, 3) := by decide +kernel
theorem dX11_rank_21 : decode cX11_rank 21 = .ok (.invokevirtual 159, 3) := by decide +kernel
theorem dX11_rank_24 : decode cX11_rank 24 = .ok (.goto 6, 3) := by decide +kernel
theorem dX11_rank_27 : decode cX11_rank 27 = .ok (.ldc2_w 153, 3) := by decide +kernel
theorem dX11_rank_30 : decode cX11_rank 30 = .ok (.lreturn, 1) := by decide +kernel
theorem dX11_of_0 : decode cX11_of 0 = .ok (.aload_n 0, 1) := by decide +kernel
theorem dX11_of_1 : decode cX11_of 1 = .ok (.getfield 26, 3) := by decide +kernel
theorem dX11_of_4 : decode cX11_of 4 = .ok (.iload_n 3, 1) := by decide +kernel
theorem dX11_of_5 : decode cX11_of 5 = .ok (.iload 4, 2) := by decide +kernel
theorem dX11_of_7 : decode cX11_of 7 = .ok (.invokevirtual 131, 3) := by decide +kernel
theorem dX11_of_10 : decode cX11_of 10 = .ok (.ifCond .eq 21, 3) := by decide +kernel
theorem dX11_of_13 : decode cX11_of 13 = .ok (.lload_n 1, 1) := by decide +kernel
theorem dX11_of_14 : decode cX11_of 14 = .ok (.lconst 0, 1) := by decide +kernel
theorem dX11_of_15 : decode cX11_of 15 = .ok (.lcmp, 1) := by decide +kernel
theorem dX11_of_16 : decode cX11_of 16 = .ok (.ifCond .lt 15, 3) := by decide +kernel
theorem dX11_of_19 : decode cX11_of 19 = .ok (.lload_n 1, 1) := by decide +kernel
theorem dX11_of_20 : decode cX11_of 20 = .ok (.aload_n 0, 1) := by decide +kernel
theorem dX11_of_21 : decode cX11_of 21 = .ok (.getfield 47, 3) := by decide +kernel
theorem dX11_of_24 : decode cX11_of 24 = .ok (.invokevirtual 149, 3) := by decide +kernel
theorem dX11_of_27 : decode cX11_of 27 = .ok (.lcmp, 1) := by decide +kernel
theorem dX11_of_28 : decode cX11_of 28 = .ok (.ifCond .lt 6, 3) := by decide +kernel
theorem dX11_of_31 : decode cX11_of 31 = .ok (.bipush (-2), 2) := by decide +kernel
theorem dX11_of_33 : decode cX11_of 33 = .ok (.ireturn, 1) := by decide +kernel
theorem dX11_of_34 : decode cX11_of 34 = .ok (.aload_n 0, 1) := by decide +kernel
theorem dX11_of_35 : decode cX11_of 35 = .ok (.getfield 47, 3) := by decide +kernel
theorem dX11_of_38 : decode cX11_of 38 = .ok (.lload_n 1, 1) := by decide +kernel
theorem dX11_of_39 : decode cX11_of 39 = .ok (.invokevirtual 163, 3) := by decide +kernel
theorem dX11_of_42 : decode cX11_of 42 = .ok (.iload_n 3, 1) := by decide +kernel
theorem dX11_of_43 : decode cX11_of 43 = .ok (.iload 4, 2) := by decide +kernel
theorem dX11_of_45 : decode cX11_of 45 = .ok (.invokestatic 166, 3) := by decide +kernel
theorem dX11_of_48 : decode cX11_of 48 = .ok (.invokestatic 171, 3) := by decide +kernel
theorem dX11_of_51 : decode cX11_of 51 = .ok (.ireturn, 1) := by decide +kernel
theorem dX11_least_0 : decode cX11_least 0 = .ok (.aload_n 0, 1) := by decide +kernel
theorem dX11_least_1 : decode cX11_least 1 = .ok (.getfield 26, 3) := by decide +kernel
theorem dX11_least_4 : decode cX11_least 4 = .ok (.iload_n 1, 1) := by decide +kernel
theorem dX11_least_5 : decode cX11_least 5 = .ok (.iload_n 2, 1) := by decide +kernel
theorem dX11_least_6 : decode cX11_least 6 = .ok (.invokevirtual 131, 3) := by decide +kernel
theorem dX11_least_9 : decode cX11_least 9 = .ok (.ifCond .eq 15, 3) := by decide +kernel
theorem dX11_least_12 : decode cX11_least 12 = .ok (.aload_n 0, 1) := by decide +kernel
theorem dX11_least_13 : decode cX11_least 13 = .ok (.getfield 47, 3) := by decide +kernel
theorem dX11_least_16 : decode cX11_least 16 = .ok (.iload_n 1, 1) := by decide +kernel
theorem dX11_least_17 : decode cX11_least 17 = .ok (.iload_n 2, 1) := by decide +kernel
theorem dX11_least_18 : decode cX11_least 18 = .ok (.invokevirtual 175, 3) := by decide +kernel
theorem dX11_least_21 : decode cX11_least 21 = .ok (.goto 5, 3) := by decide +kernel
theorem dX11_least_24 : decode cX11_least 24 = .ok (.bipush (-2), 2) := by decide +kernel
theorem dX11_least_26 : decode cX11_least 26 = .ok (.ireturn, 1) := by decide +kernel
theorem dX11_most_0 : decode cX11_most 0 = .ok (.aload_n 0, 1) := by decide +kernel
theorem dX11_most_1 : decode cX11_most 1 = .ok (.getfield 26, 3) := by decide +kernel
theorem dX11_most_4 : decode cX11_most 4 = .ok (.iload_n 1, 1) := by decide +kernel
theorem dX11_most_5 : decode cX11_most 5 = .ok (.iload_n 2, 1) := by decide +kernel
theorem dX11_most_6 : decode cX11_most 6 = .ok (.invokevirtual 131, 3) := by decide +kernel
theorem dX11_most_9 : decode cX11_most 9 = .ok (.ifCond .eq 15, 3) := by decide +kernel
theorem dX11_most_12 : decode cX11_most 12 = .ok (.aload_n 0, 1) := by decide +kernel
theorem dX11_most_13 : decode cX11_most 13 = .ok (.getfield 47, 3) := by decide +kernel
theorem dX11_most_16 : decode cX11_most 16 = .ok (.iload_n 1, 1) := by decide +kernel
theorem dX11_most_17 : decode cX11_most 17 = .ok (.iload_n 2, 1) := by decide +kernel
theorem dX11_most_18 : decode cX11_most 18 = .ok (.invokevirtual 178, 3) := by decide +kernel
theorem dX11_most_21 : decode cX11_most 21 = .ok (.goto 5, 3) := by decide +kernel
theorem dX11_most_24 : decode cX11_most 24 = .ok (.bipush (-2), 2) := by decide +kernel
theorem dX11_most_26 : decode cX11_most 26 = .ok (.ireturn, 1) := by decide +kernel
theorem dX11_fixed_0 : decode cX11_fixed 0 = .ok (.aload_n 0, 1) := by decide +kernel
theorem dX11_fixed_1 : decode cX11_fixed 1 = .ok (.getfield 26, 3) := by decide +kernel
theorem dX11_fixed_4 : decode cX11_fixed 4 = .ok (.invokevirtual 89, 3) := by decide +kernel
theorem dX11_fixed_7 : decode cX11_fixed 7 = .ok (.ifCond .ne 6, 3) := by decide +kernel
theorem dX11_fixed_10 : decode cX11_fixed 10 = .ok (.bipush (-2), 2) := by decide +kernel
theorem dX11_fixed_12 : decode cX11_fixed 12 = .ok (.ireturn, 1) := by decide +kernel
theorem dX11_fixed_13 : decode cX11_fixed 13 = .ok (.iconst 0, 1) := by decide +kernel
theorem dX11_fixed_14 : decode cX11_fixed 14 = .ok (.istore_n 1, 1) := by decide +kernel
theorem dX11_fixed_15 : decode cX11_fixed 15 = .ok (.iconst 0, 1) := by decide +kernel
theorem dX11_fixed_16 : decode cX11_fixed 16 = .ok (.istore_n 2, 1) := by decide +kernel
theorem dX11_fixed_17 : decode cX11_fixed 17 = .ok (.iload_n 2, 1) := by decide +kernel
theorem dX11_fixed_18 : decode cX11_fixed 18 = .ok (.aload_n 0, 1) := by decide +kernel
theorem dX11_fixed_19 : decode cX11_fixed 19 = .ok (.getfield 26, 3) := by decide +kernel
theorem dX11_fixed_22 : decode cX11_fixed 22 = .ok (.getfield 110, 3) := by decide +kernel
theorem dX11_fixed_25 : decode cX11_fixed 25 = .ok (.if_icmp .ge 77, 3) := by decide +kernel
theorem dX11_fixed_28 : decode cX11_fixed 28 = .ok (.iconst 0, 1) := by decide +kernel
theorem dX11_fixed_29 : decode cX11_fixed 29 = .ok (.istore_n 3, 1) := by decide +kernel
theorem dX11_fixed_30 : decode cX11_fixed 30 = .ok (.iload_n 3, 1) := by decide +kernel
theorem dX11_fixed_31 : decode cX11_fixed 31 = .ok (.aload_n 0, 1) := by decide +kernel
theorem dX11_fixed_32 : decode cX11_fixed 32 = .ok (.getfield 26, 3) := by decide +kernel
theorem dX11_fixed_35 : decode cX11_fixed 35 = .ok (.getfield 113, 3) := by decide +kernel
theorem dX11_fixed_38 : decode cX11_fixed 38 = .ok (.if_icmp .ge 58, 3) := by decide +kernel
theorem dX11_fixed_41 : decode cX11_fixed 41 = .ok (.aload_n 0, 1) := by decide +kernel
theorem dX11_fixed_42 : decode cX11_fixed 42 = .ok (.getfield 26, 3) := by decide +kernel
theorem dX11_fixed_45 : decode cX11_fixed 45 = .ok (.iload_n 2, 1) := by decide +kernel
theorem dX11_fixed_46 : decode cX11_fixed 46 = .ok (.iload_n 3, 1) := by decide +kernel
theorem dX11_fixed_47 : decode cX11_fixed 47 = .ok (.invokevirtual 139, 3) := by decide +kernel
theorem dX11_fixed_50 : decode cX11_fixed 50 = .ok (.ifCond .ne 40, 3) := by decide +kernel
theorem dX11_fixed_53 : decode cX11_fixed 53 = .ok (.aload_n 0, 1) := by decide +kernel
theorem dX11_fixed_54 : decode cX11_fixed 54 = .ok (.getfield 47, 3) := by decide +kernel
theorem dX11_fixed_57 : decode cX11_fixed 57 = .ok (.iload_n 2, 1) := by decide +kernel
theorem dX11_fixed_58 : decode cX11_fixed 58 = .ok (.iload_n 3, 1) := by decide +kernel
theorem dX11_fixed_59 : decode cX11_fixed 59 = .ok (.invokevirtual 175, 3) := by decide +kernel
theorem dX11_fixed_62 : decode cX11_fixed 62 = .ok (.aload_n 0, 1) := by decide +kernel
theorem dX11_fixed_63 : decode cX11_fixed 63 = .ok (.getfield 47, 3) := by decide +kernel
theorem dX11_fixed_66 : decode cX11_fixed 66 = .ok (.iload_n 2, 1) := by decide +kernel
theorem dX11_fixed_67 : decode cX11_fixed 67 = .ok (.iload_n 3, 1) := by decide +kernel
theorem dX11_fixed_68 : decode cX11_fixed 68 = .ok (.invokevirtual 178, 3) := by decide +kernel
theorem dX11_fixed_71 : decode cX11_fixed 71 = .ok (.if_icmp .ne 19, 3) := by decide +kernel
theorem dX11_fixed_74 : decode cX11_fixed 74 = .ok (.iload_n 1, 1) := by decide +kernel
theorem dX11_fixed_75 : decode cX11_fixed 75 = .ok (.iconst 1, 1) := by decide +kernel
theorem dX11_fixed_76 : decode cX11_fixed 76 = .ok (.iload_n 2, 1) := by decide +kernel
theorem dX11_fixed_77 : decode cX11_fixed 77 = .ok (.aload_n 0, 1) := by decide +kernel
theorem dX11_fixed_78 : decode cX11_fixed 78 = .ok (.getfield 26, 3) := by decide +kernel
theorem dX11_fixed_81 : decode cX11_fixed 81 = .ok (.getfield 113, 3) := by decide +kernel
theorem dX11_fixed_84 : decode cX11_fixed 84 = .ok (.imul, 1) := by decide +kernel
theorem dX11_fixed_85 : decode cX11_fixed 85 = .ok (.iload_n 3, 1) := by decide +kernel
theorem dX11_fixed_86 : decode cX11_fixed 86 = .ok (.iadd, 1) := by decide +kernel
theorem dX11_fixed_87 : decode cX11_fixed 87 = .ok (.ishl, 1) := by decide +kernel
theorem dX11_fixed_88 : decode cX11_fixed 88 = .ok (.ior, 1) := by decide +kernel
theorem dX11_fixed_89 : decode cX11_fixed 89 = .ok (.istore_n 1, 1) := by decide +kernel
theorem dX11_fixed_90 : decode cX11_fixed 90 = .ok (.iinc 3 1, 3) := by decide +kernel
theorem dX11_fixed_93 : decode cX11_fixed 93 = .ok (.goto (-63), 3) := by decide +kernel
theorem dX11_fixed_96 : decode cX11_fixed 96 = .ok (.iinc 2 1, 3) := by decide +kernel
theorem dX11_fixed_99 : decode cX11_fixed 99 = .ok (.goto (-82), 3) := by decide +kernel
theorem dX11_fixed_102 : decode cX11_fixed 102 = .ok (.iload_n 1, 1) := by decide +kernel
theorem dX11_fixed_103 : decode cX11_fixed 103 = .ok (.ireturn, 1) := by decide +kernel
theorem dX11_having_0 : decode cX11_having 0 = .ok (.aload_n 0, 1) := by decide +kernel
theorem dX11_having_1 : decode cX11_having 1 = .ok (.getfield 26, 3) := by decide +kernel
theorem dX11_having_4 : decode cX11_having 4 = .ok (.iload_n 1, 1) := by decide +kernel
theorem dX11_having_5 : decode cX11_having 5 = .ok (.iload_n 2, 1) := by decide +kernel
theorem dX11_having_6 : decode cX11_having 6 = .ok (.invokevirtual 131, 3) := by decide +kernel
theorem dX11_having_9 : decode cX11_having 9 = .ok (.ifCond .eq 13, 3) := by decide +kernel
theorem dX11_having_12 : decode cX11_having 12 = .ok (.iload_n 3, 1) := by decide +kernel
theorem dX11_having_13 : decode cX11_having 13 = .ok (.ifCond .lt 9, 3) := by decide +kernel
theorem dX11_having_16 : decode cX11_having 16 = .ok (.iload_n 3, 1) := by decide +kernel
theorem dX11_having_17 : decode cX11_having 17 = .ok (.bipush 20, 2) := by decide +kernel
theorem dX11_having_19 : decode cX11_having 19 = .ok (.if_icmp .le 7, 3) := by decide +kernel
theorem dX11_having_22 : decode cX11_having 22 = .ok (.ldc2_w 153, 3) := by decide +kernel
theorem dX11_having_25 : decode cX11_having 25 = .ok (.lreturn, 1) := by decide +kernel
theorem dX11_having_26 : decode cX11_having 26 = .ok (.aload_n 0, 1) := by decide +kernel
theorem dX11_having_27 : decode cX11_having 27 = .ok (.getfield 47, 3) := by decide +kernel
theorem dX11_having_30 : decode cX11_having 30 = .ok (.iload_n 1, 1) := by decide +kernel
theorem dX11_having_31 : decode cX11_having 31 = .ok (.iload_n 2, 1) := by decide +kernel
theorem dX11_having_32 : decode cX11_having 32 = .ok (.iload_n 3, 1) := by decide +kernel
theorem dX11_having_33 : decode cX11_having 33 = .ok (.invokevirtual 181, 3) := by decide +kernel
theorem dX11_having_36 : decode cX11_having 36 = .ok (.lreturn, 1) := by decide +kernel
theorem dX11_mean_0 : decode cX11_mean 0 = .ok (.aload_n 0, 1) := by decide +kernel
theorem dX11_mean_1 : decode cX11_mean 1 = .ok (.getfield 26, 3) := by decide +kernel
theorem dX11_mean_4 : decode cX11_mean 4 = .ok (.iload_n 1, 1) := by decide +kernel
theorem dX11_mean_5 : decode cX11_mean 5 = .ok (.iload_n 2, 1) := by decide +kernel
theorem dX11_mean_6 : decode cX11_mean 6 = .ok (.invokevirtual 131, 3) := by decide +kernel
theorem dX11_mean_9 : decode cX11_mean 9 = .ok (.ifCond .ne 7, 3) := by decide +kernel
theorem dX11_mean_12 : decode cX11_mean 12 = .ok (.ldc2_w 153, 3) := by decide +kernel
theorem dX11_mean_15 : decode cX11_mean 15 = .ok (.lreturn, 1) := by decide +kernel
theorem dX11_mean_16 : decode cX11_mean 16 = .ok (.aload_n 0, 1) := by decide +kernel
theorem dX11_mean_17 : decode cX11_mean 17 = .ok (.getfield 47, 3) := by decide +kernel
theorem dX11_mean_20 : decode cX11_mean 20 = .ok (.iload_n 1, 1) := by decide +kernel
theorem dX11_mean_21 : decode cX11_mean 21 = .ok (.iload_n 2, 1) := by decide +kernel
theorem dX11_mean_22 : decode cX11_mean 22 = .ok (.invokevirtual 185, 3) := by decide +kernel
theorem dX11_mean_25 : decode cX11_mean 25 = .ok (.aload_n 0, 1) := by decide +kernel
theorem dX11_mean_26 : decode cX11_mean 26 = .ok (.getfield 47, 3) := by decide +kernel
theorem dX11_mean_29 : decode cX11_mean 29 = .ok (.invokevirtual 149, 3) := by decide +kernel
theorem dX11_mean_32 : decode cX11_mean 32 = .ok (.iload_n 3, 1) := by decide +kernel
theorem dX11_mean_33 : decode cX11_mean 33 = .ok (.invokestatic 189, 3) := by decide +kernel
theorem dX11_mean_36 : decode cX11_mean 36 = .ok (.lreturn, 1) := by decide +kernel
theorem dX11_weight_0 : decode cX11_weight 0 = .ok (.aload_n 0, 1) := by decide +kernel
theorem dX11_weight_1 : decode cX11_weight 1 = .ok (.getfield 26, 3) := by decide +kernel
theorem dX11_weight_4 : decode cX11_weight 4 = .ok (.invokevirtual 89, 3) := by decide +kernel
theorem dX11_weight_7 : decode cX11_weight 7 = .ok (.ifCond .eq 21, 3) := by decide +kernel
theorem dX11_weight_10 : decode cX11_weight 10 = .ok (.aload_n 0, 1) := by decide +kernel
theorem dX11_weight_11 : decode cX11_weight 11 = .ok (.getfield 56, 3) := by decide +kernel
theorem dX11_weight_14 : decode cX11_weight 14 = .ok (.iconst 0, 1) := by decide +kernel
theorem dX11_weight_15 : decode cX11_weight 15 = .ok (.aload_n 0, 1) := by decide +kernel
theorem dX11_weight_16 : decode cX11_weight 16 = .ok (.getfield 26, 3) := by decide +kernel
theorem dX11_weight_19 : decode cX11_weight 19 = .ok (.getfield 155, 3) := by decide +kernel
theorem dX11_weight_22 : decode cX11_weight 22 = .ok (.invokevirtual 195, 3) := by decide +kernel
theorem dX11_weight_25 : decode cX11_weight 25 = .ok (.goto 6, 3) := by decide +kernel
theorem dX11_weight_28 : decode cX11_weight 28 = .ok (.ldc2_w 153, 3) := by decide +kernel
theorem dX11_weight_31 : decode cX11_weight 31 = .ok (.lreturn, 1) := by decide +kernel
theorem dX11_weights_0 : decode cX11_weights 0 = .ok (.aload_n 0, 1) := by decide +kernel
theorem dX11_weights_1 : decode cX11_weights 1 = .ok (.getfield 26, 3) := by decide +kernel
theorem dX11_weights_4 : decode cX11_weights 4 = .ok (.invokevirtual 89, 3) := by decide +kernel
theorem dX11_weights_7 : decode cX11_weights 7 = .ok (.ifCond .eq 13, 3) := by decide +kernel
theorem dX11_weights_10 : decode cX11_weights 10 = .ok (.aload_n 0, 1) := by decide +kernel
theorem dX11_weights_11 : decode cX11_weights 11 = .ok (.getfield 47, 3) := by decide +kernel
theorem dX11_weights_14 : decode cX11_weights 14 = .ok (.invokevirtual 199, 3) := by decide +kernel
theorem dX11_weights_17 : decode cX11_weights 17 = .ok (.goto 6, 3) := by decide +kernel
theorem dX11_weights_20 : decode cX11_weights 20 = .ok (.ldc2_w 153, 3) := by decide +kernel
theorem dX11_weights_23 : decode cX11_weights 23 = .ok (.lreturn, 1) := by decide +kernel
theorem dX11_heaviest_0 : decode cX11_heaviest 0 = .ok (.aload_n 0, 1) := by decide +kernel
theorem dX11_heaviest_1 : decode cX11_heaviest 1 = .ok (.getfield 26, 3) := by decide +kernel
theorem dX11_heaviest_4 : decode cX11_heaviest 4 = .ok (.invokevirtual 89, 3) := by decide +kernel
theorem dX11_heaviest_7 : decode cX11_heaviest 7 = .ok (.ifCond .eq 13, 3) := by decide +kernel
theorem dX11_heaviest_10 : decode cX11_heaviest 10 = .ok (.aload_n 0, 1) := by decide +kernel
theorem dX11_heaviest_11 : decode cX11_heaviest 11 = .ok (.getfield 56, 3) := by decide +kernel
theorem dX11_heaviest_14 : decode cX11_heaviest 14 = .ok (.invokevirtual 202, 3) := by decide +kernel
theorem dX11_heaviest_17 : decode cX11_heaviest 17 = .ok (.goto 6, 3) := by decide +kernel
theorem dX11_heaviest_20 : decode cX11_heaviest 20 = .ok (.ldc2_w 153, 3) := by decide +kernel
theorem dX11_heaviest_23 : decode cX11_heaviest 23 = .ok (.lreturn, 1) := by decide +kernel
theorem dX11_lightest_0 : decode cX11_lightest 0 = .ok (.aload_n 0, 1) := by decide +kernel
theorem dX11_lightest_1 : decode cX11_lightest 1 = .ok (.getfield 26, 3) := by decide +kernel
theorem dX11_lightest_4 : decode cX11_lightest 4 = .ok (.invokevirtual 89, 3) := by decide +kernel
theorem dX11_lightest_7 : decode cX11_lightest 7 = .ok (.ifCond .eq 13, 3) := by decide +kernel
theorem dX11_lightest_10 : decode cX11_lightest 10 = .ok (.aload_n 0, 1) := by decide +kernel
theorem dX11_lightest_11 : decode cX11_lightest 11 = .ok (.getfield 56, 3) := by decide +kernel
theorem dX11_lightest_14 : decode cX11_lightest 14 = .ok (.invokevirtual 205, 3) := by decide +kernel
theorem dX11_lightest_17 : decode cX11_lightest 17 = .ok (.goto 6, 3) := by decide +kernel
theorem dX11_lightest_20 : decode cX11_lightest 20 = .ok (.ldc2_w 153, 3) := by decide +kernel
theorem dX11_lightest_23 : decode cX11_lightest 23 = .ok (.lreturn, 1) := by decide +kernel
theorem dX11_statistic_0 : decode cX11_statistic 0 = .ok (.aload_n 0, 1) := by decide +kernel
theorem dX11_statistic_1 : decode cX11_statistic 1 = .ok (.iload_n 1, 1) := by decide +kernel
theorem dX11_statistic_2 : decode cX11_statistic 2 = .ok (.invokevirtual 208, 3) := by decide +kernel
theorem dX11_statistic_5 : decode cX11_statistic 5 = .ok (.ifCond .eq 21, 3) := by decide +kernel
theorem dX11_statistic_8 : decode cX11_statistic 8 = .ok (.aload_n 0, 1) := by decide +kernel
theorem dX11_statistic_9 : decode cX11_statistic 9 = .ok (.getfield 56, 3) := by decide +kernel
theorem dX11_statistic_12 : decode cX11_statistic 12 = .ok (.iload_n 1, 1) := by decide +kernel
theorem dX11_statistic_13 : decode cX11_statistic 13 = .ok (.aload_n 0, 1) := by decide +kernel
theorem dX11_statistic_14 : decode cX11_statistic 14 = .ok (.getfield 26, 3) := by decide +kernel
theorem dX11_statistic_17 : decode cX11_statistic 17 = .ok (.getfield 155, 3) := by decide +kernel
theorem dX11_statistic_20 : decode cX11_statistic 20 = .ok (.invokevirtual 195, 3) := by decide +kernel
theorem dX11_statistic_23 : decode cX11_statistic 23 = .ok (.goto 6, 3) := by decide +kernel
theorem dX11_statistic_26 : decode cX11_statistic 26 = .ok (.ldc2_w 153, 3) := by decide +kernel
theorem dX11_statistic_29 : decode cX11_statistic 29 = .ok (.lreturn, 1) := by decide +kernel
theorem dX11_extreme_0 : decode cX11_extreme 0 = .ok (.aload_n 0, 1) := by decide +kernel
theorem dX11_extreme_1 : decode cX11_extreme 1 = .ok (.iload_n 1, 1) := by decide +kernel
theorem dX11_extreme_2 : decode cX11_extreme 2 = .ok (.invokevirtual 208, 3) := by decide +kernel
theorem dX11_extreme_5 : decode cX11_extreme 5 = .ok (.ifCond .eq 21, 3) := by decide +kernel
theorem dX11_extreme_8 : decode cX11_extreme 8 = .ok (.aload_n 0, 1) := by decide +kernel
theorem dX11_extreme_9 : decode cX11_extreme 9 = .ok (.getfield 56, 3) := by decide +kernel
theorem dX11_extreme_12 : decode cX11_extreme 12 = .ok (.iload_n 1, 1) := by decide +kernel
theorem dX11_extreme_13 : decode cX11_extreme 13 = .ok (.aload_n 0, 1) := by decide +kernel
theorem dX11_extreme_14 : decode cX11_extreme 14 = .ok (.getfield 26, 3) := by decide +kernel
theorem dX11_extreme_17 : decode cX11_extreme 17 = .ok (.getfield 155, 3) := by decide +kernel
theorem dX11_extreme_20 : decode cX11_extreme 20 = .ok (.invokevirtual 212, 3) := by decide +kernel
theorem dX11_extreme_23 : decode cX11_extreme 23 = .ok (.goto 6, 3) := by decide +kernel
theorem dX11_extreme_26 : decode cX11_extreme 26 = .ok (.ldc2_w 153, 3) := by decide +kernel
theorem dX11_extreme_29 : decode cX11_extreme 29 = .ok (.lreturn, 1) := by decide +kernel
theorem dX11_share_0 : decode cX11_share 0 = .ok (.aload_n 0, 1) := by decide +kernel
theorem dX11_share_1 : decode cX11_share 1 = .ok (.iload_n 1, 1) := by decide +kernel
theorem dX11_share_2 : decode cX11_share 2 = .ok (.invokevirtual 208, 3) := by decide +kernel
theorem dX11_share_5 : decode cX11_share 5 = .ok (.ifCond .ne 7, 3) := by decide +kernel
theorem dX11_share_8 : decode cX11_share 8 = .ok (.ldc2_w 153, 3) := by decide +kernel
theorem dX11_share_11 : decode cX11_share 11 = .ok (.lreturn, 1) := by decide +kernel
theorem dX11_share_12 : decode cX11_share 12 = .ok (.aload_n 0, 1) := by decide +kernel
theorem dX11_share_13 : decode cX11_share 13 = .ok (.getfield 56, 3) := by decide +kernel
theorem dX11_share_16 : decode cX11_share 16 = .ok (.iload_n 1, 1) := by decide +kernel
theorem dX11_share_17 : decode cX11_share 17 = .ok (.aload_n 0, 1) := by decide +kernel
theorem dX11_share_18 : decode cX11_share 18 = .ok (.getfield 26, 3) := by decide +kernel
theorem dX11_share_21 : decode cX11_share 21 = .ok (.getfield 155, 3) := by decide +kernel
theorem dX11_share_24 : decode cX11_share 24 = .ok (.invokevirtual 215, 3) := by decide +kernel
theorem dX11_share_27 : decode cX11_share 27 = .ok (.aload_n 0, 1) := by decide +kernel
theorem dX11_share_28 : decode cX11_share 28 = .ok (.getfield 47, 3) := by decide +kernel
theorem dX11_share_31 : decode cX11_share 31 = .ok (.invokevirtual 199, 3) := by decide +kernel
theorem dX11_share_34 : decode cX11_share 34 = .ok (.iload_n 2, 1) := by decide +kernel
theorem dX11_share_35 : decode cX11_share 35 = .ok (.invokestatic 189, 3) := by decide +kernel
theorem dX11_share_38 : decode cX11_share 38 = .ok (.lreturn, 1) := by decide +kernel
theorem dX11_chi_0 : decode cX11_chi 0 = .ok (.aload_n 0, 1) := by decide +kernel
theorem dX11_chi_1 : decode cX11_chi 1 = .ok (.getfield 26, 3) := by decide +kernel
theorem dX11_chi_4 : decode cX11_chi 4 = .ok (.invokevirtual 89, 3) := by decide +kernel
theorem dX11_chi_7 : decode cX11_chi 7 = .ok (.ifCond .eq 16, 3) := by decide +kernel
theorem dX11_chi_10 : decode cX11_chi 10 = .ok (.aload_n 0, 1) := by decide +kernel
theorem dX11_chi_11 : decode cX11_chi 11 = .ok (.getfield 26, 3) := by decide +kernel
theorem dX11_chi_14 : decode cX11_chi 14 = .ok (.invokevirtual 218, 3) := by decide +kernel
theorem dX11_chi_17 : decode cX11_chi 17 = .ok (.invokestatic 222, 3) := by decide +kernel
theorem dX11_chi_20 : decode cX11_chi 20 = .ok (.goto 6, 3) := by decide +kernel
theorem dX11_chi_23 : decode cX11_chi 23 = .ok (.ldc2_w 153, 3) := by decide +kernel
theorem dX11_chi_26 : decode cX11_chi 26 = .ok (.lreturn, 1) := by decide +kernel
theorem dX11_excess_0 : decode cX11_excess 0 = .ok (.aload_n 0, 1) := by decide +kernel
theorem dX11_excess_1 : decode cX11_excess 1 = .ok (.getfield 26, 3) := by decide +kernel
theorem dX11_excess_4 : decode cX11_excess 4 = .ok (.iload_n 1, 1) := by decide +kernel
theorem dX11_excess_5 : decode cX11_excess 5 = .ok (.iload_n 2, 1) := by decide +kernel
theorem dX11_excess_6 : decode cX11_excess 6 = .ok (.invokevirtual 131, 3) := by decide +kernel
theorem dX11_excess_9 : decode cX11_excess 9 = .ok (.ifCond .eq 18, 3) := by decide +kernel
theorem dX11_excess_12 : decode cX11_excess 12 = .ok (.aload_n 0, 1) := by decide +kernel
theorem dX11_excess_13 : decode cX11_excess 13 = .ok (.getfield 26, 3) := by decide +kernel
theorem dX11_excess_16 : decode cX11_excess 16 = .ok (.iload_n 1, 1) := by decide +kernel
theorem dX11_excess_17 : decode cX11_excess 17 = .ok (.iload_n 2, 1) := by decide +kernel
theorem dX11_excess_18 : decode cX11_excess 18 = .ok (.invokevirtual 226, 3) := by decide +kernel
theorem dX11_excess_21 : decode cX11_excess 21 = .ok (.invokestatic 230, 3) := by decide +kernel
theorem dX11_excess_24 : decode cX11_excess 24 = .ok (.goto 5, 3) := by decide +kernel
theorem dX11_excess_27 : decode cX11_excess 27 = .ok (.bipush (-2), 2) := by decide +kernel
theorem dX11_excess_29 : decode cX11_excess 29 = .ok (.ireturn, 1) := by decide +kernel
theorem dX11_swaps_0 : decode cX11_swaps 0 = .ok (.aload_n 0, 1) := by decide +kernel
theorem dX11_swaps_1 : decode cX11_swaps 1 = .ok (.getfield 26, 3) := by decide +kernel
theorem dX11_swaps_4 : decode cX11_swaps 4 = .ok (.invokevirtual 89, 3) := by decide +kernel
theorem dX11_swaps_7 : decode cX11_swaps 7 = .ok (.ifCond .eq 20, 3) := by decide +kernel
theorem dX11_swaps_10 : decode cX11_swaps 10 = .ok (.aload_n 0, 1) := by decide +kernel
theorem dX11_swaps_11 : decode cX11_swaps 11 = .ok (.getfield 40, 3) := by decide +kernel
theorem dX11_swaps_14 : decode cX11_swaps 14 = .ok (.aload_n 0, 1) := by decide +kernel
theorem dX11_swaps_15 : decode cX11_swaps 15 = .ok (.getfield 26, 3) := by decide +kernel
theorem dX11_swaps_18 : decode cX11_swaps 18 = .ok (.getfield 155, 3) := by decide +kernel
theorem dX11_swaps_21 : decode cX11_swaps 21 = .ok (.invokevirtual 234, 3) := by decide +kernel
theorem dX11_swaps_24 : decode cX11_swaps 24 = .ok (.goto 5, 3) := by decide +kernel
theorem dX11_swaps_27 : decode cX11_swaps 27 = .ok (.bipush (-2), 2) := by decide +kernel
theorem dX11_swaps_29 : decode cX11_swaps 29 = .ok (.ireturn, 1) := by decide +kernel
theorem dX11_classes_0 : decode cX11_classes 0 = .ok (.aload_n 0, 1) := by decide +kernel
theorem dX11_classes_1 : decode cX11_classes 1 = .ok (.invokevirtual 238, 3) := by decide +kernel
theorem dX11_classes_4 : decode cX11_classes 4 = .ok (.istore_n 1, 1) := by decide +kernel
theorem dX11_classes_5 : decode cX11_classes 5 = .ok (.iload_n 1, 1) := by decide +kernel
theorem dX11_classes_6 : decode cX11_classes 6 = .ok (.ifCond .eq 7, 3) := by decide +kernel
theorem dX11_classes_9 : decode cX11_classes 9 = .ok (.iload_n 1, 1) := by decide +kernel
theorem dX11_classes_10 : decode cX11_classes 10 = .ok (.goto 10, 3) := by decide +kernel
theorem dX11_classes_13 : decode cX11_classes 13 = .ok (.aload_n 0, 1) := by decide +kernel
theorem dX11_classes_14 : decode cX11_classes 14 = .ok (.getfield 65, 3) := by decide +kernel
theorem dX11_classes_17 : decode cX11_classes 17 = .ok (.invokevirtual 242, 3) := by decide +kernel
theorem dX11_classes_20 : decode cX11_classes 20 = .ok (.ireturn, 1) := by decide +kernel
theorem dX11_joined_0 : decode cX11_joined 0 = .ok (.aload_n 0, 1) := by decide +kernel
theorem dX11_joined_1 : decode cX11_joined 1 = .ok (.invokevirtual 238, 3) := by decide +kernel
theorem dX11_joined_4 : decode cX11_joined 4 = .ok (.istore_n 1, 1) := by decide +kernel
theorem dX11_joined_5 : decode cX11_joined 5 = .ok (.iload_n 1, 1) := by decide +kernel
theorem dX11_joined_6 : decode cX11_joined 6 = .ok (.ifCond .eq 7, 3) := by decide +kernel
theorem dX11_joined_9 : decode cX11_joined 9 = .ok (.iload_n 1, 1) := by decide +kernel
theorem dX11_joined_10 : decode cX11_joined 10 = .ok (.goto 10, 3) := by decide +kernel
theorem dX11_joined_13 : decode cX11_joined 13 = .ok (.aload_n 0, 1) := by decide +kernel
theorem dX11_joined_14 : decode cX11_joined 14 = .ok (.getfield 65, 3) := by decide +kernel
theorem dX11_joined_17 : decode cX11_joined 17 = .ok (.invokevirtual 245, 3) := by decide +kernel
theorem dX11_joined_20 : decode cX11_joined 20 = .ok (.ireturn, 1) := by decide +kernel
theorem dX11_classOf_0 : decode cX11_classOf 0 = .ok (.aload_n 0, 1) := by decide +kernel
theorem dX11_classOf_1 : decode cX11_classOf 1 = .ok (.iload_n 1, 1) := by decide +kernel
theorem dX11_classOf_2 : decode cX11_classOf 2 = .ok (.invokevirtual 248, 3) := by decide +kernel
theorem dX11_classOf_5 : decode cX11_classOf 5 = .ok (.istore_n 2, 1) := by decide +kernel
theorem dX11_classOf_6 : decode cX11_classOf 6 = .ok (.iload_n 2, 1) := by decide +kernel
theorem dX11_classOf_7 : decode cX11_classOf 7 = .ok (.ifCond .eq 7, 3) := by decide +kernel
theorem dX11_classOf_10 : decode cX11_classOf 10 = .ok (.iload_n 2, 1) := by decide +kernel
theorem dX11_classOf_11 : decode cX11_classOf 11 = .ok (.goto 11, 3) := by decide +kernel
theorem dX11_classOf_14 : decode cX11_classOf 14 = .ok (.aload_n 0, 1) := by decide +kernel
theorem dX11_classOf_15 : decode cX11_classOf 15 = .ok (.getfield 65, 3) := by decide +kernel
theorem dX11_classOf_18 : decode cX11_classOf 18 = .ok (.iload_n 1, 1) := by decide +kernel
theorem dX11_classOf_19 : decode cX11_classOf 19 = .ok (.invokevirtual 251, 3) := by decide +kernel
theorem dX11_classOf_22 : decode cX11_classOf 22 = .ok (.ireturn, 1) := by decide +kernel
theorem dX11_sized_0 : decode cX11_sized 0 = .ok (.aload_n 0, 1) := by decide +kernel
theorem dX11_sized_1 : decode cX11_sized 1 = .ok (.iload_n 1, 1) := by decide +kernel
theorem dX11_sized_2 : decode cX11_sized 2 = .ok (.invokevirtual 248, 3) := by decide +kernel
theorem dX11_sized_5 : decode cX11_sized 5 = .ok (.istore_n 2, 1) := by decide +kernel
theorem dX11_sized_6 : decode cX11_sized 6 = .ok (.iload_n 2, 1) := by decide +kernel
theorem dX11_sized_7 : decode cX11_sized 7 = .ok (.ifCond .eq 7, 3) := by decide +kernel
theorem dX11_sized_10 : decode cX11_sized 10 = .ok (.iload_n 2, 1) := by decide +kernel
theorem dX11_sized_11 : decode cX11_sized 11 = .ok (.goto 11, 3) := by decide +kernel
theorem dX11_sized_14 : decode cX11_sized 14 = .ok (.aload_n 0, 1) := by decide +kernel
theorem dX11_sized_15 : decode cX11_sized 15 = .ok (.getfield 65, 3) := by decide +kernel
theorem dX11_sized_18 : decode cX11_sized 18 = .ok (.iload_n 1, 1) := by decide +kernel
theorem dX11_sized_19 : decode cX11_sized 19 = .ok (.invokevirtual 254, 3) := by decide +kernel
theorem dX11_sized_22 : decode cX11_sized 22 = .ok (.ireturn, 1) := by decide +kernel
theorem dX11_apart_0 : decode cX11_apart 0 = .ok (.aload_n 0, 1) := by decide +kernel
theorem dX11_apart_1 : decode cX11_apart 1 = .ok (.iload_n 1, 1) := by decide +kernel
theorem dX11_apart_2 : decode cX11_apart 2 = .ok (.invokevirtual 248, 3) := by decide +kernel
theorem dX11_apart_5 : decode cX11_apart 5 = .ok (.istore_n 3, 1) := by decide +kernel
theorem dX11_apart_6 : decode cX11_apart 6 = .ok (.iload_n 3, 1) := by decide +kernel
theorem dX11_apart_7 : decode cX11_apart 7 = .ok (.ifCond .ne 9, 3) := by decide +kernel
theorem dX11_apart_10 : decode cX11_apart 10 = .ok (.aload_n 0, 1) := by decide +kernel
theorem dX11_apart_11 : decode cX11_apart 11 = .ok (.iload_n 2, 1) := by decide +kernel
theorem dX11_apart_12 : decode cX11_apart 12 = .ok (.invokevirtual 248, 3) := by decide +kernel
theorem dX11_apart_15 : decode cX11_apart 15 = .ok (.istore_n 3, 1) := by decide +kernel
theorem dX11_apart_16 : decode cX11_apart 16 = .ok (.iload_n 3, 1) := by decide +kernel
theorem dX11_apart_17 : decode cX11_apart 17 = .ok (.ifCond .eq 7, 3) := by decide +kernel
theorem dX11_apart_20 : decode cX11_apart 20 = .ok (.iload_n 3, 1) := by decide +kernel
theorem dX11_apart_21 : decode cX11_apart 21 = .ok (.goto 12, 3) := by decide +kernel
theorem dX11_apart_24 : decode cX11_apart 24 = .ok (.aload_n 0, 1) := by decide +kernel
theorem dX11_apart_25 : decode cX11_apart 25 = .ok (.getfield 65, 3) := by decide +kernel
theorem dX11_apart_28 : decode cX11_apart 28 = .ok (.iload_n 1, 1) := by decide +kernel
theorem dX11_apart_29 : decode cX11_apart 29 = .ok (.iload_n 2, 1) := by decide +kernel
theorem dX11_apart_30 : decode cX11_apart 30 = .ok (.invokevirtual 257, 3) := by decide +kernel
theorem dX11_apart_33 : decode cX11_apart 33 = .ok (.ireturn, 1) := by decide +kernel
theorem dX11_far_0 : decode cX11_far 0 = .ok (.aload_n 0, 1) := by decide +kernel
theorem dX11_far_1 : decode cX11_far 1 = .ok (.invokevirtual 238, 3) := by decide +kernel
theorem dX11_far_4 : decode cX11_far 4 = .ok (.istore_n 1, 1) := by decide +kernel
theorem dX11_far_5 : decode cX11_far 5 = .ok (.iload_n 1, 1) := by decide +kernel
theorem dX11_far_6 : decode cX11_far 6 = .ok (.ifCond .eq 7, 3) := by decide +kernel
theorem dX11_far_9 : decode cX11_far 9 = .ok (.iload_n 1, 1) := by decide +kernel
theorem dX11_far_10 : decode cX11_far 10 = .ok (.goto 14, 3) := by decide +kernel
theorem dX11_far_13 : decode cX11_far 13 = .ok (.aload_n 0, 1) := by decide +kernel
theorem dX11_far_14 : decode cX11_far 14 = .ok (.getfield 65, 3) := by decide +kernel
theorem dX11_far_17 : decode cX11_far 17 = .ok (.aload_n 0, 1) := by decide +kernel
theorem dX11_far_18 : decode cX11_far 18 = .ok (.invokevirtual 260, 3) := by decide +kernel
theorem dX11_far_21 : decode cX11_far 21 = .ok (.invokevirtual 263, 3) := by decide +kernel
theorem dX11_far_24 : decode cX11_far 24 = .ok (.ireturn, 1) := by decide +kernel
theorem dX11_farthest_0 : decode cX11_farthest 0 = .ok (.aload_n 0, 1) := by decide +kernel
theorem dX11_farthest_1 : decode cX11_farthest 1 = .ok (.invokevirtual 238, 3) := by decide +kernel
theorem dX11_farthest_4 : decode cX11_farthest 4 = .ok (.istore_n 1, 1) := by decide +kernel
theorem dX11_farthest_5 : decode cX11_farthest 5 = .ok (.iload_n 1, 1) := by decide +kernel
theorem dX11_farthest_6 : decode cX11_farthest 6 = .ok (.ifCond .eq 7, 3) := by decide +kernel
theorem dX11_farthest_9 : decode cX11_farthest 9 = .ok (.iload_n 1, 1) := by decide +kernel
theorem dX11_farthest_10 : decode cX11_farthest 10 = .ok (.goto 14, 3) := by decide +kernel
theorem dX11_farthest_13 : decode cX11_farthest 13 = .ok (.aload_n 0, 1) := by decide +kernel
theorem dX11_farthest_14 : decode cX11_farthest 14 = .ok (.getfield 65, 3) := by decide +kernel
theorem dX11_farthest_17 : decode cX11_farthest 17 = .ok (.aload_n 0, 1) := by decide +kernel
theorem dX11_farthest_18 : decode cX11_farthest 18 = .ok (.invokevirtual 260, 3) := by decide +kernel
theorem dX11_farthest_21 : decode cX11_farthest 21 = .ok (.invokevirtual 266, 3) := by decide +kernel
theorem dX11_farthest_24 : decode cX11_farthest 24 = .ok (.ireturn, 1) := by decide +kernel
theorem dX11_within_0 : decode cX11_within 0 = .ok (.iload_n 1, 1) := by decide +kernel
theorem dX11_within_1 : decode cX11_within 1 = .ok (.ifCond .lt 9, 3) := by decide +kernel
theorem dX11_within_4 : decode cX11_within 4 = .ok (.iload_n 1, 1) := by decide +kernel
theorem dX11_within_5 : decode cX11_within 5 = .ok (.bipush 40, 2) := by decide +kernel
theorem dX11_within_7 : decode cX11_within 7 = .ok (.if_icmp .le 6, 3) := by decide +kernel
theorem dX11_within_10 : decode cX11_within 10 = .ok (.bipush (-2), 2) := by decide +kernel
theorem dX11_within_12 : decode cX11_within 12 = .ok (.ireturn, 1) := by decide +kernel
theorem dX11_within_13 : decode cX11_within 13 = .ok (.aload_n 0, 1) := by decide +kernel
theorem dX11_within_14 : decode cX11_within 14 = .ok (.invokevirtual 238, 3) := by decide +kernel
theorem dX11_within_17 : decode cX11_within 17 = .ok (.istore_n 2, 1) := by decide +kernel
theorem dX11_within_18 : decode cX11_within 18 = .ok (.iload_n 2, 1) := by decide +kernel
theorem dX11_within_19 : decode cX11_within 19 = .ok (.ifCond .eq 7, 3) := by decide +kernel
theorem dX11_within_22 : decode cX11_within 22 = .ok (.iload_n 2, 1) := by decide +kernel
theorem dX11_within_23 : decode cX11_within 23 = .ok (.goto 15, 3) := by decide +kernel
theorem dX11_within_26 : decode cX11_within 26 = .ok (.aload_n 0, 1) := by decide +kernel
theorem dX11_within_27 : decode cX11_within 27 = .ok (.getfield 65, 3) := by decide +kernel
theorem dX11_within_30 : decode cX11_within 30 = .ok (.aload_n 0, 1) := by decide +kernel
theorem dX11_within_31 : decode cX11_within 31 = .ok (.invokevirtual 260, 3) := by decide +kernel
theorem dX11_within_34 : decode cX11_within 34 = .ok (.iload_n 1, 1) := by decide +kernel
theorem dX11_within_35 : decode cX11_within 35 = .ok (.invokevirtual 269, 3) := by decide +kernel
theorem dX11_within_38 : decode cX11_within 38 = .ok (.ireturn, 1) := by decide +kernel
theorem dX11_ways_0 : decode cX11_ways 0 = .ok (.iload_n 1, 1) := by decide +kernel
theorem dX11_ways_1 : decode cX11_ways 1 = .ok (.ifCond .lt 8, 3) := by decide +kernel
theorem dX11_ways_4 : decode cX11_ways 4 = .ok (.iload_n 1, 1) := by decide +kernel
theorem dX11_ways_5 : decode cX11_ways 5 = .ok (.iconst 4, 1) := by decide +kernel
theorem dX11_ways_6 : decode cX11_ways 6 = .ok (.if_icmp .le 7, 3) := by decide +kernel
theorem dX11_ways_9 : decode cX11_ways 9 = .ok (.ldc2_w 153, 3) := by decide +kernel
theorem dX11_ways_12 : decode cX11_ways 12 = .ok (.lreturn, 1) := by decide +kernel
theorem dX11_ways_13 : decode cX11_ways 13 = .ok (.aload_n 0, 1) := by decide +kernel
theorem dX11_ways_14 : decode cX11_ways 14 = .ok (.iload_n 2, 1) := by decide +kernel
theorem dX11_ways_15 : decode cX11_ways 15 = .ok (.invokevirtual 248, 3) := by decide +kernel
theorem dX11_ways_18 : decode cX11_ways 18 = .ok (.istore_n 3, 1) := by decide +kernel
theorem dX11_ways_19 : decode cX11_ways 19 = .ok (.iload_n 3, 1) := by decide +kernel
theorem dX11_ways_20 : decode cX11_ways 20 = .ok (.ifCond .eq 8, 3) := by decide +kernel
theorem dX11_ways_23 : decode cX11_ways 23 = .ok (.iload_n 3, 1) := by decide +kernel
theorem dX11_ways_24 : decode cX11_ways 24 = .ok (.i2l, 1) := by decide +kernel
theorem dX11_ways_25 : decode cX11_ways 25 = .ok (.goto 16, 3) := by decide +kernel
theorem dX11_ways_28 : decode cX11_ways 28 = .ok (.aload_n 0, 1) := by decide +kernel
theorem dX11_ways_29 : decode cX11_ways 29 = .ok (.getfield 65, 3) := by decide +kernel
theorem dX11_ways_32 : decode cX11_ways 32 = .ok (.aload_n 0, 1) := by decide +kernel
theorem dX11_ways_33 : decode cX11_ways 33 = .ok (.invokevirtual 260, 3) := by decide +kernel
theorem dX11_ways_36 : decode cX11_ways 36 = .ok (.iload_n 1, 1) := by decide +kernel
theorem dX11_ways_37 : decode cX11_ways 37 = .ok (.iload_n 2, 1) := by decide +kernel
theorem dX11_ways_38 : decode cX11_ways 38 = .ok (.invokevirtual 272, 3) := by decide +kernel
theorem dX11_ways_41 : decode cX11_ways 41 = .ok (.lreturn, 1) := by decide +kernel
theorem dX11_drawn_0 : decode cX11_drawn 0 = .ok (.aload_n 0, 1) := by decide +kernel
theorem dX11_drawn_1 : decode cX11_drawn 1 = .ok (.getfield 26, 3) := by decide +kernel
theorem dX11_drawn_4 : decode cX11_drawn 4 = .ok (.invokevirtual 89, 3) := by decide +kernel
theorem dX11_drawn_7 : decode cX11_drawn 7 = .ok (.ifCond .eq 14, 3) := by decide +kernel
theorem dX11_drawn_10 : decode cX11_drawn 10 = .ok (.iload_n 1, 1) := by decide +kernel
theorem dX11_drawn_11 : decode cX11_drawn 11 = .ok (.ifCond .lt 10, 3) := by decide +kernel
theorem dX11_drawn_14 : decode cX11_drawn 14 = .ok (.iload_n 1, 1) := by decide +kernel
theorem dX11_drawn_15 : decode cX11_drawn 15 = .ok (.ldc_w 275, 3) := by decide +kernel
theorem dX11_drawn_18 : decode cX11_drawn 18 = .ok (.if_icmp .lt 7, 3) := by decide +kernel
theorem dX11_drawn_21 : decode cX11_drawn 21 = .ok (.ldc2_w 153, 3) := by decide +kernel
theorem dX11_drawn_24 : decode cX11_drawn 24 = .ok (.lreturn, 1) := by decide +kernel
theorem dX11_drawn_25 : decode cX11_drawn 25 = .ok (.aload_n 0, 1) := by decide +kernel
theorem dX11_drawn_26 : decode cX11_drawn 26 = .ok (.getfield 47, 3) := by decide +kernel
theorem dX11_drawn_29 : decode cX11_drawn 29 = .ok (.invokevirtual 149, 3) := by decide +kernel
theorem dX11_drawn_32 : decode cX11_drawn 32 = .ok (.lstore_n 2, 1) := by decide +kernel
theorem dX11_drawn_33 : decode cX11_drawn 33 = .ok (.lload_n 2, 1) := by decide +kernel
theorem dX11_drawn_34 : decode cX11_drawn 34 = .ok (.lconst 0, 1) := by decide +kernel
theorem dX11_drawn_35 : decode cX11_drawn 35 = .ok (.lcmp, 1) := by decide +kernel
theorem dX11_drawn_36 : decode cX11_drawn 36 = .ok (.ifCond .le 15, 3) := by decide +kernel
theorem dX11_drawn_39 : decode cX11_drawn 39 = .ok (.iload_n 1, 1) := by decide +kernel
theorem dX11_drawn_40 : decode cX11_drawn 40 = .ok (.i2l, 1) := by decide +kernel
theorem dX11_drawn_41 : decode cX11_drawn 41 = .ok (.aload_n 0, 1) := by decide +kernel
theorem dX11_drawn_42 : decode cX11_drawn 42 = .ok (.invokevirtual 276, 3) := by decide +kernel
theorem dX11_drawn_45 : decode cX11_drawn 45 = .ok (.lload_n 2, 1) := by decide +kernel
theorem dX11_drawn_46 : decode cX11_drawn 46 = .ok (.lmul, 1) := by decide +kernel
theorem dX11_drawn_47 : decode cX11_drawn 47 = .ok (.lcmp, 1) := by decide +kernel
theorem dX11_drawn_48 : decode cX11_drawn 48 = .ok (.ifCond .lt 7, 3) := by decide +kernel
theorem dX11_drawn_51 : decode cX11_drawn 51 = .ok (.ldc2_w 279, 3) := by decide +kernel
theorem dX11_drawn_54 : decode cX11_drawn 54 = .ok (.lreturn, 1) := by decide +kernel
theorem dX11_drawn_55 : decode cX11_drawn 55 = .ok (.iload_n 1, 1) := by decide +kernel
theorem dX11_drawn_56 : decode cX11_drawn 56 = .ok (.i2l, 1) := by decide +kernel
theorem dX11_drawn_57 : decode cX11_drawn 57 = .ok (.lload_n 2, 1) := by decide +kernel
theorem dX11_drawn_58 : decode cX11_drawn 58 = .ok (.lrem, 1) := by decide +kernel
theorem dX11_drawn_59 : decode cX11_drawn 59 = .ok (.lreturn, 1) := by decide +kernel
theorem dX11_evenly_0 : decode cX11_evenly 0 = .ok (.aload_n 0, 1) := by decide +kernel
theorem dX11_evenly_1 : decode cX11_evenly 1 = .ok (.getfield 26, 3) := by decide +kernel
theorem dX11_evenly_4 : decode cX11_evenly 4 = .ok (.invokevirtual 89, 3) := by decide +kernel
theorem dX11_evenly_7 : decode cX11_evenly 7 = .ok (.ifCond .eq 11, 3) := by decide +kernel
theorem dX11_evenly_10 : decode cX11_evenly 10 = .ok (.aload_n 0, 1) := by decide +kernel
theorem dX11_evenly_11 : decode cX11_evenly 11 = .ok (.invokevirtual 276, 3) := by decide +kernel
theorem dX11_evenly_14 : decode cX11_evenly 14 = .ok (.l2i, 1) := by decide +kernel
theorem dX11_evenly_15 : decode cX11_evenly 15 = .ok (.goto 5, 3) := by decide +kernel
theorem dX11_evenly_18 : decode cX11_evenly 18 = .ok (.bipush (-2), 2) := by decide +kernel
theorem dX11_evenly_20 : decode cX11_evenly 20 = .ok (.ireturn, 1) := by decide +kernel
theorem dX11_swap_0 : decode cX11_swap 0 = .ok (.aload_n 0, 1) := by decide +kernel
theorem dX11_swap_1 : decode cX11_swap 1 = .ok (.getfield 26, 3) := by decide +kernel
theorem dX11_swap_4 : decode cX11_swap 4 = .ok (.iload_n 1, 1) := by decide +kernel
theorem dX11_swap_5 : decode cX11_swap 5 = .ok (.iload_n 3, 1) := by decide +kernel
theorem dX11_swap_6 : decode cX11_swap 6 = .ok (.invokevirtual 131, 3) := by decide +kernel
theorem dX11_swap_9 : decode cX11_swap 9 = .ok (.ifCond .eq 27, 3) := by decide +kernel
theorem dX11_swap_12 : decode cX11_swap 12 = .ok (.aload_n 0, 1) := by decide +kernel
theorem dX11_swap_13 : decode cX11_swap 13 = .ok (.getfield 26, 3) := by decide +kernel
theorem dX11_swap_16 : decode cX11_swap 16 = .ok (.iload_n 2, 1) := by decide +kernel
theorem dX11_swap_17 : decode cX11_swap 17 = .ok (.iload 4, 2) := by decide +kernel
theorem dX11_swap_19 : decode cX11_swap 19 = .ok (.invokevirtual 131, 3) := by decide +kernel
theorem dX11_swap_22 : decode cX11_swap 22 = .ok (.ifCond .eq 14, 3) := by decide +kernel
theorem dX11_swap_25 : decode cX11_swap 25 = .ok (.iload_n 1, 1) := by decide +kernel
theorem dX11_swap_26 : decode cX11_swap 26 = .ok (.iload_n 2, 1) := by decide +kernel
theorem dX11_swap_27 : decode cX11_swap 27 = .ok (.if_icmp .eq 9, 3) := by decide +kernel
theorem dX11_swap_30 : decode cX11_swap 30 = .ok (.iload_n 3, 1) := by decide +kernel
theorem dX11_swap_31 : decode cX11_swap 31 = .ok (.iload 4, 2) := by decide +kernel
theorem dX11_swap_33 : decode cX11_swap 33 = .ok (.if_icmp .ne 6, 3) := by decide +kernel
theorem dX11_swap_36 : decode cX11_swap 36 = .ok (.bipush (-2), 2) := by decide +kernel
theorem dX11_swap_38 : decode cX11_swap 38 = .ok (.ireturn, 1) := by decide +kernel
theorem dX11_swap_39 : decode cX11_swap 39 = .ok (.aload_n 0, 1) := by decide +kernel
theorem dX11_swap_40 : decode cX11_swap 40 = .ok (.getfield 26, 3) := by decide +kernel
theorem dX11_swap_43 : decode cX11_swap 43 = .ok (.invokevirtual 281, 3) := by decide +kernel
theorem dX11_swap_46 : decode cX11_swap 46 = .ok (.ifCond .ne 18, 3) := by decide +kernel
theorem dX11_swap_49 : decode cX11_swap 49 = .ok (.aload_n 0, 1) := by decide +kernel
theorem dX11_swap_50 : decode cX11_swap 50 = .ok (.getfield 26, 3) := by decide +kernel
theorem dX11_swap_53 : decode cX11_swap 53 = .ok (.iload_n 1, 1) := by decide +kernel
theorem dX11_swap_54 : decode cX11_swap 54 = .ok (.iload_n 2, 1) := by decide +kernel
theorem dX11_swap_55 : decode cX11_swap 55 = .ok (.iload_n 3, 1) := by decide +kernel
theorem dX11_swap_56 : decode cX11_swap 56 = .ok (.iload 4, 2) := by decide +kernel
theorem dX11_swap_58 : decode cX11_swap 58 = .ok (.invokevirtual 284, 3) := by decide +kernel
theorem dX11_swap_61 : decode cX11_swap 61 = .ok (.ifCond .ne 6, 3) := by decide +kernel
theorem dX11_swap_64 : decode cX11_swap 64 = .ok (.bipush (-5), 2) := by decide +kernel
theorem dX11_swap_66 : decode cX11_swap 66 = .ok (.ireturn, 1) := by decide +kernel
theorem dX11_swap_67 : decode cX11_swap 67 = .ok (.aload_n 0, 1) := by decide +kernel
theorem dX11_swap_68 : decode cX11_swap 68 = .ok (.getfield 26, 3) := by decide +kernel
theorem dX11_swap_71 : decode cX11_swap 71 = .ok (.invokevirtual 288, 3) := by decide +kernel
theorem dX11_swap_74 : decode cX11_swap 74 = .ok (.aload_n 0, 1) := by decide +kernel
theorem dX11_swap_75 : decode cX11_swap 75 = .ok (.getfield 26, 3) := by decide +kernel
theorem dX11_swap_78 : decode cX11_swap 78 = .ok (.iload_n 1, 1) := by decide +kernel
theorem dX11_swap_79 : decode cX11_swap 79 = .ok (.iload_n 2, 1) := by decide +kernel
theorem dX11_swap_80 : decode cX11_swap 80 = .ok (.iload_n 3, 1) := by decide +kernel
theorem dX11_swap_81 : decode cX11_swap 81 = .ok (.iload 4, 2) := by decide +kernel
theorem dX11_swap_83 : decode cX11_swap 83 = .ok (.invokevirtual 291, 3) := by decide +kernel
theorem dX11_swap_86 : decode cX11_swap 86 = .ok (.iconst 0, 1) := by decide +kernel
theorem dX11_swap_87 : decode cX11_swap 87 = .ok (.ireturn, 1) := by decide +kernel
theorem dX11_walk_0 : decode cX11_walk 0 = .ok (.aload_n 0, 1) := by decide +kernel
theorem dX11_walk_1 : decode cX11_walk 1 = .ok (.getfield 26, 3) := by decide +kernel
theorem dX11_walk_4 : decode cX11_walk 4 = .ok (.invokevirtual 89, 3) := by decide +kernel
theorem dX11_walk_7 : decode cX11_walk 7 = .ok (.ifCond .eq 26, 3) := by decide +kernel
theorem dX11_walk_10 : decode cX11_walk 10 = .ok (.iload_n 1, 1) := by decide +kernel
theorem dX11_walk_11 : decode cX11_walk 11 = .ok (.iconst 1, 1) := by decide +kernel
theorem dX11_walk_12 : decode cX11_walk 12 = .ok (.if_icmp .lt 21, 3) := by decide +kernel
theorem dX11_walk_15 : decode cX11_walk 15 = .ok (.iload_n 1, 1) := by decide +kernel
theorem dX11_walk_16 : decode cX11_walk 16 = .ok (.sipush 1000, 3) := by decide +kernel
theorem dX11_walk_19 : decode cX11_walk 19 = .ok (.if_icmp .gt 14, 3) := by decide +kernel
theorem dX11_walk_22 : decode cX11_walk 22 = .ok (.iload_n 2, 1) := by decide +kernel
theorem dX11_walk_23 : decode cX11_walk 23 = .ok (.ifCond .lt 10, 3) := by decide +kernel
theorem dX11_walk_26 : decode cX11_walk 26 = .ok (.iload_n 2, 1) := by decide +kernel
theorem dX11_walk_27 : decode cX11_walk 27 = .ok (.ldc_w 295, 3) := by decide +kernel
theorem dX11_walk_30 : decode cX11_walk 30 = .ok (.if_icmp .le 6, 3) := by decide +kernel
theorem dX11_walk_33 : decode cX11_walk 33 = .ok (.bipush (-2), 2) := by decide +kernel
theorem dX11_walk_35 : decode cX11_walk 35 = .ok (.ireturn, 1) := by decide +kernel
theorem dX11_walk_36 : decode cX11_walk 36 = .ok (.aload_n 0, 1) := by decide +kernel
theorem dX11_walk_37 : decode cX11_walk 37 = .ok (.getfield 26, 3) := by decide +kernel
theorem dX11_walk_40 : decode cX11_walk 40 = .ok (.invokevirtual 281, 3) := by decide +kernel
theorem dX11_walk_43 : decode cX11_walk 43 = .ok (.ifCond .eq 6, 3) := by decide +kernel
theorem dX11_walk_46 : decode cX11_walk 46 = .ok (.bipush (-5), 2) := by decide +kernel
theorem dX11_walk_48 : decode cX11_walk 48 = .ok (.ireturn, 1) := by decide +kernel
theorem dX11_walk_49 : decode cX11_walk 49 = .ok (.aload_n 0, 1) := by decide +kernel
theorem dX11_walk_50 : decode cX11_walk 50 = .ok (.getfield 26, 3) := by decide +kernel
theorem dX11_walk_53 : decode cX11_walk 53 = .ok (.invokevirtual 288, 3) := by decide +kernel
theorem dX11_walk_56 : decode cX11_walk 56 = .ok (.aload_n 0, 1) := by decide +kernel
theorem dX11_walk_57 : decode cX11_walk 57 = .ok (.getfield 33, 3) := by decide +kernel
theorem dX11_walk_60 : decode cX11_walk 60 = .ok (.iload_n 2, 1) := by decide +kernel
theorem dX11_walk_61 : decode cX11_walk 61 = .ok (.invokevirtual 296, 3) := by decide +kernel
theorem dX11_walk_64 : decode cX11_walk 64 = .ok (.iconst 0, 1) := by decide +kernel
theorem dX11_walk_65 : decode cX11_walk 65 = .ok (.istore_n 3, 1) := by decide +kernel
theorem dX11_walk_66 : decode cX11_walk 66 = .ok (.iconst 0, 1) := by decide +kernel
theorem dX11_walk_67 : decode cX11_walk 67 = .ok (.istore 4, 2) := by decide +kernel
theorem dX11_walk_69 : decode cX11_walk 69 = .ok (.iload 4, 2) := by decide +kernel
theorem dX11_walk_71 : decode cX11_walk 71 = .ok (.iload_n 1, 1) := by decide +kernel
theorem dX11_walk_72 : decode cX11_walk 72 = .ok (.if_icmp .ge 26, 3) := by decide +kernel
theorem dX11_walk_75 : decode cX11_walk 75 = .ok (.aload_n 0, 1) := by decide +kernel
theorem dX11_walk_76 : decode cX11_walk 76 = .ok (.getfield 26, 3) := by decide +kernel
theorem dX11_walk_79 : decode cX11_walk 79 = .ok (.aload_n 0, 1) := by decide +kernel
theorem dX11_walk_80 : decode cX11_walk 80 = .ok (.getfield 33, 3) := by decide +kernel
theorem dX11_walk_83 : decode cX11_walk 83 = .ok (.invokevirtual 299, 3) := by decide +kernel
theorem dX11_walk_86 : decode cX11_walk 86 = .ok (.ifCond .eq 6, 3) := by decide +kernel
theorem dX11_walk_89 : decode cX11_walk 89 = .ok (.iinc 3 1, 3) := by decide +kernel
theorem dX11_walk_92 : decode cX11_walk 92 = .ok (.iinc 4 1, 3) := by decide +kernel
theorem dX11_walk_95 : decode cX11_walk 95 = .ok (.goto (-26), 3) := by decide +kernel
theorem dX11_walk_98 : decode cX11_walk 98 = .ok (.iload_n 3, 1) := by decide +kernel
theorem dX11_walk_99 : decode cX11_walk 99 = .ok (.ireturn, 1) := by decide +kernel
theorem dX11_undo_0 : decode cX11_undo 0 = .ok (.aload_n 0, 1) := by decide +kernel
theorem dX11_undo_1 : decode cX11_undo 1 = .ok (.getfield 26, 3) := by decide +kernel
theorem dX11_undo_4 : decode cX11_undo 4 = .ok (.invokevirtual 89, 3) := by decide +kernel
theorem dX11_undo_7 : decode cX11_undo 7 = .ok (.ifCond .ne 6, 3) := by decide +kernel
theorem dX11_undo_10 : decode cX11_undo 10 = .ok (.bipush (-2), 2) := by decide +kernel
theorem dX11_undo_12 : decode cX11_undo 12 = .ok (.ireturn, 1) := by decide +kernel
theorem dX11_undo_13 : decode cX11_undo 13 = .ok (.aload_n 0, 1) := by decide +kernel
theorem dX11_undo_14 : decode cX11_undo 14 = .ok (.getfield 26, 3) := by decide +kernel
theorem dX11_undo_17 : decode cX11_undo 17 = .ok (.getfield 128, 3) := by decide +kernel
theorem dX11_undo_20 : decode cX11_undo 20 = .ok (.ifCond .ne 6, 3) := by decide +kernel
theorem dX11_undo_23 : decode cX11_undo 23 = .ok (.bipush (-5), 2) := by decide +kernel
theorem dX11_undo_25 : decode cX11_undo 25 = .ok (.ireturn, 1) := by decide +kernel
theorem dX11_undo_26 : decode cX11_undo 26 = .ok (.aload_n 0, 1) := by decide +kernel
theorem dX11_undo_27 : decode cX11_undo 27 = .ok (.getfield 26, 3) := by decide +kernel
theorem dX11_undo_30 : decode cX11_undo 30 = .ok (.aload_n 0, 1) := by decide +kernel
theorem dX11_undo_31 : decode cX11_undo 31 = .ok (.getfield 26, 3) := by decide +kernel
theorem dX11_undo_34 : decode cX11_undo 34 = .ok (.getfield 128, 3) := by decide +kernel
theorem dX11_undo_37 : decode cX11_undo 37 = .ok (.iconst 1, 1) := by decide +kernel
theorem dX11_undo_38 : decode cX11_undo 38 = .ok (.isub, 1) := by decide +kernel
theorem dX11_undo_39 : decode cX11_undo 39 = .ok (.invokevirtual 303, 3) := by decide +kernel
theorem dX11_undo_42 : decode cX11_undo 42 = .ok (.aload_n 0, 1) := by decide +kernel
theorem dX11_undo_43 : decode cX11_undo 43 = .ok (.getfield 26, 3) := by decide +kernel
theorem dX11_undo_46 : decode cX11_undo 46 = .ok (.getfield 128, 3) := by decide +kernel
theorem dX11_undo_49 : decode cX11_undo 49 = .ok (.ireturn, 1) := by decide +kernel
theorem dX11_anew_0 : decode cX11_anew 0 = .ok (.aload_n 0, 1) := by decide +kernel
theorem dX11_anew_1 : decode cX11_anew 1 = .ok (.getfield 26, 3) := by decide +kernel
theorem dX11_anew_4 : decode cX11_anew 4 = .ok (.invokevirtual 89, 3) := by decide +kernel
theorem dX11_anew_7 : decode cX11_anew 7 = .ok (.ifCond .ne 6, 3) := by decide +kernel
theorem dX11_anew_10 : decode cX11_anew 10 = .ok (.bipush (-2), 2) := by decide +kernel
theorem dX11_anew_12 : decode cX11_anew 12 = .ok (.ireturn, 1) := by decide +kernel
theorem dX11_anew_13 : decode cX11_anew 13 = .ok (.aload_n 0, 1) := by decide +kernel
theorem dX11_anew_14 : decode cX11_anew 14 = .ok (.getfield 26, 3) := by decide +kernel
theorem dX11_anew_17 : decode cX11_anew 17 = .ok (.getfield 128, 3) := by decide +kernel
theorem dX11_anew_20 : decode cX11_anew 20 = .ok (.istore_n 1, 1) := by decide +kernel
theorem dX11_anew_21 : decode cX11_anew 21 = .ok (.aload_n 0, 1) := by decide +kernel
theorem dX11_anew_22 : decode cX11_anew 22 = .ok (.getfield 26, 3) := by decide +kernel
theorem dX11_anew_25 : decode cX11_anew 25 = .ok (.iconst 0, 1) := by decide +kernel
theorem dX11_anew_26 : decode cX11_anew 26 = .ok (.invokevirtual 303, 3) := by decide +kernel
theorem dX11_anew_29 : decode cX11_anew 29 = .ok (.iload_n 1, 1) := by decide +kernel
theorem dX11_anew_30 : decode cX11_anew 30 = .ok (.ireturn, 1) := by decide +kernel
theorem dX11_hasStatistic_0 : decode cX11_hasStatistic 0 = .ok (.aload_n 0, 1) := by decide +kernel
theorem dX11_hasStatistic_1 : decode cX11_hasStatistic 1 = .ok (.getfield 26, 3) := by decide +kernel
theorem dX11_hasStatistic_4 : decode cX11_hasStatistic 4 = .ok (.invokevirtual 89, 3) := by decide +kernel
theorem dX11_hasStatistic_7 : decode cX11_hasStatistic 7 = .ok (.ifCond .eq 16, 3) := by decide +kernel
theorem dX11_hasStatistic_10 : decode cX11_hasStatistic 10 = .ok (.iload_n 1, 1) := by decide +kernel
theorem dX11_hasStatistic_11 : decode cX11_hasStatistic 11 = .ok (.ifCond .lt 12, 3) := by decide +kernel
theorem dX11_hasStatistic_14 : decode cX11_hasStatistic 14 = .ok (.iload_n 1, 1) := by decide +kernel
theorem dX11_hasStatistic_15 : decode cX11_hasStatistic 15 = .ok (.iconst 4, 1) := by decide +kernel
theorem dX11_hasStatistic_16 : decode cX11_hasStatistic 16 = .ok (.if_icmp .ge 7, 3) := by decide +kernel
theorem dX11_hasStatistic_19 : decode cX11_hasStatistic 19 = .ok (.iconst 1, 1) := by decide +kernel
theorem dX11_hasStatistic_20 : decode cX11_hasStatistic 20 = .ok (.goto 4, 3) := by decide +kernel
theorem dX11_hasStatistic_23 : decode cX11_hasStatistic 23 = .ok (.iconst 0, 1) := by decide +kernel
theorem dX11_hasStatistic_24 : decode cX11_hasStatistic 24 = .ok (.ireturn, 1) := by decide +kernel
theorem dX11_evenWords_0 : decode cX11_evenWords 0 = .ok (.ldc2_w 306, 3) := by decide +kernel
theorem dX11_evenWords_3 : decode cX11_evenWords 3 = .ok (.aload_n 0, 1) := by decide +kernel
theorem dX11_evenWords_4 : decode cX11_evenWords 4 = .ok (.getfield 47, 3) := by decide +kernel
theorem dX11_evenWords_7 : decode cX11_evenWords 7 = .ok (.invokevirtual 149, 3) := by decide +kernel
theorem dX11_evenWords_10 : decode cX11_evenWords 10 = .ok (.invokestatic 308, 3) := by decide +kernel
theorem dX11_evenWords_13 : decode cX11_evenWords 13 = .ok (.lreturn, 1) := by decide +kernel
theorem dX11_rankNow_0 : decode cX11_rankNow 0 = .ok (.aload_n 0, 1) := by decide +kernel
theorem dX11_rankNow_1 : decode cX11_rankNow 1 = .ok (.getfield 47, 3) := by decide +kernel
