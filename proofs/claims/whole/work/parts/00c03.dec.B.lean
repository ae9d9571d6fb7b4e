theorem dX1_init_0 : decode cX1_init 0 = .ok (.aload_n 0, 1) := by decide +kernel
theorem dX1_init_1 : decode cX1_init 1 = .ok (.invokespecial 3, 3) := by decide +kernel
theorem dX1_init_4 : decode cX1_init 4 = .ok (.aload_n 0, 1) := by decide +kernel
theorem dX1_init_5 : decode cX1_init 5 = .ok (.new 9, 3) := by decide +kernel
theorem dX1_init_8 : decode cX1_init 8 = .ok (.dup, 1) := by decide +kernel
theorem dX1_init_9 : decode cX1_init 9 = .ok (.invokespecial 11, 3) := by decide +kernel
theorem dX1_init_12 : decode cX1_init 12 = .ok (.putfield 12, 3) := by decide +kernel
theorem dX1_init_15 : decode cX1_init 15 = .ok (.aload_n 0, 1) := by decide +kernel
theorem dX1_init_16 : decode cX1_init 16 = .ok (.bipush 20, 2) := by decide +kernel
theorem dX1_init_18 : decode cX1_init 18 = .ok (.newarray .int, 2) := by decide +kernel
theorem dX1_init_20 : decode cX1_init 20 = .ok (.putfield 18, 3) := by decide +kernel
theorem dX1_init_23 : decode cX1_init 23 = .ok (.aload_n 0, 1) := by decide +kernel
theorem dX1_init_24 : decode cX1_init 24 = .ok (.bipush 100, 2) := by decide +kernel
theorem dX1_init_26 : decode cX1_init 26 = .ok (.newarray .int, 2) := by decide +kernel
theorem dX1_init_28 : decode cX1_init 28 = .ok (.putfield 22, 3) := by decide +kernel
theorem dX1_init_31 : decode cX1_init 31 = .ok (.aload_n 0, 1) := by decide +kernel
theorem dX1_init_32 : decode cX1_init 32 = .ok (.bipush 64, 2) := by decide +kernel
theorem dX1_init_34 : decode cX1_init 34 = .ok (.newarray .int, 2) := by decide +kernel
theorem dX1_init_36 : decode cX1_init 36 = .ok (.putfield 25, 3) := by decide +kernel
theorem dX1_init_39 : decode cX1_init 39 = .ok (.aload_n 0, 1) := by decide +kernel
theorem dX1_init_40 : decode cX1_init 40 = .ok (.bipush 20, 2) := by decide +kernel
theorem dX1_init_42 : decode cX1_init 42 = .ok (.newarray .long, 2) := by decide +kernel
theorem dX1_init_44 : decode cX1_init 44 = .ok (.putfield 28, 3) := by decide +kernel
theorem dX1_init_47 : decode cX1_init 47 = .ok (.aload_n 0, 1) := by decide +kernel
theorem dX1_init_48 : decode cX1_init 48 = .ok (.iconst 0, 1) := by decide +kernel
theorem dX1_init_49 : decode cX1_init 49 = .ok (.putfield 32, 3) := by decide +kernel
theorem dX1_init_52 : decode cX1_init 52 = .ok (.aload_n 0, 1) := by decide +kernel
theorem dX1_init_53 : decode cX1_init 53 = .ok (.aload_n 1, 1) := by decide +kernel
theorem dX1_init_54 : decode cX1_init 54 = .ok (.putfield 36, 3) := by decide +kernel
theorem dX1_init_57 : decode cX1_init 57 = .ok (.aload_n 0, 1) := by decide +kernel
theorem dX1_init_58 : decode cX1_init 58 = .ok (.new 40, 3) := by decide +kernel
theorem dX1_init_61 : decode cX1_init 61 = .ok (.dup, 1) := by decide +kernel
theorem dX1_init_62 : decode cX1_init 62 = .ok (.aload_n 1, 1) := by decide +kernel
theorem dX1_init_63 : decode cX1_init 63 = .ok (.aload_n 0, 1) := by decide +kernel
theorem dX1_init_64 : decode cX1_init 64 = .ok (.getfield 12, 3) := by decide +kernel
theorem dX1_init_67 : decode cX1_init 67 = .ok (.invokespecial 42, 3) := by decide +kernel
theorem dX1_init_70 : decode cX1_init 70 = .ok (.putfield 45, 3) := by decide +kernel
theorem dX1_init_73 : decode cX1_init 73 = .ok (.return_, 1) := by decide +kernel
theorem dX1_explore_0 : decode cX1_explore 0 = .ok (.aload_n 0, 1) := by decide +kernel
theorem dX1_explore_1 : decode cX1_explore 1 = .ok (.getfield 12, 3) := by decide +kernel
theorem dX1_explore_4 : decode cX1_explore 4 = .ok (.aload_n 1, 1) := by decide +kernel
theorem dX1_explore_5 : decode cX1_explore 5 = .ok (.invokevirtual 49, 3) := by decide +kernel
theorem dX1_explore_8 : decode cX1_explore 8 = .ok (.aload_n 0, 1) := by decide +kernel
theorem dX1_explore_9 : decode cX1_explore 9 = .ok (.getfield 12, 3) := by decide +kernel
theorem dX1_explore_12 : decode cX1_explore 12 = .ok (.aload_n 1, 1) := by decide +kernel
theorem dX1_explore_13 : decode cX1_explore 13 = .ok (.iload_n 2, 1) := by decide +kernel
theorem dX1_explore_14 : decode cX1_explore 14 = .ok (.aload_n 0, 1) := by decide +kernel
theorem dX1_explore_15 : decode cX1_explore 15 = .ok (.getfield 36, 3) := by decide +kernel
theorem dX1_explore_18 : decode cX1_explore 18 = .ok (.getfield 53, 3) := by decide +kernel
theorem dX1_explore_21 : decode cX1_explore 21 = .ok (.invokestatic 58, 3) := by decide +kernel
theorem dX1_explore_24 : decode cX1_explore 24 = .ok (.invokevirtual 62, 3) := by decide +kernel
theorem dX1_explore_27 : decode cX1_explore 27 = .ok (.aload_n 0, 1) := by decide +kernel
theorem dX1_explore_28 : decode cX1_explore 28 = .ok (.getfield 45, 3) := by decide +kernel
theorem dX1_explore_31 : decode cX1_explore 31 = .ok (.aload_n 1, 1) := by decide +kernel
theorem dX1_explore_32 : decode cX1_explore 32 = .ok (.invokevirtual 66, 3) := by decide +kernel
theorem dX1_explore_35 : decode cX1_explore 35 = .ok (.ireturn, 1) := by decide +kernel
theorem dX1_countWays_0 : decode cX1_countWays 0 = .ok (.aload_n 0, 1) := by decide +kernel
theorem dX1_countWays_1 : decode cX1_countWays 1 = .ok (.getfield 12, 3) := by decide +kernel
theorem dX1_countWays_4 : decode cX1_countWays 4 = .ok (.aload_n 1, 1) := by decide +kernel
theorem dX1_countWays_5 : decode cX1_countWays 5 = .ok (.iload_n 2, 1) := by decide +kernel
theorem dX1_countWays_6 : decode cX1_countWays 6 = .ok (.invokevirtual 62, 3) := by decide +kernel
theorem dX1_countWays_9 : decode cX1_countWays 9 = .ok (.aload_n 0, 1) := by decide +kernel
theorem dX1_countWays_10 : decode cX1_countWays 10 = .ok (.getfield 45, 3) := by decide +kernel
theorem dX1_countWays_13 : decode cX1_countWays 13 = .ok (.aload_n 1, 1) := by decide +kernel
theorem dX1_countWays_14 : decode cX1_countWays 14 = .ok (.invokevirtual 66, 3) := by decide +kernel
theorem dX1_countWays_17 : decode cX1_countWays 17 = .ok (.ifCond .eq 20, 3) := by decide +kernel
theorem dX1_countWays_20 : decode cX1_countWays 20 = .ok (.aload_n 0, 1) := by decide +kernel
theorem dX1_countWays_21 : decode cX1_countWays 21 = .ok (.getfield 45, 3) := by decide +kernel
theorem dX1_countWays_24 : decode cX1_countWays 24 = .ok (.aload_n 0, 1) := by decide +kernel
theorem dX1_countWays_25 : decode cX1_countWays 25 = .ok (.getfield 12, 3) := by decide +kernel
theorem dX1_countWays_28 : decode cX1_countWays 28 = .ok (.getfield 70, 3) := by decide +kernel
theorem dX1_countWays_31 : decode cX1_countWays 31 = .ok (.invokevirtual 73, 3) := by decide +kernel
theorem dX1_countWays_34 : decode cX1_countWays 34 = .ok (.goto 6, 3) := by decide +kernel
theorem dX1_countWays_37 : decode cX1_countWays 37 = .ok (.ldc2_w 77, 3) := by decide +kernel
theorem dX1_countWays_40 : decode cX1_countWays 40 = .ok (.lreturn, 1) := by decide +kernel
theorem dX1_countOrders_0 : decode cX1_countOrders 0 = .ok (.iload_n 2, 1) := by decide +kernel
theorem dX1_countOrders_1 : decode cX1_countOrders 1 = .ok (.iconst 3, 1) := by decide +kernel
theorem dX1_countOrders_2 : decode cX1_countOrders 2 = .ok (.if_icmp .eq 28, 3) := by decide +kernel
theorem dX1_countOrders_5 : decode cX1_countOrders 5 = .ok (.aload_n 0, 1) := by decide +kernel
theorem dX1_countOrders_6 : decode cX1_countOrders 6 = .ok (.getfield 12, 3) := by decide +kernel
theorem dX1_countOrders_9 : decode cX1_countOrders 9 = .ok (.aload_n 1, 1) := by decide +kernel
theorem dX1_countOrders_10 : decode cX1_countOrders 10 = .ok (.invokevirtual 49, 3) := by decide +kernel
theorem dX1_countOrders_13 : decode cX1_countOrders 13 = .ok (.aload_n 0, 1) := by decide +kernel
theorem dX1_countOrders_14 : decode cX1_countOrders 14 = .ok (.aload_n 1, 1) := by decide +kernel
theorem dX1_countOrders_15 : decode cX1_countOrders 15 = .ok (.iload_n 2, 1) := by decide +kernel
theorem dX1_countOrders_16 : decode cX1_countOrders 16 = .ok (.aload_n 0, 1) := by decide +kernel
theorem dX1_countOrders_17 : decode cX1_countOrders 17 = .ok (.getfield 36, 3) := by decide +kernel
theorem dX1_countOrders_20 : decode cX1_countOrders 20 = .ok (.getfield 53, 3) := by decide +kernel
theorem dX1_countOrders_23 : decode cX1_countOrders 23 = .ok (.invokestatic 58, 3) := by decide +kernel
theorem dX1_countOrders_26 : decode cX1_countOrders 26 = .ok (.invokevirtual 79, 3) := by decide +kernel
theorem dX1_countOrders_29 : decode cX1_countOrders 29 = .ok (.lreturn, 1) := by decide +kernel
theorem dX1_countOrders_30 : decode cX1_countOrders 30 = .ok (.lconst 1, 1) := by decide +kernel
theorem dX1_countOrders_31 : decode cX1_countOrders 31 = .ok (.lstore_n 3, 1) := by decide +kernel
theorem dX1_countOrders_32 : decode cX1_countOrders 32 = .ok (.iconst 0, 1) := by decide +kernel
theorem dX1_countOrders_33 : decode cX1_countOrders 33 = .ok (.istore 5, 2) := by decide +kernel
theorem dX1_countOrders_35 : decode cX1_countOrders 35 = .ok (.iload 5, 2) := by decide +kernel
theorem dX1_countOrders_37 : decode cX1_countOrders 37 = .ok (.aload_n 0, 1) := by decide +kernel
theorem dX1_countOrders_38 : decode cX1_countOrders 38 = .ok (.getfield 36, 3) := by decide +kernel
theorem dX1_countOrders_41 : decode cX1_countOrders 41 = .ok (.getfield 82, 3) := by decide +kernel
theorem dX1_countOrders_44 : decode cX1_countOrders 44 = .ok (.if_icmp .ge 62, 3) := by decide +kernel
theorem dX1_countOrders_47 : decode cX1_countOrders 47 = .ok (.aload_n 0, 1) := by decide +kernel
theorem dX1_countOrders_48 : decode cX1_countOrders 48 = .ok (.getfield 12, 3) := by decide +kernel
theorem dX1_countOrders_51 : decode cX1_countOrders 51 = .ok (.aload_n 1, 1) := by decide +kernel
theorem dX1_countOrders_52 : decode cX1_countOrders 52 = .ok (.iload 5, 2) := by decide +kernel
theorem dX1_countOrders_54 : decode cX1_countOrders 54 = .ok (.invokevirtual 85, 3) := by decide +kernel
theorem dX1_countOrders_57 : decode cX1_countOrders 57 = .ok (.aload_n 1, 1) := by decide +kernel
theorem dX1_countOrders_58 : decode cX1_countOrders 58 = .ok (.invokevirtual 91, 3) := by decide +kernel
theorem dX1_countOrders_61 : decode cX1_countOrders 61 = .ok (.invokevirtual 95, 3) := by decide +kernel
theorem dX1_countOrders_64 : decode cX1_countOrders 64 = .ok (.aload_n 0, 1) := by decide +kernel
theorem dX1_countOrders_65 : decode cX1_countOrders 65 = .ok (.aload_n 1, 1) := by decide +kernel
theorem dX1_countOrders_66 : decode cX1_countOrders 66 = .ok (.iconst 0, 1) := by decide +kernel
theorem dX1_countOrders_67 : decode cX1_countOrders 67 = .ok (.aload_n 0, 1) := by decide +kernel
theorem dX1_countOrders_68 : decode cX1_countOrders 68 = .ok (.getfield 36, 3) := by decide +kernel
theorem dX1_countOrders_71 : decode cX1_countOrders 71 = .ok (.getfield 53, 3) := by decide +kernel
theorem dX1_countOrders_74 : decode cX1_countOrders 74 = .ok (.invokestatic 58, 3) := by decide +kernel
theorem dX1_countOrders_77 : decode cX1_countOrders 77 = .ok (.invokevirtual 79, 3) := by decide +kernel
theorem dX1_countOrders_80 : decode cX1_countOrders 80 = .ok (.lstore 6, 2) := by decide +kernel
theorem dX1_countOrders_82 : decode cX1_countOrders 82 = .ok (.lload 6, 2) := by decide +kernel
theorem dX1_countOrders_84 : decode cX1_countOrders 84 = .ok (.lconst 0, 1) := by decide +kernel
theorem dX1_countOrders_85 : decode cX1_countOrders 85 = .ok (.lcmp, 1) := by decide +kernel
theorem dX1_countOrders_86 : decode cX1_countOrders 86 = .ok (.ifCond .ge 7, 3) := by decide +kernel
theorem dX1_countOrders_89 : decode cX1_countOrders 89 = .ok (.ldc2_w 77, 3) := by decide +kernel
theorem dX1_countOrders_92 : decode cX1_countOrders 92 = .ok (.lreturn, 1) := by decide +kernel
theorem dX1_countOrders_93 : decode cX1_countOrders 93 = .ok (.lload_n 3, 1) := by decide +kernel
theorem dX1_countOrders_94 : decode cX1_countOrders 94 = .ok (.lload 6, 2) := by decide +kernel
theorem dX1_countOrders_96 : decode cX1_countOrders 96 = .ok (.invokestatic 99, 3) := by decide +kernel
theorem dX1_countOrders_99 : decode cX1_countOrders 99 = .ok (.lstore_n 3, 1) := by decide +kernel
theorem dX1_countOrders_100 : decode cX1_countOrders 100 = .ok (.iinc 5 1, 3) := by decide +kernel
theorem dX1_countOrders_103 : decode cX1_countOrders 103 = .ok (.goto (-68), 3) := by decide +kernel
theorem dX1_countOrders_106 : decode cX1_countOrders 106 = .ok (.lload_n 3, 1) := by decide +kernel
theorem dX1_countOrders_107 : decode cX1_countOrders 107 = .ok (.lreturn, 1) := by decide +kernel
theorem dX1_countOrdersOfTill_0 : decode cX1_countOrdersOfTill 0 = .ok (.aload_n 0, 1) := by decide +kernel
theorem dX1_countOrdersOfTill_1 : decode cX1_countOrdersOfTill 1 = .ok (.getfield 12, 3) := by decide +kernel
theorem dX1_countOrdersOfTill_4 : decode cX1_countOrdersOfTill 4 = .ok (.aload_n 1, 1) := by decide +kernel
theorem dX1_countOrdersOfTill_5 : decode cX1_countOrdersOfTill 5 = .ok (.iload_n 2, 1) := by decide +kernel
theorem dX1_countOrdersOfTill_6 : decode cX1_countOrdersOfTill 6 = .ok (.invokevirtual 85, 3) := by decide +kernel
theorem dX1_countOrdersOfTill_9 : decode cX1_countOrdersOfTill 9 = .ok (.aload_n 1, 1) := by decide +kernel
theorem dX1_countOrdersOfTill_10 : decode cX1_countOrdersOfTill 10 = .ok (.invokevirtual 91, 3) := by decide +kernel
theorem dX1_countOrdersOfTill_13 : decode cX1_countOrdersOfTill 13 = .ok (.invokevirtual 95, 3) := by decide +kernel
theorem dX1_countOrdersOfTill_16 : decode cX1_countOrdersOfTill 16 = .ok (.aload_n 0, 1) := by decide +kernel
theorem dX1_countOrdersOfTill_17 : decode cX1_countOrdersOfTill 17 = .ok (.aload_n 1, 1) := by decide +kernel
theorem dX1_countOrdersOfTill_18 : decode cX1_countOrdersOfTill 18 = .ok (.iconst 0, 1) := by decide +kernel
theorem dX1_countOrdersOfTill_19 : decode cX1_countOrdersOfTill 19 = .ok (.aload_n 0, 1) := by decide +kernel
theorem dX1_countOrdersOfTill_20 : decode cX1_countOrdersOfTill 20 = .ok (.getfield 36, 3) := by decide +kernel
theorem dX1_countOrdersOfTill_23 : decode cX1_countOrdersOfTill 23 = .ok (.getfield 53, 3) := by decide +kernel
theorem dX1_countOrdersOfTill_26 : decode cX1_countOrdersOfTill 26 = .ok (.invokestatic 58, 3) := by decide +kernel
theorem dX1_countOrdersOfTill_29 : decode cX1_countOrdersOfTill 29 = .ok (.invokevirtual 79, 3) := by decide +kernel
theorem dX1_countOrdersOfTill_32 : decode cX1_countOrdersOfTill 32 = .ok (.lreturn, 1) := by decide +kernel
theorem dX1_countStands_0 : decode cX1_countStands 0 = .ok (.aload_n 0, 1) := by decide +kernel
theorem dX1_countStands_1 : decode cX1_countStands 1 = .ok (.aload_n 1, 1) := by decide +kernel
theorem dX1_countStands_2 : decode cX1_countStands 2 = .ok (.iload_n 2, 1) := by decide +kernel
theorem dX1_countStands_3 : decode cX1_countStands 3 = .ok (.invokevirtual 103, 3) := by decide +kernel
theorem dX1_countStands_6 : decode cX1_countStands 6 = .ok (.ifCond .eq 13, 3) := by decide +kernel
theorem dX1_countStands_9 : decode cX1_countStands 9 = .ok (.aload_n 0, 1) := by decide +kernel
theorem dX1_countStands_10 : decode cX1_countStands 10 = .ok (.getfield 45, 3) := by decide +kernel
theorem dX1_countStands_13 : decode cX1_countStands 13 = .ok (.getfield 106, 3) := by decide +kernel
theorem dX1_countStands_16 : decode cX1_countStands 16 = .ok (.goto 5, 3) := by decide +kernel
theorem dX1_countStands_19 : decode cX1_countStands 19 = .ok (.bipush (-10), 2) := by decide +kernel
theorem dX1_countStands_21 : decode cX1_countStands 21 = .ok (.ireturn, 1) := by decide +kernel
theorem dX1_countEnds_0 : decode cX1_countEnds 0 = .ok (.aload_n 0, 1) := by decide +kernel
theorem dX1_countEnds_1 : decode cX1_countEnds 1 = .ok (.aload_n 1, 1) := by decide +kernel
theorem dX1_countEnds_2 : decode cX1_countEnds 2 = .ok (.iload_n 2, 1) := by decide +kernel
theorem dX1_countEnds_3 : decode cX1_countEnds 3 = .ok (.invokevirtual 103, 3) := by decide +kernel
theorem dX1_countEnds_6 : decode cX1_countEnds 6 = .ok (.ifCond .eq 13, 3) := by decide +kernel
theorem dX1_countEnds_9 : decode cX1_countEnds 9 = .ok (.aload_n 0, 1) := by decide +kernel
theorem dX1_countEnds_10 : decode cX1_countEnds 10 = .ok (.getfield 45, 3) := by decide +kernel
theorem dX1_countEnds_13 : decode cX1_countEnds 13 = .ok (.invokevirtual 109, 3) := by decide +kernel
theorem dX1_countEnds_16 : decode cX1_countEnds 16 = .ok (.goto 5, 3) := by decide +kernel
theorem dX1_countEnds_19 : decode cX1_countEnds 19 = .ok (.bipush (-10), 2) := by decide +kernel
theorem dX1_countEnds_21 : decode cX1_countEnds 21 = .ok (.ireturn, 1) := by decide +kernel
theorem dX1_pathAt_0 : decode cX1_pathAt 0 = .ok (.iload_n 1, 1) := by decide +kernel
theorem dX1_pathAt_1 : decode cX1_pathAt 1 = .ok (.ifCond .lt 18, 3) := by decide +kernel
theorem dX1_pathAt_4 : decode cX1_pathAt 4 = .ok (.iload_n 1, 1) := by decide +kernel
theorem dX1_pathAt_5 : decode cX1_pathAt 5 = .ok (.bipush 20, 2) := by decide +kernel
theorem dX1_pathAt_7 : decode cX1_pathAt 7 = .ok (.if_icmp .ge 12, 3) := by decide +kernel
theorem dX1_pathAt_10 : decode cX1_pathAt 10 = .ok (.aload_n 0, 1) := by decide +kernel
theorem dX1_pathAt_11 : decode cX1_pathAt 11 = .ok (.getfield 18, 3) := by decide +kernel
theorem dX1_pathAt_14 : decode cX1_pathAt 14 = .ok (.iload_n 1, 1) := by decide +kernel
theorem dX1_pathAt_15 : decode cX1_pathAt 15 = .ok (.iaload, 1) := by decide +kernel
theorem dX1_pathAt_16 : decode cX1_pathAt 16 = .ok (.goto 4, 3) := by decide +kernel
theorem dX1_pathAt_19 : decode cX1_pathAt 19 = .ok (.iconst (-1), 1) := by decide +kernel
theorem dX1_pathAt_20 : decode cX1_pathAt 20 = .ok (.ireturn, 1) := by decide +kernel
theorem dX1_findFirst_0 : decode cX1_findFirst 0 = .ok (.aload_n 0, 1) := by decide +kernel
theorem dX1_findFirst_1 : decode cX1_findFirst 1 = .ok (.aload_n 1, 1) := by decide +kernel
theorem dX1_findFirst_2 : decode cX1_findFirst 2 = .ok (.iload_n 2, 1) := by decide +kernel
theorem dX1_findFirst_3 : decode cX1_findFirst 3 = .ok (.invokevirtual 103, 3) := by decide +kernel
theorem dX1_findFirst_6 : decode cX1_findFirst 6 = .ok (.ifCond .ne 6, 3) := by decide +kernel
theorem dX1_findFirst_9 : decode cX1_findFirst 9 = .ok (.bipush (-10), 2) := by decide +kernel
theorem dX1_findFirst_11 : decode cX1_findFirst 11 = .ok (.ireturn, 1) := by decide +kernel
theorem dX1_findFirst_12 : decode cX1_findFirst 12 = .ok (.aload_n 0, 1) := by decide +kernel
theorem dX1_findFirst_13 : decode cX1_findFirst 13 = .ok (.getfield 45, 3) := by decide +kernel
theorem dX1_findFirst_16 : decode cX1_findFirst 16 = .ok (.aload_n 0, 1) := by decide +kernel
theorem dX1_findFirst_17 : decode cX1_findFirst 17 = .ok (.getfield 12, 3) := by decide +kernel
theorem dX1_findFirst_20 : decode cX1_findFirst 20 = .ok (.getfield 70, 3) := by decide +kernel
theorem dX1_findFirst_23 : decode cX1_findFirst 23 = .ok (.invokevirtual 73, 3) := by decide +kernel
theorem dX1_findFirst_26 : decode cX1_findFirst 26 = .ok (.lconst 0, 1) := by decide +kernel
theorem dX1_findFirst_27 : decode cX1_findFirst 27 = .ok (.lcmp, 1) := by decide +kernel
theorem dX1_findFirst_28 : decode cX1_findFirst 28 = .ok (.ifCond .ne 6, 3) := by decide +kernel
theorem dX1_findFirst_31 : decode cX1_findFirst 31 = .ok (.bipush (-11), 2) := by decide +kernel
theorem dX1_findFirst_33 : decode cX1_findFirst 33 = .ok (.ireturn, 1) := by decide +kernel
theorem dX1_findFirst_34 : decode cX1_findFirst 34 = .ok (.iconst 0, 1) := by decide +kernel
theorem dX1_findFirst_35 : decode cX1_findFirst 35 = .ok (.istore_n 3, 1) := by decide +kernel
theorem dX1_findFirst_36 : decode cX1_findFirst 36 = .ok (.iconst 0, 1) := by decide +kernel
theorem dX1_findFirst_37 : decode cX1_findFirst 37 = .ok (.istore 4, 2) := by decide +kernel
theorem dX1_findFirst_39 : decode cX1_findFirst 39 = .ok (.iconst 0, 1) := by decide +kernel
theorem dX1_findFirst_40 : decode cX1_findFirst 40 = .ok (.istore 5, 2) := by decide +kernel
theorem dX1_findFirst_42 : decode cX1_findFirst 42 = .ok (.iload 5, 2) := by decide +kernel
theorem dX1_findFirst_44 : decode cX1_findFirst 44 = .ok (.bipush 20, 2) := by decide +kernel
theorem dX1_findFirst_46 : decode cX1_findFirst 46 = .ok (.if_icmp .ge 68, 3) := by decide +kernel
theorem dX1_findFirst_49 : decode cX1_findFirst 49 = .ok (.aload_n 0, 1) := by decide +kernel
theorem dX1_findFirst_50 : decode cX1_findFirst 50 = .ok (.getfield 12, 3) := by decide +kernel
theorem dX1_findFirst_53 : decode cX1_findFirst 53 = .ok (.aload_n 0, 1) := by decide +kernel
theorem dX1_findFirst_54 : decode cX1_findFirst 54 = .ok (.getfield 45, 3) := by decide +kernel
theorem dX1_findFirst_57 : decode cX1_findFirst 57 = .ok (.iload_n 3, 1) := by decide +kernel
theorem dX1_findFirst_58 : decode cX1_findFirst 58 = .ok (.invokevirtual 112, 3) := by decide +kernel
theorem dX1_findFirst_61 : decode cX1_findFirst 61 = .ok (.invokevirtual 115, 3) := by decide +kernel
theorem dX1_findFirst_64 : decode cX1_findFirst 64 = .ok (.ifCond .ne 50, 3) := by decide +kernel
theorem dX1_findFirst_67 : decode cX1_findFirst 67 = .ok (.aload_n 0, 1) := by decide +kernel
theorem dX1_findFirst_68 : decode cX1_findFirst 68 = .ok (.iload_n 3, 1) := by decide +kernel
theorem dX1_findFirst_69 : decode cX1_findFirst 69 = .ok (.invokevirtual 119, 3) := by decide +kernel
theorem dX1_findFirst_72 : decode cX1_findFirst 72 = .ok (.istore 6, 2) := by decide +kernel
theorem dX1_findFirst_74 : decode cX1_findFirst 74 = .ok (.aload_n 0, 1) := by decide +kernel
theorem dX1_findFirst_75 : decode cX1_findFirst 75 = .ok (.getfield 18, 3) := by decide +kernel
theorem dX1_findFirst_78 : decode cX1_findFirst 78 = .ok (.iload 5, 2) := by decide +kernel
theorem dX1_findFirst_80 : decode cX1_findFirst 80 = .ok (.aload_n 0, 1) := by decide +kernel
theorem dX1_findFirst_81 : decode cX1_findFirst 81 = .ok (.getfield 45, 3) := by decide +kernel
theorem dX1_findFirst_84 : decode cX1_findFirst 84 = .ok (.iload_n 3, 1) := by decide +kernel
theorem dX1_findFirst_85 : decode cX1_findFirst 85 = .ok (.iload 6, 2) := by decide +kernel
theorem dX1_findFirst_87 : decode cX1_findFirst 87 = .ok (.invokevirtual 122, 3) := by decide +kernel
theorem dX1_findFirst_90 : decode cX1_findFirst 90 = .ok (.iastore, 1) := by decide +kernel
theorem dX1_findFirst_91 : decode cX1_findFirst 91 = .ok (.aload_n 0, 1) := by decide +kernel
theorem dX1_findFirst_92 : decode cX1_findFirst 92 = .ok (.getfield 45, 3) := by decide +kernel
theorem dX1_findFirst_95 : decode cX1_findFirst 95 = .ok (.iload_n 3, 1) := by decide +kernel
theorem dX1_findFirst_96 : decode cX1_findFirst 96 = .ok (.iload 6, 2) := by decide +kernel
theorem dX1_findFirst_98 : decode cX1_findFirst 98 = .ok (.invokevirtual 125, 3) := by decide +kernel
theorem dX1_findFirst_101 : decode cX1_findFirst 101 = .ok (.istore_n 3, 1) := by decide +kernel
theorem dX1_findFirst_102 : decode cX1_findFirst 102 = .ok (.iload 5, 2) := by decide +kernel
theorem dX1_findFirst_104 : decode cX1_findFirst 104 = .ok (.iconst 1, 1) := by decide +kernel
theorem dX1_findFirst_105 : decode cX1_findFirst 105 = .ok (.iadd, 1) := by decide +kernel
theorem dX1_findFirst_106 : decode cX1_findFirst 106 = .ok (.istore 4, 2) := by decide +kernel
theorem dX1_findFirst_108 : decode cX1_findFirst 108 = .ok (.iinc 5 1, 3) := by decide +kernel
theorem dX1_findFirst_111 : decode cX1_findFirst 111 = .ok (.goto (-69), 3) := by decide +kernel
theorem dX1_findFirst_114 : decode cX1_findFirst 114 = .ok (.iload 4, 2) := by decide +kernel
theorem dX1_findFirst_116 : decode cX1_findFirst 116 = .ok (.ireturn, 1) := by decide +kernel
theorem dX1_firstLead_0 : decode cX1_firstLead 0 = .ok (.iconst (-1), 1) := by decide +kernel
theorem dX1_firstLead_1 : decode cX1_firstLead 1 = .ok (.istore_n 2, 1) := by decide +kernel
theorem dX1_firstLead_2 : decode cX1_firstLead 2 = .ok (.iconst 0, 1) := by decide +kernel
theorem dX1_firstLead_3 : decode cX1_firstLead 3 = .ok (.istore_n 3, 1) := by decide +kernel
theorem dX1_firstLead_4 : decode cX1_firstLead 4 = .ok (.iload_n 3, 1) := by decide +kernel
theorem dX1_firstLead_5 : decode cX1_firstLead 5 = .ok (.iconst 4, 1) := by decide +kernel
theorem dX1_firstLead_6 : decode cX1_firstLead 6 = .ok (.if_icmp .ge 59, 3) := by decide +kernel
theorem dX1_firstLead_9 : decode cX1_firstLead 9 = .ok (.aload_n 0, 1) := by decide +kernel
theorem dX1_firstLead_10 : decode cX1_firstLead 10 = .ok (.getfield 45, 3) := by decide +kernel
theorem dX1_firstLead_13 : decode cX1_firstLead 13 = .ok (.aload_n 0, 1) := by decide +kernel
theorem dX1_firstLead_14 : decode cX1_firstLead 14 = .ok (.getfield 45, 3) := by decide +kernel
theorem dX1_firstLead_17 : decode cX1_firstLead 17 = .ok (.iload_n 1, 1) := by decide +kernel
theorem dX1_firstLead_18 : decode cX1_firstLead 18 = .ok (.iload_n 3, 1) := by decide +kernel
theorem dX1_firstLead_19 : decode cX1_firstLead 19 = .ok (.invokevirtual 125, 3) := by decide +kernel
theorem dX1_firstLead_22 : decode cX1_firstLead 22 = .ok (.invokevirtual 128, 3) := by decide +kernel
theorem dX1_firstLead_25 : decode cX1_firstLead 25 = .ok (.istore 4, 2) := by decide +kernel
theorem dX1_firstLead_27 : decode cX1_firstLead 27 = .ok (.iload 4, 2) := by decide +kernel
theorem dX1_firstLead_29 : decode cX1_firstLead 29 = .ok (.ifCond .eq 30, 3) := by decide +kernel
theorem dX1_firstLead_32 : decode cX1_firstLead 32 = .ok (.iload_n 2, 1) := by decide +kernel
theorem dX1_firstLead_33 : decode cX1_firstLead 33 = .ok (.ifCond .lt 24, 3) := by decide +kernel
theorem dX1_firstLead_36 : decode cX1_firstLead 36 = .ok (.aload_n 0, 1) := by decide +kernel
theorem dX1_firstLead_37 : decode cX1_firstLead 37 = .ok (.getfield 45, 3) := by decide +kernel
theorem dX1_firstLead_40 : decode cX1_firstLead 40 = .ok (.iload_n 1, 1) := by decide +kernel
theorem dX1_firstLead_41 : decode cX1_firstLead 41 = .ok (.iload_n 3, 1) := by decide +kernel
theorem dX1_firstLead_42 : decode cX1_firstLead 42 = .ok (.invokevirtual 122, 3) := by decide +kernel
theorem dX1_firstLead_45 : decode cX1_firstLead 45 = .ok (.aload_n 0, 1) := by decide +kernel
theorem dX1_firstLead_46 : decode cX1_firstLead 46 = .ok (.getfield 45, 3) := by decide +kernel
theorem dX1_firstLead_49 : decode cX1_firstLead 49 = .ok (.iload_n 1, 1) := by decide +kernel
theorem dX1_firstLead_50 : decode cX1_firstLead 50 = .ok (.iload_n 2, 1) := by decide +kernel
theorem dX1_firstLead_51 : decode cX1_firstLead 51 = .ok (.invokevirtual 122, 3) := by decide +kernel
theorem dX1_firstLead_54 : decode cX1_firstLead 54 = .ok (.if_icmp .ge 5, 3) := by decide +kernel
theorem dX1_firstLead_57 : decode cX1_firstLead 57 = .ok (.iload_n 3, 1) := by decide +kernel
theorem dX1_firstLead_58 : decode cX1_firstLead 58 = .ok (.istore_n 2, 1) := by decide +kernel
theorem dX1_firstLead_59 : decode cX1_firstLead 59 = .ok (.iinc 3 1, 3) := by decide +kernel
theorem dX1_firstLead_62 : decode cX1_firstLead 62 = .ok (.goto (-58), 3) := by decide +kernel
theorem dX1_firstLead_65 : decode cX1_firstLead 65 = .ok (.iload_n 2, 1) := by decide +kernel
theorem dX1_firstLead_66 : decode cX1_firstLead 66 = .ok (.ireturn, 1) := by decide +kernel
theorem dX1_findFirsts_0 : decode cX1_findFirsts 0 = .ok (.aload_n 0, 1) := by decide +kernel
theorem dX1_findFirsts_1 : decode cX1_findFirsts 1 = .ok (.aload_n 1, 1) := by decide +kernel
theorem dX1_findFirsts_2 : decode cX1_findFirsts 2 = .ok (.iload_n 2, 1) := by decide +kernel
theorem dX1_findFirsts_3 : decode cX1_findFirsts 3 = .ok (.invokevirtual 103, 3) := by decide +kernel
theorem dX1_findFirsts_6 : decode cX1_findFirsts 6 = .ok (.ifCond .ne 6, 3) := by decide +kernel
theorem dX1_findFirsts_9 : decode cX1_findFirsts 9 = .ok (.bipush (-10), 2) := by decide +kernel
theorem dX1_findFirsts_11 : decode cX1_findFirsts 11 = .ok (.ireturn, 1) := by decide +kernel
theorem dX1_findFirsts_12 : decode cX1_findFirsts 12 = .ok (.aload_n 0, 1) := by decide +kernel
theorem dX1_findFirsts_13 : decode cX1_findFirsts 13 = .ok (.getfield 45, 3) := by decide +kernel
theorem dX1_findFirsts_16 : decode cX1_findFirsts 16 = .ok (.aload_n 0, 1) := by decide +kernel
theorem dX1_findFirsts_17 : decode cX1_findFirsts 17 = .ok (.getfield 12, 3) := by decide +kernel
theorem dX1_findFirsts_20 : decode cX1_findFirsts 20 = .ok (.getfield 70, 3) := by decide +kernel
theorem dX1_findFirsts_23 : decode cX1_findFirsts 23 = .ok (.invokevirtual 73, 3) := by decide +kernel
theorem dX1_findFirsts_26 : decode cX1_findFirsts 26 = .ok (.pop2, 1) := by decide +kernel
theorem dX1_findFirsts_27 : decode cX1_findFirsts 27 = .ok (.iconst 0, 1) := by decide +kernel
theorem dX1_findFirsts_28 : decode cX1_findFirsts 28 = .ok (.istore_n 3, 1) := by decide +kernel
theorem dX1_findFirsts_29 : decode cX1_findFirsts 29 = .ok (.iconst 0, 1) := by decide +kernel
theorem dX1_findFirsts_30 : decode cX1_findFirsts 30 = .ok (.istore 4, 2) := by decide +kernel
theorem dX1_findFirsts_32 : decode cX1_findFirsts 32 = .ok (.iload 4, 2) := by decide +kernel
theorem dX1_findFirsts_34 : decode cX1_findFirsts 34 = .ok (.iconst 4, 1) := by decide +kernel
theorem dX1_findFirsts_35 : decode cX1_findFirsts 35 = .ok (.if_icmp .ge 44, 3) := by decide +kernel
theorem dX1_findFirsts_38 : decode cX1_findFirsts 38 = .ok (.aload_n 0, 1) := by decide +kernel
theorem dX1_findFirsts_39 : decode cX1_findFirsts 39 = .ok (.getfield 45, 3) := by decide +kernel
theorem dX1_findFirsts_42 : decode cX1_findFirsts 42 = .ok (.aload_n 0, 1) := by decide +kernel
theorem dX1_findFirsts_43 : decode cX1_findFirsts 43 = .ok (.getfield 45, 3) := by decide +kernel
theorem dX1_findFirsts_46 : decode cX1_findFirsts 46 = .ok (.iconst 0, 1) := by decide +kernel
theorem dX1_findFirsts_47 : decode cX1_findFirsts 47 = .ok (.iload 4, 2) := by decide +kernel
theorem dX1_findFirsts_49 : decode cX1_findFirsts 49 = .ok (.invokevirtual 125, 3) := by decide +kernel
theorem dX1_findFirsts_52 : decode cX1_findFirsts 52 = .ok (.invokevirtual 128, 3) := by decide +kernel
theorem dX1_findFirsts_55 : decode cX1_findFirsts 55 = .ok (.ifCond .eq 18, 3) := by decide +kernel
theorem dX1_findFirsts_58 : decode cX1_findFirsts 58 = .ok (.iload_n 3, 1) := by decide +kernel
theorem dX1_findFirsts_59 : decode cX1_findFirsts 59 = .ok (.iconst 1, 1) := by decide +kernel
theorem dX1_findFirsts_60 : decode cX1_findFirsts 60 = .ok (.aload_n 0, 1) := by decide +kernel
theorem dX1_findFirsts_61 : decode cX1_findFirsts 61 = .ok (.getfield 45, 3) := by decide +kernel
theorem dX1_findFirsts_64 : decode cX1_findFirsts 64 = .ok (.iconst 0, 1) := by decide +kernel
theorem dX1_findFirsts_65 : decode cX1_findFirsts 65 = .ok (.iload 4, 2) := by decide +kernel
theorem dX1_findFirsts_67 : decode cX1_findFirsts 67 = .ok (.invokevirtual 122, 3) := by decide +kernel
theorem dX1_findFirsts_70 : decode cX1_findFirsts 70 = .ok (.ishl, 1) := by decide +kernel
theorem dX1_findFirsts_71 : decode cX1_findFirsts 71 = .ok (.ior, 1) := by decide +kernel
theorem dX1_findFirsts_72 : decode cX1_findFirsts 72 = .ok (.istore_n 3, 1) := by decide +kernel
theorem dX1_findFirsts_73 : decode cX1_findFirsts 73 = .ok (.iinc 4 1, 3) := by decide +kernel
theorem dX1_findFirsts_76 : decode cX1_findFirsts 76 = .ok (.goto (-44), 3) := by decide +kernel
theorem dX1_findFirsts_79 : decode cX1_findFirsts 79 = .ok (.iload_n 3, 1) := by decide +kernel
theorem dX1_findFirsts_80 : decode cX1_findFirsts 80 = .ok (.ireturn, 1) := by decide +kernel
theorem dX1_comesAhead_0 : decode cX1_comesAhead 0 = .ok (.aload_n 0, 1) := by decide +kernel
theorem dX1_comesAhead_1 : decode cX1_comesAhead 1 = .ok (.aload_n 1, 1) := by decide +kernel
theorem dX1_comesAhead_2 : decode cX1_comesAhead 2 = .ok (.iload_n 2, 1) := by decide +kernel
theorem dX1_comesAhead_3 : decode cX1_comesAhead 3 = .ok (.invokevirtual 103, 3) := by decide +kernel
theorem dX1_comesAhead_6 : decode cX1_comesAhead 6 = .ok (.ifCond .ne 6, 3) := by decide +kernel
theorem dX1_comesAhead_9 : decode cX1_comesAhead 9 = .ok (.bipush (-10), 2) := by decide +kernel
theorem dX1_comesAhead_11 : decode cX1_comesAhead 11 = .ok (.ireturn, 1) := by decide +kernel
theorem dX1_comesAhead_12 : decode cX1_comesAhead 12 = .ok (.aload_n 0, 1) := by decide +kernel
theorem dX1_comesAhead_13 : decode cX1_comesAhead 13 = .ok (.getfield 45, 3) := by decide +kernel
theorem dX1_comesAhead_16 : decode cX1_comesAhead 16 = .ok (.aload_n 0, 1) := by decide +kernel
theorem dX1_comesAhead_17 : decode cX1_comesAhead 17 = .ok (.getfield 12, 3) := by decide +kernel
theorem dX1_comesAhead_20 : decode cX1_comesAhead 20 = .ok (.getfield 70, 3) := by decide +kernel
theorem dX1_comesAhead_23 : decode cX1_comesAhead 23 = .ok (.iconst 1, 1) := by decide +kernel
theorem dX1_comesAhead_24 : decode cX1_comesAhead 24 = .ok (.iload 4, 2) := by decide +kernel
theorem dX1_comesAhead_26 : decode cX1_comesAhead 26 = .ok (.ishl, 1) := by decide +kernel
theorem dX1_comesAhead_27 : decode cX1_comesAhead 27 = .ok (.ior, 1) := by decide +kernel
theorem dX1_comesAhead_28 : decode cX1_comesAhead 28 = .ok (.invokevirtual 73, 3) := by decide +kernel
theorem dX1_comesAhead_31 : decode cX1_comesAhead 31 = .ok (.pop2, 1) := by decide +kernel
theorem dX1_comesAhead_32 : decode cX1_comesAhead 32 = .ok (.iconst 0, 1) := by decide +kernel
theorem dX1_comesAhead_33 : decode cX1_comesAhead 33 = .ok (.istore 5, 2) := by decide +kernel
theorem dX1_comesAhead_35 : decode cX1_comesAhead 35 = .ok (.iload 5, 2) := by decide +kernel
theorem dX1_comesAhead_37 : decode cX1_comesAhead 37 = .ok (.aload_n 0, 1) := by decide +kernel
theorem dX1_comesAhead_38 : decode cX1_comesAhead 38 = .ok (.getfield 45, 3) := by decide +kernel
theorem dX1_comesAhead_41 : decode cX1_comesAhead 41 = .ok (.getfield 106, 3) := by decide +kernel
theorem dX1_comesAhead_44 : decode cX1_comesAhead 44 = .ok (.if_icmp .ge 54, 3) := by decide +kernel
theorem dX1_comesAhead_47 : decode cX1_comesAhead 47 = .ok (.aload_n 0, 1) := by decide +kernel
theorem dX1_comesAhead_48 : decode cX1_comesAhead 48 = .ok (.getfield 45, 3) := by decide +kernel
theorem dX1_comesAhead_51 : decode cX1_comesAhead 51 = .ok (.iload 5, 2) := by decide +kernel
theorem dX1_comesAhead_53 : decode cX1_comesAhead 53 = .ok (.invokevirtual 112, 3) := by decide +kernel
theorem dX1_comesAhead_56 : decode cX1_comesAhead 56 = .ok (.istore 6, 2) := by decide +kernel
theorem dX1_comesAhead_58 : decode cX1_comesAhead 58 = .ok (.iload 6, 2) := by decide +kernel
theorem dX1_comesAhead_60 : decode cX1_comesAhead 60 = .ok (.iload_n 3, 1) := by decide +kernel
theorem dX1_comesAhead_61 : decode cX1_comesAhead 61 = .ok (.ishr, 1) := by decide +kernel
theorem dX1_comesAhead_62 : decode cX1_comesAhead 62 = .ok (.iconst 1, 1) := by decide +kernel
theorem dX1_comesAhead_63 : decode cX1_comesAhead 63 = .ok (.iand, 1) := by decide +kernel
theorem dX1_comesAhead_64 : decode cX1_comesAhead 64 = .ok (.iconst 1, 1) := by decide +kernel
theorem dX1_comesAhead_65 : decode cX1_comesAhead 65 = .ok (.if_icmp .ne 27, 3) := by decide +kernel
theorem dX1_comesAhead_68 : decode cX1_comesAhead 68 = .ok (.iload 6, 2) := by decide +kernel
theorem dX1_comesAhead_70 : decode cX1_comesAhead 70 = .ok (.iload 4, 2) := by decide +kernel
theorem dX1_comesAhead_72 : decode cX1_comesAhead 72 = .ok (.ishr, 1) := by decide +kernel
theorem dX1_comesAhead_73 : decode cX1_comesAhead 73 = .ok (.iconst 1, 1) := by decide +kernel
theorem dX1_comesAhead_74 : decode cX1_comesAhead 74 = .ok (.iand, 1) := by decide +kernel
theorem dX1_comesAhead_75 : decode cX1_comesAhead 75 = .ok (.ifCond .ne 17, 3) := by decide +kernel
theorem dX1_comesAhead_78 : decode cX1_comesAhead 78 = .ok (.aload_n 0, 1) := by decide +kernel
theorem dX1_comesAhead_79 : decode cX1_comesAhead 79 = .ok (.getfield 45, 3) := by decide +kernel
theorem dX1_comesAhead_82 : decode cX1_comesAhead 82 = .ok (.iload 5, 2) := by decide +kernel
theorem dX1_comesAhead_84 : decode cX1_comesAhead 84 = .ok (.invokevirtual 128, 3) := by decide +kernel
theorem dX1_comesAhead_87 : decode cX1_comesAhead 87 = .ok (.ifCond .eq 5, 3) := by decide +kernel
theorem dX1_comesAhead_90 : decode cX1_comesAhead 90 = .ok (.iconst 1, 1) := by decide +kernel
theorem dX1_comesAhead_91 : decode cX1_comesAhead 91 = .ok (.ireturn, 1) := by decide +kernel
theorem dX1_comesAhead_92 : decode cX1_comesAhead 92 = .ok (.iinc 5 1, 3) := by decide +kernel
theorem dX1_comesAhead_95 : decode cX1_comesAhead 95 = .ok (.goto (-60), 3) := by decide +kernel
theorem dX1_comesAhead_98 : decode cX1_comesAhead 98 = .ok (.iconst 0, 1) := by decide +kernel
theorem dX1_comesAhead_99 : decode cX1_comesAhead 99 = .ok (.ireturn, 1) := by decide +kernel
theorem dX1_findBad_0 : decode cX1_findBad 0 = .ok (.iconst 0, 1) := by decide +kernel
theorem dX1_findBad_1 : decode cX1_findBad 1 = .ok (.istore_n 3, 1) := by decide +kernel
theorem dX1_findBad_2 : decode cX1_findBad 2 = .ok (.iconst 0, 1) := by decide +kernel
theorem dX1_findBad_3 : decode cX1_findBad 3 = .ok (.istore 4, 2) := by decide +kernel
theorem dX1_findBad_5 : decode cX1_findBad 5 = .ok (.iload 4, 2) := by decide +kernel
theorem dX1_findBad_7 : decode cX1_findBad 7 = .ok (.aload_n 1, 1) := by decide +kernel
theorem dX1_findBad_8 : decode cX1_findBad 8 = .ok (.getfield 131, 3) := by decide +kernel
theorem dX1_findBad_11 : decode cX1_findBad 11 = .ok (.if_icmp .ge 89, 3) := by decide +kernel
theorem dX1_findBad_14 : decode cX1_findBad 14 = .ok (.aload_n 1, 1) := by decide +kernel
theorem dX1_findBad_15 : decode cX1_findBad 15 = .ok (.iload_n 3, 1) := by decide +kernel
theorem dX1_findBad_16 : decode cX1_findBad 16 = .ok (.invokevirtual 134, 3) := by decide +kernel
theorem dX1_findBad_19 : decode cX1_findBad 19 = .ok (.istore 5, 2) := by decide +kernel
theorem dX1_findBad_21 : decode cX1_findBad 21 = .ok (.iload 5, 2) := by decide +kernel
theorem dX1_findBad_23 : decode cX1_findBad 23 = .ok (.ifCond .ge 6, 3) := by decide +kernel
theorem dX1_findBad_26 : decode cX1_findBad 26 = .ok (.bipush (-2), 2) := by decide +kernel
theorem dX1_findBad_28 : decode cX1_findBad 28 = .ok (.ireturn, 1) := by decide +kernel
theorem dX1_findBad_29 : decode cX1_findBad 29 = .ok (.iload_n 3, 1) := by decide +kernel
theorem dX1_findBad_30 : decode cX1_findBad 30 = .ok (.iconst 1, 1) := by decide +kernel
theorem dX1_findBad_31 : decode cX1_findBad 31 = .ok (.iload 5, 2) := by decide +kernel
theorem dX1_findBad_33 : decode cX1_findBad 33 = .ok (.ishl, 1) := by decide +kernel
theorem dX1_findBad_34 : decode cX1_findBad 34 = .ok (.ior, 1) := by decide +kernel
theorem dX1_findBad_35 : decode cX1_findBad 35 = .ok (.istore_n 3, 1) := by decide +kernel
theorem dX1_findBad_36 : decode cX1_findBad 36 = .ok (.aload_n 0, 1) := by decide +kernel
theorem dX1_findBad_37 : decode cX1_findBad 37 = .ok (.getfield 12, 3) := by decide +kernel
theorem dX1_findBad_40 : decode cX1_findBad 40 = .ok (.aload_n 1, 1) := by decide +kernel
theorem dX1_findBad_41 : decode cX1_findBad 41 = .ok (.aload_n 1, 1) := by decide +kernel
theorem dX1_findBad_42 : decode cX1_findBad 42 = .ok (.iload 5, 2) := by decide +kernel
theorem dX1_findBad_44 : decode cX1_findBad 44 = .ok (.invokevirtual 137, 3) := by decide +kernel
theorem dX1_findBad_47 : decode cX1_findBad 47 = .ok (.invokevirtual 140, 3) := by decide +kernel
theorem dX1_findBad_50 : decode cX1_findBad 50 = .ok (.iload_n 3, 1) := by decide +kernel
theorem dX1_findBad_51 : decode cX1_findBad 51 = .ok (.invokevirtual 95, 3) := by decide +kernel
theorem dX1_findBad_54 : decode cX1_findBad 54 = .ok (.aload_n 0, 1) := by decide +kernel
theorem dX1_findBad_55 : decode cX1_findBad 55 = .ok (.aload_n 1, 1) := by decide +kernel
theorem dX1_findBad_56 : decode cX1_findBad 56 = .ok (.iload_n 2, 1) := by decide +kernel
theorem dX1_findBad_57 : decode cX1_findBad 57 = .ok (.aload_n 0, 1) := by decide +kernel
theorem dX1_findBad_58 : decode cX1_findBad 58 = .ok (.getfield 36, 3) := by decide +kernel
theorem dX1_findBad_61 : decode cX1_findBad 61 = .ok (.getfield 53, 3) := by decide +kernel
theorem dX1_findBad_64 : decode cX1_findBad 64 = .ok (.invokestatic 58, 3) := by decide +kernel
theorem dX1_findBad_67 : decode cX1_findBad 67 = .ok (.invokevirtual 79, 3) := by decide +kernel
theorem dX1_findBad_70 : decode cX1_findBad 70 = .ok (.lstore 6, 2) := by decide +kernel
theorem dX1_findBad_72 : decode cX1_findBad 72 = .ok (.lload 6, 2) := by decide +kernel
theorem dX1_findBad_74 : decode cX1_findBad 74 = .ok (.lconst 0, 1) := by decide +kernel
theorem dX1_findBad_75 : decode cX1_findBad 75 = .ok (.lcmp, 1) := by decide +kernel
theorem dX1_findBad_76 : decode cX1_findBad 76 = .ok (.ifCond .gt 18, 3) := by decide +kernel
theorem dX1_findBad_79 : decode cX1_findBad 79 = .ok (.lload 6, 2) := by decide +kernel
theorem dX1_findBad_81 : decode cX1_findBad 81 = .ok (.lconst 0, 1) := by decide +kernel
theorem dX1_findBad_82 : decode cX1_findBad 82 = .ok (.lcmp, 1) := by decide +kernel
theorem dX1_findBad_83 : decode cX1_findBad 83 = .ok (.ifCond .ge 8, 3) := by decide +kernel
theorem dX1_findBad_86 : decode cX1_findBad 86 = .ok (.bipush (-10), 2) := by decide +kernel
theorem dX1_findBad_88 : decode cX1_findBad 88 = .ok (.goto 5, 3) := by decide +kernel
theorem dX1_findBad_91 : decode cX1_findBad 91 = .ok (.iload 5, 2) := by decide +kernel
theorem dX1_findBad_93 : decode cX1_findBad 93 = .ok (.ireturn, 1) := by decide +kernel
theorem dX1_findBad_94 : decode cX1_findBad 94 = .ok (.iinc 4 1, 3) := by decide +kernel
theorem dX1_findBad_97 : decode cX1_findBad 97 = .ok (.goto (-92), 3) := by decide +kernel
theorem dX1_findBad_100 : decode cX1_findBad 100 = .ok (.bipush (-2), 2) := by decide +kernel
theorem dX1_findBad_102 : decode cX1_findBad 102 = .ok (.ireturn, 1) := by decide +kernel
theorem dX1_findMends_0 : decode cX1_findMends 0 = .ok (.iconst 0, 1) := by decide +kernel
theorem dX1_findMends_1 : decode cX1_findMends 1 = .ok (.istore_n 2, 1) := by decide +kernel
theorem dX1_findMends_2 : decode cX1_findMends 2 = .ok (.iconst 0, 1) := by decide +kernel
theorem dX1_findMends_3 : decode cX1_findMends 3 = .ok (.istore_n 3, 1) := by decide +kernel
theorem dX1_findMends_4 : decode cX1_findMends 4 = .ok (.iload_n 3, 1) := by decide +kernel
theorem dX1_findMends_5 : decode cX1_findMends 5 = .ok (.aload_n 1, 1) := by decide +kernel
theorem dX1_findMends_6 : decode cX1_findMends 6 = .ok (.getfield 131, 3) := by decide +kernel
theorem dX1_findMends_9 : decode cX1_findMends 9 = .ok (.if_icmp .ge 87, 3) := by decide +kernel
theorem dX1_findMends_12 : decode cX1_findMends 12 = .ok (.aload_n 1, 1) := by decide +kernel
theorem dX1_findMends_13 : decode cX1_findMends 13 = .ok (.iload_n 3, 1) := by decide +kernel
theorem dX1_findMends_14 : decode cX1_findMends 14 = .ok (.invokevirtual 143, 3) := by decide +kernel
theorem dX1_findMends_17 : decode cX1_findMends 17 = .ok (.ifCond .ne 73, 3) := by decide +kernel
theorem dX1_findMends_20 : decode cX1_findMends 20 = .ok (.aload_n 0, 1) := by decide +kernel
theorem dX1_findMends_21 : decode cX1_findMends 21 = .ok (.getfield 12, 3) := by decide +kernel
theorem dX1_findMends_24 : decode cX1_findMends 24 = .ok (.aload_n 1, 1) := by decide +kernel
theorem dX1_findMends_25 : decode cX1_findMends 25 = .ok (.invokevirtual 49, 3) := by decide +kernel
theorem dX1_findMends_28 : decode cX1_findMends 28 = .ok (.aload_n 0, 1) := by decide +kernel
theorem dX1_findMends_29 : decode cX1_findMends 29 = .ok (.getfield 12, 3) := by decide +kernel
theorem dX1_findMends_32 : decode cX1_findMends 32 = .ok (.dup, 1) := by decide +kernel
theorem dX1_findMends_33 : decode cX1_findMends 33 = .ok (.getfield 146, 3) := by decide +kernel
theorem dX1_findMends_36 : decode cX1_findMends 36 = .ok (.iconst 1, 1) := by decide +kernel
theorem dX1_findMends_37 : decode cX1_findMends 37 = .ok (.iload_n 3, 1) := by decide +kernel
theorem dX1_findMends_38 : decode cX1_findMends 38 = .ok (.ishl, 1) := by decide +kernel
theorem dX1_findMends_39 : decode cX1_findMends 39 = .ok (.iconst (-1), 1) := by decide +kernel
theorem dX1_findMends_40 : decode cX1_findMends 40 = .ok (.ixor, 1) := by decide +kernel
theorem dX1_findMends_41 : decode cX1_findMends 41 = .ok (.iand, 1) := by decide +kernel
theorem dX1_findMends_42 : decode cX1_findMends 42 = .ok (.putfield 146, 3) := by decide +kernel
theorem dX1_findMends_45 : decode cX1_findMends 45 = .ok (.aload_n 0, 1) := by decide +kernel
theorem dX1_findMends_46 : decode cX1_findMends 46 = .ok (.aload_n 1, 1) := by decide +kernel
theorem dX1_findMends_47 : decode cX1_findMends 47 = .ok (.iconst 0, 1) := by decide +kernel
theorem dX1_findMends_48 : decode cX1_findMends 48 = .ok (.aload_n 0, 1) := by decide +kernel
theorem dX1_findMends_49 : decode cX1_findMends 49 = .ok (.getfield 36, 3) := by decide +kernel
theorem dX1_findMends_52 : decode cX1_findMends 52 = .ok (.getfield 53, 3) := by decide +kernel
theorem dX1_findMends_55 : decode cX1_findMends 55 = .ok (.invokestatic 58, 3) := by decide +kernel
theorem dX1_findMends_58 : decode cX1_findMends 58 = .ok (.invokevirtual 79, 3) := by decide +kernel
theorem dX1_findMends_61 : decode cX1_findMends 61 = .ok (.lstore 4, 2) := by decide +kernel
theorem dX1_findMends_63 : decode cX1_findMends 63 = .ok (.lload 4, 2) := by decide +kernel
theorem dX1_findMends_65 : decode cX1_findMends 65 = .ok (.lconst 0, 1) := by decide +kernel
theorem dX1_findMends_66 : decode cX1_findMends 66 = .ok (.lcmp, 1) := by decide +kernel
theorem dX1_findMends_67 : decode cX1_findMends 67 = .ok (.ifCond .ge 6, 3) := by decide +kernel
theorem dX1_findMends_70 : decode cX1_findMends 70 = .ok (.bipush (-10), 2) := by decide +kernel
theorem dX1_findMends_72 : decode cX1_findMends 72 = .ok (.ireturn, 1) := by decide +kernel
theorem dX1_findMends_73 : decode cX1_findMends 73 = .ok (.iload_n 2, 1) := by decide +kernel
theorem dX1_findMends_74 : decode cX1_findMends 74 = .ok (.lload 4, 2) := by decide +kernel
theorem dX1_findMends_76 : decode cX1_findMends 76 = .ok (.lconst 0, 1) := by decide +kernel
theorem dX1_findMends_77 : decode cX1_findMends 77 = .ok (.lcmp, 1) := by decide +kernel
theorem dX1_findMends_78 : decode cX1_findMends 78 = .ok (.ifCond .le 9, 3) := by decide +kernel
theorem dX1_findMends_81 : decode cX1_findMends 81 = .ok (.iconst 1, 1) := by decide +kernel
theorem dX1_findMends_82 : decode cX1_findMends 82 = .ok (.iload_n 3, 1) := by decide +kernel
theorem dX1_findMends_83 : decode cX1_findMends 83 = .ok (.ishl, 1) := by decide +kernel
theorem dX1_findMends_84 : decode cX1_findMends 84 = .ok (.goto 4, 3) := by decide +kernel
theorem dX1_findMends_87 : decode cX1_findMends 87 = .ok (.iconst 0, 1) := by decide +kernel
theorem dX1_findMends_88 : decode cX1_findMends 88 = .ok (.ior, 1) := by decide +kernel
theorem dX1_findMends_89 : decode cX1_findMends 89 = .ok (.istore_n 2, 1) := by decide +kernel
theorem dX1_findMends_90 : decode cX1_findMends 90 = .ok (.iinc 3 1, 3) := by decide +kernel
theorem dX1_findMends_93 : decode cX1_findMends 93 = .ok (.goto (-89), 3) := by decide +kernel
theorem dX1_findMends_96 : decode cX1_findMends 96 = .ok (.iload_n 2, 1) := by decide +kernel
theorem dX1_findMends_97 : decode cX1_findMends 97 = .ok (.ireturn, 1) := by decide +kernel
theorem dX1_findEnough_0 : decode cX1_findEnough 0 = .ok (.aload_n 0, 1) := by decide +kernel
theorem dX1_findEnough_1 : decode cX1_findEnough 1 = .ok (.getfield 12, 3) := by decide +kernel
theorem dX1_findEnough_4 : decode cX1_findEnough 4 = .ok (.aload_n 1, 1) := by decide +kernel
theorem dX1_findEnough_5 : decode cX1_findEnough 5 = .ok (.invokevirtual 49, 3) := by decide +kernel
theorem dX1_findEnough_8 : decode cX1_findEnough 8 = .ok (.iconst 0, 1) := by decide +kernel
theorem dX1_findEnough_9 : decode cX1_findEnough 9 = .ok (.istore_n 2, 1) := by decide +kernel
theorem dX1_findEnough_10 : decode cX1_findEnough 10 = .ok (.iload_n 2, 1) := by decide +kernel
theorem dX1_findEnough_11 : decode cX1_findEnough 11 = .ok (.bipush 99, 2) := by decide +kernel
theorem dX1_findEnough_13 : decode cX1_findEnough 13 = .ok (.if_icmp .gt 47, 3) := by decide +kernel
theorem dX1_findEnough_16 : decode cX1_findEnough 16 = .ok (.iload_n 2, 1) := by decide +kernel
theorem dX1_findEnough_17 : decode cX1_findEnough 17 = .ok (.ifCond .eq 11, 3) := by decide +kernel
theorem dX1_findEnough_20 : decode cX1_findEnough 20 = .ok (.aload_n 1, 1) := by decide +kernel
theorem dX1_findEnough_21 : decode cX1_findEnough 21 = .ok (.iload_n 2, 1) := by decide +kernel
theorem dX1_findEnough_22 : decode cX1_findEnough 22 = .ok (.invokestatic 149, 3) := by decide +kernel
theorem dX1_findEnough_25 : decode cX1_findEnough 25 = .ok (.ifCond .eq 29, 3) := by decide +kernel
theorem dX1_findEnough_28 : decode cX1_findEnough 28 = .ok (.aload_n 0, 1) := by decide +kernel
theorem dX1_findEnough_29 : decode cX1_findEnough 29 = .ok (.aload_n 1, 1) := by decide +kernel
theorem dX1_findEnough_30 : decode cX1_findEnough 30 = .ok (.iload_n 2, 1) := by decide +kernel
theorem dX1_findEnough_31 : decode cX1_findEnough 31 = .ok (.invokevirtual 79, 3) := by decide +kernel
theorem dX1_findEnough_34 : decode cX1_findEnough 34 = .ok (.lstore_n 3, 1) := by decide +kernel
theorem dX1_findEnough_35 : decode cX1_findEnough 35 = .ok (.lload_n 3, 1) := by decide +kernel
theorem dX1_findEnough_36 : decode cX1_findEnough 36 = .ok (.lconst 0, 1) := by decide +kernel
theorem dX1_findEnough_37 : decode cX1_findEnough 37 = .ok (.lcmp, 1) := by decide +kernel
theorem dX1_findEnough_38 : decode cX1_findEnough 38 = .ok (.ifCond .eq 16, 3) := by decide +kernel
theorem dX1_findEnough_41 : decode cX1_findEnough 41 = .ok (.lload_n 3, 1) := by decide +kernel
theorem dX1_findEnough_42 : decode cX1_findEnough 42 = .ok (.lconst 0, 1) := by decide +kernel
theorem dX1_findEnough_43 : decode cX1_findEnough 43 = .ok (.lcmp, 1) := by decide +kernel
theorem dX1_findEnough_44 : decode cX1_findEnough 44 = .ok (.ifCond .ge 8, 3) := by decide +kernel
theorem dX1_findEnough_47 : decode cX1_findEnough 47 = .ok (.bipush (-10), 2) := by decide +kernel
theorem dX1_findEnough_49 : decode cX1_findEnough 49 = .ok (.goto 4, 3) := by decide +kernel
theorem dX1_findEnough_52 : decode cX1_findEnough 52 = .ok (.iload_n 2, 1) := by decide +kernel
theorem dX1_findEnough_53 : decode cX1_findEnough 53 = .ok (.ireturn, 1) := by decide +kernel
theorem dX1_findEnough_54 : decode cX1_findEnough 54 = .ok (.iinc 2 1, 3) := by decide +kernel
theorem dX1_findEnough_57 : decode cX1_findEnough 57 = .ok (.goto (-47), 3) := by decide +kernel
theorem dX1_findEnough_60 : decode cX1_findEnough 60 = .ok (.bipush (-2), 2) := by decide +kernel
theorem dX1_findEnough_62 : decode cX1_findEnough 62 = .ok (.ireturn, 1) := by decide +kernel
theorem dX1_frees_0 : decode cX1_frees 0 = .ok (.iconst 0, 1) := by decide +kernel
theorem dX1_frees_1 : decode cX1_frees 1 = .ok (.istore_n 2, 1) := by decide +kernel
theorem dX1_frees_2 : decode cX1_frees 2 = .ok (.iload_n 2, 1) := by decide +kernel
theorem dX1_frees_3 : decode cX1_frees 3 = .ok (.aload_n 0, 1) := by decide +kernel
theorem dX1_frees_4 : decode cX1_frees 4 = .ok (.getfield 131, 3) := by decide +kernel
theorem dX1_frees_7 : decode cX1_frees 7 = .ok (.if_icmp .ge 50, 3) := by decide +kernel
theorem dX1_frees_10 : decode cX1_frees 10 = .ok (.iconst 0, 1) := by decide +kernel
theorem dX1_frees_11 : decode cX1_frees 11 = .ok (.istore_n 3, 1) := by decide +kernel
theorem dX1_frees_12 : decode cX1_frees 12 = .ok (.iload_n 3, 1) := by decide +kernel
theorem dX1_frees_13 : decode cX1_frees 13 = .ok (.aload_n 0, 1) := by decide +kernel
theorem dX1_frees_14 : decode cX1_frees 14 = .ok (.getfield 131, 3) := by decide +kernel
theorem dX1_frees_17 : decode cX1_frees 17 = .ok (.if_icmp .ge 34, 3) := by decide +kernel
theorem dX1_frees_20 : decode cX1_frees 20 = .ok (.aload_n 0, 1) := by decide +kernel
theorem dX1_frees_21 : decode cX1_frees 21 = .ok (.iload_n 2, 1) := by decide +kernel
theorem dX1_frees_22 : decode cX1_frees 22 = .ok (.invokevirtual 143, 3) := by decide +kernel
theorem dX1_frees_25 : decode cX1_frees 25 = .ok (.ifCond .ne 20, 3) := by decide +kernel
theorem dX1_frees_28 : decode cX1_frees 28 = .ok (.aload_n 0, 1) := by decide +kernel
theorem dX1_frees_29 : decode cX1_frees 29 = .ok (.iload_n 3, 1) := by decide +kernel
theorem dX1_frees_30 : decode cX1_frees 30 = .ok (.invokevirtual 152, 3) := by decide +kernel
theorem dX1_frees_33 : decode cX1_frees 33 = .ok (.aload_n 0, 1) := by decide +kernel
theorem dX1_frees_34 : decode cX1_frees 34 = .ok (.iload_n 2, 1) := by decide +kernel
theorem dX1_frees_35 : decode cX1_frees 35 = .ok (.invokevirtual 137, 3) := by decide +kernel
theorem dX1_frees_38 : decode cX1_frees 38 = .ok (.isub, 1) := by decide +kernel
theorem dX1_frees_39 : decode cX1_frees 39 = .ok (.iload_n 1, 1) := by decide +kernel
theorem dX1_frees_40 : decode cX1_frees 40 = .ok (.if_icmp .ne 5, 3) := by decide +kernel
theorem dX1_frees_43 : decode cX1_frees 43 = .ok (.iconst 1, 1) := by decide +kernel
theorem dX1_frees_44 : decode cX1_frees 44 = .ok (.ireturn, 1) := by decide +kernel
theorem dX1_frees_45 : decode cX1_frees 45 = .ok (.iinc 3 1, 3) := by decide +kernel
theorem dX1_frees_48 : decode cX1_frees 48 = .ok (.goto (-36), 3) := by decide +kernel
theorem dX1_frees_51 : decode cX1_frees 51 = .ok (.iinc 2 1, 3) := by decide +kernel
theorem dX1_frees_54 : decode cX1_frees 54 = .ok (.goto (-52), 3) := by decide +kernel
theorem dX1_frees_57 : decode cX1_frees 57 = .ok (.iconst 0, 1) := by decide +kernel
theorem dX1_frees_58 : decode cX1_frees 58 = .ok (.ireturn, 1) := by decide +kernel
theorem dX1_findCould_0 : decode cX1_findCould 0 = .ok (.aload_n 0, 1) := by decide +kernel
theorem dX1_findCould_1 : decode cX1_findCould 1 = .ok (.getfield 12, 3) := by decide +kernel
theorem dX1_findCould_4 : decode cX1_findCould 4 = .ok (.aload_n 1, 1) := by decide +kernel
theorem dX1_findCould_5 : decode cX1_findCould 5 = .ok (.invokevirtual 49, 3) := by decide +kernel
theorem dX1_findCould_8 : decode cX1_findCould 8 = .ok (.aload_n 0, 1) := by decide +kernel
theorem dX1_findCould_9 : decode cX1_findCould 9 = .ok (.getfield 12, 3) := by decide +kernel
theorem dX1_findCould_12 : decode cX1_findCould 12 = .ok (.dup, 1) := by decide +kernel
theorem dX1_findCould_13 : decode cX1_findCould 13 = .ok (.getfield 155, 3) := by decide +kernel
theorem dX1_findCould_16 : decode cX1_findCould 16 = .ok (.iconst 1, 1) := by decide +kernel
theorem dX1_findCould_17 : decode cX1_findCould 17 = .ok (.iload_n 3, 1) := by decide +kernel
theorem dX1_findCould_18 : decode cX1_findCould 18 = .ok (.ishl, 1) := by decide +kernel
theorem dX1_findCould_19 : decode cX1_findCould 19 = .ok (.iconst (-1), 1) := by decide +kernel
theorem dX1_findCould_20 : decode cX1_findCould 20 = .ok (.ixor, 1) := by decide +kernel
theorem dX1_findCould_21 : decode cX1_findCould 21 = .ok (.iand, 1) := by decide +kernel
theorem dX1_findCould_22 : decode cX1_findCould 22 = .ok (.putfield 155, 3) := by decide +kernel
theorem dX1_findCould_25 : decode cX1_findCould 25 = .ok (.aload_n 0, 1) := by decide +kernel
theorem dX1_findCould_26 : decode cX1_findCould 26 = .ok (.getfield 12, 3) := by decide +kernel
theorem dX1_findCould_29 : decode cX1_findCould 29 = .ok (.aload_n 1, 1) := by decide +kernel
theorem dX1_findCould_30 : decode cX1_findCould 30 = .ok (.iload_n 2, 1) := by decide +kernel
theorem dX1_findCould_31 : decode cX1_findCould 31 = .ok (.aload_n 0, 1) := by decide +kernel
theorem dX1_findCould_32 : decode cX1_findCould 32 = .ok (.getfield 36, 3) := by decide +kernel
theorem dX1_findCould_35 : decode cX1_findCould 35 = .ok (.getfield 53, 3) := by decide +kernel
theorem dX1_findCould_38 : decode cX1_findCould 38 = .ok (.invokestatic 58, 3) := by decide +kernel
theorem dX1_findCould_41 : decode cX1_findCould 41 = .ok (.invokevirtual 62, 3) := by decide +kernel
theorem dX1_findCould_44 : decode cX1_findCould 44 = .ok (.aload_n 0, 1) := by decide +kernel
theorem dX1_findCould_45 : decode cX1_findCould 45 = .ok (.getfield 45, 3) := by decide +kernel
theorem dX1_findCould_48 : decode cX1_findCould 48 = .ok (.aload_n 1, 1) := by decide +kernel
theorem dX1_findCould_49 : decode cX1_findCould 49 = .ok (.invokevirtual 66, 3) := by decide +kernel
theorem dX1_findCould_52 : decode cX1_findCould 52 = .ok (.ifCond .ne 6, 3) := by decide +kernel
theorem dX1_findCould_55 : decode cX1_findCould 55 = .ok (.bipush (-10), 2) := by decide +kernel
theorem dX1_findCould_57 : decode cX1_findCould 57 = .ok (.ireturn, 1) := by decide +kernel
theorem dX1_findCould_58 : decode cX1_findCould 58 = .ok (.aload_n 0, 1) := by decide +kernel
theorem dX1_findCould_59 : decode cX1_findCould 59 = .ok (.getfield 45, 3) := by decide +kernel
theorem dX1_findCould_62 : decode cX1_findCould 62 = .ok (.aload_n 0, 1) := by decide +kernel
theorem dX1_findCould_63 : decode cX1_findCould 63 = .ok (.getfield 12, 3) := by decide +kernel
theorem dX1_findCould_66 : decode cX1_findCould 66 = .ok (.getfield 70, 3) := by decide +kernel
theorem dX1_findCould_69 : decode cX1_findCould 69 = .ok (.invokevirtual 73, 3) := by decide +kernel
theorem dX1_findCould_72 : decode cX1_findCould 72 = .ok (.pop2, 1) := by decide +kernel
theorem dX1_findCould_73 : decode cX1_findCould 73 = .ok (.aload_n 0, 1) := by decide +kernel
theorem dX1_findCould_74 : decode cX1_findCould 74 = .ok (.getfield 22, 3) := by decide +kernel
theorem dX1_findCould_77 : decode cX1_findCould 77 = .ok (.iconst 0, 1) := by decide +kernel
theorem dX1_findCould_78 : decode cX1_findCould 78 = .ok (.invokestatic 158, 3) := by decide +kernel
theorem dX1_findCould_81 : decode cX1_findCould 81 = .ok (.iconst 0, 1) := by decide +kernel
theorem dX1_findCould_82 : decode cX1_findCould 82 = .ok (.istore 4, 2) := by decide +kernel
theorem dX1_findCould_84 : decode cX1_findCould 84 = .ok (.iconst 0, 1) := by decide +kernel
theorem dX1_findCould_85 : decode cX1_findCould 85 = .ok (.istore 5, 2) := by decide +kernel
theorem dX1_findCould_87 : decode cX1_findCould 87 = .ok (.iload 5, 2) := by decide +kernel
theorem dX1_findCould_89 : decode cX1_findCould 89 = .ok (.aload_n 0, 1) := by decide +kernel
theorem dX1_findCould_90 : decode cX1_findCould 90 = .ok (.getfield 45, 3) := by decide +kernel
theorem dX1_findCould_93 : decode cX1_findCould 93 = .ok (.getfield 106, 3) := by decide +kernel
theorem dX1_findCould_96 : decode cX1_findCould 96 = .ok (.if_icmp .ge 54, 3) := by decide +kernel
theorem dX1_findCould_99 : decode cX1_findCould 99 = .ok (.aload_n 0, 1) := by decide +kernel
theorem dX1_findCould_100 : decode cX1_findCould 100 = .ok (.iload 5, 2) := by decide +kernel
theorem dX1_findCould_102 : decode cX1_findCould 102 = .ok (.iload_n 3, 1) := by decide +kernel
theorem dX1_findCould_103 : decode cX1_findCould 103 = .ok (.invokevirtual 164, 3) := by decide +kernel
theorem dX1_findCould_106 : decode cX1_findCould 106 = .ok (.istore 6, 2) := by decide +kernel
theorem dX1_findCould_108 : decode cX1_findCould 108 = .ok (.iload 6, 2) := by decide +kernel
theorem dX1_findCould_110 : decode cX1_findCould 110 = .ok (.ifCond .lt 34, 3) := by decide +kernel
theorem dX1_findCould_113 : decode cX1_findCould 113 = .ok (.iload 6, 2) := by decide +kernel
theorem dX1_findCould_115 : decode cX1_findCould 115 = .ok (.aload_n 0, 1) := by decide +kernel
theorem dX1_findCould_116 : decode cX1_findCould 116 = .ok (.getfield 22, 3) := by decide +kernel
theorem dX1_findCould_119 : decode cX1_findCould 119 = .ok (.arraylength, 1) := by decide +kernel
theorem dX1_findCould_120 : decode cX1_findCould 120 = .ok (.if_icmp .ge 24, 3) := by decide +kernel
theorem dX1_findCould_123 : decode cX1_findCould 123 = .ok (.aload_n 0, 1) := by decide +kernel
theorem dX1_findCould_124 : decode cX1_findCould 124 = .ok (.getfield 22, 3) := by decide +kernel
theorem dX1_findCould_127 : decode cX1_findCould 127 = .ok (.iload 6, 2) := by decide +kernel
theorem dX1_findCould_129 : decode cX1_findCould 129 = .ok (.iaload, 1) := by decide +kernel
theorem dX1_findCould_130 : decode cX1_findCould 130 = .ok (.ifCond .ne 14, 3) := by decide +kernel
theorem dX1_findCould_133 : decode cX1_findCould 133 = .ok (.aload_n 0, 1) := by decide +kernel
theorem dX1_findCould_134 : decode cX1_findCould 134 = .ok (.getfield 22, 3) := by decide +kernel
theorem dX1_findCould_137 : decode cX1_findCould 137 = .ok (.iload 6, 2) := by decide +kernel
theorem dX1_findCould_139 : decode cX1_findCould 139 = .ok (.iconst 1, 1) := by decide +kernel
theorem dX1_findCould_140 : decode cX1_findCould 140 = .ok (.iastore, 1) := by decide +kernel
theorem dX1_findCould_141 : decode cX1_findCould 141 = .ok (.iinc 4 1, 3) := by decide +kernel
theorem dX1_findCould_144 : decode cX1_findCould 144 = .ok (.iinc 5 1, 3) := by decide +kernel
theorem dX1_findCould_147 : decode cX1_findCould 147 = .ok (.goto (-60), 3) := by decide +kernel
theorem dX1_findCould_150 : decode cX1_findCould 150 = .ok (.iload 4, 2) := by decide +kernel
theorem dX1_findCould_152 : decode cX1_findCould 152 = .ok (.ireturn, 1) := by decide +kernel
theorem dX1_answerOnTheWay_0 : decode cX1_answerOnTheWay 0 = .ok (.iconst 0, 1) := by decide +kernel
theorem dX1_answerOnTheWay_1 : decode cX1_answerOnTheWay 1 = .ok (.istore_n 3, 1) := by decide +kernel
theorem dX1_answerOnTheWay_2 : decode cX1_answerOnTheWay 2 = .ok (.iload_n 3, 1) := by decide +kernel
theorem dX1_answerOnTheWay_3 : decode cX1_answerOnTheWay 3 = .ok (.iconst 4, 1) := by decide +kernel
theorem dX1_answerOnTheWay_4 : decode cX1_answerOnTheWay 4 = .ok (.if_icmp .ge 51, 3) := by decide +kernel
theorem dX1_answerOnTheWay_7 : decode cX1_answerOnTheWay 7 = .ok (.aload_n 0, 1) := by decide +kernel
theorem dX1_answerOnTheWay_8 : decode cX1_answerOnTheWay 8 = .ok (.getfield 45, 3) := by decide +kernel
theorem dX1_answerOnTheWay_11 : decode cX1_answerOnTheWay 11 = .ok (.iload_n 1, 1) := by decide +kernel
theorem dX1_answerOnTheWay_12 : decode cX1_answerOnTheWay 12 = .ok (.iload_n 3, 1) := by decide +kernel
theorem dX1_answerOnTheWay_13 : decode cX1_answerOnTheWay 13 = .ok (.invokevirtual 122, 3) := by decide +kernel
theorem dX1_answerOnTheWay_16 : decode cX1_answerOnTheWay 16 = .ok (.iload_n 2, 1) := by decide +kernel
theorem dX1_answerOnTheWay_17 : decode cX1_answerOnTheWay 17 = .ok (.if_icmp .ne 32, 3) := by decide +kernel
theorem dX1_answerOnTheWay_20 : decode cX1_answerOnTheWay 20 = .ok (.aload_n 0, 1) := by decide +kernel
theorem dX1_answerOnTheWay_21 : decode cX1_answerOnTheWay 21 = .ok (.getfield 45, 3) := by decide +kernel
theorem dX1_answerOnTheWay_24 : decode cX1_answerOnTheWay 24 = .ok (.aload_n 0, 1) := by decide +kernel
theorem dX1_answerOnTheWay_25 : decode cX1_answerOnTheWay 25 = .ok (.getfield 45, 3) := by decide +kernel
theorem dX1_answerOnTheWay_28 : decode cX1_answerOnTheWay 28 = .ok (.iload_n 1, 1) := by decide +kernel
theorem dX1_answerOnTheWay_29 : decode cX1_answerOnTheWay 29 = .ok (.iload_n 3, 1) := by decide +kernel
theorem dX1_answerOnTheWay_30 : decode cX1_answerOnTheWay 30 = .ok (.invokevirtual 125, 3) := by decide +kernel
theorem dX1_answerOnTheWay_33 : decode cX1_answerOnTheWay 33 = .ok (.invokevirtual 128, 3) := by decide +kernel
theorem dX1_answerOnTheWay_36 : decode cX1_answerOnTheWay 36 = .ok (.ifCond .eq 13, 3) := by decide +kernel
theorem dX1_answerOnTheWay_39 : decode cX1_answerOnTheWay 39 = .ok (.aload_n 0, 1) := by decide +kernel
theorem dX1_answerOnTheWay_40 : decode cX1_answerOnTheWay 40 = .ok (.getfield 45, 3) := by decide +kernel
theorem dX1_answerOnTheWay_43 : decode cX1_answerOnTheWay 43 = .ok (.iload_n 1, 1) := by decide +kernel
theorem dX1_answerOnTheWay_44 : decode cX1_answerOnTheWay 44 = .ok (.iload_n 2, 1) := by decide +kernel
theorem dX1_answerOnTheWay_45 : decode cX1_answerOnTheWay 45 = .ok (.invokevirtual 167, 3) := by decide +kernel
theorem dX1_answerOnTheWay_48 : decode cX1_answerOnTheWay 48 = .ok (.ireturn, 1) := by decide +kernel
theorem dX1_answerOnTheWay_49 : decode cX1_answerOnTheWay 49 = .ok (.iinc 3 1, 3) := by decide +kernel
theorem dX1_answerOnTheWay_52 : decode cX1_answerOnTheWay 52 = .ok (.goto (-50), 3) := by decide +kernel
theorem dX1_answerOnTheWay_55 : decode cX1_answerOnTheWay 55 = .ok (.iconst (-1), 1) := by decide +kernel
theorem dX1_answerOnTheWay_56 : decode cX1_answerOnTheWay 56 = .ok (.ireturn, 1) := by decide +kernel
theorem dX1_leastCould_0 : decode cX1_leastCould 0 = .ok (.iconst 0, 1) := by decide +kernel
theorem dX1_leastCould_1 : decode cX1_leastCould 1 = .ok (.istore_n 1, 1) := by decide +kernel
theorem dX1_leastCould_2 : decode cX1_leastCould 2 = .ok (.iload_n 1, 1) := by decide +kernel
theorem dX1_leastCould_3 : decode cX1_leastCould 3 = .ok (.aload_n 0, 1) := by decide +kernel
theorem dX1_leastCould_4 : decode cX1_leastCould 4 = .ok (.getfield 22, 3) := by decide +kernel
theorem dX1_leastCould_7 : decode cX1_leastCould 7 = .ok (.arraylength, 1) := by decide +kernel
theorem dX1_leastCould_8 : decode cX1_leastCould 8 = .ok (.if_icmp .ge 21, 3) := by decide +kernel
theorem dX1_leastCould_11 : decode cX1_leastCould 11 = .ok (.aload_n 0, 1) := by decide +kernel
theorem dX1_leastCould_12 : decode cX1_leastCould 12 = .ok (.getfield 22, 3) := by decide +kernel
theorem dX1_leastCould_15 : decode cX1_leastCould 15 = .ok (.iload_n 1, 1) := by decide +kernel
theorem dX1_leastCould_16 : decode cX1_leastCould 16 = .ok (.iaload, 1) := by decide +kernel
theorem dX1_leastCould_17 : decode cX1_leastCould 17 = .ok (.iconst 1, 1) := by decide +kernel
theorem dX1_leastCould_18 : decode cX1_leastCould 18 = .ok (.if_icmp .ne 5, 3) := by decide +kernel
theorem dX1_leastCould_21 : decode cX1_leastCould 21 = .ok (.iload_n 1, 1) := by decide +kernel
theorem dX1_leastCould_22 : decode cX1_leastCould 22 = .ok (.ireturn, 1) := by decide +kernel
theorem dX1_leastCould_23 : decode cX1_leastCould 23 = .ok (.iinc 1 1, 3) := by decide +kernel
theorem dX1_leastCould_26 : decode cX1_leastCould 26 = .ok (.goto (-24), 3) := by decide +kernel
theorem dX1_leastCould_29 : decode cX1_leastCould 29 = .ok (.bipush (-11), 2) := by decide +kernel
theorem dX1_leastCould_31 : decode cX1_leastCould 31 = .ok (.ireturn, 1) := by decide +kernel
theorem dX1_greatestCould_0 : decode cX1_greatestCould 0 = .ok (.aload_n 0, 1) := by decide +kernel
theorem dX1_greatestCould_1 : decode cX1_greatestCould 1 = .ok (.getfield 22, 3) := by decide +kernel
theorem dX1_greatestCould_4 : decode cX1_greatestCould 4 = .ok (.arraylength, 1) := by decide +kernel
theorem dX1_greatestCould_5 : decode cX1_greatestCould 5 = .ok (.iconst 1, 1) := by decide +kernel
theorem dX1_greatestCould_6 : decode cX1_greatestCould 6 = .ok (.isub, 1) := by decide +kernel
theorem dX1_greatestCould_7 : decode cX1_greatestCould 7 = .ok (.istore_n 1, 1) := by decide +kernel
theorem dX1_greatestCould_8 : decode cX1_greatestCould 8 = .ok (.iload_n 1, 1) := by decide +kernel
theorem dX1_greatestCould_9 : decode cX1_greatestCould 9 = .ok (.ifCond .lt 21, 3) := by decide +kernel
theorem dX1_greatestCould_12 : decode cX1_greatestCould 12 = .ok (.aload_n 0, 1) := by decide +kernel
theorem dX1_greatestCould_13 : decode cX1_greatestCould 13 = .ok (.getfield 22, 3) := by decide +kernel
theorem dX1_greatestCould_16 : decode cX1_greatestCould 16 = .ok (.iload_n 1, 1) := by decide +kernel
theorem dX1_greatestCould_17 : decode cX1_greatestCould 17 = .ok (.iaload, 1) := by decide +kernel
theorem dX1_greatestCould_18 : decode cX1_greatestCould 18 = .ok (.iconst 1, 1) := by decide +kernel
theorem dX1_greatestCould_19 : decode cX1_greatestCould 19 = .ok (.if_icmp .ne 5, 3) := by decide +kernel
theorem dX1_greatestCould_22 : decode cX1_greatestCould 22 = .ok (.iload_n 1, 1) := by decide +kernel
theorem dX1_greatestCould_23 : decode cX1_greatestCould 23 = .ok (.ireturn, 1) := by decide +kernel
theorem dX1_greatestCould_24 : decode cX1_greatestCould 24 = .ok (.iinc 1 (-1), 3) := by decide +kernel
theorem dX1_greatestCould_27 : decode cX1_greatestCould 27 = .ok (.goto (-19), 3) := by decide +kernel
theorem dX1_greatestCould_30 : decode cX1_greatestCould 30 = .ok (.bipush (-11), 2) := by decide +kernel
theorem dX1_greatestCould_32 : decode cX1_greatestCould 32 = .ok (.ireturn, 1) := by decide +kernel
theorem dX1_findCore_0 : decode cX1_findCore 0 = .ok (.aload_n 1, 1) := by decide +kernel
theorem dX1_findCore_1 : decode cX1_findCore 1 = .ok (.getfield 131, 3) := by decide +kernel
theorem dX1_findCore_4 : decode cX1_findCore 4 = .ok (.bipush 12, 2) := by decide +kernel
theorem dX1_findCore_6 : decode cX1_findCore 6 = .ok (.if_icmp .le 6, 3) := by decide +kernel
theorem dX1_findCore_9 : decode cX1_findCore 9 = .ok (.bipush (-10), 2) := by decide +kernel
theorem dX1_findCore_11 : decode cX1_findCore 11 = .ok (.ireturn, 1) := by decide +kernel
theorem dX1_findCore_12 : decode cX1_findCore 12 = .ok (.aload_n 0, 1) := by decide +kernel
theorem dX1_findCore_13 : decode cX1_findCore 13 = .ok (.getfield 12, 3) := by decide +kernel
theorem dX1_findCore_16 : decode cX1_findCore 16 = .ok (.aload_n 1, 1) := by decide +kernel
theorem dX1_findCore_17 : decode cX1_findCore 17 = .ok (.invokevirtual 49, 3) := by decide +kernel
theorem dX1_findCore_20 : decode cX1_findCore 20 = .ok (.aload_n 0, 1) := by decide +kernel
theorem dX1_findCore_21 : decode cX1_findCore 21 = .ok (.getfield 12, 3) := by decide +kernel
theorem dX1_findCore_24 : decode cX1_findCore 24 = .ok (.iconst 0, 1) := by decide +kernel
theorem dX1_findCore_25 : decode cX1_findCore 25 = .ok (.putfield 155, 3) := by decide +kernel
theorem dX1_findCore_28 : decode cX1_findCore 28 = .ok (.aload_n 0, 1) := by decide +kernel
theorem dX1_findCore_29 : decode cX1_findCore 29 = .ok (.getfield 12, 3) := by decide +kernel
theorem dX1_findCore_32 : decode cX1_findCore 32 = .ok (.aload_n 1, 1) := by decide +kernel
theorem dX1_findCore_33 : decode cX1_findCore 33 = .ok (.iload_n 2, 1) := by decide +kernel
theorem dX1_findCore_34 : decode cX1_findCore 34 = .ok (.aload_n 0, 1) := by decide +kernel
theorem dX1_findCore_35 : decode cX1_findCore 35 = .ok (.getfield 36, 3) := by decide +kernel
theorem dX1_findCore_38 : decode cX1_findCore 38 = .ok (.getfield 53, 3) := by decide +kernel
theorem dX1_findCore_41 : decode cX1_findCore 41 = .ok (.invokestatic 58, 3) := by decide +kernel
theorem dX1_findCore_44 : decode cX1_findCore 44 = .ok (.invokevirtual 62, 3) := by decide +kernel
theorem dX1_findCore_47 : decode cX1_findCore 47 = .ok (.aload_n 0, 1) := by decide +kernel
theorem dX1_findCore_48 : decode cX1_findCore 48 = .ok (.getfield 45, 3) := by decide +kernel
theorem dX1_findCore_51 : decode cX1_findCore 51 = .ok (.aload_n 1, 1) := by decide +kernel
theorem dX1_findCore_52 : decode cX1_findCore 52 = .ok (.invokevirtual 66, 3) := by decide +kernel
theorem dX1_findCore_55 : decode cX1_findCore 55 = .ok (.ifCond .ne 6, 3) := by decide +kernel
theorem dX1_findCore_58 : decode cX1_findCore 58 = .ok (.bipush (-10), 2) := by decide +kernel
theorem dX1_findCore_60 : decode cX1_findCore 60 = .ok (.ireturn, 1) := by decide +kernel
theorem dX1_findCore_61 : decode cX1_findCore 61 = .ok (.aload_n 0, 1) := by decide +kernel
theorem dX1_findCore_62 : decode cX1_findCore 62 = .ok (.invokevirtual 170, 3) := by decide +kernel
theorem dX1_findCore_65 : decode cX1_findCore 65 = .ok (.aload_n 0, 1) := by decide +kernel
theorem dX1_findCore_66 : decode cX1_findCore 66 = .ok (.aload_n 0, 1) := by decide +kernel
theorem dX1_findCore_67 : decode cX1_findCore 67 = .ok (.getfield 12, 3) := by decide +kernel
theorem dX1_findCore_70 : decode cX1_findCore 70 = .ok (.getfield 70, 3) := by decide +kernel
theorem dX1_findCore_73 : decode cX1_findCore 73 = .ok (.invokevirtual 173, 3) := by decide +kernel
theorem dX1_findCore_76 : decode cX1_findCore 76 = .ok (.aload_n 0, 1) := by decide +kernel
theorem dX1_findCore_77 : decode cX1_findCore 77 = .ok (.invokevirtual 177, 3) := by decide +kernel
theorem dX1_findCore_80 : decode cX1_findCore 80 = .ok (.ifCond .ne 6, 3) := by decide +kernel
theorem dX1_findCore_83 : decode cX1_findCore 83 = .ok (.bipush (-2), 2) := by decide +kernel
theorem dX1_findCore_85 : decode cX1_findCore 85 = .ok (.ireturn, 1) := by decide +kernel
theorem dX1_findCore_86 : decode cX1_findCore 86 = .ok (.aload_n 0, 1) := by decide +kernel
theorem dX1_findCore_87 : decode cX1_findCore 87 = .ok (.invokevirtual 170, 3) := by decide +kernel
theorem dX1_findCore_90 : decode cX1_findCore 90 = .ok (.iconst 1, 1) := by decide +kernel
theorem dX1_findCore_91 : decode cX1_findCore 91 = .ok (.istore_n 3, 1) := by decide +kernel
theorem dX1_findCore_92 : decode cX1_findCore 92 = .ok (.iload_n 3, 1) := by decide +kernel
theorem dX1_findCore_93 : decode cX1_findCore 93 = .ok (.iconst 3, 1) := by decide +kernel
theorem dX1_findCore_94 : decode cX1_findCore 94 = .ok (.if_icmp .gt 28, 3) := by decide +kernel
theorem dX1_findCore_97 : decode cX1_findCore 97 = .ok (.aload_n 0, 1) := by decide +kernel
theorem dX1_findCore_98 : decode cX1_findCore 98 = .ok (.iload_n 3, 1) := by decide +kernel
theorem dX1_findCore_99 : decode cX1_findCore 99 = .ok (.aload_n 1, 1) := by decide +kernel
theorem dX1_findCore_100 : decode cX1_findCore 100 = .ok (.invokevirtual 180, 3) := by decide +kernel
theorem dX1_findCore_103 : decode cX1_findCore 103 = .ok (.invokevirtual 183, 3) := by decide +kernel
theorem dX1_findCore_106 : decode cX1_findCore 106 = .ok (.istore 4, 2) := by decide +kernel
theorem dX1_findCore_108 : decode cX1_findCore 108 = .ok (.iload 4, 2) := by decide +kernel
theorem dX1_findCore_110 : decode cX1_findCore 110 = .ok (.ifCond .eq 6, 3) := by decide +kernel
theorem dX1_findCore_113 : decode cX1_findCore 113 = .ok (.iload 4, 2) := by decide +kernel
theorem dX1_findCore_115 : decode cX1_findCore 115 = .ok (.ireturn, 1) := by decide +kernel
theorem dX1_findCore_116 : decode cX1_findCore 116 = .ok (.iinc 3 1, 3) := by decide +kernel
theorem dX1_findCore_119 : decode cX1_findCore 119 = .ok (.goto (-27), 3) := by decide +kernel
theorem dX1_findCore_122 : decode cX1_findCore 122 = .ok (.bipush (-3), 2) := by decide +kernel
theorem dX1_findCore_124 : decode cX1_findCore 124 = .ok (.ireturn, 1) := by decide +kernel
theorem dX1_firstCore_0 : decode cX1_firstCore 0 = .ok (.iconst 1, 1) := by decide +kernel
theorem dX1_firstCore_1 : decode cX1_firstCore 1 = .ok (.istore_n 3, 1) := by decide +kernel
theorem dX1_firstCore_2 : decode cX1_firstCore 2 = .ok (.iload_n 3, 1) := by decide +kernel
theorem dX1_firstCore_3 : decode cX1_firstCore 3 = .ok (.iload_n 2, 1) := by decide +kernel
theorem dX1_firstCore_4 : decode cX1_firstCore 4 = .ok (.if_icmp .gt 68, 3) := by decide +kernel
theorem dX1_firstCore_7 : decode cX1_firstCore 7 = .ok (.iload_n 3, 1) := by decide +kernel
theorem dX1_firstCore_8 : decode cX1_firstCore 8 = .ok (.invokestatic 186, 3) := by decide +kernel
theorem dX1_firstCore_11 : decode cX1_firstCore 11 = .ok (.iload_n 1, 1) := by decide +kernel
theorem dX1_firstCore_12 : decode cX1_firstCore 12 = .ok (.if_icmp .ne 22, 3) := by decide +kernel
theorem dX1_firstCore_15 : decode cX1_firstCore 15 = .ok (.iload_n 3, 1) := by decide +kernel
theorem dX1_firstCore_16 : decode cX1_firstCore 16 = .ok (.aload_n 0, 1) := by decide +kernel
theorem dX1_firstCore_17 : decode cX1_firstCore 17 = .ok (.getfield 12, 3) := by decide +kernel
theorem dX1_firstCore_20 : decode cX1_firstCore 20 = .ok (.getfield 70, 3) := by decide +kernel
theorem dX1_firstCore_23 : decode cX1_firstCore 23 = .ok (.iconst (-1), 1) := by decide +kernel
theorem dX1_firstCore_24 : decode cX1_firstCore 24 = .ok (.ixor, 1) := by decide +kernel
theorem dX1_firstCore_25 : decode cX1_firstCore 25 = .ok (.iand, 1) := by decide +kernel
theorem dX1_firstCore_26 : decode cX1_firstCore 26 = .ok (.ifCond .ne 8, 3) := by decide +kernel
theorem dX1_firstCore_29 : decode cX1_firstCore 29 = .ok (.aload_n 0, 1) := by decide +kernel
theorem dX1_firstCore_30 : decode cX1_firstCore 30 = .ok (.iload_n 3, 1) := by decide +kernel
theorem dX1_firstCore_31 : decode cX1_firstCore 31 = .ok (.invokevirtual 173, 3) := by decide +kernel
theorem dX1_firstCore_34 : decode cX1_firstCore 34 = .ok (.aload_n 0, 1) := by decide +kernel
theorem dX1_firstCore_35 : decode cX1_firstCore 35 = .ok (.getfield 32, 3) := by decide +kernel
theorem dX1_firstCore_38 : decode cX1_firstCore 38 = .ok (.bipush 64, 2) := by decide +kernel
theorem dX1_firstCore_40 : decode cX1_firstCore 40 = .ok (.if_icmp .eq 8, 3) := by decide +kernel
theorem dX1_firstCore_43 : decode cX1_firstCore 43 = .ok (.iload_n 3, 1) := by decide +kernel
theorem dX1_firstCore_44 : decode cX1_firstCore 44 = .ok (.iload_n 2, 1) := by decide +kernel
theorem dX1_firstCore_45 : decode cX1_firstCore 45 = .ok (.if_icmp .ne 21, 3) := by decide +kernel
theorem dX1_firstCore_48 : decode cX1_firstCore 48 = .ok (.aload_n 0, 1) := by decide +kernel
theorem dX1_firstCore_49 : decode cX1_firstCore 49 = .ok (.invokevirtual 177, 3) := by decide +kernel
theorem dX1_firstCore_52 : decode cX1_firstCore 52 = .ok (.istore 4, 2) := by decide +kernel
theorem dX1_firstCore_54 : decode cX1_firstCore 54 = .ok (.aload_n 0, 1) := by decide +kernel
theorem dX1_firstCore_55 : decode cX1_firstCore 55 = .ok (.invokevirtual 170, 3) := by decide +kernel
theorem dX1_firstCore_58 : decode cX1_firstCore 58 = .ok (.iload 4, 2) := by decide +kernel
theorem dX1_firstCore_60 : decode cX1_firstCore 60 = .ok (.ifCond .eq 6, 3) := by decide +kernel
theorem dX1_firstCore_63 : decode cX1_firstCore 63 = .ok (.iload 4, 2) := by decide +kernel
theorem dX1_firstCore_65 : decode cX1_firstCore 65 = .ok (.ireturn, 1) := by decide +kernel
theorem dX1_firstCore_66 : decode cX1_firstCore 66 = .ok (.iinc 3 1, 3) := by decide +kernel
theorem dX1_firstCore_69 : decode cX1_firstCore 69 = .ok (.goto (-67), 3) := by decide +kernel
theorem dX1_firstCore_72 : decode cX1_firstCore 72 = .ok (.iconst 0, 1) := by decide +kernel
theorem dX1_firstCore_73 : decode cX1_firstCore 73 = .ok (.ireturn, 1) := by decide +kernel
theorem dX1_dropSets_0 : decode cX1_dropSets 0 = .ok (.aload_n 0, 1) := by decide +kernel
theorem dX1_dropSets_1 : decode cX1_dropSets 1 = .ok (.iconst 0, 1) := by decide +kernel
theorem dX1_dropSets_2 : decode cX1_dropSets 2 = .ok (.putfield 32, 3) := by decide +kernel
theorem dX1_dropSets_5 : decode cX1_dropSets 5 = .ok (.aload_n 0, 1) := by decide +kernel
theorem dX1_dropSets_6 : decode cX1_dropSets 6 = .ok (.getfield 28, 3) := by decide +kernel
theorem dX1_dropSets_9 : decode cX1_dropSets 9 = .ok (.lconst 0, 1) := by decide +kernel
theorem dX1_dropSets_10 : decode cX1_dropSets 10 = .ok (.invokestatic 191, 3) := by decide +kernel
theorem dX1_dropSets_13 : decode cX1_dropSets 13 = .ok (.return_, 1) := by decide +kernel
theorem dX1_addSet_0 : decode cX1_addSet 0 = .ok (.aload_n 0, 1) := by decide +kernel
theorem dX1_addSet_1 : decode cX1_addSet 1 = .ok (.getfield 32, 3) := by decide +kernel
theorem dX1_addSet_4 : decode cX1_addSet 4 = .ok (.bipush 64, 2) := by decide +kernel
theorem dX1_addSet_6 : decode cX1_addSet 6 = .ok (.if_icmp .lt 4, 3) := by decide +kernel
theorem dX1_addSet_9 : decode cX1_addSet 9 = .ok (.return_, 1) := by decide +kernel
theorem dX1_addSet_10 : decode cX1_addSet 10 = .ok (.aload_n 0, 1) := by decide +kernel
theorem dX1_addSet_11 : decode cX1_addSet 11 = .ok (.getfield 25, 3) := by decide +kernel
theorem dX1_addSet_14 : decode cX1_addSet 14 = .ok (.aload_n 0, 1) := by decide +kernel
theorem dX1_addSet_15 : decode cX1_addSet 15 = .ok (.getfield 32, 3) := by decide +kernel
theorem dX1_addSet_18 : decode cX1_addSet 18 = .ok (.iload_n 1, 1) := by decide +kernel
theorem dX1_addSet_19 : decode cX1_addSet 19 = .ok (.iastore, 1) := by decide +kernel
theorem dX1_addSet_20 : decode cX1_addSet 20 = .ok (.iconst 0, 1) := by decide +kernel
theorem dX1_addSet_21 : decode cX1_addSet 21 = .ok (.istore_n 2, 1) := by decide +kernel
theorem dX1_addSet_22 : decode cX1_addSet 22 = .ok (.iload_n 2, 1) := by decide +kernel
theorem dX1_addSet_23 : decode cX1_addSet 23 = .ok (.bipush 20, 2) := by decide +kernel
theorem dX1_addSet_25 : decode cX1_addSet 25 = .ok (.if_icmp .ge 33, 3) := by decide +kernel
theorem dX1_addSet_28 : decode cX1_addSet 28 = .ok (.iload_n 1, 1) := by decide +kernel
theorem dX1_addSet_29 : decode cX1_addSet 29 = .ok (.iload_n 2, 1) := by decide +kernel
theorem dX1_addSet_30 : decode cX1_addSet 30 = .ok (.ishr, 1) := by decide +kernel
theorem dX1_addSet_31 : decode cX1_addSet 31 = .ok (.iconst 1, 1) := by decide +kernel
theorem dX1_addSet_32 : decode cX1_addSet 32 = .ok (.iand, 1) := by decide +kernel
theorem dX1_addSet_33 : decode cX1_addSet 33 = .ok (.iconst 1, 1) := by decide +kernel
theorem dX1_addSet_34 : decode cX1_addSet 34 = .ok (.if_icmp .ne 18, 3) := by decide +kernel
theorem dX1_addSet_37 : decode cX1_addSet 37 = .ok (.aload_n 0, 1) := by decide +kernel
theorem dX1_addSet_38 : decode cX1_addSet 38 = .ok (.getfield 28, 3) := by decide +kernel
theorem dX1_addSet_41 : decode cX1_addSet 41 = .ok (.iload_n 2, 1) := by decide +kernel
theorem dX1_addSet_42 : decode cX1_addSet 42 = .ok (.dup2, 1) := by decide +kernel
theorem dX1_addSet_43 : decode cX1_addSet 43 = .ok (.laload, 1) := by decide +kernel
theorem dX1_addSet_44 : decode cX1_addSet 44 = .ok (.lconst 1, 1) := by decide +kernel
theorem dX1_addSet_45 : decode cX1_addSet 45 = .ok (.aload_n 0, 1) := by decide +kernel
theorem dX1_addSet_46 : decode cX1_addSet 46 = .ok (.getfield 32, 3) := by decide +kernel
theorem dX1_addSet_49 : decode cX1_addSet 49 = .ok (.lshl, 1) := by decide +kernel
theorem dX1_addSet_50 : decode cX1_addSet 50 = .ok (.lor, 1) := by decide +kernel
theorem dX1_addSet_51 : decode cX1_addSet 51 = .ok (.lastore, 1) := by decide +kernel
theorem dX1_addSet_52 : decode cX1_addSet 52 = .ok (.iinc 2 1, 3) := by decide +kernel
theorem dX1_addSet_55 : decode cX1_addSet 55 = .ok (.goto (-33), 3) := by decide +kernel
theorem dX1_addSet_58 : decode cX1_addSet 58 = .ok (.aload_n 0, 1) := by decide +kernel
theorem dX1_addSet_59 : decode cX1_addSet 59 = .ok (.dup, 1) := by decide +kernel
theorem dX1_addSet_60 : decode cX1_addSet 60 = .ok (.getfield 32, 3) := by decide +kernel
theorem dX1_addSet_63 : decode cX1_addSet 63 = .ok (.iconst 1, 1) := by decide +kernel
theorem dX1_addSet_64 : decode cX1_addSet 64 = .ok (.iadd, 1) := by decide +kernel
theorem dX1_addSet_65 : decode cX1_addSet 65 = .ok (.putfield 32, 3) := by decide +kernel
theorem dX1_addSet_68 : decode cX1_addSet 68 = .ok (.return_, 1) := by decide +kernel
theorem dX1_firstSetThatCannot_0 : decode cX1_firstSetThatCannot 0 = .ok (.aload_n 0, 1) := by decide +kernel
theorem dX1_firstSetThatCannot_1 : decode cX1_firstSetThatCannot 1 = .ok (.getfield 32, 3) := by decide +kernel
theorem dX1_firstSetThatCannot_4 : decode cX1_firstSetThatCannot 4 = .ok (.ifCond .ne 5, 3) := by decide +kernel
theorem dX1_firstSetThatCannot_7 : decode cX1_firstSetThatCannot 7 = .ok (.iconst 0, 1) := by decide +kernel
theorem dX1_firstSetThatCannot_8 : decode cX1_firstSetThatCannot 8 = .ok (.ireturn, 1) := by decide +kernel
theorem dX1_firstSetThatCannot_9 : decode cX1_firstSetThatCannot 9 = .ok (.aload_n 0, 1) := by decide +kernel
theorem dX1_firstSetThatCannot_10 : decode cX1_firstSetThatCannot 10 = .ok (.getfield 45, 3) := by decide +kernel
theorem dX1_firstSetThatCannot_13 : decode cX1_firstSetThatCannot 13 = .ok (.aload_n 0, 1) := by decide +kernel
theorem dX1_firstSetThatCannot_14 : decode cX1_firstSetThatCannot 14 = .ok (.getfield 28, 3) := by decide +kernel
theorem dX1_firstSetThatCannot_17 : decode cX1_firstSetThatCannot 17 = .ok (.aload_n 0, 1) := by decide +kernel
theorem dX1_firstSetThatCannot_18 : decode cX1_firstSetThatCannot 18 = .ok (.getfield 12, 3) := by decide +kernel
theorem dX1_firstSetThatCannot_21 : decode cX1_firstSetThatCannot 21 = .ok (.getfield 70, 3) := by decide +kernel
theorem dX1_firstSetThatCannot_24 : decode cX1_firstSetThatCannot 24 = .ok (.invokevirtual 194, 3) := by decide +kernel
theorem dX1_firstSetThatCannot_27 : decode cX1_firstSetThatCannot 27 = .ok (.lstore_n 1, 1) := by decide +kernel
theorem dX1_firstSetThatCannot_28 : decode cX1_firstSetThatCannot 28 = .ok (.iconst 0, 1) := by decide +kernel
theorem dX1_firstSetThatCannot_29 : decode cX1_firstSetThatCannot 29 = .ok (.istore_n 3, 1) := by decide +kernel
theorem dX1_firstSetThatCannot_30 : decode cX1_firstSetThatCannot 30 = .ok (.iload_n 3, 1) := by decide +kernel
theorem dX1_firstSetThatCannot_31 : decode cX1_firstSetThatCannot 31 = .ok (.aload_n 0, 1) := by decide +kernel
theorem dX1_firstSetThatCannot_32 : decode cX1_firstSetThatCannot 32 = .ok (.getfield 32, 3) := by decide +kernel
theorem dX1_firstSetThatCannot_35 : decode cX1_firstSetThatCannot 35 = .ok (.if_icmp .ge 32, 3) := by decide +kernel
theorem dX1_firstSetThatCannot_38 : decode cX1_firstSetThatCannot 38 = .ok (.iload_n 3, 1) := by decide +kernel
theorem dX1_firstSetThatCannot_39 : decode cX1_firstSetThatCannot 39 = .ok (.bipush 64, 2) := by decide +kernel
theorem dX1_firstSetThatCannot_41 : decode cX1_firstSetThatCannot 41 = .ok (.if_icmp .ge 26, 3) := by decide +kernel
theorem dX1_firstSetThatCannot_44 : decode cX1_firstSetThatCannot 44 = .ok (.lload_n 1, 1) := by decide +kernel
theorem dX1_firstSetThatCannot_45 : decode cX1_firstSetThatCannot 45 = .ok (.iload_n 3, 1) := by decide +kernel
theorem dX1_firstSetThatCannot_46 : decode cX1_firstSetThatCannot 46 = .ok (.lshr, 1) := by decide +kernel
theorem dX1_firstSetThatCannot_47 : decode cX1_firstSetThatCannot 47 = .ok (.lconst 1, 1) := by decide +kernel
theorem dX1_firstSetThatCannot_48 : decode cX1_firstSetThatCannot 48 = .ok (.land, 1) := by decide +kernel
theorem dX1_firstSetThatCannot_49 : decode cX1_firstSetThatCannot 49 = .ok (.lconst 0, 1) := by decide +kernel
theorem dX1_firstSetThatCannot_50 : decode cX1_firstSetThatCannot 50 = .ok (.lcmp, 1) := by decide +kernel
theorem dX1_firstSetThatCannot_51 : decode cX1_firstSetThatCannot 51 = .ok (.ifCond .ne 10, 3) := by decide +kernel
theorem dX1_firstSetThatCannot_54 : decode cX1_firstSetThatCannot 54 = .ok (.aload_n 0, 1) := by decide +kernel
theorem dX1_firstSetThatCannot_55 : decode cX1_firstSetThatCannot 55 = .ok (.getfield 25, 3) := by decide +kernel
theorem dX1_firstSetThatCannot_58 : decode cX1_firstSetThatCannot 58 = .ok (.iload_n 3, 1) := by decide +kernel
theorem dX1_firstSetThatCannot_59 : decode cX1_firstSetThatCannot 59 = .ok (.iaload, 1) := by decide +kernel
theorem dX1_firstSetThatCannot_60 : decode cX1_firstSetThatCannot 60 = .ok (.ireturn, 1) := by decide +kernel
theorem dX1_firstSetThatCannot_61 : decode cX1_firstSetThatCannot 61 = .ok (.iinc 3 1, 3) := by decide +kernel
theorem dX1_firstSetThatCannot_64 : decode cX1_firstSetThatCannot 64 = .ok (.goto (-34), 3) := by decide +kernel
theorem dX1_firstSetThatCannot_67 : decode cX1_firstSetThatCannot 67 = .ok (.iconst 0, 1) := by decide +kernel
theorem dX1_firstSetThatCannot_68 : decode cX1_firstSetThatCannot 68 = .ok (.ireturn, 1) := by decide +kernel
theorem dX6_init_0 : decode cX6_init 0 = .ok (.aload_n 0, 1) := by decide +kernel
theorem dX6_init_1 : decode cX6_init 1 = .ok (.invokespecial 5, 3) := by decide +kernel
theorem dX6_init_4 : decode cX6_init 4 = .ok (.aload_n 0, 1) := by decide +kernel
theorem dX6_init_5 : decode cX6_init 5 = .ok (.sipush 6001, 3) := by decide +kernel
theorem dX6_init_8 : decode cX6_init 8 = .ok (.newarray .int, 2) := by decide +kernel
theorem dX6_init_10 : decode cX6_init 10 = .ok (.putfield 11, 3) := by decide +kernel
theorem dX6_init_13 : decode cX6_init 13 = .ok (.aload_n 0, 1) := by decide +kernel
theorem dX6_init_14 : decode cX6_init 14 = .ok (.sipush 18003, 3) := by decide +kernel
theorem dX6_init_17 : decode cX6_init 17 = .ok (.newarray .int, 2) := by decide +kernel
theorem dX6_init_19 : decode cX6_init 19 = .ok (.putfield 15, 3) := by decide +kernel
theorem dX6_init_22 : decode cX6_init 22 = .ok (.aload_n 0, 1) := by decide +kernel
theorem dX6_init_23 : decode cX6_init 23 = .ok (.sipush 24004, 3) := by decide +kernel
theorem dX6_init_26 : decode cX6_init 26 = .ok (.newarray .int, 2) := by decide +kernel
theorem dX6_init_28 : decode cX6_init 28 = .ok (.putfield 18, 3) := by decide +kernel
theorem dX6_init_31 : decode cX6_init 31 = .ok (.aload_n 0, 1) := by decide +kernel
theorem dX6_init_32 : decode cX6_init 32 = .ok (.sipush 6001, 3) := by decide +kernel
theorem dX6_init_35 : decode cX6_init 35 = .ok (.newarray .long, 2) := by decide +kernel
theorem dX6_init_37 : decode cX6_init 37 = .ok (.putfield 21, 3) := by decide +kernel
theorem dX6_init_40 : decode cX6_init 40 = .ok (.aload_n 0, 1) := by decide +kernel
theorem dX6_init_41 : decode cX6_init 41 = .ok (.sipush 16384, 3) := by decide +kernel
theorem dX6_init_44 : decode cX6_init 44 = .ok (.newarray .int, 2) := by decide +kernel
theorem dX6_init_46 : decode cX6_init 46 = .ok (.putfield 25, 3) := by decide +kernel
theorem dX6_init_49 : decode cX6_init 49 = .ok (.aload_n 0, 1) := by decide +kernel
theorem dX6_init_50 : decode cX6_init 50 = .ok (.new 28, 3) := by decide +kernel
theorem dX6_init_53 : decode cX6_init 53 = .ok (.dup, 1) := by decide +kernel
theorem dX6_init_54 : decode cX6_init 54 = .ok (.invokespecial 30, 3) := by decide +kernel
theorem dX6_init_57 : decode cX6_init 57 = .ok (.putfield 31, 3) := by decide +kernel
theorem dX6_init_60 : decode cX6_init 60 = .ok (.aload_n 0, 1) := by decide +kernel
theorem dX6_init_61 : decode cX6_init 61 = .ok (.iconst 1, 1) := by decide +kernel
theorem dX6_init_62 : decode cX6_init 62 = .ok (.putfield 35, 3) := by decide +kernel
theorem dX6_init_65 : decode cX6_init 65 = .ok (.aload_n 0, 1) := by decide +kernel
theorem dX6_init_66 : decode cX6_init 66 = .ok (.iconst 0, 1) := by decide +kernel
theorem dX6_init_67 : decode cX6_init 67 = .ok (.putfield 39, 3) := by decide +kernel
theorem dX6_init_70 : decode cX6_init 70 = .ok (.aload_n 0, 1) := by decide +kernel
theorem dX6_init_71 : decode cX6_init 71 = .ok (.aload_n 1, 1) := by decide +kernel
theorem dX6_init_72 : decode cX6_init 72 = .ok (.putfield 42, 3) := by decide +kernel
theorem dX6_init_75 : decode cX6_init 75 = .ok (.aload_n 0, 1) := by decide +kernel
theorem dX6_init_76 : decode cX6_init 76 = .ok (.aload_n 2, 1) := by decide +kernel
theorem dX6_init_77 : decode cX6_init 77 = .ok (.putfield 46, 3) := by decide +kernel
theorem dX6_init_80 : decode cX6_init 80 = .ok (.return_, 1) := by decide +kernel
theorem dX6_explore_0 : decode cX6_explore 0 = .ok (.aload_n 0, 1) := by decide +kernel
theorem dX6_explore_1 : decode cX6_explore 1 = .ok (.aload_n 1, 1) := by decide +kernel
theorem dX6_explore_2 : decode cX6_explore 2 = .ok (.putfield 31, 3) := by decide +kernel
theorem dX6_explore_5 : decode cX6_explore 5 = .ok (.aload_n 0, 1) := by decide +kernel
theorem dX6_explore_6 : decode cX6_explore 6 = .ok (.invokevirtual 50, 3) := by decide +kernel
theorem dX6_explore_9 : decode cX6_explore 9 = .ok (.aload_n 0, 1) := by decide +kernel
theorem dX6_explore_10 : decode cX6_explore 10 = .ok (.invokevirtual 53, 3) := by decide +kernel
theorem dX6_explore_13 : decode cX6_explore 13 = .ok (.iconst 0, 1) := by decide +kernel
theorem dX6_explore_14 : decode cX6_explore 14 = .ok (.istore_n 2, 1) := by decide +kernel
theorem dX6_explore_15 : decode cX6_explore 15 = .ok (.iload_n 2, 1) := by decide +kernel
theorem dX6_explore_16 : decode cX6_explore 16 = .ok (.aload_n 0, 1) := by decide +kernel
theorem dX6_explore_17 : decode cX6_explore 17 = .ok (.getfield 39, 3) := by decide +kernel
theorem dX6_explore_20 : decode cX6_explore 20 = .ok (.if_icmp .ge 70, 3) := by decide +kernel
theorem dX6_explore_23 : decode cX6_explore 23 = .ok (.iload_n 2, 1) := by decide +kernel
theorem dX6_explore_24 : decode cX6_explore 24 = .ok (.sipush 6000, 3) := by decide +kernel
theorem dX6_explore_27 : decode cX6_explore 27 = .ok (.if_icmp .ge 63, 3) := by decide +kernel
theorem dX6_explore_30 : decode cX6_explore 30 = .ok (.iconst 0, 1) := by decide +kernel
theorem dX6_explore_31 : decode cX6_explore 31 = .ok (.istore_n 3, 1) := by decide +kernel
theorem dX6_explore_32 : decode cX6_explore 32 = .ok (.iload_n 3, 1) := by decide +kernel
theorem dX6_explore_33 : decode cX6_explore 33 = .ok (.iconst 4, 1) := by decide +kernel
theorem dX6_explore_34 : decode cX6_explore 34 = .ok (.if_icmp .ge 38, 3) := by decide +kernel
theorem dX6_explore_37 : decode cX6_explore 37 = .ok (.aload_n 0, 1) := by decide +kernel
theorem dX6_explore_38 : decode cX6_explore 38 = .ok (.getfield 18, 3) := by decide +kernel
theorem dX6_explore_41 : decode cX6_explore 41 = .ok (.iload_n 2, 1) := by decide +kernel
theorem dX6_explore_42 : decode cX6_explore 42 = .ok (.iconst 4, 1) := by decide +kernel
theorem dX6_explore_43 : decode cX6_explore 43 = .ok (.imul, 1) := by decide +kernel
theorem dX6_explore_44 : decode cX6_explore 44 = .ok (.iload_n 3, 1) := by decide +kernel
theorem dX6_explore_45 : decode cX6_explore 45 = .ok (.iadd, 1) := by decide +kernel
theorem dX6_explore_46 : decode cX6_explore 46 = .ok (.aload_n 0, 1) := by decide +kernel
theorem dX6_explore_47 : decode cX6_explore 47 = .ok (.iload_n 2, 1) := by decide +kernel
theorem dX6_explore_48 : decode cX6_explore 48 = .ok (.aload_n 0, 1) := by decide +kernel
theorem dX6_explore_49 : decode cX6_explore 49 = .ok (.getfield 46, 3) := by decide +kernel
theorem dX6_explore_52 : decode cX6_explore 52 = .ok (.iload_n 3, 1) := by decide +kernel
theorem dX6_explore_53 : decode cX6_explore 53 = .ok (.aload_n 0, 1) := by decide +kernel
theorem dX6_explore_54 : decode cX6_explore 54 = .ok (.getfield 11, 3) := by decide +kernel
theorem dX6_explore_57 : decode cX6_explore 57 = .ok (.iload_n 2, 1) := by decide +kernel
theorem dX6_explore_58 : decode cX6_explore 58 = .ok (.iaload, 1) := by decide +kernel
theorem dX6_explore_59 : decode cX6_explore 59 = .ok (.invokevirtual 56, 3) := by decide +kernel
theorem dX6_explore_62 : decode cX6_explore 62 = .ok (.invokevirtual 62, 3) := by decide +kernel
theorem dX6_explore_65 : decode cX6_explore 65 = .ok (.iastore, 1) := by decide +kernel
theorem dX6_explore_66 : decode cX6_explore 66 = .ok (.iinc 3 1, 3) := by decide +kernel
theorem dX6_explore_69 : decode cX6_explore 69 = .ok (.goto (-37), 3) := by decide +kernel
theorem dX6_explore_72 : decode cX6_explore 72 = .ok (.aload_n 0, 1) := by decide +kernel
theorem dX6_explore_73 : decode cX6_explore 73 = .ok (.getfield 39, 3) := by decide +kernel
theorem dX6_explore_76 : decode cX6_explore 76 = .ok (.sipush 6000, 3) := by decide +kernel
theorem dX6_explore_79 : decode cX6_explore 79 = .ok (.if_icmp .le 5, 3) := by decide +kernel
theorem dX6_explore_82 : decode cX6_explore 82 = .ok (.iconst 0, 1) := by decide +kernel
theorem dX6_explore_83 : decode cX6_explore 83 = .ok (.ireturn, 1) := by decide +kernel
theorem dX6_explore_84 : decode cX6_explore 84 = .ok (.iinc 2 1, 3) := by decide +kernel
theorem dX6_explore_87 : decode cX6_explore 87 = .ok (.goto (-72), 3) := by decide +kernel
theorem dX6_explore_90 : decode cX6_explore 90 = .ok (.iconst 1, 1) := by decide +kernel
theorem dX6_explore_91 : decode cX6_explore 91 = .ok (.ireturn, 1) := by decide +kernel
theorem dX6_forget_0 : decode cX6_forget 0 = .ok (.aload_n 0, 1) := by decide +kernel
theorem dX6_forget_1 : decode cX6_forget 1 = .ok (.getfield 35, 3) := by decide +kernel
theorem dX6_forget_4 : decode cX6_forget 4 = .ok (.ldc 65, 2) := by decide +kernel
theorem dX6_forget_6 : decode cX6_forget 6 = .ok (.if_icmp .le 19, 3) := by decide +kernel
theorem dX6_forget_9 : decode cX6_forget 9 = .ok (.aload_n 0, 1) := by decide +kernel
theorem dX6_forget_10 : decode cX6_forget 10 = .ok (.getfield 25, 3) := by decide +kernel
theorem dX6_forget_13 : decode cX6_forget 13 = .ok (.iconst 0, 1) := by decide +kernel
theorem dX6_forget_14 : decode cX6_forget 14 = .ok (.invokestatic 66, 3) := by decide +kernel
theorem dX6_forget_17 : decode cX6_forget 17 = .ok (.aload_n 0, 1) := by decide +kernel
theorem dX6_forget_18 : decode cX6_forget 18 = .ok (.iconst 1, 1) := by decide +kernel
theorem dX6_forget_19 : decode cX6_forget 19 = .ok (.putfield 35, 3) := by decide +kernel
theorem dX6_forget_22 : decode cX6_forget 22 = .ok (.goto 15, 3) := by decide +kernel
theorem dX6_forget_25 : decode cX6_forget 25 = .ok (.aload_n 0, 1) := by decide +kernel
theorem dX6_forget_26 : decode cX6_forget 26 = .ok (.dup, 1) := by decide +kernel
theorem dX6_forget_27 : decode cX6_forget 27 = .ok (.getfield 35, 3) := by decide +kernel
theorem dX6_forget_30 : decode cX6_forget 30 = .ok (.sipush 6001, 3) := by decide +kernel
theorem dX6_forget_33 : decode cX6_forget 33 = .ok (.iadd, 1) := by decide +kernel
theorem dX6_forget_34 : decode cX6_forget 34 = .ok (.putfield 35, 3) := by decide +kernel
theorem dX6_forget_37 : decode cX6_forget 37 = .ok (.return_, 1) := by decide +kernel
theorem dX6_begin_0 : decode cX6_begin 0 = .ok (.aload_n 0, 1) := by decide +kernel
theorem dX6_begin_1 : decode cX6_begin 1 = .ok (.getfield 11, 3) := by decide +kernel
theorem dX6_begin_4 : decode cX6_begin 4 = .ok (.iconst 0, 1) := by decide +kernel
theorem dX6_begin_5 : decode cX6_begin 5 = .ok (.iconst 0, 1) := by decide +kernel
theorem dX6_begin_6 : decode cX6_begin 6 = .ok (.iastore, 1) := by decide +kernel
theorem dX6_begin_7 : decode cX6_begin 7 = .ok (.iconst 0, 1) := by decide +kernel
theorem dX6_begin_8 : decode cX6_begin 8 = .ok (.istore_n 1, 1) := by decide +kernel
theorem dX6_begin_9 : decode cX6_begin 9 = .ok (.iload_n 1, 1) := by decide +kernel
theorem dX6_begin_10 : decode cX6_begin 10 = .ok (.iconst 3, 1) := by decide +kernel
theorem dX6_begin_11 : decode cX6_begin 11 = .ok (.if_icmp .ge 26, 3) := by decide +kernel
theorem dX6_begin_14 : decode cX6_begin 14 = .ok (.aload_n 0, 1) := by decide +kernel
theorem dX6_begin_15 : decode cX6_begin 15 = .ok (.getfield 15, 3) := by decide +kernel
theorem dX6_begin_18 : decode cX6_begin 18 = .ok (.iload_n 1, 1) := by decide +kernel
theorem dX6_begin_19 : decode cX6_begin 19 = .ok (.aload_n 0, 1) := by decide +kernel
theorem dX6_begin_20 : decode cX6_begin 20 = .ok (.getfield 42, 3) := by decide +kernel
theorem dX6_begin_23 : decode cX6_begin 23 = .ok (.iload_n 1, 1) := by decide +kernel
theorem dX6_begin_24 : decode cX6_begin 24 = .ok (.invokevirtual 72, 3) := by decide +kernel
theorem dX6_begin_27 : decode cX6_begin 27 = .ok (.invokestatic 78, 3) := by decide +kernel
theorem dX6_begin_30 : decode cX6_begin 30 = .ok (.iastore, 1) := by decide +kernel
theorem dX6_begin_31 : decode cX6_begin 31 = .ok (.iinc 1 1, 3) := by decide +kernel
theorem dX6_begin_34 : decode cX6_begin 34 = .ok (.goto (-25), 3) := by decide +kernel
theorem dX6_begin_37 : decode cX6_begin 37 = .ok (.aload_n 0, 1) := by decide +kernel
theorem dX6_begin_38 : decode cX6_begin 38 = .ok (.iconst 0, 1) := by decide +kernel
theorem dX6_begin_39 : decode cX6_begin 39 = .ok (.iconst (-1), 1) := by decide +kernel
theorem dX6_begin_40 : decode cX6_begin 40 = .ok (.invokevirtual 83, 3) := by decide +kernel
theorem dX6_begin_43 : decode cX6_begin 43 = .ok (.pop, 1) := by decide +kernel
theorem dX6_begin_44 : decode cX6_begin 44 = .ok (.aload_n 0, 1) := by decide +kernel
theorem dX6_begin_45 : decode cX6_begin 45 = .ok (.iconst 1, 1) := by decide +kernel
theorem dX6_begin_46 : decode cX6_begin 46 = .ok (.putfield 39, 3) := by decide +kernel
theorem dX6_begin_49 : decode cX6_begin 49 = .ok (.return_, 1) := by decide +kernel
theorem dX6_leadOn_0 : decode cX6_leadOn 0 = .ok (.iload_n 2, 1) := by decide +kernel
theorem dX6_leadOn_1 : decode cX6_leadOn 1 = .ok (.ifCond .lt 29, 3) := by decide +kernel
theorem dX6_leadOn_4 : decode cX6_leadOn 4 = .ok (.aload_n 0, 1) := by decide +kernel
theorem dX6_leadOn_5 : decode cX6_leadOn 5 = .ok (.getfield 39, 3) := by decide +kernel
theorem dX6_leadOn_8 : decode cX6_leadOn 8 = .ok (.sipush 6000, 3) := by decide +kernel
theorem dX6_leadOn_11 : decode cX6_leadOn 11 = .ok (.if_icmp .gt 19, 3) := by decide +kernel
theorem dX6_leadOn_14 : decode cX6_leadOn 14 = .ok (.aload_n 0, 1) := by decide +kernel
theorem dX6_leadOn_15 : decode cX6_leadOn 15 = .ok (.iload_n 1, 1) := by decide +kernel
theorem dX6_leadOn_16 : decode cX6_leadOn 16 = .ok (.iload_n 2, 1) := by decide +kernel
theorem dX6_leadOn_17 : decode cX6_leadOn 17 = .ok (.aload_n 0, 1) := by decide +kernel
theorem dX6_leadOn_18 : decode cX6_leadOn 18 = .ok (.getfield 46, 3) := by decide +kernel
theorem dX6_leadOn_21 : decode cX6_leadOn 21 = .ok (.getfield 86, 3) := by decide +kernel
theorem dX6_leadOn_24 : decode cX6_leadOn 24 = .ok (.invokevirtual 89, 3) := by decide +kernel
theorem dX6_leadOn_27 : decode cX6_leadOn 27 = .ok (.ifCond .eq 5, 3) := by decide +kernel
theorem dX6_leadOn_30 : decode cX6_leadOn 30 = .ok (.iconst (-1), 1) := by decide +kernel
theorem dX6_leadOn_31 : decode cX6_leadOn 31 = .ok (.ireturn, 1) := by decide +kernel
theorem dX6_leadOn_32 : decode cX6_leadOn 32 = .ok (.iload_n 1, 1) := by decide +kernel
theorem dX6_leadOn_33 : decode cX6_leadOn 33 = .ok (.iconst 3, 1) := by decide +kernel
theorem dX6_leadOn_34 : decode cX6_leadOn 34 = .ok (.imul, 1) := by decide +kernel
theorem dX6_leadOn_35 : decode cX6_leadOn 35 = .ok (.istore_n 3, 1) := by decide +kernel
theorem dX6_leadOn_36 : decode cX6_leadOn 36 = .ok (.aload_n 0, 1) := by decide +kernel
theorem dX6_leadOn_37 : decode cX6_leadOn 37 = .ok (.getfield 39, 3) := by decide +kernel
theorem dX6_leadOn_40 : decode cX6_leadOn 40 = .ok (.iconst 3, 1) := by decide +kernel
theorem dX6_leadOn_41 : decode cX6_leadOn 41 = .ok (.imul, 1) := by decide +kernel
theorem dX6_leadOn_42 : decode cX6_leadOn 42 = .ok (.istore 4, 2) := by decide +kernel
theorem dX6_leadOn_44 : decode cX6_leadOn 44 = .ok (.iconst 0, 1) := by decide +kernel
theorem dX6_leadOn_45 : decode cX6_leadOn 45 = .ok (.istore 5, 2) := by decide +kernel
theorem dX6_leadOn_47 : decode cX6_leadOn 47 = .ok (.iload 5, 2) := by decide +kernel
theorem dX6_leadOn_49 : decode cX6_leadOn 49 = .ok (.iconst 3, 1) := by decide +kernel
theorem dX6_leadOn_50 : decode cX6_leadOn 50 = .ok (.if_icmp .ge 28, 3) := by decide +kernel
theorem dX6_leadOn_53 : decode cX6_leadOn 53 = .ok (.aload_n 0, 1) := by decide +kernel
theorem dX6_leadOn_54 : decode cX6_leadOn 54 = .ok (.getfield 15, 3) := by decide +kernel
theorem dX6_leadOn_57 : decode cX6_leadOn 57 = .ok (.iload 4, 2) := by decide +kernel
theorem dX6_leadOn_59 : decode cX6_leadOn 59 = .ok (.iload 5, 2) := by decide +kernel
theorem dX6_leadOn_61 : decode cX6_leadOn 61 = .ok (.iadd, 1) := by decide +kernel
theorem dX6_leadOn_62 : decode cX6_leadOn 62 = .ok (.aload_n 0, 1) := by decide +kernel
theorem dX6_leadOn_63 : decode cX6_leadOn 63 = .ok (.getfield 15, 3) := by decide +kernel
theorem dX6_leadOn_66 : decode cX6_leadOn 66 = .ok (.iload_n 3, 1) := by decide +kernel
theorem dX6_leadOn_67 : decode cX6_leadOn 67 = .ok (.iload 5, 2) := by decide +kernel
theorem dX6_leadOn_69 : decode cX6_leadOn 69 = .ok (.iadd, 1) := by decide +kernel
theorem dX6_leadOn_70 : decode cX6_leadOn 70 = .ok (.iaload, 1) := by decide +kernel
theorem dX6_leadOn_71 : decode cX6_leadOn 71 = .ok (.iastore, 1) := by decide +kernel
theorem dX6_leadOn_72 : decode cX6_leadOn 72 = .ok (.iinc 5 1, 3) := by decide +kernel
theorem dX6_leadOn_75 : decode cX6_leadOn 75 = .ok (.goto (-28), 3) := by decide +kernel
theorem dX6_leadOn_78 : decode cX6_leadOn 78 = .ok (.aload_n 0, 1) := by decide +kernel
theorem dX6_leadOn_79 : decode cX6_leadOn 79 = .ok (.getfield 31, 3) := by decide +kernel
theorem dX6_leadOn_82 : decode cX6_leadOn 82 = .ok (.iload_n 2, 1) := by decide +kernel
theorem dX6_leadOn_83 : decode cX6_leadOn 83 = .ok (.invokevirtual 93, 3) := by decide +kernel
theorem dX6_leadOn_86 : decode cX6_leadOn 86 = .ok (.istore 5, 2) := by decide +kernel
theorem dX6_leadOn_88 : decode cX6_leadOn 88 = .ok (.iload 5, 2) := by decide +kernel
theorem dX6_leadOn_90 : decode cX6_leadOn 90 = .ok (.ifCond .lt 56, 3) := by decide +kernel
theorem dX6_leadOn_93 : decode cX6_leadOn 93 = .ok (.iload 5, 2) := by decide +kernel
theorem dX6_leadOn_95 : decode cX6_leadOn 95 = .ok (.iconst 3, 1) := by decide +kernel
theorem dX6_leadOn_96 : decode cX6_leadOn 96 = .ok (.if_icmp .ge 50, 3) := by decide +kernel
theorem dX6_leadOn_99 : decode cX6_leadOn 99 = .ok (.aload_n 0, 1) := by decide +kernel
theorem dX6_leadOn_100 : decode cX6_leadOn 100 = .ok (.getfield 15, 3) := by decide +kernel
theorem dX6_leadOn_103 : decode cX6_leadOn 103 = .ok (.iload 4, 2) := by decide +kernel
theorem dX6_leadOn_105 : decode cX6_leadOn 105 = .ok (.iload 5, 2) := by decide +kernel
theorem dX6_leadOn_107 : decode cX6_leadOn 107 = .ok (.iadd, 1) := by decide +kernel
theorem dX6_leadOn_108 : decode cX6_leadOn 108 = .ok (.aload_n 0, 1) := by decide +kernel
theorem dX6_leadOn_109 : decode cX6_leadOn 109 = .ok (.getfield 42, 3) := by decide +kernel
theorem dX6_leadOn_112 : decode cX6_leadOn 112 = .ok (.iload 5, 2) := by decide +kernel
theorem dX6_leadOn_114 : decode cX6_leadOn 114 = .ok (.invokevirtual 72, 3) := by decide +kernel
theorem dX6_leadOn_117 : decode cX6_leadOn 117 = .ok (.aload_n 0, 1) := by decide +kernel
theorem dX6_leadOn_118 : decode cX6_leadOn 118 = .ok (.getfield 15, 3) := by decide +kernel
theorem dX6_leadOn_121 : decode cX6_leadOn 121 = .ok (.iload_n 3, 1) := by decide +kernel
theorem dX6_leadOn_122 : decode cX6_leadOn 122 = .ok (.iload 5, 2) := by decide +kernel
theorem dX6_leadOn_124 : decode cX6_leadOn 124 = .ok (.iadd, 1) := by decide +kernel
theorem dX6_leadOn_125 : decode cX6_leadOn 125 = .ok (.iaload, 1) := by decide +kernel
theorem dX6_leadOn_126 : decode cX6_leadOn 126 = .ok (.aload_n 0, 1) := by decide +kernel
theorem dX6_leadOn_127 : decode cX6_leadOn 127 = .ok (.getfield 31, 3) := by decide +kernel
theorem dX6_leadOn_130 : decode cX6_leadOn 130 = .ok (.iload_n 2, 1) := by decide +kernel
theorem dX6_leadOn_131 : decode cX6_leadOn 131 = .ok (.invokevirtual 96, 3) := by decide +kernel
theorem dX6_leadOn_134 : decode cX6_leadOn 134 = .ok (.aload_n 0, 1) := by decide +kernel
theorem dX6_leadOn_135 : decode cX6_leadOn 135 = .ok (.getfield 31, 3) := by decide +kernel
theorem dX6_leadOn_138 : decode cX6_leadOn 138 = .ok (.iload_n 2, 1) := by decide +kernel
theorem dX6_leadOn_139 : decode cX6_leadOn 139 = .ok (.invokevirtual 99, 3) := by decide +kernel
theorem dX6_leadOn_142 : decode cX6_leadOn 142 = .ok (.invokestatic 102, 3) := by decide +kernel
theorem dX6_leadOn_145 : decode cX6_leadOn 145 = .ok (.iastore, 1) := by decide +kernel
theorem dX6_leadOn_146 : decode cX6_leadOn 146 = .ok (.aload_n 0, 1) := by decide +kernel
theorem dX6_leadOn_147 : decode cX6_leadOn 147 = .ok (.getfield 11, 3) := by decide +kernel
theorem dX6_leadOn_150 : decode cX6_leadOn 150 = .ok (.aload_n 0, 1) := by decide +kernel
theorem dX6_leadOn_151 : decode cX6_leadOn 151 = .ok (.getfield 39, 3) := by decide +kernel
theorem dX6_leadOn_154 : decode cX6_leadOn 154 = .ok (.aload_n 0, 1) := by decide +kernel
theorem dX6_leadOn_155 : decode cX6_leadOn 155 = .ok (.getfield 11, 3) := by decide +kernel
theorem dX6_leadOn_158 : decode cX6_leadOn 158 = .ok (.iload_n 1, 1) := by decide +kernel
theorem dX6_leadOn_159 : decode cX6_leadOn 159 = .ok (.iaload, 1) := by decide +kernel
theorem dX6_leadOn_160 : decode cX6_leadOn 160 = .ok (.iconst 1, 1) := by decide +kernel
theorem dX6_leadOn_161 : decode cX6_leadOn 161 = .ok (.iload_n 2, 1) := by decide +kernel
theorem dX6_leadOn_162 : decode cX6_leadOn 162 = .ok (.ishl, 1) := by decide +kernel
theorem dX6_leadOn_163 : decode cX6_leadOn 163 = .ok (.ior, 1) := by decide +kernel
theorem dX6_leadOn_164 : decode cX6_leadOn 164 = .ok (.iastore, 1) := by decide +kernel
theorem dX6_leadOn_165 : decode cX6_leadOn 165 = .ok (.aload_n 0, 1) := by decide +kernel
theorem dX6_leadOn_166 : decode cX6_leadOn 166 = .ok (.aload_n 0, 1) := by decide +kernel
theorem dX6_leadOn_167 : decode cX6_leadOn 167 = .ok (.getfield 39, 3) := by decide +kernel
theorem dX6_leadOn_170 : decode cX6_leadOn 170 = .ok (.iconst (-1), 1) := by decide +kernel
theorem dX6_leadOn_171 : decode cX6_leadOn 171 = .ok (.invokevirtual 83, 3) := by decide +kernel
theorem dX6_leadOn_174 : decode cX6_leadOn 174 = .ok (.istore 6, 2) := by decide +kernel
theorem dX6_leadOn_176 : decode cX6_leadOn 176 = .ok (.iload 6, 2) := by decide +kernel
theorem dX6_leadOn_178 : decode cX6_leadOn 178 = .ok (.aload_n 0, 1) := by decide +kernel
theorem dX6_leadOn_179 : decode cX6_leadOn 179 = .ok (.getfield 39, 3) := by decide +kernel
theorem dX6_leadOn_182 : decode cX6_leadOn 182 = .ok (.if_icmp .ne 13, 3) := by decide +kernel
theorem dX6_leadOn_185 : decode cX6_leadOn 185 = .ok (.aload_n 0, 1) := by decide +kernel
theorem dX6_leadOn_186 : decode cX6_leadOn 186 = .ok (.dup, 1) := by decide +kernel
theorem dX6_leadOn_187 : decode cX6_leadOn 187 = .ok (.getfield 39, 3) := by decide +kernel
theorem dX6_leadOn_190 : decode cX6_leadOn 190 = .ok (.iconst 1, 1) := by decide +kernel
theorem dX6_leadOn_191 : decode cX6_leadOn 191 = .ok (.iadd, 1) := by decide +kernel
theorem dX6_leadOn_192 : decode cX6_leadOn 192 = .ok (.putfield 39, 3) := by decide +kernel
theorem dX6_leadOn_195 : decode cX6_leadOn 195 = .ok (.iload 6, 2) := by decide +kernel
theorem dX6_leadOn_197 : decode cX6_leadOn 197 = .ok (.ireturn, 1) := by decide +kernel
theorem dX6_find_0 : decode cX6_find 0 = .ok (.iload_n 1, 1) := by decide +kernel
theorem dX6_find_1 : decode cX6_find 1 = .ok (.iconst 3, 1) := by decide +kernel
theorem dX6_find_2 : decode cX6_find 2 = .ok (.imul, 1) := by decide +kernel
theorem dX6_find_3 : decode cX6_find 3 = .ok (.istore_n 3, 1) := by decide +kernel
theorem dX6_find_4 : decode cX6_find 4 = .ok (.aload_n 0, 1) := by decide +kernel
theorem dX6_find_5 : decode cX6_find 5 = .ok (.getfield 11, 3) := by decide +kernel
theorem dX6_find_8 : decode cX6_find 8 = .ok (.iload_n 1, 1) := by decide +kernel
theorem dX6_find_9 : decode cX6_find 9 = .ok (.iaload, 1) := by decide +kernel
theorem dX6_find_10 : decode cX6_find 10 = .ok (.iload_n 2, 1) := by decide +kernel
theorem dX6_find_11 : decode cX6_find 11 = .ok (.iand, 1) := by decide +kernel
theorem dX6_find_12 : decode cX6_find 12 = .ok (.ldc 106, 2) := by decide +kernel
theorem dX6_find_14 : decode cX6_find 14 = .ok (.imul, 1) := by decide +kernel
theorem dX6_find_15 : decode cX6_find 15 = .ok (.istore 4, 2) := by decide +kernel
theorem dX6_find_17 : decode cX6_find 17 = .ok (.iconst 0, 1) := by decide +kernel
theorem dX6_find_18 : decode cX6_find 18 = .ok (.istore 5, 2) := by decide +kernel
theorem dX6_find_20 : decode cX6_find 20 = .ok (.iload 5, 2) := by decide +kernel
theorem dX6_find_22 : decode cX6_find 22 = .ok (.iconst 3, 1) := by decide +kernel
theorem dX6_find_23 : decode cX6_find 23 = .ok (.if_icmp .ge 32, 3) := by decide +kernel
theorem dX6_find_26 : decode cX6_find 26 = .ok (.iload 4, 2) := by decide +kernel
theorem dX6_find_28 : decode cX6_find 28 = .ok (.iload 4, 2) := by decide +kernel
theorem dX6_find_30 : decode cX6_find 30 = .ok (.bipush 15, 2) := by decide +kernel
theorem dX6_find_32 : decode cX6_find 32 = .ok (.iushr, 1) := by decide +kernel
theorem dX6_find_33 : decode cX6_find 33 = .ok (.ixor, 1) := by decide +kernel
theorem dX6_find_34 : decode cX6_find 34 = .ok (.aload_n 0, 1) := by decide +kernel
theorem dX6_find_35 : decode cX6_find 35 = .ok (.getfield 15, 3) := by decide +kernel
theorem dX6_find_38 : decode cX6_find 38 = .ok (.iload_n 3, 1) := by decide +kernel
theorem dX6_find_39 : decode cX6_find 39 = .ok (.iload 5, 2) := by decide +kernel
theorem dX6_find_41 : decode cX6_find 41 = .ok (.iadd, 1) := by decide +kernel
theorem dX6_find_42 : decode cX6_find 42 = .ok (.iaload, 1) := by decide +kernel
theorem dX6_find_43 : decode cX6_find 43 = .ok (.ixor, 1) := by decide +kernel
theorem dX6_find_44 : decode cX6_find 44 = .ok (.ldc 107, 2) := by decide +kernel
theorem dX6_find_46 : decode cX6_find 46 = .ok (.imul, 1) := by decide +kernel
theorem dX6_find_47 : decode cX6_find 47 = .ok (.istore 4, 2) := by decide +kernel
theorem dX6_find_49 : decode cX6_find 49 = .ok (.iinc 5 1, 3) := by decide +kernel
theorem dX6_find_52 : decode cX6_find 52 = .ok (.goto (-32), 3) := by decide +kernel
theorem dX6_find_55 : decode cX6_find 55 = .ok (.iload 4, 2) := by decide +kernel
theorem dX6_find_57 : decode cX6_find 57 = .ok (.iload 4, 2) := by decide +kernel
theorem dX6_find_59 : decode cX6_find 59 = .ok (.bipush 14, 2) := by decide +kernel
theorem dX6_find_61 : decode cX6_find 61 = .ok (.iushr, 1) := by decide +kernel
theorem dX6_find_62 : decode cX6_find 62 = .ok (.ixor, 1) := by decide +kernel
theorem dX6_find_63 : decode cX6_find 63 = .ok (.sipush 16383, 3) := by decide +kernel
theorem dX6_find_66 : decode cX6_find 66 = .ok (.iand, 1) := by decide +kernel
theorem dX6_find_67 : decode cX6_find 67 = .ok (.istore 5, 2) := by decide +kernel
theorem dX6_find_69 : decode cX6_find 69 = .ok (.iconst 0, 1) := by decide +kernel
theorem dX6_find_70 : decode cX6_find 70 = .ok (.istore 6, 2) := by decide +kernel
theorem dX6_find_72 : decode cX6_find 72 = .ok (.iload 6, 2) := by decide +kernel
theorem dX6_find_74 : decode cX6_find 74 = .ok (.sipush 16384, 3) := by decide +kernel
theorem dX6_find_77 : decode cX6_find 77 = .ok (.if_icmp .ge 75, 3) := by decide +kernel
theorem dX6_find_80 : decode cX6_find 80 = .ok (.aload_n 0, 1) := by decide +kernel
theorem dX6_find_81 : decode cX6_find 81 = .ok (.getfield 25, 3) := by decide +kernel
theorem dX6_find_84 : decode cX6_find 84 = .ok (.iload 5, 2) := by decide +kernel
theorem dX6_find_86 : decode cX6_find 86 = .ok (.iaload, 1) := by decide +kernel
theorem dX6_find_87 : decode cX6_find 87 = .ok (.aload_n 0, 1) := by decide +kernel
theorem dX6_find_88 : decode cX6_find 88 = .ok (.getfield 35, 3) := by decide +kernel
theorem dX6_find_91 : decode cX6_find 91 = .ok (.isub, 1) := by decide +kernel
theorem dX6_find_92 : decode cX6_find 92 = .ok (.istore 7, 2) := by decide +kernel
theorem dX6_find_94 : decode cX6_find 94 = .ok (.iload 7, 2) := by decide +kernel
theorem dX6_find_96 : decode cX6_find 96 = .ok (.ifCond .lt 11, 3) := by decide +kernel
theorem dX6_find_99 : decode cX6_find 99 = .ok (.iload 7, 2) := by decide +kernel
theorem dX6_find_101 : decode cX6_find 101 = .ok (.sipush 6001, 3) := by decide +kernel
theorem dX6_find_104 : decode cX6_find 104 = .ok (.if_icmp .lt 18, 3) := by decide +kernel
theorem dX6_find_107 : decode cX6_find 107 = .ok (.aload_n 0, 1) := by decide +kernel
theorem dX6_find_108 : decode cX6_find 108 = .ok (.getfield 25, 3) := by decide +kernel
theorem dX6_find_111 : decode cX6_find 111 = .ok (.iload 5, 2) := by decide +kernel
theorem dX6_find_113 : decode cX6_find 113 = .ok (.aload_n 0, 1) := by decide +kernel
theorem dX6_find_114 : decode cX6_find 114 = .ok (.getfield 35, 3) := by decide +kernel
theorem dX6_find_117 : decode cX6_find 117 = .ok (.iload_n 1, 1) := by decide +kernel
theorem dX6_find_118 : decode cX6_find 118 = .ok (.iadd, 1) := by decide +kernel
theorem dX6_find_119 : decode cX6_find 119 = .ok (.iastore, 1) := by decide +kernel
theorem dX6_find_120 : decode cX6_find 120 = .ok (.iload_n 1, 1) := by decide +kernel
theorem dX6_find_121 : decode cX6_find 121 = .ok (.ireturn, 1) := by decide +kernel
theorem dX6_find_122 : decode cX6_find 122 = .ok (.aload_n 0, 1) := by decide +kernel
theorem dX6_find_123 : decode cX6_find 123 = .ok (.iload 7, 2) := by decide +kernel
theorem dX6_find_125 : decode cX6_find 125 = .ok (.iload_n 1, 1) := by decide +kernel
theorem dX6_find_126 : decode cX6_find 126 = .ok (.iload_n 2, 1) := by decide +kernel
theorem dX6_find_127 : decode cX6_find 127 = .ok (.invokevirtual 108, 3) := by decide +kernel
theorem dX6_find_130 : decode cX6_find 130 = .ok (.ifCond .eq 6, 3) := by decide +kernel
theorem dX6_find_133 : decode cX6_find 133 = .ok (.iload 7, 2) := by decide +kernel
theorem dX6_find_135 : decode cX6_find 135 = .ok (.ireturn, 1) := by decide +kernel
theorem dX6_find_136 : decode cX6_find 136 = .ok (.iload 5, 2) := by decide +kernel
theorem dX6_find_138 : decode cX6_find 138 = .ok (.iconst 1, 1) := by decide +kernel
theorem dX6_find_139 : decode cX6_find 139 = .ok (.iadd, 1) := by decide +kernel
theorem dX6_find_140 : decode cX6_find 140 = .ok (.sipush 16383, 3) := by decide +kernel
theorem dX6_find_143 : decode cX6_find 143 = .ok (.iand, 1) := by decide +kernel
theorem dX6_find_144 : decode cX6_find 144 = .ok (.istore 5, 2) := by decide +kernel
theorem dX6_find_146 : decode cX6_find 146 = .ok (.iinc 6 1, 3) := by decide +kernel
theorem dX6_find_149 : decode cX6_find 149 = .ok (.goto (-77), 3) := by decide +kernel
theorem dX6_find_152 : decode cX6_find 152 = .ok (.iconst (-1), 1) := by decide +kernel
theorem dX6_find_153 : decode cX6_find 153 = .ok (.ireturn, 1) := by decide +kernel
theorem dX6_alike_0 : decode cX6_alike 0 = .ok (.aload_n 0, 1) := by decide +kernel
theorem dX6_alike_1 : decode cX6_alike 1 = .ok (.getfield 11, 3) := by decide +kernel
theorem dX6_alike_4 : decode cX6_alike 4 = .ok (.iload_n 1, 1) := by decide +kernel
theorem dX6_alike_5 : decode cX6_alike 5 = .ok (.iaload, 1) := by decide +kernel
theorem dX6_alike_6 : decode cX6_alike 6 = .ok (.aload_n 0, 1) := by decide +kernel
theorem dX6_alike_7 : decode cX6_alike 7 = .ok (.getfield 11, 3) := by decide +kernel
theorem dX6_alike_10 : decode cX6_alike 10 = .ok (.iload_n 2, 1) := by decide +kernel
theorem dX6_alike_11 : decode cX6_alike 11 = .ok (.iaload, 1) := by decide +kernel
theorem dX6_alike_12 : decode cX6_alike 12 = .ok (.ixor, 1) := by decide +kernel
theorem dX6_alike_13 : decode cX6_alike 13 = .ok (.iload_n 3, 1) := by decide +kernel
theorem dX6_alike_14 : decode cX6_alike 14 = .ok (.iand, 1) := by decide +kernel
theorem dX6_alike_15 : decode cX6_alike 15 = .ok (.ifCond .eq 5, 3) := by decide +kernel
theorem dX6_alike_18 : decode cX6_alike 18 = .ok (.iconst 0, 1) := by decide +kernel
theorem dX6_alike_19 : decode cX6_alike 19 = .ok (.ireturn, 1) := by decide +kernel
theorem dX6_alike_20 : decode cX6_alike 20 = .ok (.iconst 0, 1) := by decide +kernel
theorem dX6_alike_21 : decode cX6_alike 21 = .ok (.istore 4, 2) := by decide +kernel
theorem dX6_alike_23 : decode cX6_alike 23 = .ok (.iload 4, 2) := by decide +kernel
theorem dX6_alike_25 : decode cX6_alike 25 = .ok (.iconst 3, 1) := by decide +kernel
theorem dX6_alike_26 : decode cX6_alike 26 = .ok (.if_icmp .ge 36, 3) := by decide +kernel
theorem dX6_alike_29 : decode cX6_alike 29 = .ok (.aload_n 0, 1) := by decide +kernel
theorem dX6_alike_30 : decode cX6_alike 30 = .ok (.getfield 15, 3) := by decide +kernel
theorem dX6_alike_33 : decode cX6_alike 33 = .ok (.iload_n 1, 1) := by decide +kernel
theorem dX6_alike_34 : decode cX6_alike 34 = .ok (.iconst 3, 1) := by decide +kernel
theorem dX6_alike_35 : decode cX6_alike 35 = .ok (.imul, 1) := by decide +kernel
theorem dX6_alike_36 : decode cX6_alike 36 = .ok (.iload 4, 2) := by decide +kernel
theorem dX6_alike_38 : decode cX6_alike 38 = .ok (.iadd, 1) := by decide +kernel
theorem dX6_alike_39 : decode cX6_alike 39 = .ok (.iaload, 1) := by decide +kernel
theorem dX6_alike_40 : decode cX6_alike 40 = .ok (.aload_n 0, 1) := by decide +kernel
theorem dX6_alike_41 : decode cX6_alike 41 = .ok (.getfield 15, 3) := by decide +kernel
theorem dX6_alike_44 : decode cX6_alike 44 = .ok (.iload_n 2, 1) := by decide +kernel
theorem dX6_alike_45 : decode cX6_alike 45 = .ok (.iconst 3, 1) := by decide +kernel
theorem dX6_alike_46 : decode cX6_alike 46 = .ok (.imul, 1) := by decide +kernel
theorem dX6_alike_47 : decode cX6_alike 47 = .ok (.iload 4, 2) := by decide +kernel
theorem dX6_alike_49 : decode cX6_alike 49 = .ok (.iadd, 1) := by decide +kernel
theorem dX6_alike_50 : decode cX6_alike 50 = .ok (.iaload, 1) := by decide +kernel
theorem dX6_alike_51 : decode cX6_alike 51 = .ok (.if_icmp .eq 5, 3) := by decide +kernel
theorem dX6_alike_54 : decode cX6_alike 54 = .ok (.iconst 0, 1) := by decide +kernel
theorem dX6_alike_55 : decode cX6_alike 55 = .ok (.ireturn, 1) := by decide +kernel
theorem dX6_alike_56 : decode cX6_alike 56 = .ok (.iinc 4 1, 3) := by decide +kernel
theorem dX6_alike_59 : decode cX6_alike 59 = .ok (.goto (-36), 3) := by decide +kernel
theorem dX6_alike_62 : decode cX6_alike 62 = .ok (.iconst 1, 1) := by decide +kernel
theorem dX6_alike_63 : decode cX6_alike 63 = .ok (.ireturn, 1) := by decide +kernel
theorem dX6_has_0 : decode cX6_has 0 = .ok (.iload_n 1, 1) := by decide +kernel
theorem dX6_has_1 : decode cX6_has 1 = .ok (.ifCond .lt 22, 3) := by decide +kernel
theorem dX6_has_4 : decode cX6_has 4 = .ok (.iload_n 1, 1) := by decide +kernel
theorem dX6_has_5 : decode cX6_has 5 = .ok (.aload_n 0, 1) := by decide +kernel
theorem dX6_has_6 : decode cX6_has 6 = .ok (.getfield 39, 3) := by decide +kernel
theorem dX6_has_9 : decode cX6_has 9 = .ok (.if_icmp .ge 14, 3) := by decide +kernel
theorem dX6_has_12 : decode cX6_has 12 = .ok (.iload_n 1, 1) := by decide +kernel
theorem dX6_has_13 : decode cX6_has 13 = .ok (.sipush 6001, 3) := by decide +kernel
theorem dX6_has_16 : decode cX6_has 16 = .ok (.if_icmp .ge 7, 3) := by decide +kernel
theorem dX6_has_19 : decode cX6_has 19 = .ok (.iconst 1, 1) := by decide +kernel
theorem dX6_has_20 : decode cX6_has 20 = .ok (.goto 4, 3) := by decide +kernel
theorem dX6_has_23 : decode cX6_has 23 = .ok (.iconst 0, 1) := by decide +kernel
theorem dX6_has_24 : decode cX6_has 24 = .ok (.ireturn, 1) := by decide +kernel
theorem dX6_doneAt_0 : decode cX6_doneAt 0 = .ok (.aload_n 0, 1) := by decide +kernel
theorem dX6_doneAt_1 : decode cX6_doneAt 1 = .ok (.iload_n 1, 1) := by decide +kernel
theorem dX6_doneAt_2 : decode cX6_doneAt 2 = .ok (.invokevirtual 111, 3) := by decide +kernel
theorem dX6_doneAt_5 : decode cX6_doneAt 5 = .ok (.ifCond .eq 12, 3) := by decide +kernel
theorem dX6_doneAt_8 : decode cX6_doneAt 8 = .ok (.aload_n 0, 1) := by decide +kernel
theorem dX6_doneAt_9 : decode cX6_doneAt 9 = .ok (.getfield 11, 3) := by decide +kernel
theorem dX6_doneAt_12 : decode cX6_doneAt 12 = .ok (.iload_n 1, 1) := by decide +kernel
theorem dX6_doneAt_13 : decode cX6_doneAt 13 = .ok (.iaload, 1) := by decide +kernel
theorem dX6_doneAt_14 : decode cX6_doneAt 14 = .ok (.goto 4, 3) := by decide +kernel
theorem dX6_doneAt_17 : decode cX6_doneAt 17 = .ok (.iconst 0, 1) := by decide +kernel
theorem dX6_doneAt_18 : decode cX6_doneAt 18 = .ok (.ireturn, 1) := by decide +kernel
theorem dX6_leadAt_0 : decode cX6_leadAt 0 = .ok (.aload_n 0, 1) := by decide +kernel
theorem dX6_leadAt_1 : decode cX6_leadAt 1 = .ok (.iload_n 1, 1) := by decide +kernel
theorem dX6_leadAt_2 : decode cX6_leadAt 2 = .ok (.invokevirtual 111, 3) := by decide +kernel
theorem dX6_leadAt_5 : decode cX6_leadAt 5 = .ok (.ifCond .eq 25, 3) := by decide +kernel
theorem dX6_leadAt_8 : decode cX6_leadAt 8 = .ok (.iload_n 2, 1) := by decide +kernel
theorem dX6_leadAt_9 : decode cX6_leadAt 9 = .ok (.ifCond .lt 21, 3) := by decide +kernel
theorem dX6_leadAt_12 : decode cX6_leadAt 12 = .ok (.iload_n 2, 1) := by decide +kernel
theorem dX6_leadAt_13 : decode cX6_leadAt 13 = .ok (.iconst 4, 1) := by decide +kernel
theorem dX6_leadAt_14 : decode cX6_leadAt 14 = .ok (.if_icmp .ge 16, 3) := by decide +kernel
theorem dX6_leadAt_17 : decode cX6_leadAt 17 = .ok (.aload_n 0, 1) := by decide +kernel
theorem dX6_leadAt_18 : decode cX6_leadAt 18 = .ok (.getfield 18, 3) := by decide +kernel
theorem dX6_leadAt_21 : decode cX6_leadAt 21 = .ok (.iload_n 1, 1) := by decide +kernel
theorem dX6_leadAt_22 : decode cX6_leadAt 22 = .ok (.iconst 4, 1) := by decide +kernel
theorem dX6_leadAt_23 : decode cX6_leadAt 23 = .ok (.imul, 1) := by decide +kernel
theorem dX6_leadAt_24 : decode cX6_leadAt 24 = .ok (.iload_n 2, 1) := by decide +kernel
theorem dX6_leadAt_25 : decode cX6_leadAt 25 = .ok (.iadd, 1) := by decide +kernel
theorem dX6_leadAt_26 : decode cX6_leadAt 26 = .ok (.iaload, 1) := by decide +kernel
theorem dX6_leadAt_27 : decode cX6_leadAt 27 = .ok (.goto 4, 3) := by decide +kernel
theorem dX6_leadAt_30 : decode cX6_leadAt 30 = .ok (.iconst (-1), 1) := by decide +kernel
theorem dX6_leadAt_31 : decode cX6_leadAt 31 = .ok (.ireturn, 1) := by decide +kernel
theorem dX6_callAt_0 : decode cX6_callAt 0 = .ok (.aload_n 0, 1) := by decide +kernel
theorem dX6_callAt_1 : decode cX6_callAt 1 = .ok (.iload_n 1, 1) := by decide +kernel
theorem dX6_callAt_2 : decode cX6_callAt 2 = .ok (.invokevirtual 111, 3) := by decide +kernel
theorem dX6_callAt_5 : decode cX6_callAt 5 = .ok (.ifCond .eq 20, 3) := by decide +kernel
theorem dX6_callAt_8 : decode cX6_callAt 8 = .ok (.aload_n 0, 1) := by decide +kernel
theorem dX6_callAt_9 : decode cX6_callAt 9 = .ok (.getfield 46, 3) := by decide +kernel
theorem dX6_callAt_12 : decode cX6_callAt 12 = .ok (.iload_n 2, 1) := by decide +kernel
theorem dX6_callAt_13 : decode cX6_callAt 13 = .ok (.aload_n 0, 1) := by decide +kernel
theorem dX6_callAt_14 : decode cX6_callAt 14 = .ok (.getfield 11, 3) := by decide +kernel
theorem dX6_callAt_17 : decode cX6_callAt 17 = .ok (.iload_n 1, 1) := by decide +kernel
theorem dX6_callAt_18 : decode cX6_callAt 18 = .ok (.iaload, 1) := by decide +kernel
theorem dX6_callAt_19 : decode cX6_callAt 19 = .ok (.invokevirtual 56, 3) := by decide +kernel
theorem dX6_callAt_22 : decode cX6_callAt 22 = .ok (.goto 4, 3) := by decide +kernel
theorem dX6_callAt_25 : decode cX6_callAt 25 = .ok (.iconst (-1), 1) := by decide +kernel
theorem dX6_callAt_26 : decode cX6_callAt 26 = .ok (.ireturn, 1) := by decide +kernel
theorem dX6_answerAt_0 : decode cX6_answerAt 0 = .ok (.aload_n 0, 1) := by decide +kernel
theorem dX6_answerAt_1 : decode cX6_answerAt 1 = .ok (.getfield 31, 3) := by decide +kernel
theorem dX6_answerAt_4 : decode cX6_answerAt 4 = .ok (.iload_n 2, 1) := by decide +kernel
theorem dX6_answerAt_5 : decode cX6_answerAt 5 = .ok (.invokevirtual 93, 3) := by decide +kernel
theorem dX6_answerAt_8 : decode cX6_answerAt 8 = .ok (.istore_n 3, 1) := by decide +kernel
theorem dX6_answerAt_9 : decode cX6_answerAt 9 = .ok (.aload_n 0, 1) := by decide +kernel
theorem dX6_answerAt_10 : decode cX6_answerAt 10 = .ok (.iload_n 1, 1) := by decide +kernel
theorem dX6_answerAt_11 : decode cX6_answerAt 11 = .ok (.invokevirtual 111, 3) := by decide +kernel
theorem dX6_answerAt_14 : decode cX6_answerAt 14 = .ok (.ifCond .eq 12, 3) := by decide +kernel
theorem dX6_answerAt_17 : decode cX6_answerAt 17 = .ok (.iload_n 3, 1) := by decide +kernel
theorem dX6_answerAt_18 : decode cX6_answerAt 18 = .ok (.ifCond .lt 8, 3) := by decide +kernel
theorem dX6_answerAt_21 : decode cX6_answerAt 21 = .ok (.iload_n 3, 1) := by decide +kernel
theorem dX6_answerAt_22 : decode cX6_answerAt 22 = .ok (.iconst 3, 1) := by decide +kernel
theorem dX6_answerAt_23 : decode cX6_answerAt 23 = .ok (.if_icmp .lt 5, 3) := by decide +kernel
theorem dX6_answerAt_26 : decode cX6_answerAt 26 = .ok (.iconst (-1), 1) := by decide +kernel
theorem dX6_answerAt_27 : decode cX6_answerAt 27 = .ok (.ireturn, 1) := by decide +kernel
theorem dX6_answerAt_28 : decode cX6_answerAt 28 = .ok (.aload_n 0, 1) := by decide +kernel
theorem dX6_answerAt_29 : decode cX6_answerAt 29 = .ok (.getfield 42, 3) := by decide +kernel
theorem dX6_answerAt_32 : decode cX6_answerAt 32 = .ok (.iload_n 3, 1) := by decide +kernel
theorem dX6_answerAt_33 : decode cX6_answerAt 33 = .ok (.invokevirtual 72, 3) := by decide +kernel
theorem dX6_answerAt_36 : decode cX6_answerAt 36 = .ok (.aload_n 0, 1) := by decide +kernel
theorem dX6_answerAt_37 : decode cX6_answerAt 37 = .ok (.getfield 15, 3) := by decide +kernel
theorem dX6_answerAt_40 : decode cX6_answerAt 40 = .ok (.iload_n 1, 1) := by decide +kernel
theorem dX6_answerAt_41 : decode cX6_answerAt 41 = .ok (.iconst 3, 1) := by decide +kernel
theorem dX6_answerAt_42 : decode cX6_answerAt 42 = .ok (.imul, 1) := by decide +kernel
theorem dX6_answerAt_43 : decode cX6_answerAt 43 = .ok (.iload_n 3, 1) := by decide +kernel
theorem dX6_answerAt_44 : decode cX6_answerAt 44 = .ok (.iadd, 1) := by decide +kernel
theorem dX6_answerAt_45 : decode cX6_answerAt 45 = .ok (.iaload, 1) := by decide +kernel
theorem dX6_answerAt_46 : decode cX6_answerAt 46 = .ok (.aload_n 0, 1) := by decide +kernel
theorem dX6_answerAt_47 : decode cX6_answerAt 47 = .ok (.getfield 31, 3) := by decide +kernel
theorem dX6_answerAt_50 : decode cX6_answerAt 50 = .ok (.iload_n 2, 1) := by decide +kernel
theorem dX6_answerAt_51 : decode cX6_answerAt 51 = .ok (.invokevirtual 96, 3) := by decide +kernel
theorem dX6_answerAt_54 : decode cX6_answerAt 54 = .ok (.aload_n 0, 1) := by decide +kernel
theorem dX6_answerAt_55 : decode cX6_answerAt 55 = .ok (.getfield 31, 3) := by decide +kernel
theorem dX6_answerAt_58 : decode cX6_answerAt 58 = .ok (.iload_n 2, 1) := by decide +kernel
theorem dX6_answerAt_59 : decode cX6_answerAt 59 = .ok (.invokevirtual 99, 3) := by decide +kernel
theorem dX6_answerAt_62 : decode cX6_answerAt 62 = .ok (.invokestatic 115, 3) := by decide +kernel
theorem dX6_answerAt_65 : decode cX6_answerAt 65 = .ok (.ireturn, 1) := by decide +kernel
theorem dX6_isOtherwise_0 : decode cX6_isOtherwise 0 = .ok (.iload_n 3, 1) := by decide +kernel
theorem dX6_isOtherwise_1 : decode cX6_isOtherwise 1 = .ok (.iload_n 2, 1) := by decide +kernel
theorem dX6_isOtherwise_2 : decode cX6_isOtherwise 2 = .ok (.ishr, 1) := by decide +kernel
theorem dX6_isOtherwise_3 : decode cX6_isOtherwise 3 = .ok (.iconst 1, 1) := by decide +kernel
theorem dX6_isOtherwise_4 : decode cX6_isOtherwise 4 = .ok (.iand, 1) := by decide +kernel
theorem dX6_isOtherwise_5 : decode cX6_isOtherwise 5 = .ok (.ifCond .ne 5, 3) := by decide +kernel
theorem dX6_isOtherwise_8 : decode cX6_isOtherwise 8 = .ok (.iconst 0, 1) := by decide +kernel
theorem dX6_isOtherwise_9 : decode cX6_isOtherwise 9 = .ok (.ireturn, 1) := by decide +kernel
theorem dX6_isOtherwise_10 : decode cX6_isOtherwise 10 = .ok (.aload_n 0, 1) := by decide +kernel
theorem dX6_isOtherwise_11 : decode cX6_isOtherwise 11 = .ok (.getfield 31, 3) := by decide +kernel
theorem dX6_isOtherwise_14 : decode cX6_isOtherwise 14 = .ok (.iload_n 2, 1) := by decide +kernel
theorem dX6_isOtherwise_15 : decode cX6_isOtherwise 15 = .ok (.invokevirtual 93, 3) := by decide +kernel
theorem dX6_isOtherwise_18 : decode cX6_isOtherwise 18 = .ok (.istore 4, 2) := by decide +kernel
theorem dX6_isOtherwise_20 : decode cX6_isOtherwise 20 = .ok (.iload 4, 2) := by decide +kernel
theorem dX6_isOtherwise_22 : decode cX6_isOtherwise 22 = .ok (.ifCond .lt 23, 3) := by decide +kernel
theorem dX6_isOtherwise_25 : decode cX6_isOtherwise 25 = .ok (.iload 4, 2) := by decide +kernel
theorem dX6_isOtherwise_27 : decode cX6_isOtherwise 27 = .ok (.iconst 3, 1) := by decide +kernel
theorem dX6_isOtherwise_28 : decode cX6_isOtherwise 28 = .ok (.if_icmp .ge 17, 3) := by decide +kernel
theorem dX6_isOtherwise_31 : decode cX6_isOtherwise 31 = .ok (.aload_n 0, 1) := by decide +kernel
theorem dX6_isOtherwise_32 : decode cX6_isOtherwise 32 = .ok (.getfield 15, 3) := by decide +kernel
theorem dX6_isOtherwise_35 : decode cX6_isOtherwise 35 = .ok (.iload_n 1, 1) := by decide +kernel
theorem dX6_isOtherwise_36 : decode cX6_isOtherwise 36 = .ok (.iconst 3, 1) := by decide +kernel
theorem dX6_isOtherwise_37 : decode cX6_isOtherwise 37 = .ok (.imul, 1) := by decide +kernel
theorem dX6_isOtherwise_38 : decode cX6_isOtherwise 38 = .ok (.iload 4, 2) := by decide +kernel
theorem dX6_isOtherwise_40 : decode cX6_isOtherwise 40 = .ok (.iadd, 1) := by decide +kernel
theorem dX6_isOtherwise_41 : decode cX6_isOtherwise 41 = .ok (.iaload, 1) := by decide +kernel
theorem dX6_isOtherwise_42 : decode cX6_isOtherwise 42 = .ok (.goto 4, 3) := by decide +kernel
theorem dX6_isOtherwise_45 : decode cX6_isOtherwise 45 = .ok (.iconst 0, 1) := by decide +kernel
theorem dX6_isOtherwise_46 : decode cX6_isOtherwise 46 = .ok (.istore 5, 2) := by decide +kernel
theorem dX6_isOtherwise_48 : decode cX6_isOtherwise 48 = .ok (.aload_n 0, 1) := by decide +kernel
theorem dX6_isOtherwise_49 : decode cX6_isOtherwise 49 = .ok (.getfield 42, 3) := by decide +kernel
theorem dX6_isOtherwise_52 : decode cX6_isOtherwise 52 = .ok (.iload 4, 2) := by decide +kernel
theorem dX6_isOtherwise_54 : decode cX6_isOtherwise 54 = .ok (.invokevirtual 72, 3) := by decide +kernel
theorem dX6_isOtherwise_57 : decode cX6_isOtherwise 57 = .ok (.iload 5, 2) := by decide +kernel
theorem dX6_isOtherwise_59 : decode cX6_isOtherwise 59 = .ok (.aload_n 0, 1) := by decide +kernel
theorem dX6_isOtherwise_60 : decode cX6_isOtherwise 60 = .ok (.getfield 31, 3) := by decide +kernel
theorem dX6_isOtherwise_63 : decode cX6_isOtherwise 63 = .ok (.iload_n 2, 1) := by decide +kernel
theorem dX6_isOtherwise_64 : decode cX6_isOtherwise 64 = .ok (.invokevirtual 96, 3) := by decide +kernel
theorem dX6_isOtherwise_67 : decode cX6_isOtherwise 67 = .ok (.aload_n 0, 1) := by decide +kernel
theorem dX6_isOtherwise_68 : decode cX6_isOtherwise 68 = .ok (.getfield 31, 3) := by decide +kernel
theorem dX6_isOtherwise_71 : decode cX6_isOtherwise 71 = .ok (.iload_n 2, 1) := by decide +kernel
theorem dX6_isOtherwise_72 : decode cX6_isOtherwise 72 = .ok (.invokevirtual 99, 3) := by decide +kernel
theorem dX6_isOtherwise_75 : decode cX6_isOtherwise 75 = .ok (.invokestatic 115, 3) := by decide +kernel
theorem dX6_isOtherwise_78 : decode cX6_isOtherwise 78 = .ok (.aload_n 0, 1) := by decide +kernel
theorem dX6_isOtherwise_79 : decode cX6_isOtherwise 79 = .ok (.getfield 31, 3) := by decide +kernel
theorem dX6_isOtherwise_82 : decode cX6_isOtherwise 82 = .ok (.iload_n 2, 1) := by decide +kernel
theorem dX6_isOtherwise_83 : decode cX6_isOtherwise 83 = .ok (.invokevirtual 118, 3) := by decide +kernel
theorem dX6_isOtherwise_86 : decode cX6_isOtherwise 86 = .ok (.if_icmp .eq 7, 3) := by decide +kernel
theorem dX6_isOtherwise_89 : decode cX6_isOtherwise 89 = .ok (.iconst 1, 1) := by decide +kernel
theorem dX6_isOtherwise_90 : decode cX6_isOtherwise 90 = .ok (.goto 4, 3) := by decide +kernel
theorem dX6_isOtherwise_93 : decode cX6_isOtherwise 93 = .ok (.iconst 0, 1) := by decide +kernel
theorem dX6_isOtherwise_94 : decode cX6_isOtherwise 94 = .ok (.ireturn, 1) := by decide +kernel
theorem dX6_countWays_0 : decode cX6_countWays 0 = .ok (.aload_n 0, 1) := by decide +kernel
theorem dX6_countWays_1 : decode cX6_countWays 1 = .ok (.getfield 39, 3) := by decide +kernel
theorem dX6_countWays_4 : decode cX6_countWays 4 = .ok (.iconst 1, 1) := by decide +kernel
theorem dX6_countWays_5 : decode cX6_countWays 5 = .ok (.isub, 1) := by decide +kernel
theorem dX6_countWays_6 : decode cX6_countWays 6 = .ok (.istore_n 2, 1) := by decide +kernel
theorem dX6_countWays_7 : decode cX6_countWays 7 = .ok (.iload_n 2, 1) := by decide +kernel
theorem dX6_countWays_8 : decode cX6_countWays 8 = .ok (.ifCond .lt 98, 3) := by decide +kernel
theorem dX6_countWays_11 : decode cX6_countWays 11 = .ok (.iload_n 1, 1) := by decide +kernel
theorem dX6_countWays_12 : decode cX6_countWays 12 = .ok (.aload_n 0, 1) := by decide +kernel
theorem dX6_countWays_13 : decode cX6_countWays 13 = .ok (.getfield 11, 3) := by decide +kernel
theorem dX6_countWays_16 : decode cX6_countWays 16 = .ok (.iload_n 2, 1) := by decide +kernel
theorem dX6_countWays_17 : decode cX6_countWays 17 = .ok (.iaload, 1) := by decide +kernel
theorem dX6_countWays_18 : decode cX6_countWays 18 = .ok (.iconst (-1), 1) := by decide +kernel
theorem dX6_countWays_19 : decode cX6_countWays 19 = .ok (.ixor, 1) := by decide +kernel
theorem dX6_countWays_20 : decode cX6_countWays 20 = .ok (.iand, 1) := by decide +kernel
theorem dX6_countWays_21 : decode cX6_countWays 21 = .ok (.ifCond .ne 7, 3) := by decide +kernel
theorem dX6_countWays_24 : decode cX6_countWays 24 = .ok (.lconst 1, 1) := by decide +kernel
theorem dX6_countWays_25 : decode cX6_countWays 25 = .ok (.goto 4, 3) := by decide +kernel
theorem dX6_countWays_28 : decode cX6_countWays 28 = .ok (.lconst 0, 1) := by decide +kernel
theorem dX6_countWays_29 : decode cX6_countWays 29 = .ok (.lstore_n 3, 1) := by decide +kernel
theorem dX6_countWays_30 : decode cX6_countWays 30 = .ok (.iconst 0, 1) := by decide +kernel
theorem dX6_countWays_31 : decode cX6_countWays 31 = .ok (.istore 5, 2) := by decide +kernel
theorem dX6_countWays_33 : decode cX6_countWays 33 = .ok (.iload 5, 2) := by decide +kernel
theorem dX6_countWays_35 : decode cX6_countWays 35 = .ok (.iconst 4, 1) := by decide +kernel
theorem dX6_countWays_36 : decode cX6_countWays 36 = .ok (.if_icmp .ge 51, 3) := by decide +kernel
theorem dX6_countWays_39 : decode cX6_countWays 39 = .ok (.aload_n 0, 1) := by decide +kernel
theorem dX6_countWays_40 : decode cX6_countWays 40 = .ok (.getfield 18, 3) := by decide +kernel
theorem dX6_countWays_43 : decode cX6_countWays 43 = .ok (.iload_n 2, 1) := by decide +kernel
theorem dX6_countWays_44 : decode cX6_countWays 44 = .ok (.iconst 4, 1) := by decide +kernel
theorem dX6_countWays_45 : decode cX6_countWays 45 = .ok (.imul, 1) := by decide +kernel
theorem dX6_countWays_46 : decode cX6_countWays 46 = .ok (.iload 5, 2) := by decide +kernel
theorem dX6_countWays_48 : decode cX6_countWays 48 = .ok (.iadd, 1) := by decide +kernel
theorem dX6_countWays_49 : decode cX6_countWays 49 = .ok (.iaload, 1) := by decide +kernel
theorem dX6_countWays_50 : decode cX6_countWays 50 = .ok (.istore 6, 2) := by decide +kernel
theorem dX6_countWays_52 : decode cX6_countWays 52 = .ok (.lload_n 3, 1) := by decide +kernel
theorem dX6_countWays_53 : decode cX6_countWays 53 = .ok (.iload 6, 2) := by decide +kernel
theorem dX6_countWays_55 : decode cX6_countWays 55 = .ok (.iload_n 2, 1) := by decide +kernel
theorem dX6_countWays_56 : decode cX6_countWays 56 = .ok (.if_icmp .le 22, 3) := by decide +kernel
theorem dX6_countWays_59 : decode cX6_countWays 59 = .ok (.iload 6, 2) := by decide +kernel
theorem dX6_countWays_61 : decode cX6_countWays 61 = .ok (.aload_n 0, 1) := by decide +kernel
theorem dX6_countWays_62 : decode cX6_countWays 62 = .ok (.getfield 39, 3) := by decide +kernel
theorem dX6_countWays_65 : decode cX6_countWays 65 = .ok (.if_icmp .ge 13, 3) := by decide +kernel
theorem dX6_countWays_68 : decode cX6_countWays 68 = .ok (.aload_n 0, 1) := by decide +kernel
theorem dX6_countWays_69 : decode cX6_countWays 69 = .ok (.getfield 21, 3) := by decide +kernel
theorem dX6_countWays_72 : decode cX6_countWays 72 = .ok (.iload 6, 2) := by decide +kernel
theorem dX6_countWays_74 : decode cX6_countWays 74 = .ok (.laload, 1) := by decide +kernel
theorem dX6_countWays_75 : decode cX6_countWays 75 = .ok (.goto 4, 3) := by decide +kernel
theorem dX6_countWays_78 : decode cX6_countWays 78 = .ok (.lconst 0, 1) := by decide +kernel
theorem dX6_countWays_79 : decode cX6_countWays 79 = .ok (.ladd, 1) := by decide +kernel
theorem dX6_countWays_80 : decode cX6_countWays 80 = .ok (.lstore_n 3, 1) := by decide +kernel
theorem dX6_countWays_81 : decode cX6_countWays 81 = .ok (.iinc 5 1, 3) := by decide +kernel
theorem dX6_countWays_84 : decode cX6_countWays 84 = .ok (.goto (-51), 3) := by decide +kernel
theorem dX6_countWays_87 : decode cX6_countWays 87 = .ok (.aload_n 0, 1) := by decide +kernel
theorem dX6_countWays_88 : decode cX6_countWays 88 = .ok (.getfield 21, 3) := by decide +kernel
theorem dX6_countWays_91 : decode cX6_countWays 91 = .ok (.iload_n 2, 1) := by decide +kernel
theorem dX6_countWays_92 : decode cX6_countWays 92 = .ok (.lload_n 3, 1) := by decide +kernel
theorem dX6_countWays_93 : decode cX6_countWays 93 = .ok (.ldc2_w 121, 3) := by decide +kernel
theorem dX6_countWays_96 : decode cX6_countWays 96 = .ok (.invokestatic 123, 3) := by decide +kernel
theorem dX6_countWays_99 : decode cX6_countWays 99 = .ok (.lastore, 1) := by decide +kernel
theorem dX6_countWays_100 : decode cX6_countWays 100 = .ok (.iinc 2 (-1), 3) := by decide +kernel
theorem dX6_countWays_103 : decode cX6_countWays 103 = .ok (.goto (-96), 3) := by decide +kernel
theorem dX6_countWays_106 : decode cX6_countWays 106 = .ok (.aload_n 0, 1) := by decide +kernel
theorem dX6_countWays_107 : decode cX6_countWays 107 = .ok (.getfield 21, 3) := by decide +kernel
theorem dX6_countWays_110 : decode cX6_countWays 110 = .ok (.iconst 0, 1) := by decide +kernel
theorem dX6_countWays_111 : decode cX6_countWays 111 = .ok (.laload, 1) := by decide +kernel
theorem dX6_countWays_112 : decode cX6_countWays 112 = .ok (.lreturn, 1) := by decide +kernel
theorem dX6_times_0 : decode cX6_times 0 = .ok (.lload_n 0, 1) := by decide +kernel
theorem dX6_times_1 : decode cX6_times 1 = .ok (.lconst 0, 1) := by decide +kernel
theorem dX6_times_2 : decode cX6_times 2 = .ok (.lcmp, 1) := by decide +kernel
theorem dX6_times_3 : decode cX6_times 3 = .ok (.ifCond .le 9, 3) := by decide +kernel
theorem dX6_times_6 : decode cX6_times 6 = .ok (.lload_n 2, 1) := by decide +kernel
theorem dX6_times_7 : decode cX6_times 7 = .ok (.lconst 0, 1) := by decide +kernel
theorem dX6_times_8 : decode cX6_times 8 = .ok (.lcmp, 1) := by decide +kernel
theorem dX6_times_9 : decode cX6_times 9 = .ok (.ifCond .gt 5, 3) := by decide +kernel
theorem dX6_times_12 : decode cX6_times 12 = .ok (.lconst 0, 1) := by decide +kernel
theorem dX6_times_13 : decode cX6_times 13 = .ok (.lreturn, 1) := by decide +kernel
theorem dX6_times_14 : decode cX6_times 14 = .ok (.lload_n 0, 1) := by decide +kernel
theorem dX6_times_15 : decode cX6_times 15 = .ok (.ldc2_w 121, 3) := by decide +kernel
theorem dX6_times_18 : decode cX6_times 18 = .ok (.lload_n 2, 1) := by decide +kernel
theorem dX6_times_19 : decode cX6_times 19 = .ok (.ldiv, 1) := by decide +kernel
theorem dX6_times_20 : decode cX6_times 20 = .ok (.lcmp, 1) := by decide +kernel
theorem dX6_times_21 : decode cX6_times 21 = .ok (.ifCond .le 9, 3) := by decide +kernel
theorem dX6_times_24 : decode cX6_times 24 = .ok (.ldc2_w 121, 3) := by decide +kernel
theorem dX6_times_27 : decode cX6_times 27 = .ok (.goto 6, 3) := by decide +kernel
theorem dX6_times_30 : decode cX6_times 30 = .ok (.lload_n 0, 1) := by decide +kernel
theorem dX6_times_31 : decode cX6_times 31 = .ok (.lload_n 2, 1) := by decide +kernel
theorem dX6_times_32 : decode cX6_times 32 = .ok (.lmul, 1) := by decide +kernel
theorem dX6_times_33 : decode cX6_times 33 = .ok (.lreturn, 1) := by decide +kernel
theorem dX6_leadsToEnd_0 : decode cX6_leadsToEnd 0 = .ok (.aload_n 0, 1) := by decide +kernel
theorem dX6_leadsToEnd_1 : decode cX6_leadsToEnd 1 = .ok (.iload_n 1, 1) := by decide +kernel
theorem dX6_leadsToEnd_2 : decode cX6_leadsToEnd 2 = .ok (.invokevirtual 111, 3) := by decide +kernel
theorem dX6_leadsToEnd_5 : decode cX6_leadsToEnd 5 = .ok (.ifCond .eq 18, 3) := by decide +kernel
theorem dX6_leadsToEnd_8 : decode cX6_leadsToEnd 8 = .ok (.aload_n 0, 1) := by decide +kernel
theorem dX6_leadsToEnd_9 : decode cX6_leadsToEnd 9 = .ok (.getfield 21, 3) := by decide +kernel
theorem dX6_leadsToEnd_12 : decode cX6_leadsToEnd 12 = .ok (.iload_n 1, 1) := by decide +kernel
theorem dX6_leadsToEnd_13 : decode cX6_leadsToEnd 13 = .ok (.laload, 1) := by decide +kernel
theorem dX6_leadsToEnd_14 : decode cX6_leadsToEnd 14 = .ok (.lconst 0, 1) := by decide +kernel
theorem dX6_leadsToEnd_15 : decode cX6_leadsToEnd 15 = .ok (.lcmp, 1) := by decide +kernel
theorem dX6_leadsToEnd_16 : decode cX6_leadsToEnd 16 = .ok (.ifCond .le 7, 3) := by decide +kernel
theorem dX6_leadsToEnd_19 : decode cX6_leadsToEnd 19 = .ok (.iconst 1, 1) := by decide +kernel
theorem dX6_leadsToEnd_20 : decode cX6_leadsToEnd 20 = .ok (.goto 4, 3) := by decide +kernel
theorem dX6_leadsToEnd_23 : decode cX6_leadsToEnd 23 = .ok (.iconst 0, 1) := by decide +kernel
theorem dX6_leadsToEnd_24 : decode cX6_leadsToEnd 24 = .ok (.ireturn, 1) := by decide +kernel
theorem dX6_countEnds_0 : decode cX6_countEnds 0 = .ok (.aload_n 0, 1) := by decide +kernel
theorem dX6_countEnds_1 : decode cX6_countEnds 1 = .ok (.invokevirtual 50, 3) := by decide +kernel
theorem dX6_countEnds_4 : decode cX6_countEnds 4 = .ok (.iconst 0, 1) := by decide +kernel
theorem dX6_countEnds_5 : decode cX6_countEnds 5 = .ok (.istore_n 1, 1) := by decide +kernel
theorem dX6_countEnds_6 : decode cX6_countEnds 6 = .ok (.iconst 0, 1) := by decide +kernel
theorem dX6_countEnds_7 : decode cX6_countEnds 7 = .ok (.istore_n 2, 1) := by decide +kernel
theorem dX6_countEnds_8 : decode cX6_countEnds 8 = .ok (.iload_n 2, 1) := by decide +kernel
theorem dX6_countEnds_9 : decode cX6_countEnds 9 = .ok (.aload_n 0, 1) := by decide +kernel
theorem dX6_countEnds_10 : decode cX6_countEnds 10 = .ok (.getfield 39, 3) := by decide +kernel
theorem dX6_countEnds_13 : decode cX6_countEnds 13 = .ok (.if_icmp .ge 38, 3) := by decide +kernel
theorem dX6_countEnds_16 : decode cX6_countEnds 16 = .ok (.aload_n 0, 1) := by decide +kernel
theorem dX6_countEnds_17 : decode cX6_countEnds 17 = .ok (.getfield 46, 3) := by decide +kernel
theorem dX6_countEnds_20 : decode cX6_countEnds 20 = .ok (.aload_n 0, 1) := by decide +kernel
theorem dX6_countEnds_21 : decode cX6_countEnds 21 = .ok (.getfield 11, 3) := by decide +kernel
theorem dX6_countEnds_24 : decode cX6_countEnds 24 = .ok (.iload_n 2, 1) := by decide +kernel
theorem dX6_countEnds_25 : decode cX6_countEnds 25 = .ok (.iaload, 1) := by decide +kernel
theorem dX6_countEnds_26 : decode cX6_countEnds 26 = .ok (.invokevirtual 129, 3) := by decide +kernel
theorem dX6_countEnds_29 : decode cX6_countEnds 29 = .ok (.ifCond .eq 16, 3) := by decide +kernel
theorem dX6_countEnds_32 : decode cX6_countEnds 32 = .ok (.aload_n 0, 1) := by decide +kernel
theorem dX6_countEnds_33 : decode cX6_countEnds 33 = .ok (.iload_n 2, 1) := by decide +kernel
theorem dX6_countEnds_34 : decode cX6_countEnds 34 = .ok (.iconst 0, 1) := by decide +kernel
theorem dX6_countEnds_35 : decode cX6_countEnds 35 = .ok (.invokevirtual 83, 3) := by decide +kernel
theorem dX6_countEnds_38 : decode cX6_countEnds 38 = .ok (.iload_n 2, 1) := by decide +kernel
theorem dX6_countEnds_39 : decode cX6_countEnds 39 = .ok (.if_icmp .ne 6, 3) := by decide +kernel
theorem dX6_countEnds_42 : decode cX6_countEnds 42 = .ok (.iinc 1 1, 3) := by decide +kernel
theorem dX6_countEnds_45 : decode cX6_countEnds 45 = .ok (.iinc 2 1, 3) := by decide +kernel
theorem dX6_countEnds_48 : decode cX6_countEnds 48 = .ok (.goto (-40), 3) := by decide +kernel
theorem dX6_countEnds_51 : decode cX6_countEnds 51 = .ok (.iload_n 1, 1) := by decide +kernel
theorem dX6_countEnds_52 : decode cX6_countEnds 52 = .ok (.ireturn, 1) := by decide +kernel
theorem dX6_setsThatCan_0 : decode cX6_setsThatCan 0 = .ok (.aload_n 0, 1) := by decide +kernel
theorem dX6_setsThatCan_1 : decode cX6_setsThatCan 1 = .ok (.getfield 21, 3) := by decide +kernel
theorem dX6_setsThatCan_4 : decode cX6_setsThatCan 4 = .ok (.lconst 0, 1) := by decide +kernel
theorem dX6_setsThatCan_5 : decode cX6_setsThatCan 5 = .ok (.invokestatic 132, 3) := by decide +kernel
theorem dX6_setsThatCan_8 : decode cX6_setsThatCan 8 = .ok (.aload_n 0, 1) := by decide +kernel
theorem dX6_setsThatCan_9 : decode cX6_setsThatCan 9 = .ok (.getfield 21, 3) := by decide +kernel
theorem dX6_setsThatCan_12 : decode cX6_setsThatCan 12 = .ok (.iconst 0, 1) := by decide +kernel
theorem dX6_setsThatCan_13 : decode cX6_setsThatCan 13 = .ok (.ldc2_w 135, 3) := by decide +kernel
theorem dX6_setsThatCan_16 : decode cX6_setsThatCan 16 = .ok (.lastore, 1) := by decide +kernel
theorem dX6_setsThatCan_17 : decode cX6_setsThatCan 17 = .ok (.lconst 0, 1) := by decide +kernel
theorem dX6_setsThatCan_18 : decode cX6_setsThatCan 18 = .ok (.lstore_n 3, 1) := by decide +kernel
theorem dX6_setsThatCan_19 : decode cX6_setsThatCan 19 = .ok (.iconst 0, 1) := by decide +kernel
theorem dX6_setsThatCan_20 : decode cX6_setsThatCan 20 = .ok (.istore 5, 2) := by decide +kernel
theorem dX6_setsThatCan_22 : decode cX6_setsThatCan 22 = .ok (.iload 5, 2) := by decide +kernel
theorem dX6_setsThatCan_24 : decode cX6_setsThatCan 24 = .ok (.aload_n 0, 1) := by decide +kernel
theorem dX6_setsThatCan_25 : decode cX6_setsThatCan 25 = .ok (.getfield 39, 3) := by decide +kernel
theorem dX6_setsThatCan_28 : decode cX6_setsThatCan 28 = .ok (.if_icmp .ge 157, 3) := by decide +kernel
theorem dX6_setsThatCan_31 : decode cX6_setsThatCan 31 = .ok (.aload_n 0, 1) := by decide +kernel
theorem dX6_setsThatCan_32 : decode cX6_setsThatCan 32 = .ok (.getfield 46, 3) := by decide +kernel
theorem dX6_setsThatCan_35 : decode cX6_setsThatCan 35 = .ok (.aload_n 0, 1) := by decide +kernel
theorem dX6_setsThatCan_36 : decode cX6_setsThatCan 36 = .ok (.getfield 11, 3) := by decide +kernel
theorem dX6_setsThatCan_39 : decode cX6_setsThatCan 39 = .ok (.iload 5, 2) := by decide +kernel
theorem dX6_setsThatCan_41 : decode cX6_setsThatCan 41 = .ok (.iaload, 1) := by decide +kernel
theorem dX6_setsThatCan_42 : decode cX6_setsThatCan 42 = .ok (.invokevirtual 129, 3) := by decide +kernel
theorem dX6_setsThatCan_45 : decode cX6_setsThatCan 45 = .ok (.ifCond .eq 13, 3) := by decide +kernel
theorem dX6_setsThatCan_48 : decode cX6_setsThatCan 48 = .ok (.lload_n 3, 1) := by decide +kernel
theorem dX6_setsThatCan_49 : decode cX6_setsThatCan 49 = .ok (.aload_n 0, 1) := by decide +kernel
theorem dX6_setsThatCan_50 : decode cX6_setsThatCan 50 = .ok (.getfield 21, 3) := by decide +kernel
theorem dX6_setsThatCan_53 : decode cX6_setsThatCan 53 = .ok (.iload 5, 2) := by decide +kernel
theorem dX6_setsThatCan_55 : decode cX6_setsThatCan 55 = .ok (.laload, 1) := by decide +kernel
theorem dX6_setsThatCan_56 : decode cX6_setsThatCan 56 = .ok (.lor, 1) := by decide +kernel
theorem dX6_setsThatCan_57 : decode cX6_setsThatCan 57 = .ok (.lstore_n 3, 1) := by decide +kernel
theorem dX6_setsThatCan_58 : decode cX6_setsThatCan 58 = .ok (.iconst 0, 1) := by decide +kernel
theorem dX6_setsThatCan_59 : decode cX6_setsThatCan 59 = .ok (.istore 6, 2) := by decide +kernel
theorem dX6_setsThatCan_61 : decode cX6_setsThatCan 61 = .ok (.iload 6, 2) := by decide +kernel
theorem dX6_setsThatCan_63 : decode cX6_setsThatCan 63 = .ok (.iconst 4, 1) := by decide +kernel
theorem dX6_setsThatCan_64 : decode cX6_setsThatCan 64 = .ok (.if_icmp .ge 115, 3) := by decide +kernel
theorem dX6_setsThatCan_67 : decode cX6_setsThatCan 67 = .ok (.aload_n 0, 1) := by decide +kernel
theorem dX6_setsThatCan_68 : decode cX6_setsThatCan 68 = .ok (.getfield 18, 3) := by decide +kernel
theorem dX6_setsThatCan_71 : decode cX6_setsThatCan 71 = .ok (.iload 5, 2) := by decide +kernel
theorem dX6_setsThatCan_73 : decode cX6_setsThatCan 73 = .ok (.iconst 4, 1) := by decide +kernel
theorem dX6_setsThatCan_74 : decode cX6_setsThatCan 74 = .ok (.imul, 1) := by decide +kernel
theorem dX6_setsThatCan_75 : decode cX6_setsThatCan 75 = .ok (.iload 6, 2) := by decide +kernel
theorem dX6_setsThatCan_77 : decode cX6_setsThatCan 77 = .ok (.iadd, 1) := by decide +kernel
theorem dX6_setsThatCan_78 : decode cX6_setsThatCan 78 = .ok (.iaload, 1) := by decide +kernel
theorem dX6_setsThatCan_79 : decode cX6_setsThatCan 79 = .ok (.istore 7, 2) := by decide +kernel
theorem dX6_setsThatCan_81 : decode cX6_setsThatCan 81 = .ok (.aload_n 0, 1) := by decide +kernel
theorem dX6_setsThatCan_82 : decode cX6_setsThatCan 82 = .ok (.getfield 46, 3) := by decide +kernel
theorem dX6_setsThatCan_85 : decode cX6_setsThatCan 85 = .ok (.iload 6, 2) := by decide +kernel
theorem dX6_setsThatCan_87 : decode cX6_setsThatCan 87 = .ok (.aload_n 0, 1) := by decide +kernel
theorem dX6_setsThatCan_88 : decode cX6_setsThatCan 88 = .ok (.getfield 11, 3) := by decide +kernel
theorem dX6_setsThatCan_91 : decode cX6_setsThatCan 91 = .ok (.iload 5, 2) := by decide +kernel
theorem dX6_setsThatCan_93 : decode cX6_setsThatCan 93 = .ok (.iaload, 1) := by decide +kernel
theorem dX6_setsThatCan_94 : decode cX6_setsThatCan 94 = .ok (.invokevirtual 56, 3) := by decide +kernel
theorem dX6_setsThatCan_97 : decode cX6_setsThatCan 97 = .ok (.istore 8, 2) := by decide +kernel
theorem dX6_setsThatCan_99 : decode cX6_setsThatCan 99 = .ok (.iload 7, 2) := by decide +kernel
theorem dX6_setsThatCan_101 : decode cX6_setsThatCan 101 = .ok (.ifCond .lt 72, 3) := by decide +kernel
theorem dX6_setsThatCan_104 : decode cX6_setsThatCan 104 = .ok (.iload 7, 2) := by decide +kernel
theorem dX6_setsThatCan_106 : decode cX6_setsThatCan 106 = .ok (.aload_n 0, 1) := by decide +kernel
theorem dX6_setsThatCan_107 : decode cX6_setsThatCan 107 = .ok (.getfield 39, 3) := by decide +kernel
theorem dX6_setsThatCan_110 : decode cX6_setsThatCan 110 = .ok (.if_icmp .ge 63, 3) := by decide +kernel
theorem dX6_setsThatCan_113 : decode cX6_setsThatCan 113 = .ok (.iload 8, 2) := by decide +kernel
theorem dX6_setsThatCan_115 : decode cX6_setsThatCan 115 = .ok (.ifCond .lt 58, 3) := by decide +kernel
theorem dX6_setsThatCan_118 : decode cX6_setsThatCan 118 = .ok (.iload 8, 2) := by decide +kernel
theorem dX6_setsThatCan_120 : decode cX6_setsThatCan 120 = .ok (.aload_n 1, 1) := by decide +kernel
theorem dX6_setsThatCan_121 : decode cX6_setsThatCan 121 = .ok (.arraylength, 1) := by decide +kernel
theorem dX6_setsThatCan_122 : decode cX6_setsThatCan 122 = .ok (.if_icmp .ge 51, 3) := by decide +kernel
theorem dX6_setsThatCan_125 : decode cX6_setsThatCan 125 = .ok (.aload_n 0, 1) := by decide +kernel
theorem dX6_setsThatCan_126 : decode cX6_setsThatCan 126 = .ok (.getfield 21, 3) := by decide +kernel
theorem dX6_setsThatCan_129 : decode cX6_setsThatCan 129 = .ok (.iload 7, 2) := by decide +kernel
theorem dX6_setsThatCan_131 : decode cX6_setsThatCan 131 = .ok (.dup2, 1) := by decide +kernel
theorem dX6_setsThatCan_132 : decode cX6_setsThatCan 132 = .ok (.laload, 1) := by decide +kernel
theorem dX6_setsThatCan_133 : decode cX6_setsThatCan 133 = .ok (.aload_n 0, 1) := by decide +kernel
theorem dX6_setsThatCan_134 : decode cX6_setsThatCan 134 = .ok (.iload 5, 2) := by decide +kernel
theorem dX6_setsThatCan_136 : decode cX6_setsThatCan 136 = .ok (.iload 8, 2) := by decide +kernel
theorem dX6_setsThatCan_138 : decode cX6_setsThatCan 138 = .ok (.iload_n 2, 1) := by decide +kernel
theorem dX6_setsThatCan_139 : decode cX6_setsThatCan 139 = .ok (.invokevirtual 89, 3) := by decide +kernel
theorem dX6_setsThatCan_142 : decode cX6_setsThatCan 142 = .ok (.ifCond .eq 22, 3) := by decide +kernel
theorem dX6_setsThatCan_145 : decode cX6_setsThatCan 145 = .ok (.aload_n 0, 1) := by decide +kernel
theorem dX6_setsThatCan_146 : decode cX6_setsThatCan 146 = .ok (.getfield 21, 3) := by decide +kernel
theorem dX6_setsThatCan_149 : decode cX6_setsThatCan 149 = .ok (.iload 5, 2) := by decide +kernel
theorem dX6_setsThatCan_151 : decode cX6_setsThatCan 151 = .ok (.laload, 1) := by decide +kernel
theorem dX6_setsThatCan_152 : decode cX6_setsThatCan 152 = .ok (.aload_n 1, 1) := by decide +kernel
theorem dX6_setsThatCan_153 : decode cX6_setsThatCan 153 = .ok (.iload 8, 2) := by decide +kernel
theorem dX6_setsThatCan_155 : decode cX6_setsThatCan 155 = .ok (.laload, 1) := by decide +kernel
theorem dX6_setsThatCan_156 : decode cX6_setsThatCan 156 = .ok (.ldc2_w 135, 3) := by decide +kernel
theorem dX6_setsThatCan_159 : decode cX6_setsThatCan 159 = .ok (.lxor, 1) := by decide +kernel
theorem dX6_setsThatCan_160 : decode cX6_setsThatCan 160 = .ok (.land, 1) := by decide +kernel
theorem dX6_setsThatCan_161 : decode cX6_setsThatCan 161 = .ok (.goto 10, 3) := by decide +kernel
theorem dX6_setsThatCan_164 : decode cX6_setsThatCan 164 = .ok (.aload_n 0, 1) := by decide +kernel
theorem dX6_setsThatCan_165 : decode cX6_setsThatCan 165 = .ok (.getfield 21, 3) := by decide +kernel
theorem dX6_setsThatCan_168 : decode cX6_setsThatCan 168 = .ok (.iload 5, 2) := by decide +kernel
theorem dX6_setsThatCan_170 : decode cX6_setsThatCan 170 = .ok (.laload, 1) := by decide +kernel
theorem dX6_setsThatCan_171 : decode cX6_setsThatCan 171 = .ok (.lor, 1) := by decide +kernel
theorem dX6_setsThatCan_172 : decode cX6_setsThatCan 172 = .ok (.lastore, 1) := by decide +kernel
theorem dX6_setsThatCan_173 : decode cX6_setsThatCan 173 = .ok (.iinc 6 1, 3) := by decide +kernel
theorem dX6_setsThatCan_176 : decode cX6_setsThatCan 176 = .ok (.goto (-115), 3) := by decide +kernel
theorem dX6_setsThatCan_179 : decode cX6_setsThatCan 179 = .ok (.iinc 5 1, 3) := by decide +kernel
theorem dX6_setsThatCan_182 : decode cX6_setsThatCan 182 = .ok (.goto (-160), 3) := by decide +kernel
theorem dX6_setsThatCan_185 : decode cX6_setsThatCan 185 = .ok (.lload_n 3, 1) := by decide +kernel
theorem dX6_setsThatCan_186 : decode cX6_setsThatCan 186 = .ok (.lreturn, 1) := by decide +kernel
theorem dX7_init_0 : decode cX7_init 0 = .ok (.aload_n 0, 1) := by decide +kernel
theorem dX7_init_1 : decode cX7_init 1 = .ok (.invokespecial 1, 3) := by decide +kernel
theorem dX7_init_4 : decode cX7_init 4 = .ok (.aload_n 0, 1) := by decide +kernel
theorem dX7_init_5 : decode cX7_init 5 = .ok (.sipush 900, 3) := by decide +kernel
theorem dX7_init_8 : decode cX7_init 8 = .ok (.newarray .int, 2) := by decide +kernel
theorem dX7_init_10 : decode cX7_init 10 = .ok (.putfield 9, 3) := by decide +kernel
theorem dX7_init_13 : decode cX7_init 13 = .ok (.aload_n 0, 1) := by decide +kernel
theorem dX7_init_14 : decode cX7_init 14 = .ok (.iconst 0, 1) := by decide +kernel
theorem dX7_init_15 : decode cX7_init 15 = .ok (.putfield 13, 3) := by decide +kernel
theorem dX7_init_18 : decode cX7_init 18 = .ok (.aload_n 0, 1) := by decide +kernel
theorem dX7_init_19 : decode cX7_init 19 = .ok (.iconst 0, 1) := by decide +kernel
theorem dX7_init_20 : decode cX7_init 20 = .ok (.putfield 17, 3) := by decide +kernel
theorem dX7_init_23 : decode cX7_init 23 = .ok (.aload_n 0, 1) := by decide +kernel
theorem dX7_init_24 : decode cX7_init 24 = .ok (.iconst 0, 1) := by decide +kernel
theorem dX7_init_25 : decode cX7_init 25 = .ok (.putfield 20, 3) := by decide +kernel
theorem dX7_init_28 : decode cX7_init 28 = .ok (.aload_n 0, 1) := by decide +kernel
theorem dX7_init_29 : decode cX7_init 29 = .ok (.iconst 0, 1) := by decide +kernel
theorem dX7_init_30 : decode cX7_init 30 = .ok (.putfield 23, 3) := by decide +kernel
theorem dX7_init_33 : decode cX7_init 33 = .ok (.aload_n 0, 1) := by decide +kernel
theorem dX7_init_34 : decode cX7_init 34 = .ok (.iconst 0, 1) := by decide +kernel
theorem dX7_init_35 : decode cX7_init 35 = .ok (.putfield 26, 3) := by decide +kernel
theorem dX7_init_38 : decode cX7_init 38 = .ok (.aload_n 0, 1) := by decide +kernel
theorem dX7_init_39 : decode cX7_init 39 = .ok (.iconst 0, 1) := by decide +kernel
theorem dX7_init_40 : decode cX7_init 40 = .ok (.putfield 29, 3) := by decide +kernel
theorem dX7_init_43 : decode cX7_init 43 = .ok (.aload_n 0, 1) := by decide +kernel
theorem dX7_init_44 : decode cX7_init 44 = .ok (.lconst 0, 1) := by decide +kernel
theorem dX7_init_45 : decode cX7_init 45 = .ok (.putfield 32, 3) := by decide +kernel
theorem dX7_init_48 : decode cX7_init 48 = .ok (.return_, 1) := by decide +kernel
theorem dX7_hasRoom_0 : decode cX7_hasRoom 0 = .ok (.iload_n 1, 1) := by decide +kernel
theorem dX7_hasRoom_1 : decode cX7_hasRoom 1 = .ok (.sipush 900, 3) := by decide +kernel
theorem dX7_hasRoom_4 : decode cX7_hasRoom 4 = .ok (.aload_n 0, 1) := by decide +kernel
theorem dX7_hasRoom_5 : decode cX7_hasRoom 5 = .ok (.getfield 20, 3) := by decide +kernel
theorem dX7_hasRoom_8 : decode cX7_hasRoom 8 = .ok (.isub, 1) := by decide +kernel
theorem dX7_hasRoom_9 : decode cX7_hasRoom 9 = .ok (.if_icmp .gt 7, 3) := by decide +kernel
theorem dX7_hasRoom_12 : decode cX7_hasRoom 12 = .ok (.iconst 1, 1) := by decide +kernel
theorem dX7_hasRoom_13 : decode cX7_hasRoom 13 = .ok (.goto 4, 3) := by decide +kernel
theorem dX7_hasRoom_16 : decode cX7_hasRoom 16 = .ok (.iconst 0, 1) := by decide +kernel
theorem dX7_hasRoom_17 : decode cX7_hasRoom 17 = .ok (.ireturn, 1) := by decide +kernel
theorem dX7_addFour_0 : decode cX7_addFour 0 = .ok (.bipush 24, 2) := by decide +kernel
theorem dX7_addFour_2 : decode cX7_addFour 2 = .ok (.istore_n 2, 1) := by decide +kernel
theorem dX7_addFour_3 : decode cX7_addFour 3 = .ok (.iload_n 2, 1) := by decide +kernel
theorem dX7_addFour_4 : decode cX7_addFour 4 = .ok (.ifCond .lt 45, 3) := by decide +kernel
theorem dX7_addFour_7 : decode cX7_addFour 7 = .ok (.aload_n 0, 1) := by decide +kernel
theorem dX7_addFour_8 : decode cX7_addFour 8 = .ok (.getfield 20, 3) := by decide +kernel
theorem dX7_addFour_11 : decode cX7_addFour 11 = .ok (.sipush 900, 3) := by decide +kernel
theorem dX7_addFour_14 : decode cX7_addFour 14 = .ok (.if_icmp .ge 29, 3) := by decide +kernel
theorem dX7_addFour_17 : decode cX7_addFour 17 = .ok (.aload_n 0, 1) := by decide +kernel
theorem dX7_addFour_18 : decode cX7_addFour 18 = .ok (.getfield 9, 3) := by decide +kernel
theorem dX7_addFour_21 : decode cX7_addFour 21 = .ok (.aload_n 0, 1) := by decide +kernel
theorem dX7_addFour_22 : decode cX7_addFour 22 = .ok (.getfield 20, 3) := by decide +kernel
theorem dX7_addFour_25 : decode cX7_addFour 25 = .ok (.iload_n 1, 1) := by decide +kernel
theorem dX7_addFour_26 : decode cX7_addFour 26 = .ok (.iload_n 2, 1) := by decide +kernel
theorem dX7_addFour_27 : decode cX7_addFour 27 = .ok (.ishr, 1) := by decide +kernel
theorem dX7_addFour_28 : decode cX7_addFour 28 = .ok (.sipush 255, 3) := by decide +kernel
theorem dX7_addFour_31 : decode cX7_addFour 31 = .ok (.iand, 1) := by decide +kernel
theorem dX7_addFour_32 : decode cX7_addFour 32 = .ok (.iastore, 1) := by decide +kernel
theorem dX7_addFour_33 : decode cX7_addFour 33 = .ok (.aload_n 0, 1) := by decide +kernel
theorem dX7_addFour_34 : decode cX7_addFour 34 = .ok (.dup, 1) := by decide +kernel
theorem dX7_addFour_35 : decode cX7_addFour 35 = .ok (.getfield 20, 3) := by decide +kernel
theorem dX7_addFour_38 : decode cX7_addFour 38 = .ok (.iconst 1, 1) := by decide +kernel
theorem dX7_addFour_39 : decode cX7_addFour 39 = .ok (.iadd, 1) := by decide +kernel
theorem dX7_addFour_40 : decode cX7_addFour 40 = .ok (.putfield 20, 3) := by decide +kernel
theorem dX7_addFour_43 : decode cX7_addFour 43 = .ok (.iinc 2 (-8), 3) := by decide +kernel
theorem dX7_addFour_46 : decode cX7_addFour 46 = .ok (.goto (-43), 3) := by decide +kernel
theorem dX7_addFour_49 : decode cX7_addFour 49 = .ok (.return_, 1) := by decide +kernel
theorem dX7_beginText_0 : decode cX7_beginText 0 = .ok (.aload_n 0, 1) := by decide +kernel
theorem dX7_beginText_1 : decode cX7_beginText 1 = .ok (.iload_n 1, 1) := by decide +kernel
theorem dX7_beginText_2 : decode cX7_beginText 2 = .ok (.ifCond .ge 7, 3) := by decide +kernel
theorem dX7_beginText_5 : decode cX7_beginText 5 = .ok (.iconst 0, 1) := by decide +kernel
theorem dX7_beginText_6 : decode cX7_beginText 6 = .ok (.goto 11, 3) := by decide +kernel
theorem dX7_beginText_9 : decode cX7_beginText 9 = .ok (.iload_n 1, 1) := by decide +kernel
theorem dX7_beginText_10 : decode cX7_beginText 10 = .ok (.aload_n 0, 1) := by decide +kernel
theorem dX7_beginText_11 : decode cX7_beginText 11 = .ok (.getfield 20, 3) := by decide +kernel
theorem dX7_beginText_14 : decode cX7_beginText 14 = .ok (.invokestatic 36, 3) := by decide +kernel
theorem dX7_beginText_17 : decode cX7_beginText 17 = .ok (.putfield 13, 3) := by decide +kernel
theorem dX7_beginText_20 : decode cX7_beginText 20 = .ok (.aload_n 0, 1) := by decide +kernel
theorem dX7_beginText_21 : decode cX7_beginText 21 = .ok (.iconst 0, 1) := by decide +kernel
theorem dX7_beginText_22 : decode cX7_beginText 22 = .ok (.putfield 17, 3) := by decide +kernel
theorem dX7_beginText_25 : decode cX7_beginText 25 = .ok (.aload_n 0, 1) := by decide +kernel
theorem dX7_beginText_26 : decode cX7_beginText 26 = .ok (.iconst 0, 1) := by decide +kernel
theorem dX7_beginText_27 : decode cX7_beginText 27 = .ok (.putfield 20, 3) := by decide +kernel
theorem dX7_beginText_30 : decode cX7_beginText 30 = .ok (.aload_n 0, 1) := by decide +kernel
theorem dX7_beginText_31 : decode cX7_beginText 31 = .ok (.invokevirtual 42, 3) := by decide +kernel
theorem dX7_beginText_34 : decode cX7_beginText 34 = .ok (.return_, 1) := by decide +kernel
theorem dX7_next_0 : decode cX7_next 0 = .ok (.aload_n 0, 1) := by decide +kernel
theorem dX7_next_1 : decode cX7_next 1 = .ok (.getfield 17, 3) := by decide +kernel
theorem dX7_next_4 : decode cX7_next 4 = .ok (.istore_n 1, 1) := by decide +kernel
theorem dX7_next_5 : decode cX7_next 5 = .ok (.iload_n 1, 1) := by decide +kernel
theorem dX7_next_6 : decode cX7_next 6 = .ok (.aload_n 0, 1) := by decide +kernel
theorem dX7_next_7 : decode cX7_next 7 = .ok (.getfield 13, 3) := by decide +kernel
theorem dX7_next_10 : decode cX7_next 10 = .ok (.if_icmp .ge 20, 3) := by decide +kernel
theorem dX7_next_13 : decode cX7_next 13 = .ok (.aload_n 0, 1) := by decide +kernel
theorem dX7_next_14 : decode cX7_next 14 = .ok (.getfield 9, 3) := by decide +kernel
theorem dX7_next_17 : decode cX7_next 17 = .ok (.iload_n 1, 1) := by decide +kernel
theorem dX7_next_18 : decode cX7_next 18 = .ok (.iaload, 1) := by decide +kernel
theorem dX7_next_19 : decode cX7_next 19 = .ok (.bipush 32, 2) := by decide +kernel
theorem dX7_next_21 : decode cX7_next 21 = .ok (.if_icmp .ne 9, 3) := by decide +kernel
theorem dX7_next_24 : decode cX7_next 24 = .ok (.iinc 1 1, 3) := by decide +kernel
theorem dX7_next_27 : decode cX7_next 27 = .ok (.goto (-22), 3) := by decide +kernel
theorem dX7_next_30 : decode cX7_next 30 = .ok (.aload_n 0, 1) := by decide +kernel
theorem dX7_next_31 : decode cX7_next 31 = .ok (.iload_n 1, 1) := by decide +kernel
theorem dX7_next_32 : decode cX7_next 32 = .ok (.putfield 26, 3) := by decide +kernel
theorem dX7_next_35 : decode cX7_next 35 = .ok (.iload_n 1, 1) := by decide +kernel
theorem dX7_next_36 : decode cX7_next 36 = .ok (.aload_n 0, 1) := by decide +kernel
theorem dX7_next_37 : decode cX7_next 37 = .ok (.getfield 13, 3) := by decide +kernel
theorem dX7_next_40 : decode cX7_next 40 = .ok (.if_icmp .ge 12, 3) := by decide +kernel
theorem dX7_next_43 : decode cX7_next 43 = .ok (.aload_n 0, 1) := by decide +kernel
theorem dX7_next_44 : decode cX7_next 44 = .ok (.getfield 9, 3) := by decide +kernel
theorem dX7_next_47 : decode cX7_next 47 = .ok (.iload_n 1, 1) := by decide +kernel
theorem dX7_next_48 : decode cX7_next 48 = .ok (.iaload, 1) := by decide +kernel
theorem dX7_next_49 : decode cX7_next 49 = .ok (.goto 4, 3) := by decide +kernel
theorem dX7_next_52 : decode cX7_next 52 = .ok (.iconst 0, 1) := by decide +kernel
theorem dX7_next_53 : decode cX7_next 53 = .ok (.istore_n 2, 1) := by decide +kernel
theorem dX7_next_54 : decode cX7_next 54 = .ok (.iload_n 1, 1) := by decide +kernel
theorem dX7_next_55 : decode cX7_next 55 = .ok (.aload_n 0, 1) := by decide +kernel
theorem dX7_next_56 : decode cX7_next 56 = .ok (.getfield 13, 3) := by decide +kernel
theorem dX7_next_59 : decode cX7_next 59 = .ok (.if_icmp .lt 16, 3) := by decide +kernel
theorem dX7_next_62 : decode cX7_next 62 = .ok (.aload_n 0, 1) := by decide +kernel
theorem dX7_next_63 : decode cX7_next 63 = .ok (.iconst 0, 1) := by decide +kernel
theorem dX7_next_64 : decode cX7_next 64 = .ok (.putfield 23, 3) := by decide +kernel
theorem dX7_next_67 : decode cX7_next 67 = .ok (.aload_n 0, 1) := by decide +kernel
theorem dX7_next_68 : decode cX7_next 68 = .ok (.iload_n 1, 1) := by decide +kernel
theorem dX7_next_69 : decode cX7_next 69 = .ok (.putfield 17, 3) := by decide +kernel
theorem dX7_next_72 : decode cX7_next 72 = .ok (.goto 73, 3) := by decide +kernel
theorem dX7_next_75 : decode cX7_next 75 = .ok (.iload_n 2, 1) := by decide +kernel
theorem dX7_next_76 : decode cX7_next 76 = .ok (.bipush 97, 2) := by decide +kernel
theorem dX7_next_78 : decode cX7_next 78 = .ok (.if_icmp .lt 16, 3) := by decide +kernel
theorem dX7_next_81 : decode cX7_next 81 = .ok (.iload_n 2, 1) := by decide +kernel
theorem dX7_next_82 : decode cX7_next 82 = .ok (.bipush 122, 2) := by decide +kernel
theorem dX7_next_84 : decode cX7_next 84 = .ok (.if_icmp .gt 10, 3) := by decide +kernel
theorem dX7_next_87 : decode cX7_next 87 = .ok (.aload_n 0, 1) := by decide +kernel
theorem dX7_next_88 : decode cX7_next 88 = .ok (.invokevirtual 45, 3) := by decide +kernel
theorem dX7_next_91 : decode cX7_next 91 = .ok (.goto 54, 3) := by decide +kernel
theorem dX7_next_94 : decode cX7_next 94 = .ok (.iload_n 2, 1) := by decide +kernel
theorem dX7_next_95 : decode cX7_next 95 = .ok (.bipush 48, 2) := by decide +kernel
theorem dX7_next_97 : decode cX7_next 97 = .ok (.if_icmp .lt 16, 3) := by decide +kernel
theorem dX7_next_100 : decode cX7_next 100 = .ok (.iload_n 2, 1) := by decide +kernel
theorem dX7_next_101 : decode cX7_next 101 = .ok (.bipush 57, 2) := by decide +kernel
theorem dX7_next_103 : decode cX7_next 103 = .ok (.if_icmp .gt 10, 3) := by decide +kernel
theorem dX7_next_106 : decode cX7_next 106 = .ok (.aload_n 0, 1) := by decide +kernel
theorem dX7_next_107 : decode cX7_next 107 = .ok (.invokevirtual 48, 3) := by decide +kernel
theorem dX7_next_110 : decode cX7_next 110 = .ok (.goto 35, 3) := by decide +kernel
theorem dX7_next_113 : decode cX7_next 113 = .ok (.aload_n 0, 1) := by decide +kernel
theorem dX7_next_114 : decode cX7_next 114 = .ok (.iload_n 2, 1) := by decide +kernel
theorem dX7_next_115 : decode cX7_next 115 = .ok (.bipush 59, 2) := by decide +kernel
theorem dX7_next_117 : decode cX7_next 117 = .ok (.if_icmp .ne 7, 3) := by decide +kernel
theorem dX7_next_120 : decode cX7_next 120 = .ok (.iconst 3, 1) := by decide +kernel
theorem dX7_next_121 : decode cX7_next 121 = .ok (.goto 14, 3) := by decide +kernel
theorem dX7_next_124 : decode cX7_next 124 = .ok (.iload_n 2, 1) := by decide +kernel
theorem dX7_next_125 : decode cX7_next 125 = .ok (.bipush 44, 2) := by decide +kernel
theorem dX7_next_127 : decode cX7_next 127 = .ok (.if_icmp .ne 7, 3) := by decide +kernel
theorem dX7_next_130 : decode cX7_next 130 = .ok (.iconst 4, 1) := by decide +kernel
theorem dX7_next_131 : decode cX7_next 131 = .ok (.goto 4, 3) := by decide +kernel
theorem dX7_next_134 : decode cX7_next 134 = .ok (.iconst 5, 1) := by decide +kernel
theorem dX7_next_135 : decode cX7_next 135 = .ok (.putfield 23, 3) := by decide +kernel
theorem dX7_next_138 : decode cX7_next 138 = .ok (.aload_n 0, 1) := by decide +kernel
theorem dX7_next_139 : decode cX7_next 139 = .ok (.iload_n 1, 1) := by decide +kernel
theorem dX7_next_140 : decode cX7_next 140 = .ok (.iconst 1, 1) := by decide +kernel
theorem dX7_next_141 : decode cX7_next 141 = .ok (.iadd, 1) := by decide +kernel
theorem dX7_next_142 : decode cX7_next 142 = .ok (.putfield 17, 3) := by decide +kernel
theorem dX7_next_145 : decode cX7_next 145 = .ok (.return_, 1) := by decide +kernel
theorem dX7_readWord_0 : decode cX7_readWord 0 = .ok (.aload_n 0, 1) := by decide +kernel
theorem dX7_readWord_1 : decode cX7_readWord 1 = .ok (.getfield 26, 3) := by decide +kernel
theorem dX7_readWord_4 : decode cX7_readWord 4 = .ok (.istore_n 1, 1) := by decide +kernel
theorem dX7_readWord_5 : decode cX7_readWord 5 = .ok (.aload_n 0, 1) := by decide +kernel
theorem dX7_readWord_6 : decode cX7_readWord 6 = .ok (.lconst 0, 1) := by decide +kernel
theorem dX7_readWord_7 : decode cX7_readWord 7 = .ok (.putfield 32, 3) := by decide +kernel
theorem dX7_readWord_10 : decode cX7_readWord 10 = .ok (.iload_n 1, 1) := by decide +kernel
theorem dX7_readWord_11 : decode cX7_readWord 11 = .ok (.aload_n 0, 1) := by decide +kernel
theorem dX7_readWord_12 : decode cX7_readWord 12 = .ok (.getfield 13, 3) := by decide +kernel
theorem dX7_readWord_15 : decode cX7_readWord 15 = .ok (.if_icmp .ge 56, 3) := by decide +kernel
theorem dX7_readWord_18 : decode cX7_readWord 18 = .ok (.aload_n 0, 1) := by decide +kernel
theorem dX7_readWord_19 : decode cX7_readWord 19 = .ok (.getfield 9, 3) := by decide +kernel
theorem dX7_readWord_22 : decode cX7_readWord 22 = .ok (.iload_n 1, 1) := by decide +kernel
theorem dX7_readWord_23 : decode cX7_readWord 23 = .ok (.iaload, 1) := by decide +kernel
theorem dX7_readWord_24 : decode cX7_readWord 24 = .ok (.bipush 97, 2) := by decide +kernel
theorem dX7_readWord_26 : decode cX7_readWord 26 = .ok (.if_icmp .lt 45, 3) := by decide +kernel
theorem dX7_readWord_29 : decode cX7_readWord 29 = .ok (.aload_n 0, 1) := by decide +kernel
theorem dX7_readWord_30 : decode cX7_readWord 30 = .ok (.getfield 9, 3) := by decide +kernel
theorem dX7_readWord_33 : decode cX7_readWord 33 = .ok (.iload_n 1, 1) := by decide +kernel
theorem dX7_readWord_34 : decode cX7_readWord 34 = .ok (.iaload, 1) := by decide +kernel
theorem dX7_readWord_35 : decode cX7_readWord 35 = .ok (.bipush 122, 2) := by decide +kernel
theorem dX7_readWord_37 : decode cX7_readWord 37 = .ok (.if_icmp .gt 34, 3) := by decide +kernel
theorem dX7_readWord_40 : decode cX7_readWord 40 = .ok (.aload_n 0, 1) := by decide +kernel
theorem dX7_readWord_41 : decode cX7_readWord 41 = .ok (.aload_n 0, 1) := by decide +kernel
theorem dX7_readWord_42 : decode cX7_readWord 42 = .ok (.getfield 32, 3) := by decide +kernel
theorem dX7_readWord_45 : decode cX7_readWord 45 = .ok (.ldc2_w 51, 3) := by decide +kernel
theorem dX7_readWord_48 : decode cX7_readWord 48 = .ok (.lmul, 1) := by decide +kernel
theorem dX7_readWord_49 : decode cX7_readWord 49 = .ok (.aload_n 0, 1) := by decide +kernel
theorem dX7_readWord_50 : decode cX7_readWord 50 = .ok (.getfield 9, 3) := by decide +kernel
theorem dX7_readWord_53 : decode cX7_readWord 53 = .ok (.iload_n 1, 1) := by decide +kernel
theorem dX7_readWord_54 : decode cX7_readWord 54 = .ok (.iaload, 1) := by decide +kernel
theorem dX7_readWord_55 : decode cX7_readWord 55 = .ok (.bipush 97, 2) := by decide +kernel
theorem dX7_readWord_57 : decode cX7_readWord 57 = .ok (.isub, 1) := by decide +kernel
theorem dX7_readWord_58 : decode cX7_readWord 58 = .ok (.iconst 1, 1) := by decide +kernel
theorem dX7_readWord_59 : decode cX7_readWord 59 = .ok (.iadd, 1) := by decide +kernel
theorem dX7_readWord_60 : decode cX7_readWord 60 = .ok (.i2l, 1) := by decide +kernel
theorem dX7_readWord_61 : decode cX7_readWord 61 = .ok (.ladd, 1) := by decide +kernel
theorem dX7_readWord_62 : decode cX7_readWord 62 = .ok (.putfield 32, 3) := by decide +kernel
theorem dX7_readWord_65 : decode cX7_readWord 65 = .ok (.iinc 1 1, 3) := by decide +kernel
theorem dX7_readWord_68 : decode cX7_readWord 68 = .ok (.goto (-58), 3) := by decide +kernel
theorem dX7_readWord_71 : decode cX7_readWord 71 = .ok (.aload_n 0, 1) := by decide +kernel
theorem dX7_readWord_72 : decode cX7_readWord 72 = .ok (.iload_n 1, 1) := by decide +kernel
theorem dX7_readWord_73 : decode cX7_readWord 73 = .ok (.putfield 17, 3) := by decide +kernel
theorem dX7_readWord_76 : decode cX7_readWord 76 = .ok (.aload_n 0, 1) := by decide +kernel
theorem dX7_readWord_77 : decode cX7_readWord 77 = .ok (.iload_n 1, 1) := by decide +kernel
theorem dX7_readWord_78 : decode cX7_readWord 78 = .ok (.aload_n 0, 1) := by decide +kernel
theorem dX7_readWord_79 : decode cX7_readWord 79 = .ok (.getfield 26, 3) := by decide +kernel
theorem dX7_readWord_82 : decode cX7_readWord 82 = .ok (.isub, 1) := by decide +kernel
theorem dX7_readWord_83 : decode cX7_readWord 83 = .ok (.bipush 8, 2) := by decide +kernel
theorem dX7_readWord_85 : decode cX7_readWord 85 = .ok (.if_icmp .gt 7, 3) := by decide +kernel
theorem dX7_readWord_88 : decode cX7_readWord 88 = .ok (.iconst 1, 1) := by decide +kernel
theorem dX7_readWord_89 : decode cX7_readWord 89 = .ok (.goto 4, 3) := by decide +kernel
theorem dX7_readWord_92 : decode cX7_readWord 92 = .ok (.iconst 5, 1) := by decide +kernel
theorem dX7_readWord_93 : decode cX7_readWord 93 = .ok (.putfield 23, 3) := by decide +kernel
theorem dX7_readWord_96 : decode cX7_readWord 96 = .ok (.return_, 1) := by decide +kernel
theorem dX7_readWhole_0 : decode cX7_readWhole 0 = .ok (.aload_n 0, 1) := by decide +kernel
theorem dX7_readWhole_1 : decode cX7_readWhole 1 = .ok (.getfield 26, 3) := by decide +kernel
theorem dX7_readWhole_4 : decode cX7_readWhole 4 = .ok (.istore_n 1, 1) := by decide +kernel
theorem dX7_readWhole_5 : decode cX7_readWhole 5 = .ok (.aload_n 0, 1) := by decide +kernel
theorem dX7_readWhole_6 : decode cX7_readWhole 6 = .ok (.iconst 0, 1) := by decide +kernel
theorem dX7_readWhole_7 : decode cX7_readWhole 7 = .ok (.putfield 29, 3) := by decide +kernel
theorem dX7_readWhole_10 : decode cX7_readWhole 10 = .ok (.iload_n 1, 1) := by decide +kernel
theorem dX7_readWhole_11 : decode cX7_readWhole 11 = .ok (.aload_n 0, 1) := by decide +kernel
theorem dX7_readWhole_12 : decode cX7_readWhole 12 = .ok (.getfield 13, 3) := by decide +kernel
theorem dX7_readWhole_15 : decode cX7_readWhole 15 = .ok (.if_icmp .ge 52, 3) := by decide +kernel
theorem dX7_readWhole_18 : decode cX7_readWhole 18 = .ok (.aload_n 0, 1) := by decide +kernel
theorem dX7_readWhole_19 : decode cX7_readWhole 19 = .ok (.getfield 9, 3) := by decide +kernel
theorem dX7_readWhole_22 : decode cX7_readWhole 22 = .ok (.iload_n 1, 1) := by decide +kernel
theorem dX7_readWhole_23 : decode cX7_readWhole 23 = .ok (.iaload, 1) := by decide +kernel
theorem dX7_readWhole_24 : decode cX7_readWhole 24 = .ok (.bipush 48, 2) := by decide +kernel
theorem dX7_readWhole_26 : decode cX7_readWhole 26 = .ok (.if_icmp .lt 41, 3) := by decide +kernel
theorem dX7_readWhole_29 : decode cX7_readWhole 29 = .ok (.aload_n 0, 1) := by decide +kernel
theorem dX7_readWhole_30 : decode cX7_readWhole 30 = .ok (.getfield 9, 3) := by decide +kernel
theorem dX7_readWhole_33 : decode cX7_readWhole 33 = .ok (.iload_n 1, 1) := by decide +kernel
theorem dX7_readWhole_34 : decode cX7_readWhole 34 = .ok (.iaload, 1) := by decide +kernel
theorem dX7_readWhole_35 : decode cX7_readWhole 35 = .ok (.bipush 57, 2) := by decide +kernel
theorem dX7_readWhole_37 : decode cX7_readWhole 37 = .ok (.if_icmp .gt 30, 3) := by decide +kernel
theorem dX7_readWhole_40 : decode cX7_readWhole 40 = .ok (.aload_n 0, 1) := by decide +kernel
theorem dX7_readWhole_41 : decode cX7_readWhole 41 = .ok (.aload_n 0, 1) := by decide +kernel
theorem dX7_readWhole_42 : decode cX7_readWhole 42 = .ok (.getfield 29, 3) := by decide +kernel
theorem dX7_readWhole_45 : decode cX7_readWhole 45 = .ok (.bipush 10, 2) := by decide +kernel
theorem dX7_readWhole_47 : decode cX7_readWhole 47 = .ok (.imul, 1) := by decide +kernel
theorem dX7_readWhole_48 : decode cX7_readWhole 48 = .ok (.aload_n 0, 1) := by decide +kernel
theorem dX7_readWhole_49 : decode cX7_readWhole 49 = .ok (.getfield 9, 3) := by decide +kernel
theorem dX7_readWhole_52 : decode cX7_readWhole 52 = .ok (.iload_n 1, 1) := by decide +kernel
theorem dX7_readWhole_53 : decode cX7_readWhole 53 = .ok (.iaload, 1) := by decide +kernel
theorem dX7_readWhole_54 : decode cX7_readWhole 54 = .ok (.bipush 48, 2) := by decide +kernel
theorem dX7_readWhole_56 : decode cX7_readWhole 56 = .ok (.isub, 1) := by decide +kernel
theorem dX7_readWhole_57 : decode cX7_readWhole 57 = .ok (.iadd, 1) := by decide +kernel
theorem dX7_readWhole_58 : decode cX7_readWhole 58 = .ok (.putfield 29, 3) := by decide +kernel
theorem dX7_readWhole_61 : decode cX7_readWhole 61 = .ok (.iinc 1 1, 3) := by decide +kernel
theorem dX7_readWhole_64 : decode cX7_readWhole 64 = .ok (.goto (-54), 3) := by decide +kernel
theorem dX7_readWhole_67 : decode cX7_readWhole 67 = .ok (.aload_n 0, 1) := by decide +kernel
theorem dX7_readWhole_68 : decode cX7_readWhole 68 = .ok (.iload_n 1, 1) := by decide +kernel
theorem dX7_readWhole_69 : decode cX7_readWhole 69 = .ok (.putfield 17, 3) := by decide +kernel
theorem dX7_readWhole_72 : decode cX7_readWhole 72 = .ok (.aload_n 0, 1) := by decide +kernel
theorem dX7_readWhole_73 : decode cX7_readWhole 73 = .ok (.iload_n 1, 1) := by decide +kernel
theorem dX7_readWhole_74 : decode cX7_readWhole 74 = .ok (.aload_n 0, 1) := by decide +kernel
theorem dX7_readWhole_75 : decode cX7_readWhole 75 = .ok (.getfield 26, 3) := by decide +kernel
theorem dX7_readWhole_78 : decode cX7_readWhole 78 = .ok (.isub, 1) := by decide +kernel
theorem dX7_readWhole_79 : decode cX7_readWhole 79 = .ok (.iconst 3, 1) := by decide +kernel
theorem dX7_readWhole_80 : decode cX7_readWhole 80 = .ok (.if_icmp .gt 7, 3) := by decide +kernel
theorem dX7_readWhole_83 : decode cX7_readWhole 83 = .ok (.iconst 2, 1) := by decide +kernel
theorem dX7_readWhole_84 : decode cX7_readWhole 84 = .ok (.goto 4, 3) := by decide +kernel
theorem dX7_readWhole_87 : decode cX7_readWhole 87 = .ok (.iconst 5, 1) := by decide +kernel
theorem dX7_readWhole_88 : decode cX7_readWhole 88 = .ok (.putfield 23, 3) := by decide +kernel
theorem dX7_readWhole_91 : decode cX7_readWhole 91 = .ok (.return_, 1) := by decide +kernel
theorem dX7_is_0 : decode cX7_is 0 = .ok (.aload_n 0, 1) := by decide +kernel
theorem dX7_is_1 : decode cX7_is 1 = .ok (.getfield 23, 3) := by decide +kernel
theorem dX7_is_4 : decode cX7_is 4 = .ok (.iconst 1, 1) := by decide +kernel
theorem dX7_is_5 : decode cX7_is 5 = .ok (.if_icmp .ne 19, 3) := by decide +kernel
theorem dX7_is_8 : decode cX7_is 8 = .ok (.aload_n 0, 1) := by decide +kernel
theorem dX7_is_9 : decode cX7_is 9 = .ok (.getfield 17, 3) := by decide +kernel
theorem dX7_is_12 : decode cX7_is 12 = .ok (.aload_n 0, 1) := by decide +kernel
theorem dX7_is_13 : decode cX7_is 13 = .ok (.getfield 26, 3) := by decide +kernel
theorem dX7_is_16 : decode cX7_is 16 = .ok (.isub, 1) := by decide +kernel
theorem dX7_is_17 : decode cX7_is 17 = .ok (.aload_n 1, 1) := by decide +kernel
theorem dX7_is_18 : decode cX7_is 18 = .ok (.invokevirtual 53, 3) := by decide +kernel
theorem dX7_is_21 : decode cX7_is 21 = .ok (.if_icmp .eq 5, 3) := by decide +kernel
theorem dX7_is_24 : decode cX7_is 24 = .ok (.iconst 0, 1) := by decide +kernel
theorem dX7_is_25 : decode cX7_is 25 = .ok (.ireturn, 1) := by decide +kernel
theorem dX7_is_26 : decode cX7_is 26 = .ok (.iconst 0, 1) := by decide +kernel
theorem dX7_is_27 : decode cX7_is 27 = .ok (.istore_n 2, 1) := by decide +kernel
theorem dX7_is_28 : decode cX7_is 28 = .ok (.iload_n 2, 1) := by decide +kernel
theorem dX7_is_29 : decode cX7_is 29 = .ok (.aload_n 1, 1) := by decide +kernel
theorem dX7_is_30 : decode cX7_is 30 = .ok (.invokevirtual 53, 3) := by decide +kernel
theorem dX7_is_33 : decode cX7_is 33 = .ok (.if_icmp .ge 30, 3) := by decide +kernel
theorem dX7_is_36 : decode cX7_is 36 = .ok (.aload_n 1, 1) := by decide +kernel
theorem dX7_is_37 : decode cX7_is 37 = .ok (.iload_n 2, 1) := by decide +kernel
theorem dX7_is_38 : decode cX7_is 38 = .ok (.invokevirtual 58, 3) := by decide +kernel
theorem dX7_is_41 : decode cX7_is 41 = .ok (.aload_n 0, 1) := by decide +kernel
theorem dX7_is_42 : decode cX7_is 42 = .ok (.getfield 9, 3) := by decide +kernel
theorem dX7_is_45 : decode cX7_is 45 = .ok (.aload_n 0, 1) := by decide +kernel
theorem dX7_is_46 : decode cX7_is 46 = .ok (.getfield 26, 3) := by decide +kernel
theorem dX7_is_49 : decode cX7_is 49 = .ok (.iload_n 2, 1) := by decide +kernel
theorem dX7_is_50 : decode cX7_is 50 = .ok (.iadd, 1) := by decide +kernel
theorem dX7_is_51 : decode cX7_is 51 = .ok (.iaload, 1) := by decide +kernel
theorem dX7_is_52 : decode cX7_is 52 = .ok (.if_icmp .eq 5, 3) := by decide +kernel
theorem dX7_is_55 : decode cX7_is 55 = .ok (.iconst 0, 1) := by decide +kernel
theorem dX7_is_56 : decode cX7_is 56 = .ok (.ireturn, 1) := by decide +kernel
theorem dX7_is_57 : decode cX7_is 57 = .ok (.iinc 2 1, 3) := by decide +kernel
theorem dX7_is_60 : decode cX7_is 60 = .ok (.goto (-32), 3) := by decide +kernel
theorem dX7_is_63 : decode cX7_is 63 = .ok (.iconst 1, 1) := by decide +kernel
theorem dX7_is_64 : decode cX7_is 64 = .ok (.ireturn, 1) := by decide +kernel
theorem dX7_isName_0 : decode cX7_isName 0 = .ok (.aload_n 0, 1) := by decide +kernel
theorem dX7_isName_1 : decode cX7_isName 1 = .ok (.getfield 23, 3) := by decide +kernel
theorem dX7_isName_4 : decode cX7_isName 4 = .ok (.iconst 1, 1) := by decide +kernel
theorem dX7_isName_5 : decode cX7_isName 5 = .ok (.if_icmp .ne 52, 3) := by decide +kernel
theorem dX7_isName_8 : decode cX7_isName 8 = .ok (.aload_n 0, 1) := by decide +kernel
theorem dX7_isName_9 : decode cX7_isName 9 = .ok (.ldc 62, 2) := by decide +kernel
theorem dX7_isName_11 : decode cX7_isName 11 = .ok (.invokevirtual 64, 3) := by decide +kernel
theorem dX7_isName_14 : decode cX7_isName 14 = .ok (.ifCond .ne 43, 3) := by decide +kernel
theorem dX7_isName_17 : decode cX7_isName 17 = .ok (.aload_n 0, 1) := by decide +kernel
theorem dX7_isName_18 : decode cX7_isName 18 = .ok (.ldc 68, 2) := by decide +kernel
theorem dX7_isName_20 : decode cX7_isName 20 = .ok (.invokevirtual 64, 3) := by decide +kernel
theorem dX7_isName_23 : decode cX7_isName 23 = .ok (.ifCond .ne 34, 3) := by decide +kernel
theorem dX7_isName_26 : decode cX7_isName 26 = .ok (.aload_n 0, 1) := by decide +kernel
theorem dX7_isName_27 : decode cX7_isName 27 = .ok (.ldc 70, 2) := by decide +kernel
theorem dX7_isName_29 : decode cX7_isName 29 = .ok (.invokevirtual 64, 3) := by decide +kernel
theorem dX7_isName_32 : decode cX7_isName 32 = .ok (.ifCond .ne 25, 3) := by decide +kernel
theorem dX7_isName_35 : decode cX7_isName 35 = .ok (.aload_n 0, 1) := by decide +kernel
theorem dX7_isName_36 : decode cX7_isName 36 = .ok (.ldc 72, 2) := by decide +kernel
theorem dX7_isName_38 : decode cX7_isName 38 = .ok (.invokevirtual 64, 3) := by decide +kernel
theorem dX7_isName_41 : decode cX7_isName 41 = .ok (.ifCond .ne 16, 3) := by decide +kernel
theorem dX7_isName_44 : decode cX7_isName 44 = .ok (.aload_n 0, 1) := by decide +kernel
theorem dX7_isName_45 : decode cX7_isName 45 = .ok (.ldc 74, 2) := by decide +kernel
theorem dX7_isName_47 : decode cX7_isName 47 = .ok (.invokevirtual 64, 3) := by decide +kernel
theorem dX7_isName_50 : decode cX7_isName 50 = .ok (.ifCond .ne 7, 3) := by decide +kernel
theorem dX7_isName_53 : decode cX7_isName 53 = .ok (.iconst 1, 1) := by decide +kernel
theorem dX7_isName_54 : decode cX7_isName 54 = .ok (.goto 4, 3) := by decide +kernel
theorem dX7_isName_57 : decode cX7_isName 57 = .ok (.iconst 0, 1) := by decide +kernel
theorem dX7_isName_58 : decode cX7_isName 58 = .ok (.ireturn, 1) := by decide +kernel
