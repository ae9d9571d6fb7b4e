theorem dX10_isIn_0 : decode cX10_isIn 0 = .ok (.aload_n 0, 1) := by decide +kernel
theorem dX10_isIn_1 : decode cX10_isIn 1 = .ok (.getfield 287, 3) := by decide +kernel
theorem dX10_isIn_4 : decode cX10_isIn 4 = .ok (.iload_n 1, 1) := by decide +kernel
theorem dX10_isIn_5 : decode cX10_isIn 5 = .ok (.invokestatic 299, 3) := by decide +kernel
theorem dX10_isIn_8 : decode cX10_isIn 8 = .ok (.ifCond .eq 32, 3) := by decide +kernel
theorem dX10_isIn_11 : decode cX10_isIn 11 = .ok (.aload_n 0, 1) := by decide +kernel
theorem dX10_isIn_12 : decode cX10_isIn 12 = .ok (.getfield 293, 3) := by decide +kernel
theorem dX10_isIn_15 : decode cX10_isIn 15 = .ok (.ifCond .lt 21, 3) := by decide +kernel
theorem dX10_isIn_18 : decode cX10_isIn 18 = .ok (.aload_n 0, 1) := by decide +kernel
theorem dX10_isIn_19 : decode cX10_isIn 19 = .ok (.getfield 38, 3) := by decide +kernel
theorem dX10_isIn_22 : decode cX10_isIn 22 = .ok (.bipush 7, 2) := by decide +kernel
theorem dX10_isIn_24 : decode cX10_isIn 24 = .ok (.iload_n 1, 1) := by decide +kernel
theorem dX10_isIn_25 : decode cX10_isIn 25 = .ok (.imul, 1) := by decide +kernel
theorem dX10_isIn_26 : decode cX10_isIn 26 = .ok (.iconst 1, 1) := by decide +kernel
theorem dX10_isIn_27 : decode cX10_isIn 27 = .ok (.iadd, 1) := by decide +kernel
theorem dX10_isIn_28 : decode cX10_isIn 28 = .ok (.iaload, 1) := by decide +kernel
theorem dX10_isIn_29 : decode cX10_isIn 29 = .ok (.aload_n 0, 1) := by decide +kernel
theorem dX10_isIn_30 : decode cX10_isIn 30 = .ok (.getfield 293, 3) := by decide +kernel
theorem dX10_isIn_33 : decode cX10_isIn 33 = .ok (.if_icmp .ne 7, 3) := by decide +kernel
theorem dX10_isIn_36 : decode cX10_isIn 36 = .ok (.iconst 1, 1) := by decide +kernel
theorem dX10_isIn_37 : decode cX10_isIn 37 = .ok (.goto 4, 3) := by decide +kernel
theorem dX10_isIn_40 : decode cX10_isIn 40 = .ok (.iconst 0, 1) := by decide +kernel
theorem dX10_isIn_41 : decode cX10_isIn 41 = .ok (.ireturn, 1) := by decide +kernel
theorem dX10_layRows_0 : decode cX10_layRows 0 = .ok (.iconst 0, 1) := by decide +kernel
theorem dX10_layRows_1 : decode cX10_layRows 1 = .ok (.istore_n 1, 1) := by decide +kernel
theorem dX10_layRows_2 : decode cX10_layRows 2 = .ok (.iload_n 1, 1) := by decide +kernel
theorem dX10_layRows_3 : decode cX10_layRows 3 = .ok (.iconst 4, 1) := by decide +kernel
theorem dX10_layRows_4 : decode cX10_layRows 4 = .ok (.if_icmp .ge 16, 3) := by decide +kernel
theorem dX10_layRows_7 : decode cX10_layRows 7 = .ok (.aload_n 0, 1) := by decide +kernel
theorem dX10_layRows_8 : decode cX10_layRows 8 = .ok (.getfield 44, 3) := by decide +kernel
theorem dX10_layRows_11 : decode cX10_layRows 11 = .ok (.iload_n 1, 1) := by decide +kernel
theorem dX10_layRows_12 : decode cX10_layRows 12 = .ok (.iconst 0, 1) := by decide +kernel
theorem dX10_layRows_13 : decode cX10_layRows 13 = .ok (.iastore, 1) := by decide +kernel
theorem dX10_layRows_14 : decode cX10_layRows 14 = .ok (.iinc 1 1, 3) := by decide +kernel
theorem dX10_layRows_17 : decode cX10_layRows 17 = .ok (.goto (-15), 3) := by decide +kernel
theorem dX10_layRows_20 : decode cX10_layRows 20 = .ok (.iconst 0, 1) := by decide +kernel
theorem dX10_layRows_21 : decode cX10_layRows 21 = .ok (.istore_n 1, 1) := by decide +kernel
theorem dX10_layRows_22 : decode cX10_layRows 22 = .ok (.iload_n 1, 1) := by decide +kernel
theorem dX10_layRows_23 : decode cX10_layRows 23 = .ok (.aload_n 0, 1) := by decide +kernel
theorem dX10_layRows_24 : decode cX10_layRows 24 = .ok (.getfield 38, 3) := by decide +kernel
theorem dX10_layRows_27 : decode cX10_layRows 27 = .ok (.sipush 141, 3) := by decide +kernel
theorem dX10_layRows_30 : decode cX10_layRows 30 = .ok (.iaload, 1) := by decide +kernel
theorem dX10_layRows_31 : decode cX10_layRows 31 = .ok (.if_icmp .ge 59, 3) := by decide +kernel
theorem dX10_layRows_34 : decode cX10_layRows 34 = .ok (.aload_n 0, 1) := by decide +kernel
theorem dX10_layRows_35 : decode cX10_layRows 35 = .ok (.iload_n 1, 1) := by decide +kernel
theorem dX10_layRows_36 : decode cX10_layRows 36 = .ok (.invokevirtual 302, 3) := by decide +kernel
theorem dX10_layRows_39 : decode cX10_layRows 39 = .ok (.ifCond .ne 6, 3) := by decide +kernel
theorem dX10_layRows_42 : decode cX10_layRows 42 = .ok (.goto 42, 3) := by decide +kernel
theorem dX10_layRows_45 : decode cX10_layRows 45 = .ok (.aload_n 0, 1) := by decide +kernel
theorem dX10_layRows_46 : decode cX10_layRows 46 = .ok (.getfield 38, 3) := by decide +kernel
theorem dX10_layRows_49 : decode cX10_layRows 49 = .ok (.bipush 7, 2) := by decide +kernel
theorem dX10_layRows_51 : decode cX10_layRows 51 = .ok (.iload_n 1, 1) := by decide +kernel
theorem dX10_layRows_52 : decode cX10_layRows 52 = .ok (.imul, 1) := by decide +kernel
theorem dX10_layRows_53 : decode cX10_layRows 53 = .ok (.iconst 0, 1) := by decide +kernel
theorem dX10_layRows_54 : decode cX10_layRows 54 = .ok (.iadd, 1) := by decide +kernel
theorem dX10_layRows_55 : decode cX10_layRows 55 = .ok (.iaload, 1) := by decide +kernel
theorem dX10_layRows_56 : decode cX10_layRows 56 = .ok (.istore_n 2, 1) := by decide +kernel
theorem dX10_layRows_57 : decode cX10_layRows 57 = .ok (.aload_n 0, 1) := by decide +kernel
theorem dX10_layRows_58 : decode cX10_layRows 58 = .ok (.getfield 41, 3) := by decide +kernel
theorem dX10_layRows_61 : decode cX10_layRows 61 = .ok (.bipush 20, 2) := by decide +kernel
theorem dX10_layRows_63 : decode cX10_layRows 63 = .ok (.iload_n 2, 1) := by decide +kernel
theorem dX10_layRows_64 : decode cX10_layRows 64 = .ok (.imul, 1) := by decide +kernel
theorem dX10_layRows_65 : decode cX10_layRows 65 = .ok (.aload_n 0, 1) := by decide +kernel
theorem dX10_layRows_66 : decode cX10_layRows 66 = .ok (.getfield 44, 3) := by decide +kernel
theorem dX10_layRows_69 : decode cX10_layRows 69 = .ok (.iload_n 2, 1) := by decide +kernel
theorem dX10_layRows_70 : decode cX10_layRows 70 = .ok (.iaload, 1) := by decide +kernel
theorem dX10_layRows_71 : decode cX10_layRows 71 = .ok (.iadd, 1) := by decide +kernel
theorem dX10_layRows_72 : decode cX10_layRows 72 = .ok (.iload_n 1, 1) := by decide +kernel
theorem dX10_layRows_73 : decode cX10_layRows 73 = .ok (.iastore, 1) := by decide +kernel
theorem dX10_layRows_74 : decode cX10_layRows 74 = .ok (.aload_n 0, 1) := by decide +kernel
theorem dX10_layRows_75 : decode cX10_layRows 75 = .ok (.getfield 44, 3) := by decide +kernel
theorem dX10_layRows_78 : decode cX10_layRows 78 = .ok (.iload_n 2, 1) := by decide +kernel
theorem dX10_layRows_79 : decode cX10_layRows 79 = .ok (.dup2, 1) := by decide +kernel
theorem dX10_layRows_80 : decode cX10_layRows 80 = .ok (.iaload, 1) := by decide +kernel
theorem dX10_layRows_81 : decode cX10_layRows 81 = .ok (.iconst 1, 1) := by decide +kernel
theorem dX10_layRows_82 : decode cX10_layRows 82 = .ok (.iadd, 1) := by decide +kernel
theorem dX10_layRows_83 : decode cX10_layRows 83 = .ok (.iastore, 1) := by decide +kernel
theorem dX10_layRows_84 : decode cX10_layRows 84 = .ok (.iinc 1 1, 3) := by decide +kernel
theorem dX10_layRows_87 : decode cX10_layRows 87 = .ok (.goto (-65), 3) := by decide +kernel
theorem dX10_layRows_90 : decode cX10_layRows 90 = .ok (.return_, 1) := by decide +kernel
theorem dX10_mayCome_0 : decode cX10_mayCome 0 = .ok (.aload_n 0, 1) := by decide +kernel
theorem dX10_mayCome_1 : decode cX10_mayCome 1 = .ok (.getfield 305, 3) := by decide +kernel
theorem dX10_mayCome_4 : decode cX10_mayCome 4 = .ok (.iconst 1, 1) := by decide +kernel
theorem dX10_mayCome_5 : decode cX10_mayCome 5 = .ok (.if_icmp .ne 5, 3) := by decide +kernel
theorem dX10_mayCome_8 : decode cX10_mayCome 8 = .ok (.iconst 1, 1) := by decide +kernel
theorem dX10_mayCome_9 : decode cX10_mayCome 9 = .ok (.ireturn, 1) := by decide +kernel
theorem dX10_mayCome_10 : decode cX10_mayCome 10 = .ok (.aload_n 0, 1) := by decide +kernel
theorem dX10_mayCome_11 : decode cX10_mayCome 11 = .ok (.getfield 305, 3) := by decide +kernel
theorem dX10_mayCome_14 : decode cX10_mayCome 14 = .ok (.iconst 2, 1) := by decide +kernel
theorem dX10_mayCome_15 : decode cX10_mayCome 15 = .ok (.if_icmp .ne 10, 3) := by decide +kernel
theorem dX10_mayCome_18 : decode cX10_mayCome 18 = .ok (.aload_n 0, 1) := by decide +kernel
theorem dX10_mayCome_19 : decode cX10_mayCome 19 = .ok (.getfield 296, 3) := by decide +kernel
theorem dX10_mayCome_22 : decode cX10_mayCome 22 = .ok (.goto 4, 3) := by decide +kernel
theorem dX10_mayCome_25 : decode cX10_mayCome 25 = .ok (.iconst 0, 1) := by decide +kernel
theorem dX10_mayCome_26 : decode cX10_mayCome 26 = .ok (.istore_n 3, 1) := by decide +kernel
theorem dX10_mayCome_27 : decode cX10_mayCome 27 = .ok (.iconst 1, 1) := by decide +kernel
theorem dX10_mayCome_28 : decode cX10_mayCome 28 = .ok (.istore 4, 2) := by decide +kernel
theorem dX10_mayCome_30 : decode cX10_mayCome 30 = .ok (.iconst 0, 1) := by decide +kernel
theorem dX10_mayCome_31 : decode cX10_mayCome 31 = .ok (.istore 5, 2) := by decide +kernel
theorem dX10_mayCome_33 : decode cX10_mayCome 33 = .ok (.iload 5, 2) := by decide +kernel
theorem dX10_mayCome_35 : decode cX10_mayCome 35 = .ok (.iconst 4, 1) := by decide +kernel
theorem dX10_mayCome_36 : decode cX10_mayCome 36 = .ok (.if_icmp .ge 107, 3) := by decide +kernel
theorem dX10_mayCome_39 : decode cX10_mayCome 39 = .ok (.iload 4, 2) := by decide +kernel
theorem dX10_mayCome_41 : decode cX10_mayCome 41 = .ok (.ifCond .eq 102, 3) := by decide +kernel
theorem dX10_mayCome_44 : decode cX10_mayCome 44 = .ok (.aload_n 0, 1) := by decide +kernel
theorem dX10_mayCome_45 : decode cX10_mayCome 45 = .ok (.getfield 47, 3) := by decide +kernel
theorem dX10_mayCome_48 : decode cX10_mayCome 48 = .ok (.iconst 4, 1) := by decide +kernel
theorem dX10_mayCome_49 : decode cX10_mayCome 49 = .ok (.iload_n 1, 1) := by decide +kernel
theorem dX10_mayCome_50 : decode cX10_mayCome 50 = .ok (.imul, 1) := by decide +kernel
theorem dX10_mayCome_51 : decode cX10_mayCome 51 = .ok (.iload 5, 2) := by decide +kernel
theorem dX10_mayCome_53 : decode cX10_mayCome 53 = .ok (.iadd, 1) := by decide +kernel
theorem dX10_mayCome_54 : decode cX10_mayCome 54 = .ok (.iaload, 1) := by decide +kernel
theorem dX10_mayCome_55 : decode cX10_mayCome 55 = .ok (.istore 6, 2) := by decide +kernel
theorem dX10_mayCome_57 : decode cX10_mayCome 57 = .ok (.iload 6, 2) := by decide +kernel
theorem dX10_mayCome_59 : decode cX10_mayCome 59 = .ok (.aload_n 0, 1) := by decide +kernel
theorem dX10_mayCome_60 : decode cX10_mayCome 60 = .ok (.getfield 44, 3) := by decide +kernel
theorem dX10_mayCome_63 : decode cX10_mayCome 63 = .ok (.iload 5, 2) := by decide +kernel
theorem dX10_mayCome_65 : decode cX10_mayCome 65 = .ok (.iaload, 1) := by decide +kernel
theorem dX10_mayCome_66 : decode cX10_mayCome 66 = .ok (.if_icmp .ge 71, 3) := by decide +kernel
theorem dX10_mayCome_69 : decode cX10_mayCome 69 = .ok (.iload 4, 2) := by decide +kernel
theorem dX10_mayCome_71 : decode cX10_mayCome 71 = .ok (.ifCond .eq 66, 3) := by decide +kernel
theorem dX10_mayCome_74 : decode cX10_mayCome 74 = .ok (.aload_n 0, 1) := by decide +kernel
theorem dX10_mayCome_75 : decode cX10_mayCome 75 = .ok (.getfield 38, 3) := by decide +kernel
theorem dX10_mayCome_78 : decode cX10_mayCome 78 = .ok (.bipush 7, 2) := by decide +kernel
theorem dX10_mayCome_80 : decode cX10_mayCome 80 = .ok (.aload_n 0, 1) := by decide +kernel
theorem dX10_mayCome_81 : decode cX10_mayCome 81 = .ok (.getfield 41, 3) := by decide +kernel
theorem dX10_mayCome_84 : decode cX10_mayCome 84 = .ok (.bipush 20, 2) := by decide +kernel
theorem dX10_mayCome_86 : decode cX10_mayCome 86 = .ok (.iload 5, 2) := by decide +kernel
theorem dX10_mayCome_88 : decode cX10_mayCome 88 = .ok (.imul, 1) := by decide +kernel
theorem dX10_mayCome_89 : decode cX10_mayCome 89 = .ok (.iload 6, 2) := by decide +kernel
theorem dX10_mayCome_91 : decode cX10_mayCome 91 = .ok (.iadd, 1) := by decide +kernel
theorem dX10_mayCome_92 : decode cX10_mayCome 92 = .ok (.iaload, 1) := by decide +kernel
theorem dX10_mayCome_93 : decode cX10_mayCome 93 = .ok (.imul, 1) := by decide +kernel
theorem dX10_mayCome_94 : decode cX10_mayCome 94 = .ok (.iconst 5, 1) := by decide +kernel
theorem dX10_mayCome_95 : decode cX10_mayCome 95 = .ok (.iadd, 1) := by decide +kernel
theorem dX10_mayCome_96 : decode cX10_mayCome 96 = .ok (.iaload, 1) := by decide +kernel
theorem dX10_mayCome_97 : decode cX10_mayCome 97 = .ok (.istore 7, 2) := by decide +kernel
theorem dX10_mayCome_99 : decode cX10_mayCome 99 = .ok (.iload 7, 2) := by decide +kernel
theorem dX10_mayCome_101 : decode cX10_mayCome 101 = .ok (.bipush (-2), 2) := by decide +kernel
theorem dX10_mayCome_103 : decode cX10_mayCome 103 = .ok (.if_icmp .eq 21, 3) := by decide +kernel
theorem dX10_mayCome_106 : decode cX10_mayCome 106 = .ok (.iload 7, 2) := by decide +kernel
theorem dX10_mayCome_108 : decode cX10_mayCome 108 = .ok (.iload_n 3, 1) := by decide +kernel
theorem dX10_mayCome_109 : decode cX10_mayCome 109 = .ok (.iadd, 1) := by decide +kernel
theorem dX10_mayCome_110 : decode cX10_mayCome 110 = .ok (.aload_n 0, 1) := by decide +kernel
theorem dX10_mayCome_111 : decode cX10_mayCome 111 = .ok (.getfield 38, 3) := by decide +kernel
theorem dX10_mayCome_114 : decode cX10_mayCome 114 = .ok (.bipush 7, 2) := by decide +kernel
theorem dX10_mayCome_116 : decode cX10_mayCome 116 = .ok (.iload_n 2, 1) := by decide +kernel
theorem dX10_mayCome_117 : decode cX10_mayCome 117 = .ok (.imul, 1) := by decide +kernel
theorem dX10_mayCome_118 : decode cX10_mayCome 118 = .ok (.iconst 4, 1) := by decide +kernel
theorem dX10_mayCome_119 : decode cX10_mayCome 119 = .ok (.iadd, 1) := by decide +kernel
theorem dX10_mayCome_120 : decode cX10_mayCome 120 = .ok (.iaload, 1) := by decide +kernel
theorem dX10_mayCome_121 : decode cX10_mayCome 121 = .ok (.if_icmp .lt 7, 3) := by decide +kernel
theorem dX10_mayCome_124 : decode cX10_mayCome 124 = .ok (.iconst 1, 1) := by decide +kernel
theorem dX10_mayCome_125 : decode cX10_mayCome 125 = .ok (.goto 4, 3) := by decide +kernel
theorem dX10_mayCome_128 : decode cX10_mayCome 128 = .ok (.iconst 0, 1) := by decide +kernel
theorem dX10_mayCome_129 : decode cX10_mayCome 129 = .ok (.istore 4, 2) := by decide +kernel
theorem dX10_mayCome_131 : decode cX10_mayCome 131 = .ok (.iinc 6 1, 3) := by decide +kernel
theorem dX10_mayCome_134 : decode cX10_mayCome 134 = .ok (.goto (-77), 3) := by decide +kernel
theorem dX10_mayCome_137 : decode cX10_mayCome 137 = .ok (.iinc 5 1, 3) := by decide +kernel
theorem dX10_mayCome_140 : decode cX10_mayCome 140 = .ok (.goto (-107), 3) := by decide +kernel
theorem dX10_mayCome_143 : decode cX10_mayCome 143 = .ok (.iload 4, 2) := by decide +kernel
theorem dX10_mayCome_145 : decode cX10_mayCome 145 = .ok (.ireturn, 1) := by decide +kernel
theorem dX10_findStand_0 : decode cX10_findStand 0 = .ok (.lconst 0, 1) := by decide +kernel
theorem dX10_findStand_1 : decode cX10_findStand 1 = .ok (.lstore_n 2, 1) := by decide +kernel
theorem dX10_findStand_2 : decode cX10_findStand 2 = .ok (.iconst 0, 1) := by decide +kernel
theorem dX10_findStand_3 : decode cX10_findStand 3 = .ok (.istore 4, 2) := by decide +kernel
theorem dX10_findStand_5 : decode cX10_findStand 5 = .ok (.iload 4, 2) := by decide +kernel
theorem dX10_findStand_7 : decode cX10_findStand 7 = .ok (.iconst 4, 1) := by decide +kernel
theorem dX10_findStand_8 : decode cX10_findStand 8 = .ok (.if_icmp .ge 28, 3) := by decide +kernel
theorem dX10_findStand_11 : decode cX10_findStand 11 = .ok (.ldc2_w 308, 3) := by decide +kernel
theorem dX10_findStand_14 : decode cX10_findStand 14 = .ok (.lload_n 2, 1) := by decide +kernel
theorem dX10_findStand_15 : decode cX10_findStand 15 = .ok (.lmul, 1) := by decide +kernel
theorem dX10_findStand_16 : decode cX10_findStand 16 = .ok (.aload_n 0, 1) := by decide +kernel
theorem dX10_findStand_17 : decode cX10_findStand 17 = .ok (.getfield 47, 3) := by decide +kernel
theorem dX10_findStand_20 : decode cX10_findStand 20 = .ok (.iconst 4, 1) := by decide +kernel
theorem dX10_findStand_21 : decode cX10_findStand 21 = .ok (.iload_n 1, 1) := by decide +kernel
theorem dX10_findStand_22 : decode cX10_findStand 22 = .ok (.imul, 1) := by decide +kernel
theorem dX10_findStand_23 : decode cX10_findStand 23 = .ok (.iload 4, 2) := by decide +kernel
theorem dX10_findStand_25 : decode cX10_findStand 25 = .ok (.iadd, 1) := by decide +kernel
theorem dX10_findStand_26 : decode cX10_findStand 26 = .ok (.iaload, 1) := by decide +kernel
theorem dX10_findStand_27 : decode cX10_findStand 27 = .ok (.i2l, 1) := by decide +kernel
theorem dX10_findStand_28 : decode cX10_findStand 28 = .ok (.ladd, 1) := by decide +kernel
theorem dX10_findStand_29 : decode cX10_findStand 29 = .ok (.lstore_n 2, 1) := by decide +kernel
theorem dX10_findStand_30 : decode cX10_findStand 30 = .ok (.iinc 4 1, 3) := by decide +kernel
theorem dX10_findStand_33 : decode cX10_findStand 33 = .ok (.goto (-28), 3) := by decide +kernel
theorem dX10_findStand_36 : decode cX10_findStand 36 = .ok (.iconst 0, 1) := by decide +kernel
theorem dX10_findStand_37 : decode cX10_findStand 37 = .ok (.istore 4, 2) := by decide +kernel
theorem dX10_findStand_39 : decode cX10_findStand 39 = .ok (.iload 4, 2) := by decide +kernel
theorem dX10_findStand_41 : decode cX10_findStand 41 = .ok (.iconst 3, 1) := by decide +kernel
theorem dX10_findStand_42 : decode cX10_findStand 42 = .ok (.if_icmp .ge 27, 3) := by decide +kernel
theorem dX10_findStand_45 : decode cX10_findStand 45 = .ok (.ldc2_w 310, 3) := by decide +kernel
theorem dX10_findStand_48 : decode cX10_findStand 48 = .ok (.lload_n 2, 1) := by decide +kernel
theorem dX10_findStand_49 : decode cX10_findStand 49 = .ok (.lmul, 1) := by decide +kernel
theorem dX10_findStand_50 : decode cX10_findStand 50 = .ok (.aload_n 0, 1) := by decide +kernel
theorem dX10_findStand_51 : decode cX10_findStand 51 = .ok (.getfield 59, 3) := by decide +kernel
theorem dX10_findStand_54 : decode cX10_findStand 54 = .ok (.iconst 3, 1) := by decide +kernel
theorem dX10_findStand_55 : decode cX10_findStand 55 = .ok (.iload_n 1, 1) := by decide +kernel
theorem dX10_findStand_56 : decode cX10_findStand 56 = .ok (.imul, 1) := by decide +kernel
theorem dX10_findStand_57 : decode cX10_findStand 57 = .ok (.iload 4, 2) := by decide +kernel
theorem dX10_findStand_59 : decode cX10_findStand 59 = .ok (.iadd, 1) := by decide +kernel
theorem dX10_findStand_60 : decode cX10_findStand 60 = .ok (.laload, 1) := by decide +kernel
theorem dX10_findStand_61 : decode cX10_findStand 61 = .ok (.ladd, 1) := by decide +kernel
theorem dX10_findStand_62 : decode cX10_findStand 62 = .ok (.lstore_n 2, 1) := by decide +kernel
theorem dX10_findStand_63 : decode cX10_findStand 63 = .ok (.iinc 4 1, 3) := by decide +kernel
theorem dX10_findStand_66 : decode cX10_findStand 66 = .ok (.goto (-27), 3) := by decide +kernel
theorem dX10_findStand_69 : decode cX10_findStand 69 = .ok (.lload_n 2, 1) := by decide +kernel
theorem dX10_findStand_70 : decode cX10_findStand 70 = .ok (.lload_n 2, 1) := by decide +kernel
theorem dX10_findStand_71 : decode cX10_findStand 71 = .ok (.bipush 17, 2) := by decide +kernel
theorem dX10_findStand_73 : decode cX10_findStand 73 = .ok (.lshr, 1) := by decide +kernel
theorem dX10_findStand_74 : decode cX10_findStand 74 = .ok (.lxor, 1) := by decide +kernel
theorem dX10_findStand_75 : decode cX10_findStand 75 = .ok (.ldc2_w 312, 3) := by decide +kernel
theorem dX10_findStand_78 : decode cX10_findStand 78 = .ok (.land, 1) := by decide +kernel
theorem dX10_findStand_79 : decode cX10_findStand 79 = .ok (.l2i, 1) := by decide +kernel
theorem dX10_findStand_80 : decode cX10_findStand 80 = .ok (.istore 4, 2) := by decide +kernel
theorem dX10_findStand_82 : decode cX10_findStand 82 = .ok (.aload_n 0, 1) := by decide +kernel
theorem dX10_findStand_83 : decode cX10_findStand 83 = .ok (.getfield 56, 3) := by decide +kernel
theorem dX10_findStand_86 : decode cX10_findStand 86 = .ok (.iload 4, 2) := by decide +kernel
theorem dX10_findStand_88 : decode cX10_findStand 88 = .ok (.iaload, 1) := by decide +kernel
theorem dX10_findStand_89 : decode cX10_findStand 89 = .ok (.ifCond .lt 143, 3) := by decide +kernel
theorem dX10_findStand_92 : decode cX10_findStand 92 = .ok (.aload_n 0, 1) := by decide +kernel
theorem dX10_findStand_93 : decode cX10_findStand 93 = .ok (.getfield 56, 3) := by decide +kernel
theorem dX10_findStand_96 : decode cX10_findStand 96 = .ok (.iload 4, 2) := by decide +kernel
theorem dX10_findStand_98 : decode cX10_findStand 98 = .ok (.iaload, 1) := by decide +kernel
theorem dX10_findStand_99 : decode cX10_findStand 99 = .ok (.istore 5, 2) := by decide +kernel
theorem dX10_findStand_101 : decode cX10_findStand 101 = .ok (.iconst 1, 1) := by decide +kernel
theorem dX10_findStand_102 : decode cX10_findStand 102 = .ok (.istore 6, 2) := by decide +kernel
theorem dX10_findStand_104 : decode cX10_findStand 104 = .ok (.iconst 0, 1) := by decide +kernel
theorem dX10_findStand_105 : decode cX10_findStand 105 = .ok (.istore 7, 2) := by decide +kernel
theorem dX10_findStand_107 : decode cX10_findStand 107 = .ok (.iload 7, 2) := by decide +kernel
theorem dX10_findStand_109 : decode cX10_findStand 109 = .ok (.iconst 4, 1) := by decide +kernel
theorem dX10_findStand_110 : decode cX10_findStand 110 = .ok (.if_icmp .ge 47, 3) := by decide +kernel
theorem dX10_findStand_113 : decode cX10_findStand 113 = .ok (.iload 6, 2) := by decide +kernel
theorem dX10_findStand_115 : decode cX10_findStand 115 = .ok (.ifCond .eq 33, 3) := by decide +kernel
theorem dX10_findStand_118 : decode cX10_findStand 118 = .ok (.aload_n 0, 1) := by decide +kernel
theorem dX10_findStand_119 : decode cX10_findStand 119 = .ok (.getfield 47, 3) := by decide +kernel
theorem dX10_findStand_122 : decode cX10_findStand 122 = .ok (.iconst 4, 1) := by decide +kernel
theorem dX10_findStand_123 : decode cX10_findStand 123 = .ok (.iload 5, 2) := by decide +kernel
theorem dX10_findStand_125 : decode cX10_findStand 125 = .ok (.imul, 1) := by decide +kernel
theorem dX10_findStand_126 : decode cX10_findStand 126 = .ok (.iload 7, 2) := by decide +kernel
theorem dX10_findStand_128 : decode cX10_findStand 128 = .ok (.iadd, 1) := by decide +kernel
theorem dX10_findStand_129 : decode cX10_findStand 129 = .ok (.iaload, 1) := by decide +kernel
theorem dX10_findStand_130 : decode cX10_findStand 130 = .ok (.aload_n 0, 1) := by decide +kernel
theorem dX10_findStand_131 : decode cX10_findStand 131 = .ok (.getfield 47, 3) := by decide +kernel
theorem dX10_findStand_134 : decode cX10_findStand 134 = .ok (.iconst 4, 1) := by decide +kernel
theorem dX10_findStand_135 : decode cX10_findStand 135 = .ok (.iload_n 1, 1) := by decide +kernel
theorem dX10_findStand_136 : decode cX10_findStand 136 = .ok (.imul, 1) := by decide +kernel
theorem dX10_findStand_137 : decode cX10_findStand 137 = .ok (.iload 7, 2) := by decide +kernel
theorem dX10_findStand_139 : decode cX10_findStand 139 = .ok (.iadd, 1) := by decide +kernel
theorem dX10_findStand_140 : decode cX10_findStand 140 = .ok (.iaload, 1) := by decide +kernel
theorem dX10_findStand_141 : decode cX10_findStand 141 = .ok (.if_icmp .ne 7, 3) := by decide +kernel
theorem dX10_findStand_144 : decode cX10_findStand 144 = .ok (.iconst 1, 1) := by decide +kernel
theorem dX10_findStand_145 : decode cX10_findStand 145 = .ok (.goto 4, 3) := by decide +kernel
theorem dX10_findStand_148 : decode cX10_findStand 148 = .ok (.iconst 0, 1) := by decide +kernel
theorem dX10_findStand_149 : decode cX10_findStand 149 = .ok (.istore 6, 2) := by decide +kernel
theorem dX10_findStand_151 : decode cX10_findStand 151 = .ok (.iinc 7 1, 3) := by decide +kernel
theorem dX10_findStand_154 : decode cX10_findStand 154 = .ok (.goto (-47), 3) := by decide +kernel
theorem dX10_findStand_157 : decode cX10_findStand 157 = .ok (.iconst 0, 1) := by decide +kernel
theorem dX10_findStand_158 : decode cX10_findStand 158 = .ok (.istore 7, 2) := by decide +kernel
theorem dX10_findStand_160 : decode cX10_findStand 160 = .ok (.iload 7, 2) := by decide +kernel
theorem dX10_findStand_162 : decode cX10_findStand 162 = .ok (.iconst 3, 1) := by decide +kernel
theorem dX10_findStand_163 : decode cX10_findStand 163 = .ok (.if_icmp .ge 48, 3) := by decide +kernel
theorem dX10_findStand_166 : decode cX10_findStand 166 = .ok (.iload 6, 2) := by decide +kernel
theorem dX10_findStand_168 : decode cX10_findStand 168 = .ok (.ifCond .eq 34, 3) := by decide +kernel
theorem dX10_findStand_171 : decode cX10_findStand 171 = .ok (.aload_n 0, 1) := by decide +kernel
theorem dX10_findStand_172 : decode cX10_findStand 172 = .ok (.getfield 59, 3) := by decide +kernel
theorem dX10_findStand_175 : decode cX10_findStand 175 = .ok (.iconst 3, 1) := by decide +kernel
theorem dX10_findStand_176 : decode cX10_findStand 176 = .ok (.iload 5, 2) := by decide +kernel
theorem dX10_findStand_178 : decode cX10_findStand 178 = .ok (.imul, 1) := by decide +kernel
theorem dX10_findStand_179 : decode cX10_findStand 179 = .ok (.iload 7, 2) := by decide +kernel
theorem dX10_findStand_181 : decode cX10_findStand 181 = .ok (.iadd, 1) := by decide +kernel
theorem dX10_findStand_182 : decode cX10_findStand 182 = .ok (.laload, 1) := by decide +kernel
theorem dX10_findStand_183 : decode cX10_findStand 183 = .ok (.aload_n 0, 1) := by decide +kernel
theorem dX10_findStand_184 : decode cX10_findStand 184 = .ok (.getfield 59, 3) := by decide +kernel
theorem dX10_findStand_187 : decode cX10_findStand 187 = .ok (.iconst 3, 1) := by decide +kernel
theorem dX10_findStand_188 : decode cX10_findStand 188 = .ok (.iload_n 1, 1) := by decide +kernel
theorem dX10_findStand_189 : decode cX10_findStand 189 = .ok (.imul, 1) := by decide +kernel
theorem dX10_findStand_190 : decode cX10_findStand 190 = .ok (.iload 7, 2) := by decide +kernel
theorem dX10_findStand_192 : decode cX10_findStand 192 = .ok (.iadd, 1) := by decide +kernel
theorem dX10_findStand_193 : decode cX10_findStand 193 = .ok (.laload, 1) := by decide +kernel
theorem dX10_findStand_194 : decode cX10_findStand 194 = .ok (.lcmp, 1) := by decide +kernel
theorem dX10_findStand_195 : decode cX10_findStand 195 = .ok (.ifCond .ne 7, 3) := by decide +kernel
theorem dX10_findStand_198 : decode cX10_findStand 198 = .ok (.iconst 1, 1) := by decide +kernel
theorem dX10_findStand_199 : decode cX10_findStand 199 = .ok (.goto 4, 3) := by decide +kernel
theorem dX10_findStand_202 : decode cX10_findStand 202 = .ok (.iconst 0, 1) := by decide +kernel
theorem dX10_findStand_203 : decode cX10_findStand 203 = .ok (.istore 6, 2) := by decide +kernel
theorem dX10_findStand_205 : decode cX10_findStand 205 = .ok (.iinc 7 1, 3) := by decide +kernel
theorem dX10_findStand_208 : decode cX10_findStand 208 = .ok (.goto (-48), 3) := by decide +kernel
theorem dX10_findStand_211 : decode cX10_findStand 211 = .ok (.iload 6, 2) := by decide +kernel
theorem dX10_findStand_213 : decode cX10_findStand 213 = .ok (.ifCond .eq 6, 3) := by decide +kernel
theorem dX10_findStand_216 : decode cX10_findStand 216 = .ok (.iload 5, 2) := by decide +kernel
theorem dX10_findStand_218 : decode cX10_findStand 218 = .ok (.ireturn, 1) := by decide +kernel
theorem dX10_findStand_219 : decode cX10_findStand 219 = .ok (.iload 4, 2) := by decide +kernel
theorem dX10_findStand_221 : decode cX10_findStand 221 = .ok (.iconst 1, 1) := by decide +kernel
theorem dX10_findStand_222 : decode cX10_findStand 222 = .ok (.iadd, 1) := by decide +kernel
theorem dX10_findStand_223 : decode cX10_findStand 223 = .ok (.sipush 16383, 3) := by decide +kernel
theorem dX10_findStand_226 : decode cX10_findStand 226 = .ok (.iand, 1) := by decide +kernel
theorem dX10_findStand_227 : decode cX10_findStand 227 = .ok (.istore 4, 2) := by decide +kernel
theorem dX10_findStand_229 : decode cX10_findStand 229 = .ok (.goto (-147), 3) := by decide +kernel
theorem dX10_findStand_232 : decode cX10_findStand 232 = .ok (.iload_n 1, 1) := by decide +kernel
theorem dX10_findStand_233 : decode cX10_findStand 233 = .ok (.sipush 6000, 3) := by decide +kernel
theorem dX10_findStand_236 : decode cX10_findStand 236 = .ok (.if_icmp .ne 10, 3) := by decide +kernel
theorem dX10_findStand_239 : decode cX10_findStand 239 = .ok (.aload_n 0, 1) := by decide +kernel
theorem dX10_findStand_240 : decode cX10_findStand 240 = .ok (.iconst 1, 1) := by decide +kernel
theorem dX10_findStand_241 : decode cX10_findStand 241 = .ok (.putfield 314, 3) := by decide +kernel
theorem dX10_findStand_244 : decode cX10_findStand 244 = .ok (.iconst (-1), 1) := by decide +kernel
theorem dX10_findStand_245 : decode cX10_findStand 245 = .ok (.ireturn, 1) := by decide +kernel
theorem dX10_findStand_246 : decode cX10_findStand 246 = .ok (.aload_n 0, 1) := by decide +kernel
theorem dX10_findStand_247 : decode cX10_findStand 247 = .ok (.getfield 56, 3) := by decide +kernel
theorem dX10_findStand_250 : decode cX10_findStand 250 = .ok (.iload 4, 2) := by decide +kernel
theorem dX10_findStand_252 : decode cX10_findStand 252 = .ok (.iload_n 1, 1) := by decide +kernel
theorem dX10_findStand_253 : decode cX10_findStand 253 = .ok (.iastore, 1) := by decide +kernel
theorem dX10_findStand_254 : decode cX10_findStand 254 = .ok (.aload_n 0, 1) := by decide +kernel
theorem dX10_findStand_255 : decode cX10_findStand 255 = .ok (.dup, 1) := by decide +kernel
theorem dX10_findStand_256 : decode cX10_findStand 256 = .ok (.getfield 317, 3) := by decide +kernel
theorem dX10_findStand_259 : decode cX10_findStand 259 = .ok (.iconst 1, 1) := by decide +kernel
theorem dX10_findStand_260 : decode cX10_findStand 260 = .ok (.iadd, 1) := by decide +kernel
theorem dX10_findStand_261 : decode cX10_findStand 261 = .ok (.putfield 317, 3) := by decide +kernel
theorem dX10_findStand_264 : decode cX10_findStand 264 = .ok (.iload_n 1, 1) := by decide +kernel
theorem dX10_findStand_265 : decode cX10_findStand 265 = .ok (.ireturn, 1) := by decide +kernel
theorem dX10_comes_0 : decode cX10_comes 0 = .ok (.aload_n 0, 1) := by decide +kernel
theorem dX10_comes_1 : decode cX10_comes 1 = .ok (.iload_n 1, 1) := by decide +kernel
theorem dX10_comes_2 : decode cX10_comes 2 = .ok (.putfield 305, 3) := by decide +kernel
theorem dX10_comes_5 : decode cX10_comes 5 = .ok (.aload_n 0, 1) := by decide +kernel
theorem dX10_comes_6 : decode cX10_comes 6 = .ok (.iconst 0, 1) := by decide +kernel
theorem dX10_comes_7 : decode cX10_comes 7 = .ok (.putfield 314, 3) := by decide +kernel
theorem dX10_comes_10 : decode cX10_comes 10 = .ok (.aload_n 0, 1) := by decide +kernel
theorem dX10_comes_11 : decode cX10_comes 11 = .ok (.iconst 0, 1) := by decide +kernel
theorem dX10_comes_12 : decode cX10_comes 12 = .ok (.putfield 317, 3) := by decide +kernel
theorem dX10_comes_15 : decode cX10_comes 15 = .ok (.aload_n 0, 1) := by decide +kernel
theorem dX10_comes_16 : decode cX10_comes 16 = .ok (.invokevirtual 320, 3) := by decide +kernel
theorem dX10_comes_19 : decode cX10_comes 19 = .ok (.iconst 0, 1) := by decide +kernel
theorem dX10_comes_20 : decode cX10_comes 20 = .ok (.istore_n 2, 1) := by decide +kernel
theorem dX10_comes_21 : decode cX10_comes 21 = .ok (.iload_n 2, 1) := by decide +kernel
theorem dX10_comes_22 : decode cX10_comes 22 = .ok (.sipush 16384, 3) := by decide +kernel
theorem dX10_comes_25 : decode cX10_comes 25 = .ok (.if_icmp .ge 16, 3) := by decide +kernel
theorem dX10_comes_28 : decode cX10_comes 28 = .ok (.aload_n 0, 1) := by decide +kernel
theorem dX10_comes_29 : decode cX10_comes 29 = .ok (.getfield 56, 3) := by decide +kernel
theorem dX10_comes_32 : decode cX10_comes 32 = .ok (.iload_n 2, 1) := by decide +kernel
theorem dX10_comes_33 : decode cX10_comes 33 = .ok (.iconst (-1), 1) := by decide +kernel
theorem dX10_comes_34 : decode cX10_comes 34 = .ok (.iastore, 1) := by decide +kernel
theorem dX10_comes_35 : decode cX10_comes 35 = .ok (.iinc 2 1, 3) := by decide +kernel
theorem dX10_comes_38 : decode cX10_comes 38 = .ok (.goto (-17), 3) := by decide +kernel
theorem dX10_comes_41 : decode cX10_comes 41 = .ok (.iconst 0, 1) := by decide +kernel
theorem dX10_comes_42 : decode cX10_comes 42 = .ok (.istore_n 2, 1) := by decide +kernel
theorem dX10_comes_43 : decode cX10_comes 43 = .ok (.iload_n 2, 1) := by decide +kernel
theorem dX10_comes_44 : decode cX10_comes 44 = .ok (.iconst 4, 1) := by decide +kernel
theorem dX10_comes_45 : decode cX10_comes 45 = .ok (.if_icmp .ge 16, 3) := by decide +kernel
theorem dX10_comes_48 : decode cX10_comes 48 = .ok (.aload_n 0, 1) := by decide +kernel
theorem dX10_comes_49 : decode cX10_comes 49 = .ok (.getfield 47, 3) := by decide +kernel
theorem dX10_comes_52 : decode cX10_comes 52 = .ok (.iload_n 2, 1) := by decide +kernel
theorem dX10_comes_53 : decode cX10_comes 53 = .ok (.iconst 0, 1) := by decide +kernel
theorem dX10_comes_54 : decode cX10_comes 54 = .ok (.iastore, 1) := by decide +kernel
theorem dX10_comes_55 : decode cX10_comes 55 = .ok (.iinc 2 1, 3) := by decide +kernel
theorem dX10_comes_58 : decode cX10_comes 58 = .ok (.goto (-15), 3) := by decide +kernel
theorem dX10_comes_61 : decode cX10_comes 61 = .ok (.iconst 0, 1) := by decide +kernel
theorem dX10_comes_62 : decode cX10_comes 62 = .ok (.istore_n 2, 1) := by decide +kernel
theorem dX10_comes_63 : decode cX10_comes 63 = .ok (.iload_n 2, 1) := by decide +kernel
theorem dX10_comes_64 : decode cX10_comes 64 = .ok (.iconst 3, 1) := by decide +kernel
theorem dX10_comes_65 : decode cX10_comes 65 = .ok (.if_icmp .ge 40, 3) := by decide +kernel
theorem dX10_comes_68 : decode cX10_comes 68 = .ok (.aload_n 0, 1) := by decide +kernel
theorem dX10_comes_69 : decode cX10_comes 69 = .ok (.getfield 59, 3) := by decide +kernel
theorem dX10_comes_72 : decode cX10_comes 72 = .ok (.iload_n 2, 1) := by decide +kernel
theorem dX10_comes_73 : decode cX10_comes 73 = .ok (.iload_n 2, 1) := by decide +kernel
theorem dX10_comes_74 : decode cX10_comes 74 = .ok (.aload_n 0, 1) := by decide +kernel
theorem dX10_comes_75 : decode cX10_comes 75 = .ok (.getfield 20, 3) := by decide +kernel
theorem dX10_comes_78 : decode cX10_comes 78 = .ok (.iconst 2, 1) := by decide +kernel
theorem dX10_comes_79 : decode cX10_comes 79 = .ok (.iaload, 1) := by decide +kernel
theorem dX10_comes_80 : decode cX10_comes 80 = .ok (.if_icmp .ge 17, 3) := by decide +kernel
theorem dX10_comes_83 : decode cX10_comes 83 = .ok (.aload_n 0, 1) := by decide +kernel
theorem dX10_comes_84 : decode cX10_comes 84 = .ok (.getfield 20, 3) := by decide +kernel
theorem dX10_comes_87 : decode cX10_comes 87 = .ok (.iconst 3, 1) := by decide +kernel
theorem dX10_comes_88 : decode cX10_comes 88 = .ok (.iload_n 2, 1) := by decide +kernel
theorem dX10_comes_89 : decode cX10_comes 89 = .ok (.iadd, 1) := by decide +kernel
theorem dX10_comes_90 : decode cX10_comes 90 = .ok (.iaload, 1) := by decide +kernel
theorem dX10_comes_91 : decode cX10_comes 91 = .ok (.invokestatic 323, 3) := by decide +kernel
theorem dX10_comes_94 : decode cX10_comes 94 = .ok (.goto 4, 3) := by decide +kernel
theorem dX10_comes_97 : decode cX10_comes 97 = .ok (.lconst 0, 1) := by decide +kernel
theorem dX10_comes_98 : decode cX10_comes 98 = .ok (.lastore, 1) := by decide +kernel
theorem dX10_comes_99 : decode cX10_comes 99 = .ok (.iinc 2 1, 3) := by decide +kernel
theorem dX10_comes_102 : decode cX10_comes 102 = .ok (.goto (-39), 3) := by decide +kernel
theorem dX10_comes_105 : decode cX10_comes 105 = .ok (.aload_n 0, 1) := by decide +kernel
theorem dX10_comes_106 : decode cX10_comes 106 = .ok (.iconst 0, 1) := by decide +kernel
theorem dX10_comes_107 : decode cX10_comes 107 = .ok (.invokevirtual 327, 3) := by decide +kernel
theorem dX10_comes_110 : decode cX10_comes 110 = .ok (.istore_n 2, 1) := by decide +kernel
theorem dX10_comes_111 : decode cX10_comes 111 = .ok (.iload_n 2, 1) := by decide +kernel
theorem dX10_comes_112 : decode cX10_comes 112 = .ok (.istore_n 3, 1) := by decide +kernel
theorem dX10_comes_113 : decode cX10_comes 113 = .ok (.iload_n 3, 1) := by decide +kernel
theorem dX10_comes_114 : decode cX10_comes 114 = .ok (.aload_n 0, 1) := by decide +kernel
theorem dX10_comes_115 : decode cX10_comes 115 = .ok (.getfield 317, 3) := by decide +kernel
theorem dX10_comes_118 : decode cX10_comes 118 = .ok (.if_icmp .ge 45, 3) := by decide +kernel
theorem dX10_comes_121 : decode cX10_comes 121 = .ok (.aload_n 0, 1) := by decide +kernel
theorem dX10_comes_122 : decode cX10_comes 122 = .ok (.getfield 314, 3) := by decide +kernel
theorem dX10_comes_125 : decode cX10_comes 125 = .ok (.ifCond .ne 38, 3) := by decide +kernel
theorem dX10_comes_128 : decode cX10_comes 128 = .ok (.iconst 0, 1) := by decide +kernel
theorem dX10_comes_129 : decode cX10_comes 129 = .ok (.istore 4, 2) := by decide +kernel
theorem dX10_comes_131 : decode cX10_comes 131 = .ok (.iload 4, 2) := by decide +kernel
theorem dX10_comes_133 : decode cX10_comes 133 = .ok (.iconst 4, 1) := by decide +kernel
theorem dX10_comes_134 : decode cX10_comes 134 = .ok (.if_icmp .ge 23, 3) := by decide +kernel
theorem dX10_comes_137 : decode cX10_comes 137 = .ok (.aload_n 0, 1) := by decide +kernel
theorem dX10_comes_138 : decode cX10_comes 138 = .ok (.getfield 314, 3) := by decide +kernel
theorem dX10_comes_141 : decode cX10_comes 141 = .ok (.ifCond .ne 16, 3) := by decide +kernel
theorem dX10_comes_144 : decode cX10_comes 144 = .ok (.aload_n 0, 1) := by decide +kernel
theorem dX10_comes_145 : decode cX10_comes 145 = .ok (.iload_n 3, 1) := by decide +kernel
theorem dX10_comes_146 : decode cX10_comes 146 = .ok (.iload 4, 2) := by decide +kernel
theorem dX10_comes_148 : decode cX10_comes 148 = .ok (.invokevirtual 330, 3) := by decide +kernel
theorem dX10_comes_151 : decode cX10_comes 151 = .ok (.iinc 4 1, 3) := by decide +kernel
theorem dX10_comes_154 : decode cX10_comes 154 = .ok (.goto (-23), 3) := by decide +kernel
theorem dX10_comes_157 : decode cX10_comes 157 = .ok (.iinc 3 1, 3) := by decide +kernel
theorem dX10_comes_160 : decode cX10_comes 160 = .ok (.goto (-47), 3) := by decide +kernel
theorem dX10_comes_163 : decode cX10_comes 163 = .ok (.aload_n 0, 1) := by decide +kernel
theorem dX10_comes_164 : decode cX10_comes 164 = .ok (.getfield 314, 3) := by decide +kernel
theorem dX10_comes_167 : decode cX10_comes 167 = .ok (.ifCond .eq 5, 3) := by decide +kernel
theorem dX10_comes_170 : decode cX10_comes 170 = .ok (.iconst 0, 1) := by decide +kernel
theorem dX10_comes_171 : decode cX10_comes 171 = .ok (.ireturn, 1) := by decide +kernel
theorem dX10_comes_172 : decode cX10_comes 172 = .ok (.aload_n 0, 1) := by decide +kernel
theorem dX10_comes_173 : decode cX10_comes 173 = .ok (.getfield 317, 3) := by decide +kernel
theorem dX10_comes_176 : decode cX10_comes 176 = .ok (.iconst 1, 1) := by decide +kernel
theorem dX10_comes_177 : decode cX10_comes 177 = .ok (.isub, 1) := by decide +kernel
theorem dX10_comes_178 : decode cX10_comes 178 = .ok (.istore_n 3, 1) := by decide +kernel
theorem dX10_comes_179 : decode cX10_comes 179 = .ok (.iload_n 3, 1) := by decide +kernel
theorem dX10_comes_180 : decode cX10_comes 180 = .ok (.ifCond .lt 84, 3) := by decide +kernel
theorem dX10_comes_183 : decode cX10_comes 183 = .ok (.aload_n 0, 1) := by decide +kernel
theorem dX10_comes_184 : decode cX10_comes 184 = .ok (.iload_n 3, 1) := by decide +kernel
theorem dX10_comes_185 : decode cX10_comes 185 = .ok (.invokevirtual 333, 3) := by decide +kernel
theorem dX10_comes_188 : decode cX10_comes 188 = .ok (.istore 4, 2) := by decide +kernel
theorem dX10_comes_190 : decode cX10_comes 190 = .ok (.iconst 0, 1) := by decide +kernel
theorem dX10_comes_191 : decode cX10_comes 191 = .ok (.istore 5, 2) := by decide +kernel
theorem dX10_comes_193 : decode cX10_comes 193 = .ok (.iload 5, 2) := by decide +kernel
theorem dX10_comes_195 : decode cX10_comes 195 = .ok (.iconst 4, 1) := by decide +kernel
theorem dX10_comes_196 : decode cX10_comes 196 = .ok (.if_icmp .ge 54, 3) := by decide +kernel
theorem dX10_comes_199 : decode cX10_comes 199 = .ok (.iload 4, 2) := by decide +kernel
theorem dX10_comes_201 : decode cX10_comes 201 = .ok (.ifCond .ne 36, 3) := by decide +kernel
theorem dX10_comes_204 : decode cX10_comes 204 = .ok (.aload_n 0, 1) := by decide +kernel
theorem dX10_comes_205 : decode cX10_comes 205 = .ok (.getfield 50, 3) := by decide +kernel
theorem dX10_comes_208 : decode cX10_comes 208 = .ok (.iconst 4, 1) := by decide +kernel
theorem dX10_comes_209 : decode cX10_comes 209 = .ok (.iload_n 3, 1) := by decide +kernel
theorem dX10_comes_210 : decode cX10_comes 210 = .ok (.imul, 1) := by decide +kernel
theorem dX10_comes_211 : decode cX10_comes 211 = .ok (.iload 5, 2) := by decide +kernel
theorem dX10_comes_213 : decode cX10_comes 213 = .ok (.iadd, 1) := by decide +kernel
theorem dX10_comes_214 : decode cX10_comes 214 = .ok (.iaload, 1) := by decide +kernel
theorem dX10_comes_215 : decode cX10_comes 215 = .ok (.ifCond .lt 26, 3) := by decide +kernel
theorem dX10_comes_218 : decode cX10_comes 218 = .ok (.aload_n 0, 1) := by decide +kernel
theorem dX10_comes_219 : decode cX10_comes 219 = .ok (.getfield 63, 3) := by decide +kernel
theorem dX10_comes_222 : decode cX10_comes 222 = .ok (.aload_n 0, 1) := by decide +kernel
theorem dX10_comes_223 : decode cX10_comes 223 = .ok (.getfield 50, 3) := by decide +kernel
theorem dX10_comes_226 : decode cX10_comes 226 = .ok (.iconst 4, 1) := by decide +kernel
theorem dX10_comes_227 : decode cX10_comes 227 = .ok (.iload_n 3, 1) := by decide +kernel
theorem dX10_comes_228 : decode cX10_comes 228 = .ok (.imul, 1) := by decide +kernel
theorem dX10_comes_229 : decode cX10_comes 229 = .ok (.iload 5, 2) := by decide +kernel
theorem dX10_comes_231 : decode cX10_comes 231 = .ok (.iadd, 1) := by decide +kernel
theorem dX10_comes_232 : decode cX10_comes 232 = .ok (.iaload, 1) := by decide +kernel
theorem dX10_comes_233 : decode cX10_comes 233 = .ok (.baload, 1) := by decide +kernel
theorem dX10_comes_234 : decode cX10_comes 234 = .ok (.ifCond .eq 7, 3) := by decide +kernel
theorem dX10_comes_237 : decode cX10_comes 237 = .ok (.iconst 1, 1) := by decide +kernel
theorem dX10_comes_238 : decode cX10_comes 238 = .ok (.goto 4, 3) := by decide +kernel
theorem dX10_comes_241 : decode cX10_comes 241 = .ok (.iconst 0, 1) := by decide +kernel
theorem dX10_comes_242 : decode cX10_comes 242 = .ok (.istore 4, 2) := by decide +kernel
theorem dX10_comes_244 : decode cX10_comes 244 = .ok (.iinc 5 1, 3) := by decide +kernel
theorem dX10_comes_247 : decode cX10_comes 247 = .ok (.goto (-54), 3) := by decide +kernel
theorem dX10_comes_250 : decode cX10_comes 250 = .ok (.aload_n 0, 1) := by decide +kernel
theorem dX10_comes_251 : decode cX10_comes 251 = .ok (.getfield 63, 3) := by decide +kernel
theorem dX10_comes_254 : decode cX10_comes 254 = .ok (.iload_n 3, 1) := by decide +kernel
theorem dX10_comes_255 : decode cX10_comes 255 = .ok (.iload 4, 2) := by decide +kernel
theorem dX10_comes_257 : decode cX10_comes 257 = .ok (.bastore, 1) := by decide +kernel
theorem dX10_comes_258 : decode cX10_comes 258 = .ok (.iinc 3 (-1), 3) := by decide +kernel
theorem dX10_comes_261 : decode cX10_comes 261 = .ok (.goto (-82), 3) := by decide +kernel
theorem dX10_comes_264 : decode cX10_comes 264 = .ok (.iconst 1, 1) := by decide +kernel
theorem dX10_comes_265 : decode cX10_comes 265 = .ok (.ireturn, 1) := by decide +kernel
theorem dX10_leadsOn_0 : decode cX10_leadsOn 0 = .ok (.iconst 4, 1) := by decide +kernel
theorem dX10_leadsOn_1 : decode cX10_leadsOn 1 = .ok (.iload_n 1, 1) := by decide +kernel
theorem dX10_leadsOn_2 : decode cX10_leadsOn 2 = .ok (.imul, 1) := by decide +kernel
theorem dX10_leadsOn_3 : decode cX10_leadsOn 3 = .ok (.iload_n 2, 1) := by decide +kernel
theorem dX10_leadsOn_4 : decode cX10_leadsOn 4 = .ok (.iadd, 1) := by decide +kernel
theorem dX10_leadsOn_5 : decode cX10_leadsOn 5 = .ok (.istore_n 3, 1) := by decide +kernel
theorem dX10_leadsOn_6 : decode cX10_leadsOn 6 = .ok (.aload_n 0, 1) := by decide +kernel
theorem dX10_leadsOn_7 : decode cX10_leadsOn 7 = .ok (.getfield 50, 3) := by decide +kernel
theorem dX10_leadsOn_10 : decode cX10_leadsOn 10 = .ok (.iload_n 3, 1) := by decide +kernel
theorem dX10_leadsOn_11 : decode cX10_leadsOn 11 = .ok (.iconst (-1), 1) := by decide +kernel
theorem dX10_leadsOn_12 : decode cX10_leadsOn 12 = .ok (.iastore, 1) := by decide +kernel
theorem dX10_leadsOn_13 : decode cX10_leadsOn 13 = .ok (.aload_n 0, 1) := by decide +kernel
theorem dX10_leadsOn_14 : decode cX10_leadsOn 14 = .ok (.getfield 47, 3) := by decide +kernel
theorem dX10_leadsOn_17 : decode cX10_leadsOn 17 = .ok (.iload_n 3, 1) := by decide +kernel
theorem dX10_leadsOn_18 : decode cX10_leadsOn 18 = .ok (.iaload, 1) := by decide +kernel
theorem dX10_leadsOn_19 : decode cX10_leadsOn 19 = .ok (.istore 4, 2) := by decide +kernel
theorem dX10_leadsOn_21 : decode cX10_leadsOn 21 = .ok (.iload 4, 2) := by decide +kernel
theorem dX10_leadsOn_23 : decode cX10_leadsOn 23 = .ok (.aload_n 0, 1) := by decide +kernel
theorem dX10_leadsOn_24 : decode cX10_leadsOn 24 = .ok (.getfield 44, 3) := by decide +kernel
theorem dX10_leadsOn_27 : decode cX10_leadsOn 27 = .ok (.iload_n 2, 1) := by decide +kernel
theorem dX10_leadsOn_28 : decode cX10_leadsOn 28 = .ok (.iaload, 1) := by decide +kernel
theorem dX10_leadsOn_29 : decode cX10_leadsOn 29 = .ok (.if_icmp .ne 4, 3) := by decide +kernel
theorem dX10_leadsOn_32 : decode cX10_leadsOn 32 = .ok (.return_, 1) := by decide +kernel
theorem dX10_leadsOn_33 : decode cX10_leadsOn 33 = .ok (.aload_n 0, 1) := by decide +kernel
theorem dX10_leadsOn_34 : decode cX10_leadsOn 34 = .ok (.getfield 41, 3) := by decide +kernel
theorem dX10_leadsOn_37 : decode cX10_leadsOn 37 = .ok (.bipush 20, 2) := by decide +kernel
theorem dX10_leadsOn_39 : decode cX10_leadsOn 39 = .ok (.iload_n 2, 1) := by decide +kernel
theorem dX10_leadsOn_40 : decode cX10_leadsOn 40 = .ok (.imul, 1) := by decide +kernel
theorem dX10_leadsOn_41 : decode cX10_leadsOn 41 = .ok (.iload 4, 2) := by decide +kernel
theorem dX10_leadsOn_43 : decode cX10_leadsOn 43 = .ok (.iadd, 1) := by decide +kernel
theorem dX10_leadsOn_44 : decode cX10_leadsOn 44 = .ok (.iaload, 1) := by decide +kernel
theorem dX10_leadsOn_45 : decode cX10_leadsOn 45 = .ok (.istore 5, 2) := by decide +kernel
theorem dX10_leadsOn_47 : decode cX10_leadsOn 47 = .ok (.aload_n 0, 1) := by decide +kernel
theorem dX10_leadsOn_48 : decode cX10_leadsOn 48 = .ok (.iload_n 1, 1) := by decide +kernel
theorem dX10_leadsOn_49 : decode cX10_leadsOn 49 = .ok (.iload 5, 2) := by decide +kernel
theorem dX10_leadsOn_51 : decode cX10_leadsOn 51 = .ok (.invokevirtual 336, 3) := by decide +kernel
theorem dX10_leadsOn_54 : decode cX10_leadsOn 54 = .ok (.ifCond .ne 4, 3) := by decide +kernel
theorem dX10_leadsOn_57 : decode cX10_leadsOn 57 = .ok (.return_, 1) := by decide +kernel
theorem dX10_leadsOn_58 : decode cX10_leadsOn 58 = .ok (.bipush 7, 2) := by decide +kernel
theorem dX10_leadsOn_60 : decode cX10_leadsOn 60 = .ok (.iload 5, 2) := by decide +kernel
theorem dX10_leadsOn_62 : decode cX10_leadsOn 62 = .ok (.imul, 1) := by decide +kernel
theorem dX10_leadsOn_63 : decode cX10_leadsOn 63 = .ok (.istore 6, 2) := by decide +kernel
theorem dX10_leadsOn_65 : decode cX10_leadsOn 65 = .ok (.aload_n 0, 1) := by decide +kernel
theorem dX10_leadsOn_66 : decode cX10_leadsOn 66 = .ok (.getfield 38, 3) := by decide +kernel
theorem dX10_leadsOn_69 : decode cX10_leadsOn 69 = .ok (.iload 6, 2) := by decide +kernel
theorem dX10_leadsOn_71 : decode cX10_leadsOn 71 = .ok (.iconst 1, 1) := by decide +kernel
theorem dX10_leadsOn_72 : decode cX10_leadsOn 72 = .ok (.iadd, 1) := by decide +kernel
theorem dX10_leadsOn_73 : decode cX10_leadsOn 73 = .ok (.iaload, 1) := by decide +kernel
theorem dX10_leadsOn_74 : decode cX10_leadsOn 74 = .ok (.istore 7, 2) := by decide +kernel
theorem dX10_leadsOn_76 : decode cX10_leadsOn 76 = .ok (.aload_n 0, 1) := by decide +kernel
theorem dX10_leadsOn_77 : decode cX10_leadsOn 77 = .ok (.aload_n 0, 1) := by decide +kernel
theorem dX10_leadsOn_78 : decode cX10_leadsOn 78 = .ok (.getfield 20, 3) := by decide +kernel
theorem dX10_leadsOn_81 : decode cX10_leadsOn 81 = .ok (.iconst 3, 1) := by decide +kernel
theorem dX10_leadsOn_82 : decode cX10_leadsOn 82 = .ok (.iload 7, 2) := by decide +kernel
theorem dX10_leadsOn_84 : decode cX10_leadsOn 84 = .ok (.iadd, 1) := by decide +kernel
theorem dX10_leadsOn_85 : decode cX10_leadsOn 85 = .ok (.iaload, 1) := by decide +kernel
theorem dX10_leadsOn_86 : decode cX10_leadsOn 86 = .ok (.aload_n 0, 1) := by decide +kernel
theorem dX10_leadsOn_87 : decode cX10_leadsOn 87 = .ok (.getfield 59, 3) := by decide +kernel
theorem dX10_leadsOn_90 : decode cX10_leadsOn 90 = .ok (.iconst 3, 1) := by decide +kernel
theorem dX10_leadsOn_91 : decode cX10_leadsOn 91 = .ok (.iload_n 1, 1) := by decide +kernel
theorem dX10_leadsOn_92 : decode cX10_leadsOn 92 = .ok (.imul, 1) := by decide +kernel
theorem dX10_leadsOn_93 : decode cX10_leadsOn 93 = .ok (.iload 7, 2) := by decide +kernel
theorem dX10_leadsOn_95 : decode cX10_leadsOn 95 = .ok (.iadd, 1) := by decide +kernel
theorem dX10_leadsOn_96 : decode cX10_leadsOn 96 = .ok (.laload, 1) := by decide +kernel
theorem dX10_leadsOn_97 : decode cX10_leadsOn 97 = .ok (.aload_n 0, 1) := by decide +kernel
theorem dX10_leadsOn_98 : decode cX10_leadsOn 98 = .ok (.getfield 38, 3) := by decide +kernel
theorem dX10_leadsOn_101 : decode cX10_leadsOn 101 = .ok (.iload 6, 2) := by decide +kernel
theorem dX10_leadsOn_103 : decode cX10_leadsOn 103 = .ok (.iconst 2, 1) := by decide +kernel
theorem dX10_leadsOn_104 : decode cX10_leadsOn 104 = .ok (.iadd, 1) := by decide +kernel
theorem dX10_leadsOn_105 : decode cX10_leadsOn 105 = .ok (.iaload, 1) := by decide +kernel
theorem dX10_leadsOn_106 : decode cX10_leadsOn 106 = .ok (.aload_n 0, 1) := by decide +kernel
theorem dX10_leadsOn_107 : decode cX10_leadsOn 107 = .ok (.getfield 38, 3) := by decide +kernel
theorem dX10_leadsOn_110 : decode cX10_leadsOn 110 = .ok (.iload 6, 2) := by decide +kernel
theorem dX10_leadsOn_112 : decode cX10_leadsOn 112 = .ok (.iconst 3, 1) := by decide +kernel
theorem dX10_leadsOn_113 : decode cX10_leadsOn 113 = .ok (.iadd, 1) := by decide +kernel
theorem dX10_leadsOn_114 : decode cX10_leadsOn 114 = .ok (.iaload, 1) := by decide +kernel
theorem dX10_leadsOn_115 : decode cX10_leadsOn 115 = .ok (.invokevirtual 339, 3) := by decide +kernel
theorem dX10_leadsOn_118 : decode cX10_leadsOn 118 = .ok (.lstore 8, 2) := by decide +kernel
theorem dX10_leadsOn_120 : decode cX10_leadsOn 120 = .ok (.aload_n 0, 1) := by decide +kernel
theorem dX10_leadsOn_121 : decode cX10_leadsOn 121 = .ok (.getfield 38, 3) := by decide +kernel
theorem dX10_leadsOn_124 : decode cX10_leadsOn 124 = .ok (.iload 6, 2) := by decide +kernel
theorem dX10_leadsOn_126 : decode cX10_leadsOn 126 = .ok (.iconst 5, 1) := by decide +kernel
theorem dX10_leadsOn_127 : decode cX10_leadsOn 127 = .ok (.iadd, 1) := by decide +kernel
theorem dX10_leadsOn_128 : decode cX10_leadsOn 128 = .ok (.iaload, 1) := by decide +kernel
theorem dX10_leadsOn_129 : decode cX10_leadsOn 129 = .ok (.bipush (-2), 2) := by decide +kernel
theorem dX10_leadsOn_131 : decode cX10_leadsOn 131 = .ok (.if_icmp .eq 33, 3) := by decide +kernel
theorem dX10_leadsOn_134 : decode cX10_leadsOn 134 = .ok (.aload_n 0, 1) := by decide +kernel
theorem dX10_leadsOn_135 : decode cX10_leadsOn 135 = .ok (.getfield 290, 3) := by decide +kernel
theorem dX10_leadsOn_138 : decode cX10_leadsOn 138 = .ok (.iload 5, 2) := by decide +kernel
theorem dX10_leadsOn_140 : decode cX10_leadsOn 140 = .ok (.invokestatic 299, 3) := by decide +kernel
theorem dX10_leadsOn_143 : decode cX10_leadsOn 143 = .ok (.ifCond .ne 21, 3) := by decide +kernel
theorem dX10_leadsOn_146 : decode cX10_leadsOn 146 = .ok (.aload_n 0, 1) := by decide +kernel
theorem dX10_leadsOn_147 : decode cX10_leadsOn 147 = .ok (.getfield 270, 3) := by decide +kernel
theorem dX10_leadsOn_150 : decode cX10_leadsOn 150 = .ok (.aload_n 0, 1) := by decide +kernel
theorem dX10_leadsOn_151 : decode cX10_leadsOn 151 = .ok (.getfield 38, 3) := by decide +kernel
theorem dX10_leadsOn_154 : decode cX10_leadsOn 154 = .ok (.iload 6, 2) := by decide +kernel
theorem dX10_leadsOn_156 : decode cX10_leadsOn 156 = .ok (.bipush 6, 2) := by decide +kernel
theorem dX10_leadsOn_158 : decode cX10_leadsOn 158 = .ok (.iadd, 1) := by decide +kernel
theorem dX10_leadsOn_159 : decode cX10_leadsOn 159 = .ok (.iaload, 1) := by decide +kernel
theorem dX10_leadsOn_160 : decode cX10_leadsOn 160 = .ok (.if_icmp .eq 4, 3) := by decide +kernel
theorem dX10_leadsOn_163 : decode cX10_leadsOn 163 = .ok (.return_, 1) := by decide +kernel
theorem dX10_leadsOn_164 : decode cX10_leadsOn 164 = .ok (.aload_n 0, 1) := by decide +kernel
theorem dX10_leadsOn_165 : decode cX10_leadsOn 165 = .ok (.getfield 53, 3) := by decide +kernel
theorem dX10_leadsOn_168 : decode cX10_leadsOn 168 = .ok (.iload_n 3, 1) := by decide +kernel
theorem dX10_leadsOn_169 : decode cX10_leadsOn 169 = .ok (.aload_n 0, 1) := by decide +kernel
theorem dX10_leadsOn_170 : decode cX10_leadsOn 170 = .ok (.getfield 270, 3) := by decide +kernel
theorem dX10_leadsOn_173 : decode cX10_leadsOn 173 = .ok (.iastore, 1) := by decide +kernel
theorem dX10_leadsOn_174 : decode cX10_leadsOn 174 = .ok (.iconst 0, 1) := by decide +kernel
theorem dX10_leadsOn_175 : decode cX10_leadsOn 175 = .ok (.istore 10, 2) := by decide +kernel
theorem dX10_leadsOn_177 : decode cX10_leadsOn 177 = .ok (.iload 10, 2) := by decide +kernel
theorem dX10_leadsOn_179 : decode cX10_leadsOn 179 = .ok (.iconst 4, 1) := by decide +kernel
theorem dX10_leadsOn_180 : decode cX10_leadsOn 180 = .ok (.if_icmp .ge 46, 3) := by decide +kernel
theorem dX10_leadsOn_183 : decode cX10_leadsOn 183 = .ok (.aload_n 0, 1) := by decide +kernel
theorem dX10_leadsOn_184 : decode cX10_leadsOn 184 = .ok (.getfield 47, 3) := by decide +kernel
theorem dX10_leadsOn_187 : decode cX10_leadsOn 187 = .ok (.iconst 4, 1) := by decide +kernel
theorem dX10_leadsOn_188 : decode cX10_leadsOn 188 = .ok (.aload_n 0, 1) := by decide +kernel
theorem dX10_leadsOn_189 : decode cX10_leadsOn 189 = .ok (.getfield 317, 3) := by decide +kernel
theorem dX10_leadsOn_192 : decode cX10_leadsOn 192 = .ok (.imul, 1) := by decide +kernel
theorem dX10_leadsOn_193 : decode cX10_leadsOn 193 = .ok (.iload 10, 2) := by decide +kernel
theorem dX10_leadsOn_195 : decode cX10_leadsOn 195 = .ok (.iadd, 1) := by decide +kernel
theorem dX10_leadsOn_196 : decode cX10_leadsOn 196 = .ok (.aload_n 0, 1) := by decide +kernel
theorem dX10_leadsOn_197 : decode cX10_leadsOn 197 = .ok (.getfield 47, 3) := by decide +kernel
theorem dX10_leadsOn_200 : decode cX10_leadsOn 200 = .ok (.iconst 4, 1) := by decide +kernel
theorem dX10_leadsOn_201 : decode cX10_leadsOn 201 = .ok (.iload_n 1, 1) := by decide +kernel
theorem dX10_leadsOn_202 : decode cX10_leadsOn 202 = .ok (.imul, 1) := by decide +kernel
theorem dX10_leadsOn_203 : decode cX10_leadsOn 203 = .ok (.iload 10, 2) := by decide +kernel
theorem dX10_leadsOn_205 : decode cX10_leadsOn 205 = .ok (.iadd, 1) := by decide +kernel
theorem dX10_leadsOn_206 : decode cX10_leadsOn 206 = .ok (.iaload, 1) := by decide +kernel
theorem dX10_leadsOn_207 : decode cX10_leadsOn 207 = .ok (.iload 10, 2) := by decide +kernel
theorem dX10_leadsOn_209 : decode cX10_leadsOn 209 = .ok (.iload_n 2, 1) := by decide +kernel
theorem dX10_leadsOn_210 : decode cX10_leadsOn 210 = .ok (.if_icmp .ne 7, 3) := by decide +kernel
theorem dX10_leadsOn_213 : decode cX10_leadsOn 213 = .ok (.iconst 1, 1) := by decide +kernel
theorem dX10_leadsOn_214 : decode cX10_leadsOn 214 = .ok (.goto 4, 3) := by decide +kernel
theorem dX10_leadsOn_217 : decode cX10_leadsOn 217 = .ok (.iconst 0, 1) := by decide +kernel
theorem dX10_leadsOn_218 : decode cX10_leadsOn 218 = .ok (.iadd, 1) := by decide +kernel
theorem dX10_leadsOn_219 : decode cX10_leadsOn 219 = .ok (.iastore, 1) := by decide +kernel
theorem dX10_leadsOn_220 : decode cX10_leadsOn 220 = .ok (.iinc 10 1, 3) := by decide +kernel
theorem dX10_leadsOn_223 : decode cX10_leadsOn 223 = .ok (.goto (-46), 3) := by decide +kernel
theorem dX10_leadsOn_226 : decode cX10_leadsOn 226 = .ok (.iconst 0, 1) := by decide +kernel
theorem dX10_leadsOn_227 : decode cX10_leadsOn 227 = .ok (.istore 10, 2) := by decide +kernel
theorem dX10_leadsOn_229 : decode cX10_leadsOn 229 = .ok (.iload 10, 2) := by decide +kernel
theorem dX10_leadsOn_231 : decode cX10_leadsOn 231 = .ok (.iconst 3, 1) := by decide +kernel
theorem dX10_leadsOn_232 : decode cX10_leadsOn 232 = .ok (.if_icmp .ge 46, 3) := by decide +kernel
theorem dX10_leadsOn_235 : decode cX10_leadsOn 235 = .ok (.aload_n 0, 1) := by decide +kernel
theorem dX10_leadsOn_236 : decode cX10_leadsOn 236 = .ok (.getfield 59, 3) := by decide +kernel
theorem dX10_leadsOn_239 : decode cX10_leadsOn 239 = .ok (.iconst 3, 1) := by decide +kernel
theorem dX10_leadsOn_240 : decode cX10_leadsOn 240 = .ok (.aload_n 0, 1) := by decide +kernel
theorem dX10_leadsOn_241 : decode cX10_leadsOn 241 = .ok (.getfield 317, 3) := by decide +kernel
theorem dX10_leadsOn_244 : decode cX10_leadsOn 244 = .ok (.imul, 1) := by decide +kernel
theorem dX10_leadsOn_245 : decode cX10_leadsOn 245 = .ok (.iload 10, 2) := by decide +kernel
theorem dX10_leadsOn_247 : decode cX10_leadsOn 247 = .ok (.iadd, 1) := by decide +kernel
theorem dX10_leadsOn_248 : decode cX10_leadsOn 248 = .ok (.iload 10, 2) := by decide +kernel
theorem dX10_leadsOn_250 : decode cX10_leadsOn 250 = .ok (.iload 7, 2) := by decide +kernel
theorem dX10_leadsOn_252 : decode cX10_leadsOn 252 = .ok (.if_icmp .ne 8, 3) := by decide +kernel
theorem dX10_leadsOn_255 : decode cX10_leadsOn 255 = .ok (.lload 8, 2) := by decide +kernel
theorem dX10_leadsOn_257 : decode cX10_leadsOn 257 = .ok (.goto 14, 3) := by decide +kernel
theorem dX10_leadsOn_260 : decode cX10_leadsOn 260 = .ok (.aload_n 0, 1) := by decide +kernel
theorem dX10_leadsOn_261 : decode cX10_leadsOn 261 = .ok (.getfield 59, 3) := by decide +kernel
theorem dX10_leadsOn_264 : decode cX10_leadsOn 264 = .ok (.iconst 3, 1) := by decide +kernel
theorem dX10_leadsOn_265 : decode cX10_leadsOn 265 = .ok (.iload_n 1, 1) := by decide +kernel
theorem dX10_leadsOn_266 : decode cX10_leadsOn 266 = .ok (.imul, 1) := by decide +kernel
theorem dX10_leadsOn_267 : decode cX10_leadsOn 267 = .ok (.iload 10, 2) := by decide +kernel
theorem dX10_leadsOn_269 : decode cX10_leadsOn 269 = .ok (.iadd, 1) := by decide +kernel
theorem dX10_leadsOn_270 : decode cX10_leadsOn 270 = .ok (.laload, 1) := by decide +kernel
theorem dX10_leadsOn_271 : decode cX10_leadsOn 271 = .ok (.lastore, 1) := by decide +kernel
theorem dX10_leadsOn_272 : decode cX10_leadsOn 272 = .ok (.iinc 10 1, 3) := by decide +kernel
theorem dX10_leadsOn_275 : decode cX10_leadsOn 275 = .ok (.goto (-46), 3) := by decide +kernel
theorem dX10_leadsOn_278 : decode cX10_leadsOn 278 = .ok (.aload_n 0, 1) := by decide +kernel
theorem dX10_leadsOn_279 : decode cX10_leadsOn 279 = .ok (.getfield 50, 3) := by decide +kernel
theorem dX10_leadsOn_282 : decode cX10_leadsOn 282 = .ok (.iload_n 3, 1) := by decide +kernel
theorem dX10_leadsOn_283 : decode cX10_leadsOn 283 = .ok (.aload_n 0, 1) := by decide +kernel
theorem dX10_leadsOn_284 : decode cX10_leadsOn 284 = .ok (.aload_n 0, 1) := by decide +kernel
theorem dX10_leadsOn_285 : decode cX10_leadsOn 285 = .ok (.getfield 317, 3) := by decide +kernel
theorem dX10_leadsOn_288 : decode cX10_leadsOn 288 = .ok (.invokevirtual 327, 3) := by decide +kernel
theorem dX10_leadsOn_291 : decode cX10_leadsOn 291 = .ok (.iastore, 1) := by decide +kernel
theorem dX10_leadsOn_292 : decode cX10_leadsOn 292 = .ok (.return_, 1) := by decide +kernel
theorem dX10_isWhole_0 : decode cX10_isWhole 0 = .ok (.iconst 1, 1) := by decide +kernel
theorem dX10_isWhole_1 : decode cX10_isWhole 1 = .ok (.istore_n 2, 1) := by decide +kernel
theorem dX10_isWhole_2 : decode cX10_isWhole 2 = .ok (.iconst 0, 1) := by decide +kernel
theorem dX10_isWhole_3 : decode cX10_isWhole 3 = .ok (.istore_n 3, 1) := by decide +kernel
theorem dX10_isWhole_4 : decode cX10_isWhole 4 = .ok (.iload_n 3, 1) := by decide +kernel
theorem dX10_isWhole_5 : decode cX10_isWhole 5 = .ok (.iconst 4, 1) := by decide +kernel
theorem dX10_isWhole_6 : decode cX10_isWhole 6 = .ok (.if_icmp .ge 75, 3) := by decide +kernel
theorem dX10_isWhole_9 : decode cX10_isWhole 9 = .ok (.aload_n 0, 1) := by decide +kernel
theorem dX10_isWhole_10 : decode cX10_isWhole 10 = .ok (.getfield 47, 3) := by decide +kernel
theorem dX10_isWhole_13 : decode cX10_isWhole 13 = .ok (.iconst 4, 1) := by decide +kernel
theorem dX10_isWhole_14 : decode cX10_isWhole 14 = .ok (.iload_n 1, 1) := by decide +kernel
theorem dX10_isWhole_15 : decode cX10_isWhole 15 = .ok (.imul, 1) := by decide +kernel
theorem dX10_isWhole_16 : decode cX10_isWhole 16 = .ok (.iload_n 3, 1) := by decide +kernel
theorem dX10_isWhole_17 : decode cX10_isWhole 17 = .ok (.iadd, 1) := by decide +kernel
theorem dX10_isWhole_18 : decode cX10_isWhole 18 = .ok (.iaload, 1) := by decide +kernel
theorem dX10_isWhole_19 : decode cX10_isWhole 19 = .ok (.istore 4, 2) := by decide +kernel
theorem dX10_isWhole_21 : decode cX10_isWhole 21 = .ok (.iload 4, 2) := by decide +kernel
theorem dX10_isWhole_23 : decode cX10_isWhole 23 = .ok (.aload_n 0, 1) := by decide +kernel
theorem dX10_isWhole_24 : decode cX10_isWhole 24 = .ok (.getfield 44, 3) := by decide +kernel
theorem dX10_isWhole_27 : decode cX10_isWhole 27 = .ok (.iload_n 3, 1) := by decide +kernel
theorem dX10_isWhole_28 : decode cX10_isWhole 28 = .ok (.iaload, 1) := by decide +kernel
theorem dX10_isWhole_29 : decode cX10_isWhole 29 = .ok (.if_icmp .ge 46, 3) := by decide +kernel
theorem dX10_isWhole_32 : decode cX10_isWhole 32 = .ok (.iload_n 2, 1) := by decide +kernel
theorem dX10_isWhole_33 : decode cX10_isWhole 33 = .ok (.ifCond .eq 34, 3) := by decide +kernel
theorem dX10_isWhole_36 : decode cX10_isWhole 36 = .ok (.aload_n 0, 1) := by decide +kernel
theorem dX10_isWhole_37 : decode cX10_isWhole 37 = .ok (.getfield 38, 3) := by decide +kernel
theorem dX10_isWhole_40 : decode cX10_isWhole 40 = .ok (.bipush 7, 2) := by decide +kernel
theorem dX10_isWhole_42 : decode cX10_isWhole 42 = .ok (.aload_n 0, 1) := by decide +kernel
theorem dX10_isWhole_43 : decode cX10_isWhole 43 = .ok (.getfield 41, 3) := by decide +kernel
theorem dX10_isWhole_46 : decode cX10_isWhole 46 = .ok (.bipush 20, 2) := by decide +kernel
theorem dX10_isWhole_48 : decode cX10_isWhole 48 = .ok (.iload_n 3, 1) := by decide +kernel
theorem dX10_isWhole_49 : decode cX10_isWhole 49 = .ok (.imul, 1) := by decide +kernel
theorem dX10_isWhole_50 : decode cX10_isWhole 50 = .ok (.iload 4, 2) := by decide +kernel
theorem dX10_isWhole_52 : decode cX10_isWhole 52 = .ok (.iadd, 1) := by decide +kernel
theorem dX10_isWhole_53 : decode cX10_isWhole 53 = .ok (.iaload, 1) := by decide +kernel
theorem dX10_isWhole_54 : decode cX10_isWhole 54 = .ok (.imul, 1) := by decide +kernel
theorem dX10_isWhole_55 : decode cX10_isWhole 55 = .ok (.iconst 5, 1) := by decide +kernel
theorem dX10_isWhole_56 : decode cX10_isWhole 56 = .ok (.iadd, 1) := by decide +kernel
theorem dX10_isWhole_57 : decode cX10_isWhole 57 = .ok (.iaload, 1) := by decide +kernel
theorem dX10_isWhole_58 : decode cX10_isWhole 58 = .ok (.bipush (-2), 2) := by decide +kernel
theorem dX10_isWhole_60 : decode cX10_isWhole 60 = .ok (.if_icmp .ne 7, 3) := by decide +kernel
theorem dX10_isWhole_63 : decode cX10_isWhole 63 = .ok (.iconst 1, 1) := by decide +kernel
theorem dX10_isWhole_64 : decode cX10_isWhole 64 = .ok (.goto 4, 3) := by decide +kernel
theorem dX10_isWhole_67 : decode cX10_isWhole 67 = .ok (.iconst 0, 1) := by decide +kernel
theorem dX10_isWhole_68 : decode cX10_isWhole 68 = .ok (.istore_n 2, 1) := by decide +kernel
theorem dX10_isWhole_69 : decode cX10_isWhole 69 = .ok (.iinc 4 1, 3) := by decide +kernel
theorem dX10_isWhole_72 : decode cX10_isWhole 72 = .ok (.goto (-51), 3) := by decide +kernel
theorem dX10_isWhole_75 : decode cX10_isWhole 75 = .ok (.iinc 3 1, 3) := by decide +kernel
theorem dX10_isWhole_78 : decode cX10_isWhole 78 = .ok (.goto (-74), 3) := by decide +kernel
theorem dX10_isWhole_81 : decode cX10_isWhole 81 = .ok (.iload_n 2, 1) := by decide +kernel
theorem dX10_isWhole_82 : decode cX10_isWhole 82 = .ok (.ireturn, 1) := by decide +kernel
theorem dX10_isKind_0 : decode cX10_isKind 0 = .ok (.aload_n 0, 1) := by decide +kernel
theorem dX10_isKind_1 : decode cX10_isKind 1 = .ok (.getfield 193, 3) := by decide +kernel
theorem dX10_isKind_4 : decode cX10_isKind 4 = .ok (.ifCond .eq 16, 3) := by decide +kernel
theorem dX10_isKind_7 : decode cX10_isKind 7 = .ok (.iload_n 1, 1) := by decide +kernel
theorem dX10_isKind_8 : decode cX10_isKind 8 = .ok (.iconst 0, 1) := by decide +kernel
theorem dX10_isKind_9 : decode cX10_isKind 9 = .ok (.iload_n 2, 1) := by decide +kernel
theorem dX10_isKind_10 : decode cX10_isKind 10 = .ok (.invokestatic 176, 3) := by decide +kernel
theorem dX10_isKind_13 : decode cX10_isKind 13 = .ok (.ifCond .eq 7, 3) := by decide +kernel
theorem dX10_isKind_16 : decode cX10_isKind 16 = .ok (.iconst 1, 1) := by decide +kernel
theorem dX10_isKind_17 : decode cX10_isKind 17 = .ok (.goto 4, 3) := by decide +kernel
theorem dX10_isKind_20 : decode cX10_isKind 20 = .ok (.iconst 0, 1) := by decide +kernel
theorem dX10_isKind_21 : decode cX10_isKind 21 = .ok (.ireturn, 1) := by decide +kernel
theorem dX10_goes_0 : decode cX10_goes 0 = .ok (.aload_n 0, 1) := by decide +kernel
theorem dX10_goes_1 : decode cX10_goes 1 = .ok (.invokevirtual 343, 3) := by decide +kernel
theorem dX10_goes_4 : decode cX10_goes 4 = .ok (.iload_n 1, 1) := by decide +kernel
theorem dX10_goes_5 : decode cX10_goes 5 = .ok (.iconst 3, 1) := by decide +kernel
theorem dX10_goes_6 : decode cX10_goes 6 = .ok (.if_icmp .ge 25, 3) := by decide +kernel
theorem dX10_goes_9 : decode cX10_goes 9 = .ok (.aload_n 0, 1) := by decide +kernel
theorem dX10_goes_10 : decode cX10_goes 10 = .ok (.iload_n 1, 1) := by decide +kernel
theorem dX10_goes_11 : decode cX10_goes 11 = .ok (.invokevirtual 346, 3) := by decide +kernel
theorem dX10_goes_14 : decode cX10_goes 14 = .ok (.ifCond .ne 5, 3) := by decide +kernel
theorem dX10_goes_17 : decode cX10_goes 17 = .ok (.iconst 0, 1) := by decide +kernel
theorem dX10_goes_18 : decode cX10_goes 18 = .ok (.ireturn, 1) := by decide +kernel
theorem dX10_goes_19 : decode cX10_goes 19 = .ok (.aload_n 0, 1) := by decide +kernel
theorem dX10_goes_20 : decode cX10_goes 20 = .ok (.aload_n 0, 1) := by decide +kernel
theorem dX10_goes_21 : decode cX10_goes 21 = .ok (.getfield 63, 3) := by decide +kernel
theorem dX10_goes_24 : decode cX10_goes 24 = .ok (.iconst 0, 1) := by decide +kernel
theorem dX10_goes_25 : decode cX10_goes 25 = .ok (.baload, 1) := by decide +kernel
theorem dX10_goes_26 : decode cX10_goes 26 = .ok (.putfield 349, 3) := by decide +kernel
theorem dX10_goes_29 : decode cX10_goes 29 = .ok (.iconst 1, 1) := by decide +kernel
theorem dX10_goes_30 : decode cX10_goes 30 = .ok (.ireturn, 1) := by decide +kernel
theorem dX10_goes_31 : decode cX10_goes 31 = .ok (.aload_n 0, 1) := by decide +kernel
theorem dX10_goes_32 : decode cX10_goes 32 = .ok (.iconst 1, 1) := by decide +kernel
theorem dX10_goes_33 : decode cX10_goes 33 = .ok (.putfield 349, 3) := by decide +kernel
theorem dX10_goes_36 : decode cX10_goes 36 = .ok (.iconst 0, 1) := by decide +kernel
theorem dX10_goes_37 : decode cX10_goes 37 = .ok (.istore_n 2, 1) := by decide +kernel
theorem dX10_goes_38 : decode cX10_goes 38 = .ok (.iload_n 2, 1) := by decide +kernel
theorem dX10_goes_39 : decode cX10_goes 39 = .ok (.aload_n 0, 1) := by decide +kernel
theorem dX10_goes_40 : decode cX10_goes 40 = .ok (.getfield 20, 3) := by decide +kernel
theorem dX10_goes_43 : decode cX10_goes 43 = .ok (.iconst 2, 1) := by decide +kernel
theorem dX10_goes_44 : decode cX10_goes 44 = .ok (.iaload, 1) := by decide +kernel
theorem dX10_goes_45 : decode cX10_goes 45 = .ok (.if_icmp .ge 49, 3) := by decide +kernel
theorem dX10_goes_48 : decode cX10_goes 48 = .ok (.aload_n 0, 1) := by decide +kernel
theorem dX10_goes_49 : decode cX10_goes 49 = .ok (.iload_n 2, 1) := by decide +kernel
theorem dX10_goes_50 : decode cX10_goes 50 = .ok (.putfield 293, 3) := by decide +kernel
theorem dX10_goes_53 : decode cX10_goes 53 = .ok (.aload_n 0, 1) := by decide +kernel
theorem dX10_goes_54 : decode cX10_goes 54 = .ok (.iconst 3, 1) := by decide +kernel
theorem dX10_goes_55 : decode cX10_goes 55 = .ok (.invokevirtual 346, 3) := by decide +kernel
theorem dX10_goes_58 : decode cX10_goes 58 = .ok (.ifCond .ne 5, 3) := by decide +kernel
theorem dX10_goes_61 : decode cX10_goes 61 = .ok (.iconst 0, 1) := by decide +kernel
theorem dX10_goes_62 : decode cX10_goes 62 = .ok (.ireturn, 1) := by decide +kernel
theorem dX10_goes_63 : decode cX10_goes 63 = .ok (.aload_n 0, 1) := by decide +kernel
theorem dX10_goes_64 : decode cX10_goes 64 = .ok (.aload_n 0, 1) := by decide +kernel
theorem dX10_goes_65 : decode cX10_goes 65 = .ok (.getfield 349, 3) := by decide +kernel
theorem dX10_goes_68 : decode cX10_goes 68 = .ok (.ifCond .eq 16, 3) := by decide +kernel
theorem dX10_goes_71 : decode cX10_goes 71 = .ok (.aload_n 0, 1) := by decide +kernel
theorem dX10_goes_72 : decode cX10_goes 72 = .ok (.getfield 63, 3) := by decide +kernel
theorem dX10_goes_75 : decode cX10_goes 75 = .ok (.iconst 0, 1) := by decide +kernel
theorem dX10_goes_76 : decode cX10_goes 76 = .ok (.baload, 1) := by decide +kernel
theorem dX10_goes_77 : decode cX10_goes 77 = .ok (.ifCond .eq 7, 3) := by decide +kernel
theorem dX10_goes_80 : decode cX10_goes 80 = .ok (.iconst 1, 1) := by decide +kernel
theorem dX10_goes_81 : decode cX10_goes 81 = .ok (.goto 4, 3) := by decide +kernel
theorem dX10_goes_84 : decode cX10_goes 84 = .ok (.iconst 0, 1) := by decide +kernel
theorem dX10_goes_85 : decode cX10_goes 85 = .ok (.putfield 349, 3) := by decide +kernel
theorem dX10_goes_88 : decode cX10_goes 88 = .ok (.iinc 2 1, 3) := by decide +kernel
theorem dX10_goes_91 : decode cX10_goes 91 = .ok (.goto (-53), 3) := by decide +kernel
theorem dX10_goes_94 : decode cX10_goes 94 = .ok (.iconst 1, 1) := by decide +kernel
theorem dX10_goes_95 : decode cX10_goes 95 = .ok (.ireturn, 1) := by decide +kernel
theorem dX10_can_0 : decode cX10_can 0 = .ok (.aload_n 0, 1) := by decide +kernel
theorem dX10_can_1 : decode cX10_can 1 = .ok (.invokevirtual 180, 3) := by decide +kernel
theorem dX10_can_4 : decode cX10_can 4 = .ok (.aload_n 0, 1) := by decide +kernel
theorem dX10_can_5 : decode cX10_can 5 = .ok (.iload_n 1, 1) := by decide +kernel
theorem dX10_can_6 : decode cX10_can 6 = .ok (.iconst 3, 1) := by decide +kernel
theorem dX10_can_7 : decode cX10_can 7 = .ok (.invokevirtual 352, 3) := by decide +kernel
theorem dX10_can_10 : decode cX10_can 10 = .ok (.ifCond .ne 9, 3) := by decide +kernel
theorem dX10_can_13 : decode cX10_can 13 = .ok (.aload_n 0, 1) := by decide +kernel
theorem dX10_can_14 : decode cX10_can 14 = .ok (.iconst 1, 1) := by decide +kernel
theorem dX10_can_15 : decode cX10_can 15 = .ok (.invokevirtual 183, 3) := by decide +kernel
theorem dX10_can_18 : decode cX10_can 18 = .ok (.ireturn, 1) := by decide +kernel
theorem dX10_can_19 : decode cX10_can 19 = .ok (.aload_n 0, 1) := by decide +kernel
theorem dX10_can_20 : decode cX10_can 20 = .ok (.iload_n 1, 1) := by decide +kernel
theorem dX10_can_21 : decode cX10_can 21 = .ok (.invokevirtual 355, 3) := by decide +kernel
theorem dX10_can_24 : decode cX10_can 24 = .ok (.ifCond .ne 9, 3) := by decide +kernel
theorem dX10_can_27 : decode cX10_can 27 = .ok (.aload_n 0, 1) := by decide +kernel
theorem dX10_can_28 : decode cX10_can 28 = .ok (.iconst 3, 1) := by decide +kernel
theorem dX10_can_29 : decode cX10_can 29 = .ok (.invokevirtual 183, 3) := by decide +kernel
theorem dX10_can_32 : decode cX10_can 32 = .ok (.ireturn, 1) := by decide +kernel
theorem dX10_can_33 : decode cX10_can 33 = .ok (.aload_n 0, 1) := by decide +kernel
theorem dX10_can_34 : decode cX10_can 34 = .ok (.getfield 349, 3) := by decide +kernel
theorem dX10_can_37 : decode cX10_can 37 = .ok (.ifCond .eq 7, 3) := by decide +kernel
theorem dX10_can_40 : decode cX10_can 40 = .ok (.iconst 1, 1) := by decide +kernel
theorem dX10_can_41 : decode cX10_can 41 = .ok (.goto 4, 3) := by decide +kernel
theorem dX10_can_44 : decode cX10_can 44 = .ok (.iconst 0, 1) := by decide +kernel
theorem dX10_can_45 : decode cX10_can 45 = .ok (.ireturn, 1) := by decide +kernel
theorem dX10_atMost_0 : decode cX10_atMost 0 = .ok (.lload_n 0, 1) := by decide +kernel
theorem dX10_atMost_1 : decode cX10_atMost 1 = .ok (.ldc2_w 358, 3) := by decide +kernel
theorem dX10_atMost_4 : decode cX10_atMost 4 = .ok (.lcmp, 1) := by decide +kernel
theorem dX10_atMost_5 : decode cX10_atMost 5 = .ok (.ifCond .le 9, 3) := by decide +kernel
theorem dX10_atMost_8 : decode cX10_atMost 8 = .ok (.ldc2_w 358, 3) := by decide +kernel
theorem dX10_atMost_11 : decode cX10_atMost 11 = .ok (.goto 4, 3) := by decide +kernel
theorem dX10_atMost_14 : decode cX10_atMost 14 = .ok (.lload_n 0, 1) := by decide +kernel
theorem dX10_atMost_15 : decode cX10_atMost 15 = .ok (.lreturn, 1) := by decide +kernel
theorem dX10_countOrders_0 : decode cX10_countOrders 0 = .ok (.aload_n 0, 1) := by decide +kernel
theorem dX10_countOrders_1 : decode cX10_countOrders 1 = .ok (.getfield 317, 3) := by decide +kernel
theorem dX10_countOrders_4 : decode cX10_countOrders 4 = .ok (.iconst 1, 1) := by decide +kernel
theorem dX10_countOrders_5 : decode cX10_countOrders 5 = .ok (.isub, 1) := by decide +kernel
theorem dX10_countOrders_6 : decode cX10_countOrders 6 = .ok (.istore_n 1, 1) := by decide +kernel
theorem dX10_countOrders_7 : decode cX10_countOrders 7 = .ok (.iload_n 1, 1) := by decide +kernel
theorem dX10_countOrders_8 : decode cX10_countOrders 8 = .ok (.ifCond .lt 80, 3) := by decide +kernel
theorem dX10_countOrders_11 : decode cX10_countOrders 11 = .ok (.aload_n 0, 1) := by decide +kernel
theorem dX10_countOrders_12 : decode cX10_countOrders 12 = .ok (.iload_n 1, 1) := by decide +kernel
theorem dX10_countOrders_13 : decode cX10_countOrders 13 = .ok (.invokevirtual 333, 3) := by decide +kernel
theorem dX10_countOrders_16 : decode cX10_countOrders 16 = .ok (.ifCond .eq 7, 3) := by decide +kernel
theorem dX10_countOrders_19 : decode cX10_countOrders 19 = .ok (.lconst 1, 1) := by decide +kernel
theorem dX10_countOrders_20 : decode cX10_countOrders 20 = .ok (.goto 4, 3) := by decide +kernel
theorem dX10_countOrders_23 : decode cX10_countOrders 23 = .ok (.lconst 0, 1) := by decide +kernel
theorem dX10_countOrders_24 : decode cX10_countOrders 24 = .ok (.lstore_n 2, 1) := by decide +kernel
theorem dX10_countOrders_25 : decode cX10_countOrders 25 = .ok (.iconst 0, 1) := by decide +kernel
theorem dX10_countOrders_26 : decode cX10_countOrders 26 = .ok (.istore 4, 2) := by decide +kernel
theorem dX10_countOrders_28 : decode cX10_countOrders 28 = .ok (.iload 4, 2) := by decide +kernel
theorem dX10_countOrders_30 : decode cX10_countOrders 30 = .ok (.iconst 4, 1) := by decide +kernel
theorem dX10_countOrders_31 : decode cX10_countOrders 31 = .ok (.if_icmp .ge 44, 3) := by decide +kernel
theorem dX10_countOrders_34 : decode cX10_countOrders 34 = .ok (.aload_n 0, 1) := by decide +kernel
theorem dX10_countOrders_35 : decode cX10_countOrders 35 = .ok (.getfield 50, 3) := by decide +kernel
theorem dX10_countOrders_38 : decode cX10_countOrders 38 = .ok (.iconst 4, 1) := by decide +kernel
theorem dX10_countOrders_39 : decode cX10_countOrders 39 = .ok (.iload_n 1, 1) := by decide +kernel
theorem dX10_countOrders_40 : decode cX10_countOrders 40 = .ok (.imul, 1) := by decide +kernel
theorem dX10_countOrders_41 : decode cX10_countOrders 41 = .ok (.iload 4, 2) := by decide +kernel
theorem dX10_countOrders_43 : decode cX10_countOrders 43 = .ok (.iadd, 1) := by decide +kernel
theorem dX10_countOrders_44 : decode cX10_countOrders 44 = .ok (.iaload, 1) := by decide +kernel
theorem dX10_countOrders_45 : decode cX10_countOrders 45 = .ok (.istore 5, 2) := by decide +kernel
theorem dX10_countOrders_47 : decode cX10_countOrders 47 = .ok (.lload_n 2, 1) := by decide +kernel
theorem dX10_countOrders_48 : decode cX10_countOrders 48 = .ok (.iload 5, 2) := by decide +kernel
theorem dX10_countOrders_50 : decode cX10_countOrders 50 = .ok (.ifCond .ge 7, 3) := by decide +kernel
theorem dX10_countOrders_53 : decode cX10_countOrders 53 = .ok (.lconst 0, 1) := by decide +kernel
theorem dX10_countOrders_54 : decode cX10_countOrders 54 = .ok (.goto 10, 3) := by decide +kernel
theorem dX10_countOrders_57 : decode cX10_countOrders 57 = .ok (.aload_n 0, 1) := by decide +kernel
theorem dX10_countOrders_58 : decode cX10_countOrders 58 = .ok (.getfield 67, 3) := by decide +kernel
theorem dX10_countOrders_61 : decode cX10_countOrders 61 = .ok (.iload 5, 2) := by decide +kernel
theorem dX10_countOrders_63 : decode cX10_countOrders 63 = .ok (.laload, 1) := by decide +kernel
theorem dX10_countOrders_64 : decode cX10_countOrders 64 = .ok (.ladd, 1) := by decide +kernel
theorem dX10_countOrders_65 : decode cX10_countOrders 65 = .ok (.invokestatic 360, 3) := by decide +kernel
theorem dX10_countOrders_68 : decode cX10_countOrders 68 = .ok (.lstore_n 2, 1) := by decide +kernel
theorem dX10_countOrders_69 : decode cX10_countOrders 69 = .ok (.iinc 4 1, 3) := by decide +kernel
theorem dX10_countOrders_72 : decode cX10_countOrders 72 = .ok (.goto (-44), 3) := by decide +kernel
theorem dX10_countOrders_75 : decode cX10_countOrders 75 = .ok (.aload_n 0, 1) := by decide +kernel
theorem dX10_countOrders_76 : decode cX10_countOrders 76 = .ok (.getfield 67, 3) := by decide +kernel
theorem dX10_countOrders_79 : decode cX10_countOrders 79 = .ok (.iload_n 1, 1) := by decide +kernel
theorem dX10_countOrders_80 : decode cX10_countOrders 80 = .ok (.lload_n 2, 1) := by decide +kernel
theorem dX10_countOrders_81 : decode cX10_countOrders 81 = .ok (.lastore, 1) := by decide +kernel
theorem dX10_countOrders_82 : decode cX10_countOrders 82 = .ok (.iinc 1 (-1), 3) := by decide +kernel
theorem dX10_countOrders_85 : decode cX10_countOrders 85 = .ok (.goto (-78), 3) := by decide +kernel
theorem dX10_countOrders_88 : decode cX10_countOrders 88 = .ok (.aload_n 0, 1) := by decide +kernel
theorem dX10_countOrders_89 : decode cX10_countOrders 89 = .ok (.getfield 67, 3) := by decide +kernel
theorem dX10_countOrders_92 : decode cX10_countOrders 92 = .ok (.iconst 0, 1) := by decide +kernel
theorem dX10_countOrders_93 : decode cX10_countOrders 93 = .ok (.laload, 1) := by decide +kernel
theorem dX10_countOrders_94 : decode cX10_countOrders 94 = .ok (.lreturn, 1) := by decide +kernel
theorem dX10_product_0 : decode cX10_product 0 = .ok (.lload_n 0, 1) := by decide +kernel
theorem dX10_product_1 : decode cX10_product 1 = .ok (.lconst 0, 1) := by decide +kernel
theorem dX10_product_2 : decode cX10_product 2 = .ok (.lcmp, 1) := by decide +kernel
theorem dX10_product_3 : decode cX10_product 3 = .ok (.ifCond .eq 9, 3) := by decide +kernel
theorem dX10_product_6 : decode cX10_product 6 = .ok (.lload_n 2, 1) := by decide +kernel
theorem dX10_product_7 : decode cX10_product 7 = .ok (.lconst 0, 1) := by decide +kernel
theorem dX10_product_8 : decode cX10_product 8 = .ok (.lcmp, 1) := by decide +kernel
theorem dX10_product_9 : decode cX10_product 9 = .ok (.ifCond .ne 5, 3) := by decide +kernel
theorem dX10_product_12 : decode cX10_product 12 = .ok (.lconst 0, 1) := by decide +kernel
theorem dX10_product_13 : decode cX10_product 13 = .ok (.lreturn, 1) := by decide +kernel
theorem dX10_product_14 : decode cX10_product 14 = .ok (.lload_n 0, 1) := by decide +kernel
theorem dX10_product_15 : decode cX10_product 15 = .ok (.ldc2_w 358, 3) := by decide +kernel
theorem dX10_product_18 : decode cX10_product 18 = .ok (.lload_n 2, 1) := by decide +kernel
theorem dX10_product_19 : decode cX10_product 19 = .ok (.ldiv, 1) := by decide +kernel
theorem dX10_product_20 : decode cX10_product 20 = .ok (.lcmp, 1) := by decide +kernel
theorem dX10_product_21 : decode cX10_product 21 = .ok (.ifCond .le 9, 3) := by decide +kernel
theorem dX10_product_24 : decode cX10_product 24 = .ok (.ldc2_w 358, 3) := by decide +kernel
theorem dX10_product_27 : decode cX10_product 27 = .ok (.goto 9, 3) := by decide +kernel
theorem dX10_product_30 : decode cX10_product 30 = .ok (.lload_n 0, 1) := by decide +kernel
theorem dX10_product_31 : decode cX10_product 31 = .ok (.lload_n 2, 1) := by decide +kernel
theorem dX10_product_32 : decode cX10_product 32 = .ok (.lmul, 1) := by decide +kernel
theorem dX10_product_33 : decode cX10_product 33 = .ok (.invokestatic 360, 3) := by decide +kernel
theorem dX10_product_36 : decode cX10_product 36 = .ok (.lreturn, 1) := by decide +kernel
theorem dX10_orders_0 : decode cX10_orders 0 = .ok (.aload_n 0, 1) := by decide +kernel
theorem dX10_orders_1 : decode cX10_orders 1 = .ok (.invokevirtual 180, 3) := by decide +kernel
theorem dX10_orders_4 : decode cX10_orders 4 = .ok (.aload_n 0, 1) := by decide +kernel
theorem dX10_orders_5 : decode cX10_orders 5 = .ok (.iload_n 1, 1) := by decide +kernel
theorem dX10_orders_6 : decode cX10_orders 6 = .ok (.iconst 3, 1) := by decide +kernel
theorem dX10_orders_7 : decode cX10_orders 7 = .ok (.invokevirtual 352, 3) := by decide +kernel
theorem dX10_orders_10 : decode cX10_orders 10 = .ok (.ifCond .ne 10, 3) := by decide +kernel
theorem dX10_orders_13 : decode cX10_orders 13 = .ok (.aload_n 0, 1) := by decide +kernel
theorem dX10_orders_14 : decode cX10_orders 14 = .ok (.iconst 1, 1) := by decide +kernel
theorem dX10_orders_15 : decode cX10_orders 15 = .ok (.invokevirtual 183, 3) := by decide +kernel
theorem dX10_orders_18 : decode cX10_orders 18 = .ok (.i2l, 1) := by decide +kernel
theorem dX10_orders_19 : decode cX10_orders 19 = .ok (.lreturn, 1) := by decide +kernel
theorem dX10_orders_20 : decode cX10_orders 20 = .ok (.aload_n 0, 1) := by decide +kernel
theorem dX10_orders_21 : decode cX10_orders 21 = .ok (.invokevirtual 343, 3) := by decide +kernel
theorem dX10_orders_24 : decode cX10_orders 24 = .ok (.iload_n 1, 1) := by decide +kernel
theorem dX10_orders_25 : decode cX10_orders 25 = .ok (.iconst 3, 1) := by decide +kernel
theorem dX10_orders_26 : decode cX10_orders 26 = .ok (.if_icmp .ge 25, 3) := by decide +kernel
theorem dX10_orders_29 : decode cX10_orders 29 = .ok (.aload_n 0, 1) := by decide +kernel
theorem dX10_orders_30 : decode cX10_orders 30 = .ok (.iload_n 1, 1) := by decide +kernel
theorem dX10_orders_31 : decode cX10_orders 31 = .ok (.invokevirtual 346, 3) := by decide +kernel
theorem dX10_orders_34 : decode cX10_orders 34 = .ok (.ifCond .eq 10, 3) := by decide +kernel
theorem dX10_orders_37 : decode cX10_orders 37 = .ok (.aload_n 0, 1) := by decide +kernel
theorem dX10_orders_38 : decode cX10_orders 38 = .ok (.invokevirtual 364, 3) := by decide +kernel
theorem dX10_orders_41 : decode cX10_orders 41 = .ok (.goto 9, 3) := by decide +kernel
theorem dX10_orders_44 : decode cX10_orders 44 = .ok (.aload_n 0, 1) := by decide +kernel
theorem dX10_orders_45 : decode cX10_orders 45 = .ok (.iconst 3, 1) := by decide +kernel
theorem dX10_orders_46 : decode cX10_orders 46 = .ok (.invokevirtual 183, 3) := by decide +kernel
theorem dX10_orders_49 : decode cX10_orders 49 = .ok (.i2l, 1) := by decide +kernel
theorem dX10_orders_50 : decode cX10_orders 50 = .ok (.lreturn, 1) := by decide +kernel
theorem dX10_orders_51 : decode cX10_orders 51 = .ok (.lconst 1, 1) := by decide +kernel
theorem dX10_orders_52 : decode cX10_orders 52 = .ok (.lstore_n 2, 1) := by decide +kernel
theorem dX10_orders_53 : decode cX10_orders 53 = .ok (.iconst 0, 1) := by decide +kernel
theorem dX10_orders_54 : decode cX10_orders 54 = .ok (.istore 4, 2) := by decide +kernel
theorem dX10_orders_56 : decode cX10_orders 56 = .ok (.iload 4, 2) := by decide +kernel
theorem dX10_orders_58 : decode cX10_orders 58 = .ok (.aload_n 0, 1) := by decide +kernel
theorem dX10_orders_59 : decode cX10_orders 59 = .ok (.getfield 20, 3) := by decide +kernel
theorem dX10_orders_62 : decode cX10_orders 62 = .ok (.iconst 2, 1) := by decide +kernel
theorem dX10_orders_63 : decode cX10_orders 63 = .ok (.iaload, 1) := by decide +kernel
theorem dX10_orders_64 : decode cX10_orders 64 = .ok (.if_icmp .ge 39, 3) := by decide +kernel
theorem dX10_orders_67 : decode cX10_orders 67 = .ok (.aload_n 0, 1) := by decide +kernel
theorem dX10_orders_68 : decode cX10_orders 68 = .ok (.iload 4, 2) := by decide +kernel
theorem dX10_orders_70 : decode cX10_orders 70 = .ok (.putfield 293, 3) := by decide +kernel
theorem dX10_orders_73 : decode cX10_orders 73 = .ok (.aload_n 0, 1) := by decide +kernel
theorem dX10_orders_74 : decode cX10_orders 74 = .ok (.iconst 3, 1) := by decide +kernel
theorem dX10_orders_75 : decode cX10_orders 75 = .ok (.invokevirtual 346, 3) := by decide +kernel
theorem dX10_orders_78 : decode cX10_orders 78 = .ok (.ifCond .ne 10, 3) := by decide +kernel
theorem dX10_orders_81 : decode cX10_orders 81 = .ok (.aload_n 0, 1) := by decide +kernel
theorem dX10_orders_82 : decode cX10_orders 82 = .ok (.iconst 3, 1) := by decide +kernel
theorem dX10_orders_83 : decode cX10_orders 83 = .ok (.invokevirtual 183, 3) := by decide +kernel
theorem dX10_orders_86 : decode cX10_orders 86 = .ok (.i2l, 1) := by decide +kernel
theorem dX10_orders_87 : decode cX10_orders 87 = .ok (.lreturn, 1) := by decide +kernel
theorem dX10_orders_88 : decode cX10_orders 88 = .ok (.lload_n 2, 1) := by decide +kernel
theorem dX10_orders_89 : decode cX10_orders 89 = .ok (.aload_n 0, 1) := by decide +kernel
theorem dX10_orders_90 : decode cX10_orders 90 = .ok (.invokevirtual 364, 3) := by decide +kernel
theorem dX10_orders_93 : decode cX10_orders 93 = .ok (.invokestatic 368, 3) := by decide +kernel
theorem dX10_orders_96 : decode cX10_orders 96 = .ok (.lstore_n 2, 1) := by decide +kernel
theorem dX10_orders_97 : decode cX10_orders 97 = .ok (.iinc 4 1, 3) := by decide +kernel
theorem dX10_orders_100 : decode cX10_orders 100 = .ok (.goto (-44), 3) := by decide +kernel
theorem dX10_orders_103 : decode cX10_orders 103 = .ok (.lload_n 2, 1) := by decide +kernel
theorem dX10_orders_104 : decode cX10_orders 104 = .ok (.lreturn, 1) := by decide +kernel
theorem dX10_layFirst_0 : decode cX10_layFirst 0 = .ok (.aload_n 0, 1) := by decide +kernel
theorem dX10_layFirst_1 : decode cX10_layFirst 1 = .ok (.getfield 63, 3) := by decide +kernel
theorem dX10_layFirst_4 : decode cX10_layFirst 4 = .ok (.iconst 0, 1) := by decide +kernel
theorem dX10_layFirst_5 : decode cX10_layFirst 5 = .ok (.baload, 1) := by decide +kernel
theorem dX10_layFirst_6 : decode cX10_layFirst 6 = .ok (.ifCond .ne 5, 3) := by decide +kernel
theorem dX10_layFirst_9 : decode cX10_layFirst 9 = .ok (.iconst (-1), 1) := by decide +kernel
theorem dX10_layFirst_10 : decode cX10_layFirst 10 = .ok (.ireturn, 1) := by decide +kernel
theorem dX10_layFirst_11 : decode cX10_layFirst 11 = .ok (.iconst 0, 1) := by decide +kernel
theorem dX10_layFirst_12 : decode cX10_layFirst 12 = .ok (.istore_n 1, 1) := by decide +kernel
theorem dX10_layFirst_13 : decode cX10_layFirst 13 = .ok (.iconst 0, 1) := by decide +kernel
theorem dX10_layFirst_14 : decode cX10_layFirst 14 = .ok (.istore_n 2, 1) := by decide +kernel
theorem dX10_layFirst_15 : decode cX10_layFirst 15 = .ok (.aload_n 0, 1) := by decide +kernel
theorem dX10_layFirst_16 : decode cX10_layFirst 16 = .ok (.iload_n 2, 1) := by decide +kernel
theorem dX10_layFirst_17 : decode cX10_layFirst 17 = .ok (.invokevirtual 333, 3) := by decide +kernel
theorem dX10_layFirst_20 : decode cX10_layFirst 20 = .ok (.ifCond .ne 123, 3) := by decide +kernel
theorem dX10_layFirst_23 : decode cX10_layFirst 23 = .ok (.iconst (-1), 1) := by decide +kernel
theorem dX10_layFirst_24 : decode cX10_layFirst 24 = .ok (.istore_n 3, 1) := by decide +kernel
theorem dX10_layFirst_25 : decode cX10_layFirst 25 = .ok (.iconst (-1), 1) := by decide +kernel
theorem dX10_layFirst_26 : decode cX10_layFirst 26 = .ok (.istore 4, 2) := by decide +kernel
theorem dX10_layFirst_28 : decode cX10_layFirst 28 = .ok (.iconst 0, 1) := by decide +kernel
theorem dX10_layFirst_29 : decode cX10_layFirst 29 = .ok (.istore 5, 2) := by decide +kernel
theorem dX10_layFirst_31 : decode cX10_layFirst 31 = .ok (.iload 5, 2) := by decide +kernel
theorem dX10_layFirst_33 : decode cX10_layFirst 33 = .ok (.iconst 4, 1) := by decide +kernel
theorem dX10_layFirst_34 : decode cX10_layFirst 34 = .ok (.if_icmp .ge 84, 3) := by decide +kernel
theorem dX10_layFirst_37 : decode cX10_layFirst 37 = .ok (.aload_n 0, 1) := by decide +kernel
theorem dX10_layFirst_38 : decode cX10_layFirst 38 = .ok (.getfield 50, 3) := by decide +kernel
theorem dX10_layFirst_41 : decode cX10_layFirst 41 = .ok (.iconst 4, 1) := by decide +kernel
theorem dX10_layFirst_42 : decode cX10_layFirst 42 = .ok (.iload_n 2, 1) := by decide +kernel
theorem dX10_layFirst_43 : decode cX10_layFirst 43 = .ok (.imul, 1) := by decide +kernel
theorem dX10_layFirst_44 : decode cX10_layFirst 44 = .ok (.iload 5, 2) := by decide +kernel
theorem dX10_layFirst_46 : decode cX10_layFirst 46 = .ok (.iadd, 1) := by decide +kernel
theorem dX10_layFirst_47 : decode cX10_layFirst 47 = .ok (.iaload, 1) := by decide +kernel
theorem dX10_layFirst_48 : decode cX10_layFirst 48 = .ok (.istore 6, 2) := by decide +kernel
theorem dX10_layFirst_50 : decode cX10_layFirst 50 = .ok (.iload 6, 2) := by decide +kernel
theorem dX10_layFirst_52 : decode cX10_layFirst 52 = .ok (.ifCond .lt 60, 3) := by decide +kernel
theorem dX10_layFirst_55 : decode cX10_layFirst 55 = .ok (.aload_n 0, 1) := by decide +kernel
theorem dX10_layFirst_56 : decode cX10_layFirst 56 = .ok (.getfield 63, 3) := by decide +kernel
theorem dX10_layFirst_59 : decode cX10_layFirst 59 = .ok (.iload 6, 2) := by decide +kernel
theorem dX10_layFirst_61 : decode cX10_layFirst 61 = .ok (.baload, 1) := by decide +kernel
theorem dX10_layFirst_62 : decode cX10_layFirst 62 = .ok (.ifCond .ne 6, 3) := by decide +kernel
theorem dX10_layFirst_65 : decode cX10_layFirst 65 = .ok (.goto 47, 3) := by decide +kernel
theorem dX10_layFirst_68 : decode cX10_layFirst 68 = .ok (.aload_n 0, 1) := by decide +kernel
theorem dX10_layFirst_69 : decode cX10_layFirst 69 = .ok (.getfield 41, 3) := by decide +kernel
theorem dX10_layFirst_72 : decode cX10_layFirst 72 = .ok (.bipush 20, 2) := by decide +kernel
theorem dX10_layFirst_74 : decode cX10_layFirst 74 = .ok (.iload 5, 2) := by decide +kernel
theorem dX10_layFirst_76 : decode cX10_layFirst 76 = .ok (.imul, 1) := by decide +kernel
theorem dX10_layFirst_77 : decode cX10_layFirst 77 = .ok (.aload_n 0, 1) := by decide +kernel
theorem dX10_layFirst_78 : decode cX10_layFirst 78 = .ok (.getfield 47, 3) := by decide +kernel
theorem dX10_layFirst_81 : decode cX10_layFirst 81 = .ok (.iconst 4, 1) := by decide +kernel
theorem dX10_layFirst_82 : decode cX10_layFirst 82 = .ok (.iload_n 2, 1) := by decide +kernel
theorem dX10_layFirst_83 : decode cX10_layFirst 83 = .ok (.imul, 1) := by decide +kernel
theorem dX10_layFirst_84 : decode cX10_layFirst 84 = .ok (.iload 5, 2) := by decide +kernel
theorem dX10_layFirst_86 : decode cX10_layFirst 86 = .ok (.iadd, 1) := by decide +kernel
theorem dX10_layFirst_87 : decode cX10_layFirst 87 = .ok (.iaload, 1) := by decide +kernel
theorem dX10_layFirst_88 : decode cX10_layFirst 88 = .ok (.iadd, 1) := by decide +kernel
theorem dX10_layFirst_89 : decode cX10_layFirst 89 = .ok (.iaload, 1) := by decide +kernel
theorem dX10_layFirst_90 : decode cX10_layFirst 90 = .ok (.istore 7, 2) := by decide +kernel
theorem dX10_layFirst_92 : decode cX10_layFirst 92 = .ok (.iload_n 3, 1) := by decide +kernel
theorem dX10_layFirst_93 : decode cX10_layFirst 93 = .ok (.ifCond .lt 12, 3) := by decide +kernel
theorem dX10_layFirst_96 : decode cX10_layFirst 96 = .ok (.iload 7, 2) := by decide +kernel
theorem dX10_layFirst_98 : decode cX10_layFirst 98 = .ok (.iload_n 3, 1) := by decide +kernel
theorem dX10_layFirst_99 : decode cX10_layFirst 99 = .ok (.if_icmp .le 6, 3) := by decide +kernel
theorem dX10_layFirst_102 : decode cX10_layFirst 102 = .ok (.goto 10, 3) := by decide +kernel
theorem dX10_layFirst_105 : decode cX10_layFirst 105 = .ok (.iload 7, 2) := by decide +kernel
theorem dX10_layFirst_107 : decode cX10_layFirst 107 = .ok (.istore_n 3, 1) := by decide +kernel
theorem dX10_layFirst_108 : decode cX10_layFirst 108 = .ok (.iload 5, 2) := by decide +kernel
theorem dX10_layFirst_110 : decode cX10_layFirst 110 = .ok (.istore 4, 2) := by decide +kernel
theorem dX10_layFirst_112 : decode cX10_layFirst 112 = .ok (.iinc 5 1, 3) := by decide +kernel
theorem dX10_layFirst_115 : decode cX10_layFirst 115 = .ok (.goto (-84), 3) := by decide +kernel
theorem dX10_layFirst_118 : decode cX10_layFirst 118 = .ok (.aload_n 0, 1) := by decide +kernel
theorem dX10_layFirst_119 : decode cX10_layFirst 119 = .ok (.getfield 70, 3) := by decide +kernel
theorem dX10_layFirst_122 : decode cX10_layFirst 122 = .ok (.iload_n 1, 1) := by decide +kernel
theorem dX10_layFirst_123 : decode cX10_layFirst 123 = .ok (.iload_n 3, 1) := by decide +kernel
theorem dX10_layFirst_124 : decode cX10_layFirst 124 = .ok (.iastore, 1) := by decide +kernel
theorem dX10_layFirst_125 : decode cX10_layFirst 125 = .ok (.iinc 1 1, 3) := by decide +kernel
theorem dX10_layFirst_128 : decode cX10_layFirst 128 = .ok (.aload_n 0, 1) := by decide +kernel
theorem dX10_layFirst_129 : decode cX10_layFirst 129 = .ok (.getfield 50, 3) := by decide +kernel
theorem dX10_layFirst_132 : decode cX10_layFirst 132 = .ok (.iconst 4, 1) := by decide +kernel
theorem dX10_layFirst_133 : decode cX10_layFirst 133 = .ok (.iload_n 2, 1) := by decide +kernel
theorem dX10_layFirst_134 : decode cX10_layFirst 134 = .ok (.imul, 1) := by decide +kernel
theorem dX10_layFirst_135 : decode cX10_layFirst 135 = .ok (.iload 4, 2) := by decide +kernel
theorem dX10_layFirst_137 : decode cX10_layFirst 137 = .ok (.iadd, 1) := by decide +kernel
theorem dX10_layFirst_138 : decode cX10_layFirst 138 = .ok (.iaload, 1) := by decide +kernel
theorem dX10_layFirst_139 : decode cX10_layFirst 139 = .ok (.istore_n 2, 1) := by decide +kernel
theorem dX10_layFirst_140 : decode cX10_layFirst 140 = .ok (.goto (-125), 3) := by decide +kernel
theorem dX10_layFirst_143 : decode cX10_layFirst 143 = .ok (.iload_n 1, 1) := by decide +kernel
theorem dX10_layFirst_144 : decode cX10_layFirst 144 = .ok (.ireturn, 1) := by decide +kernel
theorem dX10_size_0 : decode cX10_size 0 = .ok (.aload_n 0, 1) := by decide +kernel
theorem dX10_size_1 : decode cX10_size 1 = .ok (.invokevirtual 180, 3) := by decide +kernel
theorem dX10_size_4 : decode cX10_size 4 = .ok (.aload_n 0, 1) := by decide +kernel
theorem dX10_size_5 : decode cX10_size 5 = .ok (.iload_n 1, 1) := by decide +kernel
theorem dX10_size_6 : decode cX10_size 6 = .ok (.iconst 2, 1) := by decide +kernel
theorem dX10_size_7 : decode cX10_size 7 = .ok (.invokevirtual 352, 3) := by decide +kernel
theorem dX10_size_10 : decode cX10_size 10 = .ok (.ifCond .ne 9, 3) := by decide +kernel
theorem dX10_size_13 : decode cX10_size 13 = .ok (.aload_n 0, 1) := by decide +kernel
theorem dX10_size_14 : decode cX10_size 14 = .ok (.iconst 1, 1) := by decide +kernel
theorem dX10_size_15 : decode cX10_size 15 = .ok (.invokevirtual 183, 3) := by decide +kernel
theorem dX10_size_18 : decode cX10_size 18 = .ok (.ireturn, 1) := by decide +kernel
theorem dX10_size_19 : decode cX10_size 19 = .ok (.aload_n 0, 1) := by decide +kernel
theorem dX10_size_20 : decode cX10_size 20 = .ok (.iload_n 1, 1) := by decide +kernel
theorem dX10_size_21 : decode cX10_size 21 = .ok (.invokevirtual 355, 3) := by decide +kernel
theorem dX10_size_24 : decode cX10_size 24 = .ok (.ifCond .ne 9, 3) := by decide +kernel
theorem dX10_size_27 : decode cX10_size 27 = .ok (.aload_n 0, 1) := by decide +kernel
theorem dX10_size_28 : decode cX10_size 28 = .ok (.iconst 3, 1) := by decide +kernel
theorem dX10_size_29 : decode cX10_size 29 = .ok (.invokevirtual 183, 3) := by decide +kernel
theorem dX10_size_32 : decode cX10_size 32 = .ok (.ireturn, 1) := by decide +kernel
theorem dX10_size_33 : decode cX10_size 33 = .ok (.aload_n 0, 1) := by decide +kernel
theorem dX10_size_34 : decode cX10_size 34 = .ok (.invokevirtual 372, 3) := by decide +kernel
theorem dX10_size_37 : decode cX10_size 37 = .ok (.istore_n 2, 1) := by decide +kernel
theorem dX10_size_38 : decode cX10_size 38 = .ok (.iload_n 2, 1) := by decide +kernel
theorem dX10_size_39 : decode cX10_size 39 = .ok (.ifCond .ge 12, 3) := by decide +kernel
theorem dX10_size_42 : decode cX10_size 42 = .ok (.aload_n 0, 1) := by decide +kernel
theorem dX10_size_43 : decode cX10_size 43 = .ok (.bipush 6, 2) := by decide +kernel
theorem dX10_size_45 : decode cX10_size 45 = .ok (.invokevirtual 183, 3) := by decide +kernel
theorem dX10_size_48 : decode cX10_size 48 = .ok (.goto 4, 3) := by decide +kernel
theorem dX10_size_51 : decode cX10_size 51 = .ok (.iload_n 2, 1) := by decide +kernel
theorem dX10_size_52 : decode cX10_size 52 = .ok (.ireturn, 1) := by decide +kernel
theorem dX10_order_0 : decode cX10_order 0 = .ok (.aload_n 0, 1) := by decide +kernel
theorem dX10_order_1 : decode cX10_order 1 = .ok (.invokevirtual 180, 3) := by decide +kernel
theorem dX10_order_4 : decode cX10_order 4 = .ok (.aload_n 0, 1) := by decide +kernel
theorem dX10_order_5 : decode cX10_order 5 = .ok (.iload_n 1, 1) := by decide +kernel
theorem dX10_order_6 : decode cX10_order 6 = .ok (.iconst 2, 1) := by decide +kernel
theorem dX10_order_7 : decode cX10_order 7 = .ok (.invokevirtual 352, 3) := by decide +kernel
theorem dX10_order_10 : decode cX10_order 10 = .ok (.ifCond .eq 7, 3) := by decide +kernel
theorem dX10_order_13 : decode cX10_order 13 = .ok (.iload_n 2, 1) := by decide +kernel
theorem dX10_order_14 : decode cX10_order 14 = .ok (.ifCond .ge 9, 3) := by decide +kernel
theorem dX10_order_17 : decode cX10_order 17 = .ok (.aload_n 0, 1) := by decide +kernel
theorem dX10_order_18 : decode cX10_order 18 = .ok (.iconst 1, 1) := by decide +kernel
theorem dX10_order_19 : decode cX10_order 19 = .ok (.invokevirtual 183, 3) := by decide +kernel
theorem dX10_order_22 : decode cX10_order 22 = .ok (.ireturn, 1) := by decide +kernel
theorem dX10_order_23 : decode cX10_order 23 = .ok (.aload_n 0, 1) := by decide +kernel
theorem dX10_order_24 : decode cX10_order 24 = .ok (.iload_n 1, 1) := by decide +kernel
theorem dX10_order_25 : decode cX10_order 25 = .ok (.invokevirtual 355, 3) := by decide +kernel
theorem dX10_order_28 : decode cX10_order 28 = .ok (.ifCond .ne 9, 3) := by decide +kernel
theorem dX10_order_31 : decode cX10_order 31 = .ok (.aload_n 0, 1) := by decide +kernel
theorem dX10_order_32 : decode cX10_order 32 = .ok (.iconst 3, 1) := by decide +kernel
theorem dX10_order_33 : decode cX10_order 33 = .ok (.invokevirtual 183, 3) := by decide +kernel
theorem dX10_order_36 : decode cX10_order 36 = .ok (.ireturn, 1) := by decide +kernel
theorem dX10_order_37 : decode cX10_order 37 = .ok (.aload_n 0, 1) := by decide +kernel
theorem dX10_order_38 : decode cX10_order 38 = .ok (.invokevirtual 372, 3) := by decide +kernel
theorem dX10_order_41 : decode cX10_order 41 = .ok (.istore_n 3, 1) := by decide +kernel
theorem dX10_order_42 : decode cX10_order 42 = .ok (.iload_n 3, 1) := by decide +kernel
theorem dX10_order_43 : decode cX10_order 43 = .ok (.ifCond .ge 10, 3) := by decide +kernel
theorem dX10_order_46 : decode cX10_order 46 = .ok (.aload_n 0, 1) := by decide +kernel
theorem dX10_order_47 : decode cX10_order 47 = .ok (.bipush 6, 2) := by decide +kernel
theorem dX10_order_49 : decode cX10_order 49 = .ok (.invokevirtual 183, 3) := by decide +kernel
theorem dX10_order_52 : decode cX10_order 52 = .ok (.ireturn, 1) := by decide +kernel
theorem dX10_order_53 : decode cX10_order 53 = .ok (.iload_n 2, 1) := by decide +kernel
theorem dX10_order_54 : decode cX10_order 54 = .ok (.iload_n 3, 1) := by decide +kernel
theorem dX10_order_55 : decode cX10_order 55 = .ok (.if_icmp .ge 12, 3) := by decide +kernel
theorem dX10_order_58 : decode cX10_order 58 = .ok (.aload_n 0, 1) := by decide +kernel
theorem dX10_order_59 : decode cX10_order 59 = .ok (.getfield 70, 3) := by decide +kernel
theorem dX10_order_62 : decode cX10_order 62 = .ok (.iload_n 2, 1) := by decide +kernel
theorem dX10_order_63 : decode cX10_order 63 = .ok (.iaload, 1) := by decide +kernel
theorem dX10_order_64 : decode cX10_order 64 = .ok (.goto 8, 3) := by decide +kernel
theorem dX10_order_67 : decode cX10_order 67 = .ok (.aload_n 0, 1) := by decide +kernel
theorem dX10_order_68 : decode cX10_order 68 = .ok (.iconst 1, 1) := by decide +kernel
theorem dX10_order_69 : decode cX10_order 69 = .ok (.invokevirtual 183, 3) := by decide +kernel
theorem dX10_order_72 : decode cX10_order 72 = .ok (.ireturn, 1) := by decide +kernel
theorem dX10_stands_0 : decode cX10_stands 0 = .ok (.aload_n 0, 1) := by decide +kernel
theorem dX10_stands_1 : decode cX10_stands 1 = .ok (.invokevirtual 180, 3) := by decide +kernel
theorem dX10_stands_4 : decode cX10_stands 4 = .ok (.aload_n 0, 1) := by decide +kernel
theorem dX10_stands_5 : decode cX10_stands 5 = .ok (.iload_n 1, 1) := by decide +kernel
theorem dX10_stands_6 : decode cX10_stands 6 = .ok (.iconst 2, 1) := by decide +kernel
theorem dX10_stands_7 : decode cX10_stands 7 = .ok (.invokevirtual 352, 3) := by decide +kernel
theorem dX10_stands_10 : decode cX10_stands 10 = .ok (.ifCond .ne 9, 3) := by decide +kernel
theorem dX10_stands_13 : decode cX10_stands 13 = .ok (.aload_n 0, 1) := by decide +kernel
theorem dX10_stands_14 : decode cX10_stands 14 = .ok (.iconst 1, 1) := by decide +kernel
theorem dX10_stands_15 : decode cX10_stands 15 = .ok (.invokevirtual 183, 3) := by decide +kernel
theorem dX10_stands_18 : decode cX10_stands 18 = .ok (.ireturn, 1) := by decide +kernel
theorem dX10_stands_19 : decode cX10_stands 19 = .ok (.aload_n 0, 1) := by decide +kernel
theorem dX10_stands_20 : decode cX10_stands 20 = .ok (.iload_n 1, 1) := by decide +kernel
theorem dX10_stands_21 : decode cX10_stands 21 = .ok (.invokevirtual 355, 3) := by decide +kernel
theorem dX10_stands_24 : decode cX10_stands 24 = .ok (.ifCond .eq 10, 3) := by decide +kernel
theorem dX10_stands_27 : decode cX10_stands 27 = .ok (.aload_n 0, 1) := by decide +kernel
theorem dX10_stands_28 : decode cX10_stands 28 = .ok (.getfield 317, 3) := by decide +kernel
theorem dX10_stands_31 : decode cX10_stands 31 = .ok (.goto 8, 3) := by decide +kernel
theorem dX10_stands_34 : decode cX10_stands 34 = .ok (.aload_n 0, 1) := by decide +kernel
theorem dX10_stands_35 : decode cX10_stands 35 = .ok (.iconst 3, 1) := by decide +kernel
theorem dX10_stands_36 : decode cX10_stands 36 = .ok (.invokevirtual 183, 3) := by decide +kernel
theorem dX10_stands_39 : decode cX10_stands 39 = .ok (.ireturn, 1) := by decide +kernel
theorem dX10_sameTills_0 : decode cX10_sameTills 0 = .ok (.iconst 1, 1) := by decide +kernel
theorem dX10_sameTills_1 : decode cX10_sameTills 1 = .ok (.istore_n 3, 1) := by decide +kernel
theorem dX10_sameTills_2 : decode cX10_sameTills 2 = .ok (.iconst 0, 1) := by decide +kernel
theorem dX10_sameTills_3 : decode cX10_sameTills 3 = .ok (.istore 4, 2) := by decide +kernel
theorem dX10_sameTills_5 : decode cX10_sameTills 5 = .ok (.iload 4, 2) := by decide +kernel
theorem dX10_sameTills_7 : decode cX10_sameTills 7 = .ok (.iconst 3, 1) := by decide +kernel
theorem dX10_sameTills_8 : decode cX10_sameTills 8 = .ok (.if_icmp .ge 45, 3) := by decide +kernel
theorem dX10_sameTills_11 : decode cX10_sameTills 11 = .ok (.iload_n 3, 1) := by decide +kernel
theorem dX10_sameTills_12 : decode cX10_sameTills 12 = .ok (.ifCond .eq 33, 3) := by decide +kernel
theorem dX10_sameTills_15 : decode cX10_sameTills 15 = .ok (.aload_n 0, 1) := by decide +kernel
theorem dX10_sameTills_16 : decode cX10_sameTills 16 = .ok (.getfield 59, 3) := by decide +kernel
theorem dX10_sameTills_19 : decode cX10_sameTills 19 = .ok (.iconst 3, 1) := by decide +kernel
theorem dX10_sameTills_20 : decode cX10_sameTills 20 = .ok (.iload_n 1, 1) := by decide +kernel
theorem dX10_sameTills_21 : decode cX10_sameTills 21 = .ok (.imul, 1) := by decide +kernel
theorem dX10_sameTills_22 : decode cX10_sameTills 22 = .ok (.iload 4, 2) := by decide +kernel
theorem dX10_sameTills_24 : decode cX10_sameTills 24 = .ok (.iadd, 1) := by decide +kernel
theorem dX10_sameTills_25 : decode cX10_sameTills 25 = .ok (.laload, 1) := by decide +kernel
theorem dX10_sameTills_26 : decode cX10_sameTills 26 = .ok (.aload_n 0, 1) := by decide +kernel
theorem dX10_sameTills_27 : decode cX10_sameTills 27 = .ok (.getfield 59, 3) := by decide +kernel
theorem dX10_sameTills_30 : decode cX10_sameTills 30 = .ok (.iconst 3, 1) := by decide +kernel
theorem dX10_sameTills_31 : decode cX10_sameTills 31 = .ok (.iload_n 2, 1) := by decide +kernel
theorem dX10_sameTills_32 : decode cX10_sameTills 32 = .ok (.imul, 1) := by decide +kernel
theorem dX10_sameTills_33 : decode cX10_sameTills 33 = .ok (.iload 4, 2) := by decide +kernel
theorem dX10_sameTills_35 : decode cX10_sameTills 35 = .ok (.iadd, 1) := by decide +kernel
theorem dX10_sameTills_36 : decode cX10_sameTills 36 = .ok (.laload, 1) := by decide +kernel
theorem dX10_sameTills_37 : decode cX10_sameTills 37 = .ok (.lcmp, 1) := by decide +kernel
theorem dX10_sameTills_38 : decode cX10_sameTills 38 = .ok (.ifCond .ne 7, 3) := by decide +kernel
theorem dX10_sameTills_41 : decode cX10_sameTills 41 = .ok (.iconst 1, 1) := by decide +kernel
theorem dX10_sameTills_42 : decode cX10_sameTills 42 = .ok (.goto 4, 3) := by decide +kernel
theorem dX10_sameTills_45 : decode cX10_sameTills 45 = .ok (.iconst 0, 1) := by decide +kernel
theorem dX10_sameTills_46 : decode cX10_sameTills 46 = .ok (.istore_n 3, 1) := by decide +kernel
theorem dX10_sameTills_47 : decode cX10_sameTills 47 = .ok (.iinc 4 1, 3) := by decide +kernel
theorem dX10_sameTills_50 : decode cX10_sameTills 50 = .ok (.goto (-45), 3) := by decide +kernel
theorem dX10_sameTills_53 : decode cX10_sameTills 53 = .ok (.iload_n 3, 1) := by decide +kernel
theorem dX10_sameTills_54 : decode cX10_sameTills 54 = .ok (.ireturn, 1) := by decide +kernel
theorem dX10_ends_0 : decode cX10_ends 0 = .ok (.aload_n 0, 1) := by decide +kernel
theorem dX10_ends_1 : decode cX10_ends 1 = .ok (.invokevirtual 180, 3) := by decide +kernel
theorem dX10_ends_4 : decode cX10_ends 4 = .ok (.aload_n 0, 1) := by decide +kernel
theorem dX10_ends_5 : decode cX10_ends 5 = .ok (.iload_n 1, 1) := by decide +kernel
theorem dX10_ends_6 : decode cX10_ends 6 = .ok (.iconst 2, 1) := by decide +kernel
theorem dX10_ends_7 : decode cX10_ends 7 = .ok (.invokevirtual 352, 3) := by decide +kernel
theorem dX10_ends_10 : decode cX10_ends 10 = .ok (.ifCond .ne 9, 3) := by decide +kernel
theorem dX10_ends_13 : decode cX10_ends 13 = .ok (.aload_n 0, 1) := by decide +kernel
theorem dX10_ends_14 : decode cX10_ends 14 = .ok (.iconst 1, 1) := by decide +kernel
theorem dX10_ends_15 : decode cX10_ends 15 = .ok (.invokevirtual 183, 3) := by decide +kernel
theorem dX10_ends_18 : decode cX10_ends 18 = .ok (.ireturn, 1) := by decide +kernel
theorem dX10_ends_19 : decode cX10_ends 19 = .ok (.aload_n 0, 1) := by decide +kernel
theorem dX10_ends_20 : decode cX10_ends 20 = .ok (.iload_n 1, 1) := by decide +kernel
theorem dX10_ends_21 : decode cX10_ends 21 = .ok (.invokevirtual 355, 3) := by decide +kernel
theorem dX10_ends_24 : decode cX10_ends 24 = .ok (.ifCond .ne 9, 3) := by decide +kernel
theorem dX10_ends_27 : decode cX10_ends 27 = .ok (.aload_n 0, 1) := by decide +kernel
theorem dX10_ends_28 : decode cX10_ends 28 = .ok (.iconst 3, 1) := by decide +kernel
theorem dX10_ends_29 : decode cX10_ends 29 = .ok (.invokevirtual 183, 3) := by decide +kernel
theorem dX10_ends_32 : decode cX10_ends 32 = .ok (.ireturn, 1) := by decide +kernel
theorem dX10_ends_33 : decode cX10_ends 33 = .ok (.iconst 0, 1) := by decide +kernel
theorem dX10_ends_34 : decode cX10_ends 34 = .ok (.istore_n 2, 1) := by decide +kernel
theorem dX10_ends_35 : decode cX10_ends 35 = .ok (.iconst 0, 1) := by decide +kernel
theorem dX10_ends_36 : decode cX10_ends 36 = .ok (.istore_n 3, 1) := by decide +kernel
theorem dX10_ends_37 : decode cX10_ends 37 = .ok (.iload_n 3, 1) := by decide +kernel
theorem dX10_ends_38 : decode cX10_ends 38 = .ok (.aload_n 0, 1) := by decide +kernel
theorem dX10_ends_39 : decode cX10_ends 39 = .ok (.getfield 317, 3) := by decide +kernel
theorem dX10_ends_42 : decode cX10_ends 42 = .ok (.if_icmp .ge 82, 3) := by decide +kernel
theorem dX10_ends_45 : decode cX10_ends 45 = .ok (.aload_n 0, 1) := by decide +kernel
theorem dX10_ends_46 : decode cX10_ends 46 = .ok (.iload_n 3, 1) := by decide +kernel
theorem dX10_ends_47 : decode cX10_ends 47 = .ok (.invokevirtual 333, 3) := by decide +kernel
theorem dX10_ends_50 : decode cX10_ends 50 = .ok (.ifCond .ne 6, 3) := by decide +kernel
theorem dX10_ends_53 : decode cX10_ends 53 = .ok (.goto 65, 3) := by decide +kernel
theorem dX10_ends_56 : decode cX10_ends 56 = .ok (.iconst 1, 1) := by decide +kernel
theorem dX10_ends_57 : decode cX10_ends 57 = .ok (.istore 4, 2) := by decide +kernel
theorem dX10_ends_59 : decode cX10_ends 59 = .ok (.iconst 0, 1) := by decide +kernel
theorem dX10_ends_60 : decode cX10_ends 60 = .ok (.istore 5, 2) := by decide +kernel
theorem dX10_ends_62 : decode cX10_ends 62 = .ok (.iload 5, 2) := by decide +kernel
theorem dX10_ends_64 : decode cX10_ends 64 = .ok (.iload_n 3, 1) := by decide +kernel
theorem dX10_ends_65 : decode cX10_ends 65 = .ok (.if_icmp .ge 40, 3) := by decide +kernel
theorem dX10_ends_68 : decode cX10_ends 68 = .ok (.iload 4, 2) := by decide +kernel
theorem dX10_ends_70 : decode cX10_ends 70 = .ok (.ifCond .eq 35, 3) := by decide +kernel
theorem dX10_ends_73 : decode cX10_ends 73 = .ok (.aload_n 0, 1) := by decide +kernel
theorem dX10_ends_74 : decode cX10_ends 74 = .ok (.iload 5, 2) := by decide +kernel
theorem dX10_ends_76 : decode cX10_ends 76 = .ok (.invokevirtual 333, 3) := by decide +kernel
theorem dX10_ends_79 : decode cX10_ends 79 = .ok (.ifCond .eq 13, 3) := by decide +kernel
theorem dX10_ends_82 : decode cX10_ends 82 = .ok (.aload_n 0, 1) := by decide +kernel
theorem dX10_ends_83 : decode cX10_ends 83 = .ok (.iload_n 3, 1) := by decide +kernel
theorem dX10_ends_84 : decode cX10_ends 84 = .ok (.iload 5, 2) := by decide +kernel
theorem dX10_ends_86 : decode cX10_ends 86 = .ok (.invokevirtual 375, 3) := by decide +kernel
theorem dX10_ends_89 : decode cX10_ends 89 = .ok (.ifCond .ne 7, 3) := by decide +kernel
theorem dX10_ends_92 : decode cX10_ends 92 = .ok (.iconst 1, 1) := by decide +kernel
theorem dX10_ends_93 : decode cX10_ends 93 = .ok (.goto 4, 3) := by decide +kernel
theorem dX10_ends_96 : decode cX10_ends 96 = .ok (.iconst 0, 1) := by decide +kernel
theorem dX10_ends_97 : decode cX10_ends 97 = .ok (.istore 4, 2) := by decide +kernel
theorem dX10_ends_99 : decode cX10_ends 99 = .ok (.iinc 5 1, 3) := by decide +kernel
theorem dX10_ends_102 : decode cX10_ends 102 = .ok (.goto (-40), 3) := by decide +kernel
theorem dX10_ends_105 : decode cX10_ends 105 = .ok (.iload_n 2, 1) := by decide +kernel
theorem dX10_ends_106 : decode cX10_ends 106 = .ok (.iload 4, 2) := by decide +kernel
theorem dX10_ends_108 : decode cX10_ends 108 = .ok (.ifCond .eq 7, 3) := by decide +kernel
theorem dX10_ends_111 : decode cX10_ends 111 = .ok (.iconst 1, 1) := by decide +kernel
theorem dX10_ends_112 : decode cX10_ends 112 = .ok (.goto 4, 3) := by decide +kernel
theorem dX10_ends_115 : decode cX10_ends 115 = .ok (.iconst 0, 1) := by decide +kernel
theorem dX10_ends_116 : decode cX10_ends 116 = .ok (.iadd, 1) := by decide +kernel
theorem dX10_ends_117 : decode cX10_ends 117 = .ok (.istore_n 2, 1) := by decide +kernel
theorem dX10_ends_118 : decode cX10_ends 118 = .ok (.iinc 3 1, 3) := by decide +kernel
theorem dX10_ends_121 : decode cX10_ends 121 = .ok (.goto (-84), 3) := by decide +kernel
theorem dX10_ends_124 : decode cX10_ends 124 = .ok (.iload_n 2, 1) := by decide +kernel
theorem dX10_ends_125 : decode cX10_ends 125 = .ok (.ireturn, 1) := by decide +kernel
theorem dX10_firsts_0 : decode cX10_firsts 0 = .ok (.aload_n 0, 1) := by decide +kernel
theorem dX10_firsts_1 : decode cX10_firsts 1 = .ok (.invokevirtual 180, 3) := by decide +kernel
theorem dX10_firsts_4 : decode cX10_firsts 4 = .ok (.aload_n 0, 1) := by decide +kernel
theorem dX10_firsts_5 : decode cX10_firsts 5 = .ok (.iload_n 1, 1) := by decide +kernel
theorem dX10_firsts_6 : decode cX10_firsts 6 = .ok (.iconst 2, 1) := by decide +kernel
theorem dX10_firsts_7 : decode cX10_firsts 7 = .ok (.invokevirtual 352, 3) := by decide +kernel
theorem dX10_firsts_10 : decode cX10_firsts 10 = .ok (.ifCond .ne 9, 3) := by decide +kernel
theorem dX10_firsts_13 : decode cX10_firsts 13 = .ok (.aload_n 0, 1) := by decide +kernel
theorem dX10_firsts_14 : decode cX10_firsts 14 = .ok (.iconst 1, 1) := by decide +kernel
theorem dX10_firsts_15 : decode cX10_firsts 15 = .ok (.invokevirtual 183, 3) := by decide +kernel
theorem dX10_firsts_18 : decode cX10_firsts 18 = .ok (.ireturn, 1) := by decide +kernel
theorem dX10_firsts_19 : decode cX10_firsts 19 = .ok (.aload_n 0, 1) := by decide +kernel
theorem dX10_firsts_20 : decode cX10_firsts 20 = .ok (.iload_n 1, 1) := by decide +kernel
theorem dX10_firsts_21 : decode cX10_firsts 21 = .ok (.invokevirtual 355, 3) := by decide +kernel
theorem dX10_firsts_24 : decode cX10_firsts 24 = .ok (.ifCond .ne 9, 3) := by decide +kernel
theorem dX10_firsts_27 : decode cX10_firsts 27 = .ok (.aload_n 0, 1) := by decide +kernel
theorem dX10_firsts_28 : decode cX10_firsts 28 = .ok (.iconst 3, 1) := by decide +kernel
theorem dX10_firsts_29 : decode cX10_firsts 29 = .ok (.invokevirtual 183, 3) := by decide +kernel
theorem dX10_firsts_32 : decode cX10_firsts 32 = .ok (.ireturn, 1) := by decide +kernel
theorem dX10_firsts_33 : decode cX10_firsts 33 = .ok (.iconst 0, 1) := by decide +kernel
theorem dX10_firsts_34 : decode cX10_firsts 34 = .ok (.istore_n 2, 1) := by decide +kernel
theorem dX10_firsts_35 : decode cX10_firsts 35 = .ok (.iconst 0, 1) := by decide +kernel
theorem dX10_firsts_36 : decode cX10_firsts 36 = .ok (.istore_n 3, 1) := by decide +kernel
theorem dX10_firsts_37 : decode cX10_firsts 37 = .ok (.iload_n 3, 1) := by decide +kernel
theorem dX10_firsts_38 : decode cX10_firsts 38 = .ok (.iconst 4, 1) := by decide +kernel
theorem dX10_firsts_39 : decode cX10_firsts 39 = .ok (.if_icmp .ge 50, 3) := by decide +kernel
theorem dX10_firsts_42 : decode cX10_firsts 42 = .ok (.aload_n 0, 1) := by decide +kernel
theorem dX10_firsts_43 : decode cX10_firsts 43 = .ok (.getfield 50, 3) := by decide +kernel
theorem dX10_firsts_46 : decode cX10_firsts 46 = .ok (.iload_n 3, 1) := by decide +kernel
theorem dX10_firsts_47 : decode cX10_firsts 47 = .ok (.iaload, 1) := by decide +kernel
theorem dX10_firsts_48 : decode cX10_firsts 48 = .ok (.istore 4, 2) := by decide +kernel
theorem dX10_firsts_50 : decode cX10_firsts 50 = .ok (.iload_n 2, 1) := by decide +kernel
theorem dX10_firsts_51 : decode cX10_firsts 51 = .ok (.iload 4, 2) := by decide +kernel
theorem dX10_firsts_53 : decode cX10_firsts 53 = .ok (.ifCond .lt 27, 3) := by decide +kernel
theorem dX10_firsts_56 : decode cX10_firsts 56 = .ok (.aload_n 0, 1) := by decide +kernel
theorem dX10_firsts_57 : decode cX10_firsts 57 = .ok (.getfield 63, 3) := by decide +kernel
theorem dX10_firsts_60 : decode cX10_firsts 60 = .ok (.iload 4, 2) := by decide +kernel
theorem dX10_firsts_62 : decode cX10_firsts 62 = .ok (.baload, 1) := by decide +kernel
theorem dX10_firsts_63 : decode cX10_firsts 63 = .ok (.ifCond .eq 17, 3) := by decide +kernel
theorem dX10_firsts_66 : decode cX10_firsts 66 = .ok (.iconst 1, 1) := by decide +kernel
theorem dX10_firsts_67 : decode cX10_firsts 67 = .ok (.aload_n 0, 1) := by decide +kernel
theorem dX10_firsts_68 : decode cX10_firsts 68 = .ok (.getfield 41, 3) := by decide +kernel
theorem dX10_firsts_71 : decode cX10_firsts 71 = .ok (.bipush 20, 2) := by decide +kernel
theorem dX10_firsts_73 : decode cX10_firsts 73 = .ok (.iload_n 3, 1) := by decide +kernel
theorem dX10_firsts_74 : decode cX10_firsts 74 = .ok (.imul, 1) := by decide +kernel
theorem dX10_firsts_75 : decode cX10_firsts 75 = .ok (.iaload, 1) := by decide +kernel
theorem dX10_firsts_76 : decode cX10_firsts 76 = .ok (.ishl, 1) := by decide +kernel
theorem dX10_firsts_77 : decode cX10_firsts 77 = .ok (.goto 4, 3) := by decide +kernel
theorem dX10_firsts_80 : decode cX10_firsts 80 = .ok (.iconst 0, 1) := by decide +kernel
theorem dX10_firsts_81 : decode cX10_firsts 81 = .ok (.ior, 1) := by decide +kernel
theorem dX10_firsts_82 : decode cX10_firsts 82 = .ok (.istore_n 2, 1) := by decide +kernel
theorem dX10_firsts_83 : decode cX10_firsts 83 = .ok (.iinc 3 1, 3) := by decide +kernel
theorem dX10_firsts_86 : decode cX10_firsts 86 = .ok (.goto (-49), 3) := by decide +kernel
theorem dX10_firsts_89 : decode cX10_firsts 89 = .ok (.iload_n 2, 1) := by decide +kernel
theorem dX10_firsts_90 : decode cX10_firsts 90 = .ok (.ireturn, 1) := by decide +kernel
theorem dX10_layBrings_0 : decode cX10_layBrings 0 = .ok (.aload_n 0, 1) := by decide +kernel
theorem dX10_layBrings_1 : decode cX10_layBrings 1 = .ok (.getfield 38, 3) := by decide +kernel
theorem dX10_layBrings_4 : decode cX10_layBrings 4 = .ok (.bipush 7, 2) := by decide +kernel
theorem dX10_layBrings_6 : decode cX10_layBrings 6 = .ok (.iload_n 1, 1) := by decide +kernel
theorem dX10_layBrings_7 : decode cX10_layBrings 7 = .ok (.imul, 1) := by decide +kernel
theorem dX10_layBrings_8 : decode cX10_layBrings 8 = .ok (.iconst 0, 1) := by decide +kernel
theorem dX10_layBrings_9 : decode cX10_layBrings 9 = .ok (.iadd, 1) := by decide +kernel
theorem dX10_layBrings_10 : decode cX10_layBrings 10 = .ok (.iaload, 1) := by decide +kernel
theorem dX10_layBrings_11 : decode cX10_layBrings 11 = .ok (.istore_n 2, 1) := by decide +kernel
theorem dX10_layBrings_12 : decode cX10_layBrings 12 = .ok (.aload_n 0, 1) := by decide +kernel
theorem dX10_layBrings_13 : decode cX10_layBrings 13 = .ok (.getfield 317, 3) := by decide +kernel
theorem dX10_layBrings_16 : decode cX10_layBrings 16 = .ok (.iconst 1, 1) := by decide +kernel
theorem dX10_layBrings_17 : decode cX10_layBrings 17 = .ok (.isub, 1) := by decide +kernel
theorem dX10_layBrings_18 : decode cX10_layBrings 18 = .ok (.istore_n 3, 1) := by decide +kernel
theorem dX10_layBrings_19 : decode cX10_layBrings 19 = .ok (.iload_n 3, 1) := by decide +kernel
theorem dX10_layBrings_20 : decode cX10_layBrings 20 = .ok (.ifCond .lt 133, 3) := by decide +kernel
theorem dX10_layBrings_23 : decode cX10_layBrings 23 = .ok (.iconst 0, 1) := by decide +kernel
theorem dX10_layBrings_24 : decode cX10_layBrings 24 = .ok (.istore 4, 2) := by decide +kernel
theorem dX10_layBrings_26 : decode cX10_layBrings 26 = .ok (.iconst 0, 1) := by decide +kernel
theorem dX10_layBrings_27 : decode cX10_layBrings 27 = .ok (.istore 5, 2) := by decide +kernel
theorem dX10_layBrings_29 : decode cX10_layBrings 29 = .ok (.iload 5, 2) := by decide +kernel
theorem dX10_layBrings_31 : decode cX10_layBrings 31 = .ok (.iconst 4, 1) := by decide +kernel
theorem dX10_layBrings_32 : decode cX10_layBrings 32 = .ok (.if_icmp .ge 107, 3) := by decide +kernel
theorem dX10_layBrings_35 : decode cX10_layBrings 35 = .ok (.aload_n 0, 1) := by decide +kernel
theorem dX10_layBrings_36 : decode cX10_layBrings 36 = .ok (.getfield 50, 3) := by decide +kernel
theorem dX10_layBrings_39 : decode cX10_layBrings 39 = .ok (.iconst 4, 1) := by decide +kernel
theorem dX10_layBrings_40 : decode cX10_layBrings 40 = .ok (.iload_n 3, 1) := by decide +kernel
theorem dX10_layBrings_41 : decode cX10_layBrings 41 = .ok (.imul, 1) := by decide +kernel
theorem dX10_layBrings_42 : decode cX10_layBrings 42 = .ok (.iload 5, 2) := by decide +kernel
theorem dX10_layBrings_44 : decode cX10_layBrings 44 = .ok (.iadd, 1) := by decide +kernel
theorem dX10_layBrings_45 : decode cX10_layBrings 45 = .ok (.iaload, 1) := by decide +kernel
theorem dX10_layBrings_46 : decode cX10_layBrings 46 = .ok (.istore 6, 2) := by decide +kernel
theorem dX10_layBrings_48 : decode cX10_layBrings 48 = .ok (.iload 6, 2) := by decide +kernel
theorem dX10_layBrings_50 : decode cX10_layBrings 50 = .ok (.ifCond .ge 6, 3) := by decide +kernel
theorem dX10_layBrings_53 : decode cX10_layBrings 53 = .ok (.goto 80, 3) := by decide +kernel
theorem dX10_layBrings_56 : decode cX10_layBrings 56 = .ok (.iload 5, 2) := by decide +kernel
theorem dX10_layBrings_58 : decode cX10_layBrings 58 = .ok (.iload_n 2, 1) := by decide +kernel
theorem dX10_layBrings_59 : decode cX10_layBrings 59 = .ok (.if_icmp .ne 31, 3) := by decide +kernel
theorem dX10_layBrings_62 : decode cX10_layBrings 62 = .ok (.aload_n 0, 1) := by decide +kernel
theorem dX10_layBrings_63 : decode cX10_layBrings 63 = .ok (.getfield 41, 3) := by decide +kernel
theorem dX10_layBrings_66 : decode cX10_layBrings 66 = .ok (.bipush 20, 2) := by decide +kernel
theorem dX10_layBrings_68 : decode cX10_layBrings 68 = .ok (.iload_n 2, 1) := by decide +kernel
theorem dX10_layBrings_69 : decode cX10_layBrings 69 = .ok (.imul, 1) := by decide +kernel
theorem dX10_layBrings_70 : decode cX10_layBrings 70 = .ok (.aload_n 0, 1) := by decide +kernel
theorem dX10_layBrings_71 : decode cX10_layBrings 71 = .ok (.getfield 47, 3) := by decide +kernel
theorem dX10_layBrings_74 : decode cX10_layBrings 74 = .ok (.iconst 4, 1) := by decide +kernel
theorem dX10_layBrings_75 : decode cX10_layBrings 75 = .ok (.iload_n 3, 1) := by decide +kernel
theorem dX10_layBrings_76 : decode cX10_layBrings 76 = .ok (.imul, 1) := by decide +kernel
theorem dX10_layBrings_77 : decode cX10_layBrings 77 = .ok (.iload_n 2, 1) := by decide +kernel
theorem dX10_layBrings_78 : decode cX10_layBrings 78 = .ok (.iadd, 1) := by decide +kernel
theorem dX10_layBrings_79 : decode cX10_layBrings 79 = .ok (.iaload, 1) := by decide +kernel
theorem dX10_layBrings_80 : decode cX10_layBrings 80 = .ok (.iadd, 1) := by decide +kernel
theorem dX10_layBrings_81 : decode cX10_layBrings 81 = .ok (.iaload, 1) := by decide +kernel
theorem dX10_layBrings_82 : decode cX10_layBrings 82 = .ok (.iload_n 1, 1) := by decide +kernel
theorem dX10_layBrings_83 : decode cX10_layBrings 83 = .ok (.if_icmp .ne 7, 3) := by decide +kernel
theorem dX10_layBrings_86 : decode cX10_layBrings 86 = .ok (.iconst 1, 1) := by decide +kernel
theorem dX10_layBrings_87 : decode cX10_layBrings 87 = .ok (.goto 4, 3) := by decide +kernel
theorem dX10_layBrings_90 : decode cX10_layBrings 90 = .ok (.iconst 0, 1) := by decide +kernel
theorem dX10_layBrings_91 : decode cX10_layBrings 91 = .ok (.istore 7, 2) := by decide +kernel
theorem dX10_layBrings_93 : decode cX10_layBrings 93 = .ok (.iload 4, 2) := by decide +kernel
theorem dX10_layBrings_95 : decode cX10_layBrings 95 = .ok (.ifCond .ne 31, 3) := by decide +kernel
theorem dX10_layBrings_98 : decode cX10_layBrings 98 = .ok (.iload 7, 2) := by decide +kernel
theorem dX10_layBrings_100 : decode cX10_layBrings 100 = .ok (.ifCond .eq 16, 3) := by decide +kernel
theorem dX10_layBrings_103 : decode cX10_layBrings 103 = .ok (.aload_n 0, 1) := by decide +kernel
theorem dX10_layBrings_104 : decode cX10_layBrings 104 = .ok (.getfield 63, 3) := by decide +kernel
theorem dX10_layBrings_107 : decode cX10_layBrings 107 = .ok (.iload 6, 2) := by decide +kernel
theorem dX10_layBrings_109 : decode cX10_layBrings 109 = .ok (.baload, 1) := by decide +kernel
theorem dX10_layBrings_110 : decode cX10_layBrings 110 = .ok (.ifCond .eq 20, 3) := by decide +kernel
theorem dX10_layBrings_113 : decode cX10_layBrings 113 = .ok (.goto 13, 3) := by decide +kernel
theorem dX10_layBrings_116 : decode cX10_layBrings 116 = .ok (.aload_n 0, 1) := by decide +kernel
theorem dX10_layBrings_117 : decode cX10_layBrings 117 = .ok (.getfield 73, 3) := by decide +kernel
theorem dX10_layBrings_120 : decode cX10_layBrings 120 = .ok (.iload 6, 2) := by decide +kernel
theorem dX10_layBrings_122 : decode cX10_layBrings 122 = .ok (.baload, 1) := by decide +kernel
theorem dX10_layBrings_123 : decode cX10_layBrings 123 = .ok (.ifCond .eq 7, 3) := by decide +kernel
theorem dX10_layBrings_126 : decode cX10_layBrings 126 = .ok (.iconst 1, 1) := by decide +kernel
theorem dX10_layBrings_127 : decode cX10_layBrings 127 = .ok (.goto 4, 3) := by decide +kernel
theorem dX10_layBrings_130 : decode cX10_layBrings 130 = .ok (.iconst 0, 1) := by decide +kernel
theorem dX10_layBrings_131 : decode cX10_layBrings 131 = .ok (.istore 4, 2) := by decide +kernel
theorem dX10_layBrings_133 : decode cX10_layBrings 133 = .ok (.iinc 5 1, 3) := by decide +kernel
theorem dX10_layBrings_136 : decode cX10_layBrings 136 = .ok (.goto (-107), 3) := by decide +kernel
theorem dX10_layBrings_139 : decode cX10_layBrings 139 = .ok (.aload_n 0, 1) := by decide +kernel
theorem dX10_layBrings_140 : decode cX10_layBrings 140 = .ok (.getfield 73, 3) := by decide +kernel
theorem dX10_layBrings_143 : decode cX10_layBrings 143 = .ok (.iload_n 3, 1) := by decide +kernel
theorem dX10_layBrings_144 : decode cX10_layBrings 144 = .ok (.iload 4, 2) := by decide +kernel
theorem dX10_layBrings_146 : decode cX10_layBrings 146 = .ok (.bastore, 1) := by decide +kernel
theorem dX10_layBrings_147 : decode cX10_layBrings 147 = .ok (.iinc 3 (-1), 3) := by decide +kernel
theorem dX10_layBrings_150 : decode cX10_layBrings 150 = .ok (.goto (-131), 3) := by decide +kernel
theorem dX10_layBrings_153 : decode cX10_layBrings 153 = .ok (.return_, 1) := by decide +kernel
theorem dX10_ahead_0 : decode cX10_ahead 0 = .ok (.aload_n 0, 1) := by decide +kernel
theorem dX10_ahead_1 : decode cX10_ahead 1 = .ok (.invokevirtual 180, 3) := by decide +kernel
theorem dX10_ahead_4 : decode cX10_ahead 4 = .ok (.aload_n 0, 1) := by decide +kernel
theorem dX10_ahead_5 : decode cX10_ahead 5 = .ok (.iload_n 1, 1) := by decide +kernel
theorem dX10_ahead_6 : decode cX10_ahead 6 = .ok (.iconst 2, 1) := by decide +kernel
theorem dX10_ahead_7 : decode cX10_ahead 7 = .ok (.invokevirtual 352, 3) := by decide +kernel
theorem dX10_ahead_10 : decode cX10_ahead 10 = .ok (.ifCond .eq 24, 3) := by decide +kernel
theorem dX10_ahead_13 : decode cX10_ahead 13 = .ok (.aload_n 0, 1) := by decide +kernel
theorem dX10_ahead_14 : decode cX10_ahead 14 = .ok (.iload_n 2, 1) := by decide +kernel
theorem dX10_ahead_15 : decode cX10_ahead 15 = .ok (.invokevirtual 378, 3) := by decide +kernel
theorem dX10_ahead_18 : decode cX10_ahead 18 = .ok (.ifCond .eq 16, 3) := by decide +kernel
theorem dX10_ahead_21 : decode cX10_ahead 21 = .ok (.aload_n 0, 1) := by decide +kernel
theorem dX10_ahead_22 : decode cX10_ahead 22 = .ok (.iload_n 3, 1) := by decide +kernel
theorem dX10_ahead_23 : decode cX10_ahead 23 = .ok (.invokevirtual 378, 3) := by decide +kernel
theorem dX10_ahead_26 : decode cX10_ahead 26 = .ok (.ifCond .eq 8, 3) := by decide +kernel
theorem dX10_ahead_29 : decode cX10_ahead 29 = .ok (.iload_n 2, 1) := by decide +kernel
theorem dX10_ahead_30 : decode cX10_ahead 30 = .ok (.iload_n 3, 1) := by decide +kernel
theorem dX10_ahead_31 : decode cX10_ahead 31 = .ok (.if_icmp .ne 9, 3) := by decide +kernel
theorem dX10_ahead_34 : decode cX10_ahead 34 = .ok (.aload_n 0, 1) := by decide +kernel
theorem dX10_ahead_35 : decode cX10_ahead 35 = .ok (.iconst 1, 1) := by decide +kernel
theorem dX10_ahead_36 : decode cX10_ahead 36 = .ok (.invokevirtual 183, 3) := by decide +kernel
theorem dX10_ahead_39 : decode cX10_ahead 39 = .ok (.ireturn, 1) := by decide +kernel
theorem dX10_ahead_40 : decode cX10_ahead 40 = .ok (.aload_n 0, 1) := by decide +kernel
theorem dX10_ahead_41 : decode cX10_ahead 41 = .ok (.iload_n 1, 1) := by decide +kernel
theorem dX10_ahead_42 : decode cX10_ahead 42 = .ok (.invokevirtual 355, 3) := by decide +kernel
theorem dX10_ahead_45 : decode cX10_ahead 45 = .ok (.ifCond .ne 9, 3) := by decide +kernel
theorem dX10_ahead_48 : decode cX10_ahead 48 = .ok (.aload_n 0, 1) := by decide +kernel
theorem dX10_ahead_49 : decode cX10_ahead 49 = .ok (.iconst 3, 1) := by decide +kernel
theorem dX10_ahead_50 : decode cX10_ahead 50 = .ok (.invokevirtual 183, 3) := by decide +kernel
theorem dX10_ahead_53 : decode cX10_ahead 53 = .ok (.ireturn, 1) := by decide +kernel
theorem dX10_ahead_54 : decode cX10_ahead 54 = .ok (.aload_n 0, 1) := by decide +kernel
theorem dX10_ahead_55 : decode cX10_ahead 55 = .ok (.iload_n 3, 1) := by decide +kernel
theorem dX10_ahead_56 : decode cX10_ahead 56 = .ok (.invokevirtual 381, 3) := by decide +kernel
theorem dX10_ahead_59 : decode cX10_ahead 59 = .ok (.aload_n 0, 1) := by decide +kernel
theorem dX10_ahead_60 : decode cX10_ahead 60 = .ok (.getfield 38, 3) := by decide +kernel
theorem dX10_ahead_63 : decode cX10_ahead 63 = .ok (.bipush 7, 2) := by decide +kernel
theorem dX10_ahead_65 : decode cX10_ahead 65 = .ok (.iload_n 2, 1) := by decide +kernel
theorem dX10_ahead_66 : decode cX10_ahead 66 = .ok (.imul, 1) := by decide +kernel
theorem dX10_ahead_67 : decode cX10_ahead 67 = .ok (.iconst 0, 1) := by decide +kernel
theorem dX10_ahead_68 : decode cX10_ahead 68 = .ok (.iadd, 1) := by decide +kernel
theorem dX10_ahead_69 : decode cX10_ahead 69 = .ok (.iaload, 1) := by decide +kernel
theorem dX10_ahead_70 : decode cX10_ahead 70 = .ok (.istore 4, 2) := by decide +kernel
theorem dX10_ahead_72 : decode cX10_ahead 72 = .ok (.iconst 0, 1) := by decide +kernel
theorem dX10_ahead_73 : decode cX10_ahead 73 = .ok (.istore 5, 2) := by decide +kernel
theorem dX10_ahead_75 : decode cX10_ahead 75 = .ok (.iload 5, 2) := by decide +kernel
theorem dX10_ahead_77 : decode cX10_ahead 77 = .ok (.aload_n 0, 1) := by decide +kernel
theorem dX10_ahead_78 : decode cX10_ahead 78 = .ok (.getfield 317, 3) := by decide +kernel
theorem dX10_ahead_81 : decode cX10_ahead 81 = .ok (.if_icmp .ge 71, 3) := by decide +kernel
theorem dX10_ahead_84 : decode cX10_ahead 84 = .ok (.aload_n 0, 1) := by decide +kernel
theorem dX10_ahead_85 : decode cX10_ahead 85 = .ok (.getfield 47, 3) := by decide +kernel
theorem dX10_ahead_88 : decode cX10_ahead 88 = .ok (.iconst 4, 1) := by decide +kernel
theorem dX10_ahead_89 : decode cX10_ahead 89 = .ok (.iload 5, 2) := by decide +kernel
theorem dX10_ahead_91 : decode cX10_ahead 91 = .ok (.imul, 1) := by decide +kernel
theorem dX10_ahead_92 : decode cX10_ahead 92 = .ok (.iload 4, 2) := by decide +kernel
theorem dX10_ahead_94 : decode cX10_ahead 94 = .ok (.iadd, 1) := by decide +kernel
theorem dX10_ahead_95 : decode cX10_ahead 95 = .ok (.iaload, 1) := by decide +kernel
theorem dX10_ahead_96 : decode cX10_ahead 96 = .ok (.istore 6, 2) := by decide +kernel
theorem dX10_ahead_98 : decode cX10_ahead 98 = .ok (.aload_n 0, 1) := by decide +kernel
theorem dX10_ahead_99 : decode cX10_ahead 99 = .ok (.getfield 50, 3) := by decide +kernel
theorem dX10_ahead_102 : decode cX10_ahead 102 = .ok (.iconst 4, 1) := by decide +kernel
theorem dX10_ahead_103 : decode cX10_ahead 103 = .ok (.iload 5, 2) := by decide +kernel
theorem dX10_ahead_105 : decode cX10_ahead 105 = .ok (.imul, 1) := by decide +kernel
theorem dX10_ahead_106 : decode cX10_ahead 106 = .ok (.iload 4, 2) := by decide +kernel
theorem dX10_ahead_108 : decode cX10_ahead 108 = .ok (.iadd, 1) := by decide +kernel
theorem dX10_ahead_109 : decode cX10_ahead 109 = .ok (.iaload, 1) := by decide +kernel
theorem dX10_ahead_110 : decode cX10_ahead 110 = .ok (.istore 7, 2) := by decide +kernel
theorem dX10_ahead_112 : decode cX10_ahead 112 = .ok (.iload 7, 2) := by decide +kernel
theorem dX10_ahead_114 : decode cX10_ahead 114 = .ok (.ifCond .lt 32, 3) := by decide +kernel
theorem dX10_ahead_117 : decode cX10_ahead 117 = .ok (.aload_n 0, 1) := by decide +kernel
theorem dX10_ahead_118 : decode cX10_ahead 118 = .ok (.getfield 41, 3) := by decide +kernel
theorem dX10_ahead_121 : decode cX10_ahead 121 = .ok (.bipush 20, 2) := by decide +kernel
theorem dX10_ahead_123 : decode cX10_ahead 123 = .ok (.iload 4, 2) := by decide +kernel
theorem dX10_ahead_125 : decode cX10_ahead 125 = .ok (.imul, 1) := by decide +kernel
theorem dX10_ahead_126 : decode cX10_ahead 126 = .ok (.iload 6, 2) := by decide +kernel
theorem dX10_ahead_128 : decode cX10_ahead 128 = .ok (.iadd, 1) := by decide +kernel
theorem dX10_ahead_129 : decode cX10_ahead 129 = .ok (.iaload, 1) := by decide +kernel
theorem dX10_ahead_130 : decode cX10_ahead 130 = .ok (.iload_n 2, 1) := by decide +kernel
theorem dX10_ahead_131 : decode cX10_ahead 131 = .ok (.if_icmp .ne 15, 3) := by decide +kernel
theorem dX10_ahead_134 : decode cX10_ahead 134 = .ok (.aload_n 0, 1) := by decide +kernel
theorem dX10_ahead_135 : decode cX10_ahead 135 = .ok (.getfield 73, 3) := by decide +kernel
theorem dX10_ahead_138 : decode cX10_ahead 138 = .ok (.iload 7, 2) := by decide +kernel
theorem dX10_ahead_140 : decode cX10_ahead 140 = .ok (.baload, 1) := by decide +kernel
theorem dX10_ahead_141 : decode cX10_ahead 141 = .ok (.ifCond .eq 5, 3) := by decide +kernel
theorem dX10_ahead_144 : decode cX10_ahead 144 = .ok (.iconst 1, 1) := by decide +kernel
theorem dX10_ahead_145 : decode cX10_ahead 145 = .ok (.ireturn, 1) := by decide +kernel
theorem dX10_ahead_146 : decode cX10_ahead 146 = .ok (.iinc 5 1, 3) := by decide +kernel
theorem dX10_ahead_149 : decode cX10_ahead 149 = .ok (.goto (-74), 3) := by decide +kernel
theorem dX10_ahead_152 : decode cX10_ahead 152 = .ok (.iconst 0, 1) := by decide +kernel
theorem dX10_ahead_153 : decode cX10_ahead 153 = .ok (.ireturn, 1) := by decide +kernel
theorem dX10_each_0 : decode cX10_each 0 = .ok (.aload_n 0, 1) := by decide +kernel
theorem dX10_each_1 : decode cX10_each 1 = .ok (.invokevirtual 180, 3) := by decide +kernel
theorem dX10_each_4 : decode cX10_each 4 = .ok (.aload_n 0, 1) := by decide +kernel
theorem dX10_each_5 : decode cX10_each 5 = .ok (.iload_n 1, 1) := by decide +kernel
theorem dX10_each_6 : decode cX10_each 6 = .ok (.invokevirtual 384, 3) := by decide +kernel
theorem dX10_each_9 : decode cX10_each 9 = .ok (.ifCond .ne 9, 3) := by decide +kernel
theorem dX10_each_12 : decode cX10_each 12 = .ok (.aload_n 0, 1) := by decide +kernel
theorem dX10_each_13 : decode cX10_each 13 = .ok (.iconst 1, 1) := by decide +kernel
theorem dX10_each_14 : decode cX10_each 14 = .ok (.invokevirtual 183, 3) := by decide +kernel
theorem dX10_each_17 : decode cX10_each 17 = .ok (.ireturn, 1) := by decide +kernel
theorem dX10_each_18 : decode cX10_each 18 = .ok (.aload_n 0, 1) := by decide +kernel
theorem dX10_each_19 : decode cX10_each 19 = .ok (.invokevirtual 343, 3) := by decide +kernel
theorem dX10_each_22 : decode cX10_each 22 = .ok (.aload_n 0, 1) := by decide +kernel
theorem dX10_each_23 : decode cX10_each 23 = .ok (.iload_n 1, 1) := by decide +kernel
theorem dX10_each_24 : decode cX10_each 24 = .ok (.putfield 293, 3) := by decide +kernel
theorem dX10_each_27 : decode cX10_each 27 = .ok (.aload_n 0, 1) := by decide +kernel
theorem dX10_each_28 : decode cX10_each 28 = .ok (.iconst 3, 1) := by decide +kernel
theorem dX10_each_29 : decode cX10_each 29 = .ok (.invokevirtual 346, 3) := by decide +kernel
theorem dX10_each_32 : decode cX10_each 32 = .ok (.ifCond .eq 20, 3) := by decide +kernel
theorem dX10_each_35 : decode cX10_each 35 = .ok (.aload_n 0, 1) := by decide +kernel
theorem dX10_each_36 : decode cX10_each 36 = .ok (.getfield 63, 3) := by decide +kernel
theorem dX10_each_39 : decode cX10_each 39 = .ok (.iconst 0, 1) := by decide +kernel
theorem dX10_each_40 : decode cX10_each 40 = .ok (.baload, 1) := by decide +kernel
theorem dX10_each_41 : decode cX10_each 41 = .ok (.ifCond .eq 7, 3) := by decide +kernel
theorem dX10_each_44 : decode cX10_each 44 = .ok (.iconst 1, 1) := by decide +kernel
theorem dX10_each_45 : decode cX10_each 45 = .ok (.goto 12, 3) := by decide +kernel
theorem dX10_each_48 : decode cX10_each 48 = .ok (.iconst 0, 1) := by decide +kernel
theorem dX10_each_49 : decode cX10_each 49 = .ok (.goto 8, 3) := by decide +kernel
theorem dX10_each_52 : decode cX10_each 52 = .ok (.aload_n 0, 1) := by decide +kernel
theorem dX10_each_53 : decode cX10_each 53 = .ok (.iconst 3, 1) := by decide +kernel
theorem dX10_each_54 : decode cX10_each 54 = .ok (.invokevirtual 183, 3) := by decide +kernel
theorem dX10_each_57 : decode cX10_each 57 = .ok (.ireturn, 1) := by decide +kernel
theorem dX10_layEnds_0 : decode cX10_layEnds 0 = .ok (.iconst 0, 1) := by decide +kernel
theorem dX10_layEnds_1 : decode cX10_layEnds 1 = .ok (.istore_n 1, 1) := by decide +kernel
theorem dX10_layEnds_2 : decode cX10_layEnds 2 = .ok (.iconst 0, 1) := by decide +kernel
theorem dX10_layEnds_3 : decode cX10_layEnds 3 = .ok (.istore_n 2, 1) := by decide +kernel
theorem dX10_layEnds_4 : decode cX10_layEnds 4 = .ok (.iload_n 2, 1) := by decide +kernel
theorem dX10_layEnds_5 : decode cX10_layEnds 5 = .ok (.aload_n 0, 1) := by decide +kernel
theorem dX10_layEnds_6 : decode cX10_layEnds 6 = .ok (.getfield 26, 3) := by decide +kernel
theorem dX10_layEnds_9 : decode cX10_layEnds 9 = .ok (.sipush 141, 3) := by decide +kernel
theorem dX10_layEnds_12 : decode cX10_layEnds 12 = .ok (.iaload, 1) := by decide +kernel
theorem dX10_layEnds_13 : decode cX10_layEnds 13 = .ok (.if_icmp .ge 94, 3) := by decide +kernel
theorem dX10_layEnds_16 : decode cX10_layEnds 16 = .ok (.aload_n 0, 1) := by decide +kernel
theorem dX10_layEnds_17 : decode cX10_layEnds 17 = .ok (.getfield 26, 3) := by decide +kernel
theorem dX10_layEnds_20 : decode cX10_layEnds 20 = .ok (.bipush 7, 2) := by decide +kernel
theorem dX10_layEnds_22 : decode cX10_layEnds 22 = .ok (.iload_n 2, 1) := by decide +kernel
theorem dX10_layEnds_23 : decode cX10_layEnds 23 = .ok (.imul, 1) := by decide +kernel
theorem dX10_layEnds_24 : decode cX10_layEnds 24 = .ok (.iconst 5, 1) := by decide +kernel
theorem dX10_layEnds_25 : decode cX10_layEnds 25 = .ok (.iadd, 1) := by decide +kernel
theorem dX10_layEnds_26 : decode cX10_layEnds 26 = .ok (.iaload, 1) := by decide +kernel
theorem dX10_layEnds_27 : decode cX10_layEnds 27 = .ok (.istore_n 3, 1) := by decide +kernel
theorem dX10_layEnds_28 : decode cX10_layEnds 28 = .ok (.iload_n 3, 1) := by decide +kernel
theorem dX10_layEnds_29 : decode cX10_layEnds 29 = .ok (.bipush (-2), 2) := by decide +kernel
theorem dX10_layEnds_31 : decode cX10_layEnds 31 = .ok (.if_icmp .ne 6, 3) := by decide +kernel
theorem dX10_layEnds_34 : decode cX10_layEnds 34 = .ok (.goto 67, 3) := by decide +kernel
theorem dX10_layEnds_37 : decode cX10_layEnds 37 = .ok (.iload_n 1, 1) := by decide +kernel
theorem dX10_layEnds_38 : decode cX10_layEnds 38 = .ok (.istore 4, 2) := by decide +kernel
theorem dX10_layEnds_40 : decode cX10_layEnds 40 = .ok (.iload 4, 2) := by decide +kernel
theorem dX10_layEnds_42 : decode cX10_layEnds 42 = .ok (.ifCond .le 48, 3) := by decide +kernel
theorem dX10_layEnds_45 : decode cX10_layEnds 45 = .ok (.aload_n 0, 1) := by decide +kernel
theorem dX10_layEnds_46 : decode cX10_layEnds 46 = .ok (.getfield 26, 3) := by decide +kernel
theorem dX10_layEnds_49 : decode cX10_layEnds 49 = .ok (.bipush 7, 2) := by decide +kernel
theorem dX10_layEnds_51 : decode cX10_layEnds 51 = .ok (.aload_n 0, 1) := by decide +kernel
theorem dX10_layEnds_52 : decode cX10_layEnds 52 = .ok (.getfield 76, 3) := by decide +kernel
theorem dX10_layEnds_55 : decode cX10_layEnds 55 = .ok (.iload 4, 2) := by decide +kernel
theorem dX10_layEnds_57 : decode cX10_layEnds 57 = .ok (.iconst 1, 1) := by decide +kernel
theorem dX10_layEnds_58 : decode cX10_layEnds 58 = .ok (.isub, 1) := by decide +kernel
theorem dX10_layEnds_59 : decode cX10_layEnds 59 = .ok (.iaload, 1) := by decide +kernel
theorem dX10_layEnds_60 : decode cX10_layEnds 60 = .ok (.imul, 1) := by decide +kernel
theorem dX10_layEnds_61 : decode cX10_layEnds 61 = .ok (.iconst 5, 1) := by decide +kernel
theorem dX10_layEnds_62 : decode cX10_layEnds 62 = .ok (.iadd, 1) := by decide +kernel
theorem dX10_layEnds_63 : decode cX10_layEnds 63 = .ok (.iaload, 1) := by decide +kernel
theorem dX10_layEnds_64 : decode cX10_layEnds 64 = .ok (.iload_n 3, 1) := by decide +kernel
theorem dX10_layEnds_65 : decode cX10_layEnds 65 = .ok (.if_icmp .le 25, 3) := by decide +kernel
theorem dX10_layEnds_68 : decode cX10_layEnds 68 = .ok (.aload_n 0, 1) := by decide +kernel
theorem dX10_layEnds_69 : decode cX10_layEnds 69 = .ok (.getfield 76, 3) := by decide +kernel
theorem dX10_layEnds_72 : decode cX10_layEnds 72 = .ok (.iload 4, 2) := by decide +kernel
theorem dX10_layEnds_74 : decode cX10_layEnds 74 = .ok (.aload_n 0, 1) := by decide +kernel
theorem dX10_layEnds_75 : decode cX10_layEnds 75 = .ok (.getfield 76, 3) := by decide +kernel
theorem dX10_layEnds_78 : decode cX10_layEnds 78 = .ok (.iload 4, 2) := by decide +kernel
theorem dX10_layEnds_80 : decode cX10_layEnds 80 = .ok (.iconst 1, 1) := by decide +kernel
theorem dX10_layEnds_81 : decode cX10_layEnds 81 = .ok (.isub, 1) := by decide +kernel
theorem dX10_layEnds_82 : decode cX10_layEnds 82 = .ok (.iaload, 1) := by decide +kernel
theorem dX10_layEnds_83 : decode cX10_layEnds 83 = .ok (.iastore, 1) := by decide +kernel
theorem dX10_layEnds_84 : decode cX10_layEnds 84 = .ok (.iinc 4 (-1), 3) := by decide +kernel
theorem dX10_layEnds_87 : decode cX10_layEnds 87 = .ok (.goto (-47), 3) := by decide +kernel
theorem dX10_layEnds_90 : decode cX10_layEnds 90 = .ok (.aload_n 0, 1) := by decide +kernel
theorem dX10_layEnds_91 : decode cX10_layEnds 91 = .ok (.getfield 76, 3) := by decide +kernel
theorem dX10_layEnds_94 : decode cX10_layEnds 94 = .ok (.iload 4, 2) := by decide +kernel
theorem dX10_layEnds_96 : decode cX10_layEnds 96 = .ok (.iload_n 2, 1) := by decide +kernel
theorem dX10_layEnds_97 : decode cX10_layEnds 97 = .ok (.iastore, 1) := by decide +kernel
theorem dX10_layEnds_98 : decode cX10_layEnds 98 = .ok (.iinc 1 1, 3) := by decide +kernel
theorem dX10_layEnds_101 : decode cX10_layEnds 101 = .ok (.iinc 2 1, 3) := by decide +kernel
theorem dX10_layEnds_104 : decode cX10_layEnds 104 = .ok (.goto (-100), 3) := by decide +kernel
theorem dX10_layEnds_107 : decode cX10_layEnds 107 = .ok (.iload_n 1, 1) := by decide +kernel
theorem dX10_layEnds_108 : decode cX10_layEnds 108 = .ok (.ireturn, 1) := by decide +kernel
theorem dX10_bad_0 : decode cX10_bad 0 = .ok (.aload_n 0, 1) := by decide +kernel
theorem dX10_bad_1 : decode cX10_bad 1 = .ok (.invokevirtual 180, 3) := by decide +kernel
theorem dX10_bad_4 : decode cX10_bad 4 = .ok (.aload_n 0, 1) := by decide +kernel
theorem dX10_bad_5 : decode cX10_bad 5 = .ok (.iload_n 1, 1) := by decide +kernel
theorem dX10_bad_6 : decode cX10_bad 6 = .ok (.iconst 2, 1) := by decide +kernel
theorem dX10_bad_7 : decode cX10_bad 7 = .ok (.invokevirtual 352, 3) := by decide +kernel
theorem dX10_bad_10 : decode cX10_bad 10 = .ok (.ifCond .ne 9, 3) := by decide +kernel
theorem dX10_bad_13 : decode cX10_bad 13 = .ok (.aload_n 0, 1) := by decide +kernel
theorem dX10_bad_14 : decode cX10_bad 14 = .ok (.iconst 1, 1) := by decide +kernel
theorem dX10_bad_15 : decode cX10_bad 15 = .ok (.invokevirtual 183, 3) := by decide +kernel
theorem dX10_bad_18 : decode cX10_bad 18 = .ok (.ireturn, 1) := by decide +kernel
theorem dX10_bad_19 : decode cX10_bad 19 = .ok (.aload_n 0, 1) := by decide +kernel
theorem dX10_bad_20 : decode cX10_bad 20 = .ok (.invokevirtual 387, 3) := by decide +kernel
theorem dX10_bad_23 : decode cX10_bad 23 = .ok (.istore_n 2, 1) := by decide +kernel
theorem dX10_bad_24 : decode cX10_bad 24 = .ok (.iconst 0, 1) := by decide +kernel
theorem dX10_bad_25 : decode cX10_bad 25 = .ok (.istore_n 3, 1) := by decide +kernel
theorem dX10_bad_26 : decode cX10_bad 26 = .ok (.iload_n 3, 1) := by decide +kernel
theorem dX10_bad_27 : decode cX10_bad 27 = .ok (.iload_n 2, 1) := by decide +kernel
theorem dX10_bad_28 : decode cX10_bad 28 = .ok (.if_icmp .ge 151, 3) := by decide +kernel
theorem dX10_bad_31 : decode cX10_bad 31 = .ok (.aload_n 0, 1) := by decide +kernel
theorem dX10_bad_32 : decode cX10_bad 32 = .ok (.invokevirtual 343, 3) := by decide +kernel
theorem dX10_bad_35 : decode cX10_bad 35 = .ok (.aload_n 0, 1) := by decide +kernel
theorem dX10_bad_36 : decode cX10_bad 36 = .ok (.getfield 26, 3) := by decide +kernel
theorem dX10_bad_39 : decode cX10_bad 39 = .ok (.bipush 7, 2) := by decide +kernel
theorem dX10_bad_41 : decode cX10_bad 41 = .ok (.aload_n 0, 1) := by decide +kernel
theorem dX10_bad_42 : decode cX10_bad 42 = .ok (.getfield 76, 3) := by decide +kernel
theorem dX10_bad_45 : decode cX10_bad 45 = .ok (.iload_n 3, 1) := by decide +kernel
theorem dX10_bad_46 : decode cX10_bad 46 = .ok (.iaload, 1) := by decide +kernel
theorem dX10_bad_47 : decode cX10_bad 47 = .ok (.imul, 1) := by decide +kernel
theorem dX10_bad_48 : decode cX10_bad 48 = .ok (.iconst 5, 1) := by decide +kernel
theorem dX10_bad_49 : decode cX10_bad 49 = .ok (.iadd, 1) := by decide +kernel
theorem dX10_bad_50 : decode cX10_bad 50 = .ok (.iaload, 1) := by decide +kernel
theorem dX10_bad_51 : decode cX10_bad 51 = .ok (.istore 4, 2) := by decide +kernel
theorem dX10_bad_53 : decode cX10_bad 53 = .ok (.iconst 0, 1) := by decide +kernel
theorem dX10_bad_54 : decode cX10_bad 54 = .ok (.istore 5, 2) := by decide +kernel
theorem dX10_bad_56 : decode cX10_bad 56 = .ok (.iload 5, 2) := by decide +kernel
theorem dX10_bad_58 : decode cX10_bad 58 = .ok (.aload_n 0, 1) := by decide +kernel
theorem dX10_bad_59 : decode cX10_bad 59 = .ok (.getfield 26, 3) := by decide +kernel
theorem dX10_bad_62 : decode cX10_bad 62 = .ok (.sipush 141, 3) := by decide +kernel
theorem dX10_bad_65 : decode cX10_bad 65 = .ok (.iaload, 1) := by decide +kernel
theorem dX10_bad_66 : decode cX10_bad 66 = .ok (.if_icmp .ge 41, 3) := by decide +kernel
theorem dX10_bad_69 : decode cX10_bad 69 = .ok (.aload_n 0, 1) := by decide +kernel
theorem dX10_bad_70 : decode cX10_bad 70 = .ok (.getfield 26, 3) := by decide +kernel
theorem dX10_bad_73 : decode cX10_bad 73 = .ok (.bipush 7, 2) := by decide +kernel
theorem dX10_bad_75 : decode cX10_bad 75 = .ok (.iload 5, 2) := by decide +kernel
theorem dX10_bad_77 : decode cX10_bad 77 = .ok (.imul, 1) := by decide +kernel
theorem dX10_bad_78 : decode cX10_bad 78 = .ok (.iconst 4, 1) := by decide +kernel
theorem dX10_bad_79 : decode cX10_bad 79 = .ok (.iadd, 1) := by decide +kernel
theorem dX10_bad_80 : decode cX10_bad 80 = .ok (.iaload, 1) := by decide +kernel
theorem dX10_bad_81 : decode cX10_bad 81 = .ok (.iload 4, 2) := by decide +kernel
theorem dX10_bad_83 : decode cX10_bad 83 = .ok (.if_icmp .le 18, 3) := by decide +kernel
theorem dX10_bad_86 : decode cX10_bad 86 = .ok (.aload_n 0, 1) := by decide +kernel
theorem dX10_bad_87 : decode cX10_bad 87 = .ok (.dup, 1) := by decide +kernel
theorem dX10_bad_88 : decode cX10_bad 88 = .ok (.getfield 287, 3) := by decide +kernel
theorem dX10_bad_91 : decode cX10_bad 91 = .ok (.iconst 1, 1) := by decide +kernel
theorem dX10_bad_92 : decode cX10_bad 92 = .ok (.iload 5, 2) := by decide +kernel
theorem dX10_bad_94 : decode cX10_bad 94 = .ok (.ishl, 1) := by decide +kernel
theorem dX10_bad_95 : decode cX10_bad 95 = .ok (.iconst (-1), 1) := by decide +kernel
theorem dX10_bad_96 : decode cX10_bad 96 = .ok (.ixor, 1) := by decide +kernel
theorem dX10_bad_97 : decode cX10_bad 97 = .ok (.iand, 1) := by decide +kernel
theorem dX10_bad_98 : decode cX10_bad 98 = .ok (.putfield 287, 3) := by decide +kernel
theorem dX10_bad_101 : decode cX10_bad 101 = .ok (.iinc 5 1, 3) := by decide +kernel
theorem dX10_bad_104 : decode cX10_bad 104 = .ok (.goto (-48), 3) := by decide +kernel
theorem dX10_bad_107 : decode cX10_bad 107 = .ok (.iload_n 3, 1) := by decide +kernel
theorem dX10_bad_108 : decode cX10_bad 108 = .ok (.iconst 1, 1) := by decide +kernel
theorem dX10_bad_109 : decode cX10_bad 109 = .ok (.iadd, 1) := by decide +kernel
theorem dX10_bad_110 : decode cX10_bad 110 = .ok (.istore 5, 2) := by decide +kernel
theorem dX10_bad_112 : decode cX10_bad 112 = .ok (.iload 5, 2) := by decide +kernel
theorem dX10_bad_114 : decode cX10_bad 114 = .ok (.iload_n 2, 1) := by decide +kernel
theorem dX10_bad_115 : decode cX10_bad 115 = .ok (.if_icmp .ge 28, 3) := by decide +kernel
theorem dX10_bad_118 : decode cX10_bad 118 = .ok (.aload_n 0, 1) := by decide +kernel
theorem dX10_bad_119 : decode cX10_bad 119 = .ok (.getfield 38, 3) := by decide +kernel
theorem dX10_bad_122 : decode cX10_bad 122 = .ok (.bipush 7, 2) := by decide +kernel
theorem dX10_bad_124 : decode cX10_bad 124 = .ok (.aload_n 0, 1) := by decide +kernel
theorem dX10_bad_125 : decode cX10_bad 125 = .ok (.getfield 76, 3) := by decide +kernel
theorem dX10_bad_128 : decode cX10_bad 128 = .ok (.iload 5, 2) := by decide +kernel
theorem dX10_bad_130 : decode cX10_bad 130 = .ok (.iaload, 1) := by decide +kernel
theorem dX10_bad_131 : decode cX10_bad 131 = .ok (.imul, 1) := by decide +kernel
theorem dX10_bad_132 : decode cX10_bad 132 = .ok (.iconst 5, 1) := by decide +kernel
theorem dX10_bad_133 : decode cX10_bad 133 = .ok (.iadd, 1) := by decide +kernel
theorem dX10_bad_134 : decode cX10_bad 134 = .ok (.bipush (-2), 2) := by decide +kernel
theorem dX10_bad_136 : decode cX10_bad 136 = .ok (.iastore, 1) := by decide +kernel
theorem dX10_bad_137 : decode cX10_bad 137 = .ok (.iinc 5 1, 3) := by decide +kernel
theorem dX10_bad_140 : decode cX10_bad 140 = .ok (.goto (-28), 3) := by decide +kernel
theorem dX10_bad_143 : decode cX10_bad 143 = .ok (.aload_n 0, 1) := by decide +kernel
theorem dX10_bad_144 : decode cX10_bad 144 = .ok (.iload_n 1, 1) := by decide +kernel
theorem dX10_bad_145 : decode cX10_bad 145 = .ok (.invokevirtual 346, 3) := by decide +kernel
theorem dX10_bad_148 : decode cX10_bad 148 = .ok (.ifCond .ne 9, 3) := by decide +kernel
theorem dX10_bad_151 : decode cX10_bad 151 = .ok (.aload_n 0, 1) := by decide +kernel
theorem dX10_bad_152 : decode cX10_bad 152 = .ok (.iconst 3, 1) := by decide +kernel
theorem dX10_bad_153 : decode cX10_bad 153 = .ok (.invokevirtual 183, 3) := by decide +kernel
theorem dX10_bad_156 : decode cX10_bad 156 = .ok (.ireturn, 1) := by decide +kernel
theorem dX10_bad_157 : decode cX10_bad 157 = .ok (.aload_n 0, 1) := by decide +kernel
theorem dX10_bad_158 : decode cX10_bad 158 = .ok (.getfield 63, 3) := by decide +kernel
theorem dX10_bad_161 : decode cX10_bad 161 = .ok (.iconst 0, 1) := by decide +kernel
theorem dX10_bad_162 : decode cX10_bad 162 = .ok (.baload, 1) := by decide +kernel
theorem dX10_bad_163 : decode cX10_bad 163 = .ok (.ifCond .ne 10, 3) := by decide +kernel
theorem dX10_bad_166 : decode cX10_bad 166 = .ok (.aload_n 0, 1) := by decide +kernel
theorem dX10_bad_167 : decode cX10_bad 167 = .ok (.getfield 76, 3) := by decide +kernel
theorem dX10_bad_170 : decode cX10_bad 170 = .ok (.iload_n 3, 1) := by decide +kernel
theorem dX10_bad_171 : decode cX10_bad 171 = .ok (.iaload, 1) := by decide +kernel
theorem dX10_bad_172 : decode cX10_bad 172 = .ok (.ireturn, 1) := by decide +kernel
theorem dX10_bad_173 : decode cX10_bad 173 = .ok (.iinc 3 1, 3) := by decide +kernel
theorem dX10_bad_176 : decode cX10_bad 176 = .ok (.goto (-150), 3) := by decide +kernel
theorem dX10_bad_179 : decode cX10_bad 179 = .ok (.bipush (-2), 2) := by decide +kernel
theorem dX10_bad_181 : decode cX10_bad 181 = .ok (.ireturn, 1) := by decide +kernel
theorem dX10_endedCalls_0 : decode cX10_endedCalls 0 = .ok (.iconst 0, 1) := by decide +kernel
theorem dX10_endedCalls_1 : decode cX10_endedCalls 1 = .ok (.istore_n 1, 1) := by decide +kernel
theorem dX10_endedCalls_2 : decode cX10_endedCalls 2 = .ok (.iconst 0, 1) := by decide +kernel
theorem dX10_endedCalls_3 : decode cX10_endedCalls 3 = .ok (.istore_n 2, 1) := by decide +kernel
theorem dX10_endedCalls_4 : decode cX10_endedCalls 4 = .ok (.iload_n 2, 1) := by decide +kernel
theorem dX10_endedCalls_5 : decode cX10_endedCalls 5 = .ok (.aload_n 0, 1) := by decide +kernel
theorem dX10_endedCalls_6 : decode cX10_endedCalls 6 = .ok (.getfield 26, 3) := by decide +kernel
theorem dX10_endedCalls_9 : decode cX10_endedCalls 9 = .ok (.sipush 141, 3) := by decide +kernel
theorem dX10_endedCalls_12 : decode cX10_endedCalls 12 = .ok (.iaload, 1) := by decide +kernel
theorem dX10_endedCalls_13 : decode cX10_endedCalls 13 = .ok (.if_icmp .ge 35, 3) := by decide +kernel
theorem dX10_endedCalls_16 : decode cX10_endedCalls 16 = .ok (.iload_n 1, 1) := by decide +kernel
theorem dX10_endedCalls_17 : decode cX10_endedCalls 17 = .ok (.aload_n 0, 1) := by decide +kernel
theorem dX10_endedCalls_18 : decode cX10_endedCalls 18 = .ok (.getfield 26, 3) := by decide +kernel
theorem dX10_endedCalls_21 : decode cX10_endedCalls 21 = .ok (.bipush 7, 2) := by decide +kernel
theorem dX10_endedCalls_23 : decode cX10_endedCalls 23 = .ok (.iload_n 2, 1) := by decide +kernel
theorem dX10_endedCalls_24 : decode cX10_endedCalls 24 = .ok (.imul, 1) := by decide +kernel
theorem dX10_endedCalls_25 : decode cX10_endedCalls 25 = .ok (.iconst 5, 1) := by decide +kernel
theorem dX10_endedCalls_26 : decode cX10_endedCalls 26 = .ok (.iadd, 1) := by decide +kernel
theorem dX10_endedCalls_27 : decode cX10_endedCalls 27 = .ok (.iaload, 1) := by decide +kernel
theorem dX10_endedCalls_28 : decode cX10_endedCalls 28 = .ok (.bipush (-2), 2) := by decide +kernel
theorem dX10_endedCalls_30 : decode cX10_endedCalls 30 = .ok (.if_icmp .eq 9, 3) := by decide +kernel
theorem dX10_endedCalls_33 : decode cX10_endedCalls 33 = .ok (.iconst 1, 1) := by decide +kernel
theorem dX10_endedCalls_34 : decode cX10_endedCalls 34 = .ok (.iload_n 2, 1) := by decide +kernel
theorem dX10_endedCalls_35 : decode cX10_endedCalls 35 = .ok (.ishl, 1) := by decide +kernel
theorem dX10_endedCalls_36 : decode cX10_endedCalls 36 = .ok (.goto 4, 3) := by decide +kernel
theorem dX10_endedCalls_39 : decode cX10_endedCalls 39 = .ok (.iconst 0, 1) := by decide +kernel
theorem dX10_endedCalls_40 : decode cX10_endedCalls 40 = .ok (.ior, 1) := by decide +kernel
theorem dX10_endedCalls_41 : decode cX10_endedCalls 41 = .ok (.istore_n 1, 1) := by decide +kernel
theorem dX10_endedCalls_42 : decode cX10_endedCalls 42 = .ok (.iinc 2 1, 3) := by decide +kernel
theorem dX10_endedCalls_45 : decode cX10_endedCalls 45 = .ok (.goto (-41), 3) := by decide +kernel
theorem dX10_endedCalls_48 : decode cX10_endedCalls 48 = .ok (.iload_n 1, 1) := by decide +kernel
theorem dX10_endedCalls_49 : decode cX10_endedCalls 49 = .ok (.ireturn, 1) := by decide +kernel
theorem dX10_core_0 : decode cX10_core 0 = .ok (.aload_n 0, 1) := by decide +kernel
theorem dX10_core_1 : decode cX10_core 1 = .ok (.invokevirtual 180, 3) := by decide +kernel
theorem dX10_core_4 : decode cX10_core 4 = .ok (.aload_n 0, 1) := by decide +kernel
theorem dX10_core_5 : decode cX10_core 5 = .ok (.iload_n 1, 1) := by decide +kernel
theorem dX10_core_6 : decode cX10_core 6 = .ok (.iconst 2, 1) := by decide +kernel
theorem dX10_core_7 : decode cX10_core 7 = .ok (.invokevirtual 352, 3) := by decide +kernel
theorem dX10_core_10 : decode cX10_core 10 = .ok (.ifCond .ne 9, 3) := by decide +kernel
theorem dX10_core_13 : decode cX10_core 13 = .ok (.aload_n 0, 1) := by decide +kernel
theorem dX10_core_14 : decode cX10_core 14 = .ok (.iconst 1, 1) := by decide +kernel
theorem dX10_core_15 : decode cX10_core 15 = .ok (.invokevirtual 183, 3) := by decide +kernel
theorem dX10_core_18 : decode cX10_core 18 = .ok (.ireturn, 1) := by decide +kernel
theorem dX10_core_19 : decode cX10_core 19 = .ok (.aload_n 0, 1) := by decide +kernel
theorem dX10_core_20 : decode cX10_core 20 = .ok (.getfield 26, 3) := by decide +kernel
theorem dX10_core_23 : decode cX10_core 23 = .ok (.sipush 141, 3) := by decide +kernel
theorem dX10_core_26 : decode cX10_core 26 = .ok (.iaload, 1) := by decide +kernel
