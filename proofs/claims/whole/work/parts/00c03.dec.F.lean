theorem dX10_core_27 : decode cX10_core 27 = .ok (.bipush 12, 2) := by decide +kernel
theorem dX10_core_29 : decode cX10_core 29 = .ok (.if_icmp .le 9, 3) := by decide +kernel
theorem dX10_core_32 : decode cX10_core 32 = .ok (.aload_n 0, 1) := by decide +kernel
theorem dX10_core_33 : decode cX10_core 33 = .ok (.iconst 3, 1) := by decide +kernel
theorem dX10_core_34 : decode cX10_core 34 = .ok (.invokevirtual 183, 3) := by decide +kernel
theorem dX10_core_37 : decode cX10_core 37 = .ok (.ireturn, 1) := by decide +kernel
theorem dX10_core_38 : decode cX10_core 38 = .ok (.aload_n 0, 1) := by decide +kernel
theorem dX10_core_39 : decode cX10_core 39 = .ok (.invokevirtual 343, 3) := by decide +kernel
theorem dX10_core_42 : decode cX10_core 42 = .ok (.aload_n 0, 1) := by decide +kernel
theorem dX10_core_43 : decode cX10_core 43 = .ok (.aload_n 0, 1) := by decide +kernel
theorem dX10_core_44 : decode cX10_core 44 = .ok (.getfield 287, 3) := by decide +kernel
theorem dX10_core_47 : decode cX10_core 47 = .ok (.putfield 290, 3) := by decide +kernel
theorem dX10_core_50 : decode cX10_core 50 = .ok (.aload_n 0, 1) := by decide +kernel
theorem dX10_core_51 : decode cX10_core 51 = .ok (.iload_n 1, 1) := by decide +kernel
theorem dX10_core_52 : decode cX10_core 52 = .ok (.invokevirtual 346, 3) := by decide +kernel
theorem dX10_core_55 : decode cX10_core 55 = .ok (.ifCond .ne 9, 3) := by decide +kernel
theorem dX10_core_58 : decode cX10_core 58 = .ok (.aload_n 0, 1) := by decide +kernel
theorem dX10_core_59 : decode cX10_core 59 = .ok (.iconst 3, 1) := by decide +kernel
theorem dX10_core_60 : decode cX10_core 60 = .ok (.invokevirtual 183, 3) := by decide +kernel
theorem dX10_core_63 : decode cX10_core 63 = .ok (.ireturn, 1) := by decide +kernel
theorem dX10_core_64 : decode cX10_core 64 = .ok (.aload_n 0, 1) := by decide +kernel
theorem dX10_core_65 : decode cX10_core 65 = .ok (.iconst 0, 1) := by decide +kernel
theorem dX10_core_66 : decode cX10_core 66 = .ok (.putfield 290, 3) := by decide +kernel
theorem dX10_core_69 : decode cX10_core 69 = .ok (.aload_n 0, 1) := by decide +kernel
theorem dX10_core_70 : decode cX10_core 70 = .ok (.iload_n 1, 1) := by decide +kernel
theorem dX10_core_71 : decode cX10_core 71 = .ok (.invokevirtual 346, 3) := by decide +kernel
theorem dX10_core_74 : decode cX10_core 74 = .ok (.ifCond .eq 16, 3) := by decide +kernel
theorem dX10_core_77 : decode cX10_core 77 = .ok (.aload_n 0, 1) := by decide +kernel
theorem dX10_core_78 : decode cX10_core 78 = .ok (.getfield 63, 3) := by decide +kernel
theorem dX10_core_81 : decode cX10_core 81 = .ok (.iconst 0, 1) := by decide +kernel
theorem dX10_core_82 : decode cX10_core 82 = .ok (.baload, 1) := by decide +kernel
theorem dX10_core_83 : decode cX10_core 83 = .ok (.ifCond .eq 7, 3) := by decide +kernel
theorem dX10_core_86 : decode cX10_core 86 = .ok (.iconst 1, 1) := by decide +kernel
theorem dX10_core_87 : decode cX10_core 87 = .ok (.goto 4, 3) := by decide +kernel
theorem dX10_core_90 : decode cX10_core 90 = .ok (.iconst 0, 1) := by decide +kernel
theorem dX10_core_91 : decode cX10_core 91 = .ok (.istore_n 2, 1) := by decide +kernel
theorem dX10_core_92 : decode cX10_core 92 = .ok (.iload_n 2, 1) := by decide +kernel
theorem dX10_core_93 : decode cX10_core 93 = .ok (.ifCond .eq 6, 3) := by decide +kernel
theorem dX10_core_96 : decode cX10_core 96 = .ok (.bipush (-2), 2) := by decide +kernel
theorem dX10_core_98 : decode cX10_core 98 = .ok (.ireturn, 1) := by decide +kernel
theorem dX10_core_99 : decode cX10_core 99 = .ok (.aload_n 0, 1) := by decide +kernel
theorem dX10_core_100 : decode cX10_core 100 = .ok (.invokevirtual 390, 3) := by decide +kernel
theorem dX10_core_103 : decode cX10_core 103 = .ok (.istore_n 3, 1) := by decide +kernel
theorem dX10_core_104 : decode cX10_core 104 = .ok (.iconst 1, 1) := by decide +kernel
theorem dX10_core_105 : decode cX10_core 105 = .ok (.istore 4, 2) := by decide +kernel
theorem dX10_core_107 : decode cX10_core 107 = .ok (.iload 4, 2) := by decide +kernel
theorem dX10_core_109 : decode cX10_core 109 = .ok (.iconst 3, 1) := by decide +kernel
theorem dX10_core_110 : decode cX10_core 110 = .ok (.if_icmp .gt 79, 3) := by decide +kernel
theorem dX10_core_113 : decode cX10_core 113 = .ok (.iconst 0, 1) := by decide +kernel
theorem dX10_core_114 : decode cX10_core 114 = .ok (.istore 5, 2) := by decide +kernel
theorem dX10_core_116 : decode cX10_core 116 = .ok (.iload 5, 2) := by decide +kernel
theorem dX10_core_118 : decode cX10_core 118 = .ok (.iload_n 3, 1) := by decide +kernel
theorem dX10_core_119 : decode cX10_core 119 = .ok (.if_icmp .gt 64, 3) := by decide +kernel
theorem dX10_core_122 : decode cX10_core 122 = .ok (.iload 5, 2) := by decide +kernel
theorem dX10_core_124 : decode cX10_core 124 = .ok (.iload_n 3, 1) := by decide +kernel
theorem dX10_core_125 : decode cX10_core 125 = .ok (.iconst (-1), 1) := by decide +kernel
theorem dX10_core_126 : decode cX10_core 126 = .ok (.ixor, 1) := by decide +kernel
theorem dX10_core_127 : decode cX10_core 127 = .ok (.iand, 1) := by decide +kernel
theorem dX10_core_128 : decode cX10_core 128 = .ok (.ifCond .ne 49, 3) := by decide +kernel
theorem dX10_core_131 : decode cX10_core 131 = .ok (.iload 5, 2) := by decide +kernel
theorem dX10_core_133 : decode cX10_core 133 = .ok (.invokestatic 393, 3) := by decide +kernel
theorem dX10_core_136 : decode cX10_core 136 = .ok (.iload 4, 2) := by decide +kernel
theorem dX10_core_138 : decode cX10_core 138 = .ok (.if_icmp .eq 6, 3) := by decide +kernel
theorem dX10_core_141 : decode cX10_core 141 = .ok (.goto 36, 3) := by decide +kernel
theorem dX10_core_144 : decode cX10_core 144 = .ok (.aload_n 0, 1) := by decide +kernel
theorem dX10_core_145 : decode cX10_core 145 = .ok (.aload_n 0, 1) := by decide +kernel
theorem dX10_core_146 : decode cX10_core 146 = .ok (.getfield 287, 3) := by decide +kernel
theorem dX10_core_149 : decode cX10_core 149 = .ok (.iload 5, 2) := by decide +kernel
theorem dX10_core_151 : decode cX10_core 151 = .ok (.iconst (-1), 1) := by decide +kernel
theorem dX10_core_152 : decode cX10_core 152 = .ok (.ixor, 1) := by decide +kernel
theorem dX10_core_153 : decode cX10_core 153 = .ok (.iand, 1) := by decide +kernel
theorem dX10_core_154 : decode cX10_core 154 = .ok (.putfield 290, 3) := by decide +kernel
theorem dX10_core_157 : decode cX10_core 157 = .ok (.aload_n 0, 1) := by decide +kernel
theorem dX10_core_158 : decode cX10_core 158 = .ok (.iload_n 1, 1) := by decide +kernel
theorem dX10_core_159 : decode cX10_core 159 = .ok (.invokevirtual 346, 3) := by decide +kernel
theorem dX10_core_162 : decode cX10_core 162 = .ok (.ifCond .eq 15, 3) := by decide +kernel
theorem dX10_core_165 : decode cX10_core 165 = .ok (.aload_n 0, 1) := by decide +kernel
theorem dX10_core_166 : decode cX10_core 166 = .ok (.getfield 63, 3) := by decide +kernel
theorem dX10_core_169 : decode cX10_core 169 = .ok (.iconst 0, 1) := by decide +kernel
theorem dX10_core_170 : decode cX10_core 170 = .ok (.baload, 1) := by decide +kernel
theorem dX10_core_171 : decode cX10_core 171 = .ok (.ifCond .ne 6, 3) := by decide +kernel
theorem dX10_core_174 : decode cX10_core 174 = .ok (.iload 5, 2) := by decide +kernel
theorem dX10_core_176 : decode cX10_core 176 = .ok (.ireturn, 1) := by decide +kernel
theorem dX10_core_177 : decode cX10_core 177 = .ok (.iinc 5 1, 3) := by decide +kernel
theorem dX10_core_180 : decode cX10_core 180 = .ok (.goto (-64), 3) := by decide +kernel
theorem dX10_core_183 : decode cX10_core 183 = .ok (.iinc 4 1, 3) := by decide +kernel
theorem dX10_core_186 : decode cX10_core 186 = .ok (.goto (-79), 3) := by decide +kernel
theorem dX10_core_189 : decode cX10_core 189 = .ok (.bipush (-3), 2) := by decide +kernel
theorem dX10_core_191 : decode cX10_core 191 = .ok (.ireturn, 1) := by decide +kernel
theorem dX10_mends_0 : decode cX10_mends 0 = .ok (.aload_n 0, 1) := by decide +kernel
theorem dX10_mends_1 : decode cX10_mends 1 = .ok (.invokevirtual 180, 3) := by decide +kernel
theorem dX10_mends_4 : decode cX10_mends 4 = .ok (.aload_n 0, 1) := by decide +kernel
theorem dX10_mends_5 : decode cX10_mends 5 = .ok (.getfield 193, 3) := by decide +kernel
theorem dX10_mends_8 : decode cX10_mends 8 = .ok (.ifCond .ne 9, 3) := by decide +kernel
theorem dX10_mends_11 : decode cX10_mends 11 = .ok (.aload_n 0, 1) := by decide +kernel
theorem dX10_mends_12 : decode cX10_mends 12 = .ok (.iconst 1, 1) := by decide +kernel
theorem dX10_mends_13 : decode cX10_mends 13 = .ok (.invokevirtual 183, 3) := by decide +kernel
theorem dX10_mends_16 : decode cX10_mends 16 = .ok (.ireturn, 1) := by decide +kernel
theorem dX10_mends_17 : decode cX10_mends 17 = .ok (.aload_n 0, 1) := by decide +kernel
theorem dX10_mends_18 : decode cX10_mends 18 = .ok (.iconst 0, 1) := by decide +kernel
theorem dX10_mends_19 : decode cX10_mends 19 = .ok (.invokevirtual 355, 3) := by decide +kernel
theorem dX10_mends_22 : decode cX10_mends 22 = .ok (.ifCond .ne 9, 3) := by decide +kernel
theorem dX10_mends_25 : decode cX10_mends 25 = .ok (.aload_n 0, 1) := by decide +kernel
theorem dX10_mends_26 : decode cX10_mends 26 = .ok (.iconst 3, 1) := by decide +kernel
theorem dX10_mends_27 : decode cX10_mends 27 = .ok (.invokevirtual 183, 3) := by decide +kernel
theorem dX10_mends_30 : decode cX10_mends 30 = .ok (.ireturn, 1) := by decide +kernel
theorem dX10_mends_31 : decode cX10_mends 31 = .ok (.aload_n 0, 1) := by decide +kernel
theorem dX10_mends_32 : decode cX10_mends 32 = .ok (.getfield 349, 3) := by decide +kernel
theorem dX10_mends_35 : decode cX10_mends 35 = .ok (.ifCond .eq 9, 3) := by decide +kernel
theorem dX10_mends_38 : decode cX10_mends 38 = .ok (.aload_n 0, 1) := by decide +kernel
theorem dX10_mends_39 : decode cX10_mends 39 = .ok (.iconst 5, 1) := by decide +kernel
theorem dX10_mends_40 : decode cX10_mends 40 = .ok (.invokevirtual 183, 3) := by decide +kernel
theorem dX10_mends_43 : decode cX10_mends 43 = .ok (.ireturn, 1) := by decide +kernel
theorem dX10_mends_44 : decode cX10_mends 44 = .ok (.iconst 0, 1) := by decide +kernel
theorem dX10_mends_45 : decode cX10_mends 45 = .ok (.istore_n 1, 1) := by decide +kernel
theorem dX10_mends_46 : decode cX10_mends 46 = .ok (.iconst 0, 1) := by decide +kernel
theorem dX10_mends_47 : decode cX10_mends 47 = .ok (.istore_n 2, 1) := by decide +kernel
theorem dX10_mends_48 : decode cX10_mends 48 = .ok (.iload_n 2, 1) := by decide +kernel
theorem dX10_mends_49 : decode cX10_mends 49 = .ok (.aload_n 0, 1) := by decide +kernel
theorem dX10_mends_50 : decode cX10_mends 50 = .ok (.getfield 26, 3) := by decide +kernel
theorem dX10_mends_53 : decode cX10_mends 53 = .ok (.sipush 141, 3) := by decide +kernel
theorem dX10_mends_56 : decode cX10_mends 56 = .ok (.iaload, 1) := by decide +kernel
theorem dX10_mends_57 : decode cX10_mends 57 = .ok (.if_icmp .ge 79, 3) := by decide +kernel
theorem dX10_mends_60 : decode cX10_mends 60 = .ok (.aload_n 0, 1) := by decide +kernel
theorem dX10_mends_61 : decode cX10_mends 61 = .ok (.getfield 26, 3) := by decide +kernel
theorem dX10_mends_64 : decode cX10_mends 64 = .ok (.bipush 7, 2) := by decide +kernel
theorem dX10_mends_66 : decode cX10_mends 66 = .ok (.iload_n 2, 1) := by decide +kernel
theorem dX10_mends_67 : decode cX10_mends 67 = .ok (.imul, 1) := by decide +kernel
theorem dX10_mends_68 : decode cX10_mends 68 = .ok (.iconst 5, 1) := by decide +kernel
theorem dX10_mends_69 : decode cX10_mends 69 = .ok (.iadd, 1) := by decide +kernel
theorem dX10_mends_70 : decode cX10_mends 70 = .ok (.iaload, 1) := by decide +kernel
theorem dX10_mends_71 : decode cX10_mends 71 = .ok (.bipush (-2), 2) := by decide +kernel
theorem dX10_mends_73 : decode cX10_mends 73 = .ok (.if_icmp .ne 6, 3) := by decide +kernel
theorem dX10_mends_76 : decode cX10_mends 76 = .ok (.goto 54, 3) := by decide +kernel
theorem dX10_mends_79 : decode cX10_mends 79 = .ok (.aload_n 0, 1) := by decide +kernel
theorem dX10_mends_80 : decode cX10_mends 80 = .ok (.invokevirtual 343, 3) := by decide +kernel
theorem dX10_mends_83 : decode cX10_mends 83 = .ok (.aload_n 0, 1) := by decide +kernel
theorem dX10_mends_84 : decode cX10_mends 84 = .ok (.getfield 38, 3) := by decide +kernel
theorem dX10_mends_87 : decode cX10_mends 87 = .ok (.bipush 7, 2) := by decide +kernel
theorem dX10_mends_89 : decode cX10_mends 89 = .ok (.iload_n 2, 1) := by decide +kernel
theorem dX10_mends_90 : decode cX10_mends 90 = .ok (.imul, 1) := by decide +kernel
theorem dX10_mends_91 : decode cX10_mends 91 = .ok (.iconst 5, 1) := by decide +kernel
theorem dX10_mends_92 : decode cX10_mends 92 = .ok (.iadd, 1) := by decide +kernel
theorem dX10_mends_93 : decode cX10_mends 93 = .ok (.sipush 1998, 3) := by decide +kernel
theorem dX10_mends_96 : decode cX10_mends 96 = .ok (.iastore, 1) := by decide +kernel
theorem dX10_mends_97 : decode cX10_mends 97 = .ok (.aload_n 0, 1) := by decide +kernel
theorem dX10_mends_98 : decode cX10_mends 98 = .ok (.iconst 0, 1) := by decide +kernel
theorem dX10_mends_99 : decode cX10_mends 99 = .ok (.invokevirtual 346, 3) := by decide +kernel
theorem dX10_mends_102 : decode cX10_mends 102 = .ok (.ifCond .ne 9, 3) := by decide +kernel
theorem dX10_mends_105 : decode cX10_mends 105 = .ok (.aload_n 0, 1) := by decide +kernel
theorem dX10_mends_106 : decode cX10_mends 106 = .ok (.iconst 3, 1) := by decide +kernel
theorem dX10_mends_107 : decode cX10_mends 107 = .ok (.invokevirtual 183, 3) := by decide +kernel
theorem dX10_mends_110 : decode cX10_mends 110 = .ok (.ireturn, 1) := by decide +kernel
theorem dX10_mends_111 : decode cX10_mends 111 = .ok (.iload_n 1, 1) := by decide +kernel
theorem dX10_mends_112 : decode cX10_mends 112 = .ok (.aload_n 0, 1) := by decide +kernel
theorem dX10_mends_113 : decode cX10_mends 113 = .ok (.getfield 63, 3) := by decide +kernel
theorem dX10_mends_116 : decode cX10_mends 116 = .ok (.iconst 0, 1) := by decide +kernel
theorem dX10_mends_117 : decode cX10_mends 117 = .ok (.baload, 1) := by decide +kernel
theorem dX10_mends_118 : decode cX10_mends 118 = .ok (.ifCond .eq 9, 3) := by decide +kernel
theorem dX10_mends_121 : decode cX10_mends 121 = .ok (.iconst 1, 1) := by decide +kernel
theorem dX10_mends_122 : decode cX10_mends 122 = .ok (.iload_n 2, 1) := by decide +kernel
theorem dX10_mends_123 : decode cX10_mends 123 = .ok (.ishl, 1) := by decide +kernel
theorem dX10_mends_124 : decode cX10_mends 124 = .ok (.goto 4, 3) := by decide +kernel
theorem dX10_mends_127 : decode cX10_mends 127 = .ok (.iconst 0, 1) := by decide +kernel
theorem dX10_mends_128 : decode cX10_mends 128 = .ok (.ior, 1) := by decide +kernel
theorem dX10_mends_129 : decode cX10_mends 129 = .ok (.istore_n 1, 1) := by decide +kernel
theorem dX10_mends_130 : decode cX10_mends 130 = .ok (.iinc 2 1, 3) := by decide +kernel
theorem dX10_mends_133 : decode cX10_mends 133 = .ok (.goto (-85), 3) := by decide +kernel
theorem dX10_mends_136 : decode cX10_mends 136 = .ok (.iload_n 1, 1) := by decide +kernel
theorem dX10_mends_137 : decode cX10_mends 137 = .ok (.ireturn, 1) := by decide +kernel
theorem dX10_enough_0 : decode cX10_enough 0 = .ok (.aload_n 0, 1) := by decide +kernel
theorem dX10_enough_1 : decode cX10_enough 1 = .ok (.invokevirtual 180, 3) := by decide +kernel
theorem dX10_enough_4 : decode cX10_enough 4 = .ok (.aload_n 0, 1) := by decide +kernel
theorem dX10_enough_5 : decode cX10_enough 5 = .ok (.getfield 193, 3) := by decide +kernel
theorem dX10_enough_8 : decode cX10_enough 8 = .ok (.ifCond .ne 9, 3) := by decide +kernel
theorem dX10_enough_11 : decode cX10_enough 11 = .ok (.aload_n 0, 1) := by decide +kernel
theorem dX10_enough_12 : decode cX10_enough 12 = .ok (.iconst 1, 1) := by decide +kernel
theorem dX10_enough_13 : decode cX10_enough 13 = .ok (.invokevirtual 183, 3) := by decide +kernel
theorem dX10_enough_16 : decode cX10_enough 16 = .ok (.ireturn, 1) := by decide +kernel
theorem dX10_enough_17 : decode cX10_enough 17 = .ok (.iconst 0, 1) := by decide +kernel
theorem dX10_enough_18 : decode cX10_enough 18 = .ok (.istore_n 1, 1) := by decide +kernel
theorem dX10_enough_19 : decode cX10_enough 19 = .ok (.iload_n 1, 1) := by decide +kernel
theorem dX10_enough_20 : decode cX10_enough 20 = .ok (.bipush 99, 2) := by decide +kernel
theorem dX10_enough_22 : decode cX10_enough 22 = .ok (.if_icmp .gt 43, 3) := by decide +kernel
theorem dX10_enough_25 : decode cX10_enough 25 = .ok (.aload_n 0, 1) := by decide +kernel
theorem dX10_enough_26 : decode cX10_enough 26 = .ok (.invokevirtual 343, 3) := by decide +kernel
theorem dX10_enough_29 : decode cX10_enough 29 = .ok (.aload_n 0, 1) := by decide +kernel
theorem dX10_enough_30 : decode cX10_enough 30 = .ok (.iload_n 1, 1) := by decide +kernel
theorem dX10_enough_31 : decode cX10_enough 31 = .ok (.putfield 296, 3) := by decide +kernel
theorem dX10_enough_34 : decode cX10_enough 34 = .ok (.aload_n 0, 1) := by decide +kernel
theorem dX10_enough_35 : decode cX10_enough 35 = .ok (.iconst 2, 1) := by decide +kernel
theorem dX10_enough_36 : decode cX10_enough 36 = .ok (.invokevirtual 346, 3) := by decide +kernel
theorem dX10_enough_39 : decode cX10_enough 39 = .ok (.ifCond .ne 9, 3) := by decide +kernel
theorem dX10_enough_42 : decode cX10_enough 42 = .ok (.aload_n 0, 1) := by decide +kernel
theorem dX10_enough_43 : decode cX10_enough 43 = .ok (.iconst 3, 1) := by decide +kernel
theorem dX10_enough_44 : decode cX10_enough 44 = .ok (.invokevirtual 183, 3) := by decide +kernel
theorem dX10_enough_47 : decode cX10_enough 47 = .ok (.ireturn, 1) := by decide +kernel
theorem dX10_enough_48 : decode cX10_enough 48 = .ok (.aload_n 0, 1) := by decide +kernel
theorem dX10_enough_49 : decode cX10_enough 49 = .ok (.getfield 63, 3) := by decide +kernel
theorem dX10_enough_52 : decode cX10_enough 52 = .ok (.iconst 0, 1) := by decide +kernel
theorem dX10_enough_53 : decode cX10_enough 53 = .ok (.baload, 1) := by decide +kernel
theorem dX10_enough_54 : decode cX10_enough 54 = .ok (.ifCond .eq 5, 3) := by decide +kernel
theorem dX10_enough_57 : decode cX10_enough 57 = .ok (.iload_n 1, 1) := by decide +kernel
theorem dX10_enough_58 : decode cX10_enough 58 = .ok (.ireturn, 1) := by decide +kernel
theorem dX10_enough_59 : decode cX10_enough 59 = .ok (.iinc 1 1, 3) := by decide +kernel
theorem dX10_enough_62 : decode cX10_enough 62 = .ok (.goto (-43), 3) := by decide +kernel
theorem dX10_enough_65 : decode cX10_enough 65 = .ok (.bipush (-2), 2) := by decide +kernel
theorem dX10_enough_67 : decode cX10_enough 67 = .ok (.ireturn, 1) := by decide +kernel
theorem dX10_layCould_0 : decode cX10_layCould 0 = .ok (.aload_n 0, 1) := by decide +kernel
theorem dX10_layCould_1 : decode cX10_layCould 1 = .ok (.invokevirtual 343, 3) := by decide +kernel
theorem dX10_layCould_4 : decode cX10_layCould 4 = .ok (.aload_n 0, 1) := by decide +kernel
theorem dX10_layCould_5 : decode cX10_layCould 5 = .ok (.iconst 1, 1) := by decide +kernel
theorem dX10_layCould_6 : decode cX10_layCould 6 = .ok (.iload_n 2, 1) := by decide +kernel
theorem dX10_layCould_7 : decode cX10_layCould 7 = .ok (.ishl, 1) := by decide +kernel
theorem dX10_layCould_8 : decode cX10_layCould 8 = .ok (.putfield 290, 3) := by decide +kernel
theorem dX10_layCould_11 : decode cX10_layCould 11 = .ok (.aload_n 0, 1) := by decide +kernel
theorem dX10_layCould_12 : decode cX10_layCould 12 = .ok (.iload_n 1, 1) := by decide +kernel
theorem dX10_layCould_13 : decode cX10_layCould 13 = .ok (.invokevirtual 346, 3) := by decide +kernel
theorem dX10_layCould_16 : decode cX10_layCould 16 = .ok (.ifCond .ne 5, 3) := by decide +kernel
theorem dX10_layCould_19 : decode cX10_layCould 19 = .ok (.iconst (-1), 1) := by decide +kernel
theorem dX10_layCould_20 : decode cX10_layCould 20 = .ok (.ireturn, 1) := by decide +kernel
theorem dX10_layCould_21 : decode cX10_layCould 21 = .ok (.iconst 0, 1) := by decide +kernel
theorem dX10_layCould_22 : decode cX10_layCould 22 = .ok (.istore_n 3, 1) := by decide +kernel
theorem dX10_layCould_23 : decode cX10_layCould 23 = .ok (.iload_n 3, 1) := by decide +kernel
theorem dX10_layCould_24 : decode cX10_layCould 24 = .ok (.bipush 99, 2) := by decide +kernel
theorem dX10_layCould_26 : decode cX10_layCould 26 = .ok (.if_icmp .gt 16, 3) := by decide +kernel
theorem dX10_layCould_29 : decode cX10_layCould 29 = .ok (.aload_n 0, 1) := by decide +kernel
theorem dX10_layCould_30 : decode cX10_layCould 30 = .ok (.getfield 79, 3) := by decide +kernel
theorem dX10_layCould_33 : decode cX10_layCould 33 = .ok (.iload_n 3, 1) := by decide +kernel
theorem dX10_layCould_34 : decode cX10_layCould 34 = .ok (.iconst 0, 1) := by decide +kernel
theorem dX10_layCould_35 : decode cX10_layCould 35 = .ok (.bastore, 1) := by decide +kernel
theorem dX10_layCould_36 : decode cX10_layCould 36 = .ok (.iinc 3 1, 3) := by decide +kernel
theorem dX10_layCould_39 : decode cX10_layCould 39 = .ok (.goto (-16), 3) := by decide +kernel
theorem dX10_layCould_42 : decode cX10_layCould 42 = .ok (.aload_n 0, 1) := by decide +kernel
theorem dX10_layCould_43 : decode cX10_layCould 43 = .ok (.getfield 38, 3) := by decide +kernel
theorem dX10_layCould_46 : decode cX10_layCould 46 = .ok (.bipush 7, 2) := by decide +kernel
theorem dX10_layCould_48 : decode cX10_layCould 48 = .ok (.iload_n 2, 1) := by decide +kernel
theorem dX10_layCould_49 : decode cX10_layCould 49 = .ok (.imul, 1) := by decide +kernel
theorem dX10_layCould_50 : decode cX10_layCould 50 = .ok (.iconst 0, 1) := by decide +kernel
theorem dX10_layCould_51 : decode cX10_layCould 51 = .ok (.iadd, 1) := by decide +kernel
theorem dX10_layCould_52 : decode cX10_layCould 52 = .ok (.iaload, 1) := by decide +kernel
theorem dX10_layCould_53 : decode cX10_layCould 53 = .ok (.istore_n 3, 1) := by decide +kernel
theorem dX10_layCould_54 : decode cX10_layCould 54 = .ok (.iconst 0, 1) := by decide +kernel
theorem dX10_layCould_55 : decode cX10_layCould 55 = .ok (.istore 4, 2) := by decide +kernel
theorem dX10_layCould_57 : decode cX10_layCould 57 = .ok (.iload 4, 2) := by decide +kernel
theorem dX10_layCould_59 : decode cX10_layCould 59 = .ok (.aload_n 0, 1) := by decide +kernel
theorem dX10_layCould_60 : decode cX10_layCould 60 = .ok (.getfield 317, 3) := by decide +kernel
theorem dX10_layCould_63 : decode cX10_layCould 63 = .ok (.if_icmp .ge 76, 3) := by decide +kernel
theorem dX10_layCould_66 : decode cX10_layCould 66 = .ok (.iconst 4, 1) := by decide +kernel
theorem dX10_layCould_67 : decode cX10_layCould 67 = .ok (.iload 4, 2) := by decide +kernel
theorem dX10_layCould_69 : decode cX10_layCould 69 = .ok (.imul, 1) := by decide +kernel
theorem dX10_layCould_70 : decode cX10_layCould 70 = .ok (.iload_n 3, 1) := by decide +kernel
theorem dX10_layCould_71 : decode cX10_layCould 71 = .ok (.iadd, 1) := by decide +kernel
theorem dX10_layCould_72 : decode cX10_layCould 72 = .ok (.istore 5, 2) := by decide +kernel
theorem dX10_layCould_74 : decode cX10_layCould 74 = .ok (.aload_n 0, 1) := by decide +kernel
theorem dX10_layCould_75 : decode cX10_layCould 75 = .ok (.getfield 50, 3) := by decide +kernel
theorem dX10_layCould_78 : decode cX10_layCould 78 = .ok (.iload 5, 2) := by decide +kernel
theorem dX10_layCould_80 : decode cX10_layCould 80 = .ok (.iaload, 1) := by decide +kernel
theorem dX10_layCould_81 : decode cX10_layCould 81 = .ok (.ifCond .lt 52, 3) := by decide +kernel
theorem dX10_layCould_84 : decode cX10_layCould 84 = .ok (.aload_n 0, 1) := by decide +kernel
theorem dX10_layCould_85 : decode cX10_layCould 85 = .ok (.getfield 63, 3) := by decide +kernel
theorem dX10_layCould_88 : decode cX10_layCould 88 = .ok (.aload_n 0, 1) := by decide +kernel
theorem dX10_layCould_89 : decode cX10_layCould 89 = .ok (.getfield 50, 3) := by decide +kernel
theorem dX10_layCould_92 : decode cX10_layCould 92 = .ok (.iload 5, 2) := by decide +kernel
theorem dX10_layCould_94 : decode cX10_layCould 94 = .ok (.iaload, 1) := by decide +kernel
theorem dX10_layCould_95 : decode cX10_layCould 95 = .ok (.baload, 1) := by decide +kernel
theorem dX10_layCould_96 : decode cX10_layCould 96 = .ok (.ifCond .eq 37, 3) := by decide +kernel
theorem dX10_layCould_99 : decode cX10_layCould 99 = .ok (.aload_n 0, 1) := by decide +kernel
theorem dX10_layCould_100 : decode cX10_layCould 100 = .ok (.getfield 41, 3) := by decide +kernel
theorem dX10_layCould_103 : decode cX10_layCould 103 = .ok (.bipush 20, 2) := by decide +kernel
theorem dX10_layCould_105 : decode cX10_layCould 105 = .ok (.iload_n 3, 1) := by decide +kernel
theorem dX10_layCould_106 : decode cX10_layCould 106 = .ok (.imul, 1) := by decide +kernel
theorem dX10_layCould_107 : decode cX10_layCould 107 = .ok (.aload_n 0, 1) := by decide +kernel
theorem dX10_layCould_108 : decode cX10_layCould 108 = .ok (.getfield 47, 3) := by decide +kernel
theorem dX10_layCould_111 : decode cX10_layCould 111 = .ok (.iload 5, 2) := by decide +kernel
theorem dX10_layCould_113 : decode cX10_layCould 113 = .ok (.iaload, 1) := by decide +kernel
theorem dX10_layCould_114 : decode cX10_layCould 114 = .ok (.iadd, 1) := by decide +kernel
theorem dX10_layCould_115 : decode cX10_layCould 115 = .ok (.iaload, 1) := by decide +kernel
theorem dX10_layCould_116 : decode cX10_layCould 116 = .ok (.iload_n 2, 1) := by decide +kernel
theorem dX10_layCould_117 : decode cX10_layCould 117 = .ok (.if_icmp .ne 16, 3) := by decide +kernel
theorem dX10_layCould_120 : decode cX10_layCould 120 = .ok (.aload_n 0, 1) := by decide +kernel
theorem dX10_layCould_121 : decode cX10_layCould 121 = .ok (.getfield 79, 3) := by decide +kernel
theorem dX10_layCould_124 : decode cX10_layCould 124 = .ok (.aload_n 0, 1) := by decide +kernel
theorem dX10_layCould_125 : decode cX10_layCould 125 = .ok (.getfield 53, 3) := by decide +kernel
theorem dX10_layCould_128 : decode cX10_layCould 128 = .ok (.iload 5, 2) := by decide +kernel
theorem dX10_layCould_130 : decode cX10_layCould 130 = .ok (.iaload, 1) := by decide +kernel
theorem dX10_layCould_131 : decode cX10_layCould 131 = .ok (.iconst 1, 1) := by decide +kernel
theorem dX10_layCould_132 : decode cX10_layCould 132 = .ok (.bastore, 1) := by decide +kernel
theorem dX10_layCould_133 : decode cX10_layCould 133 = .ok (.iinc 4 1, 3) := by decide +kernel
theorem dX10_layCould_136 : decode cX10_layCould 136 = .ok (.goto (-79), 3) := by decide +kernel
theorem dX10_layCould_139 : decode cX10_layCould 139 = .ok (.iconst 0, 1) := by decide +kernel
theorem dX10_layCould_140 : decode cX10_layCould 140 = .ok (.istore 4, 2) := by decide +kernel
theorem dX10_layCould_142 : decode cX10_layCould 142 = .ok (.iconst 0, 1) := by decide +kernel
theorem dX10_layCould_143 : decode cX10_layCould 143 = .ok (.istore 5, 2) := by decide +kernel
theorem dX10_layCould_145 : decode cX10_layCould 145 = .ok (.iload 5, 2) := by decide +kernel
theorem dX10_layCould_147 : decode cX10_layCould 147 = .ok (.bipush 99, 2) := by decide +kernel
theorem dX10_layCould_149 : decode cX10_layCould 149 = .ok (.if_icmp .gt 29, 3) := by decide +kernel
theorem dX10_layCould_152 : decode cX10_layCould 152 = .ok (.iload 4, 2) := by decide +kernel
theorem dX10_layCould_154 : decode cX10_layCould 154 = .ok (.aload_n 0, 1) := by decide +kernel
theorem dX10_layCould_155 : decode cX10_layCould 155 = .ok (.getfield 79, 3) := by decide +kernel
theorem dX10_layCould_158 : decode cX10_layCould 158 = .ok (.iload 5, 2) := by decide +kernel
theorem dX10_layCould_160 : decode cX10_layCould 160 = .ok (.baload, 1) := by decide +kernel
theorem dX10_layCould_161 : decode cX10_layCould 161 = .ok (.ifCond .eq 7, 3) := by decide +kernel
theorem dX10_layCould_164 : decode cX10_layCould 164 = .ok (.iconst 1, 1) := by decide +kernel
theorem dX10_layCould_165 : decode cX10_layCould 165 = .ok (.goto 4, 3) := by decide +kernel
theorem dX10_layCould_168 : decode cX10_layCould 168 = .ok (.iconst 0, 1) := by decide +kernel
theorem dX10_layCould_169 : decode cX10_layCould 169 = .ok (.iadd, 1) := by decide +kernel
theorem dX10_layCould_170 : decode cX10_layCould 170 = .ok (.istore 4, 2) := by decide +kernel
theorem dX10_layCould_172 : decode cX10_layCould 172 = .ok (.iinc 5 1, 3) := by decide +kernel
theorem dX10_layCould_175 : decode cX10_layCould 175 = .ok (.goto (-30), 3) := by decide +kernel
theorem dX10_layCould_178 : decode cX10_layCould 178 = .ok (.iload 4, 2) := by decide +kernel
theorem dX10_layCould_180 : decode cX10_layCould 180 = .ok (.ireturn, 1) := by decide +kernel
theorem dX10_could_0 : decode cX10_could 0 = .ok (.aload_n 0, 1) := by decide +kernel
theorem dX10_could_1 : decode cX10_could 1 = .ok (.invokevirtual 180, 3) := by decide +kernel
theorem dX10_could_4 : decode cX10_could 4 = .ok (.aload_n 0, 1) := by decide +kernel
theorem dX10_could_5 : decode cX10_could 5 = .ok (.iload_n 1, 1) := by decide +kernel
theorem dX10_could_6 : decode cX10_could 6 = .ok (.iconst 2, 1) := by decide +kernel
theorem dX10_could_7 : decode cX10_could 7 = .ok (.invokevirtual 352, 3) := by decide +kernel
theorem dX10_could_10 : decode cX10_could 10 = .ok (.ifCond .eq 11, 3) := by decide +kernel
theorem dX10_could_13 : decode cX10_could 13 = .ok (.aload_n 0, 1) := by decide +kernel
theorem dX10_could_14 : decode cX10_could 14 = .ok (.iload_n 2, 1) := by decide +kernel
theorem dX10_could_15 : decode cX10_could 15 = .ok (.invokevirtual 378, 3) := by decide +kernel
theorem dX10_could_18 : decode cX10_could 18 = .ok (.ifCond .ne 9, 3) := by decide +kernel
theorem dX10_could_21 : decode cX10_could 21 = .ok (.aload_n 0, 1) := by decide +kernel
theorem dX10_could_22 : decode cX10_could 22 = .ok (.iconst 1, 1) := by decide +kernel
theorem dX10_could_23 : decode cX10_could 23 = .ok (.invokevirtual 183, 3) := by decide +kernel
theorem dX10_could_26 : decode cX10_could 26 = .ok (.ireturn, 1) := by decide +kernel
theorem dX10_could_27 : decode cX10_could 27 = .ok (.aload_n 0, 1) := by decide +kernel
theorem dX10_could_28 : decode cX10_could 28 = .ok (.iload_n 1, 1) := by decide +kernel
theorem dX10_could_29 : decode cX10_could 29 = .ok (.iload_n 2, 1) := by decide +kernel
theorem dX10_could_30 : decode cX10_could 30 = .ok (.invokevirtual 396, 3) := by decide +kernel
theorem dX10_could_33 : decode cX10_could 33 = .ok (.istore_n 3, 1) := by decide +kernel
theorem dX10_could_34 : decode cX10_could 34 = .ok (.iload_n 3, 1) := by decide +kernel
theorem dX10_could_35 : decode cX10_could 35 = .ok (.ifCond .ge 11, 3) := by decide +kernel
theorem dX10_could_38 : decode cX10_could 38 = .ok (.aload_n 0, 1) := by decide +kernel
theorem dX10_could_39 : decode cX10_could 39 = .ok (.iconst 3, 1) := by decide +kernel
theorem dX10_could_40 : decode cX10_could 40 = .ok (.invokevirtual 183, 3) := by decide +kernel
theorem dX10_could_43 : decode cX10_could 43 = .ok (.goto 4, 3) := by decide +kernel
theorem dX10_could_46 : decode cX10_could 46 = .ok (.iload_n 3, 1) := by decide +kernel
theorem dX10_could_47 : decode cX10_could 47 = .ok (.ireturn, 1) := by decide +kernel
theorem dX10_couldTell_0 : decode cX10_couldTell 0 = .ok (.aload_n 0, 1) := by decide +kernel
theorem dX10_couldTell_1 : decode cX10_couldTell 1 = .ok (.invokevirtual 180, 3) := by decide +kernel
theorem dX10_couldTell_4 : decode cX10_couldTell 4 = .ok (.aload_n 0, 1) := by decide +kernel
theorem dX10_couldTell_5 : decode cX10_couldTell 5 = .ok (.iload_n 1, 1) := by decide +kernel
theorem dX10_couldTell_6 : decode cX10_couldTell 6 = .ok (.iconst 2, 1) := by decide +kernel
theorem dX10_couldTell_7 : decode cX10_couldTell 7 = .ok (.invokevirtual 352, 3) := by decide +kernel
theorem dX10_couldTell_10 : decode cX10_couldTell 10 = .ok (.ifCond .eq 11, 3) := by decide +kernel
theorem dX10_couldTell_13 : decode cX10_couldTell 13 = .ok (.aload_n 0, 1) := by decide +kernel
theorem dX10_couldTell_14 : decode cX10_couldTell 14 = .ok (.iload_n 2, 1) := by decide +kernel
theorem dX10_couldTell_15 : decode cX10_couldTell 15 = .ok (.invokevirtual 378, 3) := by decide +kernel
theorem dX10_couldTell_18 : decode cX10_couldTell 18 = .ok (.ifCond .ne 9, 3) := by decide +kernel
theorem dX10_couldTell_21 : decode cX10_couldTell 21 = .ok (.aload_n 0, 1) := by decide +kernel
theorem dX10_couldTell_22 : decode cX10_couldTell 22 = .ok (.iconst 1, 1) := by decide +kernel
theorem dX10_couldTell_23 : decode cX10_couldTell 23 = .ok (.invokevirtual 183, 3) := by decide +kernel
theorem dX10_couldTell_26 : decode cX10_couldTell 26 = .ok (.ireturn, 1) := by decide +kernel
theorem dX10_couldTell_27 : decode cX10_couldTell 27 = .ok (.aload_n 0, 1) := by decide +kernel
theorem dX10_couldTell_28 : decode cX10_couldTell 28 = .ok (.iload_n 1, 1) := by decide +kernel
theorem dX10_couldTell_29 : decode cX10_couldTell 29 = .ok (.iload_n 2, 1) := by decide +kernel
theorem dX10_couldTell_30 : decode cX10_couldTell 30 = .ok (.invokevirtual 396, 3) := by decide +kernel
theorem dX10_couldTell_33 : decode cX10_couldTell 33 = .ok (.istore 4, 2) := by decide +kernel
theorem dX10_couldTell_35 : decode cX10_couldTell 35 = .ok (.iload 4, 2) := by decide +kernel
theorem dX10_couldTell_37 : decode cX10_couldTell 37 = .ok (.ifCond .gt 19, 3) := by decide +kernel
theorem dX10_couldTell_40 : decode cX10_couldTell 40 = .ok (.aload_n 0, 1) := by decide +kernel
theorem dX10_couldTell_41 : decode cX10_couldTell 41 = .ok (.iload 4, 2) := by decide +kernel
theorem dX10_couldTell_43 : decode cX10_couldTell 43 = .ok (.ifCond .ge 7, 3) := by decide +kernel
theorem dX10_couldTell_46 : decode cX10_couldTell 46 = .ok (.iconst 3, 1) := by decide +kernel
theorem dX10_couldTell_47 : decode cX10_couldTell 47 = .ok (.goto 5, 3) := by decide +kernel
theorem dX10_couldTell_50 : decode cX10_couldTell 50 = .ok (.bipush 6, 2) := by decide +kernel
theorem dX10_couldTell_52 : decode cX10_couldTell 52 = .ok (.invokevirtual 183, 3) := by decide +kernel
theorem dX10_couldTell_55 : decode cX10_couldTell 55 = .ok (.ireturn, 1) := by decide +kernel
theorem dX10_couldTell_56 : decode cX10_couldTell 56 = .ok (.iload_n 3, 1) := by decide +kernel
theorem dX10_couldTell_57 : decode cX10_couldTell 57 = .ok (.ifCond .eq 8, 3) := by decide +kernel
theorem dX10_couldTell_60 : decode cX10_couldTell 60 = .ok (.bipush 99, 2) := by decide +kernel
theorem dX10_couldTell_62 : decode cX10_couldTell 62 = .ok (.goto 4, 3) := by decide +kernel
theorem dX10_couldTell_65 : decode cX10_couldTell 65 = .ok (.iconst 0, 1) := by decide +kernel
theorem dX10_couldTell_66 : decode cX10_couldTell 66 = .ok (.istore 5, 2) := by decide +kernel
theorem dX10_couldTell_68 : decode cX10_couldTell 68 = .ok (.aload_n 0, 1) := by decide +kernel
theorem dX10_couldTell_69 : decode cX10_couldTell 69 = .ok (.getfield 79, 3) := by decide +kernel
theorem dX10_couldTell_72 : decode cX10_couldTell 72 = .ok (.iload 5, 2) := by decide +kernel
theorem dX10_couldTell_74 : decode cX10_couldTell 74 = .ok (.baload, 1) := by decide +kernel
theorem dX10_couldTell_75 : decode cX10_couldTell 75 = .ok (.ifCond .ne 20, 3) := by decide +kernel
theorem dX10_couldTell_78 : decode cX10_couldTell 78 = .ok (.iload 5, 2) := by decide +kernel
theorem dX10_couldTell_80 : decode cX10_couldTell 80 = .ok (.iload_n 3, 1) := by decide +kernel
theorem dX10_couldTell_81 : decode cX10_couldTell 81 = .ok (.ifCond .eq 7, 3) := by decide +kernel
theorem dX10_couldTell_84 : decode cX10_couldTell 84 = .ok (.iconst (-1), 1) := by decide +kernel
theorem dX10_couldTell_85 : decode cX10_couldTell 85 = .ok (.goto 4, 3) := by decide +kernel
theorem dX10_couldTell_88 : decode cX10_couldTell 88 = .ok (.iconst 1, 1) := by decide +kernel
theorem dX10_couldTell_89 : decode cX10_couldTell 89 = .ok (.iadd, 1) := by decide +kernel
theorem dX10_couldTell_90 : decode cX10_couldTell 90 = .ok (.istore 5, 2) := by decide +kernel
theorem dX10_couldTell_92 : decode cX10_couldTell 92 = .ok (.goto (-24), 3) := by decide +kernel
theorem dX10_couldTell_95 : decode cX10_couldTell 95 = .ok (.iload 5, 2) := by decide +kernel
theorem dX10_couldTell_97 : decode cX10_couldTell 97 = .ok (.ireturn, 1) := by decide +kernel
theorem dX10_seed_0 : decode cX10_seed 0 = .ok (.aload_n 0, 1) := by decide +kernel
theorem dX10_seed_1 : decode cX10_seed 1 = .ok (.invokevirtual 180, 3) := by decide +kernel
theorem dX10_seed_4 : decode cX10_seed 4 = .ok (.aload_n 0, 1) := by decide +kernel
theorem dX10_seed_5 : decode cX10_seed 5 = .ok (.getfield 193, 3) := by decide +kernel
theorem dX10_seed_8 : decode cX10_seed 8 = .ok (.ifCond .ne 9, 3) := by decide +kernel
theorem dX10_seed_11 : decode cX10_seed 11 = .ok (.aload_n 0, 1) := by decide +kernel
theorem dX10_seed_12 : decode cX10_seed 12 = .ok (.iconst 1, 1) := by decide +kernel
theorem dX10_seed_13 : decode cX10_seed 13 = .ok (.invokevirtual 399, 3) := by decide +kernel
theorem dX10_seed_16 : decode cX10_seed 16 = .ok (.ireturn, 1) := by decide +kernel
theorem dX10_seed_17 : decode cX10_seed 17 = .ok (.iload_n 1, 1) := by decide +kernel
theorem dX10_seed_18 : decode cX10_seed 18 = .ok (.iconst 0, 1) := by decide +kernel
theorem dX10_seed_19 : decode cX10_seed 19 = .ok (.ldc_w 402, 3) := by decide +kernel
theorem dX10_seed_22 : decode cX10_seed 22 = .ok (.invokestatic 176, 3) := by decide +kernel
theorem dX10_seed_25 : decode cX10_seed 25 = .ok (.ifCond .ne 9, 3) := by decide +kernel
theorem dX10_seed_28 : decode cX10_seed 28 = .ok (.aload_n 0, 1) := by decide +kernel
theorem dX10_seed_29 : decode cX10_seed 29 = .ok (.iconst 2, 1) := by decide +kernel
theorem dX10_seed_30 : decode cX10_seed 30 = .ok (.invokevirtual 399, 3) := by decide +kernel
theorem dX10_seed_33 : decode cX10_seed 33 = .ok (.ireturn, 1) := by decide +kernel
theorem dX10_seed_34 : decode cX10_seed 34 = .ok (.aload_n 0, 1) := by decide +kernel
theorem dX10_seed_35 : decode cX10_seed 35 = .ok (.getfield 26, 3) := by decide +kernel
theorem dX10_seed_38 : decode cX10_seed 38 = .ok (.sipush 140, 3) := by decide +kernel
theorem dX10_seed_41 : decode cX10_seed 41 = .ok (.iload_n 1, 1) := by decide +kernel
theorem dX10_seed_42 : decode cX10_seed 42 = .ok (.iastore, 1) := by decide +kernel
theorem dX10_seed_43 : decode cX10_seed 43 = .ok (.iconst 1, 1) := by decide +kernel
theorem dX10_seed_44 : decode cX10_seed 44 = .ok (.ireturn, 1) := by decide +kernel
theorem dX10_draw_0 : decode cX10_draw 0 = .ok (.aload_n 0, 1) := by decide +kernel
theorem dX10_draw_1 : decode cX10_draw 1 = .ok (.getfield 26, 3) := by decide +kernel
theorem dX10_draw_4 : decode cX10_draw 4 = .ok (.sipush 140, 3) := by decide +kernel
theorem dX10_draw_7 : decode cX10_draw 7 = .ok (.bipush 75, 2) := by decide +kernel
theorem dX10_draw_9 : decode cX10_draw 9 = .ok (.aload_n 0, 1) := by decide +kernel
theorem dX10_draw_10 : decode cX10_draw 10 = .ok (.getfield 26, 3) := by decide +kernel
theorem dX10_draw_13 : decode cX10_draw 13 = .ok (.sipush 140, 3) := by decide +kernel
theorem dX10_draw_16 : decode cX10_draw 16 = .ok (.iaload, 1) := by decide +kernel
theorem dX10_draw_17 : decode cX10_draw 17 = .ok (.imul, 1) := by decide +kernel
theorem dX10_draw_18 : decode cX10_draw 18 = .ok (.bipush 74, 2) := by decide +kernel
theorem dX10_draw_20 : decode cX10_draw 20 = .ok (.iadd, 1) := by decide +kernel
theorem dX10_draw_21 : decode cX10_draw 21 = .ok (.ldc_w 403, 3) := by decide +kernel
theorem dX10_draw_24 : decode cX10_draw 24 = .ok (.irem, 1) := by decide +kernel
theorem dX10_draw_25 : decode cX10_draw 25 = .ok (.iastore, 1) := by decide +kernel
theorem dX10_draw_26 : decode cX10_draw 26 = .ok (.aload_n 0, 1) := by decide +kernel
theorem dX10_draw_27 : decode cX10_draw 27 = .ok (.getfield 26, 3) := by decide +kernel
theorem dX10_draw_30 : decode cX10_draw 30 = .ok (.sipush 140, 3) := by decide +kernel
theorem dX10_draw_33 : decode cX10_draw 33 = .ok (.iaload, 1) := by decide +kernel
theorem dX10_draw_34 : decode cX10_draw 34 = .ok (.iload_n 1, 1) := by decide +kernel
theorem dX10_draw_35 : decode cX10_draw 35 = .ok (.irem, 1) := by decide +kernel
theorem dX10_draw_36 : decode cX10_draw 36 = .ok (.ireturn, 1) := by decide +kernel
theorem dX10_doIt_0 : decode cX10_doIt 0 = .ok (.bipush 7, 2) := by decide +kernel
theorem dX10_doIt_2 : decode cX10_doIt 2 = .ok (.iload_n 2, 1) := by decide +kernel
theorem dX10_doIt_3 : decode cX10_doIt 3 = .ok (.imul, 1) := by decide +kernel
theorem dX10_doIt_4 : decode cX10_doIt 4 = .ok (.istore_n 3, 1) := by decide +kernel
theorem dX10_doIt_5 : decode cX10_doIt 5 = .ok (.aload_n 0, 1) := by decide +kernel
theorem dX10_doIt_6 : decode cX10_doIt 6 = .ok (.getfield 26, 3) := by decide +kernel
theorem dX10_doIt_9 : decode cX10_doIt 9 = .ok (.iload_n 3, 1) := by decide +kernel
theorem dX10_doIt_10 : decode cX10_doIt 10 = .ok (.iconst 1, 1) := by decide +kernel
theorem dX10_doIt_11 : decode cX10_doIt 11 = .ok (.iadd, 1) := by decide +kernel
theorem dX10_doIt_12 : decode cX10_doIt 12 = .ok (.iaload, 1) := by decide +kernel
theorem dX10_doIt_13 : decode cX10_doIt 13 = .ok (.istore 4, 2) := by decide +kernel
theorem dX10_doIt_15 : decode cX10_doIt 15 = .ok (.aload_n 0, 1) := by decide +kernel
theorem dX10_doIt_16 : decode cX10_doIt 16 = .ok (.getfield 82, 3) := by decide +kernel
theorem dX10_doIt_19 : decode cX10_doIt 19 = .ok (.iconst 3, 1) := by decide +kernel
theorem dX10_doIt_20 : decode cX10_doIt 20 = .ok (.iload_n 1, 1) := by decide +kernel
theorem dX10_doIt_21 : decode cX10_doIt 21 = .ok (.imul, 1) := by decide +kernel
theorem dX10_doIt_22 : decode cX10_doIt 22 = .ok (.iload 4, 2) := by decide +kernel
theorem dX10_doIt_24 : decode cX10_doIt 24 = .ok (.iadd, 1) := by decide +kernel
theorem dX10_doIt_25 : decode cX10_doIt 25 = .ok (.aload_n 0, 1) := by decide +kernel
theorem dX10_doIt_26 : decode cX10_doIt 26 = .ok (.aload_n 0, 1) := by decide +kernel
theorem dX10_doIt_27 : decode cX10_doIt 27 = .ok (.getfield 20, 3) := by decide +kernel
theorem dX10_doIt_30 : decode cX10_doIt 30 = .ok (.iconst 3, 1) := by decide +kernel
theorem dX10_doIt_31 : decode cX10_doIt 31 = .ok (.iload 4, 2) := by decide +kernel
theorem dX10_doIt_33 : decode cX10_doIt 33 = .ok (.iadd, 1) := by decide +kernel
theorem dX10_doIt_34 : decode cX10_doIt 34 = .ok (.iaload, 1) := by decide +kernel
theorem dX10_doIt_35 : decode cX10_doIt 35 = .ok (.aload_n 0, 1) := by decide +kernel
theorem dX10_doIt_36 : decode cX10_doIt 36 = .ok (.getfield 82, 3) := by decide +kernel
theorem dX10_doIt_39 : decode cX10_doIt 39 = .ok (.iconst 3, 1) := by decide +kernel
theorem dX10_doIt_40 : decode cX10_doIt 40 = .ok (.iload_n 1, 1) := by decide +kernel
theorem dX10_doIt_41 : decode cX10_doIt 41 = .ok (.imul, 1) := by decide +kernel
theorem dX10_doIt_42 : decode cX10_doIt 42 = .ok (.iload 4, 2) := by decide +kernel
theorem dX10_doIt_44 : decode cX10_doIt 44 = .ok (.iadd, 1) := by decide +kernel
theorem dX10_doIt_45 : decode cX10_doIt 45 = .ok (.laload, 1) := by decide +kernel
theorem dX10_doIt_46 : decode cX10_doIt 46 = .ok (.aload_n 0, 1) := by decide +kernel
theorem dX10_doIt_47 : decode cX10_doIt 47 = .ok (.getfield 26, 3) := by decide +kernel
theorem dX10_doIt_50 : decode cX10_doIt 50 = .ok (.iload_n 3, 1) := by decide +kernel
theorem dX10_doIt_51 : decode cX10_doIt 51 = .ok (.iconst 2, 1) := by decide +kernel
theorem dX10_doIt_52 : decode cX10_doIt 52 = .ok (.iadd, 1) := by decide +kernel
theorem dX10_doIt_53 : decode cX10_doIt 53 = .ok (.iaload, 1) := by decide +kernel
theorem dX10_doIt_54 : decode cX10_doIt 54 = .ok (.aload_n 0, 1) := by decide +kernel
theorem dX10_doIt_55 : decode cX10_doIt 55 = .ok (.getfield 26, 3) := by decide +kernel
theorem dX10_doIt_58 : decode cX10_doIt 58 = .ok (.iload_n 3, 1) := by decide +kernel
theorem dX10_doIt_59 : decode cX10_doIt 59 = .ok (.iconst 3, 1) := by decide +kernel
theorem dX10_doIt_60 : decode cX10_doIt 60 = .ok (.iadd, 1) := by decide +kernel
theorem dX10_doIt_61 : decode cX10_doIt 61 = .ok (.iaload, 1) := by decide +kernel
theorem dX10_doIt_62 : decode cX10_doIt 62 = .ok (.invokevirtual 339, 3) := by decide +kernel
theorem dX10_doIt_65 : decode cX10_doIt 65 = .ok (.lastore, 1) := by decide +kernel
theorem dX10_doIt_66 : decode cX10_doIt 66 = .ok (.aload_n 0, 1) := by decide +kernel
theorem dX10_doIt_67 : decode cX10_doIt 67 = .ok (.getfield 270, 3) := by decide +kernel
theorem dX10_doIt_70 : decode cX10_doIt 70 = .ok (.ireturn, 1) := by decide +kernel
theorem dX10_doBy_0 : decode cX10_doBy 0 = .ok (.aload_n 0, 1) := by decide +kernel
theorem dX10_doBy_1 : decode cX10_doBy 1 = .ok (.getfield 26, 3) := by decide +kernel
theorem dX10_doBy_4 : decode cX10_doBy 4 = .ok (.bipush 7, 2) := by decide +kernel
theorem dX10_doBy_6 : decode cX10_doBy 6 = .ok (.iload_n 3, 1) := by decide +kernel
theorem dX10_doBy_7 : decode cX10_doBy 7 = .ok (.imul, 1) := by decide +kernel
theorem dX10_doBy_8 : decode cX10_doBy 8 = .ok (.iconst 2, 1) := by decide +kernel
theorem dX10_doBy_9 : decode cX10_doBy 9 = .ok (.iadd, 1) := by decide +kernel
theorem dX10_doBy_10 : decode cX10_doBy 10 = .ok (.iaload, 1) := by decide +kernel
theorem dX10_doBy_11 : decode cX10_doBy 11 = .ok (.iconst 2, 1) := by decide +kernel
theorem dX10_doBy_12 : decode cX10_doBy 12 = .ok (.if_icmp .ne 7, 3) := by decide +kernel
theorem dX10_doBy_15 : decode cX10_doBy 15 = .ok (.iconst 1, 1) := by decide +kernel
theorem dX10_doBy_16 : decode cX10_doBy 16 = .ok (.goto 4, 3) := by decide +kernel
theorem dX10_doBy_19 : decode cX10_doBy 19 = .ok (.iconst 0, 1) := by decide +kernel
theorem dX10_doBy_20 : decode cX10_doBy 20 = .ok (.istore 4, 2) := by decide +kernel
theorem dX10_doBy_22 : decode cX10_doBy 22 = .ok (.iload_n 1, 1) := by decide +kernel
theorem dX10_doBy_23 : decode cX10_doBy 23 = .ok (.ifCond .ne 10, 3) := by decide +kernel
theorem dX10_doBy_26 : decode cX10_doBy 26 = .ok (.aload_n 0, 1) := by decide +kernel
theorem dX10_doBy_27 : decode cX10_doBy 27 = .ok (.iconst 0, 1) := by decide +kernel
theorem dX10_doBy_28 : decode cX10_doBy 28 = .ok (.iload_n 3, 1) := by decide +kernel
theorem dX10_doBy_29 : decode cX10_doBy 29 = .ok (.invokevirtual 404, 3) := by decide +kernel
theorem dX10_doBy_32 : decode cX10_doBy 32 = .ok (.ireturn, 1) := by decide +kernel
theorem dX10_doBy_33 : decode cX10_doBy 33 = .ok (.iload_n 1, 1) := by decide +kernel
theorem dX10_doBy_34 : decode cX10_doBy 34 = .ok (.iconst 1, 1) := by decide +kernel
theorem dX10_doBy_35 : decode cX10_doBy 35 = .ok (.if_icmp .ne 63, 3) := by decide +kernel
theorem dX10_doBy_38 : decode cX10_doBy 38 = .ok (.iload 4, 2) := by decide +kernel
theorem dX10_doBy_40 : decode cX10_doBy 40 = .ok (.ifCond .eq 12, 3) := by decide +kernel
theorem dX10_doBy_43 : decode cX10_doBy 43 = .ok (.aload_n 0, 1) := by decide +kernel
theorem dX10_doBy_44 : decode cX10_doBy 44 = .ok (.iconst 1, 1) := by decide +kernel
theorem dX10_doBy_45 : decode cX10_doBy 45 = .ok (.iload_n 2, 1) := by decide +kernel
theorem dX10_doBy_46 : decode cX10_doBy 46 = .ok (.iadd, 1) := by decide +kernel
theorem dX10_doBy_47 : decode cX10_doBy 47 = .ok (.iload_n 3, 1) := by decide +kernel
theorem dX10_doBy_48 : decode cX10_doBy 48 = .ok (.invokevirtual 404, 3) := by decide +kernel
theorem dX10_doBy_51 : decode cX10_doBy 51 = .ok (.ireturn, 1) := by decide +kernel
theorem dX10_doBy_52 : decode cX10_doBy 52 = .ok (.aload_n 0, 1) := by decide +kernel
theorem dX10_doBy_53 : decode cX10_doBy 53 = .ok (.iconst 0, 1) := by decide +kernel
theorem dX10_doBy_54 : decode cX10_doBy 54 = .ok (.iload_n 3, 1) := by decide +kernel
theorem dX10_doBy_55 : decode cX10_doBy 55 = .ok (.invokevirtual 404, 3) := by decide +kernel
theorem dX10_doBy_58 : decode cX10_doBy 58 = .ok (.istore 5, 2) := by decide +kernel
theorem dX10_doBy_60 : decode cX10_doBy 60 = .ok (.iconst 0, 1) := by decide +kernel
theorem dX10_doBy_61 : decode cX10_doBy 61 = .ok (.istore 6, 2) := by decide +kernel
theorem dX10_doBy_63 : decode cX10_doBy 63 = .ok (.iload 6, 2) := by decide +kernel
theorem dX10_doBy_65 : decode cX10_doBy 65 = .ok (.iconst 3, 1) := by decide +kernel
theorem dX10_doBy_66 : decode cX10_doBy 66 = .ok (.if_icmp .ge 29, 3) := by decide +kernel
theorem dX10_doBy_69 : decode cX10_doBy 69 = .ok (.aload_n 0, 1) := by decide +kernel
theorem dX10_doBy_70 : decode cX10_doBy 70 = .ok (.getfield 82, 3) := by decide +kernel
theorem dX10_doBy_73 : decode cX10_doBy 73 = .ok (.iconst 3, 1) := by decide +kernel
theorem dX10_doBy_74 : decode cX10_doBy 74 = .ok (.iconst 1, 1) := by decide +kernel
theorem dX10_doBy_75 : decode cX10_doBy 75 = .ok (.iload_n 2, 1) := by decide +kernel
theorem dX10_doBy_76 : decode cX10_doBy 76 = .ok (.iadd, 1) := by decide +kernel
theorem dX10_doBy_77 : decode cX10_doBy 77 = .ok (.imul, 1) := by decide +kernel
theorem dX10_doBy_78 : decode cX10_doBy 78 = .ok (.iload 6, 2) := by decide +kernel
theorem dX10_doBy_80 : decode cX10_doBy 80 = .ok (.iadd, 1) := by decide +kernel
theorem dX10_doBy_81 : decode cX10_doBy 81 = .ok (.aload_n 0, 1) := by decide +kernel
theorem dX10_doBy_82 : decode cX10_doBy 82 = .ok (.getfield 82, 3) := by decide +kernel
theorem dX10_doBy_85 : decode cX10_doBy 85 = .ok (.iload 6, 2) := by decide +kernel
theorem dX10_doBy_87 : decode cX10_doBy 87 = .ok (.laload, 1) := by decide +kernel
theorem dX10_doBy_88 : decode cX10_doBy 88 = .ok (.lastore, 1) := by decide +kernel
theorem dX10_doBy_89 : decode cX10_doBy 89 = .ok (.iinc 6 1, 3) := by decide +kernel
theorem dX10_doBy_92 : decode cX10_doBy 92 = .ok (.goto (-29), 3) := by decide +kernel
theorem dX10_doBy_95 : decode cX10_doBy 95 = .ok (.iload 5, 2) := by decide +kernel
theorem dX10_doBy_97 : decode cX10_doBy 97 = .ok (.ireturn, 1) := by decide +kernel
theorem dX10_doBy_98 : decode cX10_doBy 98 = .ok (.aload_n 0, 1) := by decide +kernel
theorem dX10_doBy_99 : decode cX10_doBy 99 = .ok (.iconst 3, 1) := by decide +kernel
theorem dX10_doBy_100 : decode cX10_doBy 100 = .ok (.invokevirtual 407, 3) := by decide +kernel
theorem dX10_doBy_103 : decode cX10_doBy 103 = .ok (.istore 5, 2) := by decide +kernel
theorem dX10_doBy_105 : decode cX10_doBy 105 = .ok (.iload 5, 2) := by decide +kernel
theorem dX10_doBy_107 : decode cX10_doBy 107 = .ok (.ifCond .ne 7, 3) := by decide +kernel
theorem dX10_doBy_110 : decode cX10_doBy 110 = .ok (.iconst 1, 1) := by decide +kernel
theorem dX10_doBy_111 : decode cX10_doBy 111 = .ok (.goto 4, 3) := by decide +kernel
theorem dX10_doBy_114 : decode cX10_doBy 114 = .ok (.iconst 0, 1) := by decide +kernel
theorem dX10_doBy_115 : decode cX10_doBy 115 = .ok (.istore 6, 2) := by decide +kernel
theorem dX10_doBy_117 : decode cX10_doBy 117 = .ok (.iload 5, 2) := by decide +kernel
theorem dX10_doBy_119 : decode cX10_doBy 119 = .ok (.iconst 2, 1) := by decide +kernel
theorem dX10_doBy_120 : decode cX10_doBy 120 = .ok (.if_icmp .ne 7, 3) := by decide +kernel
theorem dX10_doBy_123 : decode cX10_doBy 123 = .ok (.iconst 1, 1) := by decide +kernel
theorem dX10_doBy_124 : decode cX10_doBy 124 = .ok (.goto 4, 3) := by decide +kernel
theorem dX10_doBy_127 : decode cX10_doBy 127 = .ok (.iconst 2, 1) := by decide +kernel
theorem dX10_doBy_128 : decode cX10_doBy 128 = .ok (.istore 7, 2) := by decide +kernel
theorem dX10_doBy_130 : decode cX10_doBy 130 = .ok (.aload_n 0, 1) := by decide +kernel
theorem dX10_doBy_131 : decode cX10_doBy 131 = .ok (.iload 6, 2) := by decide +kernel
theorem dX10_doBy_133 : decode cX10_doBy 133 = .ok (.iload_n 3, 1) := by decide +kernel
theorem dX10_doBy_134 : decode cX10_doBy 134 = .ok (.invokevirtual 404, 3) := by decide +kernel
theorem dX10_doBy_137 : decode cX10_doBy 137 = .ok (.istore 8, 2) := by decide +kernel
theorem dX10_doBy_139 : decode cX10_doBy 139 = .ok (.iload 4, 2) := by decide +kernel
theorem dX10_doBy_141 : decode cX10_doBy 141 = .ok (.ifCond .eq 6, 3) := by decide +kernel
theorem dX10_doBy_144 : decode cX10_doBy 144 = .ok (.iload 8, 2) := by decide +kernel
theorem dX10_doBy_146 : decode cX10_doBy 146 = .ok (.ireturn, 1) := by decide +kernel
theorem dX10_doBy_147 : decode cX10_doBy 147 = .ok (.aload_n 0, 1) := by decide +kernel
theorem dX10_doBy_148 : decode cX10_doBy 148 = .ok (.iload 7, 2) := by decide +kernel
theorem dX10_doBy_150 : decode cX10_doBy 150 = .ok (.iload_n 3, 1) := by decide +kernel
theorem dX10_doBy_151 : decode cX10_doBy 151 = .ok (.invokevirtual 404, 3) := by decide +kernel
theorem dX10_doBy_154 : decode cX10_doBy 154 = .ok (.istore 9, 2) := by decide +kernel
theorem dX10_doBy_156 : decode cX10_doBy 156 = .ok (.iload 9, 2) := by decide +kernel
theorem dX10_doBy_158 : decode cX10_doBy 158 = .ok (.iconst (-1), 1) := by decide +kernel
theorem dX10_doBy_159 : decode cX10_doBy 159 = .ok (.if_icmp .ge 8, 3) := by decide +kernel
theorem dX10_doBy_162 : decode cX10_doBy 162 = .ok (.iload 9, 2) := by decide +kernel
theorem dX10_doBy_164 : decode cX10_doBy 164 = .ok (.goto 5, 3) := by decide +kernel
theorem dX10_doBy_167 : decode cX10_doBy 167 = .ok (.iload 8, 2) := by decide +kernel
theorem dX10_doBy_169 : decode cX10_doBy 169 = .ok (.ireturn, 1) := by decide +kernel
theorem dX10_beginsCall_0 : decode cX10_beginsCall 0 = .ok (.aload_n 0, 1) := by decide +kernel
theorem dX10_beginsCall_1 : decode cX10_beginsCall 1 = .ok (.getfield 26, 3) := by decide +kernel
theorem dX10_beginsCall_4 : decode cX10_beginsCall 4 = .ok (.sipush 141, 3) := by decide +kernel
theorem dX10_beginsCall_7 : decode cX10_beginsCall 7 = .ok (.iaload, 1) := by decide +kernel
theorem dX10_beginsCall_8 : decode cX10_beginsCall 8 = .ok (.istore_n 3, 1) := by decide +kernel
theorem dX10_beginsCall_9 : decode cX10_beginsCall 9 = .ok (.bipush 7, 2) := by decide +kernel
theorem dX10_beginsCall_11 : decode cX10_beginsCall 11 = .ok (.iload_n 3, 1) := by decide +kernel
theorem dX10_beginsCall_12 : decode cX10_beginsCall 12 = .ok (.imul, 1) := by decide +kernel
theorem dX10_beginsCall_13 : decode cX10_beginsCall 13 = .ok (.istore 4, 2) := by decide +kernel
theorem dX10_beginsCall_15 : decode cX10_beginsCall 15 = .ok (.aload_n 0, 1) := by decide +kernel
theorem dX10_beginsCall_16 : decode cX10_beginsCall 16 = .ok (.aload_n 0, 1) := by decide +kernel
theorem dX10_beginsCall_17 : decode cX10_beginsCall 17 = .ok (.getfield 20, 3) := by decide +kernel
theorem dX10_beginsCall_20 : decode cX10_beginsCall 20 = .ok (.iconst 2, 1) := by decide +kernel
theorem dX10_beginsCall_21 : decode cX10_beginsCall 21 = .ok (.iaload, 1) := by decide +kernel
theorem dX10_beginsCall_22 : decode cX10_beginsCall 22 = .ok (.invokevirtual 407, 3) := by decide +kernel
theorem dX10_beginsCall_25 : decode cX10_beginsCall 25 = .ok (.istore 5, 2) := by decide +kernel
theorem dX10_beginsCall_27 : decode cX10_beginsCall 27 = .ok (.aload_n 0, 1) := by decide +kernel
theorem dX10_beginsCall_28 : decode cX10_beginsCall 28 = .ok (.getfield 20, 3) := by decide +kernel
theorem dX10_beginsCall_31 : decode cX10_beginsCall 31 = .ok (.iconst 3, 1) := by decide +kernel
theorem dX10_beginsCall_32 : decode cX10_beginsCall 32 = .ok (.iload 5, 2) := by decide +kernel
theorem dX10_beginsCall_34 : decode cX10_beginsCall 34 = .ok (.iadd, 1) := by decide +kernel
theorem dX10_beginsCall_35 : decode cX10_beginsCall 35 = .ok (.iaload, 1) := by decide +kernel
theorem dX10_beginsCall_36 : decode cX10_beginsCall 36 = .ok (.istore 6, 2) := by decide +kernel
theorem dX10_beginsCall_38 : decode cX10_beginsCall 38 = .ok (.aload_n 0, 1) := by decide +kernel
theorem dX10_beginsCall_39 : decode cX10_beginsCall 39 = .ok (.iload 6, 2) := by decide +kernel
theorem dX10_beginsCall_41 : decode cX10_beginsCall 41 = .ok (.ifCond .eq 9, 3) := by decide +kernel
theorem dX10_beginsCall_44 : decode cX10_beginsCall 44 = .ok (.iload 6, 2) := by decide +kernel
theorem dX10_beginsCall_46 : decode cX10_beginsCall 46 = .ok (.iconst 1, 1) := by decide +kernel
theorem dX10_beginsCall_47 : decode cX10_beginsCall 47 = .ok (.if_icmp .ne 7, 3) := by decide +kernel
theorem dX10_beginsCall_50 : decode cX10_beginsCall 50 = .ok (.iconst 2, 1) := by decide +kernel
theorem dX10_beginsCall_51 : decode cX10_beginsCall 51 = .ok (.goto 4, 3) := by decide +kernel
theorem dX10_beginsCall_54 : decode cX10_beginsCall 54 = .ok (.iconst 3, 1) := by decide +kernel
theorem dX10_beginsCall_55 : decode cX10_beginsCall 55 = .ok (.invokevirtual 407, 3) := by decide +kernel
theorem dX10_beginsCall_58 : decode cX10_beginsCall 58 = .ok (.istore 7, 2) := by decide +kernel
theorem dX10_beginsCall_60 : decode cX10_beginsCall 60 = .ok (.iload 6, 2) := by decide +kernel
theorem dX10_beginsCall_62 : decode cX10_beginsCall 62 = .ok (.ifCond .ne 13, 3) := by decide +kernel
theorem dX10_beginsCall_65 : decode cX10_beginsCall 65 = .ok (.iload 7, 2) := by decide +kernel
theorem dX10_beginsCall_67 : decode cX10_beginsCall 67 = .ok (.iconst 1, 1) := by decide +kernel
theorem dX10_beginsCall_68 : decode cX10_beginsCall 68 = .ok (.if_icmp .ne 7, 3) := by decide +kernel
theorem dX10_beginsCall_71 : decode cX10_beginsCall 71 = .ok (.iconst 2, 1) := by decide +kernel
theorem dX10_beginsCall_72 : decode cX10_beginsCall 72 = .ok (.goto 5, 3) := by decide +kernel
theorem dX10_beginsCall_75 : decode cX10_beginsCall 75 = .ok (.iload 7, 2) := by decide +kernel
theorem dX10_beginsCall_77 : decode cX10_beginsCall 77 = .ok (.istore 7, 2) := by decide +kernel
theorem dX10_beginsCall_79 : decode cX10_beginsCall 79 = .ok (.aload_n 0, 1) := by decide +kernel
theorem dX10_beginsCall_80 : decode cX10_beginsCall 80 = .ok (.getfield 26, 3) := by decide +kernel
theorem dX10_beginsCall_83 : decode cX10_beginsCall 83 = .ok (.iload 4, 2) := by decide +kernel
theorem dX10_beginsCall_85 : decode cX10_beginsCall 85 = .ok (.iconst 0, 1) := by decide +kernel
theorem dX10_beginsCall_86 : decode cX10_beginsCall 86 = .ok (.iadd, 1) := by decide +kernel
theorem dX10_beginsCall_87 : decode cX10_beginsCall 87 = .ok (.iload_n 1, 1) := by decide +kernel
theorem dX10_beginsCall_88 : decode cX10_beginsCall 88 = .ok (.iastore, 1) := by decide +kernel
theorem dX10_beginsCall_89 : decode cX10_beginsCall 89 = .ok (.aload_n 0, 1) := by decide +kernel
theorem dX10_beginsCall_90 : decode cX10_beginsCall 90 = .ok (.getfield 26, 3) := by decide +kernel
theorem dX10_beginsCall_93 : decode cX10_beginsCall 93 = .ok (.iload 4, 2) := by decide +kernel
theorem dX10_beginsCall_95 : decode cX10_beginsCall 95 = .ok (.iconst 1, 1) := by decide +kernel
theorem dX10_beginsCall_96 : decode cX10_beginsCall 96 = .ok (.iadd, 1) := by decide +kernel
theorem dX10_beginsCall_97 : decode cX10_beginsCall 97 = .ok (.iload 5, 2) := by decide +kernel
theorem dX10_beginsCall_99 : decode cX10_beginsCall 99 = .ok (.iastore, 1) := by decide +kernel
theorem dX10_beginsCall_100 : decode cX10_beginsCall 100 = .ok (.aload_n 0, 1) := by decide +kernel
theorem dX10_beginsCall_101 : decode cX10_beginsCall 101 = .ok (.getfield 26, 3) := by decide +kernel
theorem dX10_beginsCall_104 : decode cX10_beginsCall 104 = .ok (.iload 4, 2) := by decide +kernel
theorem dX10_beginsCall_106 : decode cX10_beginsCall 106 = .ok (.iconst 2, 1) := by decide +kernel
theorem dX10_beginsCall_107 : decode cX10_beginsCall 107 = .ok (.iadd, 1) := by decide +kernel
theorem dX10_beginsCall_108 : decode cX10_beginsCall 108 = .ok (.iload 7, 2) := by decide +kernel
theorem dX10_beginsCall_110 : decode cX10_beginsCall 110 = .ok (.iastore, 1) := by decide +kernel
theorem dX10_beginsCall_111 : decode cX10_beginsCall 111 = .ok (.aload_n 0, 1) := by decide +kernel
theorem dX10_beginsCall_112 : decode cX10_beginsCall 112 = .ok (.getfield 26, 3) := by decide +kernel
theorem dX10_beginsCall_115 : decode cX10_beginsCall 115 = .ok (.iload 4, 2) := by decide +kernel
theorem dX10_beginsCall_117 : decode cX10_beginsCall 117 = .ok (.iconst 3, 1) := by decide +kernel
theorem dX10_beginsCall_118 : decode cX10_beginsCall 118 = .ok (.iadd, 1) := by decide +kernel
theorem dX10_beginsCall_119 : decode cX10_beginsCall 119 = .ok (.iload 6, 2) := by decide +kernel
theorem dX10_beginsCall_121 : decode cX10_beginsCall 121 = .ok (.iload 7, 2) := by decide +kernel
theorem dX10_beginsCall_123 : decode cX10_beginsCall 123 = .ok (.invokestatic 258, 3) := by decide +kernel
theorem dX10_beginsCall_126 : decode cX10_beginsCall 126 = .ok (.ifCond .eq 12, 3) := by decide +kernel
theorem dX10_beginsCall_129 : decode cX10_beginsCall 129 = .ok (.aload_n 0, 1) := by decide +kernel
theorem dX10_beginsCall_130 : decode cX10_beginsCall 130 = .ok (.bipush 10, 2) := by decide +kernel
theorem dX10_beginsCall_132 : decode cX10_beginsCall 132 = .ok (.invokevirtual 407, 3) := by decide +kernel
theorem dX10_beginsCall_135 : decode cX10_beginsCall 135 = .ok (.goto 4, 3) := by decide +kernel
theorem dX10_beginsCall_138 : decode cX10_beginsCall 138 = .ok (.iconst 0, 1) := by decide +kernel
theorem dX10_beginsCall_139 : decode cX10_beginsCall 139 = .ok (.iastore, 1) := by decide +kernel
theorem dX10_beginsCall_140 : decode cX10_beginsCall 140 = .ok (.aload_n 0, 1) := by decide +kernel
theorem dX10_beginsCall_141 : decode cX10_beginsCall 141 = .ok (.getfield 26, 3) := by decide +kernel
theorem dX10_beginsCall_144 : decode cX10_beginsCall 144 = .ok (.iload 4, 2) := by decide +kernel
theorem dX10_beginsCall_146 : decode cX10_beginsCall 146 = .ok (.iconst 4, 1) := by decide +kernel
theorem dX10_beginsCall_147 : decode cX10_beginsCall 147 = .ok (.iadd, 1) := by decide +kernel
theorem dX10_beginsCall_148 : decode cX10_beginsCall 148 = .ok (.iload_n 2, 1) := by decide +kernel
theorem dX10_beginsCall_149 : decode cX10_beginsCall 149 = .ok (.iastore, 1) := by decide +kernel
theorem dX10_beginsCall_150 : decode cX10_beginsCall 150 = .ok (.aload_n 0, 1) := by decide +kernel
theorem dX10_beginsCall_151 : decode cX10_beginsCall 151 = .ok (.getfield 26, 3) := by decide +kernel
theorem dX10_beginsCall_154 : decode cX10_beginsCall 154 = .ok (.iload 4, 2) := by decide +kernel
theorem dX10_beginsCall_156 : decode cX10_beginsCall 156 = .ok (.iconst 5, 1) := by decide +kernel
theorem dX10_beginsCall_157 : decode cX10_beginsCall 157 = .ok (.iadd, 1) := by decide +kernel
theorem dX10_beginsCall_158 : decode cX10_beginsCall 158 = .ok (.bipush (-2), 2) := by decide +kernel
theorem dX10_beginsCall_160 : decode cX10_beginsCall 160 = .ok (.iastore, 1) := by decide +kernel
theorem dX10_beginsCall_161 : decode cX10_beginsCall 161 = .ok (.aload_n 0, 1) := by decide +kernel
theorem dX10_beginsCall_162 : decode cX10_beginsCall 162 = .ok (.getfield 26, 3) := by decide +kernel
theorem dX10_beginsCall_165 : decode cX10_beginsCall 165 = .ok (.iload 4, 2) := by decide +kernel
theorem dX10_beginsCall_167 : decode cX10_beginsCall 167 = .ok (.bipush 6, 2) := by decide +kernel
theorem dX10_beginsCall_169 : decode cX10_beginsCall 169 = .ok (.iadd, 1) := by decide +kernel
theorem dX10_beginsCall_170 : decode cX10_beginsCall 170 = .ok (.bipush (-2), 2) := by decide +kernel
theorem dX10_beginsCall_172 : decode cX10_beginsCall 172 = .ok (.iastore, 1) := by decide +kernel
theorem dX10_beginsCall_173 : decode cX10_beginsCall 173 = .ok (.aload_n 0, 1) := by decide +kernel
theorem dX10_beginsCall_174 : decode cX10_beginsCall 174 = .ok (.getfield 26, 3) := by decide +kernel
theorem dX10_beginsCall_177 : decode cX10_beginsCall 177 = .ok (.sipush 141, 3) := by decide +kernel
theorem dX10_beginsCall_180 : decode cX10_beginsCall 180 = .ok (.dup2, 1) := by decide +kernel
theorem dX10_beginsCall_181 : decode cX10_beginsCall 181 = .ok (.iaload, 1) := by decide +kernel
theorem dX10_beginsCall_182 : decode cX10_beginsCall 182 = .ok (.iconst 1, 1) := by decide +kernel
theorem dX10_beginsCall_183 : decode cX10_beginsCall 183 = .ok (.iadd, 1) := by decide +kernel
theorem dX10_beginsCall_184 : decode cX10_beginsCall 184 = .ok (.iastore, 1) := by decide +kernel
theorem dX10_beginsCall_185 : decode cX10_beginsCall 185 = .ok (.aload_n 0, 1) := by decide +kernel
theorem dX10_beginsCall_186 : decode cX10_beginsCall 186 = .ok (.getfield 85, 3) := by decide +kernel
theorem dX10_beginsCall_189 : decode cX10_beginsCall 189 = .ok (.iload_n 1, 1) := by decide +kernel
theorem dX10_beginsCall_190 : decode cX10_beginsCall 190 = .ok (.iload_n 3, 1) := by decide +kernel
theorem dX10_beginsCall_191 : decode cX10_beginsCall 191 = .ok (.iastore, 1) := by decide +kernel
theorem dX10_beginsCall_192 : decode cX10_beginsCall 192 = .ok (.aload_n 0, 1) := by decide +kernel
theorem dX10_beginsCall_193 : decode cX10_beginsCall 193 = .ok (.getfield 88, 3) := by decide +kernel
theorem dX10_beginsCall_196 : decode cX10_beginsCall 196 = .ok (.iload_n 1, 1) := by decide +kernel
theorem dX10_beginsCall_197 : decode cX10_beginsCall 197 = .ok (.iconst 0, 1) := by decide +kernel
theorem dX10_beginsCall_198 : decode cX10_beginsCall 198 = .ok (.bastore, 1) := by decide +kernel
theorem dX10_beginsCall_199 : decode cX10_beginsCall 199 = .ok (.return_, 1) := by decide +kernel
theorem dX10_makes_0 : decode cX10_makes 0 = .ok (.aload_n 0, 1) := by decide +kernel
theorem dX10_makes_1 : decode cX10_makes 1 = .ok (.getfield 26, 3) := by decide +kernel
theorem dX10_makes_4 : decode cX10_makes 4 = .ok (.sipush 140, 3) := by decide +kernel
theorem dX10_makes_7 : decode cX10_makes 7 = .ok (.iaload, 1) := by decide +kernel
theorem dX10_makes_8 : decode cX10_makes 8 = .ok (.istore_n 3, 1) := by decide +kernel
theorem dX10_makes_9 : decode cX10_makes 9 = .ok (.iconst 0, 1) := by decide +kernel
theorem dX10_makes_10 : decode cX10_makes 10 = .ok (.istore 4, 2) := by decide +kernel
theorem dX10_makes_12 : decode cX10_makes 12 = .ok (.iload 4, 2) := by decide +kernel
theorem dX10_makes_14 : decode cX10_makes 14 = .ok (.sipush 142, 3) := by decide +kernel
theorem dX10_makes_17 : decode cX10_makes 17 = .ok (.if_icmp .ge 17, 3) := by decide +kernel
theorem dX10_makes_20 : decode cX10_makes 20 = .ok (.aload_n 0, 1) := by decide +kernel
theorem dX10_makes_21 : decode cX10_makes 21 = .ok (.getfield 26, 3) := by decide +kernel
theorem dX10_makes_24 : decode cX10_makes 24 = .ok (.iload 4, 2) := by decide +kernel
theorem dX10_makes_26 : decode cX10_makes 26 = .ok (.iconst 0, 1) := by decide +kernel
theorem dX10_makes_27 : decode cX10_makes 27 = .ok (.iastore, 1) := by decide +kernel
theorem dX10_makes_28 : decode cX10_makes 28 = .ok (.iinc 4 1, 3) := by decide +kernel
theorem dX10_makes_31 : decode cX10_makes 31 = .ok (.goto (-19), 3) := by decide +kernel
theorem dX10_makes_34 : decode cX10_makes 34 = .ok (.aload_n 0, 1) := by decide +kernel
theorem dX10_makes_35 : decode cX10_makes 35 = .ok (.getfield 26, 3) := by decide +kernel
theorem dX10_makes_38 : decode cX10_makes 38 = .ok (.sipush 140, 3) := by decide +kernel
theorem dX10_makes_41 : decode cX10_makes 41 = .ok (.iload_n 3, 1) := by decide +kernel
theorem dX10_makes_42 : decode cX10_makes 42 = .ok (.iastore, 1) := by decide +kernel
theorem dX10_makes_43 : decode cX10_makes 43 = .ok (.iconst 0, 1) := by decide +kernel
theorem dX10_makes_44 : decode cX10_makes 44 = .ok (.istore 4, 2) := by decide +kernel
theorem dX10_makes_46 : decode cX10_makes 46 = .ok (.iload 4, 2) := by decide +kernel
theorem dX10_makes_48 : decode cX10_makes 48 = .ok (.bipush 15, 2) := by decide +kernel
theorem dX10_makes_50 : decode cX10_makes 50 = .ok (.if_icmp .ge 47, 3) := by decide +kernel
theorem dX10_makes_53 : decode cX10_makes 53 = .ok (.aload_n 0, 1) := by decide +kernel
theorem dX10_makes_54 : decode cX10_makes 54 = .ok (.getfield 82, 3) := by decide +kernel
theorem dX10_makes_57 : decode cX10_makes 57 = .ok (.iload 4, 2) := by decide +kernel
theorem dX10_makes_59 : decode cX10_makes 59 = .ok (.iload 4, 2) := by decide +kernel
theorem dX10_makes_61 : decode cX10_makes 61 = .ok (.iconst 3, 1) := by decide +kernel
theorem dX10_makes_62 : decode cX10_makes 62 = .ok (.irem, 1) := by decide +kernel
theorem dX10_makes_63 : decode cX10_makes 63 = .ok (.aload_n 0, 1) := by decide +kernel
theorem dX10_makes_64 : decode cX10_makes 64 = .ok (.getfield 20, 3) := by decide +kernel
theorem dX10_makes_67 : decode cX10_makes 67 = .ok (.iconst 2, 1) := by decide +kernel
theorem dX10_makes_68 : decode cX10_makes 68 = .ok (.iaload, 1) := by decide +kernel
theorem dX10_makes_69 : decode cX10_makes 69 = .ok (.if_icmp .ge 20, 3) := by decide +kernel
theorem dX10_makes_72 : decode cX10_makes 72 = .ok (.aload_n 0, 1) := by decide +kernel
theorem dX10_makes_73 : decode cX10_makes 73 = .ok (.getfield 20, 3) := by decide +kernel
theorem dX10_makes_76 : decode cX10_makes 76 = .ok (.iconst 3, 1) := by decide +kernel
theorem dX10_makes_77 : decode cX10_makes 77 = .ok (.iload 4, 2) := by decide +kernel
theorem dX10_makes_79 : decode cX10_makes 79 = .ok (.iconst 3, 1) := by decide +kernel
theorem dX10_makes_80 : decode cX10_makes 80 = .ok (.irem, 1) := by decide +kernel
theorem dX10_makes_81 : decode cX10_makes 81 = .ok (.iadd, 1) := by decide +kernel
theorem dX10_makes_82 : decode cX10_makes 82 = .ok (.iaload, 1) := by decide +kernel
theorem dX10_makes_83 : decode cX10_makes 83 = .ok (.invokestatic 323, 3) := by decide +kernel
theorem dX10_makes_86 : decode cX10_makes 86 = .ok (.goto 4, 3) := by decide +kernel
theorem dX10_makes_89 : decode cX10_makes 89 = .ok (.lconst 0, 1) := by decide +kernel
theorem dX10_makes_90 : decode cX10_makes 90 = .ok (.lastore, 1) := by decide +kernel
theorem dX10_makes_91 : decode cX10_makes 91 = .ok (.iinc 4 1, 3) := by decide +kernel
theorem dX10_makes_94 : decode cX10_makes 94 = .ok (.goto (-48), 3) := by decide +kernel
theorem dX10_makes_97 : decode cX10_makes 97 = .ok (.iconst 0, 1) := by decide +kernel
theorem dX10_makes_98 : decode cX10_makes 98 = .ok (.istore 4, 2) := by decide +kernel
theorem dX10_makes_100 : decode cX10_makes 100 = .ok (.iload 4, 2) := by decide +kernel
theorem dX10_makes_102 : decode cX10_makes 102 = .ok (.iconst 4, 1) := by decide +kernel
theorem dX10_makes_103 : decode cX10_makes 103 = .ok (.if_icmp .ge 17, 3) := by decide +kernel
theorem dX10_makes_106 : decode cX10_makes 106 = .ok (.aload_n 0, 1) := by decide +kernel
theorem dX10_makes_107 : decode cX10_makes 107 = .ok (.getfield 85, 3) := by decide +kernel
theorem dX10_makes_110 : decode cX10_makes 110 = .ok (.iload 4, 2) := by decide +kernel
theorem dX10_makes_112 : decode cX10_makes 112 = .ok (.iconst (-1), 1) := by decide +kernel
theorem dX10_makes_113 : decode cX10_makes 113 = .ok (.iastore, 1) := by decide +kernel
theorem dX10_makes_114 : decode cX10_makes 114 = .ok (.iinc 4 1, 3) := by decide +kernel
theorem dX10_makes_117 : decode cX10_makes 117 = .ok (.goto (-17), 3) := by decide +kernel
theorem dX10_makes_120 : decode cX10_makes 120 = .ok (.iconst 0, 1) := by decide +kernel
theorem dX10_makes_121 : decode cX10_makes 121 = .ok (.istore 4, 2) := by decide +kernel
theorem dX10_makes_123 : decode cX10_makes 123 = .ok (.iconst 0, 1) := by decide +kernel
theorem dX10_makes_124 : decode cX10_makes 124 = .ok (.istore 5, 2) := by decide +kernel
theorem dX10_makes_126 : decode cX10_makes 126 = .ok (.iconst 1, 1) := by decide +kernel
theorem dX10_makes_127 : decode cX10_makes 127 = .ok (.istore 6, 2) := by decide +kernel
theorem dX10_makes_129 : decode cX10_makes 129 = .ok (.iload 6, 2) := by decide +kernel
theorem dX10_makes_131 : decode cX10_makes 131 = .ok (.sipush 999, 3) := by decide +kernel
theorem dX10_makes_134 : decode cX10_makes 134 = .ok (.if_icmp .gt 137, 3) := by decide +kernel
theorem dX10_makes_137 : decode cX10_makes 137 = .ok (.iload 4, 2) := by decide +kernel
theorem dX10_makes_139 : decode cX10_makes 139 = .ok (.iload_n 2, 1) := by decide +kernel
theorem dX10_makes_140 : decode cX10_makes 140 = .ok (.if_icmp .ge 131, 3) := by decide +kernel
theorem dX10_makes_143 : decode cX10_makes 143 = .ok (.aload_n 0, 1) := by decide +kernel
theorem dX10_makes_144 : decode cX10_makes 144 = .ok (.aload_n 0, 1) := by decide +kernel
theorem dX10_makes_145 : decode cX10_makes 145 = .ok (.getfield 20, 3) := by decide +kernel
theorem dX10_makes_148 : decode cX10_makes 148 = .ok (.bipush 6, 2) := by decide +kernel
theorem dX10_makes_150 : decode cX10_makes 150 = .ok (.iaload, 1) := by decide +kernel
theorem dX10_makes_151 : decode cX10_makes 151 = .ok (.invokevirtual 407, 3) := by decide +kernel
theorem dX10_makes_154 : decode cX10_makes 154 = .ok (.istore 7, 2) := by decide +kernel
theorem dX10_makes_156 : decode cX10_makes 156 = .ok (.aload_n 0, 1) := by decide +kernel
theorem dX10_makes_157 : decode cX10_makes 157 = .ok (.getfield 85, 3) := by decide +kernel
theorem dX10_makes_160 : decode cX10_makes 160 = .ok (.iload 7, 2) := by decide +kernel
theorem dX10_makes_162 : decode cX10_makes 162 = .ok (.iaload, 1) := by decide +kernel
theorem dX10_makes_163 : decode cX10_makes 163 = .ok (.istore 8, 2) := by decide +kernel
theorem dX10_makes_165 : decode cX10_makes 165 = .ok (.iload 8, 2) := by decide +kernel
theorem dX10_makes_167 : decode cX10_makes 167 = .ok (.ifCond .ge 26, 3) := by decide +kernel
theorem dX10_makes_170 : decode cX10_makes 170 = .ok (.aload_n 0, 1) := by decide +kernel
theorem dX10_makes_171 : decode cX10_makes 171 = .ok (.getfield 26, 3) := by decide +kernel
theorem dX10_makes_174 : decode cX10_makes 174 = .ok (.sipush 141, 3) := by decide +kernel
theorem dX10_makes_177 : decode cX10_makes 177 = .ok (.iaload, 1) := by decide +kernel
theorem dX10_makes_178 : decode cX10_makes 178 = .ok (.iload_n 2, 1) := by decide +kernel
theorem dX10_makes_179 : decode cX10_makes 179 = .ok (.if_icmp .ge 86, 3) := by decide +kernel
theorem dX10_makes_182 : decode cX10_makes 182 = .ok (.aload_n 0, 1) := by decide +kernel
theorem dX10_makes_183 : decode cX10_makes 183 = .ok (.iload 7, 2) := by decide +kernel
theorem dX10_makes_185 : decode cX10_makes 185 = .ok (.iload 6, 2) := by decide +kernel
theorem dX10_makes_187 : decode cX10_makes 187 = .ok (.invokevirtual 410, 3) := by decide +kernel
theorem dX10_makes_190 : decode cX10_makes 190 = .ok (.goto 75, 3) := by decide +kernel
theorem dX10_makes_193 : decode cX10_makes 193 = .ok (.aload_n 0, 1) := by decide +kernel
theorem dX10_makes_194 : decode cX10_makes 194 = .ok (.getfield 88, 3) := by decide +kernel
theorem dX10_makes_197 : decode cX10_makes 197 = .ok (.iload 7, 2) := by decide +kernel
theorem dX10_makes_199 : decode cX10_makes 199 = .ok (.baload, 1) := by decide +kernel
theorem dX10_makes_200 : decode cX10_makes 200 = .ok (.ifCond .ne 36, 3) := by decide +kernel
theorem dX10_makes_203 : decode cX10_makes 203 = .ok (.aload_n 0, 1) := by decide +kernel
theorem dX10_makes_204 : decode cX10_makes 204 = .ok (.getfield 26, 3) := by decide +kernel
theorem dX10_makes_207 : decode cX10_makes 207 = .ok (.bipush 7, 2) := by decide +kernel
theorem dX10_makes_209 : decode cX10_makes 209 = .ok (.iload 8, 2) := by decide +kernel
theorem dX10_makes_211 : decode cX10_makes 211 = .ok (.imul, 1) := by decide +kernel
theorem dX10_makes_212 : decode cX10_makes 212 = .ok (.bipush 6, 2) := by decide +kernel
theorem dX10_makes_214 : decode cX10_makes 214 = .ok (.iadd, 1) := by decide +kernel
theorem dX10_makes_215 : decode cX10_makes 215 = .ok (.aload_n 0, 1) := by decide +kernel
theorem dX10_makes_216 : decode cX10_makes 216 = .ok (.iload_n 1, 1) := by decide +kernel
theorem dX10_makes_217 : decode cX10_makes 217 = .ok (.iload 7, 2) := by decide +kernel
theorem dX10_makes_219 : decode cX10_makes 219 = .ok (.iload 8, 2) := by decide +kernel
theorem dX10_makes_221 : decode cX10_makes 221 = .ok (.invokevirtual 413, 3) := by decide +kernel
theorem dX10_makes_224 : decode cX10_makes 224 = .ok (.iastore, 1) := by decide +kernel
theorem dX10_makes_225 : decode cX10_makes 225 = .ok (.aload_n 0, 1) := by decide +kernel
theorem dX10_makes_226 : decode cX10_makes 226 = .ok (.getfield 88, 3) := by decide +kernel
theorem dX10_makes_229 : decode cX10_makes 229 = .ok (.iload 7, 2) := by decide +kernel
theorem dX10_makes_231 : decode cX10_makes 231 = .ok (.iconst 1, 1) := by decide +kernel
theorem dX10_makes_232 : decode cX10_makes 232 = .ok (.bastore, 1) := by decide +kernel
theorem dX10_makes_233 : decode cX10_makes 233 = .ok (.goto 32, 3) := by decide +kernel
theorem dX10_makes_236 : decode cX10_makes 236 = .ok (.aload_n 0, 1) := by decide +kernel
theorem dX10_makes_237 : decode cX10_makes 237 = .ok (.getfield 26, 3) := by decide +kernel
theorem dX10_makes_240 : decode cX10_makes 240 = .ok (.bipush 7, 2) := by decide +kernel
theorem dX10_makes_242 : decode cX10_makes 242 = .ok (.iload 8, 2) := by decide +kernel
theorem dX10_makes_244 : decode cX10_makes 244 = .ok (.imul, 1) := by decide +kernel
theorem dX10_makes_245 : decode cX10_makes 245 = .ok (.iconst 5, 1) := by decide +kernel
theorem dX10_makes_246 : decode cX10_makes 246 = .ok (.iadd, 1) := by decide +kernel
theorem dX10_makes_247 : decode cX10_makes 247 = .ok (.iload 6, 2) := by decide +kernel
theorem dX10_makes_249 : decode cX10_makes 249 = .ok (.iastore, 1) := by decide +kernel
theorem dX10_makes_250 : decode cX10_makes 250 = .ok (.aload_n 0, 1) := by decide +kernel
theorem dX10_makes_251 : decode cX10_makes 251 = .ok (.getfield 85, 3) := by decide +kernel
theorem dX10_makes_254 : decode cX10_makes 254 = .ok (.iload 7, 2) := by decide +kernel
theorem dX10_makes_256 : decode cX10_makes 256 = .ok (.iconst (-1), 1) := by decide +kernel
theorem dX10_makes_257 : decode cX10_makes 257 = .ok (.iastore, 1) := by decide +kernel
theorem dX10_makes_258 : decode cX10_makes 258 = .ok (.iinc 4 1, 3) := by decide +kernel
theorem dX10_makes_261 : decode cX10_makes 261 = .ok (.iload 6, 2) := by decide +kernel
theorem dX10_makes_263 : decode cX10_makes 263 = .ok (.istore 5, 2) := by decide +kernel
theorem dX10_makes_265 : decode cX10_makes 265 = .ok (.iinc 6 1, 3) := by decide +kernel
theorem dX10_makes_268 : decode cX10_makes 268 = .ok (.goto (-139), 3) := by decide +kernel
theorem dX10_makes_271 : decode cX10_makes 271 = .ok (.iconst 0, 1) := by decide +kernel
theorem dX10_makes_272 : decode cX10_makes 272 = .ok (.istore 6, 2) := by decide +kernel
theorem dX10_makes_274 : decode cX10_makes 274 = .ok (.iload 6, 2) := by decide +kernel
theorem dX10_makes_276 : decode cX10_makes 276 = .ok (.aload_n 0, 1) := by decide +kernel
theorem dX10_makes_277 : decode cX10_makes 277 = .ok (.getfield 26, 3) := by decide +kernel
theorem dX10_makes_280 : decode cX10_makes 280 = .ok (.sipush 141, 3) := by decide +kernel
theorem dX10_makes_283 : decode cX10_makes 283 = .ok (.iaload, 1) := by decide +kernel
theorem dX10_makes_284 : decode cX10_makes 284 = .ok (.if_icmp .ge 41, 3) := by decide +kernel
theorem dX10_makes_287 : decode cX10_makes 287 = .ok (.aload_n 0, 1) := by decide +kernel
theorem dX10_makes_288 : decode cX10_makes 288 = .ok (.getfield 26, 3) := by decide +kernel
theorem dX10_makes_291 : decode cX10_makes 291 = .ok (.bipush 7, 2) := by decide +kernel
theorem dX10_makes_293 : decode cX10_makes 293 = .ok (.iload 6, 2) := by decide +kernel
theorem dX10_makes_295 : decode cX10_makes 295 = .ok (.imul, 1) := by decide +kernel
theorem dX10_makes_296 : decode cX10_makes 296 = .ok (.iconst 5, 1) := by decide +kernel
theorem dX10_makes_297 : decode cX10_makes 297 = .ok (.iadd, 1) := by decide +kernel
theorem dX10_makes_298 : decode cX10_makes 298 = .ok (.iaload, 1) := by decide +kernel
theorem dX10_makes_299 : decode cX10_makes 299 = .ok (.bipush (-2), 2) := by decide +kernel
theorem dX10_makes_301 : decode cX10_makes 301 = .ok (.if_icmp .ne 18, 3) := by decide +kernel
theorem dX10_makes_304 : decode cX10_makes 304 = .ok (.aload_n 0, 1) := by decide +kernel
theorem dX10_makes_305 : decode cX10_makes 305 = .ok (.getfield 26, 3) := by decide +kernel
theorem dX10_makes_308 : decode cX10_makes 308 = .ok (.bipush 7, 2) := by decide +kernel
theorem dX10_makes_310 : decode cX10_makes 310 = .ok (.iload 6, 2) := by decide +kernel
theorem dX10_makes_312 : decode cX10_makes 312 = .ok (.imul, 1) := by decide +kernel
theorem dX10_makes_313 : decode cX10_makes 313 = .ok (.bipush 6, 2) := by decide +kernel
theorem dX10_makes_315 : decode cX10_makes 315 = .ok (.iadd, 1) := by decide +kernel
theorem dX10_makes_316 : decode cX10_makes 316 = .ok (.bipush (-2), 2) := by decide +kernel
theorem dX10_makes_318 : decode cX10_makes 318 = .ok (.iastore, 1) := by decide +kernel
theorem dX10_makes_319 : decode cX10_makes 319 = .ok (.iinc 6 1, 3) := by decide +kernel
theorem dX10_makes_322 : decode cX10_makes 322 = .ok (.goto (-48), 3) := by decide +kernel
theorem dX10_makes_325 : decode cX10_makes 325 = .ok (.iload 4, 2) := by decide +kernel
theorem dX10_makes_327 : decode cX10_makes 327 = .ok (.iload_n 2, 1) := by decide +kernel
theorem dX10_makes_328 : decode cX10_makes 328 = .ok (.if_icmp .ge 9, 3) := by decide +kernel
theorem dX10_makes_331 : decode cX10_makes 331 = .ok (.sipush 999, 3) := by decide +kernel
theorem dX10_makes_334 : decode cX10_makes 334 = .ok (.goto 5, 3) := by decide +kernel
theorem dX10_makes_337 : decode cX10_makes 337 = .ok (.iload 5, 2) := by decide +kernel
theorem dX10_makes_339 : decode cX10_makes 339 = .ok (.ireturn, 1) := by decide +kernel
theorem dX10_make_0 : decode cX10_make 0 = .ok (.aload_n 0, 1) := by decide +kernel
theorem dX10_make_1 : decode cX10_make 1 = .ok (.invokevirtual 180, 3) := by decide +kernel
theorem dX10_make_4 : decode cX10_make 4 = .ok (.aload_n 0, 1) := by decide +kernel
theorem dX10_make_5 : decode cX10_make 5 = .ok (.getfield 193, 3) := by decide +kernel
theorem dX10_make_8 : decode cX10_make 8 = .ok (.ifCond .eq 12, 3) := by decide +kernel
theorem dX10_make_11 : decode cX10_make 11 = .ok (.iload_n 1, 1) := by decide +kernel
theorem dX10_make_12 : decode cX10_make 12 = .ok (.iconst 0, 1) := by decide +kernel
theorem dX10_make_13 : decode cX10_make 13 = .ok (.iconst 2, 1) := by decide +kernel
theorem dX10_make_14 : decode cX10_make 14 = .ok (.invokestatic 176, 3) := by decide +kernel
theorem dX10_make_17 : decode cX10_make 17 = .ok (.ifCond .ne 9, 3) := by decide +kernel
theorem dX10_make_20 : decode cX10_make 20 = .ok (.aload_n 0, 1) := by decide +kernel
theorem dX10_make_21 : decode cX10_make 21 = .ok (.iconst 1, 1) := by decide +kernel
theorem dX10_make_22 : decode cX10_make 22 = .ok (.invokevirtual 183, 3) := by decide +kernel
theorem dX10_make_25 : decode cX10_make 25 = .ok (.ireturn, 1) := by decide +kernel
theorem dX10_make_26 : decode cX10_make 26 = .ok (.iload_n 2, 1) := by decide +kernel
theorem dX10_make_27 : decode cX10_make 27 = .ok (.iconst 1, 1) := by decide +kernel
theorem dX10_make_28 : decode cX10_make 28 = .ok (.bipush 20, 2) := by decide +kernel
theorem dX10_make_30 : decode cX10_make 30 = .ok (.invokestatic 176, 3) := by decide +kernel
theorem dX10_make_33 : decode cX10_make 33 = .ok (.ifCond .ne 9, 3) := by decide +kernel
theorem dX10_make_36 : decode cX10_make 36 = .ok (.aload_n 0, 1) := by decide +kernel
theorem dX10_make_37 : decode cX10_make 37 = .ok (.iconst 2, 1) := by decide +kernel
theorem dX10_make_38 : decode cX10_make 38 = .ok (.invokevirtual 183, 3) := by decide +kernel
theorem dX10_make_41 : decode cX10_make 41 = .ok (.ireturn, 1) := by decide +kernel
theorem dX10_make_42 : decode cX10_make 42 = .ok (.aload_n 0, 1) := by decide +kernel
theorem dX10_make_43 : decode cX10_make 43 = .ok (.iload_n 1, 1) := by decide +kernel
theorem dX10_make_44 : decode cX10_make 44 = .ok (.iload_n 2, 1) := by decide +kernel
theorem dX10_make_45 : decode cX10_make 45 = .ok (.invokevirtual 417, 3) := by decide +kernel
theorem dX10_make_48 : decode cX10_make 48 = .ok (.ireturn, 1) := by decide +kernel
theorem dX10_breaks_0 : decode cX10_breaks 0 = .ok (.aload_n 0, 1) := by decide +kernel
theorem dX10_breaks_1 : decode cX10_breaks 1 = .ok (.invokevirtual 180, 3) := by decide +kernel
theorem dX10_breaks_4 : decode cX10_breaks 4 = .ok (.aload_n 0, 1) := by decide +kernel
theorem dX10_breaks_5 : decode cX10_breaks 5 = .ok (.iload_n 1, 1) := by decide +kernel
theorem dX10_breaks_6 : decode cX10_breaks 6 = .ok (.iconst 3, 1) := by decide +kernel
theorem dX10_breaks_7 : decode cX10_breaks 7 = .ok (.invokevirtual 352, 3) := by decide +kernel
theorem dX10_breaks_10 : decode cX10_breaks 10 = .ok (.ifCond .eq 12, 3) := by decide +kernel
theorem dX10_breaks_13 : decode cX10_breaks 13 = .ok (.iload_n 2, 1) := by decide +kernel
theorem dX10_breaks_14 : decode cX10_breaks 14 = .ok (.iconst 0, 1) := by decide +kernel
theorem dX10_breaks_15 : decode cX10_breaks 15 = .ok (.iconst 2, 1) := by decide +kernel
theorem dX10_breaks_16 : decode cX10_breaks 16 = .ok (.invokestatic 176, 3) := by decide +kernel
theorem dX10_breaks_19 : decode cX10_breaks 19 = .ok (.ifCond .ne 9, 3) := by decide +kernel
theorem dX10_breaks_22 : decode cX10_breaks 22 = .ok (.aload_n 0, 1) := by decide +kernel
theorem dX10_breaks_23 : decode cX10_breaks 23 = .ok (.iconst 1, 1) := by decide +kernel
theorem dX10_breaks_24 : decode cX10_breaks 24 = .ok (.invokevirtual 183, 3) := by decide +kernel
theorem dX10_breaks_27 : decode cX10_breaks 27 = .ok (.ireturn, 1) := by decide +kernel
theorem dX10_breaks_28 : decode cX10_breaks 28 = .ok (.iload_n 3, 1) := by decide +kernel
theorem dX10_breaks_29 : decode cX10_breaks 29 = .ok (.iconst 1, 1) := by decide +kernel
theorem dX10_breaks_30 : decode cX10_breaks 30 = .ok (.bipush 8, 2) := by decide +kernel
theorem dX10_breaks_32 : decode cX10_breaks 32 = .ok (.invokestatic 176, 3) := by decide +kernel
theorem dX10_breaks_35 : decode cX10_breaks 35 = .ok (.ifCond .ne 9, 3) := by decide +kernel
theorem dX10_breaks_38 : decode cX10_breaks 38 = .ok (.aload_n 0, 1) := by decide +kernel
theorem dX10_breaks_39 : decode cX10_breaks 39 = .ok (.iconst 2, 1) := by decide +kernel
theorem dX10_breaks_40 : decode cX10_breaks 40 = .ok (.invokevirtual 183, 3) := by decide +kernel
theorem dX10_breaks_43 : decode cX10_breaks 43 = .ok (.ireturn, 1) := by decide +kernel
theorem dX10_breaks_44 : decode cX10_breaks 44 = .ok (.aload_n 0, 1) := by decide +kernel
theorem dX10_breaks_45 : decode cX10_breaks 45 = .ok (.getfield 26, 3) := by decide +kernel
theorem dX10_breaks_48 : decode cX10_breaks 48 = .ok (.iconst 0, 1) := by decide +kernel
theorem dX10_breaks_49 : decode cX10_breaks 49 = .ok (.aload_n 0, 1) := by decide +kernel
theorem dX10_breaks_50 : decode cX10_breaks 50 = .ok (.getfield 35, 3) := by decide +kernel
theorem dX10_breaks_53 : decode cX10_breaks 53 = .ok (.iconst 0, 1) := by decide +kernel
theorem dX10_breaks_54 : decode cX10_breaks 54 = .ok (.sipush 142, 3) := by decide +kernel
theorem dX10_breaks_57 : decode cX10_breaks 57 = .ok (.invokestatic 189, 3) := by decide +kernel
theorem dX10_breaks_60 : decode cX10_breaks 60 = .ok (.bipush (-2), 2) := by decide +kernel
theorem dX10_breaks_62 : decode cX10_breaks 62 = .ok (.istore 4, 2) := by decide +kernel
theorem dX10_breaks_64 : decode cX10_breaks 64 = .ok (.iconst 0, 1) := by decide +kernel
theorem dX10_breaks_65 : decode cX10_breaks 65 = .ok (.istore 5, 2) := by decide +kernel
theorem dX10_breaks_67 : decode cX10_breaks 67 = .ok (.iconst 0, 1) := by decide +kernel
theorem dX10_breaks_68 : decode cX10_breaks 68 = .ok (.istore 6, 2) := by decide +kernel
theorem dX10_breaks_70 : decode cX10_breaks 70 = .ok (.iload 6, 2) := by decide +kernel
theorem dX10_breaks_72 : decode cX10_breaks 72 = .ok (.bipush 99, 2) := by decide +kernel
theorem dX10_breaks_74 : decode cX10_breaks 74 = .ok (.if_icmp .gt 69, 3) := by decide +kernel
theorem dX10_breaks_77 : decode cX10_breaks 77 = .ok (.iload 4, 2) := by decide +kernel
theorem dX10_breaks_79 : decode cX10_breaks 79 = .ok (.bipush (-2), 2) := by decide +kernel
theorem dX10_breaks_81 : decode cX10_breaks 81 = .ok (.if_icmp .ne 62, 3) := by decide +kernel
theorem dX10_breaks_84 : decode cX10_breaks 84 = .ok (.iload 5, 2) := by decide +kernel
theorem dX10_breaks_86 : decode cX10_breaks 86 = .ok (.ifCond .ne 57, 3) := by decide +kernel
theorem dX10_breaks_89 : decode cX10_breaks 89 = .ok (.aload_n 0, 1) := by decide +kernel
theorem dX10_breaks_90 : decode cX10_breaks 90 = .ok (.getfield 26, 3) := by decide +kernel
theorem dX10_breaks_93 : decode cX10_breaks 93 = .ok (.sipush 140, 3) := by decide +kernel
theorem dX10_breaks_96 : decode cX10_breaks 96 = .ok (.iload 6, 2) := by decide +kernel
theorem dX10_breaks_98 : decode cX10_breaks 98 = .ok (.iastore, 1) := by decide +kernel
theorem dX10_breaks_99 : decode cX10_breaks 99 = .ok (.aload_n 0, 1) := by decide +kernel
theorem dX10_breaks_100 : decode cX10_breaks 100 = .ok (.iload_n 2, 1) := by decide +kernel
theorem dX10_breaks_101 : decode cX10_breaks 101 = .ok (.iload_n 3, 1) := by decide +kernel
theorem dX10_breaks_102 : decode cX10_breaks 102 = .ok (.invokevirtual 417, 3) := by decide +kernel
theorem dX10_breaks_105 : decode cX10_breaks 105 = .ok (.istore 7, 2) := by decide +kernel
theorem dX10_breaks_107 : decode cX10_breaks 107 = .ok (.iload 7, 2) := by decide +kernel
theorem dX10_breaks_109 : decode cX10_breaks 109 = .ok (.ifCond .lt 11, 3) := by decide +kernel
theorem dX10_breaks_112 : decode cX10_breaks 112 = .ok (.aload_n 0, 1) := by decide +kernel
theorem dX10_breaks_113 : decode cX10_breaks 113 = .ok (.iload_n 1, 1) := by decide +kernel
theorem dX10_breaks_114 : decode cX10_breaks 114 = .ok (.invokevirtual 355, 3) := by decide +kernel
theorem dX10_breaks_117 : decode cX10_breaks 117 = .ok (.ifCond .ne 9, 3) := by decide +kernel
theorem dX10_breaks_120 : decode cX10_breaks 120 = .ok (.iconst 3, 1) := by decide +kernel
theorem dX10_breaks_121 : decode cX10_breaks 121 = .ok (.istore 5, 2) := by decide +kernel
theorem dX10_breaks_123 : decode cX10_breaks 123 = .ok (.goto 14, 3) := by decide +kernel
theorem dX10_breaks_126 : decode cX10_breaks 126 = .ok (.aload_n 0, 1) := by decide +kernel
theorem dX10_breaks_127 : decode cX10_breaks 127 = .ok (.getfield 349, 3) := by decide +kernel
theorem dX10_breaks_130 : decode cX10_breaks 130 = .ok (.ifCond .ne 7, 3) := by decide +kernel
theorem dX10_breaks_133 : decode cX10_breaks 133 = .ok (.iload 6, 2) := by decide +kernel
theorem dX10_breaks_135 : decode cX10_breaks 135 = .ok (.istore 4, 2) := by decide +kernel
theorem dX10_breaks_137 : decode cX10_breaks 137 = .ok (.iinc 6 1, 3) := by decide +kernel
theorem dX10_breaks_140 : decode cX10_breaks 140 = .ok (.goto (-70), 3) := by decide +kernel
theorem dX10_breaks_143 : decode cX10_breaks 143 = .ok (.aload_n 0, 1) := by decide +kernel
theorem dX10_breaks_144 : decode cX10_breaks 144 = .ok (.getfield 35, 3) := by decide +kernel
theorem dX10_breaks_147 : decode cX10_breaks 147 = .ok (.iconst 0, 1) := by decide +kernel
theorem dX10_breaks_148 : decode cX10_breaks 148 = .ok (.aload_n 0, 1) := by decide +kernel
theorem dX10_breaks_149 : decode cX10_breaks 149 = .ok (.getfield 26, 3) := by decide +kernel
theorem dX10_breaks_152 : decode cX10_breaks 152 = .ok (.iconst 0, 1) := by decide +kernel
theorem dX10_breaks_153 : decode cX10_breaks 153 = .ok (.sipush 142, 3) := by decide +kernel
theorem dX10_breaks_156 : decode cX10_breaks 156 = .ok (.invokestatic 189, 3) := by decide +kernel
theorem dX10_breaks_159 : decode cX10_breaks 159 = .ok (.iload 5, 2) := by decide +kernel
theorem dX10_breaks_161 : decode cX10_breaks 161 = .ok (.ifCond .eq 12, 3) := by decide +kernel
theorem dX10_breaks_164 : decode cX10_breaks 164 = .ok (.aload_n 0, 1) := by decide +kernel
theorem dX10_breaks_165 : decode cX10_breaks 165 = .ok (.iload 5, 2) := by decide +kernel
theorem dX10_breaks_167 : decode cX10_breaks 167 = .ok (.invokevirtual 183, 3) := by decide +kernel
theorem dX10_breaks_170 : decode cX10_breaks 170 = .ok (.goto 5, 3) := by decide +kernel
theorem dX10_breaks_173 : decode cX10_breaks 173 = .ok (.iload 4, 2) := by decide +kernel
theorem dX10_breaks_175 : decode cX10_breaks 175 = .ok (.ireturn, 1) := by decide +kernel
theorem dX10_answer_0 : decode cX10_answer 0 = .ok (.aload_n 0, 1) := by decide +kernel
theorem dX10_answer_1 : decode cX10_answer 1 = .ok (.invokevirtual 180, 3) := by decide +kernel
theorem dX10_answer_4 : decode cX10_answer 4 = .ok (.aload_n 0, 1) := by decide +kernel
theorem dX10_answer_5 : decode cX10_answer 5 = .ok (.iload_n 1, 1) := by decide +kernel
theorem dX10_answer_6 : decode cX10_answer 6 = .ok (.invokevirtual 378, 3) := by decide +kernel
theorem dX10_answer_9 : decode cX10_answer 9 = .ok (.ifCond .ne 9, 3) := by decide +kernel
theorem dX10_answer_12 : decode cX10_answer 12 = .ok (.aload_n 0, 1) := by decide +kernel
theorem dX10_answer_13 : decode cX10_answer 13 = .ok (.iconst 1, 1) := by decide +kernel
theorem dX10_answer_14 : decode cX10_answer 14 = .ok (.invokevirtual 183, 3) := by decide +kernel
theorem dX10_answer_17 : decode cX10_answer 17 = .ok (.ireturn, 1) := by decide +kernel
theorem dX10_answer_18 : decode cX10_answer 18 = .ok (.iload_n 2, 1) := by decide +kernel
theorem dX10_answer_19 : decode cX10_answer 19 = .ok (.iconst 0, 1) := by decide +kernel
theorem dX10_answer_20 : decode cX10_answer 20 = .ok (.bipush 99, 2) := by decide +kernel
theorem dX10_answer_22 : decode cX10_answer 22 = .ok (.invokestatic 176, 3) := by decide +kernel
theorem dX10_answer_25 : decode cX10_answer 25 = .ok (.ifCond .ne 9, 3) := by decide +kernel
theorem dX10_answer_28 : decode cX10_answer 28 = .ok (.aload_n 0, 1) := by decide +kernel
theorem dX10_answer_29 : decode cX10_answer 29 = .ok (.iconst 2, 1) := by decide +kernel
theorem dX10_answer_30 : decode cX10_answer 30 = .ok (.invokevirtual 183, 3) := by decide +kernel
theorem dX10_answer_33 : decode cX10_answer 33 = .ok (.ireturn, 1) := by decide +kernel
theorem dX10_answer_34 : decode cX10_answer 34 = .ok (.aload_n 0, 1) := by decide +kernel
theorem dX10_answer_35 : decode cX10_answer 35 = .ok (.getfield 26, 3) := by decide +kernel
theorem dX10_answer_38 : decode cX10_answer 38 = .ok (.bipush 7, 2) := by decide +kernel
theorem dX10_answer_40 : decode cX10_answer 40 = .ok (.iload_n 1, 1) := by decide +kernel
theorem dX10_answer_41 : decode cX10_answer 41 = .ok (.imul, 1) := by decide +kernel
theorem dX10_answer_42 : decode cX10_answer 42 = .ok (.iconst 5, 1) := by decide +kernel
theorem dX10_answer_43 : decode cX10_answer 43 = .ok (.iadd, 1) := by decide +kernel
theorem dX10_answer_44 : decode cX10_answer 44 = .ok (.iaload, 1) := by decide +kernel
theorem dX10_answer_45 : decode cX10_answer 45 = .ok (.bipush (-2), 2) := by decide +kernel
theorem dX10_answer_47 : decode cX10_answer 47 = .ok (.if_icmp .ne 9, 3) := by decide +kernel
theorem dX10_answer_50 : decode cX10_answer 50 = .ok (.aload_n 0, 1) := by decide +kernel
theorem dX10_answer_51 : decode cX10_answer 51 = .ok (.iconst 5, 1) := by decide +kernel
theorem dX10_answer_52 : decode cX10_answer 52 = .ok (.invokevirtual 183, 3) := by decide +kernel
theorem dX10_answer_55 : decode cX10_answer 55 = .ok (.ireturn, 1) := by decide +kernel
theorem dX10_answer_56 : decode cX10_answer 56 = .ok (.aload_n 0, 1) := by decide +kernel
theorem dX10_answer_57 : decode cX10_answer 57 = .ok (.getfield 26, 3) := by decide +kernel
theorem dX10_answer_60 : decode cX10_answer 60 = .ok (.bipush 7, 2) := by decide +kernel
theorem dX10_answer_62 : decode cX10_answer 62 = .ok (.iload_n 1, 1) := by decide +kernel
theorem dX10_answer_63 : decode cX10_answer 63 = .ok (.imul, 1) := by decide +kernel
theorem dX10_answer_64 : decode cX10_answer 64 = .ok (.bipush 6, 2) := by decide +kernel
theorem dX10_answer_66 : decode cX10_answer 66 = .ok (.iadd, 1) := by decide +kernel
theorem dX10_answer_67 : decode cX10_answer 67 = .ok (.iaload, 1) := by decide +kernel
theorem dX10_answer_68 : decode cX10_answer 68 = .ok (.istore_n 3, 1) := by decide +kernel
theorem dX10_answer_69 : decode cX10_answer 69 = .ok (.aload_n 0, 1) := by decide +kernel
theorem dX10_answer_70 : decode cX10_answer 70 = .ok (.getfield 26, 3) := by decide +kernel
theorem dX10_answer_73 : decode cX10_answer 73 = .ok (.bipush 7, 2) := by decide +kernel
theorem dX10_answer_75 : decode cX10_answer 75 = .ok (.iload_n 1, 1) := by decide +kernel
theorem dX10_answer_76 : decode cX10_answer 76 = .ok (.imul, 1) := by decide +kernel
theorem dX10_answer_77 : decode cX10_answer 77 = .ok (.bipush 6, 2) := by decide +kernel
theorem dX10_answer_79 : decode cX10_answer 79 = .ok (.iadd, 1) := by decide +kernel
theorem dX10_answer_80 : decode cX10_answer 80 = .ok (.iload_n 2, 1) := by decide +kernel
theorem dX10_answer_81 : decode cX10_answer 81 = .ok (.iastore, 1) := by decide +kernel
theorem dX10_answer_82 : decode cX10_answer 82 = .ok (.iload_n 3, 1) := by decide +kernel
theorem dX10_answer_83 : decode cX10_answer 83 = .ok (.ireturn, 1) := by decide +kernel
theorem dX10_lose_0 : decode cX10_lose 0 = .ok (.aload_n 0, 1) := by decide +kernel
theorem dX10_lose_1 : decode cX10_lose 1 = .ok (.invokevirtual 180, 3) := by decide +kernel
theorem dX10_lose_4 : decode cX10_lose 4 = .ok (.aload_n 0, 1) := by decide +kernel
theorem dX10_lose_5 : decode cX10_lose 5 = .ok (.iload_n 1, 1) := by decide +kernel
theorem dX10_lose_6 : decode cX10_lose 6 = .ok (.invokevirtual 378, 3) := by decide +kernel
theorem dX10_lose_9 : decode cX10_lose 9 = .ok (.ifCond .ne 9, 3) := by decide +kernel
theorem dX10_lose_12 : decode cX10_lose 12 = .ok (.aload_n 0, 1) := by decide +kernel
theorem dX10_lose_13 : decode cX10_lose 13 = .ok (.iconst 1, 1) := by decide +kernel
theorem dX10_lose_14 : decode cX10_lose 14 = .ok (.invokevirtual 399, 3) := by decide +kernel
theorem dX10_lose_17 : decode cX10_lose 17 = .ok (.ireturn, 1) := by decide +kernel
theorem dX10_lose_18 : decode cX10_lose 18 = .ok (.bipush 7, 2) := by decide +kernel
theorem dX10_lose_20 : decode cX10_lose 20 = .ok (.iload_n 1, 1) := by decide +kernel
theorem dX10_lose_21 : decode cX10_lose 21 = .ok (.imul, 1) := by decide +kernel
theorem dX10_lose_22 : decode cX10_lose 22 = .ok (.istore_n 2, 1) := by decide +kernel
theorem dX10_lose_23 : decode cX10_lose 23 = .ok (.iload_n 2, 1) := by decide +kernel
theorem dX10_lose_24 : decode cX10_lose 24 = .ok (.bipush 7, 2) := by decide +kernel
theorem dX10_lose_26 : decode cX10_lose 26 = .ok (.aload_n 0, 1) := by decide +kernel
theorem dX10_lose_27 : decode cX10_lose 27 = .ok (.getfield 26, 3) := by decide +kernel
theorem dX10_lose_30 : decode cX10_lose 30 = .ok (.sipush 141, 3) := by decide +kernel
theorem dX10_lose_33 : decode cX10_lose 33 = .ok (.iaload, 1) := by decide +kernel
theorem dX10_lose_34 : decode cX10_lose 34 = .ok (.iconst 1, 1) := by decide +kernel
theorem dX10_lose_35 : decode cX10_lose 35 = .ok (.isub, 1) := by decide +kernel
theorem dX10_lose_36 : decode cX10_lose 36 = .ok (.imul, 1) := by decide +kernel
theorem dX10_lose_37 : decode cX10_lose 37 = .ok (.if_icmp .ge 24, 3) := by decide +kernel
theorem dX10_lose_40 : decode cX10_lose 40 = .ok (.aload_n 0, 1) := by decide +kernel
theorem dX10_lose_41 : decode cX10_lose 41 = .ok (.getfield 26, 3) := by decide +kernel
theorem dX10_lose_44 : decode cX10_lose 44 = .ok (.iload_n 2, 1) := by decide +kernel
theorem dX10_lose_45 : decode cX10_lose 45 = .ok (.aload_n 0, 1) := by decide +kernel
theorem dX10_lose_46 : decode cX10_lose 46 = .ok (.getfield 26, 3) := by decide +kernel
theorem dX10_lose_49 : decode cX10_lose 49 = .ok (.iload_n 2, 1) := by decide +kernel
theorem dX10_lose_50 : decode cX10_lose 50 = .ok (.bipush 7, 2) := by decide +kernel
theorem dX10_lose_52 : decode cX10_lose 52 = .ok (.iadd, 1) := by decide +kernel
theorem dX10_lose_53 : decode cX10_lose 53 = .ok (.iaload, 1) := by decide +kernel
theorem dX10_lose_54 : decode cX10_lose 54 = .ok (.iastore, 1) := by decide +kernel
theorem dX10_lose_55 : decode cX10_lose 55 = .ok (.iinc 2 1, 3) := by decide +kernel
theorem dX10_lose_58 : decode cX10_lose 58 = .ok (.goto (-35), 3) := by decide +kernel
theorem dX10_lose_61 : decode cX10_lose 61 = .ok (.aload_n 0, 1) := by decide +kernel
theorem dX10_lose_62 : decode cX10_lose 62 = .ok (.getfield 26, 3) := by decide +kernel
theorem dX10_lose_65 : decode cX10_lose 65 = .ok (.sipush 141, 3) := by decide +kernel
theorem dX10_lose_68 : decode cX10_lose 68 = .ok (.dup2, 1) := by decide +kernel
theorem dX10_lose_69 : decode cX10_lose 69 = .ok (.iaload, 1) := by decide +kernel
theorem dX10_lose_70 : decode cX10_lose 70 = .ok (.iconst 1, 1) := by decide +kernel
theorem dX10_lose_71 : decode cX10_lose 71 = .ok (.isub, 1) := by decide +kernel
theorem dX10_lose_72 : decode cX10_lose 72 = .ok (.iastore, 1) := by decide +kernel
theorem dX10_lose_73 : decode cX10_lose 73 = .ok (.iconst 0, 1) := by decide +kernel
theorem dX10_lose_74 : decode cX10_lose 74 = .ok (.istore_n 2, 1) := by decide +kernel
theorem dX10_lose_75 : decode cX10_lose 75 = .ok (.iload_n 2, 1) := by decide +kernel
theorem dX10_lose_76 : decode cX10_lose 76 = .ok (.bipush 7, 2) := by decide +kernel
theorem dX10_lose_78 : decode cX10_lose 78 = .ok (.if_icmp .ge 28, 3) := by decide +kernel
theorem dX10_lose_81 : decode cX10_lose 81 = .ok (.aload_n 0, 1) := by decide +kernel
theorem dX10_lose_82 : decode cX10_lose 82 = .ok (.getfield 26, 3) := by decide +kernel
theorem dX10_lose_85 : decode cX10_lose 85 = .ok (.bipush 7, 2) := by decide +kernel
theorem dX10_lose_87 : decode cX10_lose 87 = .ok (.aload_n 0, 1) := by decide +kernel
theorem dX10_lose_88 : decode cX10_lose 88 = .ok (.getfield 26, 3) := by decide +kernel
theorem dX10_lose_91 : decode cX10_lose 91 = .ok (.sipush 141, 3) := by decide +kernel
theorem dX10_lose_94 : decode cX10_lose 94 = .ok (.iaload, 1) := by decide +kernel
theorem dX10_lose_95 : decode cX10_lose 95 = .ok (.imul, 1) := by decide +kernel
theorem dX10_lose_96 : decode cX10_lose 96 = .ok (.iload_n 2, 1) := by decide +kernel
theorem dX10_lose_97 : decode cX10_lose 97 = .ok (.iadd, 1) := by decide +kernel
theorem dX10_lose_98 : decode cX10_lose 98 = .ok (.iconst 0, 1) := by decide +kernel
theorem dX10_lose_99 : decode cX10_lose 99 = .ok (.iastore, 1) := by decide +kernel
theorem dX10_lose_100 : decode cX10_lose 100 = .ok (.iinc 2 1, 3) := by decide +kernel
theorem dX10_lose_103 : decode cX10_lose 103 = .ok (.goto (-28), 3) := by decide +kernel
theorem dX10_lose_106 : decode cX10_lose 106 = .ok (.iconst 1, 1) := by decide +kernel
theorem dX10_lose_107 : decode cX10_lose 107 = .ok (.ireturn, 1) := by decide +kernel
theorem dX10_opens_0 : decode cX10_opens 0 = .ok (.aload_n 0, 1) := by decide +kernel
theorem dX10_opens_1 : decode cX10_opens 1 = .ok (.invokevirtual 180, 3) := by decide +kernel
theorem dX10_opens_4 : decode cX10_opens 4 = .ok (.aload_n 0, 1) := by decide +kernel
theorem dX10_opens_5 : decode cX10_opens 5 = .ok (.getfield 193, 3) := by decide +kernel
theorem dX10_opens_8 : decode cX10_opens 8 = .ok (.ifCond .eq 20, 3) := by decide +kernel
theorem dX10_opens_11 : decode cX10_opens 11 = .ok (.iload_n 1, 1) := by decide +kernel
theorem dX10_opens_12 : decode cX10_opens 12 = .ok (.iconst 0, 1) := by decide +kernel
theorem dX10_opens_13 : decode cX10_opens 13 = .ok (.aload_n 0, 1) := by decide +kernel
theorem dX10_opens_14 : decode cX10_opens 14 = .ok (.getfield 20, 3) := by decide +kernel
theorem dX10_opens_17 : decode cX10_opens 17 = .ok (.bipush 6, 2) := by decide +kernel
theorem dX10_opens_19 : decode cX10_opens 19 = .ok (.iaload, 1) := by decide +kernel
theorem dX10_opens_20 : decode cX10_opens 20 = .ok (.iconst 1, 1) := by decide +kernel
theorem dX10_opens_21 : decode cX10_opens 21 = .ok (.isub, 1) := by decide +kernel
theorem dX10_opens_22 : decode cX10_opens 22 = .ok (.invokestatic 176, 3) := by decide +kernel
theorem dX10_opens_25 : decode cX10_opens 25 = .ok (.ifCond .ne 9, 3) := by decide +kernel
theorem dX10_opens_28 : decode cX10_opens 28 = .ok (.aload_n 0, 1) := by decide +kernel
theorem dX10_opens_29 : decode cX10_opens 29 = .ok (.iconst 1, 1) := by decide +kernel
theorem dX10_opens_30 : decode cX10_opens 30 = .ok (.invokevirtual 183, 3) := by decide +kernel
theorem dX10_opens_33 : decode cX10_opens 33 = .ok (.ireturn, 1) := by decide +kernel
theorem dX10_opens_34 : decode cX10_opens 34 = .ok (.iconst (-1), 1) := by decide +kernel
theorem dX10_opens_35 : decode cX10_opens 35 = .ok (.istore_n 2, 1) := by decide +kernel
theorem dX10_opens_36 : decode cX10_opens 36 = .ok (.iconst 0, 1) := by decide +kernel
theorem dX10_opens_37 : decode cX10_opens 37 = .ok (.istore_n 3, 1) := by decide +kernel
theorem dX10_opens_38 : decode cX10_opens 38 = .ok (.iload_n 3, 1) := by decide +kernel
theorem dX10_opens_39 : decode cX10_opens 39 = .ok (.aload_n 0, 1) := by decide +kernel
theorem dX10_opens_40 : decode cX10_opens 40 = .ok (.getfield 26, 3) := by decide +kernel
theorem dX10_opens_43 : decode cX10_opens 43 = .ok (.sipush 141, 3) := by decide +kernel
theorem dX10_opens_46 : decode cX10_opens 46 = .ok (.iaload, 1) := by decide +kernel
theorem dX10_opens_47 : decode cX10_opens 47 = .ok (.if_icmp .ge 26, 3) := by decide +kernel
theorem dX10_opens_50 : decode cX10_opens 50 = .ok (.aload_n 0, 1) := by decide +kernel
theorem dX10_opens_51 : decode cX10_opens 51 = .ok (.getfield 26, 3) := by decide +kernel
theorem dX10_opens_54 : decode cX10_opens 54 = .ok (.bipush 7, 2) := by decide +kernel
theorem dX10_opens_56 : decode cX10_opens 56 = .ok (.iload_n 3, 1) := by decide +kernel
theorem dX10_opens_57 : decode cX10_opens 57 = .ok (.imul, 1) := by decide +kernel
theorem dX10_opens_58 : decode cX10_opens 58 = .ok (.iconst 0, 1) := by decide +kernel
theorem dX10_opens_59 : decode cX10_opens 59 = .ok (.iadd, 1) := by decide +kernel
theorem dX10_opens_60 : decode cX10_opens 60 = .ok (.iaload, 1) := by decide +kernel
theorem dX10_opens_61 : decode cX10_opens 61 = .ok (.iload_n 1, 1) := by decide +kernel
theorem dX10_opens_62 : decode cX10_opens 62 = .ok (.if_icmp .ne 5, 3) := by decide +kernel
theorem dX10_opens_65 : decode cX10_opens 65 = .ok (.iload_n 3, 1) := by decide +kernel
theorem dX10_opens_66 : decode cX10_opens 66 = .ok (.istore_n 2, 1) := by decide +kernel
theorem dX10_opens_67 : decode cX10_opens 67 = .ok (.iinc 3 1, 3) := by decide +kernel
theorem dX10_opens_70 : decode cX10_opens 70 = .ok (.goto (-32), 3) := by decide +kernel
theorem dX10_opens_73 : decode cX10_opens 73 = .ok (.iload_n 2, 1) := by decide +kernel
theorem dX10_opens_74 : decode cX10_opens 74 = .ok (.ifCond .ge 10, 3) := by decide +kernel
theorem dX10_opens_77 : decode cX10_opens 77 = .ok (.aload_n 0, 1) := by decide +kernel
theorem dX10_opens_78 : decode cX10_opens 78 = .ok (.bipush 6, 2) := by decide +kernel
theorem dX10_opens_80 : decode cX10_opens 80 = .ok (.invokevirtual 183, 3) := by decide +kernel
theorem dX10_opens_83 : decode cX10_opens 83 = .ok (.ireturn, 1) := by decide +kernel
theorem dX10_opens_84 : decode cX10_opens 84 = .ok (.aload_n 0, 1) := by decide +kernel
theorem dX10_opens_85 : decode cX10_opens 85 = .ok (.getfield 26, 3) := by decide +kernel
theorem dX10_opens_88 : decode cX10_opens 88 = .ok (.bipush 7, 2) := by decide +kernel
theorem dX10_opens_90 : decode cX10_opens 90 = .ok (.iload_n 2, 1) := by decide +kernel
theorem dX10_opens_91 : decode cX10_opens 91 = .ok (.imul, 1) := by decide +kernel
theorem dX10_opens_92 : decode cX10_opens 92 = .ok (.iconst 5, 1) := by decide +kernel
theorem dX10_opens_93 : decode cX10_opens 93 = .ok (.iadd, 1) := by decide +kernel
theorem dX10_opens_94 : decode cX10_opens 94 = .ok (.iaload, 1) := by decide +kernel
theorem dX10_opens_95 : decode cX10_opens 95 = .ok (.bipush (-2), 2) := by decide +kernel
theorem dX10_opens_97 : decode cX10_opens 97 = .ok (.if_icmp .ne 9, 3) := by decide +kernel
theorem dX10_opens_100 : decode cX10_opens 100 = .ok (.aload_n 0, 1) := by decide +kernel
theorem dX10_opens_101 : decode cX10_opens 101 = .ok (.iconst 5, 1) := by decide +kernel
theorem dX10_opens_102 : decode cX10_opens 102 = .ok (.invokevirtual 183, 3) := by decide +kernel
theorem dX10_opens_105 : decode cX10_opens 105 = .ok (.ireturn, 1) := by decide +kernel
theorem dX10_opens_106 : decode cX10_opens 106 = .ok (.aload_n 0, 1) := by decide +kernel
theorem dX10_opens_107 : decode cX10_opens 107 = .ok (.getfield 26, 3) := by decide +kernel
theorem dX10_opens_110 : decode cX10_opens 110 = .ok (.bipush 7, 2) := by decide +kernel
theorem dX10_opens_112 : decode cX10_opens 112 = .ok (.iload_n 2, 1) := by decide +kernel
theorem dX10_opens_113 : decode cX10_opens 113 = .ok (.imul, 1) := by decide +kernel
theorem dX10_opens_114 : decode cX10_opens 114 = .ok (.iconst 5, 1) := by decide +kernel
theorem dX10_opens_115 : decode cX10_opens 115 = .ok (.iadd, 1) := by decide +kernel
theorem dX10_opens_116 : decode cX10_opens 116 = .ok (.bipush (-2), 2) := by decide +kernel
theorem dX10_opens_118 : decode cX10_opens 118 = .ok (.iastore, 1) := by decide +kernel
theorem dX10_opens_119 : decode cX10_opens 119 = .ok (.aload_n 0, 1) := by decide +kernel
theorem dX10_opens_120 : decode cX10_opens 120 = .ok (.getfield 26, 3) := by decide +kernel
theorem dX10_opens_123 : decode cX10_opens 123 = .ok (.bipush 7, 2) := by decide +kernel
theorem dX10_opens_125 : decode cX10_opens 125 = .ok (.iload_n 2, 1) := by decide +kernel
theorem dX10_opens_126 : decode cX10_opens 126 = .ok (.imul, 1) := by decide +kernel
theorem dX10_opens_127 : decode cX10_opens 127 = .ok (.bipush 6, 2) := by decide +kernel
theorem dX10_opens_129 : decode cX10_opens 129 = .ok (.iadd, 1) := by decide +kernel
theorem dX10_opens_130 : decode cX10_opens 130 = .ok (.bipush (-2), 2) := by decide +kernel
theorem dX10_opens_132 : decode cX10_opens 132 = .ok (.iastore, 1) := by decide +kernel
theorem dX10_opens_133 : decode cX10_opens 133 = .ok (.iload_n 2, 1) := by decide +kernel
theorem dX10_opens_134 : decode cX10_opens 134 = .ok (.ireturn, 1) := by decide +kernel
theorem dX10_late_0 : decode cX10_late 0 = .ok (.aload_n 0, 1) := by decide +kernel
theorem dX10_late_1 : decode cX10_late 1 = .ok (.invokevirtual 180, 3) := by decide +kernel
theorem dX10_late_4 : decode cX10_late 4 = .ok (.aload_n 0, 1) := by decide +kernel
theorem dX10_late_5 : decode cX10_late 5 = .ok (.getfield 193, 3) := by decide +kernel
theorem dX10_late_8 : decode cX10_late 8 = .ok (.ifCond .ne 9, 3) := by decide +kernel
theorem dX10_late_11 : decode cX10_late 11 = .ok (.aload_n 0, 1) := by decide +kernel
theorem dX10_late_12 : decode cX10_late 12 = .ok (.iconst 1, 1) := by decide +kernel
theorem dX10_late_13 : decode cX10_late 13 = .ok (.invokevirtual 183, 3) := by decide +kernel
theorem dX10_late_16 : decode cX10_late 16 = .ok (.ireturn, 1) := by decide +kernel
theorem dX10_late_17 : decode cX10_late 17 = .ok (.iload_n 1, 1) := by decide +kernel
theorem dX10_late_18 : decode cX10_late 18 = .ok (.iconst 0, 1) := by decide +kernel
theorem dX10_late_19 : decode cX10_late 19 = .ok (.bipush 99, 2) := by decide +kernel
theorem dX10_late_21 : decode cX10_late 21 = .ok (.invokestatic 176, 3) := by decide +kernel
theorem dX10_late_24 : decode cX10_late 24 = .ok (.ifCond .ne 9, 3) := by decide +kernel
theorem dX10_late_27 : decode cX10_late 27 = .ok (.aload_n 0, 1) := by decide +kernel
theorem dX10_late_28 : decode cX10_late 28 = .ok (.iconst 2, 1) := by decide +kernel
theorem dX10_late_29 : decode cX10_late 29 = .ok (.invokevirtual 183, 3) := by decide +kernel
theorem dX10_late_32 : decode cX10_late 32 = .ok (.ireturn, 1) := by decide +kernel
theorem dX10_late_33 : decode cX10_late 33 = .ok (.aload_n 0, 1) := by decide +kernel
theorem dX10_late_34 : decode cX10_late 34 = .ok (.getfield 20, 3) := by decide +kernel
theorem dX10_late_37 : decode cX10_late 37 = .ok (.iconst 0, 1) := by decide +kernel
theorem dX10_late_38 : decode cX10_late 38 = .ok (.iaload, 1) := by decide +kernel
theorem dX10_late_39 : decode cX10_late 39 = .ok (.istore_n 2, 1) := by decide +kernel
theorem dX10_late_40 : decode cX10_late 40 = .ok (.aload_n 0, 1) := by decide +kernel
theorem dX10_late_41 : decode cX10_late 41 = .ok (.getfield 20, 3) := by decide +kernel
theorem dX10_late_44 : decode cX10_late 44 = .ok (.iconst 0, 1) := by decide +kernel
theorem dX10_late_45 : decode cX10_late 45 = .ok (.iload_n 1, 1) := by decide +kernel
theorem dX10_late_46 : decode cX10_late 46 = .ok (.iastore, 1) := by decide +kernel
theorem dX10_late_47 : decode cX10_late 47 = .ok (.iload_n 2, 1) := by decide +kernel
theorem dX10_late_48 : decode cX10_late 48 = .ok (.ireturn, 1) := by decide +kernel
theorem dX10_mark_0 : decode cX10_mark 0 = .ok (.aload_n 0, 1) := by decide +kernel
theorem dX10_mark_1 : decode cX10_mark 1 = .ok (.invokevirtual 180, 3) := by decide +kernel
theorem dX10_mark_4 : decode cX10_mark 4 = .ok (.aload_n 0, 1) := by decide +kernel
theorem dX10_mark_5 : decode cX10_mark 5 = .ok (.getfield 193, 3) := by decide +kernel
theorem dX10_mark_8 : decode cX10_mark 8 = .ok (.ifCond .ne 9, 3) := by decide +kernel
theorem dX10_mark_11 : decode cX10_mark 11 = .ok (.aload_n 0, 1) := by decide +kernel
theorem dX10_mark_12 : decode cX10_mark 12 = .ok (.iconst 1, 1) := by decide +kernel
theorem dX10_mark_13 : decode cX10_mark 13 = .ok (.invokevirtual 183, 3) := by decide +kernel
theorem dX10_mark_16 : decode cX10_mark 16 = .ok (.ireturn, 1) := by decide +kernel
theorem dX10_mark_17 : decode cX10_mark 17 = .ok (.aload_n 0, 1) := by decide +kernel
theorem dX10_mark_18 : decode cX10_mark 18 = .ok (.getfield 196, 3) := by decide +kernel
theorem dX10_mark_21 : decode cX10_mark 21 = .ok (.iconst 3, 1) := by decide +kernel
theorem dX10_mark_22 : decode cX10_mark 22 = .ok (.if_icmp .ne 9, 3) := by decide +kernel
theorem dX10_mark_25 : decode cX10_mark 25 = .ok (.aload_n 0, 1) := by decide +kernel
theorem dX10_mark_26 : decode cX10_mark 26 = .ok (.iconst 3, 1) := by decide +kernel
theorem dX10_mark_27 : decode cX10_mark 27 = .ok (.invokevirtual 183, 3) := by decide +kernel
theorem dX10_mark_30 : decode cX10_mark 30 = .ok (.ireturn, 1) := by decide +kernel
theorem dX10_mark_31 : decode cX10_mark 31 = .ok (.aload_n 0, 1) := by decide +kernel
theorem dX10_mark_32 : decode cX10_mark 32 = .ok (.getfield 26, 3) := by decide +kernel
theorem dX10_mark_35 : decode cX10_mark 35 = .ok (.iconst 0, 1) := by decide +kernel
theorem dX10_mark_36 : decode cX10_mark 36 = .ok (.aload_n 0, 1) := by decide +kernel
theorem dX10_mark_37 : decode cX10_mark 37 = .ok (.getfield 32, 3) := by decide +kernel
theorem dX10_mark_40 : decode cX10_mark 40 = .ok (.sipush 142, 3) := by decide +kernel
theorem dX10_mark_43 : decode cX10_mark 43 = .ok (.aload_n 0, 1) := by decide +kernel
theorem dX10_mark_44 : decode cX10_mark 44 = .ok (.getfield 196, 3) := by decide +kernel
theorem dX10_mark_47 : decode cX10_mark 47 = .ok (.imul, 1) := by decide +kernel
theorem dX10_mark_48 : decode cX10_mark 48 = .ok (.sipush 142, 3) := by decide +kernel
theorem dX10_mark_51 : decode cX10_mark 51 = .ok (.invokestatic 189, 3) := by decide +kernel
theorem dX10_mark_54 : decode cX10_mark 54 = .ok (.aload_n 0, 1) := by decide +kernel
theorem dX10_mark_55 : decode cX10_mark 55 = .ok (.dup, 1) := by decide +kernel
theorem dX10_mark_56 : decode cX10_mark 56 = .ok (.getfield 196, 3) := by decide +kernel
theorem dX10_mark_59 : decode cX10_mark 59 = .ok (.iconst 1, 1) := by decide +kernel
theorem dX10_mark_60 : decode cX10_mark 60 = .ok (.iadd, 1) := by decide +kernel
theorem dX10_mark_61 : decode cX10_mark 61 = .ok (.putfield 196, 3) := by decide +kernel
theorem dX10_mark_64 : decode cX10_mark 64 = .ok (.aload_n 0, 1) := by decide +kernel
theorem dX10_mark_65 : decode cX10_mark 65 = .ok (.getfield 196, 3) := by decide +kernel
theorem dX10_mark_68 : decode cX10_mark 68 = .ok (.iconst 1, 1) := by decide +kernel
theorem dX10_mark_69 : decode cX10_mark 69 = .ok (.isub, 1) := by decide +kernel
theorem dX10_mark_70 : decode cX10_mark 70 = .ok (.ireturn, 1) := by decide +kernel
theorem dX10_back_0 : decode cX10_back 0 = .ok (.aload_n 0, 1) := by decide +kernel
theorem dX10_back_1 : decode cX10_back 1 = .ok (.invokevirtual 180, 3) := by decide +kernel
theorem dX10_back_4 : decode cX10_back 4 = .ok (.iload_n 1, 1) := by decide +kernel
theorem dX10_back_5 : decode cX10_back 5 = .ok (.iconst 0, 1) := by decide +kernel
theorem dX10_back_6 : decode cX10_back 6 = .ok (.aload_n 0, 1) := by decide +kernel
theorem dX10_back_7 : decode cX10_back 7 = .ok (.getfield 196, 3) := by decide +kernel
theorem dX10_back_10 : decode cX10_back 10 = .ok (.iconst 1, 1) := by decide +kernel
theorem dX10_back_11 : decode cX10_back 11 = .ok (.isub, 1) := by decide +kernel
theorem dX10_back_12 : decode cX10_back 12 = .ok (.invokestatic 176, 3) := by decide +kernel
theorem dX10_back_15 : decode cX10_back 15 = .ok (.ifCond .ne 9, 3) := by decide +kernel
theorem dX10_back_18 : decode cX10_back 18 = .ok (.aload_n 0, 1) := by decide +kernel
theorem dX10_back_19 : decode cX10_back 19 = .ok (.iconst 1, 1) := by decide +kernel
theorem dX10_back_20 : decode cX10_back 20 = .ok (.invokevirtual 399, 3) := by decide +kernel
theorem dX10_back_23 : decode cX10_back 23 = .ok (.ireturn, 1) := by decide +kernel
theorem dX10_back_24 : decode cX10_back 24 = .ok (.aload_n 0, 1) := by decide +kernel
theorem dX10_back_25 : decode cX10_back 25 = .ok (.getfield 32, 3) := by decide +kernel
theorem dX10_back_28 : decode cX10_back 28 = .ok (.sipush 142, 3) := by decide +kernel
theorem dX10_back_31 : decode cX10_back 31 = .ok (.iload_n 1, 1) := by decide +kernel
theorem dX10_back_32 : decode cX10_back 32 = .ok (.imul, 1) := by decide +kernel
theorem dX10_back_33 : decode cX10_back 33 = .ok (.aload_n 0, 1) := by decide +kernel
theorem dX10_back_34 : decode cX10_back 34 = .ok (.getfield 26, 3) := by decide +kernel
theorem dX10_back_37 : decode cX10_back 37 = .ok (.iconst 0, 1) := by decide +kernel
theorem dX10_back_38 : decode cX10_back 38 = .ok (.sipush 142, 3) := by decide +kernel
theorem dX10_back_41 : decode cX10_back 41 = .ok (.invokestatic 189, 3) := by decide +kernel
theorem dX10_back_44 : decode cX10_back 44 = .ok (.iconst 1, 1) := by decide +kernel
theorem dX10_back_45 : decode cX10_back 45 = .ok (.ireturn, 1) := by decide +kernel
theorem dX10_call_0 : decode cX10_call 0 = .ok (.aload_n 0, 1) := by decide +kernel
theorem dX10_call_1 : decode cX10_call 1 = .ok (.invokevirtual 180, 3) := by decide +kernel
theorem dX10_call_4 : decode cX10_call 4 = .ok (.aload_n 0, 1) := by decide +kernel
theorem dX10_call_5 : decode cX10_call 5 = .ok (.iload_n 1, 1) := by decide +kernel
theorem dX10_call_6 : decode cX10_call 6 = .ok (.invokevirtual 378, 3) := by decide +kernel
theorem dX10_call_9 : decode cX10_call 9 = .ok (.ifCond .eq 27, 3) := by decide +kernel
theorem dX10_call_12 : decode cX10_call 12 = .ok (.iload_n 2, 1) := by decide +kernel
theorem dX10_call_13 : decode cX10_call 13 = .ok (.iconst 0, 1) := by decide +kernel
theorem dX10_call_14 : decode cX10_call 14 = .ok (.bipush 6, 2) := by decide +kernel
theorem dX10_call_16 : decode cX10_call 16 = .ok (.invokestatic 176, 3) := by decide +kernel
theorem dX10_call_19 : decode cX10_call 19 = .ok (.ifCond .eq 17, 3) := by decide +kernel
theorem dX10_call_22 : decode cX10_call 22 = .ok (.aload_n 0, 1) := by decide +kernel
theorem dX10_call_23 : decode cX10_call 23 = .ok (.getfield 26, 3) := by decide +kernel
theorem dX10_call_26 : decode cX10_call 26 = .ok (.bipush 7, 2) := by decide +kernel
theorem dX10_call_28 : decode cX10_call 28 = .ok (.iload_n 1, 1) := by decide +kernel
theorem dX10_call_29 : decode cX10_call 29 = .ok (.imul, 1) := by decide +kernel
theorem dX10_call_30 : decode cX10_call 30 = .ok (.iload_n 2, 1) := by decide +kernel
theorem dX10_call_31 : decode cX10_call 31 = .ok (.iadd, 1) := by decide +kernel
theorem dX10_call_32 : decode cX10_call 32 = .ok (.iaload, 1) := by decide +kernel
theorem dX10_call_33 : decode cX10_call 33 = .ok (.goto 8, 3) := by decide +kernel
theorem dX10_call_36 : decode cX10_call 36 = .ok (.aload_n 0, 1) := by decide +kernel
theorem dX10_call_37 : decode cX10_call 37 = .ok (.iconst 1, 1) := by decide +kernel
theorem dX10_call_38 : decode cX10_call 38 = .ok (.invokevirtual 183, 3) := by decide +kernel
theorem dX10_call_41 : decode cX10_call 41 = .ok (.ireturn, 1) := by decide +kernel
theorem dX10_led_0 : decode cX10_led 0 = .ok (.iconst 0, 1) := by decide +kernel
theorem dX10_led_1 : decode cX10_led 1 = .ok (.istore_n 2, 1) := by decide +kernel
theorem dX10_led_2 : decode cX10_led 2 = .ok (.iconst 0, 1) := by decide +kernel
theorem dX10_led_3 : decode cX10_led 3 = .ok (.istore_n 3, 1) := by decide +kernel
theorem dX10_led_4 : decode cX10_led 4 = .ok (.aload_n 0, 1) := by decide +kernel
theorem dX10_led_5 : decode cX10_led 5 = .ok (.getfield 193, 3) := by decide +kernel
theorem dX10_led_8 : decode cX10_led 8 = .ok (.ifCond .eq 55, 3) := by decide +kernel
theorem dX10_led_11 : decode cX10_led 11 = .ok (.iload_n 3, 1) := by decide +kernel
theorem dX10_led_12 : decode cX10_led 12 = .ok (.aload_n 0, 1) := by decide +kernel
theorem dX10_led_13 : decode cX10_led 13 = .ok (.getfield 26, 3) := by decide +kernel
theorem dX10_led_16 : decode cX10_led 16 = .ok (.sipush 141, 3) := by decide +kernel
theorem dX10_led_19 : decode cX10_led 19 = .ok (.iaload, 1) := by decide +kernel
theorem dX10_led_20 : decode cX10_led 20 = .ok (.if_icmp .ge 43, 3) := by decide +kernel
theorem dX10_led_23 : decode cX10_led 23 = .ok (.aload_n 0, 1) := by decide +kernel
theorem dX10_led_24 : decode cX10_led 24 = .ok (.getfield 26, 3) := by decide +kernel
theorem dX10_led_27 : decode cX10_led 27 = .ok (.bipush 7, 2) := by decide +kernel
theorem dX10_led_29 : decode cX10_led 29 = .ok (.iload_n 3, 1) := by decide +kernel
theorem dX10_led_30 : decode cX10_led 30 = .ok (.imul, 1) := by decide +kernel
theorem dX10_led_31 : decode cX10_led 31 = .ok (.iconst 5, 1) := by decide +kernel
theorem dX10_led_32 : decode cX10_led 32 = .ok (.iadd, 1) := by decide +kernel
theorem dX10_led_33 : decode cX10_led 33 = .ok (.iaload, 1) := by decide +kernel
theorem dX10_led_34 : decode cX10_led 34 = .ok (.bipush (-2), 2) := by decide +kernel
theorem dX10_led_36 : decode cX10_led 36 = .ok (.if_icmp .eq 6, 3) := by decide +kernel
theorem dX10_led_39 : decode cX10_led 39 = .ok (.goto 18, 3) := by decide +kernel
theorem dX10_led_42 : decode cX10_led 42 = .ok (.iload_n 2, 1) := by decide +kernel
theorem dX10_led_43 : decode cX10_led 43 = .ok (.iload_n 1, 1) := by decide +kernel
theorem dX10_led_44 : decode cX10_led 44 = .ok (.if_icmp .ne 10, 3) := by decide +kernel
theorem dX10_led_47 : decode cX10_led 47 = .ok (.aload_n 0, 1) := by decide +kernel
theorem dX10_led_48 : decode cX10_led 48 = .ok (.iconst 0, 1) := by decide +kernel
theorem dX10_led_49 : decode cX10_led 49 = .ok (.putfield 91, 3) := by decide +kernel
theorem dX10_led_52 : decode cX10_led 52 = .ok (.iload_n 3, 1) := by decide +kernel
theorem dX10_led_53 : decode cX10_led 53 = .ok (.ireturn, 1) := by decide +kernel
theorem dX10_led_54 : decode cX10_led 54 = .ok (.iinc 2 1, 3) := by decide +kernel
theorem dX10_led_57 : decode cX10_led 57 = .ok (.iinc 3 1, 3) := by decide +kernel
theorem dX10_led_60 : decode cX10_led 60 = .ok (.goto (-56), 3) := by decide +kernel
theorem dX10_led_63 : decode cX10_led 63 = .ok (.aload_n 0, 1) := by decide +kernel
theorem dX10_led_64 : decode cX10_led 64 = .ok (.iconst 1, 1) := by decide +kernel
theorem dX10_led_65 : decode cX10_led 65 = .ok (.putfield 91, 3) := by decide +kernel
theorem dX10_led_68 : decode cX10_led 68 = .ok (.iconst 0, 1) := by decide +kernel
theorem dX10_led_69 : decode cX10_led 69 = .ok (.ireturn, 1) := by decide +kernel
theorem dX10_told_0 : decode cX10_told 0 = .ok (.aload_n 0, 1) := by decide +kernel
theorem dX10_told_1 : decode cX10_told 1 = .ok (.iconst 0, 1) := by decide +kernel
theorem dX10_told_2 : decode cX10_told 2 = .ok (.putfield 91, 3) := by decide +kernel
theorem dX10_told_5 : decode cX10_told 5 = .ok (.iload_n 1, 1) := by decide +kernel
theorem dX10_told_6 : decode cX10_told 6 = .ok (.bipush 7, 2) := by decide +kernel
theorem dX10_told_8 : decode cX10_told 8 = .ok (.if_icmp .ne 8, 3) := by decide +kernel
theorem dX10_told_11 : decode cX10_told 11 = .ok (.aload_n 0, 1) := by decide +kernel
theorem dX10_told_12 : decode cX10_told 12 = .ok (.getfield 97, 3) := by decide +kernel
theorem dX10_told_15 : decode cX10_told 15 = .ok (.ireturn, 1) := by decide +kernel
theorem dX10_told_16 : decode cX10_told 16 = .ok (.aload_n 0, 1) := by decide +kernel
theorem dX10_told_17 : decode cX10_told 17 = .ok (.getfield 193, 3) := by decide +kernel
theorem dX10_told_20 : decode cX10_told 20 = .ok (.ifCond .ne 19, 3) := by decide +kernel
theorem dX10_told_23 : decode cX10_told 23 = .ok (.iload_n 1, 1) := by decide +kernel
theorem dX10_told_24 : decode cX10_told 24 = .ok (.iconst 0, 1) := by decide +kernel
theorem dX10_told_25 : decode cX10_told 25 = .ok (.bipush 6, 2) := by decide +kernel
theorem dX10_told_27 : decode cX10_told 27 = .ok (.invokestatic 176, 3) := by decide +kernel
theorem dX10_told_30 : decode cX10_told 30 = .ok (.ifCond .eq 7, 3) := by decide +kernel
theorem dX10_told_33 : decode cX10_told 33 = .ok (.iconst 0, 1) := by decide +kernel
theorem dX10_told_34 : decode cX10_told 34 = .ok (.goto 4, 3) := by decide +kernel
theorem dX10_told_37 : decode cX10_told 37 = .ok (.iconst (-1), 1) := by decide +kernel
theorem dX10_told_38 : decode cX10_told 38 = .ok (.ireturn, 1) := by decide +kernel
theorem dX10_told_39 : decode cX10_told 39 = .ok (.iload_n 1, 1) := by decide +kernel
theorem dX10_told_40 : decode cX10_told 40 = .ok (.tableswitch 106 0 6 #[44, 51, 59, 68, 85, 92, 101], 44) := by decide +kernel
theorem dX10_told_84 : decode cX10_told 84 = .ok (.aload_n 0, 1) := by decide +kernel
theorem dX10_told_85 : decode cX10_told 85 = .ok (.getfield 20, 3) := by decide +kernel
theorem dX10_told_88 : decode cX10_told 88 = .ok (.iconst 2, 1) := by decide +kernel
theorem dX10_told_89 : decode cX10_told 89 = .ok (.iaload, 1) := by decide +kernel
theorem dX10_told_90 : decode cX10_told 90 = .ok (.ireturn, 1) := by decide +kernel
theorem dX10_told_91 : decode cX10_told 91 = .ok (.aload_n 0, 1) := by decide +kernel
theorem dX10_told_92 : decode cX10_told 92 = .ok (.getfield 20, 3) := by decide +kernel
theorem dX10_told_95 : decode cX10_told 95 = .ok (.bipush 6, 2) := by decide +kernel
theorem dX10_told_97 : decode cX10_told 97 = .ok (.iaload, 1) := by decide +kernel
theorem dX10_told_98 : decode cX10_told 98 = .ok (.ireturn, 1) := by decide +kernel
theorem dX10_told_99 : decode cX10_told 99 = .ok (.aload_n 0, 1) := by decide +kernel
theorem dX10_told_100 : decode cX10_told 100 = .ok (.getfield 26, 3) := by decide +kernel
theorem dX10_told_103 : decode cX10_told 103 = .ok (.sipush 141, 3) := by decide +kernel
theorem dX10_told_106 : decode cX10_told 106 = .ok (.iaload, 1) := by decide +kernel
theorem dX10_told_107 : decode cX10_told 107 = .ok (.ireturn, 1) := by decide +kernel
theorem dX10_told_108 : decode cX10_told 108 = .ok (.aload_n 0, 1) := by decide +kernel
theorem dX10_told_109 : decode cX10_told 109 = .ok (.getfield 26, 3) := by decide +kernel
theorem dX10_told_112 : decode cX10_told 112 = .ok (.sipush 141, 3) := by decide +kernel
theorem dX10_told_115 : decode cX10_told 115 = .ok (.iaload, 1) := by decide +kernel
theorem dX10_told_116 : decode cX10_told 116 = .ok (.aload_n 0, 1) := by decide +kernel
theorem dX10_told_117 : decode cX10_told 117 = .ok (.invokevirtual 390, 3) := by decide +kernel
theorem dX10_told_120 : decode cX10_told 120 = .ok (.invokestatic 393, 3) := by decide +kernel
theorem dX10_told_123 : decode cX10_told 123 = .ok (.isub, 1) := by decide +kernel
theorem dX10_told_124 : decode cX10_told 124 = .ok (.ireturn, 1) := by decide +kernel
theorem dX10_told_125 : decode cX10_told 125 = .ok (.aload_n 0, 1) := by decide +kernel
theorem dX10_told_126 : decode cX10_told 126 = .ok (.getfield 20, 3) := by decide +kernel
theorem dX10_told_129 : decode cX10_told 129 = .ok (.iconst 0, 1) := by decide +kernel
theorem dX10_told_130 : decode cX10_told 130 = .ok (.iaload, 1) := by decide +kernel
theorem dX10_told_131 : decode cX10_told 131 = .ok (.ireturn, 1) := by decide +kernel
theorem dX10_told_132 : decode cX10_told 132 = .ok (.aload_n 0, 1) := by decide +kernel
theorem dX10_told_133 : decode cX10_told 133 = .ok (.getfield 26, 3) := by decide +kernel
theorem dX10_told_136 : decode cX10_told 136 = .ok (.sipush 140, 3) := by decide +kernel
theorem dX10_told_139 : decode cX10_told 139 = .ok (.iaload, 1) := by decide +kernel
theorem dX10_told_140 : decode cX10_told 140 = .ok (.ireturn, 1) := by decide +kernel
theorem dX10_told_141 : decode cX10_told 141 = .ok (.aload_n 0, 1) := by decide +kernel
theorem dX10_told_142 : decode cX10_told 142 = .ok (.getfield 196, 3) := by decide +kernel
theorem dX10_told_145 : decode cX10_told 145 = .ok (.ireturn, 1) := by decide +kernel
theorem dX10_told_146 : decode cX10_told 146 = .ok (.iconst (-1), 1) := by decide +kernel
theorem dX10_told_147 : decode cX10_told 147 = .ok (.ireturn, 1) := by decide +kernel
theorem dX10_trouble_0 : decode cX10_trouble 0 = .ok (.aload_n 0, 1) := by decide +kernel
theorem dX10_trouble_1 : decode cX10_trouble 1 = .ok (.iconst 0, 1) := by decide +kernel
theorem dX10_trouble_2 : decode cX10_trouble 2 = .ok (.putfield 91, 3) := by decide +kernel
theorem dX10_trouble_5 : decode cX10_trouble 5 = .ok (.aload_n 0, 1) := by decide +kernel
theorem dX10_trouble_6 : decode cX10_trouble 6 = .ok (.getfield 94, 3) := by decide +kernel
theorem dX10_trouble_9 : decode cX10_trouble 9 = .ok (.ireturn, 1) := by decide +kernel
