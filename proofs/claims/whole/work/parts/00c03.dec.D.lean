theorem dX10_init_0 : decode cX10_init 0 = .ok (.aload_n 0, 1) := by decide +kernel
theorem dX10_init_1 : decode cX10_init 1 = .ok (.invokespecial 1, 3) := by decide +kernel
theorem dX10_init_4 : decode cX10_init 4 = .ok (.aload_n 0, 1) := by decide +kernel
theorem dX10_init_5 : decode cX10_init 5 = .ok (.sipush 900, 3) := by decide +kernel
theorem dX10_init_8 : decode cX10_init 8 = .ok (.newarray .int, 2) := by decide +kernel
theorem dX10_init_10 : decode cX10_init 10 = .ok (.putfield 7, 3) := by decide +kernel
theorem dX10_init_13 : decode cX10_init 13 = .ok (.aload_n 0, 1) := by decide +kernel
theorem dX10_init_14 : decode cX10_init 14 = .ok (.iconst (-1), 1) := by decide +kernel
theorem dX10_init_15 : decode cX10_init 15 = .ok (.putfield 13, 3) := by decide +kernel
theorem dX10_init_18 : decode cX10_init 18 = .ok (.aload_n 0, 1) := by decide +kernel
theorem dX10_init_19 : decode cX10_init 19 = .ok (.bipush 8, 2) := by decide +kernel
theorem dX10_init_21 : decode cX10_init 21 = .ok (.newarray .int, 2) := by decide +kernel
theorem dX10_init_23 : decode cX10_init 23 = .ok (.putfield 17, 3) := by decide +kernel
theorem dX10_init_26 : decode cX10_init 26 = .ok (.aload_n 0, 1) := by decide +kernel
theorem dX10_init_27 : decode cX10_init 27 = .ok (.bipush 70, 2) := by decide +kernel
theorem dX10_init_29 : decode cX10_init 29 = .ok (.newarray .int, 2) := by decide +kernel
theorem dX10_init_31 : decode cX10_init 31 = .ok (.putfield 20, 3) := by decide +kernel
theorem dX10_init_34 : decode cX10_init 34 = .ok (.aload_n 0, 1) := by decide +kernel
theorem dX10_init_35 : decode cX10_init 35 = .ok (.bipush 70, 2) := by decide +kernel
theorem dX10_init_37 : decode cX10_init 37 = .ok (.newarray .int, 2) := by decide +kernel
theorem dX10_init_39 : decode cX10_init 39 = .ok (.putfield 23, 3) := by decide +kernel
theorem dX10_init_42 : decode cX10_init 42 = .ok (.aload_n 0, 1) := by decide +kernel
theorem dX10_init_43 : decode cX10_init 43 = .ok (.sipush 142, 3) := by decide +kernel
theorem dX10_init_46 : decode cX10_init 46 = .ok (.newarray .int, 2) := by decide +kernel
theorem dX10_init_48 : decode cX10_init 48 = .ok (.putfield 26, 3) := by decide +kernel
theorem dX10_init_51 : decode cX10_init 51 = .ok (.aload_n 0, 1) := by decide +kernel
theorem dX10_init_52 : decode cX10_init 52 = .ok (.sipush 142, 3) := by decide +kernel
theorem dX10_init_55 : decode cX10_init 55 = .ok (.newarray .int, 2) := by decide +kernel
theorem dX10_init_57 : decode cX10_init 57 = .ok (.putfield 29, 3) := by decide +kernel
theorem dX10_init_60 : decode cX10_init 60 = .ok (.aload_n 0, 1) := by decide +kernel
theorem dX10_init_61 : decode cX10_init 61 = .ok (.sipush 426, 3) := by decide +kernel
theorem dX10_init_64 : decode cX10_init 64 = .ok (.newarray .int, 2) := by decide +kernel
theorem dX10_init_66 : decode cX10_init 66 = .ok (.putfield 32, 3) := by decide +kernel
theorem dX10_init_69 : decode cX10_init 69 = .ok (.aload_n 0, 1) := by decide +kernel
theorem dX10_init_70 : decode cX10_init 70 = .ok (.sipush 142, 3) := by decide +kernel
theorem dX10_init_73 : decode cX10_init 73 = .ok (.newarray .int, 2) := by decide +kernel
theorem dX10_init_75 : decode cX10_init 75 = .ok (.putfield 35, 3) := by decide +kernel
theorem dX10_init_78 : decode cX10_init 78 = .ok (.aload_n 0, 1) := by decide +kernel
theorem dX10_init_79 : decode cX10_init 79 = .ok (.sipush 142, 3) := by decide +kernel
theorem dX10_init_82 : decode cX10_init 82 = .ok (.newarray .int, 2) := by decide +kernel
theorem dX10_init_84 : decode cX10_init 84 = .ok (.putfield 38, 3) := by decide +kernel
theorem dX10_init_87 : decode cX10_init 87 = .ok (.aload_n 0, 1) := by decide +kernel
theorem dX10_init_88 : decode cX10_init 88 = .ok (.bipush 80, 2) := by decide +kernel
theorem dX10_init_90 : decode cX10_init 90 = .ok (.newarray .int, 2) := by decide +kernel
theorem dX10_init_92 : decode cX10_init 92 = .ok (.putfield 41, 3) := by decide +kernel
theorem dX10_init_95 : decode cX10_init 95 = .ok (.aload_n 0, 1) := by decide +kernel
theorem dX10_init_96 : decode cX10_init 96 = .ok (.iconst 4, 1) := by decide +kernel
theorem dX10_init_97 : decode cX10_init 97 = .ok (.newarray .int, 2) := by decide +kernel
theorem dX10_init_99 : decode cX10_init 99 = .ok (.putfield 44, 3) := by decide +kernel
theorem dX10_init_102 : decode cX10_init 102 = .ok (.aload_n 0, 1) := by decide +kernel
theorem dX10_init_103 : decode cX10_init 103 = .ok (.sipush 24004, 3) := by decide +kernel
theorem dX10_init_106 : decode cX10_init 106 = .ok (.newarray .int, 2) := by decide +kernel
theorem dX10_init_108 : decode cX10_init 108 = .ok (.putfield 47, 3) := by decide +kernel
theorem dX10_init_111 : decode cX10_init 111 = .ok (.aload_n 0, 1) := by decide +kernel
theorem dX10_init_112 : decode cX10_init 112 = .ok (.sipush 24004, 3) := by decide +kernel
theorem dX10_init_115 : decode cX10_init 115 = .ok (.newarray .int, 2) := by decide +kernel
theorem dX10_init_117 : decode cX10_init 117 = .ok (.putfield 50, 3) := by decide +kernel
theorem dX10_init_120 : decode cX10_init 120 = .ok (.aload_n 0, 1) := by decide +kernel
theorem dX10_init_121 : decode cX10_init 121 = .ok (.sipush 24004, 3) := by decide +kernel
theorem dX10_init_124 : decode cX10_init 124 = .ok (.newarray .int, 2) := by decide +kernel
theorem dX10_init_126 : decode cX10_init 126 = .ok (.putfield 53, 3) := by decide +kernel
theorem dX10_init_129 : decode cX10_init 129 = .ok (.aload_n 0, 1) := by decide +kernel
theorem dX10_init_130 : decode cX10_init 130 = .ok (.sipush 16384, 3) := by decide +kernel
theorem dX10_init_133 : decode cX10_init 133 = .ok (.newarray .int, 2) := by decide +kernel
theorem dX10_init_135 : decode cX10_init 135 = .ok (.putfield 56, 3) := by decide +kernel
theorem dX10_init_138 : decode cX10_init 138 = .ok (.aload_n 0, 1) := by decide +kernel
theorem dX10_init_139 : decode cX10_init 139 = .ok (.sipush 18003, 3) := by decide +kernel
theorem dX10_init_142 : decode cX10_init 142 = .ok (.newarray .long, 2) := by decide +kernel
theorem dX10_init_144 : decode cX10_init 144 = .ok (.putfield 59, 3) := by decide +kernel
theorem dX10_init_147 : decode cX10_init 147 = .ok (.aload_n 0, 1) := by decide +kernel
theorem dX10_init_148 : decode cX10_init 148 = .ok (.sipush 6001, 3) := by decide +kernel
theorem dX10_init_151 : decode cX10_init 151 = .ok (.newarray .boolean, 2) := by decide +kernel
theorem dX10_init_153 : decode cX10_init 153 = .ok (.putfield 63, 3) := by decide +kernel
theorem dX10_init_156 : decode cX10_init 156 = .ok (.aload_n 0, 1) := by decide +kernel
theorem dX10_init_157 : decode cX10_init 157 = .ok (.sipush 6001, 3) := by decide +kernel
theorem dX10_init_160 : decode cX10_init 160 = .ok (.newarray .long, 2) := by decide +kernel
theorem dX10_init_162 : decode cX10_init 162 = .ok (.putfield 67, 3) := by decide +kernel
theorem dX10_init_165 : decode cX10_init 165 = .ok (.aload_n 0, 1) := by decide +kernel
theorem dX10_init_166 : decode cX10_init 166 = .ok (.bipush 20, 2) := by decide +kernel
theorem dX10_init_168 : decode cX10_init 168 = .ok (.newarray .int, 2) := by decide +kernel
theorem dX10_init_170 : decode cX10_init 170 = .ok (.putfield 70, 3) := by decide +kernel
theorem dX10_init_173 : decode cX10_init 173 = .ok (.aload_n 0, 1) := by decide +kernel
theorem dX10_init_174 : decode cX10_init 174 = .ok (.sipush 6001, 3) := by decide +kernel
theorem dX10_init_177 : decode cX10_init 177 = .ok (.newarray .boolean, 2) := by decide +kernel
theorem dX10_init_179 : decode cX10_init 179 = .ok (.putfield 73, 3) := by decide +kernel
theorem dX10_init_182 : decode cX10_init 182 = .ok (.aload_n 0, 1) := by decide +kernel
theorem dX10_init_183 : decode cX10_init 183 = .ok (.bipush 20, 2) := by decide +kernel
theorem dX10_init_185 : decode cX10_init 185 = .ok (.newarray .int, 2) := by decide +kernel
theorem dX10_init_187 : decode cX10_init 187 = .ok (.putfield 76, 3) := by decide +kernel
theorem dX10_init_190 : decode cX10_init 190 = .ok (.aload_n 0, 1) := by decide +kernel
theorem dX10_init_191 : decode cX10_init 191 = .ok (.bipush 100, 2) := by decide +kernel
theorem dX10_init_193 : decode cX10_init 193 = .ok (.newarray .boolean, 2) := by decide +kernel
theorem dX10_init_195 : decode cX10_init 195 = .ok (.putfield 79, 3) := by decide +kernel
theorem dX10_init_198 : decode cX10_init 198 = .ok (.aload_n 0, 1) := by decide +kernel
theorem dX10_init_199 : decode cX10_init 199 = .ok (.bipush 15, 2) := by decide +kernel
theorem dX10_init_201 : decode cX10_init 201 = .ok (.newarray .long, 2) := by decide +kernel
theorem dX10_init_203 : decode cX10_init 203 = .ok (.putfield 82, 3) := by decide +kernel
theorem dX10_init_206 : decode cX10_init 206 = .ok (.aload_n 0, 1) := by decide +kernel
theorem dX10_init_207 : decode cX10_init 207 = .ok (.iconst 4, 1) := by decide +kernel
theorem dX10_init_208 : decode cX10_init 208 = .ok (.newarray .int, 2) := by decide +kernel
theorem dX10_init_210 : decode cX10_init 210 = .ok (.putfield 85, 3) := by decide +kernel
theorem dX10_init_213 : decode cX10_init 213 = .ok (.aload_n 0, 1) := by decide +kernel
theorem dX10_init_214 : decode cX10_init 214 = .ok (.iconst 4, 1) := by decide +kernel
theorem dX10_init_215 : decode cX10_init 215 = .ok (.newarray .boolean, 2) := by decide +kernel
theorem dX10_init_217 : decode cX10_init 217 = .ok (.putfield 88, 3) := by decide +kernel
theorem dX10_init_220 : decode cX10_init 220 = .ok (.return_, 1) := by decide +kernel
theorem dX10_thrown_0 : decode cX10_thrown 0 = .ok (.aload_n 0, 1) := by decide +kernel
theorem dX10_thrown_1 : decode cX10_thrown 1 = .ok (.getfield 91, 3) := by decide +kernel
theorem dX10_thrown_4 : decode cX10_thrown 4 = .ok (.ireturn, 1) := by decide +kernel
theorem dX10_good_0 : decode cX10_good 0 = .ok (.aload_n 0, 1) := by decide +kernel
theorem dX10_good_1 : decode cX10_good 1 = .ok (.iconst 0, 1) := by decide +kernel
theorem dX10_good_2 : decode cX10_good 2 = .ok (.putfield 91, 3) := by decide +kernel
theorem dX10_good_5 : decode cX10_good 5 = .ok (.aload_n 0, 1) := by decide +kernel
theorem dX10_good_6 : decode cX10_good 6 = .ok (.iconst 0, 1) := by decide +kernel
theorem dX10_good_7 : decode cX10_good 7 = .ok (.putfield 94, 3) := by decide +kernel
theorem dX10_good_10 : decode cX10_good 10 = .ok (.return_, 1) := by decide +kernel
theorem dX10_no_0 : decode cX10_no 0 = .ok (.aload_n 0, 1) := by decide +kernel
theorem dX10_no_1 : decode cX10_no 1 = .ok (.iload_n 1, 1) := by decide +kernel
theorem dX10_no_2 : decode cX10_no 2 = .ok (.putfield 94, 3) := by decide +kernel
theorem dX10_no_5 : decode cX10_no 5 = .ok (.iconst (-1), 1) := by decide +kernel
theorem dX10_no_6 : decode cX10_no 6 = .ok (.ireturn, 1) := by decide +kernel
theorem dX10_isNot_0 : decode cX10_isNot 0 = .ok (.aload_n 0, 1) := by decide +kernel
theorem dX10_isNot_1 : decode cX10_isNot 1 = .ok (.iload_n 1, 1) := by decide +kernel
theorem dX10_isNot_2 : decode cX10_isNot 2 = .ok (.putfield 94, 3) := by decide +kernel
theorem dX10_isNot_5 : decode cX10_isNot 5 = .ok (.iconst 0, 1) := by decide +kernel
theorem dX10_isNot_6 : decode cX10_isNot 6 = .ok (.ireturn, 1) := by decide +kernel
theorem dX10_within_0 : decode cX10_within 0 = .ok (.iload_n 0, 1) := by decide +kernel
theorem dX10_within_1 : decode cX10_within 1 = .ok (.iload_n 1, 1) := by decide +kernel
theorem dX10_within_2 : decode cX10_within 2 = .ok (.if_icmp .lt 12, 3) := by decide +kernel
theorem dX10_within_5 : decode cX10_within 5 = .ok (.iload_n 0, 1) := by decide +kernel
theorem dX10_within_6 : decode cX10_within 6 = .ok (.iload_n 2, 1) := by decide +kernel
theorem dX10_within_7 : decode cX10_within 7 = .ok (.if_icmp .gt 7, 3) := by decide +kernel
theorem dX10_within_10 : decode cX10_within 10 = .ok (.iconst 1, 1) := by decide +kernel
theorem dX10_within_11 : decode cX10_within 11 = .ok (.goto 4, 3) := by decide +kernel
theorem dX10_within_14 : decode cX10_within 14 = .ok (.iconst 0, 1) := by decide +kernel
theorem dX10_within_15 : decode cX10_within 15 = .ok (.ireturn, 1) := by decide +kernel
theorem dX10_has_0 : decode cX10_has 0 = .ok (.iload_n 0, 1) := by decide +kernel
theorem dX10_has_1 : decode cX10_has 1 = .ok (.iload_n 1, 1) := by decide +kernel
theorem dX10_has_2 : decode cX10_has 2 = .ok (.ishr, 1) := by decide +kernel
theorem dX10_has_3 : decode cX10_has 3 = .ok (.iconst 1, 1) := by decide +kernel
theorem dX10_has_4 : decode cX10_has 4 = .ok (.iand, 1) := by decide +kernel
theorem dX10_has_5 : decode cX10_has 5 = .ok (.iconst 1, 1) := by decide +kernel
theorem dX10_has_6 : decode cX10_has 6 = .ok (.if_icmp .ne 7, 3) := by decide +kernel
theorem dX10_has_9 : decode cX10_has 9 = .ok (.iconst 1, 1) := by decide +kernel
theorem dX10_has_10 : decode cX10_has 10 = .ok (.goto 4, 3) := by decide +kernel
theorem dX10_has_13 : decode cX10_has 13 = .ok (.iconst 0, 1) := by decide +kernel
theorem dX10_has_14 : decode cX10_has 14 = .ok (.ireturn, 1) := by decide +kernel
theorem dX10_bits_0 : decode cX10_bits 0 = .ok (.iconst 0, 1) := by decide +kernel
theorem dX10_bits_1 : decode cX10_bits 1 = .ok (.istore_n 1, 1) := by decide +kernel
theorem dX10_bits_2 : decode cX10_bits 2 = .ok (.iconst 0, 1) := by decide +kernel
theorem dX10_bits_3 : decode cX10_bits 3 = .ok (.istore_n 2, 1) := by decide +kernel
theorem dX10_bits_4 : decode cX10_bits 4 = .ok (.iload_n 2, 1) := by decide +kernel
theorem dX10_bits_5 : decode cX10_bits 5 = .ok (.bipush 20, 2) := by decide +kernel
theorem dX10_bits_7 : decode cX10_bits 7 = .ok (.if_icmp .ge 17, 3) := by decide +kernel
theorem dX10_bits_10 : decode cX10_bits 10 = .ok (.iload_n 1, 1) := by decide +kernel
theorem dX10_bits_11 : decode cX10_bits 11 = .ok (.iload_n 0, 1) := by decide +kernel
theorem dX10_bits_12 : decode cX10_bits 12 = .ok (.iload_n 2, 1) := by decide +kernel
theorem dX10_bits_13 : decode cX10_bits 13 = .ok (.ishr, 1) := by decide +kernel
theorem dX10_bits_14 : decode cX10_bits 14 = .ok (.iconst 1, 1) := by decide +kernel
theorem dX10_bits_15 : decode cX10_bits 15 = .ok (.iand, 1) := by decide +kernel
theorem dX10_bits_16 : decode cX10_bits 16 = .ok (.iadd, 1) := by decide +kernel
theorem dX10_bits_17 : decode cX10_bits 17 = .ok (.istore_n 1, 1) := by decide +kernel
theorem dX10_bits_18 : decode cX10_bits 18 = .ok (.iinc 2 1, 3) := by decide +kernel
theorem dX10_bits_21 : decode cX10_bits 21 = .ok (.goto (-17), 3) := by decide +kernel
theorem dX10_bits_24 : decode cX10_bits 24 = .ok (.iload_n 1, 1) := by decide +kernel
theorem dX10_bits_25 : decode cX10_bits 25 = .ok (.ireturn, 1) := by decide +kernel
theorem dX10_copy_0 : decode cX10_copy 0 = .ok (.iconst 0, 1) := by decide +kernel
theorem dX10_copy_1 : decode cX10_copy 1 = .ok (.istore 5, 2) := by decide +kernel
theorem dX10_copy_3 : decode cX10_copy 3 = .ok (.iload 5, 2) := by decide +kernel
theorem dX10_copy_5 : decode cX10_copy 5 = .ok (.iload 4, 2) := by decide +kernel
theorem dX10_copy_7 : decode cX10_copy 7 = .ok (.if_icmp .ge 21, 3) := by decide +kernel
theorem dX10_copy_10 : decode cX10_copy 10 = .ok (.aload_n 2, 1) := by decide +kernel
theorem dX10_copy_11 : decode cX10_copy 11 = .ok (.iload_n 3, 1) := by decide +kernel
theorem dX10_copy_12 : decode cX10_copy 12 = .ok (.iload 5, 2) := by decide +kernel
theorem dX10_copy_14 : decode cX10_copy 14 = .ok (.iadd, 1) := by decide +kernel
theorem dX10_copy_15 : decode cX10_copy 15 = .ok (.aload_n 0, 1) := by decide +kernel
theorem dX10_copy_16 : decode cX10_copy 16 = .ok (.iload_n 1, 1) := by decide +kernel
theorem dX10_copy_17 : decode cX10_copy 17 = .ok (.iload 5, 2) := by decide +kernel
theorem dX10_copy_19 : decode cX10_copy 19 = .ok (.iadd, 1) := by decide +kernel
theorem dX10_copy_20 : decode cX10_copy 20 = .ok (.iaload, 1) := by decide +kernel
theorem dX10_copy_21 : decode cX10_copy 21 = .ok (.iastore, 1) := by decide +kernel
theorem dX10_copy_22 : decode cX10_copy 22 = .ok (.iinc 5 1, 3) := by decide +kernel
theorem dX10_copy_25 : decode cX10_copy 25 = .ok (.goto (-22), 3) := by decide +kernel
theorem dX10_copy_28 : decode cX10_copy 28 = .ok (.return_, 1) := by decide +kernel
theorem dX10_feed_0 : decode cX10_feed 0 = .ok (.aload_n 0, 1) := by decide +kernel
theorem dX10_feed_1 : decode cX10_feed 1 = .ok (.iconst 0, 1) := by decide +kernel
theorem dX10_feed_2 : decode cX10_feed 2 = .ok (.putfield 91, 3) := by decide +kernel
theorem dX10_feed_5 : decode cX10_feed 5 = .ok (.aload_n 0, 1) := by decide +kernel
theorem dX10_feed_6 : decode cX10_feed 6 = .ok (.getfield 97, 3) := by decide +kernel
theorem dX10_feed_9 : decode cX10_feed 9 = .ok (.bipush 20, 2) := by decide +kernel
theorem dX10_feed_11 : decode cX10_feed 11 = .ok (.iadd, 1) := by decide +kernel
theorem dX10_feed_12 : decode cX10_feed 12 = .ok (.sipush 900, 3) := by decide +kernel
theorem dX10_feed_15 : decode cX10_feed 15 = .ok (.if_icmp .le 5, 3) := by decide +kernel
theorem dX10_feed_18 : decode cX10_feed 18 = .ok (.iconst (-1), 1) := by decide +kernel
theorem dX10_feed_19 : decode cX10_feed 19 = .ok (.ireturn, 1) := by decide +kernel
theorem dX10_feed_20 : decode cX10_feed 20 = .ok (.iconst 0, 1) := by decide +kernel
theorem dX10_feed_21 : decode cX10_feed 21 = .ok (.istore 6, 2) := by decide +kernel
theorem dX10_feed_23 : decode cX10_feed 23 = .ok (.iload 6, 2) := by decide +kernel
theorem dX10_feed_25 : decode cX10_feed 25 = .ok (.bipush 20, 2) := by decide +kernel
theorem dX10_feed_27 : decode cX10_feed 27 = .ok (.if_icmp .ge 93, 3) := by decide +kernel
theorem dX10_feed_30 : decode cX10_feed 30 = .ok (.iload 6, 2) := by decide +kernel
theorem dX10_feed_32 : decode cX10_feed 32 = .ok (.iconst 4, 1) := by decide +kernel
theorem dX10_feed_33 : decode cX10_feed 33 = .ok (.if_icmp .ge 7, 3) := by decide +kernel
theorem dX10_feed_36 : decode cX10_feed 36 = .ok (.iload_n 1, 1) := by decide +kernel
theorem dX10_feed_37 : decode cX10_feed 37 = .ok (.goto 39, 3) := by decide +kernel
theorem dX10_feed_40 : decode cX10_feed 40 = .ok (.iload 6, 2) := by decide +kernel
theorem dX10_feed_42 : decode cX10_feed 42 = .ok (.bipush 8, 2) := by decide +kernel
theorem dX10_feed_44 : decode cX10_feed 44 = .ok (.if_icmp .ge 7, 3) := by decide +kernel
theorem dX10_feed_47 : decode cX10_feed 47 = .ok (.iload_n 2, 1) := by decide +kernel
theorem dX10_feed_48 : decode cX10_feed 48 = .ok (.goto 28, 3) := by decide +kernel
theorem dX10_feed_51 : decode cX10_feed 51 = .ok (.iload 6, 2) := by decide +kernel
theorem dX10_feed_53 : decode cX10_feed 53 = .ok (.bipush 12, 2) := by decide +kernel
theorem dX10_feed_55 : decode cX10_feed 55 = .ok (.if_icmp .ge 7, 3) := by decide +kernel
theorem dX10_feed_58 : decode cX10_feed 58 = .ok (.iload_n 3, 1) := by decide +kernel
theorem dX10_feed_59 : decode cX10_feed 59 = .ok (.goto 17, 3) := by decide +kernel
theorem dX10_feed_62 : decode cX10_feed 62 = .ok (.iload 6, 2) := by decide +kernel
theorem dX10_feed_64 : decode cX10_feed 64 = .ok (.bipush 16, 2) := by decide +kernel
theorem dX10_feed_66 : decode cX10_feed 66 = .ok (.if_icmp .ge 8, 3) := by decide +kernel
theorem dX10_feed_69 : decode cX10_feed 69 = .ok (.iload 4, 2) := by decide +kernel
theorem dX10_feed_71 : decode cX10_feed 71 = .ok (.goto 5, 3) := by decide +kernel
theorem dX10_feed_74 : decode cX10_feed 74 = .ok (.iload 5, 2) := by decide +kernel
theorem dX10_feed_76 : decode cX10_feed 76 = .ok (.istore 7, 2) := by decide +kernel
theorem dX10_feed_78 : decode cX10_feed 78 = .ok (.aload_n 0, 1) := by decide +kernel
theorem dX10_feed_79 : decode cX10_feed 79 = .ok (.getfield 7, 3) := by decide +kernel
theorem dX10_feed_82 : decode cX10_feed 82 = .ok (.aload_n 0, 1) := by decide +kernel
theorem dX10_feed_83 : decode cX10_feed 83 = .ok (.getfield 97, 3) := by decide +kernel
theorem dX10_feed_86 : decode cX10_feed 86 = .ok (.iload 7, 2) := by decide +kernel
theorem dX10_feed_88 : decode cX10_feed 88 = .ok (.bipush 24, 2) := by decide +kernel
theorem dX10_feed_90 : decode cX10_feed 90 = .ok (.bipush 8, 2) := by decide +kernel
theorem dX10_feed_92 : decode cX10_feed 92 = .ok (.iload 6, 2) := by decide +kernel
theorem dX10_feed_94 : decode cX10_feed 94 = .ok (.iconst 4, 1) := by decide +kernel
theorem dX10_feed_95 : decode cX10_feed 95 = .ok (.irem, 1) := by decide +kernel
theorem dX10_feed_96 : decode cX10_feed 96 = .ok (.imul, 1) := by decide +kernel
theorem dX10_feed_97 : decode cX10_feed 97 = .ok (.isub, 1) := by decide +kernel
theorem dX10_feed_98 : decode cX10_feed 98 = .ok (.ishr, 1) := by decide +kernel
theorem dX10_feed_99 : decode cX10_feed 99 = .ok (.sipush 255, 3) := by decide +kernel
theorem dX10_feed_102 : decode cX10_feed 102 = .ok (.iand, 1) := by decide +kernel
theorem dX10_feed_103 : decode cX10_feed 103 = .ok (.iastore, 1) := by decide +kernel
theorem dX10_feed_104 : decode cX10_feed 104 = .ok (.aload_n 0, 1) := by decide +kernel
theorem dX10_feed_105 : decode cX10_feed 105 = .ok (.dup, 1) := by decide +kernel
theorem dX10_feed_106 : decode cX10_feed 106 = .ok (.getfield 97, 3) := by decide +kernel
theorem dX10_feed_109 : decode cX10_feed 109 = .ok (.iconst 1, 1) := by decide +kernel
theorem dX10_feed_110 : decode cX10_feed 110 = .ok (.iadd, 1) := by decide +kernel
theorem dX10_feed_111 : decode cX10_feed 111 = .ok (.putfield 97, 3) := by decide +kernel
theorem dX10_feed_114 : decode cX10_feed 114 = .ok (.iinc 6 1, 3) := by decide +kernel
theorem dX10_feed_117 : decode cX10_feed 117 = .ok (.goto (-94), 3) := by decide +kernel
theorem dX10_feed_120 : decode cX10_feed 120 = .ok (.aload_n 0, 1) := by decide +kernel
theorem dX10_feed_121 : decode cX10_feed 121 = .ok (.getfield 97, 3) := by decide +kernel
theorem dX10_feed_124 : decode cX10_feed 124 = .ok (.ireturn, 1) := by decide +kernel
theorem dX10_look_0 : decode cX10_look 0 = .ok (.iload_n 1, 1) := by decide +kernel
theorem dX10_look_1 : decode cX10_look 1 = .ok (.aload_n 0, 1) := by decide +kernel
theorem dX10_look_2 : decode cX10_look 2 = .ok (.getfield 100, 3) := by decide +kernel
theorem dX10_look_5 : decode cX10_look 5 = .ok (.if_icmp .ge 12, 3) := by decide +kernel
theorem dX10_look_8 : decode cX10_look 8 = .ok (.aload_n 0, 1) := by decide +kernel
theorem dX10_look_9 : decode cX10_look 9 = .ok (.getfield 7, 3) := by decide +kernel
theorem dX10_look_12 : decode cX10_look 12 = .ok (.iload_n 1, 1) := by decide +kernel
theorem dX10_look_13 : decode cX10_look 13 = .ok (.iaload, 1) := by decide +kernel
theorem dX10_look_14 : decode cX10_look 14 = .ok (.goto 4, 3) := by decide +kernel
theorem dX10_look_17 : decode cX10_look 17 = .ok (.iconst (-1), 1) := by decide +kernel
theorem dX10_look_18 : decode cX10_look 18 = .ok (.ireturn, 1) := by decide +kernel
theorem dX10_isSmall_0 : decode cX10_isSmall 0 = .ok (.iload_n 0, 1) := by decide +kernel
theorem dX10_isSmall_1 : decode cX10_isSmall 1 = .ok (.bipush 97, 2) := by decide +kernel
theorem dX10_isSmall_3 : decode cX10_isSmall 3 = .ok (.if_icmp .lt 13, 3) := by decide +kernel
theorem dX10_isSmall_6 : decode cX10_isSmall 6 = .ok (.iload_n 0, 1) := by decide +kernel
theorem dX10_isSmall_7 : decode cX10_isSmall 7 = .ok (.bipush 122, 2) := by decide +kernel
theorem dX10_isSmall_9 : decode cX10_isSmall 9 = .ok (.if_icmp .gt 7, 3) := by decide +kernel
theorem dX10_isSmall_12 : decode cX10_isSmall 12 = .ok (.iconst 1, 1) := by decide +kernel
theorem dX10_isSmall_13 : decode cX10_isSmall 13 = .ok (.goto 4, 3) := by decide +kernel
theorem dX10_isSmall_16 : decode cX10_isSmall 16 = .ok (.iconst 0, 1) := by decide +kernel
theorem dX10_isSmall_17 : decode cX10_isSmall 17 = .ok (.ireturn, 1) := by decide +kernel
theorem dX10_isDigit_0 : decode cX10_isDigit 0 = .ok (.iload_n 0, 1) := by decide +kernel
theorem dX10_isDigit_1 : decode cX10_isDigit 1 = .ok (.bipush 48, 2) := by decide +kernel
theorem dX10_isDigit_3 : decode cX10_isDigit 3 = .ok (.if_icmp .lt 13, 3) := by decide +kernel
theorem dX10_isDigit_6 : decode cX10_isDigit 6 = .ok (.iload_n 0, 1) := by decide +kernel
theorem dX10_isDigit_7 : decode cX10_isDigit 7 = .ok (.bipush 57, 2) := by decide +kernel
theorem dX10_isDigit_9 : decode cX10_isDigit 9 = .ok (.if_icmp .gt 7, 3) := by decide +kernel
theorem dX10_isDigit_12 : decode cX10_isDigit 12 = .ok (.iconst 1, 1) := by decide +kernel
theorem dX10_isDigit_13 : decode cX10_isDigit 13 = .ok (.goto 4, 3) := by decide +kernel
theorem dX10_isDigit_16 : decode cX10_isDigit 16 = .ok (.iconst 0, 1) := by decide +kernel
theorem dX10_isDigit_17 : decode cX10_isDigit 17 = .ok (.ireturn, 1) := by decide +kernel
theorem dX10_next_0 : decode cX10_next 0 = .ok (.aload_n 0, 1) := by decide +kernel
theorem dX10_next_1 : decode cX10_next 1 = .ok (.getfield 103, 3) := by decide +kernel
theorem dX10_next_4 : decode cX10_next 4 = .ok (.istore_n 1, 1) := by decide +kernel
theorem dX10_next_5 : decode cX10_next 5 = .ok (.aload_n 0, 1) := by decide +kernel
theorem dX10_next_6 : decode cX10_next 6 = .ok (.iload_n 1, 1) := by decide +kernel
theorem dX10_next_7 : decode cX10_next 7 = .ok (.invokevirtual 106, 3) := by decide +kernel
theorem dX10_next_10 : decode cX10_next 10 = .ok (.bipush 32, 2) := by decide +kernel
theorem dX10_next_12 : decode cX10_next 12 = .ok (.if_icmp .ne 9, 3) := by decide +kernel
theorem dX10_next_15 : decode cX10_next 15 = .ok (.iinc 1 1, 3) := by decide +kernel
theorem dX10_next_18 : decode cX10_next 18 = .ok (.goto (-13), 3) := by decide +kernel
theorem dX10_next_21 : decode cX10_next 21 = .ok (.aload_n 0, 1) := by decide +kernel
theorem dX10_next_22 : decode cX10_next 22 = .ok (.iload_n 1, 1) := by decide +kernel
theorem dX10_next_23 : decode cX10_next 23 = .ok (.putfield 110, 3) := by decide +kernel
theorem dX10_next_26 : decode cX10_next 26 = .ok (.aload_n 0, 1) := by decide +kernel
theorem dX10_next_27 : decode cX10_next 27 = .ok (.iload_n 1, 1) := by decide +kernel
theorem dX10_next_28 : decode cX10_next 28 = .ok (.invokevirtual 106, 3) := by decide +kernel
theorem dX10_next_31 : decode cX10_next 31 = .ok (.istore_n 2, 1) := by decide +kernel
theorem dX10_next_32 : decode cX10_next 32 = .ok (.aload_n 0, 1) := by decide +kernel
theorem dX10_next_33 : decode cX10_next 33 = .ok (.iconst 0, 1) := by decide +kernel
theorem dX10_next_34 : decode cX10_next 34 = .ok (.putfield 113, 3) := by decide +kernel
theorem dX10_next_37 : decode cX10_next 37 = .ok (.aload_n 0, 1) := by decide +kernel
theorem dX10_next_38 : decode cX10_next 38 = .ok (.iconst 0, 1) := by decide +kernel
theorem dX10_next_39 : decode cX10_next 39 = .ok (.putfield 116, 3) := by decide +kernel
theorem dX10_next_42 : decode cX10_next 42 = .ok (.iload_n 2, 1) := by decide +kernel
theorem dX10_next_43 : decode cX10_next 43 = .ok (.iconst (-1), 1) := by decide +kernel
theorem dX10_next_44 : decode cX10_next 44 = .ok (.if_icmp .ne 16, 3) := by decide +kernel
theorem dX10_next_47 : decode cX10_next 47 = .ok (.aload_n 0, 1) := by decide +kernel
theorem dX10_next_48 : decode cX10_next 48 = .ok (.iconst 0, 1) := by decide +kernel
theorem dX10_next_49 : decode cX10_next 49 = .ok (.putfield 119, 3) := by decide +kernel
theorem dX10_next_52 : decode cX10_next 52 = .ok (.aload_n 0, 1) := by decide +kernel
theorem dX10_next_53 : decode cX10_next 53 = .ok (.iload_n 1, 1) := by decide +kernel
theorem dX10_next_54 : decode cX10_next 54 = .ok (.putfield 103, 3) := by decide +kernel
theorem dX10_next_57 : decode cX10_next 57 = .ok (.goto 190, 3) := by decide +kernel
theorem dX10_next_60 : decode cX10_next 60 = .ok (.iload_n 2, 1) := by decide +kernel
theorem dX10_next_61 : decode cX10_next 61 = .ok (.invokestatic 122, 3) := by decide +kernel
theorem dX10_next_64 : decode cX10_next 64 = .ok (.ifCond .eq 79, 3) := by decide +kernel
theorem dX10_next_67 : decode cX10_next 67 = .ok (.aload_n 0, 1) := by decide +kernel
theorem dX10_next_68 : decode cX10_next 68 = .ok (.iload_n 1, 1) := by decide +kernel
theorem dX10_next_69 : decode cX10_next 69 = .ok (.invokevirtual 106, 3) := by decide +kernel
theorem dX10_next_72 : decode cX10_next 72 = .ok (.invokestatic 122, 3) := by decide +kernel
theorem dX10_next_75 : decode cX10_next 75 = .ok (.ifCond .eq 42, 3) := by decide +kernel
theorem dX10_next_78 : decode cX10_next 78 = .ok (.aload_n 0, 1) := by decide +kernel
theorem dX10_next_79 : decode cX10_next 79 = .ok (.getfield 113, 3) := by decide +kernel
theorem dX10_next_82 : decode cX10_next 82 = .ok (.bipush 8, 2) := by decide +kernel
theorem dX10_next_84 : decode cX10_next 84 = .ok (.if_icmp .ge 17, 3) := by decide +kernel
theorem dX10_next_87 : decode cX10_next 87 = .ok (.aload_n 0, 1) := by decide +kernel
theorem dX10_next_88 : decode cX10_next 88 = .ok (.getfield 17, 3) := by decide +kernel
theorem dX10_next_91 : decode cX10_next 91 = .ok (.aload_n 0, 1) := by decide +kernel
theorem dX10_next_92 : decode cX10_next 92 = .ok (.getfield 113, 3) := by decide +kernel
theorem dX10_next_95 : decode cX10_next 95 = .ok (.aload_n 0, 1) := by decide +kernel
theorem dX10_next_96 : decode cX10_next 96 = .ok (.iload_n 1, 1) := by decide +kernel
theorem dX10_next_97 : decode cX10_next 97 = .ok (.invokevirtual 106, 3) := by decide +kernel
theorem dX10_next_100 : decode cX10_next 100 = .ok (.iastore, 1) := by decide +kernel
theorem dX10_next_101 : decode cX10_next 101 = .ok (.aload_n 0, 1) := by decide +kernel
theorem dX10_next_102 : decode cX10_next 102 = .ok (.dup, 1) := by decide +kernel
theorem dX10_next_103 : decode cX10_next 103 = .ok (.getfield 113, 3) := by decide +kernel
theorem dX10_next_106 : decode cX10_next 106 = .ok (.iconst 1, 1) := by decide +kernel
theorem dX10_next_107 : decode cX10_next 107 = .ok (.iadd, 1) := by decide +kernel
theorem dX10_next_108 : decode cX10_next 108 = .ok (.putfield 113, 3) := by decide +kernel
theorem dX10_next_111 : decode cX10_next 111 = .ok (.iinc 1 1, 3) := by decide +kernel
theorem dX10_next_114 : decode cX10_next 114 = .ok (.goto (-47), 3) := by decide +kernel
theorem dX10_next_117 : decode cX10_next 117 = .ok (.aload_n 0, 1) := by decide +kernel
theorem dX10_next_118 : decode cX10_next 118 = .ok (.iload_n 1, 1) := by decide +kernel
theorem dX10_next_119 : decode cX10_next 119 = .ok (.putfield 103, 3) := by decide +kernel
theorem dX10_next_122 : decode cX10_next 122 = .ok (.aload_n 0, 1) := by decide +kernel
theorem dX10_next_123 : decode cX10_next 123 = .ok (.aload_n 0, 1) := by decide +kernel
theorem dX10_next_124 : decode cX10_next 124 = .ok (.getfield 113, 3) := by decide +kernel
theorem dX10_next_127 : decode cX10_next 127 = .ok (.bipush 8, 2) := by decide +kernel
theorem dX10_next_129 : decode cX10_next 129 = .ok (.if_icmp .le 7, 3) := by decide +kernel
theorem dX10_next_132 : decode cX10_next 132 = .ok (.iconst 1, 1) := by decide +kernel
theorem dX10_next_133 : decode cX10_next 133 = .ok (.goto 4, 3) := by decide +kernel
theorem dX10_next_136 : decode cX10_next 136 = .ok (.iconst 2, 1) := by decide +kernel
theorem dX10_next_137 : decode cX10_next 137 = .ok (.putfield 119, 3) := by decide +kernel
theorem dX10_next_140 : decode cX10_next 140 = .ok (.goto 107, 3) := by decide +kernel
theorem dX10_next_143 : decode cX10_next 143 = .ok (.iload_n 2, 1) := by decide +kernel
theorem dX10_next_144 : decode cX10_next 144 = .ok (.invokestatic 126, 3) := by decide +kernel
theorem dX10_next_147 : decode cX10_next 147 = .ok (.ifCond .eq 72, 3) := by decide +kernel
theorem dX10_next_150 : decode cX10_next 150 = .ok (.iconst 0, 1) := by decide +kernel
theorem dX10_next_151 : decode cX10_next 151 = .ok (.istore_n 3, 1) := by decide +kernel
theorem dX10_next_152 : decode cX10_next 152 = .ok (.aload_n 0, 1) := by decide +kernel
theorem dX10_next_153 : decode cX10_next 153 = .ok (.iload_n 1, 1) := by decide +kernel
theorem dX10_next_154 : decode cX10_next 154 = .ok (.invokevirtual 106, 3) := by decide +kernel
theorem dX10_next_157 : decode cX10_next 157 = .ok (.invokestatic 126, 3) := by decide +kernel
theorem dX10_next_160 : decode cX10_next 160 = .ok (.ifCond .eq 37, 3) := by decide +kernel
theorem dX10_next_163 : decode cX10_next 163 = .ok (.iload_n 3, 1) := by decide +kernel
theorem dX10_next_164 : decode cX10_next 164 = .ok (.iconst 3, 1) := by decide +kernel
theorem dX10_next_165 : decode cX10_next 165 = .ok (.if_icmp .ge 23, 3) := by decide +kernel
theorem dX10_next_168 : decode cX10_next 168 = .ok (.aload_n 0, 1) := by decide +kernel
theorem dX10_next_169 : decode cX10_next 169 = .ok (.bipush 10, 2) := by decide +kernel
theorem dX10_next_171 : decode cX10_next 171 = .ok (.aload_n 0, 1) := by decide +kernel
theorem dX10_next_172 : decode cX10_next 172 = .ok (.getfield 116, 3) := by decide +kernel
theorem dX10_next_175 : decode cX10_next 175 = .ok (.imul, 1) := by decide +kernel
theorem dX10_next_176 : decode cX10_next 176 = .ok (.aload_n 0, 1) := by decide +kernel
theorem dX10_next_177 : decode cX10_next 177 = .ok (.iload_n 1, 1) := by decide +kernel
theorem dX10_next_178 : decode cX10_next 178 = .ok (.invokevirtual 106, 3) := by decide +kernel
theorem dX10_next_181 : decode cX10_next 181 = .ok (.iadd, 1) := by decide +kernel
theorem dX10_next_182 : decode cX10_next 182 = .ok (.bipush 48, 2) := by decide +kernel
theorem dX10_next_184 : decode cX10_next 184 = .ok (.isub, 1) := by decide +kernel
theorem dX10_next_185 : decode cX10_next 185 = .ok (.putfield 116, 3) := by decide +kernel
theorem dX10_next_188 : decode cX10_next 188 = .ok (.iinc 3 1, 3) := by decide +kernel
theorem dX10_next_191 : decode cX10_next 191 = .ok (.iinc 1 1, 3) := by decide +kernel
theorem dX10_next_194 : decode cX10_next 194 = .ok (.goto (-42), 3) := by decide +kernel
theorem dX10_next_197 : decode cX10_next 197 = .ok (.aload_n 0, 1) := by decide +kernel
theorem dX10_next_198 : decode cX10_next 198 = .ok (.iload_n 1, 1) := by decide +kernel
theorem dX10_next_199 : decode cX10_next 199 = .ok (.putfield 103, 3) := by decide +kernel
theorem dX10_next_202 : decode cX10_next 202 = .ok (.aload_n 0, 1) := by decide +kernel
theorem dX10_next_203 : decode cX10_next 203 = .ok (.iload_n 3, 1) := by decide +kernel
theorem dX10_next_204 : decode cX10_next 204 = .ok (.iconst 3, 1) := by decide +kernel
theorem dX10_next_205 : decode cX10_next 205 = .ok (.if_icmp .le 7, 3) := by decide +kernel
theorem dX10_next_208 : decode cX10_next 208 = .ok (.iconst 1, 1) := by decide +kernel
theorem dX10_next_209 : decode cX10_next 209 = .ok (.goto 4, 3) := by decide +kernel
theorem dX10_next_212 : decode cX10_next 212 = .ok (.iconst 3, 1) := by decide +kernel
theorem dX10_next_213 : decode cX10_next 213 = .ok (.putfield 119, 3) := by decide +kernel
theorem dX10_next_216 : decode cX10_next 216 = .ok (.goto 31, 3) := by decide +kernel
theorem dX10_next_219 : decode cX10_next 219 = .ok (.aload_n 0, 1) := by decide +kernel
theorem dX10_next_220 : decode cX10_next 220 = .ok (.iload_n 1, 1) := by decide +kernel
theorem dX10_next_221 : decode cX10_next 221 = .ok (.iconst 1, 1) := by decide +kernel
theorem dX10_next_222 : decode cX10_next 222 = .ok (.iadd, 1) := by decide +kernel
theorem dX10_next_223 : decode cX10_next 223 = .ok (.putfield 103, 3) := by decide +kernel
theorem dX10_next_226 : decode cX10_next 226 = .ok (.aload_n 0, 1) := by decide +kernel
theorem dX10_next_227 : decode cX10_next 227 = .ok (.iload_n 2, 1) := by decide +kernel
theorem dX10_next_228 : decode cX10_next 228 = .ok (.bipush 59, 2) := by decide +kernel
theorem dX10_next_230 : decode cX10_next 230 = .ok (.if_icmp .eq 9, 3) := by decide +kernel
theorem dX10_next_233 : decode cX10_next 233 = .ok (.iload_n 2, 1) := by decide +kernel
theorem dX10_next_234 : decode cX10_next 234 = .ok (.bipush 44, 2) := by decide +kernel
theorem dX10_next_236 : decode cX10_next 236 = .ok (.if_icmp .ne 7, 3) := by decide +kernel
theorem dX10_next_239 : decode cX10_next 239 = .ok (.iload_n 2, 1) := by decide +kernel
theorem dX10_next_240 : decode cX10_next 240 = .ok (.goto 4, 3) := by decide +kernel
theorem dX10_next_243 : decode cX10_next 243 = .ok (.iconst 1, 1) := by decide +kernel
theorem dX10_next_244 : decode cX10_next 244 = .ok (.putfield 119, 3) := by decide +kernel
theorem dX10_next_247 : decode cX10_next 247 = .ok (.return_, 1) := by decide +kernel
theorem dX10_wrong_0 : decode cX10_wrong 0 = .ok (.aload_n 0, 1) := by decide +kernel
theorem dX10_wrong_1 : decode cX10_wrong 1 = .ok (.getfield 129, 3) := by decide +kernel
theorem dX10_wrong_4 : decode cX10_wrong 4 = .ok (.ifCond .eq 4, 3) := by decide +kernel
theorem dX10_wrong_7 : decode cX10_wrong 7 = .ok (.return_, 1) := by decide +kernel
theorem dX10_wrong_8 : decode cX10_wrong 8 = .ok (.aload_n 0, 1) := by decide +kernel
theorem dX10_wrong_9 : decode cX10_wrong 9 = .ok (.iconst 1, 1) := by decide +kernel
theorem dX10_wrong_10 : decode cX10_wrong 10 = .ok (.putfield 129, 3) := by decide +kernel
theorem dX10_wrong_13 : decode cX10_wrong 13 = .ok (.aload_n 0, 1) := by decide +kernel
theorem dX10_wrong_14 : decode cX10_wrong 14 = .ok (.iload_n 1, 1) := by decide +kernel
theorem dX10_wrong_15 : decode cX10_wrong 15 = .ok (.putfield 133, 3) := by decide +kernel
theorem dX10_wrong_18 : decode cX10_wrong 18 = .ok (.aload_n 0, 1) := by decide +kernel
theorem dX10_wrong_19 : decode cX10_wrong 19 = .ok (.iload_n 2, 1) := by decide +kernel
theorem dX10_wrong_20 : decode cX10_wrong 20 = .ok (.putfield 13, 3) := by decide +kernel
theorem dX10_wrong_23 : decode cX10_wrong 23 = .ok (.return_, 1) := by decide +kernel
theorem dX10_isWord_0 : decode cX10_isWord 0 = .ok (.aload_n 0, 1) := by decide +kernel
theorem dX10_isWord_1 : decode cX10_isWord 1 = .ok (.getfield 129, 3) := by decide +kernel
theorem dX10_isWord_4 : decode cX10_isWord 4 = .ok (.ifCond .ne 22, 3) := by decide +kernel
theorem dX10_isWord_7 : decode cX10_isWord 7 = .ok (.aload_n 0, 1) := by decide +kernel
theorem dX10_isWord_8 : decode cX10_isWord 8 = .ok (.getfield 119, 3) := by decide +kernel
theorem dX10_isWord_11 : decode cX10_isWord 11 = .ok (.iconst 2, 1) := by decide +kernel
theorem dX10_isWord_12 : decode cX10_isWord 12 = .ok (.if_icmp .ne 14, 3) := by decide +kernel
theorem dX10_isWord_15 : decode cX10_isWord 15 = .ok (.aload_n 0, 1) := by decide +kernel
theorem dX10_isWord_16 : decode cX10_isWord 16 = .ok (.getfield 113, 3) := by decide +kernel
theorem dX10_isWord_19 : decode cX10_isWord 19 = .ok (.aload_n 1, 1) := by decide +kernel
theorem dX10_isWord_20 : decode cX10_isWord 20 = .ok (.invokevirtual 136, 3) := by decide +kernel
theorem dX10_isWord_23 : decode cX10_isWord 23 = .ok (.if_icmp .eq 5, 3) := by decide +kernel
theorem dX10_isWord_26 : decode cX10_isWord 26 = .ok (.iconst 0, 1) := by decide +kernel
theorem dX10_isWord_27 : decode cX10_isWord 27 = .ok (.ireturn, 1) := by decide +kernel
theorem dX10_isWord_28 : decode cX10_isWord 28 = .ok (.iconst 1, 1) := by decide +kernel
theorem dX10_isWord_29 : decode cX10_isWord 29 = .ok (.istore_n 2, 1) := by decide +kernel
theorem dX10_isWord_30 : decode cX10_isWord 30 = .ok (.iconst 0, 1) := by decide +kernel
theorem dX10_isWord_31 : decode cX10_isWord 31 = .ok (.istore_n 3, 1) := by decide +kernel
theorem dX10_isWord_32 : decode cX10_isWord 32 = .ok (.iload_n 3, 1) := by decide +kernel
theorem dX10_isWord_33 : decode cX10_isWord 33 = .ok (.aload_n 0, 1) := by decide +kernel
theorem dX10_isWord_34 : decode cX10_isWord 34 = .ok (.getfield 113, 3) := by decide +kernel
theorem dX10_isWord_37 : decode cX10_isWord 37 = .ok (.if_icmp .ge 33, 3) := by decide +kernel
theorem dX10_isWord_40 : decode cX10_isWord 40 = .ok (.iload_n 2, 1) := by decide +kernel
theorem dX10_isWord_41 : decode cX10_isWord 41 = .ok (.ifCond .eq 21, 3) := by decide +kernel
theorem dX10_isWord_44 : decode cX10_isWord 44 = .ok (.aload_n 0, 1) := by decide +kernel
theorem dX10_isWord_45 : decode cX10_isWord 45 = .ok (.getfield 17, 3) := by decide +kernel
theorem dX10_isWord_48 : decode cX10_isWord 48 = .ok (.iload_n 3, 1) := by decide +kernel
theorem dX10_isWord_49 : decode cX10_isWord 49 = .ok (.iaload, 1) := by decide +kernel
theorem dX10_isWord_50 : decode cX10_isWord 50 = .ok (.aload_n 1, 1) := by decide +kernel
theorem dX10_isWord_51 : decode cX10_isWord 51 = .ok (.iload_n 3, 1) := by decide +kernel
theorem dX10_isWord_52 : decode cX10_isWord 52 = .ok (.invokevirtual 142, 3) := by decide +kernel
theorem dX10_isWord_55 : decode cX10_isWord 55 = .ok (.if_icmp .ne 7, 3) := by decide +kernel
theorem dX10_isWord_58 : decode cX10_isWord 58 = .ok (.iconst 1, 1) := by decide +kernel
theorem dX10_isWord_59 : decode cX10_isWord 59 = .ok (.goto 4, 3) := by decide +kernel
theorem dX10_isWord_62 : decode cX10_isWord 62 = .ok (.iconst 0, 1) := by decide +kernel
theorem dX10_isWord_63 : decode cX10_isWord 63 = .ok (.istore_n 2, 1) := by decide +kernel
theorem dX10_isWord_64 : decode cX10_isWord 64 = .ok (.iinc 3 1, 3) := by decide +kernel
theorem dX10_isWord_67 : decode cX10_isWord 67 = .ok (.goto (-35), 3) := by decide +kernel
theorem dX10_isWord_70 : decode cX10_isWord 70 = .ok (.iload_n 2, 1) := by decide +kernel
theorem dX10_isWord_71 : decode cX10_isWord 71 = .ok (.ireturn, 1) := by decide +kernel
theorem dX10_takes_0 : decode cX10_takes 0 = .ok (.aload_n 0, 1) := by decide +kernel
theorem dX10_takes_1 : decode cX10_takes 1 = .ok (.aload_n 1, 1) := by decide +kernel
theorem dX10_takes_2 : decode cX10_takes 2 = .ok (.invokevirtual 146, 3) := by decide +kernel
theorem dX10_takes_5 : decode cX10_takes 5 = .ok (.ifCond .ne 5, 3) := by decide +kernel
theorem dX10_takes_8 : decode cX10_takes 8 = .ok (.iconst 0, 1) := by decide +kernel
theorem dX10_takes_9 : decode cX10_takes 9 = .ok (.ireturn, 1) := by decide +kernel
theorem dX10_takes_10 : decode cX10_takes 10 = .ok (.aload_n 0, 1) := by decide +kernel
theorem dX10_takes_11 : decode cX10_takes 11 = .ok (.invokevirtual 150, 3) := by decide +kernel
theorem dX10_takes_14 : decode cX10_takes 14 = .ok (.iconst 1, 1) := by decide +kernel
theorem dX10_takes_15 : decode cX10_takes 15 = .ok (.ireturn, 1) := by decide +kernel
theorem dX10_pass_0 : decode cX10_pass 0 = .ok (.aload_n 0, 1) := by decide +kernel
theorem dX10_pass_1 : decode cX10_pass 1 = .ok (.getfield 129, 3) := by decide +kernel
theorem dX10_pass_4 : decode cX10_pass 4 = .ok (.ifCond .ne 20, 3) := by decide +kernel
theorem dX10_pass_7 : decode cX10_pass 7 = .ok (.aload_n 0, 1) := by decide +kernel
theorem dX10_pass_8 : decode cX10_pass 8 = .ok (.aload_n 1, 1) := by decide +kernel
theorem dX10_pass_9 : decode cX10_pass 9 = .ok (.invokevirtual 153, 3) := by decide +kernel
theorem dX10_pass_12 : decode cX10_pass 12 = .ok (.ifCond .ne 12, 3) := by decide +kernel
theorem dX10_pass_15 : decode cX10_pass 15 = .ok (.aload_n 0, 1) := by decide +kernel
theorem dX10_pass_16 : decode cX10_pass 16 = .ok (.iconst 1, 1) := by decide +kernel
theorem dX10_pass_17 : decode cX10_pass 17 = .ok (.aload_n 0, 1) := by decide +kernel
theorem dX10_pass_18 : decode cX10_pass 18 = .ok (.getfield 110, 3) := by decide +kernel
theorem dX10_pass_21 : decode cX10_pass 21 = .ok (.invokevirtual 156, 3) := by decide +kernel
theorem dX10_pass_24 : decode cX10_pass 24 = .ok (.return_, 1) := by decide +kernel
theorem dX10_mustName_0 : decode cX10_mustName 0 = .ok (.aload_n 0, 1) := by decide +kernel
theorem dX10_mustName_1 : decode cX10_mustName 1 = .ok (.ldc 160, 2) := by decide +kernel
theorem dX10_mustName_3 : decode cX10_mustName 3 = .ok (.invokevirtual 146, 3) := by decide +kernel
theorem dX10_mustName_6 : decode cX10_mustName 6 = .ok (.ifCond .ne 39, 3) := by decide +kernel
theorem dX10_mustName_9 : decode cX10_mustName 9 = .ok (.aload_n 0, 1) := by decide +kernel
theorem dX10_mustName_10 : decode cX10_mustName 10 = .ok (.ldc 162, 2) := by decide +kernel
theorem dX10_mustName_12 : decode cX10_mustName 12 = .ok (.invokevirtual 146, 3) := by decide +kernel
theorem dX10_mustName_15 : decode cX10_mustName 15 = .ok (.ifCond .ne 30, 3) := by decide +kernel
theorem dX10_mustName_18 : decode cX10_mustName 18 = .ok (.aload_n 0, 1) := by decide +kernel
theorem dX10_mustName_19 : decode cX10_mustName 19 = .ok (.ldc 164, 2) := by decide +kernel
theorem dX10_mustName_21 : decode cX10_mustName 21 = .ok (.invokevirtual 146, 3) := by decide +kernel
theorem dX10_mustName_24 : decode cX10_mustName 24 = .ok (.ifCond .ne 21, 3) := by decide +kernel
theorem dX10_mustName_27 : decode cX10_mustName 27 = .ok (.aload_n 0, 1) := by decide +kernel
theorem dX10_mustName_28 : decode cX10_mustName 28 = .ok (.ldc 166, 2) := by decide +kernel
theorem dX10_mustName_30 : decode cX10_mustName 30 = .ok (.invokevirtual 146, 3) := by decide +kernel
theorem dX10_mustName_33 : decode cX10_mustName 33 = .ok (.ifCond .ne 12, 3) := by decide +kernel
theorem dX10_mustName_36 : decode cX10_mustName 36 = .ok (.aload_n 0, 1) := by decide +kernel
theorem dX10_mustName_37 : decode cX10_mustName 37 = .ok (.ldc 168, 2) := by decide +kernel
theorem dX10_mustName_39 : decode cX10_mustName 39 = .ok (.invokevirtual 146, 3) := by decide +kernel
theorem dX10_mustName_42 : decode cX10_mustName 42 = .ok (.ifCond .eq 7, 3) := by decide +kernel
theorem dX10_mustName_45 : decode cX10_mustName 45 = .ok (.iconst 1, 1) := by decide +kernel
theorem dX10_mustName_46 : decode cX10_mustName 46 = .ok (.goto 4, 3) := by decide +kernel
theorem dX10_mustName_49 : decode cX10_mustName 49 = .ok (.iconst 0, 1) := by decide +kernel
theorem dX10_mustName_50 : decode cX10_mustName 50 = .ok (.istore_n 1, 1) := by decide +kernel
theorem dX10_mustName_51 : decode cX10_mustName 51 = .ok (.aload_n 0, 1) := by decide +kernel
theorem dX10_mustName_52 : decode cX10_mustName 52 = .ok (.getfield 119, 3) := by decide +kernel
theorem dX10_mustName_55 : decode cX10_mustName 55 = .ok (.iconst 2, 1) := by decide +kernel
theorem dX10_mustName_56 : decode cX10_mustName 56 = .ok (.if_icmp .ne 7, 3) := by decide +kernel
theorem dX10_mustName_59 : decode cX10_mustName 59 = .ok (.iload_n 1, 1) := by decide +kernel
theorem dX10_mustName_60 : decode cX10_mustName 60 = .ok (.ifCond .eq 12, 3) := by decide +kernel
theorem dX10_mustName_63 : decode cX10_mustName 63 = .ok (.aload_n 0, 1) := by decide +kernel
theorem dX10_mustName_64 : decode cX10_mustName 64 = .ok (.iconst 1, 1) := by decide +kernel
theorem dX10_mustName_65 : decode cX10_mustName 65 = .ok (.aload_n 0, 1) := by decide +kernel
theorem dX10_mustName_66 : decode cX10_mustName 66 = .ok (.getfield 110, 3) := by decide +kernel
theorem dX10_mustName_69 : decode cX10_mustName 69 = .ok (.invokevirtual 156, 3) := by decide +kernel
theorem dX10_mustName_72 : decode cX10_mustName 72 = .ok (.return_, 1) := by decide +kernel
theorem dX10_find_0 : decode cX10_find 0 = .ok (.iconst 0, 1) := by decide +kernel
theorem dX10_find_1 : decode cX10_find 1 = .ok (.istore_n 1, 1) := by decide +kernel
theorem dX10_find_2 : decode cX10_find 2 = .ok (.iload_n 1, 1) := by decide +kernel
theorem dX10_find_3 : decode cX10_find 3 = .ok (.bipush 7, 2) := by decide +kernel
theorem dX10_find_5 : decode cX10_find 5 = .ok (.if_icmp .ge 98, 3) := by decide +kernel
theorem dX10_find_8 : decode cX10_find 8 = .ok (.aload_n 0, 1) := by decide +kernel
theorem dX10_find_9 : decode cX10_find 9 = .ok (.getfield 23, 3) := by decide +kernel
theorem dX10_find_12 : decode cX10_find 12 = .ok (.bipush 7, 2) := by decide +kernel
theorem dX10_find_14 : decode cX10_find 14 = .ok (.iload_n 1, 1) := by decide +kernel
theorem dX10_find_15 : decode cX10_find 15 = .ok (.iadd, 1) := by decide +kernel
theorem dX10_find_16 : decode cX10_find 16 = .ok (.iaload, 1) := by decide +kernel
theorem dX10_find_17 : decode cX10_find 17 = .ok (.ifCond .le 23, 3) := by decide +kernel
theorem dX10_find_20 : decode cX10_find 20 = .ok (.aload_n 0, 1) := by decide +kernel
theorem dX10_find_21 : decode cX10_find 21 = .ok (.getfield 23, 3) := by decide +kernel
theorem dX10_find_24 : decode cX10_find 24 = .ok (.bipush 7, 2) := by decide +kernel
theorem dX10_find_26 : decode cX10_find 26 = .ok (.iload_n 1, 1) := by decide +kernel
theorem dX10_find_27 : decode cX10_find 27 = .ok (.iadd, 1) := by decide +kernel
theorem dX10_find_28 : decode cX10_find 28 = .ok (.iaload, 1) := by decide +kernel
theorem dX10_find_29 : decode cX10_find 29 = .ok (.aload_n 0, 1) := by decide +kernel
theorem dX10_find_30 : decode cX10_find 30 = .ok (.getfield 113, 3) := by decide +kernel
theorem dX10_find_33 : decode cX10_find 33 = .ok (.if_icmp .ne 7, 3) := by decide +kernel
theorem dX10_find_36 : decode cX10_find 36 = .ok (.iconst 1, 1) := by decide +kernel
theorem dX10_find_37 : decode cX10_find 37 = .ok (.goto 4, 3) := by decide +kernel
theorem dX10_find_40 : decode cX10_find 40 = .ok (.iconst 0, 1) := by decide +kernel
theorem dX10_find_41 : decode cX10_find 41 = .ok (.istore_n 2, 1) := by decide +kernel
theorem dX10_find_42 : decode cX10_find 42 = .ok (.iconst 0, 1) := by decide +kernel
theorem dX10_find_43 : decode cX10_find 43 = .ok (.istore_n 3, 1) := by decide +kernel
theorem dX10_find_44 : decode cX10_find 44 = .ok (.iload_n 3, 1) := by decide +kernel
theorem dX10_find_45 : decode cX10_find 45 = .ok (.aload_n 0, 1) := by decide +kernel
theorem dX10_find_46 : decode cX10_find 46 = .ok (.getfield 113, 3) := by decide +kernel
theorem dX10_find_49 : decode cX10_find 49 = .ok (.if_icmp .ge 42, 3) := by decide +kernel
theorem dX10_find_52 : decode cX10_find 52 = .ok (.iload_n 2, 1) := by decide +kernel
theorem dX10_find_53 : decode cX10_find 53 = .ok (.ifCond .eq 38, 3) := by decide +kernel
theorem dX10_find_56 : decode cX10_find 56 = .ok (.aload_n 0, 1) := by decide +kernel
theorem dX10_find_57 : decode cX10_find 57 = .ok (.getfield 23, 3) := by decide +kernel
theorem dX10_find_60 : decode cX10_find 60 = .ok (.bipush 14, 2) := by decide +kernel
theorem dX10_find_62 : decode cX10_find 62 = .ok (.bipush 8, 2) := by decide +kernel
theorem dX10_find_64 : decode cX10_find 64 = .ok (.iload_n 1, 1) := by decide +kernel
theorem dX10_find_65 : decode cX10_find 65 = .ok (.imul, 1) := by decide +kernel
theorem dX10_find_66 : decode cX10_find 66 = .ok (.iadd, 1) := by decide +kernel
theorem dX10_find_67 : decode cX10_find 67 = .ok (.iload_n 3, 1) := by decide +kernel
theorem dX10_find_68 : decode cX10_find 68 = .ok (.iadd, 1) := by decide +kernel
theorem dX10_find_69 : decode cX10_find 69 = .ok (.iaload, 1) := by decide +kernel
theorem dX10_find_70 : decode cX10_find 70 = .ok (.aload_n 0, 1) := by decide +kernel
theorem dX10_find_71 : decode cX10_find 71 = .ok (.getfield 17, 3) := by decide +kernel
theorem dX10_find_74 : decode cX10_find 74 = .ok (.iload_n 3, 1) := by decide +kernel
theorem dX10_find_75 : decode cX10_find 75 = .ok (.iaload, 1) := by decide +kernel
theorem dX10_find_76 : decode cX10_find 76 = .ok (.if_icmp .ne 7, 3) := by decide +kernel
theorem dX10_find_79 : decode cX10_find 79 = .ok (.iconst 1, 1) := by decide +kernel
theorem dX10_find_80 : decode cX10_find 80 = .ok (.goto 4, 3) := by decide +kernel
theorem dX10_find_83 : decode cX10_find 83 = .ok (.iconst 0, 1) := by decide +kernel
theorem dX10_find_84 : decode cX10_find 84 = .ok (.istore_n 2, 1) := by decide +kernel
theorem dX10_find_85 : decode cX10_find 85 = .ok (.iinc 3 1, 3) := by decide +kernel
theorem dX10_find_88 : decode cX10_find 88 = .ok (.goto (-44), 3) := by decide +kernel
theorem dX10_find_91 : decode cX10_find 91 = .ok (.iload_n 2, 1) := by decide +kernel
theorem dX10_find_92 : decode cX10_find 92 = .ok (.ifCond .eq 5, 3) := by decide +kernel
theorem dX10_find_95 : decode cX10_find 95 = .ok (.iload_n 1, 1) := by decide +kernel
theorem dX10_find_96 : decode cX10_find 96 = .ok (.ireturn, 1) := by decide +kernel
theorem dX10_find_97 : decode cX10_find 97 = .ok (.iinc 1 1, 3) := by decide +kernel
theorem dX10_find_100 : decode cX10_find 100 = .ok (.goto (-98), 3) := by decide +kernel
theorem dX10_find_103 : decode cX10_find 103 = .ok (.iconst (-1), 1) := by decide +kernel
theorem dX10_find_104 : decode cX10_find 104 = .ok (.ireturn, 1) := by decide +kernel
theorem dX10_keepName_0 : decode cX10_keepName 0 = .ok (.iconst 0, 1) := by decide +kernel
theorem dX10_keepName_1 : decode cX10_keepName 1 = .ok (.istore_n 2, 1) := by decide +kernel
theorem dX10_keepName_2 : decode cX10_keepName 2 = .ok (.iload_n 2, 1) := by decide +kernel
theorem dX10_keepName_3 : decode cX10_keepName 3 = .ok (.aload_n 0, 1) := by decide +kernel
theorem dX10_keepName_4 : decode cX10_keepName 4 = .ok (.getfield 113, 3) := by decide +kernel
theorem dX10_keepName_7 : decode cX10_keepName 7 = .ok (.if_icmp .ge 29, 3) := by decide +kernel
theorem dX10_keepName_10 : decode cX10_keepName 10 = .ok (.aload_n 0, 1) := by decide +kernel
theorem dX10_keepName_11 : decode cX10_keepName 11 = .ok (.getfield 23, 3) := by decide +kernel
theorem dX10_keepName_14 : decode cX10_keepName 14 = .ok (.bipush 14, 2) := by decide +kernel
theorem dX10_keepName_16 : decode cX10_keepName 16 = .ok (.bipush 8, 2) := by decide +kernel
theorem dX10_keepName_18 : decode cX10_keepName 18 = .ok (.iload_n 1, 1) := by decide +kernel
theorem dX10_keepName_19 : decode cX10_keepName 19 = .ok (.imul, 1) := by decide +kernel
theorem dX10_keepName_20 : decode cX10_keepName 20 = .ok (.iadd, 1) := by decide +kernel
theorem dX10_keepName_21 : decode cX10_keepName 21 = .ok (.iload_n 2, 1) := by decide +kernel
theorem dX10_keepName_22 : decode cX10_keepName 22 = .ok (.iadd, 1) := by decide +kernel
theorem dX10_keepName_23 : decode cX10_keepName 23 = .ok (.aload_n 0, 1) := by decide +kernel
theorem dX10_keepName_24 : decode cX10_keepName 24 = .ok (.getfield 17, 3) := by decide +kernel
theorem dX10_keepName_27 : decode cX10_keepName 27 = .ok (.iload_n 2, 1) := by decide +kernel
theorem dX10_keepName_28 : decode cX10_keepName 28 = .ok (.iaload, 1) := by decide +kernel
theorem dX10_keepName_29 : decode cX10_keepName 29 = .ok (.iastore, 1) := by decide +kernel
theorem dX10_keepName_30 : decode cX10_keepName 30 = .ok (.iinc 2 1, 3) := by decide +kernel
theorem dX10_keepName_33 : decode cX10_keepName 33 = .ok (.goto (-31), 3) := by decide +kernel
theorem dX10_keepName_36 : decode cX10_keepName 36 = .ok (.aload_n 0, 1) := by decide +kernel
theorem dX10_keepName_37 : decode cX10_keepName 37 = .ok (.getfield 23, 3) := by decide +kernel
theorem dX10_keepName_40 : decode cX10_keepName 40 = .ok (.bipush 7, 2) := by decide +kernel
theorem dX10_keepName_42 : decode cX10_keepName 42 = .ok (.iload_n 1, 1) := by decide +kernel
theorem dX10_keepName_43 : decode cX10_keepName 43 = .ok (.iadd, 1) := by decide +kernel
theorem dX10_keepName_44 : decode cX10_keepName 44 = .ok (.aload_n 0, 1) := by decide +kernel
theorem dX10_keepName_45 : decode cX10_keepName 45 = .ok (.getfield 113, 3) := by decide +kernel
theorem dX10_keepName_48 : decode cX10_keepName 48 = .ok (.iastore, 1) := by decide +kernel
theorem dX10_keepName_49 : decode cX10_keepName 49 = .ok (.return_, 1) := by decide +kernel
theorem dX10_named_0 : decode cX10_named 0 = .ok (.aload_n 0, 1) := by decide +kernel
theorem dX10_named_1 : decode cX10_named 1 = .ok (.getfield 129, 3) := by decide +kernel
theorem dX10_named_4 : decode cX10_named 4 = .ok (.ifCond .eq 5, 3) := by decide +kernel
theorem dX10_named_7 : decode cX10_named 7 = .ok (.iconst 0, 1) := by decide +kernel
theorem dX10_named_8 : decode cX10_named 8 = .ok (.ireturn, 1) := by decide +kernel
theorem dX10_named_9 : decode cX10_named 9 = .ok (.aload_n 0, 1) := by decide +kernel
theorem dX10_named_10 : decode cX10_named 10 = .ok (.invokevirtual 170, 3) := by decide +kernel
theorem dX10_named_13 : decode cX10_named 13 = .ok (.aload_n 0, 1) := by decide +kernel
theorem dX10_named_14 : decode cX10_named 14 = .ok (.getfield 129, 3) := by decide +kernel
theorem dX10_named_17 : decode cX10_named 17 = .ok (.ifCond .eq 5, 3) := by decide +kernel
theorem dX10_named_20 : decode cX10_named 20 = .ok (.iconst 0, 1) := by decide +kernel
theorem dX10_named_21 : decode cX10_named 21 = .ok (.ireturn, 1) := by decide +kernel
theorem dX10_named_22 : decode cX10_named 22 = .ok (.aload_n 0, 1) := by decide +kernel
theorem dX10_named_23 : decode cX10_named 23 = .ok (.invokevirtual 173, 3) := by decide +kernel
theorem dX10_named_26 : decode cX10_named 26 = .ok (.istore_n 2, 1) := by decide +kernel
theorem dX10_named_27 : decode cX10_named 27 = .ok (.iload_n 2, 1) := by decide +kernel
theorem dX10_named_28 : decode cX10_named 28 = .ok (.ifCond .lt 17, 3) := by decide +kernel
theorem dX10_named_31 : decode cX10_named 31 = .ok (.iload_n 1, 1) := by decide +kernel
theorem dX10_named_32 : decode cX10_named 32 = .ok (.iload_n 2, 1) := by decide +kernel
theorem dX10_named_33 : decode cX10_named 33 = .ok (.iconst 3, 1) := by decide +kernel
theorem dX10_named_34 : decode cX10_named 34 = .ok (.if_icmp .ge 7, 3) := by decide +kernel
theorem dX10_named_37 : decode cX10_named 37 = .ok (.iconst 1, 1) := by decide +kernel
theorem dX10_named_38 : decode cX10_named 38 = .ok (.goto 4, 3) := by decide +kernel
theorem dX10_named_41 : decode cX10_named 41 = .ok (.iconst 0, 1) := by decide +kernel
theorem dX10_named_42 : decode cX10_named 42 = .ok (.if_icmp .eq 12, 3) := by decide +kernel
theorem dX10_named_45 : decode cX10_named 45 = .ok (.aload_n 0, 1) := by decide +kernel
theorem dX10_named_46 : decode cX10_named 46 = .ok (.iconst 2, 1) := by decide +kernel
theorem dX10_named_47 : decode cX10_named 47 = .ok (.aload_n 0, 1) := by decide +kernel
theorem dX10_named_48 : decode cX10_named 48 = .ok (.getfield 110, 3) := by decide +kernel
theorem dX10_named_51 : decode cX10_named 51 = .ok (.invokevirtual 156, 3) := by decide +kernel
theorem dX10_named_54 : decode cX10_named 54 = .ok (.aload_n 0, 1) := by decide +kernel
theorem dX10_named_55 : decode cX10_named 55 = .ok (.getfield 129, 3) := by decide +kernel
theorem dX10_named_58 : decode cX10_named 58 = .ok (.ifCond .eq 5, 3) := by decide +kernel
theorem dX10_named_61 : decode cX10_named 61 = .ok (.iconst 0, 1) := by decide +kernel
theorem dX10_named_62 : decode cX10_named 62 = .ok (.ireturn, 1) := by decide +kernel
theorem dX10_named_63 : decode cX10_named 63 = .ok (.iload_n 1, 1) := by decide +kernel
theorem dX10_named_64 : decode cX10_named 64 = .ok (.ifCond .eq 7, 3) := by decide +kernel
theorem dX10_named_67 : decode cX10_named 67 = .ok (.iload_n 2, 1) := by decide +kernel
theorem dX10_named_68 : decode cX10_named 68 = .ok (.goto 6, 3) := by decide +kernel
theorem dX10_named_71 : decode cX10_named 71 = .ok (.iload_n 2, 1) := by decide +kernel
theorem dX10_named_72 : decode cX10_named 72 = .ok (.iconst 3, 1) := by decide +kernel
theorem dX10_named_73 : decode cX10_named 73 = .ok (.isub, 1) := by decide +kernel
theorem dX10_named_74 : decode cX10_named 74 = .ok (.ireturn, 1) := by decide +kernel
theorem dX10_number_0 : decode cX10_number 0 = .ok (.aload_n 0, 1) := by decide +kernel
theorem dX10_number_1 : decode cX10_number 1 = .ok (.getfield 129, 3) := by decide +kernel
theorem dX10_number_4 : decode cX10_number 4 = .ok (.ifCond .eq 5, 3) := by decide +kernel
theorem dX10_number_7 : decode cX10_number 7 = .ok (.iload_n 1, 1) := by decide +kernel
theorem dX10_number_8 : decode cX10_number 8 = .ok (.ireturn, 1) := by decide +kernel
theorem dX10_number_9 : decode cX10_number 9 = .ok (.aload_n 0, 1) := by decide +kernel
theorem dX10_number_10 : decode cX10_number 10 = .ok (.getfield 119, 3) := by decide +kernel
theorem dX10_number_13 : decode cX10_number 13 = .ok (.iconst 3, 1) := by decide +kernel
theorem dX10_number_14 : decode cX10_number 14 = .ok (.if_icmp .eq 14, 3) := by decide +kernel
theorem dX10_number_17 : decode cX10_number 17 = .ok (.aload_n 0, 1) := by decide +kernel
theorem dX10_number_18 : decode cX10_number 18 = .ok (.iconst 1, 1) := by decide +kernel
theorem dX10_number_19 : decode cX10_number 19 = .ok (.aload_n 0, 1) := by decide +kernel
theorem dX10_number_20 : decode cX10_number 20 = .ok (.getfield 110, 3) := by decide +kernel
theorem dX10_number_23 : decode cX10_number 23 = .ok (.invokevirtual 156, 3) := by decide +kernel
theorem dX10_number_26 : decode cX10_number 26 = .ok (.iload_n 1, 1) := by decide +kernel
theorem dX10_number_27 : decode cX10_number 27 = .ok (.ireturn, 1) := by decide +kernel
theorem dX10_number_28 : decode cX10_number 28 = .ok (.aload_n 0, 1) := by decide +kernel
theorem dX10_number_29 : decode cX10_number 29 = .ok (.getfield 116, 3) := by decide +kernel
theorem dX10_number_32 : decode cX10_number 32 = .ok (.istore_n 3, 1) := by decide +kernel
theorem dX10_number_33 : decode cX10_number 33 = .ok (.iload_n 3, 1) := by decide +kernel
theorem dX10_number_34 : decode cX10_number 34 = .ok (.iload_n 1, 1) := by decide +kernel
theorem dX10_number_35 : decode cX10_number 35 = .ok (.iload_n 2, 1) := by decide +kernel
theorem dX10_number_36 : decode cX10_number 36 = .ok (.invokestatic 176, 3) := by decide +kernel
theorem dX10_number_39 : decode cX10_number 39 = .ok (.ifCond .ne 14, 3) := by decide +kernel
theorem dX10_number_42 : decode cX10_number 42 = .ok (.aload_n 0, 1) := by decide +kernel
theorem dX10_number_43 : decode cX10_number 43 = .ok (.iconst 4, 1) := by decide +kernel
theorem dX10_number_44 : decode cX10_number 44 = .ok (.aload_n 0, 1) := by decide +kernel
theorem dX10_number_45 : decode cX10_number 45 = .ok (.getfield 110, 3) := by decide +kernel
theorem dX10_number_48 : decode cX10_number 48 = .ok (.invokevirtual 156, 3) := by decide +kernel
theorem dX10_number_51 : decode cX10_number 51 = .ok (.iload_n 1, 1) := by decide +kernel
theorem dX10_number_52 : decode cX10_number 52 = .ok (.ireturn, 1) := by decide +kernel
theorem dX10_number_53 : decode cX10_number 53 = .ok (.aload_n 0, 1) := by decide +kernel
theorem dX10_number_54 : decode cX10_number 54 = .ok (.invokevirtual 150, 3) := by decide +kernel
theorem dX10_number_57 : decode cX10_number 57 = .ok (.iload_n 3, 1) := by decide +kernel
theorem dX10_number_58 : decode cX10_number 58 = .ok (.ireturn, 1) := by decide +kernel
theorem dX10_comma_0 : decode cX10_comma 0 = .ok (.aload_n 0, 1) := by decide +kernel
theorem dX10_comma_1 : decode cX10_comma 1 = .ok (.getfield 129, 3) := by decide +kernel
theorem dX10_comma_4 : decode cX10_comma 4 = .ok (.ifCond .ne 12, 3) := by decide +kernel
theorem dX10_comma_7 : decode cX10_comma 7 = .ok (.aload_n 0, 1) := by decide +kernel
theorem dX10_comma_8 : decode cX10_comma 8 = .ok (.getfield 119, 3) := by decide +kernel
theorem dX10_comma_11 : decode cX10_comma 11 = .ok (.bipush 44, 2) := by decide +kernel
theorem dX10_comma_13 : decode cX10_comma 13 = .ok (.if_icmp .eq 5, 3) := by decide +kernel
theorem dX10_comma_16 : decode cX10_comma 16 = .ok (.iconst 0, 1) := by decide +kernel
theorem dX10_comma_17 : decode cX10_comma 17 = .ok (.ireturn, 1) := by decide +kernel
theorem dX10_comma_18 : decode cX10_comma 18 = .ok (.aload_n 0, 1) := by decide +kernel
theorem dX10_comma_19 : decode cX10_comma 19 = .ok (.invokevirtual 150, 3) := by decide +kernel
theorem dX10_comma_22 : decode cX10_comma 22 = .ok (.iconst 1, 1) := by decide +kernel
theorem dX10_comma_23 : decode cX10_comma 23 = .ok (.ireturn, 1) := by decide +kernel
theorem dX10_book_0 : decode cX10_book 0 = .ok (.aload_n 0, 1) := by decide +kernel
theorem dX10_book_1 : decode cX10_book 1 = .ok (.invokevirtual 180, 3) := by decide +kernel
theorem dX10_book_4 : decode cX10_book 4 = .ok (.iload_n 1, 1) := by decide +kernel
theorem dX10_book_5 : decode cX10_book 5 = .ok (.iconst 0, 1) := by decide +kernel
theorem dX10_book_6 : decode cX10_book 6 = .ok (.aload_n 0, 1) := by decide +kernel
theorem dX10_book_7 : decode cX10_book 7 = .ok (.getfield 97, 3) := by decide +kernel
theorem dX10_book_10 : decode cX10_book 10 = .ok (.invokestatic 176, 3) := by decide +kernel
theorem dX10_book_13 : decode cX10_book 13 = .ok (.ifCond .ne 9, 3) := by decide +kernel
theorem dX10_book_16 : decode cX10_book 16 = .ok (.aload_n 0, 1) := by decide +kernel
theorem dX10_book_17 : decode cX10_book 17 = .ok (.iconst 2, 1) := by decide +kernel
theorem dX10_book_18 : decode cX10_book 18 = .ok (.invokevirtual 183, 3) := by decide +kernel
theorem dX10_book_21 : decode cX10_book 21 = .ok (.ireturn, 1) := by decide +kernel
theorem dX10_book_22 : decode cX10_book 22 = .ok (.aload_n 0, 1) := by decide +kernel
theorem dX10_book_23 : decode cX10_book 23 = .ok (.iconst 0, 1) := by decide +kernel
theorem dX10_book_24 : decode cX10_book 24 = .ok (.putfield 97, 3) := by decide +kernel
theorem dX10_book_27 : decode cX10_book 27 = .ok (.aload_n 0, 1) := by decide +kernel
theorem dX10_book_28 : decode cX10_book 28 = .ok (.iconst 0, 1) := by decide +kernel
theorem dX10_book_29 : decode cX10_book 29 = .ok (.putfield 133, 3) := by decide +kernel
theorem dX10_book_32 : decode cX10_book 32 = .ok (.aload_n 0, 1) := by decide +kernel
theorem dX10_book_33 : decode cX10_book 33 = .ok (.iconst 0, 1) := by decide +kernel
theorem dX10_book_34 : decode cX10_book 34 = .ok (.putfield 129, 3) := by decide +kernel
theorem dX10_book_37 : decode cX10_book 37 = .ok (.iconst 0, 1) := by decide +kernel
theorem dX10_book_38 : decode cX10_book 38 = .ok (.istore_n 2, 1) := by decide +kernel
theorem dX10_book_39 : decode cX10_book 39 = .ok (.iload_n 2, 1) := by decide +kernel
theorem dX10_book_40 : decode cX10_book 40 = .ok (.bipush 70, 2) := by decide +kernel
theorem dX10_book_42 : decode cX10_book 42 = .ok (.if_icmp .ge 16, 3) := by decide +kernel
theorem dX10_book_45 : decode cX10_book 45 = .ok (.aload_n 0, 1) := by decide +kernel
theorem dX10_book_46 : decode cX10_book 46 = .ok (.getfield 23, 3) := by decide +kernel
theorem dX10_book_49 : decode cX10_book 49 = .ok (.iload_n 2, 1) := by decide +kernel
theorem dX10_book_50 : decode cX10_book 50 = .ok (.iconst 0, 1) := by decide +kernel
theorem dX10_book_51 : decode cX10_book 51 = .ok (.iastore, 1) := by decide +kernel
theorem dX10_book_52 : decode cX10_book 52 = .ok (.iinc 2 1, 3) := by decide +kernel
theorem dX10_book_55 : decode cX10_book 55 = .ok (.goto (-16), 3) := by decide +kernel
theorem dX10_book_58 : decode cX10_book 58 = .ok (.iconst 0, 1) := by decide +kernel
theorem dX10_book_59 : decode cX10_book 59 = .ok (.istore_n 2, 1) := by decide +kernel
theorem dX10_book_60 : decode cX10_book 60 = .ok (.iload_n 2, 1) := by decide +kernel
theorem dX10_book_61 : decode cX10_book 61 = .ok (.sipush 142, 3) := by decide +kernel
theorem dX10_book_64 : decode cX10_book 64 = .ok (.if_icmp .ge 16, 3) := by decide +kernel
theorem dX10_book_67 : decode cX10_book 67 = .ok (.aload_n 0, 1) := by decide +kernel
theorem dX10_book_68 : decode cX10_book 68 = .ok (.getfield 29, 3) := by decide +kernel
theorem dX10_book_71 : decode cX10_book 71 = .ok (.iload_n 2, 1) := by decide +kernel
theorem dX10_book_72 : decode cX10_book 72 = .ok (.iconst 0, 1) := by decide +kernel
theorem dX10_book_73 : decode cX10_book 73 = .ok (.iastore, 1) := by decide +kernel
theorem dX10_book_74 : decode cX10_book 74 = .ok (.iinc 2 1, 3) := by decide +kernel
theorem dX10_book_77 : decode cX10_book 77 = .ok (.goto (-17), 3) := by decide +kernel
theorem dX10_book_80 : decode cX10_book 80 = .ok (.aload_n 0, 1) := by decide +kernel
theorem dX10_book_81 : decode cX10_book 81 = .ok (.iload_n 1, 1) := by decide +kernel
theorem dX10_book_82 : decode cX10_book 82 = .ok (.putfield 100, 3) := by decide +kernel
theorem dX10_book_85 : decode cX10_book 85 = .ok (.aload_n 0, 1) := by decide +kernel
theorem dX10_book_86 : decode cX10_book 86 = .ok (.iconst 0, 1) := by decide +kernel
theorem dX10_book_87 : decode cX10_book 87 = .ok (.putfield 103, 3) := by decide +kernel
theorem dX10_book_90 : decode cX10_book 90 = .ok (.aload_n 0, 1) := by decide +kernel
theorem dX10_book_91 : decode cX10_book 91 = .ok (.invokevirtual 150, 3) := by decide +kernel
theorem dX10_book_94 : decode cX10_book 94 = .ok (.aload_n 0, 1) := by decide +kernel
theorem dX10_book_95 : decode cX10_book 95 = .ok (.invokevirtual 186, 3) := by decide +kernel
theorem dX10_book_98 : decode cX10_book 98 = .ok (.aload_n 0, 1) := by decide +kernel
theorem dX10_book_99 : decode cX10_book 99 = .ok (.getfield 129, 3) := by decide +kernel
theorem dX10_book_102 : decode cX10_book 102 = .ok (.ifCond .ne 23, 3) := by decide +kernel
theorem dX10_book_105 : decode cX10_book 105 = .ok (.aload_n 0, 1) := by decide +kernel
theorem dX10_book_106 : decode cX10_book 106 = .ok (.getfield 119, 3) := by decide +kernel
theorem dX10_book_109 : decode cX10_book 109 = .ok (.bipush 59, 2) := by decide +kernel
theorem dX10_book_111 : decode cX10_book 111 = .ok (.if_icmp .ne 14, 3) := by decide +kernel
theorem dX10_book_114 : decode cX10_book 114 = .ok (.aload_n 0, 1) := by decide +kernel
theorem dX10_book_115 : decode cX10_book 115 = .ok (.invokevirtual 150, 3) := by decide +kernel
theorem dX10_book_118 : decode cX10_book 118 = .ok (.aload_n 0, 1) := by decide +kernel
theorem dX10_book_119 : decode cX10_book 119 = .ok (.invokevirtual 186, 3) := by decide +kernel
theorem dX10_book_122 : decode cX10_book 122 = .ok (.goto (-24), 3) := by decide +kernel
theorem dX10_book_125 : decode cX10_book 125 = .ok (.aload_n 0, 1) := by decide +kernel
theorem dX10_book_126 : decode cX10_book 126 = .ok (.getfield 129, 3) := by decide +kernel
theorem dX10_book_129 : decode cX10_book 129 = .ok (.ifCond .ne 19, 3) := by decide +kernel
theorem dX10_book_132 : decode cX10_book 132 = .ok (.aload_n 0, 1) := by decide +kernel
theorem dX10_book_133 : decode cX10_book 133 = .ok (.getfield 119, 3) := by decide +kernel
theorem dX10_book_136 : decode cX10_book 136 = .ok (.ifCond .eq 12, 3) := by decide +kernel
theorem dX10_book_139 : decode cX10_book 139 = .ok (.aload_n 0, 1) := by decide +kernel
theorem dX10_book_140 : decode cX10_book 140 = .ok (.iconst 1, 1) := by decide +kernel
theorem dX10_book_141 : decode cX10_book 141 = .ok (.aload_n 0, 1) := by decide +kernel
theorem dX10_book_142 : decode cX10_book 142 = .ok (.getfield 110, 3) := by decide +kernel
theorem dX10_book_145 : decode cX10_book 145 = .ok (.invokevirtual 156, 3) := by decide +kernel
theorem dX10_book_148 : decode cX10_book 148 = .ok (.aload_n 0, 1) := by decide +kernel
theorem dX10_book_149 : decode cX10_book 149 = .ok (.getfield 129, 3) := by decide +kernel
theorem dX10_book_152 : decode cX10_book 152 = .ok (.ifCond .ne 41, 3) := by decide +kernel
theorem dX10_book_155 : decode cX10_book 155 = .ok (.aload_n 0, 1) := by decide +kernel
theorem dX10_book_156 : decode cX10_book 156 = .ok (.getfield 23, 3) := by decide +kernel
theorem dX10_book_159 : decode cX10_book 159 = .ok (.iconst 1, 1) := by decide +kernel
theorem dX10_book_160 : decode cX10_book 160 = .ok (.iaload, 1) := by decide +kernel
theorem dX10_book_161 : decode cX10_book 161 = .ok (.ifCond .eq 22, 3) := by decide +kernel
theorem dX10_book_164 : decode cX10_book 164 = .ok (.aload_n 0, 1) := by decide +kernel
theorem dX10_book_165 : decode cX10_book 165 = .ok (.getfield 23, 3) := by decide +kernel
theorem dX10_book_168 : decode cX10_book 168 = .ok (.iconst 2, 1) := by decide +kernel
theorem dX10_book_169 : decode cX10_book 169 = .ok (.iaload, 1) := by decide +kernel
theorem dX10_book_170 : decode cX10_book 170 = .ok (.ifCond .eq 13, 3) := by decide +kernel
theorem dX10_book_173 : decode cX10_book 173 = .ok (.aload_n 0, 1) := by decide +kernel
theorem dX10_book_174 : decode cX10_book 174 = .ok (.getfield 23, 3) := by decide +kernel
theorem dX10_book_177 : decode cX10_book 177 = .ok (.bipush 6, 2) := by decide +kernel
theorem dX10_book_179 : decode cX10_book 179 = .ok (.iaload, 1) := by decide +kernel
theorem dX10_book_180 : decode cX10_book 180 = .ok (.ifCond .ne 13, 3) := by decide +kernel
theorem dX10_book_183 : decode cX10_book 183 = .ok (.aload_n 0, 1) := by decide +kernel
theorem dX10_book_184 : decode cX10_book 184 = .ok (.bipush 6, 2) := by decide +kernel
theorem dX10_book_186 : decode cX10_book 186 = .ok (.aload_n 0, 1) := by decide +kernel
theorem dX10_book_187 : decode cX10_book 187 = .ok (.getfield 110, 3) := by decide +kernel
theorem dX10_book_190 : decode cX10_book 190 = .ok (.invokevirtual 156, 3) := by decide +kernel
theorem dX10_book_193 : decode cX10_book 193 = .ok (.aload_n 0, 1) := by decide +kernel
theorem dX10_book_194 : decode cX10_book 194 = .ok (.getfield 129, 3) := by decide +kernel
theorem dX10_book_197 : decode cX10_book 197 = .ok (.ifCond .eq 9, 3) := by decide +kernel
theorem dX10_book_200 : decode cX10_book 200 = .ok (.aload_n 0, 1) := by decide +kernel
theorem dX10_book_201 : decode cX10_book 201 = .ok (.iconst 4, 1) := by decide +kernel
theorem dX10_book_202 : decode cX10_book 202 = .ok (.invokevirtual 183, 3) := by decide +kernel
theorem dX10_book_205 : decode cX10_book 205 = .ok (.ireturn, 1) := by decide +kernel
theorem dX10_book_206 : decode cX10_book 206 = .ok (.aload_n 0, 1) := by decide +kernel
theorem dX10_book_207 : decode cX10_book 207 = .ok (.getfield 23, 3) := by decide +kernel
theorem dX10_book_210 : decode cX10_book 210 = .ok (.iconst 0, 1) := by decide +kernel
theorem dX10_book_211 : decode cX10_book 211 = .ok (.aload_n 0, 1) := by decide +kernel
theorem dX10_book_212 : decode cX10_book 212 = .ok (.getfield 20, 3) := by decide +kernel
theorem dX10_book_215 : decode cX10_book 215 = .ok (.iconst 0, 1) := by decide +kernel
theorem dX10_book_216 : decode cX10_book 216 = .ok (.bipush 70, 2) := by decide +kernel
theorem dX10_book_218 : decode cX10_book 218 = .ok (.invokestatic 189, 3) := by decide +kernel
theorem dX10_book_221 : decode cX10_book 221 = .ok (.aload_n 0, 1) := by decide +kernel
theorem dX10_book_222 : decode cX10_book 222 = .ok (.getfield 29, 3) := by decide +kernel
theorem dX10_book_225 : decode cX10_book 225 = .ok (.iconst 0, 1) := by decide +kernel
theorem dX10_book_226 : decode cX10_book 226 = .ok (.aload_n 0, 1) := by decide +kernel
theorem dX10_book_227 : decode cX10_book 227 = .ok (.getfield 26, 3) := by decide +kernel
theorem dX10_book_230 : decode cX10_book 230 = .ok (.iconst 0, 1) := by decide +kernel
theorem dX10_book_231 : decode cX10_book 231 = .ok (.sipush 142, 3) := by decide +kernel
theorem dX10_book_234 : decode cX10_book 234 = .ok (.invokestatic 189, 3) := by decide +kernel
theorem dX10_book_237 : decode cX10_book 237 = .ok (.aload_n 0, 1) := by decide +kernel
theorem dX10_book_238 : decode cX10_book 238 = .ok (.iconst 1, 1) := by decide +kernel
theorem dX10_book_239 : decode cX10_book 239 = .ok (.putfield 193, 3) := by decide +kernel
theorem dX10_book_242 : decode cX10_book 242 = .ok (.aload_n 0, 1) := by decide +kernel
theorem dX10_book_243 : decode cX10_book 243 = .ok (.iconst 0, 1) := by decide +kernel
theorem dX10_book_244 : decode cX10_book 244 = .ok (.putfield 196, 3) := by decide +kernel
theorem dX10_book_247 : decode cX10_book 247 = .ok (.aload_n 0, 1) := by decide +kernel
theorem dX10_book_248 : decode cX10_book 248 = .ok (.getfield 26, 3) := by decide +kernel
theorem dX10_book_251 : decode cX10_book 251 = .ok (.sipush 141, 3) := by decide +kernel
theorem dX10_book_254 : decode cX10_book 254 = .ok (.iaload, 1) := by decide +kernel
theorem dX10_book_255 : decode cX10_book 255 = .ok (.ireturn, 1) := by decide +kernel
theorem dX10_begins_0 : decode cX10_begins 0 = .ok (.aload_n 0, 1) := by decide +kernel
theorem dX10_begins_1 : decode cX10_begins 1 = .ok (.aload_n 1, 1) := by decide +kernel
theorem dX10_begins_2 : decode cX10_begins 2 = .ok (.invokevirtual 146, 3) := by decide +kernel
theorem dX10_begins_5 : decode cX10_begins 5 = .ok (.ifCond .ne 5, 3) := by decide +kernel
theorem dX10_begins_8 : decode cX10_begins 8 = .ok (.iconst 0, 1) := by decide +kernel
theorem dX10_begins_9 : decode cX10_begins 9 = .ok (.ireturn, 1) := by decide +kernel
theorem dX10_begins_10 : decode cX10_begins 10 = .ok (.iload_n 2, 1) := by decide +kernel
theorem dX10_begins_11 : decode cX10_begins 11 = .ok (.ifCond .ne 12, 3) := by decide +kernel
theorem dX10_begins_14 : decode cX10_begins 14 = .ok (.aload_n 0, 1) := by decide +kernel
theorem dX10_begins_15 : decode cX10_begins 15 = .ok (.iload_n 3, 1) := by decide +kernel
theorem dX10_begins_16 : decode cX10_begins 16 = .ok (.aload_n 0, 1) := by decide +kernel
theorem dX10_begins_17 : decode cX10_begins 17 = .ok (.getfield 110, 3) := by decide +kernel
theorem dX10_begins_20 : decode cX10_begins 20 = .ok (.invokevirtual 156, 3) := by decide +kernel
theorem dX10_begins_23 : decode cX10_begins 23 = .ok (.aload_n 0, 1) := by decide +kernel
theorem dX10_begins_24 : decode cX10_begins 24 = .ok (.getfield 129, 3) := by decide +kernel
theorem dX10_begins_27 : decode cX10_begins 27 = .ok (.ifCond .ne 7, 3) := by decide +kernel
theorem dX10_begins_30 : decode cX10_begins 30 = .ok (.aload_n 0, 1) := by decide +kernel
theorem dX10_begins_31 : decode cX10_begins 31 = .ok (.invokevirtual 150, 3) := by decide +kernel
theorem dX10_begins_34 : decode cX10_begins 34 = .ok (.iconst 1, 1) := by decide +kernel
theorem dX10_begins_35 : decode cX10_begins 35 = .ok (.ireturn, 1) := by decide +kernel
theorem dX10_readLine_0 : decode cX10_readLine 0 = .ok (.aload_n 0, 1) := by decide +kernel
theorem dX10_readLine_1 : decode cX10_readLine 1 = .ok (.ldc 160, 2) := by decide +kernel
theorem dX10_readLine_3 : decode cX10_readLine 3 = .ok (.aload_n 0, 1) := by decide +kernel
theorem dX10_readLine_4 : decode cX10_readLine 4 = .ok (.getfield 23, 3) := by decide +kernel
theorem dX10_readLine_7 : decode cX10_readLine 7 = .ok (.iconst 1, 1) := by decide +kernel
theorem dX10_readLine_8 : decode cX10_readLine 8 = .ok (.iaload, 1) := by decide +kernel
theorem dX10_readLine_9 : decode cX10_readLine 9 = .ok (.ifCond .ne 7, 3) := by decide +kernel
theorem dX10_readLine_12 : decode cX10_readLine 12 = .ok (.iconst 1, 1) := by decide +kernel
theorem dX10_readLine_13 : decode cX10_readLine 13 = .ok (.goto 4, 3) := by decide +kernel
theorem dX10_readLine_16 : decode cX10_readLine 16 = .ok (.iconst 0, 1) := by decide +kernel
theorem dX10_readLine_17 : decode cX10_readLine 17 = .ok (.iconst 3, 1) := by decide +kernel
theorem dX10_readLine_18 : decode cX10_readLine 18 = .ok (.invokevirtual 199, 3) := by decide +kernel
theorem dX10_readLine_21 : decode cX10_readLine 21 = .ok (.ifCond .eq 10, 3) := by decide +kernel
theorem dX10_readLine_24 : decode cX10_readLine 24 = .ok (.aload_n 0, 1) := by decide +kernel
theorem dX10_readLine_25 : decode cX10_readLine 25 = .ok (.invokevirtual 203, 3) := by decide +kernel
theorem dX10_readLine_28 : decode cX10_readLine 28 = .ok (.goto 97, 3) := by decide +kernel
theorem dX10_readLine_31 : decode cX10_readLine 31 = .ok (.aload_n 0, 1) := by decide +kernel
theorem dX10_readLine_32 : decode cX10_readLine 32 = .ok (.ldc 162, 2) := by decide +kernel
theorem dX10_readLine_34 : decode cX10_readLine 34 = .ok (.aload_n 0, 1) := by decide +kernel
theorem dX10_readLine_35 : decode cX10_readLine 35 = .ok (.getfield 23, 3) := by decide +kernel
theorem dX10_readLine_38 : decode cX10_readLine 38 = .ok (.iconst 2, 1) := by decide +kernel
theorem dX10_readLine_39 : decode cX10_readLine 39 = .ok (.iaload, 1) := by decide +kernel
theorem dX10_readLine_40 : decode cX10_readLine 40 = .ok (.iconst 3, 1) := by decide +kernel
theorem dX10_readLine_41 : decode cX10_readLine 41 = .ok (.if_icmp .ge 7, 3) := by decide +kernel
theorem dX10_readLine_44 : decode cX10_readLine 44 = .ok (.iconst 1, 1) := by decide +kernel
theorem dX10_readLine_45 : decode cX10_readLine 45 = .ok (.goto 4, 3) := by decide +kernel
theorem dX10_readLine_48 : decode cX10_readLine 48 = .ok (.iconst 0, 1) := by decide +kernel
theorem dX10_readLine_49 : decode cX10_readLine 49 = .ok (.iconst 5, 1) := by decide +kernel
theorem dX10_readLine_50 : decode cX10_readLine 50 = .ok (.invokevirtual 199, 3) := by decide +kernel
theorem dX10_readLine_53 : decode cX10_readLine 53 = .ok (.ifCond .eq 10, 3) := by decide +kernel
theorem dX10_readLine_56 : decode cX10_readLine 56 = .ok (.aload_n 0, 1) := by decide +kernel
theorem dX10_readLine_57 : decode cX10_readLine 57 = .ok (.invokevirtual 206, 3) := by decide +kernel
theorem dX10_readLine_60 : decode cX10_readLine 60 = .ok (.goto 65, 3) := by decide +kernel
theorem dX10_readLine_63 : decode cX10_readLine 63 = .ok (.aload_n 0, 1) := by decide +kernel
theorem dX10_readLine_64 : decode cX10_readLine 64 = .ok (.ldc 164, 2) := by decide +kernel
theorem dX10_readLine_66 : decode cX10_readLine 66 = .ok (.iconst 1, 1) := by decide +kernel
theorem dX10_readLine_67 : decode cX10_readLine 67 = .ok (.iconst 1, 1) := by decide +kernel
theorem dX10_readLine_68 : decode cX10_readLine 68 = .ok (.invokevirtual 199, 3) := by decide +kernel
theorem dX10_readLine_71 : decode cX10_readLine 71 = .ok (.ifCond .eq 10, 3) := by decide +kernel
theorem dX10_readLine_74 : decode cX10_readLine 74 = .ok (.aload_n 0, 1) := by decide +kernel
theorem dX10_readLine_75 : decode cX10_readLine 75 = .ok (.invokevirtual 209, 3) := by decide +kernel
theorem dX10_readLine_78 : decode cX10_readLine 78 = .ok (.goto 47, 3) := by decide +kernel
theorem dX10_readLine_81 : decode cX10_readLine 81 = .ok (.aload_n 0, 1) := by decide +kernel
theorem dX10_readLine_82 : decode cX10_readLine 82 = .ok (.ldc 166, 2) := by decide +kernel
theorem dX10_readLine_84 : decode cX10_readLine 84 = .ok (.aload_n 0, 1) := by decide +kernel
theorem dX10_readLine_85 : decode cX10_readLine 85 = .ok (.getfield 29, 3) := by decide +kernel
theorem dX10_readLine_88 : decode cX10_readLine 88 = .ok (.sipush 141, 3) := by decide +kernel
theorem dX10_readLine_91 : decode cX10_readLine 91 = .ok (.iaload, 1) := by decide +kernel
theorem dX10_readLine_92 : decode cX10_readLine 92 = .ok (.bipush 20, 2) := by decide +kernel
theorem dX10_readLine_94 : decode cX10_readLine 94 = .ok (.if_icmp .ge 7, 3) := by decide +kernel
theorem dX10_readLine_97 : decode cX10_readLine 97 = .ok (.iconst 1, 1) := by decide +kernel
theorem dX10_readLine_98 : decode cX10_readLine 98 = .ok (.goto 4, 3) := by decide +kernel
theorem dX10_readLine_101 : decode cX10_readLine 101 = .ok (.iconst 0, 1) := by decide +kernel
theorem dX10_readLine_102 : decode cX10_readLine 102 = .ok (.iconst 5, 1) := by decide +kernel
theorem dX10_readLine_103 : decode cX10_readLine 103 = .ok (.invokevirtual 199, 3) := by decide +kernel
theorem dX10_readLine_106 : decode cX10_readLine 106 = .ok (.ifCond .eq 10, 3) := by decide +kernel
theorem dX10_readLine_109 : decode cX10_readLine 109 = .ok (.aload_n 0, 1) := by decide +kernel
theorem dX10_readLine_110 : decode cX10_readLine 110 = .ok (.invokevirtual 212, 3) := by decide +kernel
theorem dX10_readLine_113 : decode cX10_readLine 113 = .ok (.goto 12, 3) := by decide +kernel
theorem dX10_readLine_116 : decode cX10_readLine 116 = .ok (.aload_n 0, 1) := by decide +kernel
theorem dX10_readLine_117 : decode cX10_readLine 117 = .ok (.iconst 1, 1) := by decide +kernel
theorem dX10_readLine_118 : decode cX10_readLine 118 = .ok (.aload_n 0, 1) := by decide +kernel
theorem dX10_readLine_119 : decode cX10_readLine 119 = .ok (.getfield 110, 3) := by decide +kernel
theorem dX10_readLine_122 : decode cX10_readLine 122 = .ok (.invokevirtual 156, 3) := by decide +kernel
theorem dX10_readLine_125 : decode cX10_readLine 125 = .ok (.return_, 1) := by decide +kernel
theorem dX10_lawLine_0 : decode cX10_lawLine 0 = .ok (.aload_n 0, 1) := by decide +kernel
theorem dX10_lawLine_1 : decode cX10_lawLine 1 = .ok (.ldc 215, 2) := by decide +kernel
theorem dX10_lawLine_3 : decode cX10_lawLine 3 = .ok (.invokevirtual 217, 3) := by decide +kernel
theorem dX10_lawLine_6 : decode cX10_lawLine 6 = .ok (.aload_n 0, 1) := by decide +kernel
theorem dX10_lawLine_7 : decode cX10_lawLine 7 = .ok (.getfield 23, 3) := by decide +kernel
theorem dX10_lawLine_10 : decode cX10_lawLine 10 = .ok (.iconst 0, 1) := by decide +kernel
theorem dX10_lawLine_11 : decode cX10_lawLine 11 = .ok (.aload_n 0, 1) := by decide +kernel
theorem dX10_lawLine_12 : decode cX10_lawLine 12 = .ok (.iconst 0, 1) := by decide +kernel
theorem dX10_lawLine_13 : decode cX10_lawLine 13 = .ok (.bipush 99, 2) := by decide +kernel
theorem dX10_lawLine_15 : decode cX10_lawLine 15 = .ok (.invokevirtual 221, 3) := by decide +kernel
theorem dX10_lawLine_18 : decode cX10_lawLine 18 = .ok (.iastore, 1) := by decide +kernel
theorem dX10_lawLine_19 : decode cX10_lawLine 19 = .ok (.aload_n 0, 1) := by decide +kernel
theorem dX10_lawLine_20 : decode cX10_lawLine 20 = .ok (.getfield 129, 3) := by decide +kernel
theorem dX10_lawLine_23 : decode cX10_lawLine 23 = .ok (.ifCond .ne 10, 3) := by decide +kernel
theorem dX10_lawLine_26 : decode cX10_lawLine 26 = .ok (.aload_n 0, 1) := by decide +kernel
theorem dX10_lawLine_27 : decode cX10_lawLine 27 = .ok (.getfield 23, 3) := by decide +kernel
theorem dX10_lawLine_30 : decode cX10_lawLine 30 = .ok (.iconst 1, 1) := by decide +kernel
theorem dX10_lawLine_31 : decode cX10_lawLine 31 = .ok (.iconst 1, 1) := by decide +kernel
theorem dX10_lawLine_32 : decode cX10_lawLine 32 = .ok (.iastore, 1) := by decide +kernel
theorem dX10_lawLine_33 : decode cX10_lawLine 33 = .ok (.return_, 1) := by decide +kernel
theorem dX10_tillLine_0 : decode cX10_tillLine 0 = .ok (.aload_n 0, 1) := by decide +kernel
theorem dX10_tillLine_1 : decode cX10_tillLine 1 = .ok (.invokevirtual 170, 3) := by decide +kernel
theorem dX10_tillLine_4 : decode cX10_tillLine 4 = .ok (.aload_n 0, 1) := by decide +kernel
theorem dX10_tillLine_5 : decode cX10_tillLine 5 = .ok (.getfield 129, 3) := by decide +kernel
theorem dX10_tillLine_8 : decode cX10_tillLine 8 = .ok (.ifCond .ne 19, 3) := by decide +kernel
theorem dX10_tillLine_11 : decode cX10_tillLine 11 = .ok (.aload_n 0, 1) := by decide +kernel
theorem dX10_tillLine_12 : decode cX10_tillLine 12 = .ok (.invokevirtual 173, 3) := by decide +kernel
theorem dX10_tillLine_15 : decode cX10_tillLine 15 = .ok (.ifCond .lt 12, 3) := by decide +kernel
theorem dX10_tillLine_18 : decode cX10_tillLine 18 = .ok (.aload_n 0, 1) := by decide +kernel
theorem dX10_tillLine_19 : decode cX10_tillLine 19 = .ok (.iconst 3, 1) := by decide +kernel
theorem dX10_tillLine_20 : decode cX10_tillLine 20 = .ok (.aload_n 0, 1) := by decide +kernel
theorem dX10_tillLine_21 : decode cX10_tillLine 21 = .ok (.getfield 110, 3) := by decide +kernel
theorem dX10_tillLine_24 : decode cX10_tillLine 24 = .ok (.invokevirtual 156, 3) := by decide +kernel
theorem dX10_tillLine_27 : decode cX10_tillLine 27 = .ok (.aload_n 0, 1) := by decide +kernel
theorem dX10_tillLine_28 : decode cX10_tillLine 28 = .ok (.getfield 129, 3) := by decide +kernel
theorem dX10_tillLine_31 : decode cX10_tillLine 31 = .ok (.ifCond .eq 4, 3) := by decide +kernel
theorem dX10_tillLine_34 : decode cX10_tillLine 34 = .ok (.return_, 1) := by decide +kernel
theorem dX10_tillLine_35 : decode cX10_tillLine 35 = .ok (.aload_n 0, 1) := by decide +kernel
theorem dX10_tillLine_36 : decode cX10_tillLine 36 = .ok (.getfield 23, 3) := by decide +kernel
theorem dX10_tillLine_39 : decode cX10_tillLine 39 = .ok (.iconst 2, 1) := by decide +kernel
theorem dX10_tillLine_40 : decode cX10_tillLine 40 = .ok (.iaload, 1) := by decide +kernel
theorem dX10_tillLine_41 : decode cX10_tillLine 41 = .ok (.istore_n 1, 1) := by decide +kernel
theorem dX10_tillLine_42 : decode cX10_tillLine 42 = .ok (.aload_n 0, 1) := by decide +kernel
theorem dX10_tillLine_43 : decode cX10_tillLine 43 = .ok (.iload_n 1, 1) := by decide +kernel
theorem dX10_tillLine_44 : decode cX10_tillLine 44 = .ok (.invokevirtual 225, 3) := by decide +kernel
theorem dX10_tillLine_47 : decode cX10_tillLine 47 = .ok (.aload_n 0, 1) := by decide +kernel
theorem dX10_tillLine_48 : decode cX10_tillLine 48 = .ok (.invokevirtual 150, 3) := by decide +kernel
theorem dX10_tillLine_51 : decode cX10_tillLine 51 = .ok (.aload_n 0, 1) := by decide +kernel
theorem dX10_tillLine_52 : decode cX10_tillLine 52 = .ok (.ldc 229, 2) := by decide +kernel
theorem dX10_tillLine_54 : decode cX10_tillLine 54 = .ok (.invokevirtual 217, 3) := by decide +kernel
theorem dX10_tillLine_57 : decode cX10_tillLine 57 = .ok (.aload_n 0, 1) := by decide +kernel
theorem dX10_tillLine_58 : decode cX10_tillLine 58 = .ok (.ldc 231, 2) := by decide +kernel
theorem dX10_tillLine_60 : decode cX10_tillLine 60 = .ok (.invokevirtual 146, 3) := by decide +kernel
theorem dX10_tillLine_63 : decode cX10_tillLine 63 = .ok (.ifCond .eq 7, 3) := by decide +kernel
theorem dX10_tillLine_66 : decode cX10_tillLine 66 = .ok (.iconst 0, 1) := by decide +kernel
theorem dX10_tillLine_67 : decode cX10_tillLine 67 = .ok (.goto 56, 3) := by decide +kernel
theorem dX10_tillLine_70 : decode cX10_tillLine 70 = .ok (.aload_n 0, 1) := by decide +kernel
theorem dX10_tillLine_71 : decode cX10_tillLine 71 = .ok (.ldc 233, 2) := by decide +kernel
theorem dX10_tillLine_73 : decode cX10_tillLine 73 = .ok (.invokevirtual 146, 3) := by decide +kernel
theorem dX10_tillLine_76 : decode cX10_tillLine 76 = .ok (.ifCond .eq 7, 3) := by decide +kernel
theorem dX10_tillLine_79 : decode cX10_tillLine 79 = .ok (.iconst 1, 1) := by decide +kernel
theorem dX10_tillLine_80 : decode cX10_tillLine 80 = .ok (.goto 43, 3) := by decide +kernel
theorem dX10_tillLine_83 : decode cX10_tillLine 83 = .ok (.aload_n 0, 1) := by decide +kernel
theorem dX10_tillLine_84 : decode cX10_tillLine 84 = .ok (.ldc 235, 2) := by decide +kernel
theorem dX10_tillLine_86 : decode cX10_tillLine 86 = .ok (.invokevirtual 146, 3) := by decide +kernel
theorem dX10_tillLine_89 : decode cX10_tillLine 89 = .ok (.ifCond .eq 7, 3) := by decide +kernel
theorem dX10_tillLine_92 : decode cX10_tillLine 92 = .ok (.iconst 2, 1) := by decide +kernel
theorem dX10_tillLine_93 : decode cX10_tillLine 93 = .ok (.goto 30, 3) := by decide +kernel
theorem dX10_tillLine_96 : decode cX10_tillLine 96 = .ok (.aload_n 0, 1) := by decide +kernel
theorem dX10_tillLine_97 : decode cX10_tillLine 97 = .ok (.ldc 237, 2) := by decide +kernel
theorem dX10_tillLine_99 : decode cX10_tillLine 99 = .ok (.invokevirtual 146, 3) := by decide +kernel
theorem dX10_tillLine_102 : decode cX10_tillLine 102 = .ok (.ifCond .eq 7, 3) := by decide +kernel
theorem dX10_tillLine_105 : decode cX10_tillLine 105 = .ok (.iconst 3, 1) := by decide +kernel
theorem dX10_tillLine_106 : decode cX10_tillLine 106 = .ok (.goto 17, 3) := by decide +kernel
theorem dX10_tillLine_109 : decode cX10_tillLine 109 = .ok (.aload_n 0, 1) := by decide +kernel
theorem dX10_tillLine_110 : decode cX10_tillLine 110 = .ok (.ldc 239, 2) := by decide +kernel
theorem dX10_tillLine_112 : decode cX10_tillLine 112 = .ok (.invokevirtual 146, 3) := by decide +kernel
theorem dX10_tillLine_115 : decode cX10_tillLine 115 = .ok (.ifCond .eq 7, 3) := by decide +kernel
theorem dX10_tillLine_118 : decode cX10_tillLine 118 = .ok (.iconst 4, 1) := by decide +kernel
theorem dX10_tillLine_119 : decode cX10_tillLine 119 = .ok (.goto 4, 3) := by decide +kernel
theorem dX10_tillLine_122 : decode cX10_tillLine 122 = .ok (.iconst (-1), 1) := by decide +kernel
theorem dX10_tillLine_123 : decode cX10_tillLine 123 = .ok (.istore_n 2, 1) := by decide +kernel
theorem dX10_tillLine_124 : decode cX10_tillLine 124 = .ok (.iload_n 2, 1) := by decide +kernel
theorem dX10_tillLine_125 : decode cX10_tillLine 125 = .ok (.ifCond .ge 12, 3) := by decide +kernel
theorem dX10_tillLine_128 : decode cX10_tillLine 128 = .ok (.aload_n 0, 1) := by decide +kernel
theorem dX10_tillLine_129 : decode cX10_tillLine 129 = .ok (.iconst 1, 1) := by decide +kernel
theorem dX10_tillLine_130 : decode cX10_tillLine 130 = .ok (.aload_n 0, 1) := by decide +kernel
theorem dX10_tillLine_131 : decode cX10_tillLine 131 = .ok (.getfield 110, 3) := by decide +kernel
theorem dX10_tillLine_134 : decode cX10_tillLine 134 = .ok (.invokevirtual 156, 3) := by decide +kernel
theorem dX10_tillLine_137 : decode cX10_tillLine 137 = .ok (.aload_n 0, 1) := by decide +kernel
theorem dX10_tillLine_138 : decode cX10_tillLine 138 = .ok (.getfield 129, 3) := by decide +kernel
theorem dX10_tillLine_141 : decode cX10_tillLine 141 = .ok (.ifCond .eq 4, 3) := by decide +kernel
theorem dX10_tillLine_144 : decode cX10_tillLine 144 = .ok (.return_, 1) := by decide +kernel
theorem dX10_tillLine_145 : decode cX10_tillLine 145 = .ok (.aload_n 0, 1) := by decide +kernel
theorem dX10_tillLine_146 : decode cX10_tillLine 146 = .ok (.invokevirtual 150, 3) := by decide +kernel
theorem dX10_tillLine_149 : decode cX10_tillLine 149 = .ok (.aload_n 0, 1) := by decide +kernel
theorem dX10_tillLine_150 : decode cX10_tillLine 150 = .ok (.getfield 23, 3) := by decide +kernel
theorem dX10_tillLine_153 : decode cX10_tillLine 153 = .ok (.iconst 3, 1) := by decide +kernel
theorem dX10_tillLine_154 : decode cX10_tillLine 154 = .ok (.iload_n 1, 1) := by decide +kernel
theorem dX10_tillLine_155 : decode cX10_tillLine 155 = .ok (.iadd, 1) := by decide +kernel
theorem dX10_tillLine_156 : decode cX10_tillLine 156 = .ok (.iload_n 2, 1) := by decide +kernel
theorem dX10_tillLine_157 : decode cX10_tillLine 157 = .ok (.iastore, 1) := by decide +kernel
theorem dX10_tillLine_158 : decode cX10_tillLine 158 = .ok (.aload_n 0, 1) := by decide +kernel
theorem dX10_tillLine_159 : decode cX10_tillLine 159 = .ok (.getfield 23, 3) := by decide +kernel
theorem dX10_tillLine_162 : decode cX10_tillLine 162 = .ok (.iconst 2, 1) := by decide +kernel
theorem dX10_tillLine_163 : decode cX10_tillLine 163 = .ok (.dup2, 1) := by decide +kernel
theorem dX10_tillLine_164 : decode cX10_tillLine 164 = .ok (.iaload, 1) := by decide +kernel
theorem dX10_tillLine_165 : decode cX10_tillLine 165 = .ok (.iconst 1, 1) := by decide +kernel
theorem dX10_tillLine_166 : decode cX10_tillLine 166 = .ok (.iadd, 1) := by decide +kernel
theorem dX10_tillLine_167 : decode cX10_tillLine 167 = .ok (.iastore, 1) := by decide +kernel
theorem dX10_tillLine_168 : decode cX10_tillLine 168 = .ok (.return_, 1) := by decide +kernel
theorem dX10_cashierLine_0 : decode cX10_cashierLine 0 = .ok (.aload_n 0, 1) := by decide +kernel
theorem dX10_cashierLine_1 : decode cX10_cashierLine 1 = .ok (.getfield 129, 3) := by decide +kernel
theorem dX10_cashierLine_4 : decode cX10_cashierLine 4 = .ok (.ifCond .ne 7, 3) := by decide +kernel
theorem dX10_cashierLine_7 : decode cX10_cashierLine 7 = .ok (.iconst 1, 1) := by decide +kernel
theorem dX10_cashierLine_8 : decode cX10_cashierLine 8 = .ok (.goto 4, 3) := by decide +kernel
theorem dX10_cashierLine_11 : decode cX10_cashierLine 11 = .ok (.iconst 0, 1) := by decide +kernel
theorem dX10_cashierLine_12 : decode cX10_cashierLine 12 = .ok (.istore_n 1, 1) := by decide +kernel
theorem dX10_cashierLine_13 : decode cX10_cashierLine 13 = .ok (.iload_n 1, 1) := by decide +kernel
theorem dX10_cashierLine_14 : decode cX10_cashierLine 14 = .ok (.ifCond .eq 101, 3) := by decide +kernel
theorem dX10_cashierLine_17 : decode cX10_cashierLine 17 = .ok (.aload_n 0, 1) := by decide +kernel
theorem dX10_cashierLine_18 : decode cX10_cashierLine 18 = .ok (.invokevirtual 170, 3) := by decide +kernel
theorem dX10_cashierLine_21 : decode cX10_cashierLine 21 = .ok (.aload_n 0, 1) := by decide +kernel
theorem dX10_cashierLine_22 : decode cX10_cashierLine 22 = .ok (.getfield 129, 3) := by decide +kernel
theorem dX10_cashierLine_25 : decode cX10_cashierLine 25 = .ok (.ifCond .ne 19, 3) := by decide +kernel
theorem dX10_cashierLine_28 : decode cX10_cashierLine 28 = .ok (.aload_n 0, 1) := by decide +kernel
theorem dX10_cashierLine_29 : decode cX10_cashierLine 29 = .ok (.invokevirtual 173, 3) := by decide +kernel
theorem dX10_cashierLine_32 : decode cX10_cashierLine 32 = .ok (.ifCond .lt 12, 3) := by decide +kernel
theorem dX10_cashierLine_35 : decode cX10_cashierLine 35 = .ok (.aload_n 0, 1) := by decide +kernel
theorem dX10_cashierLine_36 : decode cX10_cashierLine 36 = .ok (.iconst 3, 1) := by decide +kernel
theorem dX10_cashierLine_37 : decode cX10_cashierLine 37 = .ok (.aload_n 0, 1) := by decide +kernel
theorem dX10_cashierLine_38 : decode cX10_cashierLine 38 = .ok (.getfield 110, 3) := by decide +kernel
theorem dX10_cashierLine_41 : decode cX10_cashierLine 41 = .ok (.invokevirtual 156, 3) := by decide +kernel
theorem dX10_cashierLine_44 : decode cX10_cashierLine 44 = .ok (.aload_n 0, 1) := by decide +kernel
theorem dX10_cashierLine_45 : decode cX10_cashierLine 45 = .ok (.getfield 129, 3) := by decide +kernel
theorem dX10_cashierLine_48 : decode cX10_cashierLine 48 = .ok (.ifCond .ne 23, 3) := by decide +kernel
theorem dX10_cashierLine_51 : decode cX10_cashierLine 51 = .ok (.aload_n 0, 1) := by decide +kernel
theorem dX10_cashierLine_52 : decode cX10_cashierLine 52 = .ok (.getfield 23, 3) := by decide +kernel
theorem dX10_cashierLine_55 : decode cX10_cashierLine 55 = .ok (.bipush 6, 2) := by decide +kernel
theorem dX10_cashierLine_57 : decode cX10_cashierLine 57 = .ok (.iaload, 1) := by decide +kernel
theorem dX10_cashierLine_58 : decode cX10_cashierLine 58 = .ok (.iconst 4, 1) := by decide +kernel
theorem dX10_cashierLine_59 : decode cX10_cashierLine 59 = .ok (.if_icmp .ne 12, 3) := by decide +kernel
theorem dX10_cashierLine_62 : decode cX10_cashierLine 62 = .ok (.aload_n 0, 1) := by decide +kernel
theorem dX10_cashierLine_63 : decode cX10_cashierLine 63 = .ok (.iconst 5, 1) := by decide +kernel
theorem dX10_cashierLine_64 : decode cX10_cashierLine 64 = .ok (.aload_n 0, 1) := by decide +kernel
theorem dX10_cashierLine_65 : decode cX10_cashierLine 65 = .ok (.getfield 110, 3) := by decide +kernel
theorem dX10_cashierLine_68 : decode cX10_cashierLine 68 = .ok (.invokevirtual 156, 3) := by decide +kernel
theorem dX10_cashierLine_71 : decode cX10_cashierLine 71 = .ok (.aload_n 0, 1) := by decide +kernel
theorem dX10_cashierLine_72 : decode cX10_cashierLine 72 = .ok (.getfield 129, 3) := by decide +kernel
theorem dX10_cashierLine_75 : decode cX10_cashierLine 75 = .ok (.ifCond .eq 4, 3) := by decide +kernel
theorem dX10_cashierLine_78 : decode cX10_cashierLine 78 = .ok (.return_, 1) := by decide +kernel
theorem dX10_cashierLine_79 : decode cX10_cashierLine 79 = .ok (.aload_n 0, 1) := by decide +kernel
theorem dX10_cashierLine_80 : decode cX10_cashierLine 80 = .ok (.iconst 3, 1) := by decide +kernel
theorem dX10_cashierLine_81 : decode cX10_cashierLine 81 = .ok (.aload_n 0, 1) := by decide +kernel
theorem dX10_cashierLine_82 : decode cX10_cashierLine 82 = .ok (.getfield 23, 3) := by decide +kernel
theorem dX10_cashierLine_85 : decode cX10_cashierLine 85 = .ok (.bipush 6, 2) := by decide +kernel
theorem dX10_cashierLine_87 : decode cX10_cashierLine 87 = .ok (.iaload, 1) := by decide +kernel
theorem dX10_cashierLine_88 : decode cX10_cashierLine 88 = .ok (.iadd, 1) := by decide +kernel
theorem dX10_cashierLine_89 : decode cX10_cashierLine 89 = .ok (.invokevirtual 225, 3) := by decide +kernel
theorem dX10_cashierLine_92 : decode cX10_cashierLine 92 = .ok (.aload_n 0, 1) := by decide +kernel
theorem dX10_cashierLine_93 : decode cX10_cashierLine 93 = .ok (.getfield 23, 3) := by decide +kernel
theorem dX10_cashierLine_96 : decode cX10_cashierLine 96 = .ok (.bipush 6, 2) := by decide +kernel
theorem dX10_cashierLine_98 : decode cX10_cashierLine 98 = .ok (.dup2, 1) := by decide +kernel
theorem dX10_cashierLine_99 : decode cX10_cashierLine 99 = .ok (.iaload, 1) := by decide +kernel
theorem dX10_cashierLine_100 : decode cX10_cashierLine 100 = .ok (.iconst 1, 1) := by decide +kernel
theorem dX10_cashierLine_101 : decode cX10_cashierLine 101 = .ok (.iadd, 1) := by decide +kernel
theorem dX10_cashierLine_102 : decode cX10_cashierLine 102 = .ok (.iastore, 1) := by decide +kernel
theorem dX10_cashierLine_103 : decode cX10_cashierLine 103 = .ok (.aload_n 0, 1) := by decide +kernel
theorem dX10_cashierLine_104 : decode cX10_cashierLine 104 = .ok (.invokevirtual 150, 3) := by decide +kernel
theorem dX10_cashierLine_107 : decode cX10_cashierLine 107 = .ok (.aload_n 0, 1) := by decide +kernel
theorem dX10_cashierLine_108 : decode cX10_cashierLine 108 = .ok (.invokevirtual 241, 3) := by decide +kernel
theorem dX10_cashierLine_111 : decode cX10_cashierLine 111 = .ok (.istore_n 1, 1) := by decide +kernel
theorem dX10_cashierLine_112 : decode cX10_cashierLine 112 = .ok (.goto (-99), 3) := by decide +kernel
theorem dX10_cashierLine_115 : decode cX10_cashierLine 115 = .ok (.return_, 1) := by decide +kernel
theorem dX10_latest_0 : decode cX10_latest 0 = .ok (.iconst (-1), 1) := by decide +kernel
theorem dX10_latest_1 : decode cX10_latest 1 = .ok (.istore_n 2, 1) := by decide +kernel
theorem dX10_latest_2 : decode cX10_latest 2 = .ok (.iconst 0, 1) := by decide +kernel
theorem dX10_latest_3 : decode cX10_latest 3 = .ok (.istore_n 3, 1) := by decide +kernel
theorem dX10_latest_4 : decode cX10_latest 4 = .ok (.iload_n 3, 1) := by decide +kernel
theorem dX10_latest_5 : decode cX10_latest 5 = .ok (.aload_n 0, 1) := by decide +kernel
theorem dX10_latest_6 : decode cX10_latest 6 = .ok (.getfield 29, 3) := by decide +kernel
theorem dX10_latest_9 : decode cX10_latest 9 = .ok (.sipush 141, 3) := by decide +kernel
theorem dX10_latest_12 : decode cX10_latest 12 = .ok (.iaload, 1) := by decide +kernel
theorem dX10_latest_13 : decode cX10_latest 13 = .ok (.if_icmp .ge 26, 3) := by decide +kernel
theorem dX10_latest_16 : decode cX10_latest 16 = .ok (.aload_n 0, 1) := by decide +kernel
theorem dX10_latest_17 : decode cX10_latest 17 = .ok (.getfield 29, 3) := by decide +kernel
theorem dX10_latest_20 : decode cX10_latest 20 = .ok (.bipush 7, 2) := by decide +kernel
theorem dX10_latest_22 : decode cX10_latest 22 = .ok (.iload_n 3, 1) := by decide +kernel
theorem dX10_latest_23 : decode cX10_latest 23 = .ok (.imul, 1) := by decide +kernel
theorem dX10_latest_24 : decode cX10_latest 24 = .ok (.iconst 0, 1) := by decide +kernel
theorem dX10_latest_25 : decode cX10_latest 25 = .ok (.iadd, 1) := by decide +kernel
theorem dX10_latest_26 : decode cX10_latest 26 = .ok (.iaload, 1) := by decide +kernel
theorem dX10_latest_27 : decode cX10_latest 27 = .ok (.iload_n 1, 1) := by decide +kernel
theorem dX10_latest_28 : decode cX10_latest 28 = .ok (.if_icmp .ne 5, 3) := by decide +kernel
theorem dX10_latest_31 : decode cX10_latest 31 = .ok (.iload_n 3, 1) := by decide +kernel
theorem dX10_latest_32 : decode cX10_latest 32 = .ok (.istore_n 2, 1) := by decide +kernel
theorem dX10_latest_33 : decode cX10_latest 33 = .ok (.iinc 3 1, 3) := by decide +kernel
theorem dX10_latest_36 : decode cX10_latest 36 = .ok (.goto (-32), 3) := by decide +kernel
theorem dX10_latest_39 : decode cX10_latest 39 = .ok (.iload_n 2, 1) := by decide +kernel
theorem dX10_latest_40 : decode cX10_latest 40 = .ok (.ireturn, 1) := by decide +kernel
theorem dX10_hasWhole_0 : decode cX10_hasWhole 0 = .ok (.iload_n 0, 1) := by decide +kernel
theorem dX10_hasWhole_1 : decode cX10_hasWhole 1 = .ok (.iconst 2, 1) := by decide +kernel
theorem dX10_hasWhole_2 : decode cX10_hasWhole 2 = .ok (.if_icmp .eq 30, 3) := by decide +kernel
theorem dX10_hasWhole_5 : decode cX10_hasWhole 5 = .ok (.iload_n 0, 1) := by decide +kernel
theorem dX10_hasWhole_6 : decode cX10_hasWhole 6 = .ok (.ifCond .ne 7, 3) := by decide +kernel
theorem dX10_hasWhole_9 : decode cX10_hasWhole 9 = .ok (.iload_n 1, 1) := by decide +kernel
theorem dX10_hasWhole_10 : decode cX10_hasWhole 10 = .ok (.ifCond .eq 22, 3) := by decide +kernel
theorem dX10_hasWhole_13 : decode cX10_hasWhole 13 = .ok (.iload_n 0, 1) := by decide +kernel
theorem dX10_hasWhole_14 : decode cX10_hasWhole 14 = .ok (.iconst 1, 1) := by decide +kernel
theorem dX10_hasWhole_15 : decode cX10_hasWhole 15 = .ok (.if_icmp .ne 7, 3) := by decide +kernel
theorem dX10_hasWhole_18 : decode cX10_hasWhole 18 = .ok (.iload_n 1, 1) := by decide +kernel
theorem dX10_hasWhole_19 : decode cX10_hasWhole 19 = .ok (.ifCond .eq 13, 3) := by decide +kernel
theorem dX10_hasWhole_22 : decode cX10_hasWhole 22 = .ok (.iload_n 0, 1) := by decide +kernel
theorem dX10_hasWhole_23 : decode cX10_hasWhole 23 = .ok (.iconst 4, 1) := by decide +kernel
theorem dX10_hasWhole_24 : decode cX10_hasWhole 24 = .ok (.if_icmp .ne 12, 3) := by decide +kernel
theorem dX10_hasWhole_27 : decode cX10_hasWhole 27 = .ok (.iload_n 1, 1) := by decide +kernel
theorem dX10_hasWhole_28 : decode cX10_hasWhole 28 = .ok (.iconst 2, 1) := by decide +kernel
theorem dX10_hasWhole_29 : decode cX10_hasWhole 29 = .ok (.if_icmp .ge 7, 3) := by decide +kernel
theorem dX10_hasWhole_32 : decode cX10_hasWhole 32 = .ok (.iconst 1, 1) := by decide +kernel
theorem dX10_hasWhole_33 : decode cX10_hasWhole 33 = .ok (.goto 4, 3) := by decide +kernel
theorem dX10_hasWhole_36 : decode cX10_hasWhole 36 = .ok (.iconst 0, 1) := by decide +kernel
theorem dX10_hasWhole_37 : decode cX10_hasWhole 37 = .ok (.ireturn, 1) := by decide +kernel
theorem dX10_callLine_0 : decode cX10_callLine 0 = .ok (.aload_n 0, 1) := by decide +kernel
theorem dX10_callLine_1 : decode cX10_callLine 1 = .ok (.getfield 129, 3) := by decide +kernel
theorem dX10_callLine_4 : decode cX10_callLine 4 = .ok (.ifCond .eq 4, 3) := by decide +kernel
theorem dX10_callLine_7 : decode cX10_callLine 7 = .ok (.return_, 1) := by decide +kernel
theorem dX10_callLine_8 : decode cX10_callLine 8 = .ok (.bipush 7, 2) := by decide +kernel
theorem dX10_callLine_10 : decode cX10_callLine 10 = .ok (.aload_n 0, 1) := by decide +kernel
theorem dX10_callLine_11 : decode cX10_callLine 11 = .ok (.getfield 29, 3) := by decide +kernel
theorem dX10_callLine_14 : decode cX10_callLine 14 = .ok (.sipush 141, 3) := by decide +kernel
theorem dX10_callLine_17 : decode cX10_callLine 17 = .ok (.iaload, 1) := by decide +kernel
theorem dX10_callLine_18 : decode cX10_callLine 18 = .ok (.imul, 1) := by decide +kernel
theorem dX10_callLine_19 : decode cX10_callLine 19 = .ok (.istore_n 1, 1) := by decide +kernel
theorem dX10_callLine_20 : decode cX10_callLine 20 = .ok (.aload_n 0, 1) := by decide +kernel
theorem dX10_callLine_21 : decode cX10_callLine 21 = .ok (.iconst 0, 1) := by decide +kernel
theorem dX10_callLine_22 : decode cX10_callLine 22 = .ok (.invokevirtual 245, 3) := by decide +kernel
theorem dX10_callLine_25 : decode cX10_callLine 25 = .ok (.istore_n 2, 1) := by decide +kernel
theorem dX10_callLine_26 : decode cX10_callLine 26 = .ok (.aload_n 0, 1) := by decide +kernel
theorem dX10_callLine_27 : decode cX10_callLine 27 = .ok (.getfield 129, 3) := by decide +kernel
theorem dX10_callLine_30 : decode cX10_callLine 30 = .ok (.ifCond .eq 7, 3) := by decide +kernel
theorem dX10_callLine_33 : decode cX10_callLine 33 = .ok (.iconst (-1), 1) := by decide +kernel
theorem dX10_callLine_34 : decode cX10_callLine 34 = .ok (.goto 8, 3) := by decide +kernel
theorem dX10_callLine_37 : decode cX10_callLine 37 = .ok (.aload_n 0, 1) := by decide +kernel
theorem dX10_callLine_38 : decode cX10_callLine 38 = .ok (.iload_n 2, 1) := by decide +kernel
theorem dX10_callLine_39 : decode cX10_callLine 39 = .ok (.invokevirtual 249, 3) := by decide +kernel
theorem dX10_callLine_42 : decode cX10_callLine 42 = .ok (.istore_n 3, 1) := by decide +kernel
theorem dX10_callLine_43 : decode cX10_callLine 43 = .ok (.iload_n 3, 1) := by decide +kernel
theorem dX10_callLine_44 : decode cX10_callLine 44 = .ok (.ifCond .lt 23, 3) := by decide +kernel
theorem dX10_callLine_47 : decode cX10_callLine 47 = .ok (.aload_n 0, 1) := by decide +kernel
theorem dX10_callLine_48 : decode cX10_callLine 48 = .ok (.getfield 29, 3) := by decide +kernel
theorem dX10_callLine_51 : decode cX10_callLine 51 = .ok (.bipush 7, 2) := by decide +kernel
theorem dX10_callLine_53 : decode cX10_callLine 53 = .ok (.iload_n 3, 1) := by decide +kernel
theorem dX10_callLine_54 : decode cX10_callLine 54 = .ok (.imul, 1) := by decide +kernel
theorem dX10_callLine_55 : decode cX10_callLine 55 = .ok (.iconst 5, 1) := by decide +kernel
theorem dX10_callLine_56 : decode cX10_callLine 56 = .ok (.iadd, 1) := by decide +kernel
theorem dX10_callLine_57 : decode cX10_callLine 57 = .ok (.iaload, 1) := by decide +kernel
theorem dX10_callLine_58 : decode cX10_callLine 58 = .ok (.bipush (-2), 2) := by decide +kernel
theorem dX10_callLine_60 : decode cX10_callLine 60 = .ok (.if_icmp .ne 7, 3) := by decide +kernel
theorem dX10_callLine_63 : decode cX10_callLine 63 = .ok (.iconst 1, 1) := by decide +kernel
theorem dX10_callLine_64 : decode cX10_callLine 64 = .ok (.goto 4, 3) := by decide +kernel
theorem dX10_callLine_67 : decode cX10_callLine 67 = .ok (.iconst 0, 1) := by decide +kernel
theorem dX10_callLine_68 : decode cX10_callLine 68 = .ok (.istore 4, 2) := by decide +kernel
theorem dX10_callLine_70 : decode cX10_callLine 70 = .ok (.iload 4, 2) := by decide +kernel
theorem dX10_callLine_72 : decode cX10_callLine 72 = .ok (.ifCond .eq 12, 3) := by decide +kernel
theorem dX10_callLine_75 : decode cX10_callLine 75 = .ok (.aload_n 0, 1) := by decide +kernel
theorem dX10_callLine_76 : decode cX10_callLine 76 = .ok (.iconst 4, 1) := by decide +kernel
theorem dX10_callLine_77 : decode cX10_callLine 77 = .ok (.aload_n 0, 1) := by decide +kernel
theorem dX10_callLine_78 : decode cX10_callLine 78 = .ok (.getfield 110, 3) := by decide +kernel
theorem dX10_callLine_81 : decode cX10_callLine 81 = .ok (.invokevirtual 156, 3) := by decide +kernel
theorem dX10_callLine_84 : decode cX10_callLine 84 = .ok (.aload_n 0, 1) := by decide +kernel
theorem dX10_callLine_85 : decode cX10_callLine 85 = .ok (.getfield 129, 3) := by decide +kernel
theorem dX10_callLine_88 : decode cX10_callLine 88 = .ok (.ifCond .eq 4, 3) := by decide +kernel
theorem dX10_callLine_91 : decode cX10_callLine 91 = .ok (.return_, 1) := by decide +kernel
theorem dX10_callLine_92 : decode cX10_callLine 92 = .ok (.aload_n 0, 1) := by decide +kernel
theorem dX10_callLine_93 : decode cX10_callLine 93 = .ok (.invokevirtual 150, 3) := by decide +kernel
theorem dX10_callLine_96 : decode cX10_callLine 96 = .ok (.aload_n 0, 1) := by decide +kernel
theorem dX10_callLine_97 : decode cX10_callLine 97 = .ok (.iconst 1, 1) := by decide +kernel
theorem dX10_callLine_98 : decode cX10_callLine 98 = .ok (.invokevirtual 245, 3) := by decide +kernel
theorem dX10_callLine_101 : decode cX10_callLine 101 = .ok (.istore 5, 2) := by decide +kernel
theorem dX10_callLine_103 : decode cX10_callLine 103 = .ok (.aload_n 0, 1) := by decide +kernel
theorem dX10_callLine_104 : decode cX10_callLine 104 = .ok (.getfield 129, 3) := by decide +kernel
theorem dX10_callLine_107 : decode cX10_callLine 107 = .ok (.ifCond .eq 4, 3) := by decide +kernel
theorem dX10_callLine_110 : decode cX10_callLine 110 = .ok (.return_, 1) := by decide +kernel
theorem dX10_callLine_111 : decode cX10_callLine 111 = .ok (.aload_n 0, 1) := by decide +kernel
theorem dX10_callLine_112 : decode cX10_callLine 112 = .ok (.invokevirtual 150, 3) := by decide +kernel
theorem dX10_callLine_115 : decode cX10_callLine 115 = .ok (.aload_n 0, 1) := by decide +kernel
theorem dX10_callLine_116 : decode cX10_callLine 116 = .ok (.getfield 23, 3) := by decide +kernel
theorem dX10_callLine_119 : decode cX10_callLine 119 = .ok (.iconst 3, 1) := by decide +kernel
theorem dX10_callLine_120 : decode cX10_callLine 120 = .ok (.iload 5, 2) := by decide +kernel
theorem dX10_callLine_122 : decode cX10_callLine 122 = .ok (.iadd, 1) := by decide +kernel
theorem dX10_callLine_123 : decode cX10_callLine 123 = .ok (.iaload, 1) := by decide +kernel
theorem dX10_callLine_124 : decode cX10_callLine 124 = .ok (.istore 6, 2) := by decide +kernel
theorem dX10_callLine_126 : decode cX10_callLine 126 = .ok (.aload_n 0, 1) := by decide +kernel
theorem dX10_callLine_127 : decode cX10_callLine 127 = .ok (.ldc 252, 2) := by decide +kernel
theorem dX10_callLine_129 : decode cX10_callLine 129 = .ok (.invokevirtual 146, 3) := by decide +kernel
theorem dX10_callLine_132 : decode cX10_callLine 132 = .ok (.ifCond .eq 7, 3) := by decide +kernel
theorem dX10_callLine_135 : decode cX10_callLine 135 = .ok (.iconst 0, 1) := by decide +kernel
theorem dX10_callLine_136 : decode cX10_callLine 136 = .ok (.goto 31, 3) := by decide +kernel
theorem dX10_callLine_139 : decode cX10_callLine 139 = .ok (.aload_n 0, 1) := by decide +kernel
theorem dX10_callLine_140 : decode cX10_callLine 140 = .ok (.ldc 254, 2) := by decide +kernel
theorem dX10_callLine_142 : decode cX10_callLine 142 = .ok (.invokevirtual 146, 3) := by decide +kernel
theorem dX10_callLine_145 : decode cX10_callLine 145 = .ok (.ifCond .eq 7, 3) := by decide +kernel
theorem dX10_callLine_148 : decode cX10_callLine 148 = .ok (.iconst 1, 1) := by decide +kernel
theorem dX10_callLine_149 : decode cX10_callLine 149 = .ok (.goto 18, 3) := by decide +kernel
theorem dX10_callLine_152 : decode cX10_callLine 152 = .ok (.aload_n 0, 1) := by decide +kernel
theorem dX10_callLine_153 : decode cX10_callLine 153 = .ok (.ldc_w 256, 3) := by decide +kernel
theorem dX10_callLine_156 : decode cX10_callLine 156 = .ok (.invokevirtual 146, 3) := by decide +kernel
theorem dX10_callLine_159 : decode cX10_callLine 159 = .ok (.ifCond .eq 7, 3) := by decide +kernel
theorem dX10_callLine_162 : decode cX10_callLine 162 = .ok (.iconst 2, 1) := by decide +kernel
theorem dX10_callLine_163 : decode cX10_callLine 163 = .ok (.goto 4, 3) := by decide +kernel
theorem dX10_callLine_166 : decode cX10_callLine 166 = .ok (.iconst (-1), 1) := by decide +kernel
theorem dX10_callLine_167 : decode cX10_callLine 167 = .ok (.istore 7, 2) := by decide +kernel
theorem dX10_callLine_169 : decode cX10_callLine 169 = .ok (.iload 7, 2) := by decide +kernel
theorem dX10_callLine_171 : decode cX10_callLine 171 = .ok (.ifCond .lt 26, 3) := by decide +kernel
theorem dX10_callLine_174 : decode cX10_callLine 174 = .ok (.iload 6, 2) := by decide +kernel
theorem dX10_callLine_176 : decode cX10_callLine 176 = .ok (.ifCond .ne 9, 3) := by decide +kernel
theorem dX10_callLine_179 : decode cX10_callLine 179 = .ok (.iload 7, 2) := by decide +kernel
theorem dX10_callLine_181 : decode cX10_callLine 181 = .ok (.iconst 1, 1) := by decide +kernel
theorem dX10_callLine_182 : decode cX10_callLine 182 = .ok (.if_icmp .eq 15, 3) := by decide +kernel
theorem dX10_callLine_185 : decode cX10_callLine 185 = .ok (.iload 6, 2) := by decide +kernel
theorem dX10_callLine_187 : decode cX10_callLine 187 = .ok (.iconst 1, 1) := by decide +kernel
theorem dX10_callLine_188 : decode cX10_callLine 188 = .ok (.if_icmp .ne 18, 3) := by decide +kernel
theorem dX10_callLine_191 : decode cX10_callLine 191 = .ok (.iload 7, 2) := by decide +kernel
theorem dX10_callLine_193 : decode cX10_callLine 193 = .ok (.iconst 2, 1) := by decide +kernel
theorem dX10_callLine_194 : decode cX10_callLine 194 = .ok (.if_icmp .ne 12, 3) := by decide +kernel
theorem dX10_callLine_197 : decode cX10_callLine 197 = .ok (.aload_n 0, 1) := by decide +kernel
theorem dX10_callLine_198 : decode cX10_callLine 198 = .ok (.iconst 1, 1) := by decide +kernel
theorem dX10_callLine_199 : decode cX10_callLine 199 = .ok (.aload_n 0, 1) := by decide +kernel
theorem dX10_callLine_200 : decode cX10_callLine 200 = .ok (.getfield 110, 3) := by decide +kernel
theorem dX10_callLine_203 : decode cX10_callLine 203 = .ok (.invokevirtual 156, 3) := by decide +kernel
theorem dX10_callLine_206 : decode cX10_callLine 206 = .ok (.aload_n 0, 1) := by decide +kernel
theorem dX10_callLine_207 : decode cX10_callLine 207 = .ok (.getfield 129, 3) := by decide +kernel
theorem dX10_callLine_210 : decode cX10_callLine 210 = .ok (.ifCond .eq 4, 3) := by decide +kernel
theorem dX10_callLine_213 : decode cX10_callLine 213 = .ok (.return_, 1) := by decide +kernel
theorem dX10_callLine_214 : decode cX10_callLine 214 = .ok (.aload_n 0, 1) := by decide +kernel
theorem dX10_callLine_215 : decode cX10_callLine 215 = .ok (.invokevirtual 150, 3) := by decide +kernel
theorem dX10_callLine_218 : decode cX10_callLine 218 = .ok (.aload_n 0, 1) := by decide +kernel
theorem dX10_callLine_219 : decode cX10_callLine 219 = .ok (.getfield 29, 3) := by decide +kernel
theorem dX10_callLine_222 : decode cX10_callLine 222 = .ok (.iload_n 1, 1) := by decide +kernel
theorem dX10_callLine_223 : decode cX10_callLine 223 = .ok (.iconst 0, 1) := by decide +kernel
theorem dX10_callLine_224 : decode cX10_callLine 224 = .ok (.iadd, 1) := by decide +kernel
theorem dX10_callLine_225 : decode cX10_callLine 225 = .ok (.iload_n 2, 1) := by decide +kernel
theorem dX10_callLine_226 : decode cX10_callLine 226 = .ok (.iastore, 1) := by decide +kernel
theorem dX10_callLine_227 : decode cX10_callLine 227 = .ok (.aload_n 0, 1) := by decide +kernel
theorem dX10_callLine_228 : decode cX10_callLine 228 = .ok (.getfield 29, 3) := by decide +kernel
theorem dX10_callLine_231 : decode cX10_callLine 231 = .ok (.iload_n 1, 1) := by decide +kernel
theorem dX10_callLine_232 : decode cX10_callLine 232 = .ok (.iconst 1, 1) := by decide +kernel
theorem dX10_callLine_233 : decode cX10_callLine 233 = .ok (.iadd, 1) := by decide +kernel
theorem dX10_callLine_234 : decode cX10_callLine 234 = .ok (.iload 5, 2) := by decide +kernel
theorem dX10_callLine_236 : decode cX10_callLine 236 = .ok (.iastore, 1) := by decide +kernel
theorem dX10_callLine_237 : decode cX10_callLine 237 = .ok (.aload_n 0, 1) := by decide +kernel
theorem dX10_callLine_238 : decode cX10_callLine 238 = .ok (.getfield 29, 3) := by decide +kernel
theorem dX10_callLine_241 : decode cX10_callLine 241 = .ok (.iload_n 1, 1) := by decide +kernel
theorem dX10_callLine_242 : decode cX10_callLine 242 = .ok (.iconst 2, 1) := by decide +kernel
theorem dX10_callLine_243 : decode cX10_callLine 243 = .ok (.iadd, 1) := by decide +kernel
theorem dX10_callLine_244 : decode cX10_callLine 244 = .ok (.iload 7, 2) := by decide +kernel
theorem dX10_callLine_246 : decode cX10_callLine 246 = .ok (.iastore, 1) := by decide +kernel
theorem dX10_callLine_247 : decode cX10_callLine 247 = .ok (.aload_n 0, 1) := by decide +kernel
theorem dX10_callLine_248 : decode cX10_callLine 248 = .ok (.getfield 29, 3) := by decide +kernel
theorem dX10_callLine_251 : decode cX10_callLine 251 = .ok (.iload_n 1, 1) := by decide +kernel
theorem dX10_callLine_252 : decode cX10_callLine 252 = .ok (.iconst 3, 1) := by decide +kernel
theorem dX10_callLine_253 : decode cX10_callLine 253 = .ok (.iadd, 1) := by decide +kernel
theorem dX10_callLine_254 : decode cX10_callLine 254 = .ok (.iload 6, 2) := by decide +kernel
theorem dX10_callLine_256 : decode cX10_callLine 256 = .ok (.iload 7, 2) := by decide +kernel
theorem dX10_callLine_258 : decode cX10_callLine 258 = .ok (.invokestatic 258, 3) := by decide +kernel
theorem dX10_callLine_261 : decode cX10_callLine 261 = .ok (.ifCond .eq 13, 3) := by decide +kernel
theorem dX10_callLine_264 : decode cX10_callLine 264 = .ok (.aload_n 0, 1) := by decide +kernel
theorem dX10_callLine_265 : decode cX10_callLine 265 = .ok (.iconst 0, 1) := by decide +kernel
theorem dX10_callLine_266 : decode cX10_callLine 266 = .ok (.bipush 9, 2) := by decide +kernel
theorem dX10_callLine_268 : decode cX10_callLine 268 = .ok (.invokevirtual 221, 3) := by decide +kernel
theorem dX10_callLine_271 : decode cX10_callLine 271 = .ok (.goto 4, 3) := by decide +kernel
theorem dX10_callLine_274 : decode cX10_callLine 274 = .ok (.iconst 0, 1) := by decide +kernel
theorem dX10_callLine_275 : decode cX10_callLine 275 = .ok (.iastore, 1) := by decide +kernel
theorem dX10_callLine_276 : decode cX10_callLine 276 = .ok (.aload_n 0, 1) := by decide +kernel
theorem dX10_callLine_277 : decode cX10_callLine 277 = .ok (.ldc 168, 2) := by decide +kernel
theorem dX10_callLine_279 : decode cX10_callLine 279 = .ok (.invokevirtual 217, 3) := by decide +kernel
theorem dX10_callLine_282 : decode cX10_callLine 282 = .ok (.aload_n 0, 1) := by decide +kernel
theorem dX10_callLine_283 : decode cX10_callLine 283 = .ok (.iload_n 3, 1) := by decide +kernel
theorem dX10_callLine_284 : decode cX10_callLine 284 = .ok (.ifCond .ge 7, 3) := by decide +kernel
theorem dX10_callLine_287 : decode cX10_callLine 287 = .ok (.iconst 0, 1) := by decide +kernel
theorem dX10_callLine_288 : decode cX10_callLine 288 = .ok (.goto 16, 3) := by decide +kernel
theorem dX10_callLine_291 : decode cX10_callLine 291 = .ok (.aload_n 0, 1) := by decide +kernel
theorem dX10_callLine_292 : decode cX10_callLine 292 = .ok (.getfield 29, 3) := by decide +kernel
theorem dX10_callLine_295 : decode cX10_callLine 295 = .ok (.bipush 7, 2) := by decide +kernel
theorem dX10_callLine_297 : decode cX10_callLine 297 = .ok (.iload_n 3, 1) := by decide +kernel
theorem dX10_callLine_298 : decode cX10_callLine 298 = .ok (.imul, 1) := by decide +kernel
theorem dX10_callLine_299 : decode cX10_callLine 299 = .ok (.iconst 5, 1) := by decide +kernel
theorem dX10_callLine_300 : decode cX10_callLine 300 = .ok (.iadd, 1) := by decide +kernel
theorem dX10_callLine_301 : decode cX10_callLine 301 = .ok (.iaload, 1) := by decide +kernel
theorem dX10_callLine_302 : decode cX10_callLine 302 = .ok (.iconst 1, 1) := by decide +kernel
theorem dX10_callLine_303 : decode cX10_callLine 303 = .ok (.iadd, 1) := by decide +kernel
theorem dX10_callLine_304 : decode cX10_callLine 304 = .ok (.sipush 999, 3) := by decide +kernel
theorem dX10_callLine_307 : decode cX10_callLine 307 = .ok (.invokevirtual 221, 3) := by decide +kernel
theorem dX10_callLine_310 : decode cX10_callLine 310 = .ok (.istore 8, 2) := by decide +kernel
theorem dX10_callLine_312 : decode cX10_callLine 312 = .ok (.aload_n 0, 1) := by decide +kernel
theorem dX10_callLine_313 : decode cX10_callLine 313 = .ok (.getfield 29, 3) := by decide +kernel
theorem dX10_callLine_316 : decode cX10_callLine 316 = .ok (.iload_n 1, 1) := by decide +kernel
theorem dX10_callLine_317 : decode cX10_callLine 317 = .ok (.iconst 4, 1) := by decide +kernel
theorem dX10_callLine_318 : decode cX10_callLine 318 = .ok (.iadd, 1) := by decide +kernel
theorem dX10_callLine_319 : decode cX10_callLine 319 = .ok (.iload 8, 2) := by decide +kernel
theorem dX10_callLine_321 : decode cX10_callLine 321 = .ok (.iastore, 1) := by decide +kernel
theorem dX10_callLine_322 : decode cX10_callLine 322 = .ok (.aload_n 0, 1) := by decide +kernel
theorem dX10_callLine_323 : decode cX10_callLine 323 = .ok (.getfield 29, 3) := by decide +kernel
theorem dX10_callLine_326 : decode cX10_callLine 326 = .ok (.iload_n 1, 1) := by decide +kernel
theorem dX10_callLine_327 : decode cX10_callLine 327 = .ok (.iconst 5, 1) := by decide +kernel
theorem dX10_callLine_328 : decode cX10_callLine 328 = .ok (.iadd, 1) := by decide +kernel
theorem dX10_callLine_329 : decode cX10_callLine 329 = .ok (.bipush (-2), 2) := by decide +kernel
theorem dX10_callLine_331 : decode cX10_callLine 331 = .ok (.iastore, 1) := by decide +kernel
theorem dX10_callLine_332 : decode cX10_callLine 332 = .ok (.aload_n 0, 1) := by decide +kernel
theorem dX10_callLine_333 : decode cX10_callLine 333 = .ok (.getfield 29, 3) := by decide +kernel
theorem dX10_callLine_336 : decode cX10_callLine 336 = .ok (.iload_n 1, 1) := by decide +kernel
theorem dX10_callLine_337 : decode cX10_callLine 337 = .ok (.bipush 6, 2) := by decide +kernel
theorem dX10_callLine_339 : decode cX10_callLine 339 = .ok (.iadd, 1) := by decide +kernel
theorem dX10_callLine_340 : decode cX10_callLine 340 = .ok (.bipush (-2), 2) := by decide +kernel
theorem dX10_callLine_342 : decode cX10_callLine 342 = .ok (.iastore, 1) := by decide +kernel
theorem dX10_callLine_343 : decode cX10_callLine 343 = .ok (.aload_n 0, 1) := by decide +kernel
theorem dX10_callLine_344 : decode cX10_callLine 344 = .ok (.getfield 129, 3) := by decide +kernel
theorem dX10_callLine_347 : decode cX10_callLine 347 = .ok (.ifCond .eq 4, 3) := by decide +kernel
theorem dX10_callLine_350 : decode cX10_callLine 350 = .ok (.return_, 1) := by decide +kernel
theorem dX10_callLine_351 : decode cX10_callLine 351 = .ok (.aload_n 0, 1) := by decide +kernel
theorem dX10_callLine_352 : decode cX10_callLine 352 = .ok (.ldc_w 262, 3) := by decide +kernel
theorem dX10_callLine_355 : decode cX10_callLine 355 = .ok (.invokevirtual 153, 3) := by decide +kernel
theorem dX10_callLine_358 : decode cX10_callLine 358 = .ok (.ifCond .ne 50, 3) := by decide +kernel
theorem dX10_callLine_361 : decode cX10_callLine 361 = .ok (.aload_n 0, 1) := by decide +kernel
theorem dX10_callLine_362 : decode cX10_callLine 362 = .ok (.ldc_w 264, 3) := by decide +kernel
theorem dX10_callLine_365 : decode cX10_callLine 365 = .ok (.invokevirtual 217, 3) := by decide +kernel
theorem dX10_callLine_368 : decode cX10_callLine 368 = .ok (.aload_n 0, 1) := by decide +kernel
theorem dX10_callLine_369 : decode cX10_callLine 369 = .ok (.getfield 29, 3) := by decide +kernel
theorem dX10_callLine_372 : decode cX10_callLine 372 = .ok (.iload_n 1, 1) := by decide +kernel
theorem dX10_callLine_373 : decode cX10_callLine 373 = .ok (.iconst 5, 1) := by decide +kernel
theorem dX10_callLine_374 : decode cX10_callLine 374 = .ok (.iadd, 1) := by decide +kernel
theorem dX10_callLine_375 : decode cX10_callLine 375 = .ok (.aload_n 0, 1) := by decide +kernel
theorem dX10_callLine_376 : decode cX10_callLine 376 = .ok (.iload 8, 2) := by decide +kernel
theorem dX10_callLine_378 : decode cX10_callLine 378 = .ok (.sipush 999, 3) := by decide +kernel
theorem dX10_callLine_381 : decode cX10_callLine 381 = .ok (.invokevirtual 221, 3) := by decide +kernel
theorem dX10_callLine_384 : decode cX10_callLine 384 = .ok (.iastore, 1) := by decide +kernel
theorem dX10_callLine_385 : decode cX10_callLine 385 = .ok (.aload_n 0, 1) := by decide +kernel
theorem dX10_callLine_386 : decode cX10_callLine 386 = .ok (.ldc_w 266, 3) := by decide +kernel
theorem dX10_callLine_389 : decode cX10_callLine 389 = .ok (.invokevirtual 217, 3) := by decide +kernel
theorem dX10_callLine_392 : decode cX10_callLine 392 = .ok (.aload_n 0, 1) := by decide +kernel
theorem dX10_callLine_393 : decode cX10_callLine 393 = .ok (.getfield 29, 3) := by decide +kernel
theorem dX10_callLine_396 : decode cX10_callLine 396 = .ok (.iload_n 1, 1) := by decide +kernel
theorem dX10_callLine_397 : decode cX10_callLine 397 = .ok (.bipush 6, 2) := by decide +kernel
theorem dX10_callLine_399 : decode cX10_callLine 399 = .ok (.iadd, 1) := by decide +kernel
theorem dX10_callLine_400 : decode cX10_callLine 400 = .ok (.aload_n 0, 1) := by decide +kernel
theorem dX10_callLine_401 : decode cX10_callLine 401 = .ok (.iconst 0, 1) := by decide +kernel
theorem dX10_callLine_402 : decode cX10_callLine 402 = .ok (.bipush 99, 2) := by decide +kernel
theorem dX10_callLine_404 : decode cX10_callLine 404 = .ok (.invokevirtual 221, 3) := by decide +kernel
theorem dX10_callLine_407 : decode cX10_callLine 407 = .ok (.iastore, 1) := by decide +kernel
theorem dX10_callLine_408 : decode cX10_callLine 408 = .ok (.aload_n 0, 1) := by decide +kernel
theorem dX10_callLine_409 : decode cX10_callLine 409 = .ok (.getfield 129, 3) := by decide +kernel
theorem dX10_callLine_412 : decode cX10_callLine 412 = .ok (.ifCond .ne 15, 3) := by decide +kernel
theorem dX10_callLine_415 : decode cX10_callLine 415 = .ok (.aload_n 0, 1) := by decide +kernel
theorem dX10_callLine_416 : decode cX10_callLine 416 = .ok (.getfield 29, 3) := by decide +kernel
theorem dX10_callLine_419 : decode cX10_callLine 419 = .ok (.sipush 141, 3) := by decide +kernel
theorem dX10_callLine_422 : decode cX10_callLine 422 = .ok (.dup2, 1) := by decide +kernel
theorem dX10_callLine_423 : decode cX10_callLine 423 = .ok (.iaload, 1) := by decide +kernel
theorem dX10_callLine_424 : decode cX10_callLine 424 = .ok (.iconst 1, 1) := by decide +kernel
theorem dX10_callLine_425 : decode cX10_callLine 425 = .ok (.iadd, 1) := by decide +kernel
theorem dX10_callLine_426 : decode cX10_callLine 426 = .ok (.iastore, 1) := by decide +kernel
theorem dX10_callLine_427 : decode cX10_callLine 427 = .ok (.return_, 1) := by decide +kernel
theorem dX10_fault_0 : decode cX10_fault 0 = .ok (.aload_n 0, 1) := by decide +kernel
theorem dX10_fault_1 : decode cX10_fault 1 = .ok (.iconst 0, 1) := by decide +kernel
theorem dX10_fault_2 : decode cX10_fault 2 = .ok (.putfield 91, 3) := by decide +kernel
theorem dX10_fault_5 : decode cX10_fault 5 = .ok (.aload_n 0, 1) := by decide +kernel
theorem dX10_fault_6 : decode cX10_fault 6 = .ok (.getfield 133, 3) := by decide +kernel
theorem dX10_fault_9 : decode cX10_fault 9 = .ok (.ireturn, 1) := by decide +kernel
theorem dX10_where_0 : decode cX10_where 0 = .ok (.aload_n 0, 1) := by decide +kernel
theorem dX10_where_1 : decode cX10_where 1 = .ok (.iconst 0, 1) := by decide +kernel
theorem dX10_where_2 : decode cX10_where 2 = .ok (.putfield 91, 3) := by decide +kernel
theorem dX10_where_5 : decode cX10_where 5 = .ok (.aload_n 0, 1) := by decide +kernel
theorem dX10_where_6 : decode cX10_where 6 = .ok (.getfield 94, 3) := by decide +kernel
theorem dX10_where_9 : decode cX10_where 9 = .ok (.iconst 4, 1) := by decide +kernel
theorem dX10_where_10 : decode cX10_where 10 = .ok (.if_icmp .ne 10, 3) := by decide +kernel
theorem dX10_where_13 : decode cX10_where 13 = .ok (.aload_n 0, 1) := by decide +kernel
theorem dX10_where_14 : decode cX10_where 14 = .ok (.getfield 13, 3) := by decide +kernel
theorem dX10_where_17 : decode cX10_where 17 = .ok (.goto 4, 3) := by decide +kernel
theorem dX10_where_20 : decode cX10_where 20 = .ok (.iconst (-1), 1) := by decide +kernel
theorem dX10_where_21 : decode cX10_where 21 = .ok (.ireturn, 1) := by decide +kernel
theorem dX10_isCall_0 : decode cX10_isCall 0 = .ok (.aload_n 0, 1) := by decide +kernel
theorem dX10_isCall_1 : decode cX10_isCall 1 = .ok (.getfield 193, 3) := by decide +kernel
theorem dX10_isCall_4 : decode cX10_isCall 4 = .ok (.ifCond .eq 25, 3) := by decide +kernel
theorem dX10_isCall_7 : decode cX10_isCall 7 = .ok (.iload_n 1, 1) := by decide +kernel
theorem dX10_isCall_8 : decode cX10_isCall 8 = .ok (.iconst 0, 1) := by decide +kernel
theorem dX10_isCall_9 : decode cX10_isCall 9 = .ok (.aload_n 0, 1) := by decide +kernel
theorem dX10_isCall_10 : decode cX10_isCall 10 = .ok (.getfield 26, 3) := by decide +kernel
theorem dX10_isCall_13 : decode cX10_isCall 13 = .ok (.sipush 141, 3) := by decide +kernel
theorem dX10_isCall_16 : decode cX10_isCall 16 = .ok (.iaload, 1) := by decide +kernel
theorem dX10_isCall_17 : decode cX10_isCall 17 = .ok (.iconst 1, 1) := by decide +kernel
theorem dX10_isCall_18 : decode cX10_isCall 18 = .ok (.isub, 1) := by decide +kernel
theorem dX10_isCall_19 : decode cX10_isCall 19 = .ok (.invokestatic 176, 3) := by decide +kernel
theorem dX10_isCall_22 : decode cX10_isCall 22 = .ok (.ifCond .eq 7, 3) := by decide +kernel
theorem dX10_isCall_25 : decode cX10_isCall 25 = .ok (.iconst 1, 1) := by decide +kernel
theorem dX10_isCall_26 : decode cX10_isCall 26 = .ok (.goto 4, 3) := by decide +kernel
theorem dX10_isCall_29 : decode cX10_isCall 29 = .ok (.iconst 0, 1) := by decide +kernel
theorem dX10_isCall_30 : decode cX10_isCall 30 = .ok (.ireturn, 1) := by decide +kernel
theorem dX10_isTill_0 : decode cX10_isTill 0 = .ok (.aload_n 0, 1) := by decide +kernel
theorem dX10_isTill_1 : decode cX10_isTill 1 = .ok (.getfield 193, 3) := by decide +kernel
theorem dX10_isTill_4 : decode cX10_isTill 4 = .ok (.ifCond .eq 23, 3) := by decide +kernel
theorem dX10_isTill_7 : decode cX10_isTill 7 = .ok (.iload_n 1, 1) := by decide +kernel
theorem dX10_isTill_8 : decode cX10_isTill 8 = .ok (.iconst 0, 1) := by decide +kernel
theorem dX10_isTill_9 : decode cX10_isTill 9 = .ok (.aload_n 0, 1) := by decide +kernel
theorem dX10_isTill_10 : decode cX10_isTill 10 = .ok (.getfield 20, 3) := by decide +kernel
theorem dX10_isTill_13 : decode cX10_isTill 13 = .ok (.iconst 2, 1) := by decide +kernel
theorem dX10_isTill_14 : decode cX10_isTill 14 = .ok (.iaload, 1) := by decide +kernel
theorem dX10_isTill_15 : decode cX10_isTill 15 = .ok (.iconst 1, 1) := by decide +kernel
theorem dX10_isTill_16 : decode cX10_isTill 16 = .ok (.isub, 1) := by decide +kernel
theorem dX10_isTill_17 : decode cX10_isTill 17 = .ok (.invokestatic 176, 3) := by decide +kernel
theorem dX10_isTill_20 : decode cX10_isTill 20 = .ok (.ifCond .eq 7, 3) := by decide +kernel
theorem dX10_isTill_23 : decode cX10_isTill 23 = .ok (.iconst 1, 1) := by decide +kernel
theorem dX10_isTill_24 : decode cX10_isTill 24 = .ok (.goto 4, 3) := by decide +kernel
theorem dX10_isTill_27 : decode cX10_isTill 27 = .ok (.iconst 0, 1) := by decide +kernel
theorem dX10_isTill_28 : decode cX10_isTill 28 = .ok (.ireturn, 1) := by decide +kernel
theorem dX10_atFirst_0 : decode cX10_atFirst 0 = .ok (.iload_n 0, 1) := by decide +kernel
theorem dX10_atFirst_1 : decode cX10_atFirst 1 = .ok (.iconst 4, 1) := by decide +kernel
theorem dX10_atFirst_2 : decode cX10_atFirst 2 = .ok (.if_icmp .ne 9, 3) := by decide +kernel
theorem dX10_atFirst_5 : decode cX10_atFirst 5 = .ok (.ldc2_w 268, 3) := by decide +kernel
theorem dX10_atFirst_8 : decode cX10_atFirst 8 = .ok (.goto 4, 3) := by decide +kernel
theorem dX10_atFirst_11 : decode cX10_atFirst 11 = .ok (.lconst 0, 1) := by decide +kernel
theorem dX10_atFirst_12 : decode cX10_atFirst 12 = .ok (.lreturn, 1) := by decide +kernel
theorem dX10_done_0 : decode cX10_done 0 = .ok (.iload_n 1, 1) := by decide +kernel
theorem dX10_done_1 : decode cX10_done 1 = .ok (.tableswitch 208 0 3 #[31, 59, 69, 154], 31) := by decide +kernel
theorem dX10_done_32 : decode cX10_done 32 = .ok (.aload_n 0, 1) := by decide +kernel
theorem dX10_done_33 : decode cX10_done 33 = .ok (.iload 4, 2) := by decide +kernel
theorem dX10_done_35 : decode cX10_done 35 = .ok (.ifCond .ne 7, 3) := by decide +kernel
theorem dX10_done_38 : decode cX10_done 38 = .ok (.iconst 0, 1) := by decide +kernel
theorem dX10_done_39 : decode cX10_done 39 = .ok (.goto 5, 3) := by decide +kernel
theorem dX10_done_42 : decode cX10_done 42 = .ok (.lload_n 2, 1) := by decide +kernel
theorem dX10_done_43 : decode cX10_done 43 = .ok (.l2i, 1) := by decide +kernel
theorem dX10_done_44 : decode cX10_done 44 = .ok (.putfield 270, 3) := by decide +kernel
theorem dX10_done_47 : decode cX10_done 47 = .ok (.iload 4, 2) := by decide +kernel
theorem dX10_done_49 : decode cX10_done 49 = .ok (.ifCond .ne 9, 3) := by decide +kernel
theorem dX10_done_52 : decode cX10_done 52 = .ok (.iload 5, 2) := by decide +kernel
theorem dX10_done_54 : decode cX10_done 54 = .ok (.i2l, 1) := by decide +kernel
theorem dX10_done_55 : decode cX10_done 55 = .ok (.goto 4, 3) := by decide +kernel
theorem dX10_done_58 : decode cX10_done 58 = .ok (.lload_n 2, 1) := by decide +kernel
theorem dX10_done_59 : decode cX10_done 59 = .ok (.lreturn, 1) := by decide +kernel
theorem dX10_done_60 : decode cX10_done 60 = .ok (.aload_n 0, 1) := by decide +kernel
theorem dX10_done_61 : decode cX10_done 61 = .ok (.lload_n 2, 1) := by decide +kernel
theorem dX10_done_62 : decode cX10_done 62 = .ok (.iload 4, 2) := by decide +kernel
theorem dX10_done_64 : decode cX10_done 64 = .ok (.iload 5, 2) := by decide +kernel
theorem dX10_done_66 : decode cX10_done 66 = .ok (.invokevirtual 273, 3) := by decide +kernel
theorem dX10_done_69 : decode cX10_done 69 = .ok (.lreturn, 1) := by decide +kernel
theorem dX10_done_70 : decode cX10_done 70 = .ok (.lload_n 2, 1) := by decide +kernel
theorem dX10_done_71 : decode cX10_done 71 = .ok (.iload 5, 2) := by decide +kernel
theorem dX10_done_73 : decode cX10_done 73 = .ok (.lshr, 1) := by decide +kernel
theorem dX10_done_74 : decode cX10_done 74 = .ok (.lconst 1, 1) := by decide +kernel
theorem dX10_done_75 : decode cX10_done 75 = .ok (.land, 1) := by decide +kernel
theorem dX10_done_76 : decode cX10_done 76 = .ok (.lconst 1, 1) := by decide +kernel
theorem dX10_done_77 : decode cX10_done 77 = .ok (.lcmp, 1) := by decide +kernel
theorem dX10_done_78 : decode cX10_done 78 = .ok (.ifCond .ne 7, 3) := by decide +kernel
theorem dX10_done_81 : decode cX10_done 81 = .ok (.iconst 1, 1) := by decide +kernel
theorem dX10_done_82 : decode cX10_done 82 = .ok (.goto 4, 3) := by decide +kernel
theorem dX10_done_85 : decode cX10_done 85 = .ok (.iconst 0, 1) := by decide +kernel
theorem dX10_done_86 : decode cX10_done 86 = .ok (.istore 6, 2) := by decide +kernel
theorem dX10_done_88 : decode cX10_done 88 = .ok (.aload_n 0, 1) := by decide +kernel
theorem dX10_done_89 : decode cX10_done 89 = .ok (.iload 4, 2) := by decide +kernel
theorem dX10_done_91 : decode cX10_done 91 = .ok (.ifCond .ne 16, 3) := by decide +kernel
theorem dX10_done_94 : decode cX10_done 94 = .ok (.iload 6, 2) := by decide +kernel
theorem dX10_done_96 : decode cX10_done 96 = .ok (.ifCond .eq 7, 3) := by decide +kernel
theorem dX10_done_99 : decode cX10_done 99 = .ok (.iconst 0, 1) := by decide +kernel
theorem dX10_done_100 : decode cX10_done 100 = .ok (.goto 17, 3) := by decide +kernel
theorem dX10_done_103 : decode cX10_done 103 = .ok (.iconst 1, 1) := by decide +kernel
theorem dX10_done_104 : decode cX10_done 104 = .ok (.goto 13, 3) := by decide +kernel
theorem dX10_done_107 : decode cX10_done 107 = .ok (.iload 6, 2) := by decide +kernel
theorem dX10_done_109 : decode cX10_done 109 = .ok (.ifCond .eq 7, 3) := by decide +kernel
theorem dX10_done_112 : decode cX10_done 112 = .ok (.iconst 1, 1) := by decide +kernel
theorem dX10_done_113 : decode cX10_done 113 = .ok (.goto 4, 3) := by decide +kernel
theorem dX10_done_116 : decode cX10_done 116 = .ok (.iconst 0, 1) := by decide +kernel
theorem dX10_done_117 : decode cX10_done 117 = .ok (.putfield 270, 3) := by decide +kernel
theorem dX10_done_120 : decode cX10_done 120 = .ok (.iload 4, 2) := by decide +kernel
theorem dX10_done_122 : decode cX10_done 122 = .ok (.ifCond .ne 12, 3) := by decide +kernel
theorem dX10_done_125 : decode cX10_done 125 = .ok (.lload_n 2, 1) := by decide +kernel
theorem dX10_done_126 : decode cX10_done 126 = .ok (.lconst 1, 1) := by decide +kernel
theorem dX10_done_127 : decode cX10_done 127 = .ok (.iload 5, 2) := by decide +kernel
theorem dX10_done_129 : decode cX10_done 129 = .ok (.lshl, 1) := by decide +kernel
theorem dX10_done_130 : decode cX10_done 130 = .ok (.lor, 1) := by decide +kernel
theorem dX10_done_131 : decode cX10_done 131 = .ok (.goto 23, 3) := by decide +kernel
theorem dX10_done_134 : decode cX10_done 134 = .ok (.iload 4, 2) := by decide +kernel
theorem dX10_done_136 : decode cX10_done 136 = .ok (.iconst 1, 1) := by decide +kernel
theorem dX10_done_137 : decode cX10_done 137 = .ok (.if_icmp .ne 16, 3) := by decide +kernel
theorem dX10_done_140 : decode cX10_done 140 = .ok (.lload_n 2, 1) := by decide +kernel
theorem dX10_done_141 : decode cX10_done 141 = .ok (.lconst 1, 1) := by decide +kernel
theorem dX10_done_142 : decode cX10_done 142 = .ok (.iload 5, 2) := by decide +kernel
theorem dX10_done_144 : decode cX10_done 144 = .ok (.lshl, 1) := by decide +kernel
theorem dX10_done_145 : decode cX10_done 145 = .ok (.ldc2_w 277, 3) := by decide +kernel
theorem dX10_done_148 : decode cX10_done 148 = .ok (.lxor, 1) := by decide +kernel
theorem dX10_done_149 : decode cX10_done 149 = .ok (.land, 1) := by decide +kernel
theorem dX10_done_150 : decode cX10_done 150 = .ok (.goto 4, 3) := by decide +kernel
theorem dX10_done_153 : decode cX10_done 153 = .ok (.lload_n 2, 1) := by decide +kernel
theorem dX10_done_154 : decode cX10_done 154 = .ok (.lreturn, 1) := by decide +kernel
theorem dX10_done_155 : decode cX10_done 155 = .ok (.iload 4, 2) := by decide +kernel
theorem dX10_done_157 : decode cX10_done 157 = .ok (.ifCond .ne 21, 3) := by decide +kernel
theorem dX10_done_160 : decode cX10_done 160 = .ok (.lload_n 2, 1) := by decide +kernel
theorem dX10_done_161 : decode cX10_done 161 = .ok (.ldc2_w 279, 3) := by decide +kernel
theorem dX10_done_164 : decode cX10_done 164 = .ok (.lcmp, 1) := by decide +kernel
theorem dX10_done_165 : decode cX10_done 165 = .ok (.ifCond .ge 9, 3) := by decide +kernel
theorem dX10_done_168 : decode cX10_done 168 = .ok (.lload_n 2, 1) := by decide +kernel
theorem dX10_done_169 : decode cX10_done 169 = .ok (.lconst 1, 1) := by decide +kernel
theorem dX10_done_170 : decode cX10_done 170 = .ok (.ladd, 1) := by decide +kernel
theorem dX10_done_171 : decode cX10_done 171 = .ok (.goto 26, 3) := by decide +kernel
theorem dX10_done_174 : decode cX10_done 174 = .ok (.lload_n 2, 1) := by decide +kernel
theorem dX10_done_175 : decode cX10_done 175 = .ok (.goto 22, 3) := by decide +kernel
theorem dX10_done_178 : decode cX10_done 178 = .ok (.iload 4, 2) := by decide +kernel
theorem dX10_done_180 : decode cX10_done 180 = .ok (.iconst 1, 1) := by decide +kernel
theorem dX10_done_181 : decode cX10_done 181 = .ok (.if_icmp .ne 15, 3) := by decide +kernel
theorem dX10_done_184 : decode cX10_done 184 = .ok (.lload_n 2, 1) := by decide +kernel
theorem dX10_done_185 : decode cX10_done 185 = .ok (.lconst 0, 1) := by decide +kernel
theorem dX10_done_186 : decode cX10_done 186 = .ok (.lcmp, 1) := by decide +kernel
theorem dX10_done_187 : decode cX10_done 187 = .ok (.ifCond .le 9, 3) := by decide +kernel
theorem dX10_done_190 : decode cX10_done 190 = .ok (.lload_n 2, 1) := by decide +kernel
theorem dX10_done_191 : decode cX10_done 191 = .ok (.lconst 1, 1) := by decide +kernel
theorem dX10_done_192 : decode cX10_done 192 = .ok (.lsub, 1) := by decide +kernel
theorem dX10_done_193 : decode cX10_done 193 = .ok (.goto 4, 3) := by decide +kernel
theorem dX10_done_196 : decode cX10_done 196 = .ok (.lload_n 2, 1) := by decide +kernel
theorem dX10_done_197 : decode cX10_done 197 = .ok (.lstore 7, 2) := by decide +kernel
theorem dX10_done_199 : decode cX10_done 199 = .ok (.aload_n 0, 1) := by decide +kernel
theorem dX10_done_200 : decode cX10_done 200 = .ok (.lload 7, 2) := by decide +kernel
theorem dX10_done_202 : decode cX10_done 202 = .ok (.l2i, 1) := by decide +kernel
theorem dX10_done_203 : decode cX10_done 203 = .ok (.putfield 270, 3) := by decide +kernel
theorem dX10_done_206 : decode cX10_done 206 = .ok (.lload 7, 2) := by decide +kernel
theorem dX10_done_208 : decode cX10_done 208 = .ok (.lreturn, 1) := by decide +kernel
theorem dX10_done_209 : decode cX10_done 209 = .ok (.aload_n 0, 1) := by decide +kernel
theorem dX10_done_210 : decode cX10_done 210 = .ok (.iload 4, 2) := by decide +kernel
theorem dX10_done_212 : decode cX10_done 212 = .ok (.iconst 2, 1) := by decide +kernel
theorem dX10_done_213 : decode cX10_done 213 = .ok (.if_icmp .ne 8, 3) := by decide +kernel
theorem dX10_done_216 : decode cX10_done 216 = .ok (.lload_n 2, 1) := by decide +kernel
theorem dX10_done_217 : decode cX10_done 217 = .ok (.l2i, 1) := by decide +kernel
theorem dX10_done_218 : decode cX10_done 218 = .ok (.goto 29, 3) := by decide +kernel
theorem dX10_done_221 : decode cX10_done 221 = .ok (.iload 4, 2) := by decide +kernel
theorem dX10_done_223 : decode cX10_done 223 = .ok (.ifCond .ne 7, 3) := by decide +kernel
theorem dX10_done_226 : decode cX10_done 226 = .ok (.lload_n 2, 1) := by decide +kernel
theorem dX10_done_227 : decode cX10_done 227 = .ok (.goto 8, 3) := by decide +kernel
theorem dX10_done_230 : decode cX10_done 230 = .ok (.ldc2_w 281, 3) := by decide +kernel
theorem dX10_done_233 : decode cX10_done 233 = .ok (.lload_n 2, 1) := by decide +kernel
theorem dX10_done_234 : decode cX10_done 234 = .ok (.lsub, 1) := by decide +kernel
theorem dX10_done_235 : decode cX10_done 235 = .ok (.iload 5, 2) := by decide +kernel
theorem dX10_done_237 : decode cX10_done 237 = .ok (.i2l, 1) := by decide +kernel
theorem dX10_done_238 : decode cX10_done 238 = .ok (.lcmp, 1) := by decide +kernel
theorem dX10_done_239 : decode cX10_done 239 = .ok (.ifCond .lt 7, 3) := by decide +kernel
theorem dX10_done_242 : decode cX10_done 242 = .ok (.iconst 1, 1) := by decide +kernel
theorem dX10_done_243 : decode cX10_done 243 = .ok (.goto 4, 3) := by decide +kernel
theorem dX10_done_246 : decode cX10_done 246 = .ok (.iconst 0, 1) := by decide +kernel
theorem dX10_done_247 : decode cX10_done 247 = .ok (.putfield 270, 3) := by decide +kernel
theorem dX10_done_250 : decode cX10_done 250 = .ok (.iload 4, 2) := by decide +kernel
theorem dX10_done_252 : decode cX10_done 252 = .ok (.iconst 2, 1) := by decide +kernel
theorem dX10_done_253 : decode cX10_done 253 = .ok (.if_icmp .eq 10, 3) := by decide +kernel
theorem dX10_done_256 : decode cX10_done 256 = .ok (.aload_n 0, 1) := by decide +kernel
theorem dX10_done_257 : decode cX10_done 257 = .ok (.getfield 270, 3) := by decide +kernel
theorem dX10_done_260 : decode cX10_done 260 = .ok (.ifCond .ne 7, 3) := by decide +kernel
theorem dX10_done_263 : decode cX10_done 263 = .ok (.lload_n 2, 1) := by decide +kernel
theorem dX10_done_264 : decode cX10_done 264 = .ok (.goto 21, 3) := by decide +kernel
theorem dX10_done_267 : decode cX10_done 267 = .ok (.iload 4, 2) := by decide +kernel
theorem dX10_done_269 : decode cX10_done 269 = .ok (.ifCond .ne 11, 3) := by decide +kernel
theorem dX10_done_272 : decode cX10_done 272 = .ok (.lload_n 2, 1) := by decide +kernel
theorem dX10_done_273 : decode cX10_done 273 = .ok (.iload 5, 2) := by decide +kernel
theorem dX10_done_275 : decode cX10_done 275 = .ok (.i2l, 1) := by decide +kernel
theorem dX10_done_276 : decode cX10_done 276 = .ok (.lsub, 1) := by decide +kernel
theorem dX10_done_277 : decode cX10_done 277 = .ok (.goto 8, 3) := by decide +kernel
theorem dX10_done_280 : decode cX10_done 280 = .ok (.lload_n 2, 1) := by decide +kernel
theorem dX10_done_281 : decode cX10_done 281 = .ok (.iload 5, 2) := by decide +kernel
theorem dX10_done_283 : decode cX10_done 283 = .ok (.i2l, 1) := by decide +kernel
theorem dX10_done_284 : decode cX10_done 284 = .ok (.ladd, 1) := by decide +kernel
theorem dX10_done_285 : decode cX10_done 285 = .ok (.lreturn, 1) := by decide +kernel
theorem dX10_queued_0 : decode cX10_queued 0 = .ok (.lload_n 1, 1) := by decide +kernel
theorem dX10_queued_1 : decode cX10_queued 1 = .ok (.ldc2_w 283, 3) := by decide +kernel
theorem dX10_queued_4 : decode cX10_queued 4 = .ok (.ldiv, 1) := by decide +kernel
theorem dX10_queued_5 : decode cX10_queued 5 = .ok (.l2i, 1) := by decide +kernel
theorem dX10_queued_6 : decode cX10_queued 6 = .ok (.istore 5, 2) := by decide +kernel
theorem dX10_queued_8 : decode cX10_queued 8 = .ok (.lload_n 1, 1) := by decide +kernel
theorem dX10_queued_9 : decode cX10_queued 9 = .ok (.ldc2_w 283, 3) := by decide +kernel
theorem dX10_queued_12 : decode cX10_queued 12 = .ok (.lrem, 1) := by decide +kernel
theorem dX10_queued_13 : decode cX10_queued 13 = .ok (.lstore 6, 2) := by decide +kernel
theorem dX10_queued_15 : decode cX10_queued 15 = .ok (.iload_n 3, 1) := by decide +kernel
theorem dX10_queued_16 : decode cX10_queued 16 = .ok (.ifCond .ne 51, 3) := by decide +kernel
theorem dX10_queued_19 : decode cX10_queued 19 = .ok (.aload_n 0, 1) := by decide +kernel
theorem dX10_queued_20 : decode cX10_queued 20 = .ok (.iload 5, 2) := by decide +kernel
theorem dX10_queued_22 : decode cX10_queued 22 = .ok (.bipush 6, 2) := by decide +kernel
theorem dX10_queued_24 : decode cX10_queued 24 = .ok (.if_icmp .ge 7, 3) := by decide +kernel
theorem dX10_queued_27 : decode cX10_queued 27 = .ok (.iconst 1, 1) := by decide +kernel
theorem dX10_queued_28 : decode cX10_queued 28 = .ok (.goto 4, 3) := by decide +kernel
theorem dX10_queued_31 : decode cX10_queued 31 = .ok (.iconst 0, 1) := by decide +kernel
theorem dX10_queued_32 : decode cX10_queued 32 = .ok (.putfield 270, 3) := by decide +kernel
theorem dX10_queued_35 : decode cX10_queued 35 = .ok (.iload 5, 2) := by decide +kernel
theorem dX10_queued_37 : decode cX10_queued 37 = .ok (.bipush 6, 2) := by decide +kernel
theorem dX10_queued_39 : decode cX10_queued 39 = .ok (.if_icmp .ge 26, 3) := by decide +kernel
theorem dX10_queued_42 : decode cX10_queued 42 = .ok (.iload 5, 2) := by decide +kernel
theorem dX10_queued_44 : decode cX10_queued 44 = .ok (.iconst 1, 1) := by decide +kernel
theorem dX10_queued_45 : decode cX10_queued 45 = .ok (.iadd, 1) := by decide +kernel
theorem dX10_queued_46 : decode cX10_queued 46 = .ok (.i2l, 1) := by decide +kernel
theorem dX10_queued_47 : decode cX10_queued 47 = .ok (.ldc2_w 283, 3) := by decide +kernel
theorem dX10_queued_50 : decode cX10_queued 50 = .ok (.lmul, 1) := by decide +kernel
theorem dX10_queued_51 : decode cX10_queued 51 = .ok (.ldc2_w 285, 3) := by decide +kernel
theorem dX10_queued_54 : decode cX10_queued 54 = .ok (.lload 6, 2) := by decide +kernel
theorem dX10_queued_56 : decode cX10_queued 56 = .ok (.lmul, 1) := by decide +kernel
theorem dX10_queued_57 : decode cX10_queued 57 = .ok (.ladd, 1) := by decide +kernel
theorem dX10_queued_58 : decode cX10_queued 58 = .ok (.iload 4, 2) := by decide +kernel
theorem dX10_queued_60 : decode cX10_queued 60 = .ok (.i2l, 1) := by decide +kernel
theorem dX10_queued_61 : decode cX10_queued 61 = .ok (.ladd, 1) := by decide +kernel
theorem dX10_queued_62 : decode cX10_queued 62 = .ok (.goto 4, 3) := by decide +kernel
theorem dX10_queued_65 : decode cX10_queued 65 = .ok (.lload_n 1, 1) := by decide +kernel
theorem dX10_queued_66 : decode cX10_queued 66 = .ok (.lreturn, 1) := by decide +kernel
theorem dX10_queued_67 : decode cX10_queued 67 = .ok (.iload 5, 2) := by decide +kernel
theorem dX10_queued_69 : decode cX10_queued 69 = .ok (.ifCond .ne 10, 3) := by decide +kernel
theorem dX10_queued_72 : decode cX10_queued 72 = .ok (.aload_n 0, 1) := by decide +kernel
theorem dX10_queued_73 : decode cX10_queued 73 = .ok (.iconst 0, 1) := by decide +kernel
theorem dX10_queued_74 : decode cX10_queued 74 = .ok (.putfield 270, 3) := by decide +kernel
theorem dX10_queued_77 : decode cX10_queued 77 = .ok (.lload_n 1, 1) := by decide +kernel
theorem dX10_queued_78 : decode cX10_queued 78 = .ok (.lreturn, 1) := by decide +kernel
theorem dX10_queued_79 : decode cX10_queued 79 = .ok (.lconst 1, 1) := by decide +kernel
theorem dX10_queued_80 : decode cX10_queued 80 = .ok (.lstore 8, 2) := by decide +kernel
theorem dX10_queued_82 : decode cX10_queued 82 = .ok (.iconst 1, 1) := by decide +kernel
theorem dX10_queued_83 : decode cX10_queued 83 = .ok (.istore 10, 2) := by decide +kernel
theorem dX10_queued_85 : decode cX10_queued 85 = .ok (.iload 10, 2) := by decide +kernel
theorem dX10_queued_87 : decode cX10_queued 87 = .ok (.iload 5, 2) := by decide +kernel
theorem dX10_queued_89 : decode cX10_queued 89 = .ok (.if_icmp .ge 17, 3) := by decide +kernel
theorem dX10_queued_92 : decode cX10_queued 92 = .ok (.lload 8, 2) := by decide +kernel
theorem dX10_queued_94 : decode cX10_queued 94 = .ok (.ldc2_w 285, 3) := by decide +kernel
theorem dX10_queued_97 : decode cX10_queued 97 = .ok (.lmul, 1) := by decide +kernel
theorem dX10_queued_98 : decode cX10_queued 98 = .ok (.lstore 8, 2) := by decide +kernel
theorem dX10_queued_100 : decode cX10_queued 100 = .ok (.iinc 10 1, 3) := by decide +kernel
theorem dX10_queued_103 : decode cX10_queued 103 = .ok (.goto (-18), 3) := by decide +kernel
theorem dX10_queued_106 : decode cX10_queued 106 = .ok (.aload_n 0, 1) := by decide +kernel
theorem dX10_queued_107 : decode cX10_queued 107 = .ok (.iconst 1, 1) := by decide +kernel
theorem dX10_queued_108 : decode cX10_queued 108 = .ok (.lload 6, 2) := by decide +kernel
theorem dX10_queued_110 : decode cX10_queued 110 = .ok (.lload 8, 2) := by decide +kernel
theorem dX10_queued_112 : decode cX10_queued 112 = .ok (.ldiv, 1) := by decide +kernel
theorem dX10_queued_113 : decode cX10_queued 113 = .ok (.l2i, 1) := by decide +kernel
theorem dX10_queued_114 : decode cX10_queued 114 = .ok (.iadd, 1) := by decide +kernel
theorem dX10_queued_115 : decode cX10_queued 115 = .ok (.putfield 270, 3) := by decide +kernel
theorem dX10_queued_118 : decode cX10_queued 118 = .ok (.iload 5, 2) := by decide +kernel
theorem dX10_queued_120 : decode cX10_queued 120 = .ok (.iconst 1, 1) := by decide +kernel
theorem dX10_queued_121 : decode cX10_queued 121 = .ok (.isub, 1) := by decide +kernel
theorem dX10_queued_122 : decode cX10_queued 122 = .ok (.i2l, 1) := by decide +kernel
theorem dX10_queued_123 : decode cX10_queued 123 = .ok (.ldc2_w 283, 3) := by decide +kernel
theorem dX10_queued_126 : decode cX10_queued 126 = .ok (.lmul, 1) := by decide +kernel
theorem dX10_queued_127 : decode cX10_queued 127 = .ok (.lload 6, 2) := by decide +kernel
theorem dX10_queued_129 : decode cX10_queued 129 = .ok (.lload 8, 2) := by decide +kernel
theorem dX10_queued_131 : decode cX10_queued 131 = .ok (.lrem, 1) := by decide +kernel
theorem dX10_queued_132 : decode cX10_queued 132 = .ok (.ladd, 1) := by decide +kernel
theorem dX10_queued_133 : decode cX10_queued 133 = .ok (.lreturn, 1) := by decide +kernel
theorem dX10_layCalls_0 : decode cX10_layCalls 0 = .ok (.aload_n 0, 1) := by decide +kernel
theorem dX10_layCalls_1 : decode cX10_layCalls 1 = .ok (.getfield 26, 3) := by decide +kernel
theorem dX10_layCalls_4 : decode cX10_layCalls 4 = .ok (.iconst 0, 1) := by decide +kernel
theorem dX10_layCalls_5 : decode cX10_layCalls 5 = .ok (.aload_n 0, 1) := by decide +kernel
theorem dX10_layCalls_6 : decode cX10_layCalls 6 = .ok (.getfield 38, 3) := by decide +kernel
theorem dX10_layCalls_9 : decode cX10_layCalls 9 = .ok (.iconst 0, 1) := by decide +kernel
theorem dX10_layCalls_10 : decode cX10_layCalls 10 = .ok (.sipush 142, 3) := by decide +kernel
theorem dX10_layCalls_13 : decode cX10_layCalls 13 = .ok (.invokestatic 189, 3) := by decide +kernel
theorem dX10_layCalls_16 : decode cX10_layCalls 16 = .ok (.aload_n 0, 1) := by decide +kernel
theorem dX10_layCalls_17 : decode cX10_layCalls 17 = .ok (.iconst 1, 1) := by decide +kernel
theorem dX10_layCalls_18 : decode cX10_layCalls 18 = .ok (.aload_n 0, 1) := by decide +kernel
theorem dX10_layCalls_19 : decode cX10_layCalls 19 = .ok (.getfield 26, 3) := by decide +kernel
theorem dX10_layCalls_22 : decode cX10_layCalls 22 = .ok (.sipush 141, 3) := by decide +kernel
theorem dX10_layCalls_25 : decode cX10_layCalls 25 = .ok (.iaload, 1) := by decide +kernel
theorem dX10_layCalls_26 : decode cX10_layCalls 26 = .ok (.ishl, 1) := by decide +kernel
theorem dX10_layCalls_27 : decode cX10_layCalls 27 = .ok (.iconst 1, 1) := by decide +kernel
theorem dX10_layCalls_28 : decode cX10_layCalls 28 = .ok (.isub, 1) := by decide +kernel
theorem dX10_layCalls_29 : decode cX10_layCalls 29 = .ok (.putfield 287, 3) := by decide +kernel
theorem dX10_layCalls_32 : decode cX10_layCalls 32 = .ok (.aload_n 0, 1) := by decide +kernel
theorem dX10_layCalls_33 : decode cX10_layCalls 33 = .ok (.iconst 0, 1) := by decide +kernel
theorem dX10_layCalls_34 : decode cX10_layCalls 34 = .ok (.putfield 290, 3) := by decide +kernel
theorem dX10_layCalls_37 : decode cX10_layCalls 37 = .ok (.aload_n 0, 1) := by decide +kernel
theorem dX10_layCalls_38 : decode cX10_layCalls 38 = .ok (.iconst (-1), 1) := by decide +kernel
theorem dX10_layCalls_39 : decode cX10_layCalls 39 = .ok (.putfield 293, 3) := by decide +kernel
theorem dX10_layCalls_42 : decode cX10_layCalls 42 = .ok (.aload_n 0, 1) := by decide +kernel
theorem dX10_layCalls_43 : decode cX10_layCalls 43 = .ok (.aload_n 0, 1) := by decide +kernel
theorem dX10_layCalls_44 : decode cX10_layCalls 44 = .ok (.getfield 20, 3) := by decide +kernel
theorem dX10_layCalls_47 : decode cX10_layCalls 47 = .ok (.iconst 0, 1) := by decide +kernel
theorem dX10_layCalls_48 : decode cX10_layCalls 48 = .ok (.iaload, 1) := by decide +kernel
theorem dX10_layCalls_49 : decode cX10_layCalls 49 = .ok (.putfield 296, 3) := by decide +kernel
theorem dX10_layCalls_52 : decode cX10_layCalls 52 = .ok (.return_, 1) := by decide +kernel
