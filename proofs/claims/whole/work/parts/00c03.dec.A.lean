theorem dX0_init_0 : decode cX0_init 0 = .ok (.aload_n 0, 1) := by decide +kernel
theorem dX0_init_1 : decode cX0_init 1 = .ok (.invokespecial 3, 3) := by decide +kernel
theorem dX0_init_4 : decode cX0_init 4 = .ok (.aload_n 0, 1) := by decide +kernel
theorem dX0_init_5 : decode cX0_init 5 = .ok (.bipush 20, 2) := by decide +kernel
theorem dX0_init_7 : decode cX0_init 7 = .ok (.newarray .int, 2) := by decide +kernel
theorem dX0_init_9 : decode cX0_init 9 = .ok (.putfield 9, 3) := by decide +kernel
theorem dX0_init_12 : decode cX0_init 12 = .ok (.aload_n 0, 1) := by decide +kernel
theorem dX0_init_13 : decode cX0_init 13 = .ok (.bipush 20, 2) := by decide +kernel
theorem dX0_init_15 : decode cX0_init 15 = .ok (.newarray .int, 2) := by decide +kernel
theorem dX0_init_17 : decode cX0_init 17 = .ok (.putfield 15, 3) := by decide +kernel
theorem dX0_init_20 : decode cX0_init 20 = .ok (.aload_n 0, 1) := by decide +kernel
theorem dX0_init_21 : decode cX0_init 21 = .ok (.bipush 20, 2) := by decide +kernel
theorem dX0_init_23 : decode cX0_init 23 = .ok (.newarray .int, 2) := by decide +kernel
theorem dX0_init_25 : decode cX0_init 25 = .ok (.putfield 18, 3) := by decide +kernel
theorem dX0_init_28 : decode cX0_init 28 = .ok (.aload_n 0, 1) := by decide +kernel
theorem dX0_init_29 : decode cX0_init 29 = .ok (.bipush 20, 2) := by decide +kernel
theorem dX0_init_31 : decode cX0_init 31 = .ok (.newarray .int, 2) := by decide +kernel
theorem dX0_init_33 : decode cX0_init 33 = .ok (.putfield 21, 3) := by decide +kernel
theorem dX0_init_36 : decode cX0_init 36 = .ok (.aload_n 0, 1) := by decide +kernel
theorem dX0_init_37 : decode cX0_init 37 = .ok (.bipush 20, 2) := by decide +kernel
theorem dX0_init_39 : decode cX0_init 39 = .ok (.newarray .int, 2) := by decide +kernel
theorem dX0_init_41 : decode cX0_init 41 = .ok (.putfield 24, 3) := by decide +kernel
theorem dX0_init_44 : decode cX0_init 44 = .ok (.aload_n 0, 1) := by decide +kernel
theorem dX0_init_45 : decode cX0_init 45 = .ok (.bipush 20, 2) := by decide +kernel
theorem dX0_init_47 : decode cX0_init 47 = .ok (.newarray .int, 2) := by decide +kernel
theorem dX0_init_49 : decode cX0_init 49 = .ok (.putfield 27, 3) := by decide +kernel
theorem dX0_init_52 : decode cX0_init 52 = .ok (.aload_n 0, 1) := by decide +kernel
theorem dX0_init_53 : decode cX0_init 53 = .ok (.bipush 20, 2) := by decide +kernel
theorem dX0_init_55 : decode cX0_init 55 = .ok (.newarray .int, 2) := by decide +kernel
theorem dX0_init_57 : decode cX0_init 57 = .ok (.putfield 30, 3) := by decide +kernel
theorem dX0_init_60 : decode cX0_init 60 = .ok (.aload_n 0, 1) := by decide +kernel
theorem dX0_init_61 : decode cX0_init 61 = .ok (.iconst 0, 1) := by decide +kernel
theorem dX0_init_62 : decode cX0_init 62 = .ok (.putfield 33, 3) := by decide +kernel
theorem dX0_init_65 : decode cX0_init 65 = .ok (.return_, 1) := by decide +kernel
theorem dX0_clear_0 : decode cX0_clear 0 = .ok (.aload_n 0, 1) := by decide +kernel
theorem dX0_clear_1 : decode cX0_clear 1 = .ok (.iconst 0, 1) := by decide +kernel
theorem dX0_clear_2 : decode cX0_clear 2 = .ok (.putfield 33, 3) := by decide +kernel
theorem dX0_clear_5 : decode cX0_clear 5 = .ok (.return_, 1) := by decide +kernel
theorem dX0_takeOver_0 : decode cX0_takeOver 0 = .ok (.aload_n 0, 1) := by decide +kernel
theorem dX0_takeOver_1 : decode cX0_takeOver 1 = .ok (.aload_n 1, 1) := by decide +kernel
theorem dX0_takeOver_2 : decode cX0_takeOver 2 = .ok (.getfield 33, 3) := by decide +kernel
theorem dX0_takeOver_5 : decode cX0_takeOver 5 = .ok (.putfield 33, 3) := by decide +kernel
theorem dX0_takeOver_8 : decode cX0_takeOver 8 = .ok (.aload_n 1, 1) := by decide +kernel
theorem dX0_takeOver_9 : decode cX0_takeOver 9 = .ok (.getfield 9, 3) := by decide +kernel
theorem dX0_takeOver_12 : decode cX0_takeOver 12 = .ok (.iconst 0, 1) := by decide +kernel
theorem dX0_takeOver_13 : decode cX0_takeOver 13 = .ok (.aload_n 0, 1) := by decide +kernel
theorem dX0_takeOver_14 : decode cX0_takeOver 14 = .ok (.getfield 9, 3) := by decide +kernel
theorem dX0_takeOver_17 : decode cX0_takeOver 17 = .ok (.iconst 0, 1) := by decide +kernel
theorem dX0_takeOver_18 : decode cX0_takeOver 18 = .ok (.bipush 20, 2) := by decide +kernel
theorem dX0_takeOver_20 : decode cX0_takeOver 20 = .ok (.invokestatic 37, 3) := by decide +kernel
theorem dX0_takeOver_23 : decode cX0_takeOver 23 = .ok (.aload_n 1, 1) := by decide +kernel
theorem dX0_takeOver_24 : decode cX0_takeOver 24 = .ok (.getfield 15, 3) := by decide +kernel
theorem dX0_takeOver_27 : decode cX0_takeOver 27 = .ok (.iconst 0, 1) := by decide +kernel
theorem dX0_takeOver_28 : decode cX0_takeOver 28 = .ok (.aload_n 0, 1) := by decide +kernel
theorem dX0_takeOver_29 : decode cX0_takeOver 29 = .ok (.getfield 15, 3) := by decide +kernel
theorem dX0_takeOver_32 : decode cX0_takeOver 32 = .ok (.iconst 0, 1) := by decide +kernel
theorem dX0_takeOver_33 : decode cX0_takeOver 33 = .ok (.bipush 20, 2) := by decide +kernel
theorem dX0_takeOver_35 : decode cX0_takeOver 35 = .ok (.invokestatic 37, 3) := by decide +kernel
theorem dX0_takeOver_38 : decode cX0_takeOver 38 = .ok (.aload_n 1, 1) := by decide +kernel
theorem dX0_takeOver_39 : decode cX0_takeOver 39 = .ok (.getfield 18, 3) := by decide +kernel
theorem dX0_takeOver_42 : decode cX0_takeOver 42 = .ok (.iconst 0, 1) := by decide +kernel
theorem dX0_takeOver_43 : decode cX0_takeOver 43 = .ok (.aload_n 0, 1) := by decide +kernel
theorem dX0_takeOver_44 : decode cX0_takeOver 44 = .ok (.getfield 18, 3) := by decide +kernel
theorem dX0_takeOver_47 : decode cX0_takeOver 47 = .ok (.iconst 0, 1) := by decide +kernel
theorem dX0_takeOver_48 : decode cX0_takeOver 48 = .ok (.bipush 20, 2) := by decide +kernel
theorem dX0_takeOver_50 : decode cX0_takeOver 50 = .ok (.invokestatic 37, 3) := by decide +kernel
theorem dX0_takeOver_53 : decode cX0_takeOver 53 = .ok (.aload_n 1, 1) := by decide +kernel
theorem dX0_takeOver_54 : decode cX0_takeOver 54 = .ok (.getfield 21, 3) := by decide +kernel
theorem dX0_takeOver_57 : decode cX0_takeOver 57 = .ok (.iconst 0, 1) := by decide +kernel
theorem dX0_takeOver_58 : decode cX0_takeOver 58 = .ok (.aload_n 0, 1) := by decide +kernel
theorem dX0_takeOver_59 : decode cX0_takeOver 59 = .ok (.getfield 21, 3) := by decide +kernel
theorem dX0_takeOver_62 : decode cX0_takeOver 62 = .ok (.iconst 0, 1) := by decide +kernel
theorem dX0_takeOver_63 : decode cX0_takeOver 63 = .ok (.bipush 20, 2) := by decide +kernel
theorem dX0_takeOver_65 : decode cX0_takeOver 65 = .ok (.invokestatic 37, 3) := by decide +kernel
theorem dX0_takeOver_68 : decode cX0_takeOver 68 = .ok (.aload_n 1, 1) := by decide +kernel
theorem dX0_takeOver_69 : decode cX0_takeOver 69 = .ok (.getfield 24, 3) := by decide +kernel
theorem dX0_takeOver_72 : decode cX0_takeOver 72 = .ok (.iconst 0, 1) := by decide +kernel
theorem dX0_takeOver_73 : decode cX0_takeOver 73 = .ok (.aload_n 0, 1) := by decide +kernel
theorem dX0_takeOver_74 : decode cX0_takeOver 74 = .ok (.getfield 24, 3) := by decide +kernel
theorem dX0_takeOver_77 : decode cX0_takeOver 77 = .ok (.iconst 0, 1) := by decide +kernel
theorem dX0_takeOver_78 : decode cX0_takeOver 78 = .ok (.bipush 20, 2) := by decide +kernel
theorem dX0_takeOver_80 : decode cX0_takeOver 80 = .ok (.invokestatic 37, 3) := by decide +kernel
theorem dX0_takeOver_83 : decode cX0_takeOver 83 = .ok (.aload_n 1, 1) := by decide +kernel
theorem dX0_takeOver_84 : decode cX0_takeOver 84 = .ok (.getfield 27, 3) := by decide +kernel
theorem dX0_takeOver_87 : decode cX0_takeOver 87 = .ok (.iconst 0, 1) := by decide +kernel
theorem dX0_takeOver_88 : decode cX0_takeOver 88 = .ok (.aload_n 0, 1) := by decide +kernel
theorem dX0_takeOver_89 : decode cX0_takeOver 89 = .ok (.getfield 27, 3) := by decide +kernel
theorem dX0_takeOver_92 : decode cX0_takeOver 92 = .ok (.iconst 0, 1) := by decide +kernel
theorem dX0_takeOver_93 : decode cX0_takeOver 93 = .ok (.bipush 20, 2) := by decide +kernel
theorem dX0_takeOver_95 : decode cX0_takeOver 95 = .ok (.invokestatic 37, 3) := by decide +kernel
theorem dX0_takeOver_98 : decode cX0_takeOver 98 = .ok (.aload_n 1, 1) := by decide +kernel
theorem dX0_takeOver_99 : decode cX0_takeOver 99 = .ok (.getfield 30, 3) := by decide +kernel
theorem dX0_takeOver_102 : decode cX0_takeOver 102 = .ok (.iconst 0, 1) := by decide +kernel
theorem dX0_takeOver_103 : decode cX0_takeOver 103 = .ok (.aload_n 0, 1) := by decide +kernel
theorem dX0_takeOver_104 : decode cX0_takeOver 104 = .ok (.getfield 30, 3) := by decide +kernel
theorem dX0_takeOver_107 : decode cX0_takeOver 107 = .ok (.iconst 0, 1) := by decide +kernel
theorem dX0_takeOver_108 : decode cX0_takeOver 108 = .ok (.bipush 20, 2) := by decide +kernel
theorem dX0_takeOver_110 : decode cX0_takeOver 110 = .ok (.invokestatic 37, 3) := by decide +kernel
theorem dX0_takeOver_113 : decode cX0_takeOver 113 = .ok (.return_, 1) := by decide +kernel
theorem dX0_has_0 : decode cX0_has 0 = .ok (.iload_n 1, 1) := by decide +kernel
theorem dX0_has_1 : decode cX0_has 1 = .ok (.ifCond .lt 21, 3) := by decide +kernel
theorem dX0_has_4 : decode cX0_has 4 = .ok (.iload_n 1, 1) := by decide +kernel
theorem dX0_has_5 : decode cX0_has 5 = .ok (.aload_n 0, 1) := by decide +kernel
theorem dX0_has_6 : decode cX0_has 6 = .ok (.getfield 33, 3) := by decide +kernel
theorem dX0_has_9 : decode cX0_has 9 = .ok (.if_icmp .ge 13, 3) := by decide +kernel
theorem dX0_has_12 : decode cX0_has 12 = .ok (.iload_n 1, 1) := by decide +kernel
theorem dX0_has_13 : decode cX0_has 13 = .ok (.bipush 20, 2) := by decide +kernel
theorem dX0_has_15 : decode cX0_has 15 = .ok (.if_icmp .ge 7, 3) := by decide +kernel
theorem dX0_has_18 : decode cX0_has 18 = .ok (.iconst 1, 1) := by decide +kernel
theorem dX0_has_19 : decode cX0_has 19 = .ok (.goto 4, 3) := by decide +kernel
theorem dX0_has_22 : decode cX0_has 22 = .ok (.iconst 0, 1) := by decide +kernel
theorem dX0_has_23 : decode cX0_has 23 = .ok (.ireturn, 1) := by decide +kernel
theorem dX0_addOpen_0 : decode cX0_addOpen 0 = .ok (.aload_n 0, 1) := by decide +kernel
theorem dX0_addOpen_1 : decode cX0_addOpen 1 = .ok (.getfield 33, 3) := by decide +kernel
theorem dX0_addOpen_4 : decode cX0_addOpen 4 = .ok (.bipush 20, 2) := by decide +kernel
theorem dX0_addOpen_6 : decode cX0_addOpen 6 = .ok (.if_icmp .lt 5, 3) := by decide +kernel
theorem dX0_addOpen_9 : decode cX0_addOpen 9 = .ok (.iconst (-1), 1) := by decide +kernel
theorem dX0_addOpen_10 : decode cX0_addOpen 10 = .ok (.ireturn, 1) := by decide +kernel
theorem dX0_addOpen_11 : decode cX0_addOpen 11 = .ok (.aload_n 0, 1) := by decide +kernel
theorem dX0_addOpen_12 : decode cX0_addOpen 12 = .ok (.getfield 9, 3) := by decide +kernel
theorem dX0_addOpen_15 : decode cX0_addOpen 15 = .ok (.aload_n 0, 1) := by decide +kernel
theorem dX0_addOpen_16 : decode cX0_addOpen 16 = .ok (.getfield 33, 3) := by decide +kernel
theorem dX0_addOpen_19 : decode cX0_addOpen 19 = .ok (.iload_n 1, 1) := by decide +kernel
theorem dX0_addOpen_20 : decode cX0_addOpen 20 = .ok (.iastore, 1) := by decide +kernel
theorem dX0_addOpen_21 : decode cX0_addOpen 21 = .ok (.aload_n 0, 1) := by decide +kernel
theorem dX0_addOpen_22 : decode cX0_addOpen 22 = .ok (.getfield 15, 3) := by decide +kernel
theorem dX0_addOpen_25 : decode cX0_addOpen 25 = .ok (.aload_n 0, 1) := by decide +kernel
theorem dX0_addOpen_26 : decode cX0_addOpen 26 = .ok (.getfield 33, 3) := by decide +kernel
theorem dX0_addOpen_29 : decode cX0_addOpen 29 = .ok (.iload_n 2, 1) := by decide +kernel
theorem dX0_addOpen_30 : decode cX0_addOpen 30 = .ok (.iastore, 1) := by decide +kernel
theorem dX0_addOpen_31 : decode cX0_addOpen 31 = .ok (.aload_n 0, 1) := by decide +kernel
theorem dX0_addOpen_32 : decode cX0_addOpen 32 = .ok (.getfield 18, 3) := by decide +kernel
theorem dX0_addOpen_35 : decode cX0_addOpen 35 = .ok (.aload_n 0, 1) := by decide +kernel
theorem dX0_addOpen_36 : decode cX0_addOpen 36 = .ok (.getfield 33, 3) := by decide +kernel
theorem dX0_addOpen_39 : decode cX0_addOpen 39 = .ok (.iload_n 3, 1) := by decide +kernel
theorem dX0_addOpen_40 : decode cX0_addOpen 40 = .ok (.iastore, 1) := by decide +kernel
theorem dX0_addOpen_41 : decode cX0_addOpen 41 = .ok (.aload_n 0, 1) := by decide +kernel
theorem dX0_addOpen_42 : decode cX0_addOpen 42 = .ok (.getfield 21, 3) := by decide +kernel
theorem dX0_addOpen_45 : decode cX0_addOpen 45 = .ok (.aload_n 0, 1) := by decide +kernel
theorem dX0_addOpen_46 : decode cX0_addOpen 46 = .ok (.getfield 33, 3) := by decide +kernel
theorem dX0_addOpen_49 : decode cX0_addOpen 49 = .ok (.iload 4, 2) := by decide +kernel
theorem dX0_addOpen_51 : decode cX0_addOpen 51 = .ok (.iastore, 1) := by decide +kernel
theorem dX0_addOpen_52 : decode cX0_addOpen 52 = .ok (.aload_n 0, 1) := by decide +kernel
theorem dX0_addOpen_53 : decode cX0_addOpen 53 = .ok (.getfield 24, 3) := by decide +kernel
theorem dX0_addOpen_56 : decode cX0_addOpen 56 = .ok (.aload_n 0, 1) := by decide +kernel
theorem dX0_addOpen_57 : decode cX0_addOpen 57 = .ok (.getfield 33, 3) := by decide +kernel
theorem dX0_addOpen_60 : decode cX0_addOpen 60 = .ok (.iload 5, 2) := by decide +kernel
theorem dX0_addOpen_62 : decode cX0_addOpen 62 = .ok (.iastore, 1) := by decide +kernel
theorem dX0_addOpen_63 : decode cX0_addOpen 63 = .ok (.aload_n 0, 1) := by decide +kernel
theorem dX0_addOpen_64 : decode cX0_addOpen 64 = .ok (.getfield 27, 3) := by decide +kernel
theorem dX0_addOpen_67 : decode cX0_addOpen 67 = .ok (.aload_n 0, 1) := by decide +kernel
theorem dX0_addOpen_68 : decode cX0_addOpen 68 = .ok (.getfield 33, 3) := by decide +kernel
theorem dX0_addOpen_71 : decode cX0_addOpen 71 = .ok (.bipush (-2), 2) := by decide +kernel
theorem dX0_addOpen_73 : decode cX0_addOpen 73 = .ok (.iastore, 1) := by decide +kernel
theorem dX0_addOpen_74 : decode cX0_addOpen 74 = .ok (.aload_n 0, 1) := by decide +kernel
theorem dX0_addOpen_75 : decode cX0_addOpen 75 = .ok (.getfield 30, 3) := by decide +kernel
theorem dX0_addOpen_78 : decode cX0_addOpen 78 = .ok (.aload_n 0, 1) := by decide +kernel
theorem dX0_addOpen_79 : decode cX0_addOpen 79 = .ok (.getfield 33, 3) := by decide +kernel
theorem dX0_addOpen_82 : decode cX0_addOpen 82 = .ok (.bipush (-2), 2) := by decide +kernel
theorem dX0_addOpen_84 : decode cX0_addOpen 84 = .ok (.iastore, 1) := by decide +kernel
theorem dX0_addOpen_85 : decode cX0_addOpen 85 = .ok (.aload_n 0, 1) := by decide +kernel
theorem dX0_addOpen_86 : decode cX0_addOpen 86 = .ok (.dup, 1) := by decide +kernel
theorem dX0_addOpen_87 : decode cX0_addOpen 87 = .ok (.getfield 33, 3) := by decide +kernel
theorem dX0_addOpen_90 : decode cX0_addOpen 90 = .ok (.iconst 1, 1) := by decide +kernel
theorem dX0_addOpen_91 : decode cX0_addOpen 91 = .ok (.iadd, 1) := by decide +kernel
theorem dX0_addOpen_92 : decode cX0_addOpen 92 = .ok (.putfield 33, 3) := by decide +kernel
theorem dX0_addOpen_95 : decode cX0_addOpen 95 = .ok (.aload_n 0, 1) := by decide +kernel
theorem dX0_addOpen_96 : decode cX0_addOpen 96 = .ok (.getfield 33, 3) := by decide +kernel
theorem dX0_addOpen_99 : decode cX0_addOpen 99 = .ok (.iconst 1, 1) := by decide +kernel
theorem dX0_addOpen_100 : decode cX0_addOpen 100 = .ok (.isub, 1) := by decide +kernel
theorem dX0_addOpen_101 : decode cX0_addOpen 101 = .ok (.ireturn, 1) := by decide +kernel
theorem dX0_close_0 : decode cX0_close 0 = .ok (.aload_n 0, 1) := by decide +kernel
theorem dX0_close_1 : decode cX0_close 1 = .ok (.iload_n 1, 1) := by decide +kernel
theorem dX0_close_2 : decode cX0_close 2 = .ok (.invokevirtual 43, 3) := by decide +kernel
theorem dX0_close_5 : decode cX0_close 5 = .ok (.ifCond .eq 17, 3) := by decide +kernel
theorem dX0_close_8 : decode cX0_close 8 = .ok (.aload_n 0, 1) := by decide +kernel
theorem dX0_close_9 : decode cX0_close 9 = .ok (.getfield 27, 3) := by decide +kernel
theorem dX0_close_12 : decode cX0_close 12 = .ok (.iload_n 1, 1) := by decide +kernel
theorem dX0_close_13 : decode cX0_close 13 = .ok (.iload_n 2, 1) := by decide +kernel
theorem dX0_close_14 : decode cX0_close 14 = .ok (.iastore, 1) := by decide +kernel
theorem dX0_close_15 : decode cX0_close 15 = .ok (.aload_n 0, 1) := by decide +kernel
theorem dX0_close_16 : decode cX0_close 16 = .ok (.getfield 30, 3) := by decide +kernel
theorem dX0_close_19 : decode cX0_close 19 = .ok (.iload_n 1, 1) := by decide +kernel
theorem dX0_close_20 : decode cX0_close 20 = .ok (.iload_n 3, 1) := by decide +kernel
theorem dX0_close_21 : decode cX0_close 21 = .ok (.iastore, 1) := by decide +kernel
theorem dX0_close_22 : decode cX0_close 22 = .ok (.return_, 1) := by decide +kernel
theorem dX0_reopen_0 : decode cX0_reopen 0 = .ok (.aload_n 0, 1) := by decide +kernel
theorem dX0_reopen_1 : decode cX0_reopen 1 = .ok (.iload_n 1, 1) := by decide +kernel
theorem dX0_reopen_2 : decode cX0_reopen 2 = .ok (.bipush (-2), 2) := by decide +kernel
theorem dX0_reopen_4 : decode cX0_reopen 4 = .ok (.bipush (-2), 2) := by decide +kernel
theorem dX0_reopen_6 : decode cX0_reopen 6 = .ok (.invokevirtual 47, 3) := by decide +kernel
theorem dX0_reopen_9 : decode cX0_reopen 9 = .ok (.return_, 1) := by decide +kernel
theorem dX0_tellAnother_0 : decode cX0_tellAnother 0 = .ok (.aload_n 0, 1) := by decide +kernel
theorem dX0_tellAnother_1 : decode cX0_tellAnother 1 = .ok (.iload_n 1, 1) := by decide +kernel
theorem dX0_tellAnother_2 : decode cX0_tellAnother 2 = .ok (.invokevirtual 51, 3) := by decide +kernel
theorem dX0_tellAnother_5 : decode cX0_tellAnother 5 = .ok (.istore_n 3, 1) := by decide +kernel
theorem dX0_tellAnother_6 : decode cX0_tellAnother 6 = .ok (.aload_n 0, 1) := by decide +kernel
theorem dX0_tellAnother_7 : decode cX0_tellAnother 7 = .ok (.iload_n 1, 1) := by decide +kernel
theorem dX0_tellAnother_8 : decode cX0_tellAnother 8 = .ok (.aload_n 0, 1) := by decide +kernel
theorem dX0_tellAnother_9 : decode cX0_tellAnother 9 = .ok (.iload_n 1, 1) := by decide +kernel
theorem dX0_tellAnother_10 : decode cX0_tellAnother 10 = .ok (.invokevirtual 55, 3) := by decide +kernel
theorem dX0_tellAnother_13 : decode cX0_tellAnother 13 = .ok (.iload_n 2, 1) := by decide +kernel
theorem dX0_tellAnother_14 : decode cX0_tellAnother 14 = .ok (.invokevirtual 47, 3) := by decide +kernel
theorem dX0_tellAnother_17 : decode cX0_tellAnother 17 = .ok (.iload_n 3, 1) := by decide +kernel
theorem dX0_tellAnother_18 : decode cX0_tellAnother 18 = .ok (.ireturn, 1) := by decide +kernel
theorem dX0_drop_0 : decode cX0_drop 0 = .ok (.aload_n 0, 1) := by decide +kernel
theorem dX0_drop_1 : decode cX0_drop 1 = .ok (.iload_n 1, 1) := by decide +kernel
theorem dX0_drop_2 : decode cX0_drop 2 = .ok (.invokevirtual 43, 3) := by decide +kernel
theorem dX0_drop_5 : decode cX0_drop 5 = .ok (.ifCond .ne 4, 3) := by decide +kernel
theorem dX0_drop_8 : decode cX0_drop 8 = .ok (.return_, 1) := by decide +kernel
theorem dX0_drop_9 : decode cX0_drop 9 = .ok (.aload_n 0, 1) := by decide +kernel
theorem dX0_drop_10 : decode cX0_drop 10 = .ok (.getfield 9, 3) := by decide +kernel
theorem dX0_drop_13 : decode cX0_drop 13 = .ok (.iload_n 1, 1) := by decide +kernel
theorem dX0_drop_14 : decode cX0_drop 14 = .ok (.invokestatic 58, 3) := by decide +kernel
theorem dX0_drop_17 : decode cX0_drop 17 = .ok (.aload_n 0, 1) := by decide +kernel
theorem dX0_drop_18 : decode cX0_drop 18 = .ok (.getfield 15, 3) := by decide +kernel
theorem dX0_drop_21 : decode cX0_drop 21 = .ok (.iload_n 1, 1) := by decide +kernel
theorem dX0_drop_22 : decode cX0_drop 22 = .ok (.invokestatic 58, 3) := by decide +kernel
theorem dX0_drop_25 : decode cX0_drop 25 = .ok (.aload_n 0, 1) := by decide +kernel
theorem dX0_drop_26 : decode cX0_drop 26 = .ok (.getfield 18, 3) := by decide +kernel
theorem dX0_drop_29 : decode cX0_drop 29 = .ok (.iload_n 1, 1) := by decide +kernel
theorem dX0_drop_30 : decode cX0_drop 30 = .ok (.invokestatic 58, 3) := by decide +kernel
theorem dX0_drop_33 : decode cX0_drop 33 = .ok (.aload_n 0, 1) := by decide +kernel
theorem dX0_drop_34 : decode cX0_drop 34 = .ok (.getfield 21, 3) := by decide +kernel
theorem dX0_drop_37 : decode cX0_drop 37 = .ok (.iload_n 1, 1) := by decide +kernel
theorem dX0_drop_38 : decode cX0_drop 38 = .ok (.invokestatic 58, 3) := by decide +kernel
theorem dX0_drop_41 : decode cX0_drop 41 = .ok (.aload_n 0, 1) := by decide +kernel
theorem dX0_drop_42 : decode cX0_drop 42 = .ok (.getfield 24, 3) := by decide +kernel
theorem dX0_drop_45 : decode cX0_drop 45 = .ok (.iload_n 1, 1) := by decide +kernel
theorem dX0_drop_46 : decode cX0_drop 46 = .ok (.invokestatic 58, 3) := by decide +kernel
theorem dX0_drop_49 : decode cX0_drop 49 = .ok (.aload_n 0, 1) := by decide +kernel
theorem dX0_drop_50 : decode cX0_drop 50 = .ok (.getfield 27, 3) := by decide +kernel
theorem dX0_drop_53 : decode cX0_drop 53 = .ok (.iload_n 1, 1) := by decide +kernel
theorem dX0_drop_54 : decode cX0_drop 54 = .ok (.invokestatic 58, 3) := by decide +kernel
theorem dX0_drop_57 : decode cX0_drop 57 = .ok (.aload_n 0, 1) := by decide +kernel
theorem dX0_drop_58 : decode cX0_drop 58 = .ok (.getfield 30, 3) := by decide +kernel
theorem dX0_drop_61 : decode cX0_drop 61 = .ok (.iload_n 1, 1) := by decide +kernel
theorem dX0_drop_62 : decode cX0_drop 62 = .ok (.invokestatic 58, 3) := by decide +kernel
theorem dX0_drop_65 : decode cX0_drop 65 = .ok (.aload_n 0, 1) := by decide +kernel
theorem dX0_drop_66 : decode cX0_drop 66 = .ok (.dup, 1) := by decide +kernel
theorem dX0_drop_67 : decode cX0_drop 67 = .ok (.getfield 33, 3) := by decide +kernel
theorem dX0_drop_70 : decode cX0_drop 70 = .ok (.iconst 1, 1) := by decide +kernel
theorem dX0_drop_71 : decode cX0_drop 71 = .ok (.isub, 1) := by decide +kernel
theorem dX0_drop_72 : decode cX0_drop 72 = .ok (.putfield 33, 3) := by decide +kernel
theorem dX0_drop_75 : decode cX0_drop 75 = .ok (.return_, 1) := by decide +kernel
theorem dX0_dropFrom_0 : decode cX0_dropFrom 0 = .ok (.iload_n 1, 1) := by decide +kernel
theorem dX0_dropFrom_1 : decode cX0_dropFrom 1 = .ok (.istore_n 2, 1) := by decide +kernel
theorem dX0_dropFrom_2 : decode cX0_dropFrom 2 = .ok (.iload_n 2, 1) := by decide +kernel
theorem dX0_dropFrom_3 : decode cX0_dropFrom 3 = .ok (.iconst 1, 1) := by decide +kernel
theorem dX0_dropFrom_4 : decode cX0_dropFrom 4 = .ok (.iadd, 1) := by decide +kernel
theorem dX0_dropFrom_5 : decode cX0_dropFrom 5 = .ok (.aload_n 0, 1) := by decide +kernel
theorem dX0_dropFrom_6 : decode cX0_dropFrom 6 = .ok (.arraylength, 1) := by decide +kernel
theorem dX0_dropFrom_7 : decode cX0_dropFrom 7 = .ok (.if_icmp .ge 17, 3) := by decide +kernel
theorem dX0_dropFrom_10 : decode cX0_dropFrom 10 = .ok (.aload_n 0, 1) := by decide +kernel
theorem dX0_dropFrom_11 : decode cX0_dropFrom 11 = .ok (.iload_n 2, 1) := by decide +kernel
theorem dX0_dropFrom_12 : decode cX0_dropFrom 12 = .ok (.aload_n 0, 1) := by decide +kernel
theorem dX0_dropFrom_13 : decode cX0_dropFrom 13 = .ok (.iload_n 2, 1) := by decide +kernel
theorem dX0_dropFrom_14 : decode cX0_dropFrom 14 = .ok (.iconst 1, 1) := by decide +kernel
theorem dX0_dropFrom_15 : decode cX0_dropFrom 15 = .ok (.iadd, 1) := by decide +kernel
theorem dX0_dropFrom_16 : decode cX0_dropFrom 16 = .ok (.iaload, 1) := by decide +kernel
theorem dX0_dropFrom_17 : decode cX0_dropFrom 17 = .ok (.iastore, 1) := by decide +kernel
theorem dX0_dropFrom_18 : decode cX0_dropFrom 18 = .ok (.iinc 2 1, 3) := by decide +kernel
theorem dX0_dropFrom_21 : decode cX0_dropFrom 21 = .ok (.goto (-19), 3) := by decide +kernel
theorem dX0_dropFrom_24 : decode cX0_dropFrom 24 = .ok (.return_, 1) := by decide +kernel
theorem dX0_at_0 : decode cX0_at 0 = .ok (.iload_n 1, 1) := by decide +kernel
theorem dX0_at_1 : decode cX0_at 1 = .ok (.ifCond .lt 15, 3) := by decide +kernel
theorem dX0_at_4 : decode cX0_at 4 = .ok (.iload_n 1, 1) := by decide +kernel
theorem dX0_at_5 : decode cX0_at 5 = .ok (.aload_n 0, 1) := by decide +kernel
theorem dX0_at_6 : decode cX0_at 6 = .ok (.arraylength, 1) := by decide +kernel
theorem dX0_at_7 : decode cX0_at 7 = .ok (.if_icmp .ge 9, 3) := by decide +kernel
theorem dX0_at_10 : decode cX0_at 10 = .ok (.aload_n 0, 1) := by decide +kernel
theorem dX0_at_11 : decode cX0_at 11 = .ok (.iload_n 1, 1) := by decide +kernel
theorem dX0_at_12 : decode cX0_at 12 = .ok (.iaload, 1) := by decide +kernel
theorem dX0_at_13 : decode cX0_at 13 = .ok (.goto 4, 3) := by decide +kernel
theorem dX0_at_16 : decode cX0_at 16 = .ok (.iconst 0, 1) := by decide +kernel
theorem dX0_at_17 : decode cX0_at 17 = .ok (.ireturn, 1) := by decide +kernel
theorem dX0_cashierOf_0 : decode cX0_cashierOf 0 = .ok (.aload_n 0, 1) := by decide +kernel
theorem dX0_cashierOf_1 : decode cX0_cashierOf 1 = .ok (.getfield 9, 3) := by decide +kernel
theorem dX0_cashierOf_4 : decode cX0_cashierOf 4 = .ok (.iload_n 1, 1) := by decide +kernel
theorem dX0_cashierOf_5 : decode cX0_cashierOf 5 = .ok (.invokestatic 62, 3) := by decide +kernel
theorem dX0_cashierOf_8 : decode cX0_cashierOf 8 = .ok (.ireturn, 1) := by decide +kernel
theorem dX0_tillOf_0 : decode cX0_tillOf 0 = .ok (.aload_n 0, 1) := by decide +kernel
theorem dX0_tillOf_1 : decode cX0_tillOf 1 = .ok (.getfield 15, 3) := by decide +kernel
theorem dX0_tillOf_4 : decode cX0_tillOf 4 = .ok (.iload_n 1, 1) := by decide +kernel
theorem dX0_tillOf_5 : decode cX0_tillOf 5 = .ok (.invokestatic 62, 3) := by decide +kernel
theorem dX0_tillOf_8 : decode cX0_tillOf 8 = .ok (.ireturn, 1) := by decide +kernel
theorem dX0_actOf_0 : decode cX0_actOf 0 = .ok (.aload_n 0, 1) := by decide +kernel
theorem dX0_actOf_1 : decode cX0_actOf 1 = .ok (.getfield 18, 3) := by decide +kernel
theorem dX0_actOf_4 : decode cX0_actOf 4 = .ok (.iload_n 1, 1) := by decide +kernel
theorem dX0_actOf_5 : decode cX0_actOf 5 = .ok (.invokestatic 62, 3) := by decide +kernel
theorem dX0_actOf_8 : decode cX0_actOf 8 = .ok (.ireturn, 1) := by decide +kernel
theorem dX0_wholeOf_0 : decode cX0_wholeOf 0 = .ok (.aload_n 0, 1) := by decide +kernel
theorem dX0_wholeOf_1 : decode cX0_wholeOf 1 = .ok (.getfield 21, 3) := by decide +kernel
theorem dX0_wholeOf_4 : decode cX0_wholeOf 4 = .ok (.iload_n 1, 1) := by decide +kernel
theorem dX0_wholeOf_5 : decode cX0_wholeOf 5 = .ok (.invokestatic 62, 3) := by decide +kernel
theorem dX0_wholeOf_8 : decode cX0_wholeOf 8 = .ok (.ireturn, 1) := by decide +kernel
theorem dX0_beginOf_0 : decode cX0_beginOf 0 = .ok (.aload_n 0, 1) := by decide +kernel
theorem dX0_beginOf_1 : decode cX0_beginOf 1 = .ok (.getfield 24, 3) := by decide +kernel
theorem dX0_beginOf_4 : decode cX0_beginOf 4 = .ok (.iload_n 1, 1) := by decide +kernel
theorem dX0_beginOf_5 : decode cX0_beginOf 5 = .ok (.invokestatic 62, 3) := by decide +kernel
theorem dX0_beginOf_8 : decode cX0_beginOf 8 = .ok (.ireturn, 1) := by decide +kernel
theorem dX0_endOf_0 : decode cX0_endOf 0 = .ok (.aload_n 0, 1) := by decide +kernel
theorem dX0_endOf_1 : decode cX0_endOf 1 = .ok (.getfield 27, 3) := by decide +kernel
theorem dX0_endOf_4 : decode cX0_endOf 4 = .ok (.iload_n 1, 1) := by decide +kernel
theorem dX0_endOf_5 : decode cX0_endOf 5 = .ok (.invokestatic 62, 3) := by decide +kernel
theorem dX0_endOf_8 : decode cX0_endOf 8 = .ok (.ireturn, 1) := by decide +kernel
theorem dX0_answerOf_0 : decode cX0_answerOf 0 = .ok (.aload_n 0, 1) := by decide +kernel
theorem dX0_answerOf_1 : decode cX0_answerOf 1 = .ok (.getfield 30, 3) := by decide +kernel
theorem dX0_answerOf_4 : decode cX0_answerOf 4 = .ok (.iload_n 1, 1) := by decide +kernel
theorem dX0_answerOf_5 : decode cX0_answerOf 5 = .ok (.invokestatic 62, 3) := by decide +kernel
theorem dX0_answerOf_8 : decode cX0_answerOf 8 = .ok (.ireturn, 1) := by decide +kernel
theorem dX0_isOpen_0 : decode cX0_isOpen 0 = .ok (.aload_n 0, 1) := by decide +kernel
theorem dX0_isOpen_1 : decode cX0_isOpen 1 = .ok (.iload_n 1, 1) := by decide +kernel
theorem dX0_isOpen_2 : decode cX0_isOpen 2 = .ok (.invokevirtual 55, 3) := by decide +kernel
theorem dX0_isOpen_5 : decode cX0_isOpen 5 = .ok (.bipush (-2), 2) := by decide +kernel
theorem dX0_isOpen_7 : decode cX0_isOpen 7 = .ok (.if_icmp .ne 7, 3) := by decide +kernel
theorem dX0_isOpen_10 : decode cX0_isOpen 10 = .ok (.iconst 1, 1) := by decide +kernel
theorem dX0_isOpen_11 : decode cX0_isOpen 11 = .ok (.goto 4, 3) := by decide +kernel
theorem dX0_isOpen_14 : decode cX0_isOpen 14 = .ok (.iconst 0, 1) := by decide +kernel
theorem dX0_isOpen_15 : decode cX0_isOpen 15 = .ok (.ireturn, 1) := by decide +kernel
theorem dX0_seen_0 : decode cX0_seen 0 = .ok (.iload_n 2, 1) := by decide +kernel
theorem dX0_seen_1 : decode cX0_seen 1 = .ok (.tableswitch 75 0 5 #[39, 45, 51, 57, 63, 69], 39) := by decide +kernel
theorem dX0_seen_40 : decode cX0_seen 40 = .ok (.aload_n 0, 1) := by decide +kernel
theorem dX0_seen_41 : decode cX0_seen 41 = .ok (.iload_n 1, 1) := by decide +kernel
theorem dX0_seen_42 : decode cX0_seen 42 = .ok (.invokevirtual 66, 3) := by decide +kernel
theorem dX0_seen_45 : decode cX0_seen 45 = .ok (.ireturn, 1) := by decide +kernel
theorem dX0_seen_46 : decode cX0_seen 46 = .ok (.aload_n 0, 1) := by decide +kernel
theorem dX0_seen_47 : decode cX0_seen 47 = .ok (.iload_n 1, 1) := by decide +kernel
theorem dX0_seen_48 : decode cX0_seen 48 = .ok (.invokevirtual 69, 3) := by decide +kernel
theorem dX0_seen_51 : decode cX0_seen 51 = .ok (.ireturn, 1) := by decide +kernel
theorem dX0_seen_52 : decode cX0_seen 52 = .ok (.aload_n 0, 1) := by decide +kernel
theorem dX0_seen_53 : decode cX0_seen 53 = .ok (.iload_n 1, 1) := by decide +kernel
theorem dX0_seen_54 : decode cX0_seen 54 = .ok (.invokevirtual 72, 3) := by decide +kernel
theorem dX0_seen_57 : decode cX0_seen 57 = .ok (.ireturn, 1) := by decide +kernel
theorem dX0_seen_58 : decode cX0_seen 58 = .ok (.aload_n 0, 1) := by decide +kernel
theorem dX0_seen_59 : decode cX0_seen 59 = .ok (.iload_n 1, 1) := by decide +kernel
theorem dX0_seen_60 : decode cX0_seen 60 = .ok (.invokevirtual 75, 3) := by decide +kernel
theorem dX0_seen_63 : decode cX0_seen 63 = .ok (.ireturn, 1) := by decide +kernel
theorem dX0_seen_64 : decode cX0_seen 64 = .ok (.aload_n 0, 1) := by decide +kernel
theorem dX0_seen_65 : decode cX0_seen 65 = .ok (.iload_n 1, 1) := by decide +kernel
theorem dX0_seen_66 : decode cX0_seen 66 = .ok (.invokevirtual 78, 3) := by decide +kernel
theorem dX0_seen_69 : decode cX0_seen 69 = .ok (.ireturn, 1) := by decide +kernel
theorem dX0_seen_70 : decode cX0_seen 70 = .ok (.aload_n 0, 1) := by decide +kernel
theorem dX0_seen_71 : decode cX0_seen 71 = .ok (.iload_n 1, 1) := by decide +kernel
theorem dX0_seen_72 : decode cX0_seen 72 = .ok (.invokevirtual 55, 3) := by decide +kernel
theorem dX0_seen_75 : decode cX0_seen 75 = .ok (.ireturn, 1) := by decide +kernel
theorem dX0_seen_76 : decode cX0_seen 76 = .ok (.aload_n 0, 1) := by decide +kernel
theorem dX0_seen_77 : decode cX0_seen 77 = .ok (.iload_n 1, 1) := by decide +kernel
theorem dX0_seen_78 : decode cX0_seen 78 = .ok (.invokevirtual 51, 3) := by decide +kernel
theorem dX0_seen_81 : decode cX0_seen 81 = .ok (.ireturn, 1) := by decide +kernel
theorem dX0_allOnes_0 : decode cX0_allOnes 0 = .ok (.iconst 1, 1) := by decide +kernel
theorem dX0_allOnes_1 : decode cX0_allOnes 1 = .ok (.aload_n 0, 1) := by decide +kernel
theorem dX0_allOnes_2 : decode cX0_allOnes 2 = .ok (.getfield 33, 3) := by decide +kernel
theorem dX0_allOnes_5 : decode cX0_allOnes 5 = .ok (.ishl, 1) := by decide +kernel
theorem dX0_allOnes_6 : decode cX0_allOnes 6 = .ok (.iconst 1, 1) := by decide +kernel
theorem dX0_allOnes_7 : decode cX0_allOnes 7 = .ok (.isub, 1) := by decide +kernel
theorem dX0_allOnes_8 : decode cX0_allOnes 8 = .ok (.ireturn, 1) := by decide +kernel
theorem dX0_endedOnes_0 : decode cX0_endedOnes 0 = .ok (.iconst 0, 1) := by decide +kernel
theorem dX0_endedOnes_1 : decode cX0_endedOnes 1 = .ok (.istore_n 1, 1) := by decide +kernel
theorem dX0_endedOnes_2 : decode cX0_endedOnes 2 = .ok (.iconst 0, 1) := by decide +kernel
theorem dX0_endedOnes_3 : decode cX0_endedOnes 3 = .ok (.istore_n 2, 1) := by decide +kernel
theorem dX0_endedOnes_4 : decode cX0_endedOnes 4 = .ok (.iload_n 2, 1) := by decide +kernel
theorem dX0_endedOnes_5 : decode cX0_endedOnes 5 = .ok (.aload_n 0, 1) := by decide +kernel
theorem dX0_endedOnes_6 : decode cX0_endedOnes 6 = .ok (.getfield 33, 3) := by decide +kernel
theorem dX0_endedOnes_9 : decode cX0_endedOnes 9 = .ok (.if_icmp .ge 23, 3) := by decide +kernel
theorem dX0_endedOnes_12 : decode cX0_endedOnes 12 = .ok (.aload_n 0, 1) := by decide +kernel
theorem dX0_endedOnes_13 : decode cX0_endedOnes 13 = .ok (.iload_n 2, 1) := by decide +kernel
theorem dX0_endedOnes_14 : decode cX0_endedOnes 14 = .ok (.invokevirtual 81, 3) := by decide +kernel
theorem dX0_endedOnes_17 : decode cX0_endedOnes 17 = .ok (.ifCond .ne 9, 3) := by decide +kernel
theorem dX0_endedOnes_20 : decode cX0_endedOnes 20 = .ok (.iload_n 1, 1) := by decide +kernel
theorem dX0_endedOnes_21 : decode cX0_endedOnes 21 = .ok (.iconst 1, 1) := by decide +kernel
theorem dX0_endedOnes_22 : decode cX0_endedOnes 22 = .ok (.iload_n 2, 1) := by decide +kernel
theorem dX0_endedOnes_23 : decode cX0_endedOnes 23 = .ok (.ishl, 1) := by decide +kernel
theorem dX0_endedOnes_24 : decode cX0_endedOnes 24 = .ok (.ior, 1) := by decide +kernel
theorem dX0_endedOnes_25 : decode cX0_endedOnes 25 = .ok (.istore_n 1, 1) := by decide +kernel
theorem dX0_endedOnes_26 : decode cX0_endedOnes 26 = .ok (.iinc 2 1, 3) := by decide +kernel
theorem dX0_endedOnes_29 : decode cX0_endedOnes 29 = .ok (.goto (-25), 3) := by decide +kernel
theorem dX0_endedOnes_32 : decode cX0_endedOnes 32 = .ok (.iload_n 1, 1) := by decide +kernel
theorem dX0_endedOnes_33 : decode cX0_endedOnes 33 = .ok (.ireturn, 1) := by decide +kernel
theorem dX0_onesOfTill_0 : decode cX0_onesOfTill 0 = .ok (.iconst 0, 1) := by decide +kernel
theorem dX0_onesOfTill_1 : decode cX0_onesOfTill 1 = .ok (.istore_n 2, 1) := by decide +kernel
theorem dX0_onesOfTill_2 : decode cX0_onesOfTill 2 = .ok (.iconst 0, 1) := by decide +kernel
theorem dX0_onesOfTill_3 : decode cX0_onesOfTill 3 = .ok (.istore_n 3, 1) := by decide +kernel
theorem dX0_onesOfTill_4 : decode cX0_onesOfTill 4 = .ok (.iload_n 3, 1) := by decide +kernel
theorem dX0_onesOfTill_5 : decode cX0_onesOfTill 5 = .ok (.aload_n 0, 1) := by decide +kernel
theorem dX0_onesOfTill_6 : decode cX0_onesOfTill 6 = .ok (.getfield 33, 3) := by decide +kernel
theorem dX0_onesOfTill_9 : decode cX0_onesOfTill 9 = .ok (.if_icmp .ge 24, 3) := by decide +kernel
theorem dX0_onesOfTill_12 : decode cX0_onesOfTill 12 = .ok (.aload_n 0, 1) := by decide +kernel
theorem dX0_onesOfTill_13 : decode cX0_onesOfTill 13 = .ok (.iload_n 3, 1) := by decide +kernel
theorem dX0_onesOfTill_14 : decode cX0_onesOfTill 14 = .ok (.invokevirtual 69, 3) := by decide +kernel
theorem dX0_onesOfTill_17 : decode cX0_onesOfTill 17 = .ok (.iload_n 1, 1) := by decide +kernel
theorem dX0_onesOfTill_18 : decode cX0_onesOfTill 18 = .ok (.if_icmp .ne 9, 3) := by decide +kernel
theorem dX0_onesOfTill_21 : decode cX0_onesOfTill 21 = .ok (.iload_n 2, 1) := by decide +kernel
theorem dX0_onesOfTill_22 : decode cX0_onesOfTill 22 = .ok (.iconst 1, 1) := by decide +kernel
theorem dX0_onesOfTill_23 : decode cX0_onesOfTill 23 = .ok (.iload_n 3, 1) := by decide +kernel
theorem dX0_onesOfTill_24 : decode cX0_onesOfTill 24 = .ok (.ishl, 1) := by decide +kernel
theorem dX0_onesOfTill_25 : decode cX0_onesOfTill 25 = .ok (.ior, 1) := by decide +kernel
theorem dX0_onesOfTill_26 : decode cX0_onesOfTill 26 = .ok (.istore_n 2, 1) := by decide +kernel
theorem dX0_onesOfTill_27 : decode cX0_onesOfTill 27 = .ok (.iinc 3 1, 3) := by decide +kernel
theorem dX0_onesOfTill_30 : decode cX0_onesOfTill 30 = .ok (.goto (-26), 3) := by decide +kernel
theorem dX0_onesOfTill_33 : decode cX0_onesOfTill 33 = .ok (.iload_n 2, 1) := by decide +kernel
theorem dX0_onesOfTill_34 : decode cX0_onesOfTill 34 = .ok (.ireturn, 1) := by decide +kernel
theorem dX0_onesBegunBy_0 : decode cX0_onesBegunBy 0 = .ok (.iconst 0, 1) := by decide +kernel
theorem dX0_onesBegunBy_1 : decode cX0_onesBegunBy 1 = .ok (.istore_n 2, 1) := by decide +kernel
theorem dX0_onesBegunBy_2 : decode cX0_onesBegunBy 2 = .ok (.iconst 0, 1) := by decide +kernel
theorem dX0_onesBegunBy_3 : decode cX0_onesBegunBy 3 = .ok (.istore_n 3, 1) := by decide +kernel
theorem dX0_onesBegunBy_4 : decode cX0_onesBegunBy 4 = .ok (.iload_n 3, 1) := by decide +kernel
theorem dX0_onesBegunBy_5 : decode cX0_onesBegunBy 5 = .ok (.aload_n 0, 1) := by decide +kernel
theorem dX0_onesBegunBy_6 : decode cX0_onesBegunBy 6 = .ok (.getfield 33, 3) := by decide +kernel
theorem dX0_onesBegunBy_9 : decode cX0_onesBegunBy 9 = .ok (.if_icmp .ge 24, 3) := by decide +kernel
theorem dX0_onesBegunBy_12 : decode cX0_onesBegunBy 12 = .ok (.aload_n 0, 1) := by decide +kernel
theorem dX0_onesBegunBy_13 : decode cX0_onesBegunBy 13 = .ok (.iload_n 3, 1) := by decide +kernel
theorem dX0_onesBegunBy_14 : decode cX0_onesBegunBy 14 = .ok (.invokevirtual 78, 3) := by decide +kernel
theorem dX0_onesBegunBy_17 : decode cX0_onesBegunBy 17 = .ok (.iload_n 1, 1) := by decide +kernel
theorem dX0_onesBegunBy_18 : decode cX0_onesBegunBy 18 = .ok (.if_icmp .gt 9, 3) := by decide +kernel
theorem dX0_onesBegunBy_21 : decode cX0_onesBegunBy 21 = .ok (.iload_n 2, 1) := by decide +kernel
theorem dX0_onesBegunBy_22 : decode cX0_onesBegunBy 22 = .ok (.iconst 1, 1) := by decide +kernel
theorem dX0_onesBegunBy_23 : decode cX0_onesBegunBy 23 = .ok (.iload_n 3, 1) := by decide +kernel
theorem dX0_onesBegunBy_24 : decode cX0_onesBegunBy 24 = .ok (.ishl, 1) := by decide +kernel
theorem dX0_onesBegunBy_25 : decode cX0_onesBegunBy 25 = .ok (.ior, 1) := by decide +kernel
theorem dX0_onesBegunBy_26 : decode cX0_onesBegunBy 26 = .ok (.istore_n 2, 1) := by decide +kernel
theorem dX0_onesBegunBy_27 : decode cX0_onesBegunBy 27 = .ok (.iinc 3 1, 3) := by decide +kernel
theorem dX0_onesBegunBy_30 : decode cX0_onesBegunBy 30 = .ok (.goto (-26), 3) := by decide +kernel
theorem dX0_onesBegunBy_33 : decode cX0_onesBegunBy 33 = .ok (.iload_n 2, 1) := by decide +kernel
theorem dX0_onesBegunBy_34 : decode cX0_onesBegunBy 34 = .ok (.ireturn, 1) := by decide +kernel
theorem dX0_firstEndedBut_0 : decode cX0_firstEndedBut 0 = .ok (.iconst (-1), 1) := by decide +kernel
theorem dX0_firstEndedBut_1 : decode cX0_firstEndedBut 1 = .ok (.istore_n 2, 1) := by decide +kernel
theorem dX0_firstEndedBut_2 : decode cX0_firstEndedBut 2 = .ok (.iconst 0, 1) := by decide +kernel
theorem dX0_firstEndedBut_3 : decode cX0_firstEndedBut 3 = .ok (.istore_n 3, 1) := by decide +kernel
theorem dX0_firstEndedBut_4 : decode cX0_firstEndedBut 4 = .ok (.iload_n 3, 1) := by decide +kernel
theorem dX0_firstEndedBut_5 : decode cX0_firstEndedBut 5 = .ok (.aload_n 0, 1) := by decide +kernel
theorem dX0_firstEndedBut_6 : decode cX0_firstEndedBut 6 = .ok (.getfield 33, 3) := by decide +kernel
theorem dX0_firstEndedBut_9 : decode cX0_firstEndedBut 9 = .ok (.if_icmp .ge 44, 3) := by decide +kernel
theorem dX0_firstEndedBut_12 : decode cX0_firstEndedBut 12 = .ok (.aload_n 0, 1) := by decide +kernel
theorem dX0_firstEndedBut_13 : decode cX0_firstEndedBut 13 = .ok (.iload_n 3, 1) := by decide +kernel
theorem dX0_firstEndedBut_14 : decode cX0_firstEndedBut 14 = .ok (.invokevirtual 81, 3) := by decide +kernel
theorem dX0_firstEndedBut_17 : decode cX0_firstEndedBut 17 = .ok (.ifCond .ne 30, 3) := by decide +kernel
theorem dX0_firstEndedBut_20 : decode cX0_firstEndedBut 20 = .ok (.iload_n 1, 1) := by decide +kernel
theorem dX0_firstEndedBut_21 : decode cX0_firstEndedBut 21 = .ok (.iload_n 3, 1) := by decide +kernel
theorem dX0_firstEndedBut_22 : decode cX0_firstEndedBut 22 = .ok (.ishr, 1) := by decide +kernel
theorem dX0_firstEndedBut_23 : decode cX0_firstEndedBut 23 = .ok (.iconst 1, 1) := by decide +kernel
theorem dX0_firstEndedBut_24 : decode cX0_firstEndedBut 24 = .ok (.iand, 1) := by decide +kernel
theorem dX0_firstEndedBut_25 : decode cX0_firstEndedBut 25 = .ok (.ifCond .ne 22, 3) := by decide +kernel
theorem dX0_firstEndedBut_28 : decode cX0_firstEndedBut 28 = .ok (.iload_n 2, 1) := by decide +kernel
theorem dX0_firstEndedBut_29 : decode cX0_firstEndedBut 29 = .ok (.ifCond .lt 16, 3) := by decide +kernel
theorem dX0_firstEndedBut_32 : decode cX0_firstEndedBut 32 = .ok (.aload_n 0, 1) := by decide +kernel
theorem dX0_firstEndedBut_33 : decode cX0_firstEndedBut 33 = .ok (.iload_n 3, 1) := by decide +kernel
theorem dX0_firstEndedBut_34 : decode cX0_firstEndedBut 34 = .ok (.invokevirtual 55, 3) := by decide +kernel
theorem dX0_firstEndedBut_37 : decode cX0_firstEndedBut 37 = .ok (.aload_n 0, 1) := by decide +kernel
theorem dX0_firstEndedBut_38 : decode cX0_firstEndedBut 38 = .ok (.iload_n 2, 1) := by decide +kernel
theorem dX0_firstEndedBut_39 : decode cX0_firstEndedBut 39 = .ok (.invokevirtual 55, 3) := by decide +kernel
theorem dX0_firstEndedBut_42 : decode cX0_firstEndedBut 42 = .ok (.if_icmp .ge 5, 3) := by decide +kernel
theorem dX0_firstEndedBut_45 : decode cX0_firstEndedBut 45 = .ok (.iload_n 3, 1) := by decide +kernel
theorem dX0_firstEndedBut_46 : decode cX0_firstEndedBut 46 = .ok (.istore_n 2, 1) := by decide +kernel
theorem dX0_firstEndedBut_47 : decode cX0_firstEndedBut 47 = .ok (.iinc 3 1, 3) := by decide +kernel
theorem dX0_firstEndedBut_50 : decode cX0_firstEndedBut 50 = .ok (.goto (-46), 3) := by decide +kernel
theorem dX0_firstEndedBut_53 : decode cX0_firstEndedBut 53 = .ok (.iload_n 2, 1) := by decide +kernel
theorem dX0_firstEndedBut_54 : decode cX0_firstEndedBut 54 = .ok (.ireturn, 1) := by decide +kernel
theorem dX0_lastOf_0 : decode cX0_lastOf 0 = .ok (.aload_n 0, 1) := by decide +kernel
theorem dX0_lastOf_1 : decode cX0_lastOf 1 = .ok (.getfield 33, 3) := by decide +kernel
theorem dX0_lastOf_4 : decode cX0_lastOf 4 = .ok (.iconst 1, 1) := by decide +kernel
theorem dX0_lastOf_5 : decode cX0_lastOf 5 = .ok (.isub, 1) := by decide +kernel
theorem dX0_lastOf_6 : decode cX0_lastOf 6 = .ok (.istore_n 2, 1) := by decide +kernel
theorem dX0_lastOf_7 : decode cX0_lastOf 7 = .ok (.iload_n 2, 1) := by decide +kernel
theorem dX0_lastOf_8 : decode cX0_lastOf 8 = .ok (.ifCond .lt 20, 3) := by decide +kernel
theorem dX0_lastOf_11 : decode cX0_lastOf 11 = .ok (.aload_n 0, 1) := by decide +kernel
theorem dX0_lastOf_12 : decode cX0_lastOf 12 = .ok (.iload_n 2, 1) := by decide +kernel
theorem dX0_lastOf_13 : decode cX0_lastOf 13 = .ok (.invokevirtual 66, 3) := by decide +kernel
theorem dX0_lastOf_16 : decode cX0_lastOf 16 = .ok (.iload_n 1, 1) := by decide +kernel
theorem dX0_lastOf_17 : decode cX0_lastOf 17 = .ok (.if_icmp .ne 5, 3) := by decide +kernel
theorem dX0_lastOf_20 : decode cX0_lastOf 20 = .ok (.iload_n 2, 1) := by decide +kernel
theorem dX0_lastOf_21 : decode cX0_lastOf 21 = .ok (.ireturn, 1) := by decide +kernel
theorem dX0_lastOf_22 : decode cX0_lastOf 22 = .ok (.iinc 2 (-1), 3) := by decide +kernel
theorem dX0_lastOf_25 : decode cX0_lastOf 25 = .ok (.goto (-18), 3) := by decide +kernel
theorem dX0_lastOf_28 : decode cX0_lastOf 28 = .ok (.iconst (-1), 1) := by decide +kernel
theorem dX0_lastOf_29 : decode cX0_lastOf 29 = .ok (.ireturn, 1) := by decide +kernel
theorem dX0_openAt_0 : decode cX0_openAt 0 = .ok (.iload_n 1, 1) := by decide +kernel
theorem dX0_openAt_1 : decode cX0_openAt 1 = .ok (.istore_n 2, 1) := by decide +kernel
theorem dX0_openAt_2 : decode cX0_openAt 2 = .ok (.iconst 0, 1) := by decide +kernel
theorem dX0_openAt_3 : decode cX0_openAt 3 = .ok (.istore_n 3, 1) := by decide +kernel
theorem dX0_openAt_4 : decode cX0_openAt 4 = .ok (.iload_n 3, 1) := by decide +kernel
theorem dX0_openAt_5 : decode cX0_openAt 5 = .ok (.aload_n 0, 1) := by decide +kernel
theorem dX0_openAt_6 : decode cX0_openAt 6 = .ok (.getfield 33, 3) := by decide +kernel
theorem dX0_openAt_9 : decode cX0_openAt 9 = .ok (.if_icmp .ge 26, 3) := by decide +kernel
theorem dX0_openAt_12 : decode cX0_openAt 12 = .ok (.aload_n 0, 1) := by decide +kernel
theorem dX0_openAt_13 : decode cX0_openAt 13 = .ok (.iload_n 3, 1) := by decide +kernel
theorem dX0_openAt_14 : decode cX0_openAt 14 = .ok (.invokevirtual 81, 3) := by decide +kernel
theorem dX0_openAt_17 : decode cX0_openAt 17 = .ok (.ifCond .eq 12, 3) := by decide +kernel
theorem dX0_openAt_20 : decode cX0_openAt 20 = .ok (.iload_n 2, 1) := by decide +kernel
theorem dX0_openAt_21 : decode cX0_openAt 21 = .ok (.ifCond .ne 5, 3) := by decide +kernel
theorem dX0_openAt_24 : decode cX0_openAt 24 = .ok (.iload_n 3, 1) := by decide +kernel
theorem dX0_openAt_25 : decode cX0_openAt 25 = .ok (.ireturn, 1) := by decide +kernel
theorem dX0_openAt_26 : decode cX0_openAt 26 = .ok (.iinc 2 (-1), 3) := by decide +kernel
theorem dX0_openAt_29 : decode cX0_openAt 29 = .ok (.iinc 3 1, 3) := by decide +kernel
theorem dX0_openAt_32 : decode cX0_openAt 32 = .ok (.goto (-28), 3) := by decide +kernel
theorem dX0_openAt_35 : decode cX0_openAt 35 = .ok (.iconst (-1), 1) := by decide +kernel
theorem dX0_openAt_36 : decode cX0_openAt 36 = .ok (.ireturn, 1) := by decide +kernel
theorem dX5_init_0 : decode cX5_init 0 = .ok (.aload_n 0, 1) := by decide +kernel
theorem dX5_init_1 : decode cX5_init 1 = .ok (.invokespecial 3, 3) := by decide +kernel
theorem dX5_init_4 : decode cX5_init 4 = .ok (.aload_n 0, 1) := by decide +kernel
theorem dX5_init_5 : decode cX5_init 5 = .ok (.iconst 3, 1) := by decide +kernel
theorem dX5_init_6 : decode cX5_init 6 = .ok (.newarray .int, 2) := by decide +kernel
theorem dX5_init_8 : decode cX5_init 8 = .ok (.putfield 9, 3) := by decide +kernel
theorem dX5_init_11 : decode cX5_init 11 = .ok (.aload_n 0, 1) := by decide +kernel
theorem dX5_init_12 : decode cX5_init 12 = .ok (.iconst 0, 1) := by decide +kernel
theorem dX5_init_13 : decode cX5_init 13 = .ok (.putfield 15, 3) := by decide +kernel
theorem dX5_init_16 : decode cX5_init 16 = .ok (.aload_n 0, 1) := by decide +kernel
theorem dX5_init_17 : decode cX5_init 17 = .ok (.iconst 0, 1) := by decide +kernel
theorem dX5_init_18 : decode cX5_init 18 = .ok (.putfield 19, 3) := by decide +kernel
theorem dX5_init_21 : decode cX5_init 21 = .ok (.aload_n 0, 1) := by decide +kernel
theorem dX5_init_22 : decode cX5_init 22 = .ok (.iconst 0, 1) := by decide +kernel
theorem dX5_init_23 : decode cX5_init 23 = .ok (.putfield 23, 3) := by decide +kernel
theorem dX5_init_26 : decode cX5_init 26 = .ok (.aload_n 0, 1) := by decide +kernel
theorem dX5_init_27 : decode cX5_init 27 = .ok (.iconst 0, 1) := by decide +kernel
theorem dX5_init_28 : decode cX5_init 28 = .ok (.putfield 26, 3) := by decide +kernel
theorem dX5_init_31 : decode cX5_init 31 = .ok (.return_, 1) := by decide +kernel
theorem dX5_clear_0 : decode cX5_clear 0 = .ok (.aload_n 0, 1) := by decide +kernel
theorem dX5_clear_1 : decode cX5_clear 1 = .ok (.iconst 0, 1) := by decide +kernel
theorem dX5_clear_2 : decode cX5_clear 2 = .ok (.putfield 15, 3) := by decide +kernel
theorem dX5_clear_5 : decode cX5_clear 5 = .ok (.aload_n 0, 1) := by decide +kernel
theorem dX5_clear_6 : decode cX5_clear 6 = .ok (.iconst 0, 1) := by decide +kernel
theorem dX5_clear_7 : decode cX5_clear 7 = .ok (.putfield 19, 3) := by decide +kernel
theorem dX5_clear_10 : decode cX5_clear 10 = .ok (.aload_n 0, 1) := by decide +kernel
theorem dX5_clear_11 : decode cX5_clear 11 = .ok (.iconst 0, 1) := by decide +kernel
theorem dX5_clear_12 : decode cX5_clear 12 = .ok (.putfield 23, 3) := by decide +kernel
theorem dX5_clear_15 : decode cX5_clear 15 = .ok (.aload_n 0, 1) := by decide +kernel
theorem dX5_clear_16 : decode cX5_clear 16 = .ok (.iconst 0, 1) := by decide +kernel
theorem dX5_clear_17 : decode cX5_clear 17 = .ok (.putfield 26, 3) := by decide +kernel
theorem dX5_clear_20 : decode cX5_clear 20 = .ok (.return_, 1) := by decide +kernel
theorem dX5_takeOver_0 : decode cX5_takeOver 0 = .ok (.aload_n 0, 1) := by decide +kernel
theorem dX5_takeOver_1 : decode cX5_takeOver 1 = .ok (.aload_n 1, 1) := by decide +kernel
theorem dX5_takeOver_2 : decode cX5_takeOver 2 = .ok (.getfield 15, 3) := by decide +kernel
theorem dX5_takeOver_5 : decode cX5_takeOver 5 = .ok (.putfield 15, 3) := by decide +kernel
theorem dX5_takeOver_8 : decode cX5_takeOver 8 = .ok (.aload_n 0, 1) := by decide +kernel
theorem dX5_takeOver_9 : decode cX5_takeOver 9 = .ok (.aload_n 1, 1) := by decide +kernel
theorem dX5_takeOver_10 : decode cX5_takeOver 10 = .ok (.getfield 19, 3) := by decide +kernel
theorem dX5_takeOver_13 : decode cX5_takeOver 13 = .ok (.putfield 19, 3) := by decide +kernel
theorem dX5_takeOver_16 : decode cX5_takeOver 16 = .ok (.aload_n 0, 1) := by decide +kernel
theorem dX5_takeOver_17 : decode cX5_takeOver 17 = .ok (.aload_n 1, 1) := by decide +kernel
theorem dX5_takeOver_18 : decode cX5_takeOver 18 = .ok (.getfield 23, 3) := by decide +kernel
theorem dX5_takeOver_21 : decode cX5_takeOver 21 = .ok (.putfield 23, 3) := by decide +kernel
theorem dX5_takeOver_24 : decode cX5_takeOver 24 = .ok (.aload_n 0, 1) := by decide +kernel
theorem dX5_takeOver_25 : decode cX5_takeOver 25 = .ok (.aload_n 1, 1) := by decide +kernel
theorem dX5_takeOver_26 : decode cX5_takeOver 26 = .ok (.getfield 26, 3) := by decide +kernel
theorem dX5_takeOver_29 : decode cX5_takeOver 29 = .ok (.putfield 26, 3) := by decide +kernel
theorem dX5_takeOver_32 : decode cX5_takeOver 32 = .ok (.aload_n 1, 1) := by decide +kernel
theorem dX5_takeOver_33 : decode cX5_takeOver 33 = .ok (.getfield 9, 3) := by decide +kernel
theorem dX5_takeOver_36 : decode cX5_takeOver 36 = .ok (.iconst 0, 1) := by decide +kernel
theorem dX5_takeOver_37 : decode cX5_takeOver 37 = .ok (.aload_n 0, 1) := by decide +kernel
theorem dX5_takeOver_38 : decode cX5_takeOver 38 = .ok (.getfield 9, 3) := by decide +kernel
theorem dX5_takeOver_41 : decode cX5_takeOver 41 = .ok (.iconst 0, 1) := by decide +kernel
theorem dX5_takeOver_42 : decode cX5_takeOver 42 = .ok (.iconst 3, 1) := by decide +kernel
theorem dX5_takeOver_43 : decode cX5_takeOver 43 = .ok (.invokestatic 29, 3) := by decide +kernel
theorem dX5_takeOver_46 : decode cX5_takeOver 46 = .ok (.return_, 1) := by decide +kernel
theorem dX5_addTill_0 : decode cX5_addTill 0 = .ok (.aload_n 0, 1) := by decide +kernel
theorem dX5_addTill_1 : decode cX5_addTill 1 = .ok (.getfield 19, 3) := by decide +kernel
theorem dX5_addTill_4 : decode cX5_addTill 4 = .ok (.iconst 3, 1) := by decide +kernel
theorem dX5_addTill_5 : decode cX5_addTill 5 = .ok (.if_icmp .ge 23, 3) := by decide +kernel
theorem dX5_addTill_8 : decode cX5_addTill 8 = .ok (.aload_n 0, 1) := by decide +kernel
theorem dX5_addTill_9 : decode cX5_addTill 9 = .ok (.getfield 9, 3) := by decide +kernel
theorem dX5_addTill_12 : decode cX5_addTill 12 = .ok (.aload_n 0, 1) := by decide +kernel
theorem dX5_addTill_13 : decode cX5_addTill 13 = .ok (.getfield 19, 3) := by decide +kernel
theorem dX5_addTill_16 : decode cX5_addTill 16 = .ok (.iload_n 1, 1) := by decide +kernel
theorem dX5_addTill_17 : decode cX5_addTill 17 = .ok (.iastore, 1) := by decide +kernel
theorem dX5_addTill_18 : decode cX5_addTill 18 = .ok (.aload_n 0, 1) := by decide +kernel
theorem dX5_addTill_19 : decode cX5_addTill 19 = .ok (.dup, 1) := by decide +kernel
theorem dX5_addTill_20 : decode cX5_addTill 20 = .ok (.getfield 19, 3) := by decide +kernel
theorem dX5_addTill_23 : decode cX5_addTill 23 = .ok (.iconst 1, 1) := by decide +kernel
theorem dX5_addTill_24 : decode cX5_addTill 24 = .ok (.iadd, 1) := by decide +kernel
theorem dX5_addTill_25 : decode cX5_addTill 25 = .ok (.putfield 19, 3) := by decide +kernel
theorem dX5_addTill_28 : decode cX5_addTill 28 = .ok (.return_, 1) := by decide +kernel
theorem dX5_hasTill_0 : decode cX5_hasTill 0 = .ok (.iload_n 1, 1) := by decide +kernel
theorem dX5_hasTill_1 : decode cX5_hasTill 1 = .ok (.ifCond .lt 15, 3) := by decide +kernel
theorem dX5_hasTill_4 : decode cX5_hasTill 4 = .ok (.iload_n 1, 1) := by decide +kernel
theorem dX5_hasTill_5 : decode cX5_hasTill 5 = .ok (.aload_n 0, 1) := by decide +kernel
theorem dX5_hasTill_6 : decode cX5_hasTill 6 = .ok (.getfield 19, 3) := by decide +kernel
theorem dX5_hasTill_9 : decode cX5_hasTill 9 = .ok (.if_icmp .ge 7, 3) := by decide +kernel
theorem dX5_hasTill_12 : decode cX5_hasTill 12 = .ok (.iconst 1, 1) := by decide +kernel
theorem dX5_hasTill_13 : decode cX5_hasTill 13 = .ok (.goto 4, 3) := by decide +kernel
theorem dX5_hasTill_16 : decode cX5_hasTill 16 = .ok (.iconst 0, 1) := by decide +kernel
theorem dX5_hasTill_17 : decode cX5_hasTill 17 = .ok (.ireturn, 1) := by decide +kernel
theorem dX5_hasCashier_0 : decode cX5_hasCashier 0 = .ok (.iload_n 1, 1) := by decide +kernel
theorem dX5_hasCashier_1 : decode cX5_hasCashier 1 = .ok (.ifCond .lt 15, 3) := by decide +kernel
theorem dX5_hasCashier_4 : decode cX5_hasCashier 4 = .ok (.iload_n 1, 1) := by decide +kernel
theorem dX5_hasCashier_5 : decode cX5_hasCashier 5 = .ok (.aload_n 0, 1) := by decide +kernel
theorem dX5_hasCashier_6 : decode cX5_hasCashier 6 = .ok (.getfield 23, 3) := by decide +kernel
theorem dX5_hasCashier_9 : decode cX5_hasCashier 9 = .ok (.if_icmp .ge 7, 3) := by decide +kernel
theorem dX5_hasCashier_12 : decode cX5_hasCashier 12 = .ok (.iconst 1, 1) := by decide +kernel
theorem dX5_hasCashier_13 : decode cX5_hasCashier 13 = .ok (.goto 4, 3) := by decide +kernel
theorem dX5_hasCashier_16 : decode cX5_hasCashier 16 = .ok (.iconst 0, 1) := by decide +kernel
theorem dX5_hasCashier_17 : decode cX5_hasCashier 17 = .ok (.ireturn, 1) := by decide +kernel
theorem dX5_kindOf_0 : decode cX5_kindOf 0 = .ok (.iload_n 1, 1) := by decide +kernel
theorem dX5_kindOf_1 : decode cX5_kindOf 1 = .ok (.ifCond .lt 17, 3) := by decide +kernel
theorem dX5_kindOf_4 : decode cX5_kindOf 4 = .ok (.iload_n 1, 1) := by decide +kernel
theorem dX5_kindOf_5 : decode cX5_kindOf 5 = .ok (.iconst 3, 1) := by decide +kernel
theorem dX5_kindOf_6 : decode cX5_kindOf 6 = .ok (.if_icmp .ge 12, 3) := by decide +kernel
theorem dX5_kindOf_9 : decode cX5_kindOf 9 = .ok (.aload_n 0, 1) := by decide +kernel
theorem dX5_kindOf_10 : decode cX5_kindOf 10 = .ok (.getfield 9, 3) := by decide +kernel
theorem dX5_kindOf_13 : decode cX5_kindOf 13 = .ok (.iload_n 1, 1) := by decide +kernel
theorem dX5_kindOf_14 : decode cX5_kindOf 14 = .ok (.iaload, 1) := by decide +kernel
theorem dX5_kindOf_15 : decode cX5_kindOf 15 = .ok (.goto 4, 3) := by decide +kernel
theorem dX5_kindOf_18 : decode cX5_kindOf 18 = .ok (.iconst 0, 1) := by decide +kernel
theorem dX5_kindOf_19 : decode cX5_kindOf 19 = .ok (.ireturn, 1) := by decide +kernel
theorem dX8_atFirst_0 : decode cX8_atFirst 0 = .ok (.iload_n 0, 1) := by decide +kernel
theorem dX8_atFirst_1 : decode cX8_atFirst 1 = .ok (.iconst 4, 1) := by decide +kernel
theorem dX8_atFirst_2 : decode cX8_atFirst 2 = .ok (.if_icmp .ne 8, 3) := by decide +kernel
theorem dX8_atFirst_5 : decode cX8_atFirst 5 = .ok (.bipush 9, 2) := by decide +kernel
theorem dX8_atFirst_7 : decode cX8_atFirst 7 = .ok (.goto 4, 3) := by decide +kernel
theorem dX8_atFirst_10 : decode cX8_atFirst 10 = .ok (.iconst 0, 1) := by decide +kernel
theorem dX8_atFirst_11 : decode cX8_atFirst 11 = .ok (.ireturn, 1) := by decide +kernel
theorem dX8_actCount_0 : decode cX8_actCount 0 = .ok (.iload_n 0, 1) := by decide +kernel
theorem dX8_actCount_1 : decode cX8_actCount 1 = .ok (.ifCond .eq 8, 3) := by decide +kernel
theorem dX8_actCount_4 : decode cX8_actCount 4 = .ok (.iload_n 0, 1) := by decide +kernel
theorem dX8_actCount_5 : decode cX8_actCount 5 = .ok (.iconst 1, 1) := by decide +kernel
theorem dX8_actCount_6 : decode cX8_actCount 6 = .ok (.if_icmp .ne 7, 3) := by decide +kernel
theorem dX8_actCount_9 : decode cX8_actCount 9 = .ok (.iconst 2, 1) := by decide +kernel
theorem dX8_actCount_10 : decode cX8_actCount 10 = .ok (.goto 4, 3) := by decide +kernel
theorem dX8_actCount_13 : decode cX8_actCount 13 = .ok (.iconst 3, 1) := by decide +kernel
theorem dX8_actCount_14 : decode cX8_actCount 14 = .ok (.ireturn, 1) := by decide +kernel
theorem dX8_actAt_0 : decode cX8_actAt 0 = .ok (.iload_n 1, 1) := by decide +kernel
theorem dX8_actAt_1 : decode cX8_actAt 1 = .ok (.ifCond .ne 5, 3) := by decide +kernel
theorem dX8_actAt_4 : decode cX8_actAt 4 = .ok (.iconst 0, 1) := by decide +kernel
theorem dX8_actAt_5 : decode cX8_actAt 5 = .ok (.ireturn, 1) := by decide +kernel
theorem dX8_actAt_6 : decode cX8_actAt 6 = .ok (.iload_n 1, 1) := by decide +kernel
theorem dX8_actAt_7 : decode cX8_actAt 7 = .ok (.iconst 1, 1) := by decide +kernel
theorem dX8_actAt_8 : decode cX8_actAt 8 = .ok (.if_icmp .ne 11, 3) := by decide +kernel
theorem dX8_actAt_11 : decode cX8_actAt 11 = .ok (.iload_n 0, 1) := by decide +kernel
theorem dX8_actAt_12 : decode cX8_actAt 12 = .ok (.ifCond .eq 7, 3) := by decide +kernel
theorem dX8_actAt_15 : decode cX8_actAt 15 = .ok (.iconst 1, 1) := by decide +kernel
theorem dX8_actAt_16 : decode cX8_actAt 16 = .ok (.goto 4, 3) := by decide +kernel
theorem dX8_actAt_19 : decode cX8_actAt 19 = .ok (.iconst 2, 1) := by decide +kernel
theorem dX8_actAt_20 : decode cX8_actAt 20 = .ok (.ireturn, 1) := by decide +kernel
theorem dX8_does_0 : decode cX8_does 0 = .ok (.iload_n 1, 1) := by decide +kernel
theorem dX8_does_1 : decode cX8_does 1 = .ok (.iconst 1, 1) := by decide +kernel
theorem dX8_does_2 : decode cX8_does 2 = .ok (.if_icmp .ne 13, 3) := by decide +kernel
theorem dX8_does_5 : decode cX8_does 5 = .ok (.iload_n 0, 1) := by decide +kernel
theorem dX8_does_6 : decode cX8_does 6 = .ok (.ifCond .eq 7, 3) := by decide +kernel
theorem dX8_does_9 : decode cX8_does 9 = .ok (.iconst 1, 1) := by decide +kernel
theorem dX8_does_10 : decode cX8_does 10 = .ok (.goto 4, 3) := by decide +kernel
theorem dX8_does_13 : decode cX8_does 13 = .ok (.iconst 0, 1) := by decide +kernel
theorem dX8_does_14 : decode cX8_does 14 = .ok (.ireturn, 1) := by decide +kernel
theorem dX8_does_15 : decode cX8_does 15 = .ok (.iload_n 1, 1) := by decide +kernel
theorem dX8_does_16 : decode cX8_does 16 = .ok (.ifCond .eq 13, 3) := by decide +kernel
theorem dX8_does_19 : decode cX8_does 19 = .ok (.iload_n 1, 1) := by decide +kernel
theorem dX8_does_20 : decode cX8_does 20 = .ok (.iconst 2, 1) := by decide +kernel
theorem dX8_does_21 : decode cX8_does 21 = .ok (.if_icmp .ne 12, 3) := by decide +kernel
theorem dX8_does_24 : decode cX8_does 24 = .ok (.iload_n 0, 1) := by decide +kernel
theorem dX8_does_25 : decode cX8_does 25 = .ok (.iconst 1, 1) := by decide +kernel
theorem dX8_does_26 : decode cX8_does 26 = .ok (.if_icmp .eq 7, 3) := by decide +kernel
theorem dX8_does_29 : decode cX8_does 29 = .ok (.iconst 1, 1) := by decide +kernel
theorem dX8_does_30 : decode cX8_does 30 = .ok (.goto 4, 3) := by decide +kernel
theorem dX8_does_33 : decode cX8_does 33 = .ok (.iconst 0, 1) := by decide +kernel
theorem dX8_does_34 : decode cX8_does 34 = .ok (.ireturn, 1) := by decide +kernel
theorem dX8_hasWhole_0 : decode cX8_hasWhole 0 = .ok (.iload_n 0, 1) := by decide +kernel
theorem dX8_hasWhole_1 : decode cX8_hasWhole 1 = .ok (.tableswitch 58 0 4 #[35, 35, 45, 58, 47], 35) := by decide +kernel
theorem dX8_hasWhole_36 : decode cX8_hasWhole 36 = .ok (.iload_n 1, 1) := by decide +kernel
theorem dX8_hasWhole_37 : decode cX8_hasWhole 37 = .ok (.ifCond .ne 7, 3) := by decide +kernel
theorem dX8_hasWhole_40 : decode cX8_hasWhole 40 = .ok (.iconst 1, 1) := by decide +kernel
theorem dX8_hasWhole_41 : decode cX8_hasWhole 41 = .ok (.goto 4, 3) := by decide +kernel
theorem dX8_hasWhole_44 : decode cX8_hasWhole 44 = .ok (.iconst 0, 1) := by decide +kernel
theorem dX8_hasWhole_45 : decode cX8_hasWhole 45 = .ok (.ireturn, 1) := by decide +kernel
theorem dX8_hasWhole_46 : decode cX8_hasWhole 46 = .ok (.iconst 1, 1) := by decide +kernel
theorem dX8_hasWhole_47 : decode cX8_hasWhole 47 = .ok (.ireturn, 1) := by decide +kernel
theorem dX8_hasWhole_48 : decode cX8_hasWhole 48 = .ok (.iload_n 1, 1) := by decide +kernel
theorem dX8_hasWhole_49 : decode cX8_hasWhole 49 = .ok (.iconst 2, 1) := by decide +kernel
theorem dX8_hasWhole_50 : decode cX8_hasWhole 50 = .ok (.if_icmp .eq 7, 3) := by decide +kernel
theorem dX8_hasWhole_53 : decode cX8_hasWhole 53 = .ok (.iconst 1, 1) := by decide +kernel
theorem dX8_hasWhole_54 : decode cX8_hasWhole 54 = .ok (.goto 4, 3) := by decide +kernel
theorem dX8_hasWhole_57 : decode cX8_hasWhole 57 = .ok (.iconst 0, 1) := by decide +kernel
theorem dX8_hasWhole_58 : decode cX8_hasWhole 58 = .ok (.ireturn, 1) := by decide +kernel
theorem dX8_hasWhole_59 : decode cX8_hasWhole 59 = .ok (.iconst 0, 1) := by decide +kernel
theorem dX8_hasWhole_60 : decode cX8_hasWhole 60 = .ok (.ireturn, 1) := by decide +kernel
theorem dX8_says_0 : decode cX8_says 0 = .ok (.iload_n 0, 1) := by decide +kernel
theorem dX8_says_1 : decode cX8_says 1 = .ok (.tableswitch 106 0 3 #[31, 41, 80, 100], 31) := by decide +kernel
theorem dX8_says_32 : decode cX8_says 32 = .ok (.iload_n 2, 1) := by decide +kernel
theorem dX8_says_33 : decode cX8_says 33 = .ok (.ifCond .ne 7, 3) := by decide +kernel
theorem dX8_says_36 : decode cX8_says 36 = .ok (.iconst 0, 1) := by decide +kernel
theorem dX8_says_37 : decode cX8_says 37 = .ok (.goto 4, 3) := by decide +kernel
theorem dX8_says_40 : decode cX8_says 40 = .ok (.iload_n 1, 1) := by decide +kernel
theorem dX8_says_41 : decode cX8_says 41 = .ok (.ireturn, 1) := by decide +kernel
theorem dX8_says_42 : decode cX8_says 42 = .ok (.iload_n 2, 1) := by decide +kernel
theorem dX8_says_43 : decode cX8_says 43 = .ok (.ifCond .ne 18, 3) := by decide +kernel
theorem dX8_says_46 : decode cX8_says 46 = .ok (.iload_n 1, 1) := by decide +kernel
theorem dX8_says_47 : decode cX8_says 47 = .ok (.invokestatic 9, 3) := by decide +kernel
theorem dX8_says_50 : decode cX8_says 50 = .ok (.bipush 6, 2) := by decide +kernel
theorem dX8_says_52 : decode cX8_says 52 = .ok (.if_icmp .ge 7, 3) := by decide +kernel
theorem dX8_says_55 : decode cX8_says 55 = .ok (.iconst 1, 1) := by decide +kernel
theorem dX8_says_56 : decode cX8_says 56 = .ok (.goto 4, 3) := by decide +kernel
theorem dX8_says_59 : decode cX8_says 59 = .ok (.iconst 0, 1) := by decide +kernel
theorem dX8_says_60 : decode cX8_says 60 = .ok (.ireturn, 1) := by decide +kernel
theorem dX8_says_61 : decode cX8_says 61 = .ok (.iload_n 1, 1) := by decide +kernel
theorem dX8_says_62 : decode cX8_says 62 = .ok (.invokestatic 9, 3) := by decide +kernel
theorem dX8_says_65 : decode cX8_says 65 = .ok (.ifCond .le 14, 3) := by decide +kernel
theorem dX8_says_68 : decode cX8_says 68 = .ok (.iconst 1, 1) := by decide +kernel
theorem dX8_says_69 : decode cX8_says 69 = .ok (.iload_n 1, 1) := by decide +kernel
theorem dX8_says_70 : decode cX8_says 70 = .ok (.iconst 3, 1) := by decide +kernel
theorem dX8_says_71 : decode cX8_says 71 = .ok (.ishr, 1) := by decide +kernel
theorem dX8_says_72 : decode cX8_says 72 = .ok (.bipush 15, 2) := by decide +kernel
theorem dX8_says_74 : decode cX8_says 74 = .ok (.iand, 1) := by decide +kernel
theorem dX8_says_75 : decode cX8_says 75 = .ok (.iadd, 1) := by decide +kernel
theorem dX8_says_76 : decode cX8_says 76 = .ok (.goto 4, 3) := by decide +kernel
theorem dX8_says_79 : decode cX8_says 79 = .ok (.iconst 0, 1) := by decide +kernel
theorem dX8_says_80 : decode cX8_says 80 = .ok (.ireturn, 1) := by decide +kernel
theorem dX8_says_81 : decode cX8_says 81 = .ok (.iload_n 2, 1) := by decide +kernel
theorem dX8_says_82 : decode cX8_says 82 = .ok (.ifCond .ne 13, 3) := by decide +kernel
theorem dX8_says_85 : decode cX8_says 85 = .ok (.iconst 1, 1) := by decide +kernel
theorem dX8_says_86 : decode cX8_says 86 = .ok (.iload_n 1, 1) := by decide +kernel
theorem dX8_says_87 : decode cX8_says 87 = .ok (.iload_n 3, 1) := by decide +kernel
theorem dX8_says_88 : decode cX8_says 88 = .ok (.ishr, 1) := by decide +kernel
theorem dX8_says_89 : decode cX8_says 89 = .ok (.iconst 1, 1) := by decide +kernel
theorem dX8_says_90 : decode cX8_says 90 = .ok (.iand, 1) := by decide +kernel
theorem dX8_says_91 : decode cX8_says 91 = .ok (.isub, 1) := by decide +kernel
theorem dX8_says_92 : decode cX8_says 92 = .ok (.goto 8, 3) := by decide +kernel
theorem dX8_says_95 : decode cX8_says 95 = .ok (.iload_n 1, 1) := by decide +kernel
theorem dX8_says_96 : decode cX8_says 96 = .ok (.iload_n 3, 1) := by decide +kernel
theorem dX8_says_97 : decode cX8_says 97 = .ok (.ishr, 1) := by decide +kernel
theorem dX8_says_98 : decode cX8_says 98 = .ok (.iconst 1, 1) := by decide +kernel
theorem dX8_says_99 : decode cX8_says 99 = .ok (.iand, 1) := by decide +kernel
theorem dX8_says_100 : decode cX8_says 100 = .ok (.ireturn, 1) := by decide +kernel
theorem dX8_says_101 : decode cX8_says 101 = .ok (.iload_n 1, 1) := by decide +kernel
theorem dX8_says_102 : decode cX8_says 102 = .ok (.iload_n 2, 1) := by decide +kernel
theorem dX8_says_103 : decode cX8_says 103 = .ok (.invokestatic 13, 3) := by decide +kernel
theorem dX8_says_106 : decode cX8_says 106 = .ok (.ireturn, 1) := by decide +kernel
theorem dX8_says_107 : decode cX8_says 107 = .ok (.iload_n 2, 1) := by decide +kernel
theorem dX8_says_108 : decode cX8_says 108 = .ok (.iconst 2, 1) := by decide +kernel
theorem dX8_says_109 : decode cX8_says 109 = .ok (.if_icmp .ne 5, 3) := by decide +kernel
theorem dX8_says_112 : decode cX8_says 112 = .ok (.iload_n 1, 1) := by decide +kernel
theorem dX8_says_113 : decode cX8_says 113 = .ok (.ireturn, 1) := by decide +kernel
theorem dX8_says_114 : decode cX8_says 114 = .ok (.iload_n 1, 1) := by decide +kernel
theorem dX8_says_115 : decode cX8_says 115 = .ok (.iload_n 2, 1) := by decide +kernel
theorem dX8_says_116 : decode cX8_says 116 = .ok (.invokestatic 17, 3) := by decide +kernel
theorem dX8_says_119 : decode cX8_says 119 = .ok (.iload_n 3, 1) := by decide +kernel
theorem dX8_says_120 : decode cX8_says 120 = .ok (.if_icmp .lt 7, 3) := by decide +kernel
theorem dX8_says_123 : decode cX8_says 123 = .ok (.iconst 1, 1) := by decide +kernel
theorem dX8_says_124 : decode cX8_says 124 = .ok (.goto 4, 3) := by decide +kernel
theorem dX8_says_127 : decode cX8_says 127 = .ok (.iconst 0, 1) := by decide +kernel
theorem dX8_says_128 : decode cX8_says 128 = .ok (.ireturn, 1) := by decide +kernel
theorem dX8_after_0 : decode cX8_after 0 = .ok (.iload_n 2, 1) := by decide +kernel
theorem dX8_after_1 : decode cX8_after 1 = .ok (.iconst 2, 1) := by decide +kernel
theorem dX8_after_2 : decode cX8_after 2 = .ok (.if_icmp .ne 5, 3) := by decide +kernel
theorem dX8_after_5 : decode cX8_after 5 = .ok (.iload_n 1, 1) := by decide +kernel
theorem dX8_after_6 : decode cX8_after 6 = .ok (.ireturn, 1) := by decide +kernel
theorem dX8_after_7 : decode cX8_after 7 = .ok (.iload_n 1, 1) := by decide +kernel
theorem dX8_after_8 : decode cX8_after 8 = .ok (.invokestatic 9, 3) := by decide +kernel
theorem dX8_after_11 : decode cX8_after 11 = .ok (.istore 4, 2) := by decide +kernel
theorem dX8_after_13 : decode cX8_after 13 = .ok (.iload_n 0, 1) := by decide +kernel
theorem dX8_after_14 : decode cX8_after 14 = .ok (.tableswitch 107 0 3 #[30, 32, 81, 101], 30) := by decide +kernel
theorem dX8_after_44 : decode cX8_after 44 = .ok (.iload_n 3, 1) := by decide +kernel
theorem dX8_after_45 : decode cX8_after 45 = .ok (.ireturn, 1) := by decide +kernel
theorem dX8_after_46 : decode cX8_after 46 = .ok (.iload_n 2, 1) := by decide +kernel
theorem dX8_after_47 : decode cX8_after 47 = .ok (.ifCond .ne 27, 3) := by decide +kernel
theorem dX8_after_50 : decode cX8_after 50 = .ok (.iload 4, 2) := by decide +kernel
theorem dX8_after_52 : decode cX8_after 52 = .ok (.bipush 6, 2) := by decide +kernel
theorem dX8_after_54 : decode cX8_after 54 = .ok (.if_icmp .ge 18, 3) := by decide +kernel
theorem dX8_after_57 : decode cX8_after 57 = .ok (.iload_n 1, 1) := by decide +kernel
theorem dX8_after_58 : decode cX8_after 58 = .ok (.iconst 1, 1) := by decide +kernel
theorem dX8_after_59 : decode cX8_after 59 = .ok (.iadd, 1) := by decide +kernel
theorem dX8_after_60 : decode cX8_after 60 = .ok (.iload_n 3, 1) := by decide +kernel
theorem dX8_after_61 : decode cX8_after 61 = .ok (.iconst 3, 1) := by decide +kernel
theorem dX8_after_62 : decode cX8_after 62 = .ok (.iconst 4, 1) := by decide +kernel
theorem dX8_after_63 : decode cX8_after 63 = .ok (.iload 4, 2) := by decide +kernel
theorem dX8_after_65 : decode cX8_after 65 = .ok (.imul, 1) := by decide +kernel
theorem dX8_after_66 : decode cX8_after 66 = .ok (.iadd, 1) := by decide +kernel
theorem dX8_after_67 : decode cX8_after 67 = .ok (.ishl, 1) := by decide +kernel
theorem dX8_after_68 : decode cX8_after 68 = .ok (.iadd, 1) := by decide +kernel
theorem dX8_after_69 : decode cX8_after 69 = .ok (.goto 4, 3) := by decide +kernel
theorem dX8_after_72 : decode cX8_after 72 = .ok (.iload_n 1, 1) := by decide +kernel
theorem dX8_after_73 : decode cX8_after 73 = .ok (.ireturn, 1) := by decide +kernel
theorem dX8_after_74 : decode cX8_after 74 = .ok (.iload 4, 2) := by decide +kernel
theorem dX8_after_76 : decode cX8_after 76 = .ok (.ifCond .le 17, 3) := by decide +kernel
theorem dX8_after_79 : decode cX8_after 79 = .ok (.iload_n 1, 1) := by decide +kernel
theorem dX8_after_80 : decode cX8_after 80 = .ok (.bipush 7, 2) := by decide +kernel
theorem dX8_after_82 : decode cX8_after 82 = .ok (.ishr, 1) := by decide +kernel
theorem dX8_after_83 : decode cX8_after 83 = .ok (.iconst 3, 1) := by decide +kernel
theorem dX8_after_84 : decode cX8_after 84 = .ok (.ishl, 1) := by decide +kernel
theorem dX8_after_85 : decode cX8_after 85 = .ok (.iload 4, 2) := by decide +kernel
theorem dX8_after_87 : decode cX8_after 87 = .ok (.iconst 1, 1) := by decide +kernel
theorem dX8_after_88 : decode cX8_after 88 = .ok (.isub, 1) := by decide +kernel
theorem dX8_after_89 : decode cX8_after 89 = .ok (.ior, 1) := by decide +kernel
theorem dX8_after_90 : decode cX8_after 90 = .ok (.goto 4, 3) := by decide +kernel
theorem dX8_after_93 : decode cX8_after 93 = .ok (.iload_n 1, 1) := by decide +kernel
theorem dX8_after_94 : decode cX8_after 94 = .ok (.ireturn, 1) := by decide +kernel
theorem dX8_after_95 : decode cX8_after 95 = .ok (.iload_n 2, 1) := by decide +kernel
theorem dX8_after_96 : decode cX8_after 96 = .ok (.ifCond .ne 11, 3) := by decide +kernel
theorem dX8_after_99 : decode cX8_after 99 = .ok (.iload_n 1, 1) := by decide +kernel
theorem dX8_after_100 : decode cX8_after 100 = .ok (.iconst 1, 1) := by decide +kernel
theorem dX8_after_101 : decode cX8_after 101 = .ok (.iload_n 3, 1) := by decide +kernel
theorem dX8_after_102 : decode cX8_after 102 = .ok (.ishl, 1) := by decide +kernel
theorem dX8_after_103 : decode cX8_after 103 = .ok (.ior, 1) := by decide +kernel
theorem dX8_after_104 : decode cX8_after 104 = .ok (.goto 10, 3) := by decide +kernel
theorem dX8_after_107 : decode cX8_after 107 = .ok (.iload_n 1, 1) := by decide +kernel
theorem dX8_after_108 : decode cX8_after 108 = .ok (.iconst 1, 1) := by decide +kernel
theorem dX8_after_109 : decode cX8_after 109 = .ok (.iload_n 3, 1) := by decide +kernel
theorem dX8_after_110 : decode cX8_after 110 = .ok (.ishl, 1) := by decide +kernel
theorem dX8_after_111 : decode cX8_after 111 = .ok (.iconst (-1), 1) := by decide +kernel
theorem dX8_after_112 : decode cX8_after 112 = .ok (.ixor, 1) := by decide +kernel
theorem dX8_after_113 : decode cX8_after 113 = .ok (.iand, 1) := by decide +kernel
theorem dX8_after_114 : decode cX8_after 114 = .ok (.ireturn, 1) := by decide +kernel
theorem dX8_after_115 : decode cX8_after 115 = .ok (.iload_n 1, 1) := by decide +kernel
theorem dX8_after_116 : decode cX8_after 116 = .ok (.iload_n 2, 1) := by decide +kernel
theorem dX8_after_117 : decode cX8_after 117 = .ok (.invokestatic 13, 3) := by decide +kernel
theorem dX8_after_120 : decode cX8_after 120 = .ok (.ireturn, 1) := by decide +kernel
theorem dX8_after_121 : decode cX8_after 121 = .ok (.iload_n 1, 1) := by decide +kernel
theorem dX8_after_122 : decode cX8_after 122 = .ok (.iload_n 2, 1) := by decide +kernel
theorem dX8_after_123 : decode cX8_after 123 = .ok (.invokestatic 17, 3) := by decide +kernel
theorem dX8_after_126 : decode cX8_after 126 = .ok (.iload_n 3, 1) := by decide +kernel
theorem dX8_after_127 : decode cX8_after 127 = .ok (.if_icmp .ge 5, 3) := by decide +kernel
theorem dX8_after_130 : decode cX8_after 130 = .ok (.iload_n 1, 1) := by decide +kernel
theorem dX8_after_131 : decode cX8_after 131 = .ok (.ireturn, 1) := by decide +kernel
theorem dX8_after_132 : decode cX8_after 132 = .ok (.iload_n 2, 1) := by decide +kernel
theorem dX8_after_133 : decode cX8_after 133 = .ok (.ifCond .ne 9, 3) := by decide +kernel
theorem dX8_after_136 : decode cX8_after 136 = .ok (.iload_n 1, 1) := by decide +kernel
theorem dX8_after_137 : decode cX8_after 137 = .ok (.iload_n 3, 1) := by decide +kernel
theorem dX8_after_138 : decode cX8_after 138 = .ok (.isub, 1) := by decide +kernel
theorem dX8_after_139 : decode cX8_after 139 = .ok (.goto 6, 3) := by decide +kernel
theorem dX8_after_142 : decode cX8_after 142 = .ok (.iload_n 1, 1) := by decide +kernel
theorem dX8_after_143 : decode cX8_after 143 = .ok (.iload_n 3, 1) := by decide +kernel
theorem dX8_after_144 : decode cX8_after 144 = .ok (.iadd, 1) := by decide +kernel
theorem dX8_after_145 : decode cX8_after 145 = .ok (.ireturn, 1) := by decide +kernel
theorem dX8_queued_0 : decode cX8_queued 0 = .ok (.iload_n 0, 1) := by decide +kernel
theorem dX8_queued_1 : decode cX8_queued 1 = .ok (.bipush 7, 2) := by decide +kernel
theorem dX8_queued_3 : decode cX8_queued 3 = .ok (.iand, 1) := by decide +kernel
theorem dX8_queued_4 : decode cX8_queued 4 = .ok (.ireturn, 1) := by decide +kernel
theorem dX8_counted_0 : decode cX8_counted 0 = .ok (.iload_n 1, 1) := by decide +kernel
theorem dX8_counted_1 : decode cX8_counted 1 = .ok (.ifCond .ne 17, 3) := by decide +kernel
theorem dX8_counted_4 : decode cX8_counted 4 = .ok (.iload_n 0, 1) := by decide +kernel
theorem dX8_counted_5 : decode cX8_counted 5 = .ok (.bipush 99, 2) := by decide +kernel
theorem dX8_counted_7 : decode cX8_counted 7 = .ok (.if_icmp .ge 9, 3) := by decide +kernel
theorem dX8_counted_10 : decode cX8_counted 10 = .ok (.iload_n 0, 1) := by decide +kernel
theorem dX8_counted_11 : decode cX8_counted 11 = .ok (.iconst 1, 1) := by decide +kernel
theorem dX8_counted_12 : decode cX8_counted 12 = .ok (.iadd, 1) := by decide +kernel
theorem dX8_counted_13 : decode cX8_counted 13 = .ok (.goto 4, 3) := by decide +kernel
theorem dX8_counted_16 : decode cX8_counted 16 = .ok (.iload_n 0, 1) := by decide +kernel
theorem dX8_counted_17 : decode cX8_counted 17 = .ok (.ireturn, 1) := by decide +kernel
theorem dX8_counted_18 : decode cX8_counted 18 = .ok (.iload_n 1, 1) := by decide +kernel
theorem dX8_counted_19 : decode cX8_counted 19 = .ok (.iconst 1, 1) := by decide +kernel
theorem dX8_counted_20 : decode cX8_counted 20 = .ok (.if_icmp .ne 13, 3) := by decide +kernel
theorem dX8_counted_23 : decode cX8_counted 23 = .ok (.iload_n 0, 1) := by decide +kernel
theorem dX8_counted_24 : decode cX8_counted 24 = .ok (.ifCond .le 9, 3) := by decide +kernel
theorem dX8_counted_27 : decode cX8_counted 27 = .ok (.iload_n 0, 1) := by decide +kernel
theorem dX8_counted_28 : decode cX8_counted 28 = .ok (.iconst 1, 1) := by decide +kernel
theorem dX8_counted_29 : decode cX8_counted 29 = .ok (.isub, 1) := by decide +kernel
theorem dX8_counted_30 : decode cX8_counted 30 = .ok (.goto 4, 3) := by decide +kernel
theorem dX8_counted_33 : decode cX8_counted 33 = .ok (.iload_n 0, 1) := by decide +kernel
theorem dX8_counted_34 : decode cX8_counted 34 = .ok (.ireturn, 1) := by decide +kernel
theorem dX8_purse_0 : decode cX8_purse 0 = .ok (.iload_n 1, 1) := by decide +kernel
theorem dX8_purse_1 : decode cX8_purse 1 = .ok (.ifCond .ne 7, 3) := by decide +kernel
theorem dX8_purse_4 : decode cX8_purse 4 = .ok (.iload_n 0, 1) := by decide +kernel
theorem dX8_purse_5 : decode cX8_purse 5 = .ok (.goto 7, 3) := by decide +kernel
theorem dX8_purse_8 : decode cX8_purse 8 = .ok (.bipush 18, 2) := by decide +kernel
theorem dX8_purse_10 : decode cX8_purse 10 = .ok (.iload_n 0, 1) := by decide +kernel
theorem dX8_purse_11 : decode cX8_purse 11 = .ok (.isub, 1) := by decide +kernel
theorem dX8_purse_12 : decode cX8_purse 12 = .ok (.ireturn, 1) := by decide +kernel
theorem dX4_init_0 : decode cX4_init 0 = .ok (.aload_n 0, 1) := by decide +kernel
theorem dX4_init_1 : decode cX4_init 1 = .ok (.invokespecial 3, 3) := by decide +kernel
theorem dX4_init_4 : decode cX4_init 4 = .ok (.aload_n 0, 1) := by decide +kernel
theorem dX4_init_5 : decode cX4_init 5 = .ok (.bipush 20, 2) := by decide +kernel
theorem dX4_init_7 : decode cX4_init 7 = .ok (.newarray .int, 2) := by decide +kernel
theorem dX4_init_9 : decode cX4_init 9 = .ok (.putfield 9, 3) := by decide +kernel
theorem dX4_init_12 : decode cX4_init 12 = .ok (.aload_n 0, 1) := by decide +kernel
theorem dX4_init_13 : decode cX4_init 13 = .ok (.iconst 4, 1) := by decide +kernel
theorem dX4_init_14 : decode cX4_init 14 = .ok (.newarray .int, 2) := by decide +kernel
theorem dX4_init_16 : decode cX4_init 16 = .ok (.putfield 15, 3) := by decide +kernel
theorem dX4_init_19 : decode cX4_init 19 = .ok (.aload_n 0, 1) := by decide +kernel
theorem dX4_init_20 : decode cX4_init 20 = .ok (.iconst 0, 1) := by decide +kernel
theorem dX4_init_21 : decode cX4_init 21 = .ok (.putfield 18, 3) := by decide +kernel
theorem dX4_init_24 : decode cX4_init 24 = .ok (.aload_n 0, 1) := by decide +kernel
theorem dX4_init_25 : decode cX4_init 25 = .ok (.iconst 0, 1) := by decide +kernel
theorem dX4_init_26 : decode cX4_init 26 = .ok (.putfield 22, 3) := by decide +kernel
theorem dX4_init_29 : decode cX4_init 29 = .ok (.aload_n 0, 1) := by decide +kernel
theorem dX4_init_30 : decode cX4_init 30 = .ok (.iconst 0, 1) := by decide +kernel
theorem dX4_init_31 : decode cX4_init 31 = .ok (.putfield 25, 3) := by decide +kernel
theorem dX4_init_34 : decode cX4_init 34 = .ok (.aload_n 0, 1) := by decide +kernel
theorem dX4_init_35 : decode cX4_init 35 = .ok (.iconst 0, 1) := by decide +kernel
theorem dX4_init_36 : decode cX4_init 36 = .ok (.putfield 28, 3) := by decide +kernel
theorem dX4_init_39 : decode cX4_init 39 = .ok (.return_, 1) := by decide +kernel
theorem dX4_takeAll_0 : decode cX4_takeAll 0 = .ok (.aload_n 0, 1) := by decide +kernel
theorem dX4_takeAll_1 : decode cX4_takeAll 1 = .ok (.aload_n 1, 1) := by decide +kernel
theorem dX4_takeAll_2 : decode cX4_takeAll 2 = .ok (.invokevirtual 31, 3) := by decide +kernel
theorem dX4_takeAll_5 : decode cX4_takeAll 5 = .ok (.aload_n 1, 1) := by decide +kernel
theorem dX4_takeAll_6 : decode cX4_takeAll 6 = .ok (.invokevirtual 37, 3) := by decide +kernel
theorem dX4_takeAll_9 : decode cX4_takeAll 9 = .ok (.invokevirtual 40, 3) := by decide +kernel
theorem dX4_takeAll_12 : decode cX4_takeAll 12 = .ok (.return_, 1) := by decide +kernel
theorem dX4_takeSome_0 : decode cX4_takeSome 0 = .ok (.aload_n 0, 1) := by decide +kernel
theorem dX4_takeSome_1 : decode cX4_takeSome 1 = .ok (.iload_n 1, 1) := by decide +kernel
theorem dX4_takeSome_2 : decode cX4_takeSome 2 = .ok (.putfield 18, 3) := by decide +kernel
theorem dX4_takeSome_5 : decode cX4_takeSome 5 = .ok (.aload_n 0, 1) := by decide +kernel
theorem dX4_takeSome_6 : decode cX4_takeSome 6 = .ok (.iload_n 1, 1) := by decide +kernel
theorem dX4_takeSome_7 : decode cX4_takeSome 7 = .ok (.iload_n 2, 1) := by decide +kernel
theorem dX4_takeSome_8 : decode cX4_takeSome 8 = .ok (.iand, 1) := by decide +kernel
theorem dX4_takeSome_9 : decode cX4_takeSome 9 = .ok (.putfield 22, 3) := by decide +kernel
theorem dX4_takeSome_12 : decode cX4_takeSome 12 = .ok (.aload_n 0, 1) := by decide +kernel
theorem dX4_takeSome_13 : decode cX4_takeSome 13 = .ok (.aload_n 0, 1) := by decide +kernel
theorem dX4_takeSome_14 : decode cX4_takeSome 14 = .ok (.getfield 22, 3) := by decide +kernel
theorem dX4_takeSome_17 : decode cX4_takeSome 17 = .ok (.putfield 25, 3) := by decide +kernel
theorem dX4_takeSome_20 : decode cX4_takeSome 20 = .ok (.aload_n 0, 1) := by decide +kernel
theorem dX4_takeSome_21 : decode cX4_takeSome 21 = .ok (.aload_n 0, 1) := by decide +kernel
theorem dX4_takeSome_22 : decode cX4_takeSome 22 = .ok (.getfield 22, 3) := by decide +kernel
theorem dX4_takeSome_25 : decode cX4_takeSome 25 = .ok (.putfield 28, 3) := by decide +kernel
theorem dX4_takeSome_28 : decode cX4_takeSome 28 = .ok (.return_, 1) := by decide +kernel
theorem dX4_gapOf_0 : decode cX4_gapOf 0 = .ok (.iload_n 0, 1) := by decide +kernel
theorem dX4_gapOf_1 : decode cX4_gapOf 1 = .ok (.iconst 1, 1) := by decide +kernel
theorem dX4_gapOf_2 : decode cX4_gapOf 2 = .ok (.if_icmp .ne 9, 3) := by decide +kernel
theorem dX4_gapOf_5 : decode cX4_gapOf 5 = .ok (.sipush 1000, 3) := by decide +kernel
theorem dX4_gapOf_8 : decode cX4_gapOf 8 = .ok (.goto 13, 3) := by decide +kernel
theorem dX4_gapOf_11 : decode cX4_gapOf 11 = .ok (.iload_n 0, 1) := by decide +kernel
theorem dX4_gapOf_12 : decode cX4_gapOf 12 = .ok (.iconst 2, 1) := by decide +kernel
theorem dX4_gapOf_13 : decode cX4_gapOf 13 = .ok (.if_icmp .ne 7, 3) := by decide +kernel
theorem dX4_gapOf_16 : decode cX4_gapOf 16 = .ok (.iload_n 1, 1) := by decide +kernel
theorem dX4_gapOf_17 : decode cX4_gapOf 17 = .ok (.goto 4, 3) := by decide +kernel
theorem dX4_gapOf_20 : decode cX4_gapOf 20 = .ok (.iconst 0, 1) := by decide +kernel
theorem dX4_gapOf_21 : decode cX4_gapOf 21 = .ok (.ireturn, 1) := by decide +kernel
theorem dX4_bind_0 : decode cX4_bind 0 = .ok (.aload_n 0, 1) := by decide +kernel
theorem dX4_bind_1 : decode cX4_bind 1 = .ok (.getfield 15, 3) := by decide +kernel
theorem dX4_bind_4 : decode cX4_bind 4 = .ok (.iconst 0, 1) := by decide +kernel
theorem dX4_bind_5 : decode cX4_bind 5 = .ok (.invokestatic 44, 3) := by decide +kernel
theorem dX4_bind_8 : decode cX4_bind 8 = .ok (.iconst 0, 1) := by decide +kernel
theorem dX4_bind_9 : decode cX4_bind 9 = .ok (.istore_n 3, 1) := by decide +kernel
theorem dX4_bind_10 : decode cX4_bind 10 = .ok (.iload_n 3, 1) := by decide +kernel
theorem dX4_bind_11 : decode cX4_bind 11 = .ok (.aload_n 1, 1) := by decide +kernel
theorem dX4_bind_12 : decode cX4_bind 12 = .ok (.getfield 50, 3) := by decide +kernel
theorem dX4_bind_15 : decode cX4_bind 15 = .ok (.if_icmp .ge 79, 3) := by decide +kernel
theorem dX4_bind_18 : decode cX4_bind 18 = .ok (.iload_n 3, 1) := by decide +kernel
theorem dX4_bind_19 : decode cX4_bind 19 = .ok (.bipush 20, 2) := by decide +kernel
theorem dX4_bind_21 : decode cX4_bind 21 = .ok (.if_icmp .ge 73, 3) := by decide +kernel
theorem dX4_bind_24 : decode cX4_bind 24 = .ok (.aload_n 1, 1) := by decide +kernel
theorem dX4_bind_25 : decode cX4_bind 25 = .ok (.iload_n 3, 1) := by decide +kernel
theorem dX4_bind_26 : decode cX4_bind 26 = .ok (.invokevirtual 53, 3) := by decide +kernel
theorem dX4_bind_29 : decode cX4_bind 29 = .ok (.istore 4, 2) := by decide +kernel
theorem dX4_bind_31 : decode cX4_bind 31 = .ok (.aload_n 0, 1) := by decide +kernel
theorem dX4_bind_32 : decode cX4_bind 32 = .ok (.getfield 18, 3) := by decide +kernel
theorem dX4_bind_35 : decode cX4_bind 35 = .ok (.iload_n 3, 1) := by decide +kernel
theorem dX4_bind_36 : decode cX4_bind 36 = .ok (.ishr, 1) := by decide +kernel
theorem dX4_bind_37 : decode cX4_bind 37 = .ok (.iconst 1, 1) := by decide +kernel
theorem dX4_bind_38 : decode cX4_bind 38 = .ok (.iand, 1) := by decide +kernel
theorem dX4_bind_39 : decode cX4_bind 39 = .ok (.iconst 1, 1) := by decide +kernel
theorem dX4_bind_40 : decode cX4_bind 40 = .ok (.if_icmp .ne 48, 3) := by decide +kernel
theorem dX4_bind_43 : decode cX4_bind 43 = .ok (.iload 4, 2) := by decide +kernel
theorem dX4_bind_45 : decode cX4_bind 45 = .ok (.ifCond .lt 43, 3) := by decide +kernel
theorem dX4_bind_48 : decode cX4_bind 48 = .ok (.iload 4, 2) := by decide +kernel
theorem dX4_bind_50 : decode cX4_bind 50 = .ok (.iconst 4, 1) := by decide +kernel
theorem dX4_bind_51 : decode cX4_bind 51 = .ok (.if_icmp .ge 37, 3) := by decide +kernel
theorem dX4_bind_54 : decode cX4_bind 54 = .ok (.aload_n 0, 1) := by decide +kernel
theorem dX4_bind_55 : decode cX4_bind 55 = .ok (.getfield 9, 3) := by decide +kernel
theorem dX4_bind_58 : decode cX4_bind 58 = .ok (.iload_n 3, 1) := by decide +kernel
theorem dX4_bind_59 : decode cX4_bind 59 = .ok (.aload_n 0, 1) := by decide +kernel
theorem dX4_bind_60 : decode cX4_bind 60 = .ok (.getfield 15, 3) := by decide +kernel
theorem dX4_bind_63 : decode cX4_bind 63 = .ok (.iload 4, 2) := by decide +kernel
theorem dX4_bind_65 : decode cX4_bind 65 = .ok (.iaload, 1) := by decide +kernel
theorem dX4_bind_66 : decode cX4_bind 66 = .ok (.aload_n 0, 1) := by decide +kernel
theorem dX4_bind_67 : decode cX4_bind 67 = .ok (.aload_n 1, 1) := by decide +kernel
theorem dX4_bind_68 : decode cX4_bind 68 = .ok (.iload_n 3, 1) := by decide +kernel
theorem dX4_bind_69 : decode cX4_bind 69 = .ok (.iload_n 2, 1) := by decide +kernel
theorem dX4_bind_70 : decode cX4_bind 70 = .ok (.invokevirtual 57, 3) := by decide +kernel
theorem dX4_bind_73 : decode cX4_bind 73 = .ok (.ior, 1) := by decide +kernel
theorem dX4_bind_74 : decode cX4_bind 74 = .ok (.iastore, 1) := by decide +kernel
theorem dX4_bind_75 : decode cX4_bind 75 = .ok (.aload_n 0, 1) := by decide +kernel
theorem dX4_bind_76 : decode cX4_bind 76 = .ok (.getfield 15, 3) := by decide +kernel
theorem dX4_bind_79 : decode cX4_bind 79 = .ok (.iload 4, 2) := by decide +kernel
theorem dX4_bind_81 : decode cX4_bind 81 = .ok (.dup2, 1) := by decide +kernel
theorem dX4_bind_82 : decode cX4_bind 82 = .ok (.iaload, 1) := by decide +kernel
theorem dX4_bind_83 : decode cX4_bind 83 = .ok (.iconst 1, 1) := by decide +kernel
theorem dX4_bind_84 : decode cX4_bind 84 = .ok (.iload_n 3, 1) := by decide +kernel
theorem dX4_bind_85 : decode cX4_bind 85 = .ok (.ishl, 1) := by decide +kernel
theorem dX4_bind_86 : decode cX4_bind 86 = .ok (.ior, 1) := by decide +kernel
theorem dX4_bind_87 : decode cX4_bind 87 = .ok (.iastore, 1) := by decide +kernel
theorem dX4_bind_88 : decode cX4_bind 88 = .ok (.iinc 3 1, 3) := by decide +kernel
theorem dX4_bind_91 : decode cX4_bind 91 = .ok (.goto (-81), 3) := by decide +kernel
theorem dX4_bind_94 : decode cX4_bind 94 = .ok (.return_, 1) := by decide +kernel
theorem dX4_endedAhead_0 : decode cX4_endedAhead 0 = .ok (.iconst 0, 1) := by decide +kernel
theorem dX4_endedAhead_1 : decode cX4_endedAhead 1 = .ok (.istore 4, 2) := by decide +kernel
theorem dX4_endedAhead_3 : decode cX4_endedAhead 3 = .ok (.iconst 0, 1) := by decide +kernel
theorem dX4_endedAhead_4 : decode cX4_endedAhead 4 = .ok (.istore 5, 2) := by decide +kernel
theorem dX4_endedAhead_6 : decode cX4_endedAhead 6 = .ok (.iload 5, 2) := by decide +kernel
theorem dX4_endedAhead_8 : decode cX4_endedAhead 8 = .ok (.aload_n 1, 1) := by decide +kernel
theorem dX4_endedAhead_9 : decode cX4_endedAhead 9 = .ok (.getfield 50, 3) := by decide +kernel
theorem dX4_endedAhead_12 : decode cX4_endedAhead 12 = .ok (.if_icmp .ge 47, 3) := by decide +kernel
theorem dX4_endedAhead_15 : decode cX4_endedAhead 15 = .ok (.aload_n 0, 1) := by decide +kernel
theorem dX4_endedAhead_16 : decode cX4_endedAhead 16 = .ok (.getfield 28, 3) := by decide +kernel
theorem dX4_endedAhead_19 : decode cX4_endedAhead 19 = .ok (.iload 5, 2) := by decide +kernel
theorem dX4_endedAhead_21 : decode cX4_endedAhead 21 = .ok (.ishr, 1) := by decide +kernel
theorem dX4_endedAhead_22 : decode cX4_endedAhead 22 = .ok (.iconst 1, 1) := by decide +kernel
theorem dX4_endedAhead_23 : decode cX4_endedAhead 23 = .ok (.iand, 1) := by decide +kernel
theorem dX4_endedAhead_24 : decode cX4_endedAhead 24 = .ok (.iconst 1, 1) := by decide +kernel
theorem dX4_endedAhead_25 : decode cX4_endedAhead 25 = .ok (.if_icmp .ne 28, 3) := by decide +kernel
theorem dX4_endedAhead_28 : decode cX4_endedAhead 28 = .ok (.aload_n 1, 1) := by decide +kernel
theorem dX4_endedAhead_29 : decode cX4_endedAhead 29 = .ok (.iload_n 2, 1) := by decide +kernel
theorem dX4_endedAhead_30 : decode cX4_endedAhead 30 = .ok (.invokevirtual 61, 3) := by decide +kernel
theorem dX4_endedAhead_33 : decode cX4_endedAhead 33 = .ok (.aload_n 1, 1) := by decide +kernel
theorem dX4_endedAhead_34 : decode cX4_endedAhead 34 = .ok (.iload 5, 2) := by decide +kernel
theorem dX4_endedAhead_36 : decode cX4_endedAhead 36 = .ok (.invokevirtual 64, 3) := by decide +kernel
theorem dX4_endedAhead_39 : decode cX4_endedAhead 39 = .ok (.isub, 1) := by decide +kernel
theorem dX4_endedAhead_40 : decode cX4_endedAhead 40 = .ok (.iload_n 3, 1) := by decide +kernel
theorem dX4_endedAhead_41 : decode cX4_endedAhead 41 = .ok (.if_icmp .le 12, 3) := by decide +kernel
theorem dX4_endedAhead_44 : decode cX4_endedAhead 44 = .ok (.iload 4, 2) := by decide +kernel
theorem dX4_endedAhead_46 : decode cX4_endedAhead 46 = .ok (.iconst 1, 1) := by decide +kernel
theorem dX4_endedAhead_47 : decode cX4_endedAhead 47 = .ok (.iload 5, 2) := by decide +kernel
theorem dX4_endedAhead_49 : decode cX4_endedAhead 49 = .ok (.ishl, 1) := by decide +kernel
theorem dX4_endedAhead_50 : decode cX4_endedAhead 50 = .ok (.ior, 1) := by decide +kernel
theorem dX4_endedAhead_51 : decode cX4_endedAhead 51 = .ok (.istore 4, 2) := by decide +kernel
theorem dX4_endedAhead_53 : decode cX4_endedAhead 53 = .ok (.iinc 5 1, 3) := by decide +kernel
theorem dX4_endedAhead_56 : decode cX4_endedAhead 56 = .ok (.goto (-50), 3) := by decide +kernel
theorem dX4_endedAhead_59 : decode cX4_endedAhead 59 = .ok (.iload 4, 2) := by decide +kernel
theorem dX4_endedAhead_61 : decode cX4_endedAhead 61 = .ok (.ireturn, 1) := by decide +kernel
theorem dX4_nextOf_0 : decode cX4_nextOf 0 = .ok (.iload_n 1, 1) := by decide +kernel
theorem dX4_nextOf_1 : decode cX4_nextOf 1 = .ok (.ifCond .lt 8, 3) := by decide +kernel
theorem dX4_nextOf_4 : decode cX4_nextOf 4 = .ok (.iload_n 1, 1) := by decide +kernel
theorem dX4_nextOf_5 : decode cX4_nextOf 5 = .ok (.iconst 4, 1) := by decide +kernel
theorem dX4_nextOf_6 : decode cX4_nextOf 6 = .ok (.if_icmp .lt 5, 3) := by decide +kernel
theorem dX4_nextOf_9 : decode cX4_nextOf 9 = .ok (.iconst (-1), 1) := by decide +kernel
theorem dX4_nextOf_10 : decode cX4_nextOf 10 = .ok (.ireturn, 1) := by decide +kernel
theorem dX4_nextOf_11 : decode cX4_nextOf 11 = .ok (.aload_n 0, 1) := by decide +kernel
theorem dX4_nextOf_12 : decode cX4_nextOf 12 = .ok (.getfield 15, 3) := by decide +kernel
theorem dX4_nextOf_15 : decode cX4_nextOf 15 = .ok (.iload_n 1, 1) := by decide +kernel
theorem dX4_nextOf_16 : decode cX4_nextOf 16 = .ok (.iaload, 1) := by decide +kernel
theorem dX4_nextOf_17 : decode cX4_nextOf 17 = .ok (.iload_n 2, 1) := by decide +kernel
theorem dX4_nextOf_18 : decode cX4_nextOf 18 = .ok (.iconst (-1), 1) := by decide +kernel
theorem dX4_nextOf_19 : decode cX4_nextOf 19 = .ok (.ixor, 1) := by decide +kernel
theorem dX4_nextOf_20 : decode cX4_nextOf 20 = .ok (.iand, 1) := by decide +kernel
theorem dX4_nextOf_21 : decode cX4_nextOf 21 = .ok (.istore_n 3, 1) := by decide +kernel
theorem dX4_nextOf_22 : decode cX4_nextOf 22 = .ok (.iload_n 3, 1) := by decide +kernel
theorem dX4_nextOf_23 : decode cX4_nextOf 23 = .ok (.ifCond .ne 7, 3) := by decide +kernel
theorem dX4_nextOf_26 : decode cX4_nextOf 26 = .ok (.iconst (-1), 1) := by decide +kernel
theorem dX4_nextOf_27 : decode cX4_nextOf 27 = .ok (.goto 12, 3) := by decide +kernel
theorem dX4_nextOf_30 : decode cX4_nextOf 30 = .ok (.iload_n 3, 1) := by decide +kernel
theorem dX4_nextOf_31 : decode cX4_nextOf 31 = .ok (.iload_n 3, 1) := by decide +kernel
theorem dX4_nextOf_32 : decode cX4_nextOf 32 = .ok (.ineg, 1) := by decide +kernel
theorem dX4_nextOf_33 : decode cX4_nextOf 33 = .ok (.iand, 1) := by decide +kernel
theorem dX4_nextOf_34 : decode cX4_nextOf 34 = .ok (.iconst 1, 1) := by decide +kernel
theorem dX4_nextOf_35 : decode cX4_nextOf 35 = .ok (.isub, 1) := by decide +kernel
theorem dX4_nextOf_36 : decode cX4_nextOf 36 = .ok (.invokestatic 67, 3) := by decide +kernel
theorem dX4_nextOf_39 : decode cX4_nextOf 39 = .ok (.istore 4, 2) := by decide +kernel
theorem dX4_nextOf_41 : decode cX4_nextOf 41 = .ok (.iload 4, 2) := by decide +kernel
theorem dX4_nextOf_43 : decode cX4_nextOf 43 = .ok (.ifCond .lt 29, 3) := by decide +kernel
theorem dX4_nextOf_46 : decode cX4_nextOf 46 = .ok (.iload 4, 2) := by decide +kernel
theorem dX4_nextOf_48 : decode cX4_nextOf 48 = .ok (.bipush 20, 2) := by decide +kernel
theorem dX4_nextOf_50 : decode cX4_nextOf 50 = .ok (.if_icmp .ge 22, 3) := by decide +kernel
theorem dX4_nextOf_53 : decode cX4_nextOf 53 = .ok (.aload_n 0, 1) := by decide +kernel
theorem dX4_nextOf_54 : decode cX4_nextOf 54 = .ok (.getfield 9, 3) := by decide +kernel
theorem dX4_nextOf_57 : decode cX4_nextOf 57 = .ok (.iload 4, 2) := by decide +kernel
theorem dX4_nextOf_59 : decode cX4_nextOf 59 = .ok (.iaload, 1) := by decide +kernel
theorem dX4_nextOf_60 : decode cX4_nextOf 60 = .ok (.iload_n 2, 1) := by decide +kernel
theorem dX4_nextOf_61 : decode cX4_nextOf 61 = .ok (.iconst (-1), 1) := by decide +kernel
theorem dX4_nextOf_62 : decode cX4_nextOf 62 = .ok (.ixor, 1) := by decide +kernel
theorem dX4_nextOf_63 : decode cX4_nextOf 63 = .ok (.iand, 1) := by decide +kernel
theorem dX4_nextOf_64 : decode cX4_nextOf 64 = .ok (.ifCond .ne 8, 3) := by decide +kernel
theorem dX4_nextOf_67 : decode cX4_nextOf 67 = .ok (.iload 4, 2) := by decide +kernel
theorem dX4_nextOf_69 : decode cX4_nextOf 69 = .ok (.goto 4, 3) := by decide +kernel
theorem dX4_nextOf_72 : decode cX4_nextOf 72 = .ok (.iconst (-1), 1) := by decide +kernel
theorem dX4_nextOf_73 : decode cX4_nextOf 73 = .ok (.ireturn, 1) := by decide +kernel
theorem dX4_isEnd_0 : decode cX4_isEnd 0 = .ok (.aload_n 0, 1) := by decide +kernel
theorem dX4_isEnd_1 : decode cX4_isEnd 1 = .ok (.getfield 22, 3) := by decide +kernel
theorem dX4_isEnd_4 : decode cX4_isEnd 4 = .ok (.iload_n 1, 1) := by decide +kernel
theorem dX4_isEnd_5 : decode cX4_isEnd 5 = .ok (.iconst (-1), 1) := by decide +kernel
theorem dX4_isEnd_6 : decode cX4_isEnd 6 = .ok (.ixor, 1) := by decide +kernel
theorem dX4_isEnd_7 : decode cX4_isEnd 7 = .ok (.iand, 1) := by decide +kernel
theorem dX4_isEnd_8 : decode cX4_isEnd 8 = .ok (.ifCond .ne 7, 3) := by decide +kernel
theorem dX4_isEnd_11 : decode cX4_isEnd 11 = .ok (.iconst 1, 1) := by decide +kernel
theorem dX4_isEnd_12 : decode cX4_isEnd 12 = .ok (.goto 4, 3) := by decide +kernel
theorem dX4_isEnd_15 : decode cX4_isEnd 15 = .ok (.iconst 0, 1) := by decide +kernel
theorem dX4_isEnd_16 : decode cX4_isEnd 16 = .ok (.ireturn, 1) := by decide +kernel
theorem dX2_init_0 : decode cX2_init 0 = .ok (.aload_n 0, 1) := by decide +kernel
theorem dX2_init_1 : decode cX2_init 1 = .ok (.invokespecial 3, 3) := by decide +kernel
theorem dX2_init_4 : decode cX2_init 4 = .ok (.aload_n 0, 1) := by decide +kernel
theorem dX2_init_5 : decode cX2_init 5 = .ok (.bipush 15, 2) := by decide +kernel
theorem dX2_init_7 : decode cX2_init 7 = .ok (.newarray .int, 2) := by decide +kernel
theorem dX2_init_9 : decode cX2_init 9 = .ok (.putfield 11, 3) := by decide +kernel
theorem dX2_init_12 : decode cX2_init 12 = .ok (.aload_n 0, 1) := by decide +kernel
theorem dX2_init_13 : decode cX2_init 13 = .ok (.iconst 4, 1) := by decide +kernel
theorem dX2_init_14 : decode cX2_init 14 = .ok (.newarray .int, 2) := by decide +kernel
theorem dX2_init_16 : decode cX2_init 16 = .ok (.putfield 15, 3) := by decide +kernel
theorem dX2_init_19 : decode cX2_init 19 = .ok (.aload_n 0, 1) := by decide +kernel
theorem dX2_init_20 : decode cX2_init 20 = .ok (.iconst 4, 1) := by decide +kernel
theorem dX2_init_21 : decode cX2_init 21 = .ok (.newarray .int, 2) := by decide +kernel
theorem dX2_init_23 : decode cX2_init 23 = .ok (.putfield 18, 3) := by decide +kernel
theorem dX2_init_26 : decode cX2_init 26 = .ok (.aload_n 0, 1) := by decide +kernel
theorem dX2_init_27 : decode cX2_init 27 = .ok (.iconst 4, 1) := by decide +kernel
theorem dX2_init_28 : decode cX2_init 28 = .ok (.newarray .int, 2) := by decide +kernel
theorem dX2_init_30 : decode cX2_init 30 = .ok (.putfield 21, 3) := by decide +kernel
theorem dX2_init_33 : decode cX2_init 33 = .ok (.aload_n 0, 1) := by decide +kernel
theorem dX2_init_34 : decode cX2_init 34 = .ok (.iconst 0, 1) := by decide +kernel
theorem dX2_init_35 : decode cX2_init 35 = .ok (.putfield 24, 3) := by decide +kernel
theorem dX2_init_38 : decode cX2_init 38 = .ok (.aload_n 0, 1) := by decide +kernel
theorem dX2_init_39 : decode cX2_init 39 = .ok (.aload_n 1, 1) := by decide +kernel
theorem dX2_init_40 : decode cX2_init 40 = .ok (.putfield 28, 3) := by decide +kernel
theorem dX2_init_43 : decode cX2_init 43 = .ok (.return_, 1) := by decide +kernel
theorem dX2_isOne_0 : decode cX2_isOne 0 = .ok (.iload_n 0, 1) := by decide +kernel
theorem dX2_isOne_1 : decode cX2_isOne 1 = .ok (.ifCond .lt 12, 3) := by decide +kernel
theorem dX2_isOne_4 : decode cX2_isOne 4 = .ok (.iload_n 0, 1) := by decide +kernel
theorem dX2_isOne_5 : decode cX2_isOne 5 = .ok (.iconst 2, 1) := by decide +kernel
theorem dX2_isOne_6 : decode cX2_isOne 6 = .ok (.if_icmp .gt 7, 3) := by decide +kernel
theorem dX2_isOne_9 : decode cX2_isOne 9 = .ok (.iconst 1, 1) := by decide +kernel
theorem dX2_isOne_10 : decode cX2_isOne 10 = .ok (.goto 4, 3) := by decide +kernel
theorem dX2_isOne_13 : decode cX2_isOne 13 = .ok (.iconst 0, 1) := by decide +kernel
theorem dX2_isOne_14 : decode cX2_isOne 14 = .ok (.ireturn, 1) := by decide +kernel
theorem dX2_draw_0 : decode cX2_draw 0 = .ok (.aload_n 0, 1) := by decide +kernel
theorem dX2_draw_1 : decode cX2_draw 1 = .ok (.bipush 75, 2) := by decide +kernel
theorem dX2_draw_3 : decode cX2_draw 3 = .ok (.aload_n 0, 1) := by decide +kernel
theorem dX2_draw_4 : decode cX2_draw 4 = .ok (.getfield 24, 3) := by decide +kernel
theorem dX2_draw_7 : decode cX2_draw 7 = .ok (.imul, 1) := by decide +kernel
theorem dX2_draw_8 : decode cX2_draw 8 = .ok (.bipush 74, 2) := by decide +kernel
theorem dX2_draw_10 : decode cX2_draw 10 = .ok (.iadd, 1) := by decide +kernel
theorem dX2_draw_11 : decode cX2_draw 11 = .ok (.ldc 32, 2) := by decide +kernel
theorem dX2_draw_13 : decode cX2_draw 13 = .ok (.irem, 1) := by decide +kernel
theorem dX2_draw_14 : decode cX2_draw 14 = .ok (.putfield 24, 3) := by decide +kernel
theorem dX2_draw_17 : decode cX2_draw 17 = .ok (.iload_n 1, 1) := by decide +kernel
theorem dX2_draw_18 : decode cX2_draw 18 = .ok (.ifCond .le 12, 3) := by decide +kernel
theorem dX2_draw_21 : decode cX2_draw 21 = .ok (.aload_n 0, 1) := by decide +kernel
theorem dX2_draw_22 : decode cX2_draw 22 = .ok (.getfield 24, 3) := by decide +kernel
theorem dX2_draw_25 : decode cX2_draw 25 = .ok (.iload_n 1, 1) := by decide +kernel
theorem dX2_draw_26 : decode cX2_draw 26 = .ok (.irem, 1) := by decide +kernel
theorem dX2_draw_27 : decode cX2_draw 27 = .ok (.goto 4, 3) := by decide +kernel
theorem dX2_draw_30 : decode cX2_draw 30 = .ok (.iconst 0, 1) := by decide +kernel
theorem dX2_draw_31 : decode cX2_draw 31 = .ok (.ireturn, 1) := by decide +kernel
theorem dX2_run_0 : decode cX2_run 0 = .ok (.aload_n 0, 1) := by decide +kernel
theorem dX2_run_1 : decode cX2_run 1 = .ok (.iload 4, 2) := by decide +kernel
theorem dX2_run_3 : decode cX2_run 3 = .ok (.putfield 24, 3) := by decide +kernel
theorem dX2_run_6 : decode cX2_run 6 = .ok (.aload_n 1, 1) := by decide +kernel
theorem dX2_run_7 : decode cX2_run 7 = .ok (.invokevirtual 33, 3) := by decide +kernel
theorem dX2_run_10 : decode cX2_run 10 = .ok (.aload_n 0, 1) := by decide +kernel
theorem dX2_run_11 : decode cX2_run 11 = .ok (.getfield 15, 3) := by decide +kernel
theorem dX2_run_14 : decode cX2_run 14 = .ok (.iconst 0, 1) := by decide +kernel
theorem dX2_run_15 : decode cX2_run 15 = .ok (.invokestatic 38, 3) := by decide +kernel
theorem dX2_run_18 : decode cX2_run 18 = .ok (.iconst 0, 1) := by decide +kernel
theorem dX2_run_19 : decode cX2_run 19 = .ok (.istore 5, 2) := by decide +kernel
theorem dX2_run_21 : decode cX2_run 21 = .ok (.iload 5, 2) := by decide +kernel
theorem dX2_run_23 : decode cX2_run 23 = .ok (.aload_n 0, 1) := by decide +kernel
theorem dX2_run_24 : decode cX2_run 24 = .ok (.getfield 11, 3) := by decide +kernel
theorem dX2_run_27 : decode cX2_run 27 = .ok (.arraylength, 1) := by decide +kernel
theorem dX2_run_28 : decode cX2_run 28 = .ok (.if_icmp .ge 30, 3) := by decide +kernel
theorem dX2_run_31 : decode cX2_run 31 = .ok (.aload_n 0, 1) := by decide +kernel
theorem dX2_run_32 : decode cX2_run 32 = .ok (.getfield 11, 3) := by decide +kernel
theorem dX2_run_35 : decode cX2_run 35 = .ok (.iload 5, 2) := by decide +kernel
theorem dX2_run_37 : decode cX2_run 37 = .ok (.aload_n 0, 1) := by decide +kernel
theorem dX2_run_38 : decode cX2_run 38 = .ok (.getfield 28, 3) := by decide +kernel
theorem dX2_run_41 : decode cX2_run 41 = .ok (.iload 5, 2) := by decide +kernel
theorem dX2_run_43 : decode cX2_run 43 = .ok (.iconst 3, 1) := by decide +kernel
theorem dX2_run_44 : decode cX2_run 44 = .ok (.irem, 1) := by decide +kernel
theorem dX2_run_45 : decode cX2_run 45 = .ok (.invokevirtual 44, 3) := by decide +kernel
theorem dX2_run_48 : decode cX2_run 48 = .ok (.invokestatic 50, 3) := by decide +kernel
theorem dX2_run_51 : decode cX2_run 51 = .ok (.iastore, 1) := by decide +kernel
theorem dX2_run_52 : decode cX2_run 52 = .ok (.iinc 5 1, 3) := by decide +kernel
theorem dX2_run_55 : decode cX2_run 55 = .ok (.goto (-34), 3) := by decide +kernel
theorem dX2_run_58 : decode cX2_run 58 = .ok (.iconst 0, 1) := by decide +kernel
theorem dX2_run_59 : decode cX2_run 59 = .ok (.istore 5, 2) := by decide +kernel
theorem dX2_run_61 : decode cX2_run 61 = .ok (.iconst 1, 1) := by decide +kernel
theorem dX2_run_62 : decode cX2_run 62 = .ok (.istore 6, 2) := by decide +kernel
theorem dX2_run_64 : decode cX2_run 64 = .ok (.iload 6, 2) := by decide +kernel
theorem dX2_run_66 : decode cX2_run 66 = .ok (.sipush 999, 3) := by decide +kernel
theorem dX2_run_69 : decode cX2_run 69 = .ok (.if_icmp .gt 59, 3) := by decide +kernel
theorem dX2_run_72 : decode cX2_run 72 = .ok (.aload_n 0, 1) := by decide +kernel
theorem dX2_run_73 : decode cX2_run 73 = .ok (.aload_n 0, 1) := by decide +kernel
theorem dX2_run_74 : decode cX2_run 74 = .ok (.getfield 28, 3) := by decide +kernel
theorem dX2_run_77 : decode cX2_run 77 = .ok (.getfield 55, 3) := by decide +kernel
theorem dX2_run_80 : decode cX2_run 80 = .ok (.invokevirtual 58, 3) := by decide +kernel
theorem dX2_run_83 : decode cX2_run 83 = .ok (.istore 7, 2) := by decide +kernel
theorem dX2_run_85 : decode cX2_run 85 = .ok (.iload 7, 2) := by decide +kernel
theorem dX2_run_87 : decode cX2_run 87 = .ok (.ifCond .lt 26, 3) := by decide +kernel
theorem dX2_run_90 : decode cX2_run 90 = .ok (.iload 7, 2) := by decide +kernel
theorem dX2_run_92 : decode cX2_run 92 = .ok (.iconst 4, 1) := by decide +kernel
theorem dX2_run_93 : decode cX2_run 93 = .ok (.if_icmp .ge 20, 3) := by decide +kernel
theorem dX2_run_96 : decode cX2_run 96 = .ok (.aload_n 0, 1) := by decide +kernel
theorem dX2_run_97 : decode cX2_run 97 = .ok (.iload 7, 2) := by decide +kernel
theorem dX2_run_99 : decode cX2_run 99 = .ok (.aload_n 1, 1) := by decide +kernel
theorem dX2_run_100 : decode cX2_run 100 = .ok (.iload_n 2, 1) := by decide +kernel
theorem dX2_run_101 : decode cX2_run 101 = .ok (.iload_n 3, 1) := by decide +kernel
theorem dX2_run_102 : decode cX2_run 102 = .ok (.iload 6, 2) := by decide +kernel
theorem dX2_run_104 : decode cX2_run 104 = .ok (.invokevirtual 61, 3) := by decide +kernel
theorem dX2_run_107 : decode cX2_run 107 = .ok (.ifCond .eq 6, 3) := by decide +kernel
theorem dX2_run_110 : decode cX2_run 110 = .ok (.iinc 5 1, 3) := by decide +kernel
theorem dX2_run_113 : decode cX2_run 113 = .ok (.iload 5, 2) := by decide +kernel
theorem dX2_run_115 : decode cX2_run 115 = .ok (.iload_n 3, 1) := by decide +kernel
theorem dX2_run_116 : decode cX2_run 116 = .ok (.if_icmp .ne 6, 3) := by decide +kernel
theorem dX2_run_119 : decode cX2_run 119 = .ok (.iload 6, 2) := by decide +kernel
theorem dX2_run_121 : decode cX2_run 121 = .ok (.ireturn, 1) := by decide +kernel
theorem dX2_run_122 : decode cX2_run 122 = .ok (.iinc 6 1, 3) := by decide +kernel
theorem dX2_run_125 : decode cX2_run 125 = .ok (.goto (-61), 3) := by decide +kernel
theorem dX2_run_128 : decode cX2_run 128 = .ok (.sipush 999, 3) := by decide +kernel
theorem dX2_run_131 : decode cX2_run 131 = .ok (.ireturn, 1) := by decide +kernel
theorem dX2_minuteOf_0 : decode cX2_minuteOf 0 = .ok (.aload_n 0, 1) := by decide +kernel
theorem dX2_minuteOf_1 : decode cX2_minuteOf 1 = .ok (.getfield 15, 3) := by decide +kernel
theorem dX2_minuteOf_4 : decode cX2_minuteOf 4 = .ok (.iload_n 1, 1) := by decide +kernel
theorem dX2_minuteOf_5 : decode cX2_minuteOf 5 = .ok (.iaload, 1) := by decide +kernel
theorem dX2_minuteOf_6 : decode cX2_minuteOf 6 = .ok (.lookupswitch 86 #[(0, 26), (1, 58)], 26) := by decide +kernel
theorem dX2_minuteOf_32 : decode cX2_minuteOf 32 = .ok (.aload_n 2, 1) := by decide +kernel
theorem dX2_minuteOf_33 : decode cX2_minuteOf 33 = .ok (.getfield 65, 3) := by decide +kernel
theorem dX2_minuteOf_36 : decode cX2_minuteOf 36 = .ok (.iload 4, 2) := by decide +kernel
theorem dX2_minuteOf_38 : decode cX2_minuteOf 38 = .ok (.if_icmp .ge 24, 3) := by decide +kernel
theorem dX2_minuteOf_41 : decode cX2_minuteOf 41 = .ok (.aload_n 0, 1) := by decide +kernel
theorem dX2_minuteOf_42 : decode cX2_minuteOf 42 = .ok (.getfield 18, 3) := by decide +kernel
theorem dX2_minuteOf_45 : decode cX2_minuteOf 45 = .ok (.iload_n 1, 1) := by decide +kernel
theorem dX2_minuteOf_46 : decode cX2_minuteOf 46 = .ok (.aload_n 0, 1) := by decide +kernel
theorem dX2_minuteOf_47 : decode cX2_minuteOf 47 = .ok (.aload_n 2, 1) := by decide +kernel
theorem dX2_minuteOf_48 : decode cX2_minuteOf 48 = .ok (.iload_n 1, 1) := by decide +kernel
theorem dX2_minuteOf_49 : decode cX2_minuteOf 49 = .ok (.iload 5, 2) := by decide +kernel
theorem dX2_minuteOf_51 : decode cX2_minuteOf 51 = .ok (.invokevirtual 68, 3) := by decide +kernel
theorem dX2_minuteOf_54 : decode cX2_minuteOf 54 = .ok (.iastore, 1) := by decide +kernel
theorem dX2_minuteOf_55 : decode cX2_minuteOf 55 = .ok (.aload_n 0, 1) := by decide +kernel
theorem dX2_minuteOf_56 : decode cX2_minuteOf 56 = .ok (.getfield 15, 3) := by decide +kernel
theorem dX2_minuteOf_59 : decode cX2_minuteOf 59 = .ok (.iload_n 1, 1) := by decide +kernel
theorem dX2_minuteOf_60 : decode cX2_minuteOf 60 = .ok (.iconst 1, 1) := by decide +kernel
theorem dX2_minuteOf_61 : decode cX2_minuteOf 61 = .ok (.iastore, 1) := by decide +kernel
theorem dX2_minuteOf_62 : decode cX2_minuteOf 62 = .ok (.iconst 0, 1) := by decide +kernel
theorem dX2_minuteOf_63 : decode cX2_minuteOf 63 = .ok (.ireturn, 1) := by decide +kernel
theorem dX2_minuteOf_64 : decode cX2_minuteOf 64 = .ok (.aload_n 0, 1) := by decide +kernel
theorem dX2_minuteOf_65 : decode cX2_minuteOf 65 = .ok (.getfield 21, 3) := by decide +kernel
theorem dX2_minuteOf_68 : decode cX2_minuteOf 68 = .ok (.iload_n 1, 1) := by decide +kernel
theorem dX2_minuteOf_69 : decode cX2_minuteOf 69 = .ok (.aload_n 0, 1) := by decide +kernel
theorem dX2_minuteOf_70 : decode cX2_minuteOf 70 = .ok (.aload_n 2, 1) := by decide +kernel
theorem dX2_minuteOf_71 : decode cX2_minuteOf 71 = .ok (.aload_n 0, 1) := by decide +kernel
theorem dX2_minuteOf_72 : decode cX2_minuteOf 72 = .ok (.getfield 18, 3) := by decide +kernel
theorem dX2_minuteOf_75 : decode cX2_minuteOf 75 = .ok (.iload_n 1, 1) := by decide +kernel
theorem dX2_minuteOf_76 : decode cX2_minuteOf 76 = .ok (.iaload, 1) := by decide +kernel
theorem dX2_minuteOf_77 : decode cX2_minuteOf 77 = .ok (.iload_n 3, 1) := by decide +kernel
theorem dX2_minuteOf_78 : decode cX2_minuteOf 78 = .ok (.iload_n 1, 1) := by decide +kernel
theorem dX2_minuteOf_79 : decode cX2_minuteOf 79 = .ok (.invokevirtual 72, 3) := by decide +kernel
theorem dX2_minuteOf_82 : decode cX2_minuteOf 82 = .ok (.iastore, 1) := by decide +kernel
theorem dX2_minuteOf_83 : decode cX2_minuteOf 83 = .ok (.aload_n 0, 1) := by decide +kernel
theorem dX2_minuteOf_84 : decode cX2_minuteOf 84 = .ok (.getfield 15, 3) := by decide +kernel
theorem dX2_minuteOf_87 : decode cX2_minuteOf 87 = .ok (.iload_n 1, 1) := by decide +kernel
theorem dX2_minuteOf_88 : decode cX2_minuteOf 88 = .ok (.iconst 2, 1) := by decide +kernel
theorem dX2_minuteOf_89 : decode cX2_minuteOf 89 = .ok (.iastore, 1) := by decide +kernel
theorem dX2_minuteOf_90 : decode cX2_minuteOf 90 = .ok (.iconst 0, 1) := by decide +kernel
theorem dX2_minuteOf_91 : decode cX2_minuteOf 91 = .ok (.ireturn, 1) := by decide +kernel
theorem dX2_minuteOf_92 : decode cX2_minuteOf 92 = .ok (.aload_n 2, 1) := by decide +kernel
theorem dX2_minuteOf_93 : decode cX2_minuteOf 93 = .ok (.aload_n 0, 1) := by decide +kernel
theorem dX2_minuteOf_94 : decode cX2_minuteOf 94 = .ok (.getfield 18, 3) := by decide +kernel
theorem dX2_minuteOf_97 : decode cX2_minuteOf 97 = .ok (.iload_n 1, 1) := by decide +kernel
theorem dX2_minuteOf_98 : decode cX2_minuteOf 98 = .ok (.iaload, 1) := by decide +kernel
theorem dX2_minuteOf_99 : decode cX2_minuteOf 99 = .ok (.iload 5, 2) := by decide +kernel
theorem dX2_minuteOf_101 : decode cX2_minuteOf 101 = .ok (.aload_n 0, 1) := by decide +kernel
theorem dX2_minuteOf_102 : decode cX2_minuteOf 102 = .ok (.getfield 21, 3) := by decide +kernel
theorem dX2_minuteOf_105 : decode cX2_minuteOf 105 = .ok (.iload_n 1, 1) := by decide +kernel
theorem dX2_minuteOf_106 : decode cX2_minuteOf 106 = .ok (.iaload, 1) := by decide +kernel
theorem dX2_minuteOf_107 : decode cX2_minuteOf 107 = .ok (.invokevirtual 76, 3) := by decide +kernel
theorem dX2_minuteOf_110 : decode cX2_minuteOf 110 = .ok (.aload_n 0, 1) := by decide +kernel
theorem dX2_minuteOf_111 : decode cX2_minuteOf 111 = .ok (.getfield 15, 3) := by decide +kernel
theorem dX2_minuteOf_114 : decode cX2_minuteOf 114 = .ok (.iload_n 1, 1) := by decide +kernel
theorem dX2_minuteOf_115 : decode cX2_minuteOf 115 = .ok (.iconst 0, 1) := by decide +kernel
theorem dX2_minuteOf_116 : decode cX2_minuteOf 116 = .ok (.iastore, 1) := by decide +kernel
theorem dX2_minuteOf_117 : decode cX2_minuteOf 117 = .ok (.iconst 1, 1) := by decide +kernel
theorem dX2_minuteOf_118 : decode cX2_minuteOf 118 = .ok (.ireturn, 1) := by decide +kernel
theorem dX2_begin_0 : decode cX2_begin 0 = .ok (.aload_n 0, 1) := by decide +kernel
theorem dX2_begin_1 : decode cX2_begin 1 = .ok (.aload_n 0, 1) := by decide +kernel
theorem dX2_begin_2 : decode cX2_begin 2 = .ok (.getfield 28, 3) := by decide +kernel
theorem dX2_begin_5 : decode cX2_begin 5 = .ok (.getfield 80, 3) := by decide +kernel
theorem dX2_begin_8 : decode cX2_begin 8 = .ok (.invokevirtual 58, 3) := by decide +kernel
theorem dX2_begin_11 : decode cX2_begin 11 = .ok (.istore 4, 2) := by decide +kernel
theorem dX2_begin_13 : decode cX2_begin 13 = .ok (.aload_n 0, 1) := by decide +kernel
theorem dX2_begin_14 : decode cX2_begin 14 = .ok (.getfield 28, 3) := by decide +kernel
theorem dX2_begin_17 : decode cX2_begin 17 = .ok (.iload 4, 2) := by decide +kernel
theorem dX2_begin_19 : decode cX2_begin 19 = .ok (.invokevirtual 44, 3) := by decide +kernel
theorem dX2_begin_22 : decode cX2_begin 22 = .ok (.istore 5, 2) := by decide +kernel
theorem dX2_begin_24 : decode cX2_begin 24 = .ok (.iload 5, 2) := by decide +kernel
theorem dX2_begin_26 : decode cX2_begin 26 = .ok (.aload_n 0, 1) := by decide +kernel
theorem dX2_begin_27 : decode cX2_begin 27 = .ok (.iload 5, 2) := by decide +kernel
theorem dX2_begin_29 : decode cX2_begin 29 = .ok (.invokestatic 82, 3) := by decide +kernel
theorem dX2_begin_32 : decode cX2_begin 32 = .ok (.invokevirtual 58, 3) := by decide +kernel
theorem dX2_begin_35 : decode cX2_begin 35 = .ok (.invokestatic 85, 3) := by decide +kernel
theorem dX2_begin_38 : decode cX2_begin 38 = .ok (.istore 6, 2) := by decide +kernel
theorem dX2_begin_40 : decode cX2_begin 40 = .ok (.iload 5, 2) := by decide +kernel
theorem dX2_begin_42 : decode cX2_begin 42 = .ok (.iload 6, 2) := by decide +kernel
theorem dX2_begin_44 : decode cX2_begin 44 = .ok (.invokestatic 89, 3) := by decide +kernel
theorem dX2_begin_47 : decode cX2_begin 47 = .ok (.ifCond .eq 12, 3) := by decide +kernel
theorem dX2_begin_50 : decode cX2_begin 50 = .ok (.aload_n 0, 1) := by decide +kernel
theorem dX2_begin_51 : decode cX2_begin 51 = .ok (.bipush 10, 2) := by decide +kernel
theorem dX2_begin_53 : decode cX2_begin 53 = .ok (.invokevirtual 58, 3) := by decide +kernel
theorem dX2_begin_56 : decode cX2_begin 56 = .ok (.goto 4, 3) := by decide +kernel
theorem dX2_begin_59 : decode cX2_begin 59 = .ok (.iconst 0, 1) := by decide +kernel
theorem dX2_begin_60 : decode cX2_begin 60 = .ok (.istore 7, 2) := by decide +kernel
theorem dX2_begin_62 : decode cX2_begin 62 = .ok (.aload_n 1, 1) := by decide +kernel
theorem dX2_begin_63 : decode cX2_begin 63 = .ok (.iload_n 2, 1) := by decide +kernel
theorem dX2_begin_64 : decode cX2_begin 64 = .ok (.iload 4, 2) := by decide +kernel
theorem dX2_begin_66 : decode cX2_begin 66 = .ok (.iload 6, 2) := by decide +kernel
theorem dX2_begin_68 : decode cX2_begin 68 = .ok (.iload 7, 2) := by decide +kernel
theorem dX2_begin_70 : decode cX2_begin 70 = .ok (.iload_n 3, 1) := by decide +kernel
theorem dX2_begin_71 : decode cX2_begin 71 = .ok (.invokevirtual 93, 3) := by decide +kernel
theorem dX2_begin_74 : decode cX2_begin 74 = .ok (.ireturn, 1) := by decide +kernel
theorem dX2_act_0 : decode cX2_act 0 = .ok (.iload_n 3, 1) := by decide +kernel
theorem dX2_act_1 : decode cX2_act 1 = .ok (.iconst 2, 1) := by decide +kernel
theorem dX2_act_2 : decode cX2_act 2 = .ok (.if_icmp .ne 10, 3) := by decide +kernel
theorem dX2_act_5 : decode cX2_act 5 = .ok (.aload_n 0, 1) := by decide +kernel
theorem dX2_act_6 : decode cX2_act 6 = .ok (.aload_n 1, 1) := by decide +kernel
theorem dX2_act_7 : decode cX2_act 7 = .ok (.iload_n 2, 1) := by decide +kernel
theorem dX2_act_8 : decode cX2_act 8 = .ok (.invokevirtual 97, 3) := by decide +kernel
theorem dX2_act_11 : decode cX2_act 11 = .ok (.ireturn, 1) := by decide +kernel
theorem dX2_act_12 : decode cX2_act 12 = .ok (.iload_n 3, 1) := by decide +kernel
theorem dX2_act_13 : decode cX2_act 13 = .ok (.ifCond .ne 11, 3) := by decide +kernel
theorem dX2_act_16 : decode cX2_act 16 = .ok (.aload_n 0, 1) := by decide +kernel
theorem dX2_act_17 : decode cX2_act 17 = .ok (.iconst 0, 1) := by decide +kernel
theorem dX2_act_18 : decode cX2_act 18 = .ok (.aload_n 1, 1) := by decide +kernel
theorem dX2_act_19 : decode cX2_act 19 = .ok (.iload_n 2, 1) := by decide +kernel
theorem dX2_act_20 : decode cX2_act 20 = .ok (.invokevirtual 101, 3) := by decide +kernel
theorem dX2_act_23 : decode cX2_act 23 = .ok (.ireturn, 1) := by decide +kernel
theorem dX2_act_24 : decode cX2_act 24 = .ok (.aload_n 1, 1) := by decide +kernel
theorem dX2_act_25 : decode cX2_act 25 = .ok (.iload_n 2, 1) := by decide +kernel
theorem dX2_act_26 : decode cX2_act 26 = .ok (.invokevirtual 105, 3) := by decide +kernel
theorem dX2_act_29 : decode cX2_act 29 = .ok (.iconst 2, 1) := by decide +kernel
theorem dX2_act_30 : decode cX2_act 30 = .ok (.if_icmp .ne 14, 3) := by decide +kernel
theorem dX2_act_33 : decode cX2_act 33 = .ok (.aload_n 0, 1) := by decide +kernel
theorem dX2_act_34 : decode cX2_act 34 = .ok (.iconst 1, 1) := by decide +kernel
theorem dX2_act_35 : decode cX2_act 35 = .ok (.iload 4, 2) := by decide +kernel
theorem dX2_act_37 : decode cX2_act 37 = .ok (.iadd, 1) := by decide +kernel
theorem dX2_act_38 : decode cX2_act 38 = .ok (.aload_n 1, 1) := by decide +kernel
theorem dX2_act_39 : decode cX2_act 39 = .ok (.iload_n 2, 1) := by decide +kernel
theorem dX2_act_40 : decode cX2_act 40 = .ok (.invokevirtual 101, 3) := by decide +kernel
theorem dX2_act_43 : decode cX2_act 43 = .ok (.ireturn, 1) := by decide +kernel
theorem dX2_act_44 : decode cX2_act 44 = .ok (.aload_n 0, 1) := by decide +kernel
theorem dX2_act_45 : decode cX2_act 45 = .ok (.iconst 0, 1) := by decide +kernel
theorem dX2_act_46 : decode cX2_act 46 = .ok (.aload_n 1, 1) := by decide +kernel
theorem dX2_act_47 : decode cX2_act 47 = .ok (.iload_n 2, 1) := by decide +kernel
theorem dX2_act_48 : decode cX2_act 48 = .ok (.invokevirtual 101, 3) := by decide +kernel
theorem dX2_act_51 : decode cX2_act 51 = .ok (.istore 5, 2) := by decide +kernel
theorem dX2_act_53 : decode cX2_act 53 = .ok (.aload_n 0, 1) := by decide +kernel
theorem dX2_act_54 : decode cX2_act 54 = .ok (.getfield 11, 3) := by decide +kernel
theorem dX2_act_57 : decode cX2_act 57 = .ok (.iconst 0, 1) := by decide +kernel
theorem dX2_act_58 : decode cX2_act 58 = .ok (.aload_n 0, 1) := by decide +kernel
theorem dX2_act_59 : decode cX2_act 59 = .ok (.getfield 11, 3) := by decide +kernel
theorem dX2_act_62 : decode cX2_act 62 = .ok (.iconst 1, 1) := by decide +kernel
theorem dX2_act_63 : decode cX2_act 63 = .ok (.iload 4, 2) := by decide +kernel
theorem dX2_act_65 : decode cX2_act 65 = .ok (.iadd, 1) := by decide +kernel
theorem dX2_act_66 : decode cX2_act 66 = .ok (.iconst 3, 1) := by decide +kernel
theorem dX2_act_67 : decode cX2_act 67 = .ok (.imul, 1) := by decide +kernel
theorem dX2_act_68 : decode cX2_act 68 = .ok (.iconst 3, 1) := by decide +kernel
theorem dX2_act_69 : decode cX2_act 69 = .ok (.invokestatic 108, 3) := by decide +kernel
theorem dX2_act_72 : decode cX2_act 72 = .ok (.iload 5, 2) := by decide +kernel
theorem dX2_act_74 : decode cX2_act 74 = .ok (.ireturn, 1) := by decide +kernel
theorem dX2_actOnTwo_0 : decode cX2_actOnTwo 0 = .ok (.aload_n 0, 1) := by decide +kernel
theorem dX2_actOnTwo_1 : decode cX2_actOnTwo 1 = .ok (.iconst 3, 1) := by decide +kernel
theorem dX2_actOnTwo_2 : decode cX2_actOnTwo 2 = .ok (.invokevirtual 58, 3) := by decide +kernel
theorem dX2_actOnTwo_5 : decode cX2_actOnTwo 5 = .ok (.istore_n 3, 1) := by decide +kernel
theorem dX2_actOnTwo_6 : decode cX2_actOnTwo 6 = .ok (.iload_n 3, 1) := by decide +kernel
theorem dX2_actOnTwo_7 : decode cX2_actOnTwo 7 = .ok (.ifCond .ne 7, 3) := by decide +kernel
theorem dX2_actOnTwo_10 : decode cX2_actOnTwo 10 = .ok (.iconst 1, 1) := by decide +kernel
theorem dX2_actOnTwo_11 : decode cX2_actOnTwo 11 = .ok (.goto 4, 3) := by decide +kernel
theorem dX2_actOnTwo_14 : decode cX2_actOnTwo 14 = .ok (.iconst 0, 1) := by decide +kernel
theorem dX2_actOnTwo_15 : decode cX2_actOnTwo 15 = .ok (.istore 4, 2) := by decide +kernel
theorem dX2_actOnTwo_17 : decode cX2_actOnTwo 17 = .ok (.iload_n 3, 1) := by decide +kernel
theorem dX2_actOnTwo_18 : decode cX2_actOnTwo 18 = .ok (.iconst 2, 1) := by decide +kernel
theorem dX2_actOnTwo_19 : decode cX2_actOnTwo 19 = .ok (.if_icmp .ne 7, 3) := by decide +kernel
theorem dX2_actOnTwo_22 : decode cX2_actOnTwo 22 = .ok (.iconst 1, 1) := by decide +kernel
theorem dX2_actOnTwo_23 : decode cX2_actOnTwo 23 = .ok (.goto 4, 3) := by decide +kernel
theorem dX2_actOnTwo_26 : decode cX2_actOnTwo 26 = .ok (.iconst 2, 1) := by decide +kernel
theorem dX2_actOnTwo_27 : decode cX2_actOnTwo 27 = .ok (.istore 5, 2) := by decide +kernel
theorem dX2_actOnTwo_29 : decode cX2_actOnTwo 29 = .ok (.aload_n 0, 1) := by decide +kernel
theorem dX2_actOnTwo_30 : decode cX2_actOnTwo 30 = .ok (.iload 4, 2) := by decide +kernel
theorem dX2_actOnTwo_32 : decode cX2_actOnTwo 32 = .ok (.aload_n 1, 1) := by decide +kernel
theorem dX2_actOnTwo_33 : decode cX2_actOnTwo 33 = .ok (.iload_n 2, 1) := by decide +kernel
theorem dX2_actOnTwo_34 : decode cX2_actOnTwo 34 = .ok (.invokevirtual 101, 3) := by decide +kernel
theorem dX2_actOnTwo_37 : decode cX2_actOnTwo 37 = .ok (.istore 6, 2) := by decide +kernel
theorem dX2_actOnTwo_39 : decode cX2_actOnTwo 39 = .ok (.aload_n 1, 1) := by decide +kernel
theorem dX2_actOnTwo_40 : decode cX2_actOnTwo 40 = .ok (.iload_n 2, 1) := by decide +kernel
theorem dX2_actOnTwo_41 : decode cX2_actOnTwo 41 = .ok (.invokevirtual 105, 3) := by decide +kernel
theorem dX2_actOnTwo_44 : decode cX2_actOnTwo 44 = .ok (.iconst 2, 1) := by decide +kernel
theorem dX2_actOnTwo_45 : decode cX2_actOnTwo 45 = .ok (.if_icmp .eq 12, 3) := by decide +kernel
theorem dX2_actOnTwo_48 : decode cX2_actOnTwo 48 = .ok (.aload_n 0, 1) := by decide +kernel
theorem dX2_actOnTwo_49 : decode cX2_actOnTwo 49 = .ok (.iload 5, 2) := by decide +kernel
theorem dX2_actOnTwo_51 : decode cX2_actOnTwo 51 = .ok (.aload_n 1, 1) := by decide +kernel
theorem dX2_actOnTwo_52 : decode cX2_actOnTwo 52 = .ok (.iload_n 2, 1) := by decide +kernel
theorem dX2_actOnTwo_53 : decode cX2_actOnTwo 53 = .ok (.invokevirtual 101, 3) := by decide +kernel
theorem dX2_actOnTwo_56 : decode cX2_actOnTwo 56 = .ok (.pop, 1) := by decide +kernel
theorem dX2_actOnTwo_57 : decode cX2_actOnTwo 57 = .ok (.iload 6, 2) := by decide +kernel
theorem dX2_actOnTwo_59 : decode cX2_actOnTwo 59 = .ok (.ireturn, 1) := by decide +kernel
theorem dX2_actOn_0 : decode cX2_actOn 0 = .ok (.aload_n 2, 1) := by decide +kernel
theorem dX2_actOn_1 : decode cX2_actOn 1 = .ok (.iload_n 3, 1) := by decide +kernel
theorem dX2_actOn_2 : decode cX2_actOn 2 = .ok (.invokevirtual 114, 3) := by decide +kernel
theorem dX2_actOn_5 : decode cX2_actOn 5 = .ok (.istore 4, 2) := by decide +kernel
theorem dX2_actOn_7 : decode cX2_actOn 7 = .ok (.iload_n 1, 1) := by decide +kernel
theorem dX2_actOn_8 : decode cX2_actOn 8 = .ok (.iconst 3, 1) := by decide +kernel
theorem dX2_actOn_9 : decode cX2_actOn 9 = .ok (.imul, 1) := by decide +kernel
theorem dX2_actOn_10 : decode cX2_actOn 10 = .ok (.iload 4, 2) := by decide +kernel
theorem dX2_actOn_12 : decode cX2_actOn 12 = .ok (.iadd, 1) := by decide +kernel
theorem dX2_actOn_13 : decode cX2_actOn 13 = .ok (.istore 5, 2) := by decide +kernel
theorem dX2_actOn_15 : decode cX2_actOn 15 = .ok (.iload 5, 2) := by decide +kernel
theorem dX2_actOn_17 : decode cX2_actOn 17 = .ok (.ifCond .lt 13, 3) := by decide +kernel
theorem dX2_actOn_20 : decode cX2_actOn 20 = .ok (.iload 5, 2) := by decide +kernel
theorem dX2_actOn_22 : decode cX2_actOn 22 = .ok (.aload_n 0, 1) := by decide +kernel
theorem dX2_actOn_23 : decode cX2_actOn 23 = .ok (.getfield 11, 3) := by decide +kernel
theorem dX2_actOn_26 : decode cX2_actOn 26 = .ok (.arraylength, 1) := by decide +kernel
theorem dX2_actOn_27 : decode cX2_actOn 27 = .ok (.if_icmp .lt 5, 3) := by decide +kernel
theorem dX2_actOn_30 : decode cX2_actOn 30 = .ok (.iconst 0, 1) := by decide +kernel
theorem dX2_actOn_31 : decode cX2_actOn 31 = .ok (.ireturn, 1) := by decide +kernel
theorem dX2_actOn_32 : decode cX2_actOn 32 = .ok (.aload_n 0, 1) := by decide +kernel
theorem dX2_actOn_33 : decode cX2_actOn 33 = .ok (.getfield 28, 3) := by decide +kernel
theorem dX2_actOn_36 : decode cX2_actOn 36 = .ok (.iload 4, 2) := by decide +kernel
theorem dX2_actOn_38 : decode cX2_actOn 38 = .ok (.invokevirtual 44, 3) := by decide +kernel
theorem dX2_actOn_41 : decode cX2_actOn 41 = .ok (.istore 6, 2) := by decide +kernel
theorem dX2_actOn_43 : decode cX2_actOn 43 = .ok (.aload_n 0, 1) := by decide +kernel
theorem dX2_actOn_44 : decode cX2_actOn 44 = .ok (.getfield 11, 3) := by decide +kernel
theorem dX2_actOn_47 : decode cX2_actOn 47 = .ok (.iload 5, 2) := by decide +kernel
theorem dX2_actOn_49 : decode cX2_actOn 49 = .ok (.iaload, 1) := by decide +kernel
theorem dX2_actOn_50 : decode cX2_actOn 50 = .ok (.istore 7, 2) := by decide +kernel
theorem dX2_actOn_52 : decode cX2_actOn 52 = .ok (.aload_n 0, 1) := by decide +kernel
theorem dX2_actOn_53 : decode cX2_actOn 53 = .ok (.getfield 11, 3) := by decide +kernel
theorem dX2_actOn_56 : decode cX2_actOn 56 = .ok (.iload 5, 2) := by decide +kernel
theorem dX2_actOn_58 : decode cX2_actOn 58 = .ok (.iload 6, 2) := by decide +kernel
theorem dX2_actOn_60 : decode cX2_actOn 60 = .ok (.iload 7, 2) := by decide +kernel
theorem dX2_actOn_62 : decode cX2_actOn 62 = .ok (.aload_n 2, 1) := by decide +kernel
theorem dX2_actOn_63 : decode cX2_actOn 63 = .ok (.iload_n 3, 1) := by decide +kernel
theorem dX2_actOn_64 : decode cX2_actOn 64 = .ok (.invokevirtual 105, 3) := by decide +kernel
theorem dX2_actOn_67 : decode cX2_actOn 67 = .ok (.aload_n 2, 1) := by decide +kernel
theorem dX2_actOn_68 : decode cX2_actOn 68 = .ok (.iload_n 3, 1) := by decide +kernel
theorem dX2_actOn_69 : decode cX2_actOn 69 = .ok (.invokevirtual 117, 3) := by decide +kernel
theorem dX2_actOn_72 : decode cX2_actOn 72 = .ok (.invokestatic 120, 3) := by decide +kernel
theorem dX2_actOn_75 : decode cX2_actOn 75 = .ok (.iastore, 1) := by decide +kernel
theorem dX2_actOn_76 : decode cX2_actOn 76 = .ok (.iload 6, 2) := by decide +kernel
theorem dX2_actOn_78 : decode cX2_actOn 78 = .ok (.iload 7, 2) := by decide +kernel
theorem dX2_actOn_80 : decode cX2_actOn 80 = .ok (.aload_n 2, 1) := by decide +kernel
theorem dX2_actOn_81 : decode cX2_actOn 81 = .ok (.iload_n 3, 1) := by decide +kernel
theorem dX2_actOn_82 : decode cX2_actOn 82 = .ok (.invokevirtual 105, 3) := by decide +kernel
theorem dX2_actOn_85 : decode cX2_actOn 85 = .ok (.aload_n 2, 1) := by decide +kernel
theorem dX2_actOn_86 : decode cX2_actOn 86 = .ok (.iload_n 3, 1) := by decide +kernel
theorem dX2_actOn_87 : decode cX2_actOn 87 = .ok (.invokevirtual 117, 3) := by decide +kernel
theorem dX2_actOn_90 : decode cX2_actOn 90 = .ok (.invokestatic 124, 3) := by decide +kernel
theorem dX2_actOn_93 : decode cX2_actOn 93 = .ok (.ireturn, 1) := by decide +kernel
theorem dJ6_bitCount_0f7a4_0 : decode cJ6_bitCount_0f7a4 0 = .ok (.iload_n 0, 1) := by decide +kernel
theorem dJ6_bitCount_0f7a4_1 : decode cJ6_bitCount_0f7a4 1 = .ok (.iload_n 0, 1) := by decide +kernel
theorem dJ6_bitCount_0f7a4_2 : decode cJ6_bitCount_0f7a4 2 = .ok (.iconst 1, 1) := by decide +kernel
theorem dJ6_bitCount_0f7a4_3 : decode cJ6_bitCount_0f7a4 3 = .ok (.iushr, 1) := by decide +kernel
theorem dJ6_bitCount_0f7a4_4 : decode cJ6_bitCount_0f7a4 4 = .ok (.ldc_w 265, 3) := by decide +kernel
theorem dJ6_bitCount_0f7a4_7 : decode cJ6_bitCount_0f7a4 7 = .ok (.iand, 1) := by decide +kernel
theorem dJ6_bitCount_0f7a4_8 : decode cJ6_bitCount_0f7a4 8 = .ok (.isub, 1) := by decide +kernel
theorem dJ6_bitCount_0f7a4_9 : decode cJ6_bitCount_0f7a4 9 = .ok (.istore_n 0, 1) := by decide +kernel
theorem dJ6_bitCount_0f7a4_10 : decode cJ6_bitCount_0f7a4 10 = .ok (.iload_n 0, 1) := by decide +kernel
theorem dJ6_bitCount_0f7a4_11 : decode cJ6_bitCount_0f7a4 11 = .ok (.ldc_w 266, 3) := by decide +kernel
theorem dJ6_bitCount_0f7a4_14 : decode cJ6_bitCount_0f7a4 14 = .ok (.iand, 1) := by decide +kernel
theorem dJ6_bitCount_0f7a4_15 : decode cJ6_bitCount_0f7a4 15 = .ok (.iload_n 0, 1) := by decide +kernel
theorem dJ6_bitCount_0f7a4_16 : decode cJ6_bitCount_0f7a4 16 = .ok (.iconst 2, 1) := by decide +kernel
theorem dJ6_bitCount_0f7a4_17 : decode cJ6_bitCount_0f7a4 17 = .ok (.iushr, 1) := by decide +kernel
theorem dJ6_bitCount_0f7a4_18 : decode cJ6_bitCount_0f7a4 18 = .ok (.ldc_w 266, 3) := by decide +kernel
theorem dJ6_bitCount_0f7a4_21 : decode cJ6_bitCount_0f7a4 21 = .ok (.iand, 1) := by decide +kernel
theorem dJ6_bitCount_0f7a4_22 : decode cJ6_bitCount_0f7a4 22 = .ok (.iadd, 1) := by decide +kernel
theorem dJ6_bitCount_0f7a4_23 : decode cJ6_bitCount_0f7a4 23 = .ok (.istore_n 0, 1) := by decide +kernel
theorem dJ6_bitCount_0f7a4_24 : decode cJ6_bitCount_0f7a4 24 = .ok (.iload_n 0, 1) := by decide +kernel
theorem dJ6_bitCount_0f7a4_25 : decode cJ6_bitCount_0f7a4 25 = .ok (.iload_n 0, 1) := by decide +kernel
theorem dJ6_bitCount_0f7a4_26 : decode cJ6_bitCount_0f7a4 26 = .ok (.iconst 4, 1) := by decide +kernel
theorem dJ6_bitCount_0f7a4_27 : decode cJ6_bitCount_0f7a4 27 = .ok (.iushr, 1) := by decide +kernel
theorem dJ6_bitCount_0f7a4_28 : decode cJ6_bitCount_0f7a4 28 = .ok (.iadd, 1) := by decide +kernel
theorem dJ6_bitCount_0f7a4_29 : decode cJ6_bitCount_0f7a4 29 = .ok (.ldc_w 267, 3) := by decide +kernel
theorem dJ6_bitCount_0f7a4_32 : decode cJ6_bitCount_0f7a4 32 = .ok (.iand, 1) := by decide +kernel
theorem dJ6_bitCount_0f7a4_33 : decode cJ6_bitCount_0f7a4 33 = .ok (.istore_n 0, 1) := by decide +kernel
theorem dJ6_bitCount_0f7a4_34 : decode cJ6_bitCount_0f7a4 34 = .ok (.iload_n 0, 1) := by decide +kernel
theorem dJ6_bitCount_0f7a4_35 : decode cJ6_bitCount_0f7a4 35 = .ok (.iload_n 0, 1) := by decide +kernel
theorem dJ6_bitCount_0f7a4_36 : decode cJ6_bitCount_0f7a4 36 = .ok (.bipush 8, 2) := by decide +kernel
theorem dJ6_bitCount_0f7a4_38 : decode cJ6_bitCount_0f7a4 38 = .ok (.iushr, 1) := by decide +kernel
theorem dJ6_bitCount_0f7a4_39 : decode cJ6_bitCount_0f7a4 39 = .ok (.iadd, 1) := by decide +kernel
theorem dJ6_bitCount_0f7a4_40 : decode cJ6_bitCount_0f7a4 40 = .ok (.istore_n 0, 1) := by decide +kernel
theorem dJ6_bitCount_0f7a4_41 : decode cJ6_bitCount_0f7a4 41 = .ok (.iload_n 0, 1) := by decide +kernel
theorem dJ6_bitCount_0f7a4_42 : decode cJ6_bitCount_0f7a4 42 = .ok (.iload_n 0, 1) := by decide +kernel
theorem dJ6_bitCount_0f7a4_43 : decode cJ6_bitCount_0f7a4 43 = .ok (.bipush 16, 2) := by decide +kernel
theorem dJ6_bitCount_0f7a4_45 : decode cJ6_bitCount_0f7a4 45 = .ok (.iushr, 1) := by decide +kernel
theorem dJ6_bitCount_0f7a4_46 : decode cJ6_bitCount_0f7a4 46 = .ok (.iadd, 1) := by decide +kernel
theorem dJ6_bitCount_0f7a4_47 : decode cJ6_bitCount_0f7a4 47 = .ok (.istore_n 0, 1) := by decide +kernel
theorem dJ6_bitCount_0f7a4_48 : decode cJ6_bitCount_0f7a4 48 = .ok (.iload_n 0, 1) := by decide +kernel
theorem dJ6_bitCount_0f7a4_49 : decode cJ6_bitCount_0f7a4 49 = .ok (.bipush 63, 2) := by decide +kernel
theorem dJ6_bitCount_0f7a4_51 : decode cJ6_bitCount_0f7a4 51 = .ok (.iand, 1) := by decide +kernel
theorem dJ6_bitCount_0f7a4_52 : decode cJ6_bitCount_0f7a4 52 = .ok (.ireturn, 1) := by decide +kernel
theorem dJ9_min_7cf53_0 : decode cJ9_min_7cf53 0 = .ok (.iload_n 0, 1) := by decide +kernel
theorem dJ9_min_7cf53_1 : decode cJ9_min_7cf53 1 = .ok (.iload_n 1, 1) := by decide +kernel
theorem dJ9_min_7cf53_2 : decode cJ9_min_7cf53 2 = .ok (.if_icmp .gt 7, 3) := by decide +kernel
theorem dJ9_min_7cf53_5 : decode cJ9_min_7cf53 5 = .ok (.iload_n 0, 1) := by decide +kernel
theorem dJ9_min_7cf53_6 : decode cJ9_min_7cf53 6 = .ok (.goto 4, 3) := by decide +kernel
theorem dJ9_min_7cf53_9 : decode cJ9_min_7cf53 9 = .ok (.iload_n 1, 1) := by decide +kernel
theorem dJ9_min_7cf53_10 : decode cJ9_min_7cf53 10 = .ok (.ireturn, 1) := by decide +kernel
theorem dJ9_min_f86c9_0 : decode cJ9_min_f86c9 0 = .ok (.lload_n 0, 1) := by decide +kernel
theorem dJ9_min_f86c9_1 : decode cJ9_min_f86c9 1 = .ok (.lload_n 2, 1) := by decide +kernel
theorem dJ9_min_f86c9_2 : decode cJ9_min_f86c9 2 = .ok (.lcmp, 1) := by decide +kernel
theorem dJ9_min_f86c9_3 : decode cJ9_min_f86c9 3 = .ok (.ifCond .gt 7, 3) := by decide +kernel
theorem dJ9_min_f86c9_6 : decode cJ9_min_f86c9 6 = .ok (.lload_n 0, 1) := by decide +kernel
theorem dJ9_min_f86c9_7 : decode cJ9_min_f86c9 7 = .ok (.goto 4, 3) := by decide +kernel
theorem dJ9_min_f86c9_10 : decode cJ9_min_f86c9 10 = .ok (.lload_n 2, 1) := by decide +kernel
theorem dJ9_min_f86c9_11 : decode cJ9_min_f86c9 11 = .ok (.lreturn, 1) := by decide +kernel
theorem dJ0_length_8abf5_0 : decode cJ0_length_8abf5 0 = .ok (.aload_n 0, 1) := by decide +kernel
theorem dJ0_length_8abf5_1 : decode cJ0_length_8abf5 1 = .ok (.getfield 9, 3) := by decide +kernel
theorem dJ0_length_8abf5_4 : decode cJ0_length_8abf5 4 = .ok (.arraylength, 1) := by decide +kernel
theorem dJ0_length_8abf5_5 : decode cJ0_length_8abf5 5 = .ok (.aload_n 0, 1) := by decide +kernel
theorem dJ0_length_8abf5_6 : decode cJ0_length_8abf5 6 = .ok (.invokevirtual 335, 3) := by decide +kernel
theorem dJ0_length_8abf5_9 : decode cJ0_length_8abf5 9 = .ok (.ishr, 1) := by decide +kernel
theorem dJ0_length_8abf5_10 : decode cJ0_length_8abf5 10 = .ok (.ireturn, 1) := by decide +kernel
theorem dJ0_charAt_5068e_0 : decode cJ0_charAt_5068e 0 = .ok (.aload_n 0, 1) := by decide +kernel
theorem dJ0_charAt_5068e_1 : decode cJ0_charAt_5068e 1 = .ok (.invokevirtual 492, 3) := by decide +kernel
theorem dJ0_charAt_5068e_4 : decode cJ0_charAt_5068e 4 = .ok (.ifCond .eq 12, 3) := by decide +kernel
theorem dJ0_charAt_5068e_7 : decode cJ0_charAt_5068e 7 = .ok (.aload_n 0, 1) := by decide +kernel
theorem dJ0_charAt_5068e_8 : decode cJ0_charAt_5068e 8 = .ok (.getfield 9, 3) := by decide +kernel
theorem dJ0_charAt_5068e_11 : decode cJ0_charAt_5068e 11 = .ok (.iload_n 1, 1) := by decide +kernel
theorem dJ0_charAt_5068e_12 : decode cJ0_charAt_5068e 12 = .ok (.invokestatic 495, 3) := by decide +kernel
theorem dJ0_charAt_5068e_15 : decode cJ0_charAt_5068e 15 = .ok (.ireturn, 1) := by decide +kernel
theorem dJ0_charAt_5068e_16 : decode cJ0_charAt_5068e 16 = .ok (.aload_n 0, 1) := by decide +kernel
theorem dJ0_charAt_5068e_17 : decode cJ0_charAt_5068e 17 = .ok (.getfield 9, 3) := by decide +kernel
theorem dJ0_charAt_5068e_20 : decode cJ0_charAt_5068e 20 = .ok (.iload_n 1, 1) := by decide +kernel
theorem dJ0_charAt_5068e_21 : decode cJ0_charAt_5068e 21 = .ok (.invokestatic 498, 3) := by decide +kernel
theorem dJ0_charAt_5068e_24 : decode cJ0_charAt_5068e 24 = .ok (.ireturn, 1) := by decide +kernel
theorem dJ0_coder_7d493_0 : decode cJ0_coder_7d493 0 = .ok (.getstatic 38, 3) := by decide +kernel
theorem dJ0_coder_7d493_3 : decode cJ0_coder_7d493 3 = .ok (.ifCond .eq 10, 3) := by decide +kernel
theorem dJ0_coder_7d493_6 : decode cJ0_coder_7d493 6 = .ok (.aload_n 0, 1) := by decide +kernel
theorem dJ0_coder_7d493_7 : decode cJ0_coder_7d493 7 = .ok (.getfield 15, 3) := by decide +kernel
theorem dJ0_coder_7d493_10 : decode cJ0_coder_7d493 10 = .ok (.goto 4, 3) := by decide +kernel
theorem dJ0_coder_7d493_13 : decode cJ0_coder_7d493 13 = .ok (.iconst 1, 1) := by decide +kernel
theorem dJ0_coder_7d493_14 : decode cJ0_coder_7d493 14 = .ok (.ireturn, 1) := by decide +kernel
theorem dJ0_isLatin1_aae02_0 : decode cJ0_isLatin1_aae02 0 = .ok (.getstatic 38, 3) := by decide +kernel
theorem dJ0_isLatin1_aae02_3 : decode cJ0_isLatin1_aae02 3 = .ok (.ifCond .eq 14, 3) := by decide +kernel
theorem dJ0_isLatin1_aae02_6 : decode cJ0_isLatin1_aae02 6 = .ok (.aload_n 0, 1) := by decide +kernel
theorem dJ0_isLatin1_aae02_7 : decode cJ0_isLatin1_aae02 7 = .ok (.getfield 15, 3) := by decide +kernel
theorem dJ0_isLatin1_aae02_10 : decode cJ0_isLatin1_aae02 10 = .ok (.ifCond .ne 7, 3) := by decide +kernel
theorem dJ0_isLatin1_aae02_13 : decode cJ0_isLatin1_aae02 13 = .ok (.iconst 1, 1) := by decide +kernel
theorem dJ0_isLatin1_aae02_14 : decode cJ0_isLatin1_aae02 14 = .ok (.goto 4, 3) := by decide +kernel
theorem dJ0_isLatin1_aae02_17 : decode cJ0_isLatin1_aae02 17 = .ok (.iconst 0, 1) := by decide +kernel
theorem dJ0_isLatin1_aae02_18 : decode cJ0_isLatin1_aae02 18 = .ok (.ireturn, 1) := by decide +kernel
theorem dJ0_checkIndex_df160_0 : decode cJ0_checkIndex_df160 0 = .ok (.iload_n 0, 1) := by decide +kernel
theorem dJ0_checkIndex_df160_1 : decode cJ0_checkIndex_df160 1 = .ok (.iload_n 1, 1) := by decide +kernel
theorem dJ0_checkIndex_df160_2 : decode cJ0_checkIndex_df160 2 = .ok (.getstatic 1053, 3) := by decide +kernel
theorem dJ0_checkIndex_df160_5 : decode cJ0_checkIndex_df160 5 = .ok (.invokestatic 1059, 3) := by decide +kernel
theorem dJ0_checkIndex_df160_8 : decode cJ0_checkIndex_df160 8 = .ok (.pop, 1) := by decide +kernel
theorem dJ0_checkIndex_df160_9 : decode cJ0_checkIndex_df160 9 = .ok (.return_, 1) := by decide +kernel
theorem dJ1_charAt_3b067_0 : decode cJ1_charAt_3b067 0 = .ok (.iload_n 1, 1) := by decide +kernel
theorem dJ1_charAt_3b067_1 : decode cJ1_charAt_3b067 1 = .ok (.aload_n 0, 1) := by decide +kernel
theorem dJ1_charAt_3b067_2 : decode cJ1_charAt_3b067 2 = .ok (.arraylength, 1) := by decide +kernel
theorem dJ1_charAt_3b067_3 : decode cJ1_charAt_3b067 3 = .ok (.invokestatic 9, 3) := by decide +kernel
theorem dJ1_charAt_3b067_6 : decode cJ1_charAt_3b067 6 = .ok (.aload_n 0, 1) := by decide +kernel
theorem dJ1_charAt_3b067_7 : decode cJ1_charAt_3b067 7 = .ok (.iload_n 1, 1) := by decide +kernel
theorem dJ1_charAt_3b067_8 : decode cJ1_charAt_3b067 8 = .ok (.baload, 1) := by decide +kernel
theorem dJ1_charAt_3b067_9 : decode cJ1_charAt_3b067 9 = .ok (.sipush 255, 3) := by decide +kernel
theorem dJ1_charAt_3b067_12 : decode cJ1_charAt_3b067 12 = .ok (.iand, 1) := by decide +kernel
theorem dJ1_charAt_3b067_13 : decode cJ1_charAt_3b067 13 = .ok (.i2c, 1) := by decide +kernel
theorem dJ1_charAt_3b067_14 : decode cJ1_charAt_3b067 14 = .ok (.ireturn, 1) := by decide +kernel
theorem dJ2_getChar_3b067_0 : decode cJ2_getChar_3b067 0 = .ok (.getstatic 44, 3) := by decide +kernel
theorem dJ2_getChar_3b067_3 : decode cJ2_getChar_3b067 3 = .ok (.ifCond .ne 25, 3) := by decide +kernel
theorem dJ2_getChar_3b067_6 : decode cJ2_getChar_3b067 6 = .ok (.iload_n 1, 1) := by decide +kernel
theorem dJ2_getChar_3b067_7 : decode cJ2_getChar_3b067 7 = .ok (.ifCond .lt 11, 3) := by decide +kernel
theorem dJ2_getChar_3b067_10 : decode cJ2_getChar_3b067 10 = .ok (.iload_n 1, 1) := by decide +kernel
theorem dJ2_getChar_3b067_11 : decode cJ2_getChar_3b067 11 = .ok (.aload_n 0, 1) := by decide +kernel
theorem dJ2_getChar_3b067_12 : decode cJ2_getChar_3b067 12 = .ok (.invokestatic 48, 3) := by decide +kernel
theorem dJ2_getChar_3b067_15 : decode cJ2_getChar_3b067 15 = .ok (.if_icmp .lt 13, 3) := by decide +kernel
theorem dJ2_getChar_3b067_18 : decode cJ2_getChar_3b067 18 = .ok (.new 52, 3) := by decide +kernel
theorem dJ2_getChar_3b067_21 : decode cJ2_getChar_3b067 21 = .ok (.dup, 1) := by decide +kernel
theorem dJ2_getChar_3b067_22 : decode cJ2_getChar_3b067 22 = .ok (.ldc 54, 2) := by decide +kernel
theorem dJ2_getChar_3b067_24 : decode cJ2_getChar_3b067 24 = .ok (.invokespecial 56, 3) := by decide +kernel
theorem dJ2_getChar_3b067_27 : decode cJ2_getChar_3b067 27 = .ok (.athrow, 1) := by decide +kernel
theorem dJ2_getChar_3b067_28 : decode cJ2_getChar_3b067 28 = .ok (.iload_n 1, 1) := by decide +kernel
theorem dJ2_getChar_3b067_29 : decode cJ2_getChar_3b067 29 = .ok (.iconst 1, 1) := by decide +kernel
theorem dJ2_getChar_3b067_30 : decode cJ2_getChar_3b067 30 = .ok (.ishl, 1) := by decide +kernel
theorem dJ2_getChar_3b067_31 : decode cJ2_getChar_3b067 31 = .ok (.istore_n 1, 1) := by decide +kernel
theorem dJ2_getChar_3b067_32 : decode cJ2_getChar_3b067 32 = .ok (.aload_n 0, 1) := by decide +kernel
theorem dJ2_getChar_3b067_33 : decode cJ2_getChar_3b067 33 = .ok (.iload_n 1, 1) := by decide +kernel
theorem dJ2_getChar_3b067_34 : decode cJ2_getChar_3b067 34 = .ok (.iinc 1 1, 3) := by decide +kernel
theorem dJ2_getChar_3b067_37 : decode cJ2_getChar_3b067 37 = .ok (.baload, 1) := by decide +kernel
theorem dJ2_getChar_3b067_38 : decode cJ2_getChar_3b067 38 = .ok (.sipush 255, 3) := by decide +kernel
theorem dJ2_getChar_3b067_41 : decode cJ2_getChar_3b067 41 = .ok (.iand, 1) := by decide +kernel
theorem dJ2_getChar_3b067_42 : decode cJ2_getChar_3b067 42 = .ok (.getstatic 59, 3) := by decide +kernel
theorem dJ2_getChar_3b067_45 : decode cJ2_getChar_3b067 45 = .ok (.ishl, 1) := by decide +kernel
theorem dJ2_getChar_3b067_46 : decode cJ2_getChar_3b067 46 = .ok (.aload_n 0, 1) := by decide +kernel
theorem dJ2_getChar_3b067_47 : decode cJ2_getChar_3b067 47 = .ok (.iload_n 1, 1) := by decide +kernel
theorem dJ2_getChar_3b067_48 : decode cJ2_getChar_3b067 48 = .ok (.baload, 1) := by decide +kernel
theorem dJ2_getChar_3b067_49 : decode cJ2_getChar_3b067 49 = .ok (.sipush 255, 3) := by decide +kernel
theorem dJ2_getChar_3b067_52 : decode cJ2_getChar_3b067 52 = .ok (.iand, 1) := by decide +kernel
theorem dJ2_getChar_3b067_53 : decode cJ2_getChar_3b067 53 = .ok (.getstatic 63, 3) := by decide +kernel
theorem dJ2_getChar_3b067_56 : decode cJ2_getChar_3b067 56 = .ok (.ishl, 1) := by decide +kernel
theorem dJ2_getChar_3b067_57 : decode cJ2_getChar_3b067 57 = .ok (.ior, 1) := by decide +kernel
theorem dJ2_getChar_3b067_58 : decode cJ2_getChar_3b067 58 = .ok (.i2c, 1) := by decide +kernel
theorem dJ2_getChar_3b067_59 : decode cJ2_getChar_3b067 59 = .ok (.ireturn, 1) := by decide +kernel
theorem dJ2_length_9d52b_0 : decode cJ2_length_9d52b 0 = .ok (.aload_n 0, 1) := by decide +kernel
theorem dJ2_length_9d52b_1 : decode cJ2_length_9d52b 1 = .ok (.arraylength, 1) := by decide +kernel
theorem dJ2_length_9d52b_2 : decode cJ2_length_9d52b 2 = .ok (.iconst 1, 1) := by decide +kernel
theorem dJ2_length_9d52b_3 : decode cJ2_length_9d52b 3 = .ok (.ishr, 1) := by decide +kernel
theorem dJ2_length_9d52b_4 : decode cJ2_length_9d52b 4 = .ok (.ireturn, 1) := by decide +kernel
theorem dJ2_charAt_3b067_0 : decode cJ2_charAt_3b067 0 = .ok (.iload_n 1, 1) := by decide +kernel
theorem dJ2_charAt_3b067_1 : decode cJ2_charAt_3b067 1 = .ok (.aload_n 0, 1) := by decide +kernel
theorem dJ2_charAt_3b067_2 : decode cJ2_charAt_3b067 2 = .ok (.invokestatic 67, 3) := by decide +kernel
theorem dJ2_charAt_3b067_5 : decode cJ2_charAt_3b067 5 = .ok (.aload_n 0, 1) := by decide +kernel
theorem dJ2_charAt_3b067_6 : decode cJ2_charAt_3b067 6 = .ok (.iload_n 1, 1) := by decide +kernel
theorem dJ2_charAt_3b067_7 : decode cJ2_charAt_3b067 7 = .ok (.invokestatic 71, 3) := by decide +kernel
theorem dJ2_charAt_3b067_10 : decode cJ2_charAt_3b067 10 = .ok (.ireturn, 1) := by decide +kernel
theorem dJ2_checkIndex_2214a_0 : decode cJ2_checkIndex_2214a 0 = .ok (.iload_n 0, 1) := by decide +kernel
theorem dJ2_checkIndex_2214a_1 : decode cJ2_checkIndex_2214a 1 = .ok (.aload_n 1, 1) := by decide +kernel
theorem dJ2_checkIndex_2214a_2 : decode cJ2_checkIndex_2214a 2 = .ok (.invokestatic 48, 3) := by decide +kernel
theorem dJ2_checkIndex_2214a_5 : decode cJ2_checkIndex_2214a 5 = .ok (.invokestatic 414, 3) := by decide +kernel
theorem dJ2_checkIndex_2214a_8 : decode cJ2_checkIndex_2214a 8 = .ok (.return_, 1) := by decide +kernel
theorem dJ7_fill_d0a16_0 : decode cJ7_fill_d0a16 0 = .ok (.iconst 0, 1) := by decide +kernel
theorem dJ7_fill_d0a16_1 : decode cJ7_fill_d0a16 1 = .ok (.istore_n 3, 1) := by decide +kernel
theorem dJ7_fill_d0a16_2 : decode cJ7_fill_d0a16 2 = .ok (.aload_n 0, 1) := by decide +kernel
theorem dJ7_fill_d0a16_3 : decode cJ7_fill_d0a16 3 = .ok (.arraylength, 1) := by decide +kernel
theorem dJ7_fill_d0a16_4 : decode cJ7_fill_d0a16 4 = .ok (.istore 4, 2) := by decide +kernel
theorem dJ7_fill_d0a16_6 : decode cJ7_fill_d0a16 6 = .ok (.iload_n 3, 1) := by decide +kernel
theorem dJ7_fill_d0a16_7 : decode cJ7_fill_d0a16 7 = .ok (.iload 4, 2) := by decide +kernel
theorem dJ7_fill_d0a16_9 : decode cJ7_fill_d0a16 9 = .ok (.if_icmp .ge 13, 3) := by decide +kernel
theorem dJ7_fill_d0a16_12 : decode cJ7_fill_d0a16 12 = .ok (.aload_n 0, 1) := by decide +kernel
theorem dJ7_fill_d0a16_13 : decode cJ7_fill_d0a16 13 = .ok (.iload_n 3, 1) := by decide +kernel
theorem dJ7_fill_d0a16_14 : decode cJ7_fill_d0a16 14 = .ok (.lload_n 1, 1) := by decide +kernel
theorem dJ7_fill_d0a16_15 : decode cJ7_fill_d0a16 15 = .ok (.lastore, 1) := by decide +kernel
theorem dJ7_fill_d0a16_16 : decode cJ7_fill_d0a16 16 = .ok (.iinc 3 1, 3) := by decide +kernel
theorem dJ7_fill_d0a16_19 : decode cJ7_fill_d0a16 19 = .ok (.goto (-13), 3) := by decide +kernel
theorem dJ7_fill_d0a16_22 : decode cJ7_fill_d0a16 22 = .ok (.return_, 1) := by decide +kernel
theorem dJ7_fill_53178_0 : decode cJ7_fill_53178 0 = .ok (.iconst 0, 1) := by decide +kernel
theorem dJ7_fill_53178_1 : decode cJ7_fill_53178 1 = .ok (.istore_n 2, 1) := by decide +kernel
theorem dJ7_fill_53178_2 : decode cJ7_fill_53178 2 = .ok (.aload_n 0, 1) := by decide +kernel
theorem dJ7_fill_53178_3 : decode cJ7_fill_53178 3 = .ok (.arraylength, 1) := by decide +kernel
theorem dJ7_fill_53178_4 : decode cJ7_fill_53178 4 = .ok (.istore_n 3, 1) := by decide +kernel
theorem dJ7_fill_53178_5 : decode cJ7_fill_53178 5 = .ok (.iload_n 2, 1) := by decide +kernel
theorem dJ7_fill_53178_6 : decode cJ7_fill_53178 6 = .ok (.iload_n 3, 1) := by decide +kernel
theorem dJ7_fill_53178_7 : decode cJ7_fill_53178 7 = .ok (.if_icmp .ge 13, 3) := by decide +kernel
theorem dJ7_fill_53178_10 : decode cJ7_fill_53178 10 = .ok (.aload_n 0, 1) := by decide +kernel
theorem dJ7_fill_53178_11 : decode cJ7_fill_53178 11 = .ok (.iload_n 2, 1) := by decide +kernel
theorem dJ7_fill_53178_12 : decode cJ7_fill_53178 12 = .ok (.iload_n 1, 1) := by decide +kernel
theorem dJ7_fill_53178_13 : decode cJ7_fill_53178 13 = .ok (.iastore, 1) := by decide +kernel
theorem dJ7_fill_53178_14 : decode cJ7_fill_53178 14 = .ok (.iinc 2 1, 3) := by decide +kernel
theorem dJ7_fill_53178_17 : decode cJ7_fill_53178 17 = .ok (.goto (-12), 3) := by decide +kernel
theorem dJ7_fill_53178_20 : decode cJ7_fill_53178 20 = .ok (.return_, 1) := by decide +kernel
theorem dJ3_checkIndex_8e157_0 : decode cJ3_checkIndex_8e157 0 = .ok (.iload_n 0, 1) := by decide +kernel
theorem dJ3_checkIndex_8e157_1 : decode cJ3_checkIndex_8e157 1 = .ok (.ifCond .lt 8, 3) := by decide +kernel
theorem dJ3_checkIndex_8e157_4 : decode cJ3_checkIndex_8e157 4 = .ok (.iload_n 0, 1) := by decide +kernel
theorem dJ3_checkIndex_8e157_5 : decode cJ3_checkIndex_8e157 5 = .ok (.iload_n 1, 1) := by decide +kernel
theorem dJ3_checkIndex_8e157_6 : decode cJ3_checkIndex_8e157 6 = .ok (.if_icmp .lt 10, 3) := by decide +kernel
theorem dJ3_checkIndex_8e157_9 : decode cJ3_checkIndex_8e157 9 = .ok (.aload_n 2, 1) := by decide +kernel
theorem dJ3_checkIndex_8e157_10 : decode cJ3_checkIndex_8e157 10 = .ok (.iload_n 0, 1) := by decide +kernel
theorem dJ3_checkIndex_8e157_11 : decode cJ3_checkIndex_8e157 11 = .ok (.iload_n 1, 1) := by decide +kernel
theorem dJ3_checkIndex_8e157_12 : decode cJ3_checkIndex_8e157 12 = .ok (.invokestatic 95, 3) := by decide +kernel
theorem dJ3_checkIndex_8e157_15 : decode cJ3_checkIndex_8e157 15 = .ok (.athrow, 1) := by decide +kernel
theorem dJ3_checkIndex_8e157_16 : decode cJ3_checkIndex_8e157 16 = .ok (.iload_n 0, 1) := by decide +kernel
theorem dJ3_checkIndex_8e157_17 : decode cJ3_checkIndex_8e157 17 = .ok (.ireturn, 1) := by decide +kernel
