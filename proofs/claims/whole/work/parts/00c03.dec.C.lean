theorem dX3_init_0 : decode cX3_init 0 = .ok (.aload_n 0, 1) := by decide +kernel
theorem dX3_init_1 : decode cX3_init 1 = .ok (.invokespecial 3, 3) := by decide +kernel
theorem dX3_init_4 : decode cX3_init 4 = .ok (.aload_n 0, 1) := by decide +kernel
theorem dX3_init_5 : decode cX3_init 5 = .ok (.new 9, 3) := by decide +kernel
theorem dX3_init_8 : decode cX3_init 8 = .ok (.dup, 1) := by decide +kernel
theorem dX3_init_9 : decode cX3_init 9 = .ok (.invokespecial 11, 3) := by decide +kernel
theorem dX3_init_12 : decode cX3_init 12 = .ok (.putfield 12, 3) := by decide +kernel
theorem dX3_init_15 : decode cX3_init 15 = .ok (.aload_n 0, 1) := by decide +kernel
theorem dX3_init_16 : decode cX3_init 16 = .ok (.new 18, 3) := by decide +kernel
theorem dX3_init_19 : decode cX3_init 19 = .ok (.dup, 1) := by decide +kernel
theorem dX3_init_20 : decode cX3_init 20 = .ok (.invokespecial 20, 3) := by decide +kernel
theorem dX3_init_23 : decode cX3_init 23 = .ok (.putfield 21, 3) := by decide +kernel
theorem dX3_init_26 : decode cX3_init 26 = .ok (.aload_n 0, 1) := by decide +kernel
theorem dX3_init_27 : decode cX3_init 27 = .ok (.new 25, 3) := by decide +kernel
theorem dX3_init_30 : decode cX3_init 30 = .ok (.dup, 1) := by decide +kernel
theorem dX3_init_31 : decode cX3_init 31 = .ok (.invokespecial 27, 3) := by decide +kernel
theorem dX3_init_34 : decode cX3_init 34 = .ok (.putfield 28, 3) := by decide +kernel
theorem dX3_init_37 : decode cX3_init 37 = .ok (.aload_n 0, 1) := by decide +kernel
theorem dX3_init_38 : decode cX3_init 38 = .ok (.iconst 3, 1) := by decide +kernel
theorem dX3_init_39 : decode cX3_init 39 = .ok (.newarray .long, 2) := by decide +kernel
theorem dX3_init_41 : decode cX3_init 41 = .ok (.putfield 32, 3) := by decide +kernel
theorem dX3_init_44 : decode cX3_init 44 = .ok (.aload_n 0, 1) := by decide +kernel
theorem dX3_init_45 : decode cX3_init 45 = .ok (.iconst 4, 1) := by decide +kernel
theorem dX3_init_46 : decode cX3_init 46 = .ok (.newarray .long, 2) := by decide +kernel
theorem dX3_init_48 : decode cX3_init 48 = .ok (.putfield 36, 3) := by decide +kernel
theorem dX3_init_51 : decode cX3_init 51 = .ok (.aload_n 0, 1) := by decide +kernel
theorem dX3_init_52 : decode cX3_init 52 = .ok (.iconst 0, 1) := by decide +kernel
theorem dX3_init_53 : decode cX3_init 53 = .ok (.putfield 39, 3) := by decide +kernel
theorem dX3_init_56 : decode cX3_init 56 = .ok (.aload_n 0, 1) := by decide +kernel
theorem dX3_init_57 : decode cX3_init 57 = .ok (.iconst 0, 1) := by decide +kernel
theorem dX3_init_58 : decode cX3_init 58 = .ok (.putfield 43, 3) := by decide +kernel
theorem dX3_init_61 : decode cX3_init 61 = .ok (.aload_n 0, 1) := by decide +kernel
theorem dX3_init_62 : decode cX3_init 62 = .ok (.iconst (-1), 1) := by decide +kernel
theorem dX3_init_63 : decode cX3_init 63 = .ok (.putfield 47, 3) := by decide +kernel
theorem dX3_init_66 : decode cX3_init 66 = .ok (.aload_n 0, 1) := by decide +kernel
theorem dX3_init_67 : decode cX3_init 67 = .ok (.iconst 0, 1) := by decide +kernel
theorem dX3_init_68 : decode cX3_init 68 = .ok (.putfield 50, 3) := by decide +kernel
theorem dX3_init_71 : decode cX3_init 71 = .ok (.aload_n 0, 1) := by decide +kernel
theorem dX3_init_72 : decode cX3_init 72 = .ok (.iconst 0, 1) := by decide +kernel
theorem dX3_init_73 : decode cX3_init 73 = .ok (.putfield 53, 3) := by decide +kernel
theorem dX3_init_76 : decode cX3_init 76 = .ok (.aload_n 0, 1) := by decide +kernel
theorem dX3_init_77 : decode cX3_init 77 = .ok (.iconst 0, 1) := by decide +kernel
theorem dX3_init_78 : decode cX3_init 78 = .ok (.putfield 56, 3) := by decide +kernel
theorem dX3_init_81 : decode cX3_init 81 = .ok (.aload_n 0, 1) := by decide +kernel
theorem dX3_init_82 : decode cX3_init 82 = .ok (.iconst 0, 1) := by decide +kernel
theorem dX3_init_83 : decode cX3_init 83 = .ok (.putfield 59, 3) := by decide +kernel
theorem dX3_init_86 : decode cX3_init 86 = .ok (.return_, 1) := by decide +kernel
theorem dX3_read_0 : decode cX3_read 0 = .ok (.aload_n 0, 1) := by decide +kernel
theorem dX3_read_1 : decode cX3_read 1 = .ok (.getfield 21, 3) := by decide +kernel
theorem dX3_read_4 : decode cX3_read 4 = .ok (.invokevirtual 62, 3) := by decide +kernel
theorem dX3_read_7 : decode cX3_read 7 = .ok (.aload_n 0, 1) := by decide +kernel
theorem dX3_read_8 : decode cX3_read 8 = .ok (.getfield 28, 3) := by decide +kernel
theorem dX3_read_11 : decode cX3_read 11 = .ok (.invokevirtual 65, 3) := by decide +kernel
theorem dX3_read_14 : decode cX3_read 14 = .ok (.aload_n 0, 1) := by decide +kernel
theorem dX3_read_15 : decode cX3_read 15 = .ok (.iconst 0, 1) := by decide +kernel
theorem dX3_read_16 : decode cX3_read 16 = .ok (.putfield 39, 3) := by decide +kernel
theorem dX3_read_19 : decode cX3_read 19 = .ok (.aload_n 0, 1) := by decide +kernel
theorem dX3_read_20 : decode cX3_read 20 = .ok (.iconst 0, 1) := by decide +kernel
theorem dX3_read_21 : decode cX3_read 21 = .ok (.putfield 43, 3) := by decide +kernel
theorem dX3_read_24 : decode cX3_read 24 = .ok (.aload_n 0, 1) := by decide +kernel
theorem dX3_read_25 : decode cX3_read 25 = .ok (.iconst (-1), 1) := by decide +kernel
theorem dX3_read_26 : decode cX3_read 26 = .ok (.putfield 47, 3) := by decide +kernel
theorem dX3_read_29 : decode cX3_read 29 = .ok (.aload_n 0, 1) := by decide +kernel
theorem dX3_read_30 : decode cX3_read 30 = .ok (.getfield 12, 3) := by decide +kernel
theorem dX3_read_33 : decode cX3_read 33 = .ok (.iload_n 1, 1) := by decide +kernel
theorem dX3_read_34 : decode cX3_read 34 = .ok (.invokevirtual 66, 3) := by decide +kernel
theorem dX3_read_37 : decode cX3_read 37 = .ok (.iconst 0, 1) := by decide +kernel
theorem dX3_read_38 : decode cX3_read 38 = .ok (.istore_n 2, 1) := by decide +kernel
theorem dX3_read_39 : decode cX3_read 39 = .ok (.iload_n 2, 1) := by decide +kernel
theorem dX3_read_40 : decode cX3_read 40 = .ok (.iload_n 1, 1) := by decide +kernel
theorem dX3_read_41 : decode cX3_read 41 = .ok (.if_icmp .gt 41, 3) := by decide +kernel
theorem dX3_read_44 : decode cX3_read 44 = .ok (.aload_n 0, 1) := by decide +kernel
theorem dX3_read_45 : decode cX3_read 45 = .ok (.invokevirtual 70, 3) := by decide +kernel
theorem dX3_read_48 : decode cX3_read 48 = .ok (.ifCond .ne 5, 3) := by decide +kernel
theorem dX3_read_51 : decode cX3_read 51 = .ok (.iconst 0, 1) := by decide +kernel
theorem dX3_read_52 : decode cX3_read 52 = .ok (.ireturn, 1) := by decide +kernel
theorem dX3_read_53 : decode cX3_read 53 = .ok (.aload_n 0, 1) := by decide +kernel
theorem dX3_read_54 : decode cX3_read 54 = .ok (.getfield 12, 3) := by decide +kernel
theorem dX3_read_57 : decode cX3_read 57 = .ok (.getfield 74, 3) := by decide +kernel
theorem dX3_read_60 : decode cX3_read 60 = .ok (.iconst 3, 1) := by decide +kernel
theorem dX3_read_61 : decode cX3_read 61 = .ok (.if_icmp .eq 8, 3) := by decide +kernel
theorem dX3_read_64 : decode cX3_read 64 = .ok (.aload_n 0, 1) := by decide +kernel
theorem dX3_read_65 : decode cX3_read 65 = .ok (.invokevirtual 77, 3) := by decide +kernel
theorem dX3_read_68 : decode cX3_read 68 = .ok (.ireturn, 1) := by decide +kernel
theorem dX3_read_69 : decode cX3_read 69 = .ok (.aload_n 0, 1) := by decide +kernel
theorem dX3_read_70 : decode cX3_read 70 = .ok (.getfield 12, 3) := by decide +kernel
theorem dX3_read_73 : decode cX3_read 73 = .ok (.invokevirtual 80, 3) := by decide +kernel
theorem dX3_read_76 : decode cX3_read 76 = .ok (.iinc 2 1, 3) := by decide +kernel
theorem dX3_read_79 : decode cX3_read 79 = .ok (.goto (-40), 3) := by decide +kernel
theorem dX3_read_82 : decode cX3_read 82 = .ok (.aload_n 0, 1) := by decide +kernel
theorem dX3_read_83 : decode cX3_read 83 = .ok (.iconst 1, 1) := by decide +kernel
theorem dX3_read_84 : decode cX3_read 84 = .ok (.invokevirtual 83, 3) := by decide +kernel
theorem dX3_read_87 : decode cX3_read 87 = .ok (.ireturn, 1) := by decide +kernel
theorem dX3_mayEnd_0 : decode cX3_mayEnd 0 = .ok (.aload_n 0, 1) := by decide +kernel
theorem dX3_mayEnd_1 : decode cX3_mayEnd 1 = .ok (.getfield 12, 3) := by decide +kernel
theorem dX3_mayEnd_4 : decode cX3_mayEnd 4 = .ok (.getfield 74, 3) := by decide +kernel
theorem dX3_mayEnd_7 : decode cX3_mayEnd 7 = .ok (.ifCond .eq 9, 3) := by decide +kernel
theorem dX3_mayEnd_10 : decode cX3_mayEnd 10 = .ok (.aload_n 0, 1) := by decide +kernel
theorem dX3_mayEnd_11 : decode cX3_mayEnd 11 = .ok (.iconst 1, 1) := by decide +kernel
theorem dX3_mayEnd_12 : decode cX3_mayEnd 12 = .ok (.invokevirtual 83, 3) := by decide +kernel
theorem dX3_mayEnd_15 : decode cX3_mayEnd 15 = .ok (.ireturn, 1) := by decide +kernel
theorem dX3_mayEnd_16 : decode cX3_mayEnd 16 = .ok (.aload_n 0, 1) := by decide +kernel
theorem dX3_mayEnd_17 : decode cX3_mayEnd 17 = .ok (.getfield 39, 3) := by decide +kernel
theorem dX3_mayEnd_20 : decode cX3_mayEnd 20 = .ok (.ifCond .eq 23, 3) := by decide +kernel
theorem dX3_mayEnd_23 : decode cX3_mayEnd 23 = .ok (.aload_n 0, 1) := by decide +kernel
theorem dX3_mayEnd_24 : decode cX3_mayEnd 24 = .ok (.getfield 21, 3) := by decide +kernel
theorem dX3_mayEnd_27 : decode cX3_mayEnd 27 = .ok (.getfield 87, 3) := by decide +kernel
theorem dX3_mayEnd_30 : decode cX3_mayEnd 30 = .ok (.ifCond .eq 13, 3) := by decide +kernel
theorem dX3_mayEnd_33 : decode cX3_mayEnd 33 = .ok (.aload_n 0, 1) := by decide +kernel
theorem dX3_mayEnd_34 : decode cX3_mayEnd 34 = .ok (.getfield 21, 3) := by decide +kernel
theorem dX3_mayEnd_37 : decode cX3_mayEnd 37 = .ok (.getfield 90, 3) := by decide +kernel
theorem dX3_mayEnd_40 : decode cX3_mayEnd 40 = .ok (.ifCond .ne 10, 3) := by decide +kernel
theorem dX3_mayEnd_43 : decode cX3_mayEnd 43 = .ok (.aload_n 0, 1) := by decide +kernel
theorem dX3_mayEnd_44 : decode cX3_mayEnd 44 = .ok (.bipush 6, 2) := by decide +kernel
theorem dX3_mayEnd_46 : decode cX3_mayEnd 46 = .ok (.invokevirtual 83, 3) := by decide +kernel
theorem dX3_mayEnd_49 : decode cX3_mayEnd 49 = .ok (.ireturn, 1) := by decide +kernel
theorem dX3_mayEnd_50 : decode cX3_mayEnd 50 = .ok (.aload_n 0, 1) := by decide +kernel
theorem dX3_mayEnd_51 : decode cX3_mayEnd 51 = .ok (.getfield 21, 3) := by decide +kernel
theorem dX3_mayEnd_54 : decode cX3_mayEnd 54 = .ok (.iconst 1, 1) := by decide +kernel
theorem dX3_mayEnd_55 : decode cX3_mayEnd 55 = .ok (.putfield 93, 3) := by decide +kernel
theorem dX3_mayEnd_58 : decode cX3_mayEnd 58 = .ok (.iconst 1, 1) := by decide +kernel
theorem dX3_mayEnd_59 : decode cX3_mayEnd 59 = .ok (.ireturn, 1) := by decide +kernel
theorem dX3_faulty_0 : decode cX3_faulty 0 = .ok (.aload_n 0, 1) := by decide +kernel
theorem dX3_faulty_1 : decode cX3_faulty 1 = .ok (.iload_n 1, 1) := by decide +kernel
theorem dX3_faulty_2 : decode cX3_faulty 2 = .ok (.putfield 43, 3) := by decide +kernel
theorem dX3_faulty_5 : decode cX3_faulty 5 = .ok (.aload_n 0, 1) := by decide +kernel
theorem dX3_faulty_6 : decode cX3_faulty 6 = .ok (.aload_n 0, 1) := by decide +kernel
theorem dX3_faulty_7 : decode cX3_faulty 7 = .ok (.getfield 12, 3) := by decide +kernel
theorem dX3_faulty_10 : decode cX3_faulty 10 = .ok (.getfield 96, 3) := by decide +kernel
theorem dX3_faulty_13 : decode cX3_faulty 13 = .ok (.putfield 47, 3) := by decide +kernel
theorem dX3_faulty_16 : decode cX3_faulty 16 = .ok (.iconst 0, 1) := by decide +kernel
theorem dX3_faulty_17 : decode cX3_faulty 17 = .ok (.ireturn, 1) := by decide +kernel
theorem dX3_line_0 : decode cX3_line 0 = .ok (.aload_n 0, 1) := by decide +kernel
theorem dX3_line_1 : decode cX3_line 1 = .ok (.getfield 12, 3) := by decide +kernel
theorem dX3_line_4 : decode cX3_line 4 = .ok (.ldc 97, 2) := by decide +kernel
theorem dX3_line_6 : decode cX3_line 6 = .ok (.invokevirtual 99, 3) := by decide +kernel
theorem dX3_line_9 : decode cX3_line 9 = .ok (.ifCond .eq 8, 3) := by decide +kernel
theorem dX3_line_12 : decode cX3_line 12 = .ok (.aload_n 0, 1) := by decide +kernel
theorem dX3_line_13 : decode cX3_line 13 = .ok (.invokevirtual 103, 3) := by decide +kernel
theorem dX3_line_16 : decode cX3_line 16 = .ok (.ireturn, 1) := by decide +kernel
theorem dX3_line_17 : decode cX3_line 17 = .ok (.aload_n 0, 1) := by decide +kernel
theorem dX3_line_18 : decode cX3_line 18 = .ok (.getfield 12, 3) := by decide +kernel
theorem dX3_line_21 : decode cX3_line 21 = .ok (.ldc 106, 2) := by decide +kernel
theorem dX3_line_23 : decode cX3_line 23 = .ok (.invokevirtual 99, 3) := by decide +kernel
theorem dX3_line_26 : decode cX3_line 26 = .ok (.ifCond .eq 8, 3) := by decide +kernel
theorem dX3_line_29 : decode cX3_line 29 = .ok (.aload_n 0, 1) := by decide +kernel
theorem dX3_line_30 : decode cX3_line 30 = .ok (.invokevirtual 107, 3) := by decide +kernel
theorem dX3_line_33 : decode cX3_line 33 = .ok (.ireturn, 1) := by decide +kernel
theorem dX3_line_34 : decode cX3_line 34 = .ok (.aload_n 0, 1) := by decide +kernel
theorem dX3_line_35 : decode cX3_line 35 = .ok (.getfield 12, 3) := by decide +kernel
theorem dX3_line_38 : decode cX3_line 38 = .ok (.ldc 110, 2) := by decide +kernel
theorem dX3_line_40 : decode cX3_line 40 = .ok (.invokevirtual 99, 3) := by decide +kernel
theorem dX3_line_43 : decode cX3_line 43 = .ok (.ifCond .eq 8, 3) := by decide +kernel
theorem dX3_line_46 : decode cX3_line 46 = .ok (.aload_n 0, 1) := by decide +kernel
theorem dX3_line_47 : decode cX3_line 47 = .ok (.invokevirtual 111, 3) := by decide +kernel
theorem dX3_line_50 : decode cX3_line 50 = .ok (.ireturn, 1) := by decide +kernel
theorem dX3_line_51 : decode cX3_line 51 = .ok (.aload_n 0, 1) := by decide +kernel
theorem dX3_line_52 : decode cX3_line 52 = .ok (.getfield 12, 3) := by decide +kernel
theorem dX3_line_55 : decode cX3_line 55 = .ok (.ldc 114, 2) := by decide +kernel
theorem dX3_line_57 : decode cX3_line 57 = .ok (.invokevirtual 99, 3) := by decide +kernel
theorem dX3_line_60 : decode cX3_line 60 = .ok (.ifCond .eq 8, 3) := by decide +kernel
theorem dX3_line_63 : decode cX3_line 63 = .ok (.aload_n 0, 1) := by decide +kernel
theorem dX3_line_64 : decode cX3_line 64 = .ok (.invokevirtual 116, 3) := by decide +kernel
theorem dX3_line_67 : decode cX3_line 67 = .ok (.ireturn, 1) := by decide +kernel
theorem dX3_line_68 : decode cX3_line 68 = .ok (.aload_n 0, 1) := by decide +kernel
theorem dX3_line_69 : decode cX3_line 69 = .ok (.iconst 1, 1) := by decide +kernel
theorem dX3_line_70 : decode cX3_line 70 = .ok (.invokevirtual 83, 3) := by decide +kernel
theorem dX3_line_73 : decode cX3_line 73 = .ok (.ireturn, 1) := by decide +kernel
theorem dX3_mustBe_0 : decode cX3_mustBe 0 = .ok (.aload_n 0, 1) := by decide +kernel
theorem dX3_mustBe_1 : decode cX3_mustBe 1 = .ok (.getfield 12, 3) := by decide +kernel
theorem dX3_mustBe_4 : decode cX3_mustBe 4 = .ok (.aload_n 1, 1) := by decide +kernel
theorem dX3_mustBe_5 : decode cX3_mustBe 5 = .ok (.invokevirtual 99, 3) := by decide +kernel
theorem dX3_mustBe_8 : decode cX3_mustBe 8 = .ok (.ifCond .ne 9, 3) := by decide +kernel
theorem dX3_mustBe_11 : decode cX3_mustBe 11 = .ok (.aload_n 0, 1) := by decide +kernel
theorem dX3_mustBe_12 : decode cX3_mustBe 12 = .ok (.iconst 1, 1) := by decide +kernel
theorem dX3_mustBe_13 : decode cX3_mustBe 13 = .ok (.invokevirtual 83, 3) := by decide +kernel
theorem dX3_mustBe_16 : decode cX3_mustBe 16 = .ok (.ireturn, 1) := by decide +kernel
theorem dX3_mustBe_17 : decode cX3_mustBe 17 = .ok (.aload_n 0, 1) := by decide +kernel
theorem dX3_mustBe_18 : decode cX3_mustBe 18 = .ok (.getfield 12, 3) := by decide +kernel
theorem dX3_mustBe_21 : decode cX3_mustBe 21 = .ok (.invokevirtual 80, 3) := by decide +kernel
theorem dX3_mustBe_24 : decode cX3_mustBe 24 = .ok (.iconst 1, 1) := by decide +kernel
theorem dX3_mustBe_25 : decode cX3_mustBe 25 = .ok (.ireturn, 1) := by decide +kernel
theorem dX3_mustBeWhole_0 : decode cX3_mustBeWhole 0 = .ok (.aload_n 0, 1) := by decide +kernel
theorem dX3_mustBeWhole_1 : decode cX3_mustBeWhole 1 = .ok (.getfield 12, 3) := by decide +kernel
theorem dX3_mustBeWhole_4 : decode cX3_mustBeWhole 4 = .ok (.getfield 74, 3) := by decide +kernel
theorem dX3_mustBeWhole_7 : decode cX3_mustBeWhole 7 = .ok (.iconst 2, 1) := by decide +kernel
theorem dX3_mustBeWhole_8 : decode cX3_mustBeWhole 8 = .ok (.if_icmp .eq 9, 3) := by decide +kernel
theorem dX3_mustBeWhole_11 : decode cX3_mustBeWhole 11 = .ok (.aload_n 0, 1) := by decide +kernel
theorem dX3_mustBeWhole_12 : decode cX3_mustBeWhole 12 = .ok (.iconst 1, 1) := by decide +kernel
theorem dX3_mustBeWhole_13 : decode cX3_mustBeWhole 13 = .ok (.invokevirtual 83, 3) := by decide +kernel
theorem dX3_mustBeWhole_16 : decode cX3_mustBeWhole 16 = .ok (.ireturn, 1) := by decide +kernel
theorem dX3_mustBeWhole_17 : decode cX3_mustBeWhole 17 = .ok (.aload_n 0, 1) := by decide +kernel
theorem dX3_mustBeWhole_18 : decode cX3_mustBeWhole 18 = .ok (.getfield 12, 3) := by decide +kernel
theorem dX3_mustBeWhole_21 : decode cX3_mustBeWhole 21 = .ok (.getfield 119, 3) := by decide +kernel
theorem dX3_mustBeWhole_24 : decode cX3_mustBeWhole 24 = .ok (.iload_n 1, 1) := by decide +kernel
theorem dX3_mustBeWhole_25 : decode cX3_mustBeWhole 25 = .ok (.if_icmp .lt 14, 3) := by decide +kernel
theorem dX3_mustBeWhole_28 : decode cX3_mustBeWhole 28 = .ok (.aload_n 0, 1) := by decide +kernel
theorem dX3_mustBeWhole_29 : decode cX3_mustBeWhole 29 = .ok (.getfield 12, 3) := by decide +kernel
theorem dX3_mustBeWhole_32 : decode cX3_mustBeWhole 32 = .ok (.getfield 119, 3) := by decide +kernel
theorem dX3_mustBeWhole_35 : decode cX3_mustBeWhole 35 = .ok (.iload_n 2, 1) := by decide +kernel
theorem dX3_mustBeWhole_36 : decode cX3_mustBeWhole 36 = .ok (.if_icmp .le 11, 3) := by decide +kernel
theorem dX3_mustBeWhole_39 : decode cX3_mustBeWhole 39 = .ok (.aload_n 0, 1) := by decide +kernel
theorem dX3_mustBeWhole_40 : decode cX3_mustBeWhole 40 = .ok (.iconst 4, 1) := by decide +kernel
theorem dX3_mustBeWhole_41 : decode cX3_mustBeWhole 41 = .ok (.invokevirtual 83, 3) := by decide +kernel
theorem dX3_mustBeWhole_44 : decode cX3_mustBeWhole 44 = .ok (.ifCond .eq 7, 3) := by decide +kernel
theorem dX3_mustBeWhole_47 : decode cX3_mustBeWhole 47 = .ok (.iconst 1, 1) := by decide +kernel
theorem dX3_mustBeWhole_48 : decode cX3_mustBeWhole 48 = .ok (.goto 4, 3) := by decide +kernel
theorem dX3_mustBeWhole_51 : decode cX3_mustBeWhole 51 = .ok (.iconst 0, 1) := by decide +kernel
theorem dX3_mustBeWhole_52 : decode cX3_mustBeWhole 52 = .ok (.ireturn, 1) := by decide +kernel
theorem dX3_mustBeNew_0 : decode cX3_mustBeNew 0 = .ok (.aload_n 0, 1) := by decide +kernel
theorem dX3_mustBeNew_1 : decode cX3_mustBeNew 1 = .ok (.getfield 12, 3) := by decide +kernel
theorem dX3_mustBeNew_4 : decode cX3_mustBeNew 4 = .ok (.invokevirtual 122, 3) := by decide +kernel
theorem dX3_mustBeNew_7 : decode cX3_mustBeNew 7 = .ok (.ifCond .ne 9, 3) := by decide +kernel
theorem dX3_mustBeNew_10 : decode cX3_mustBeNew 10 = .ok (.aload_n 0, 1) := by decide +kernel
theorem dX3_mustBeNew_11 : decode cX3_mustBeNew 11 = .ok (.iconst 1, 1) := by decide +kernel
theorem dX3_mustBeNew_12 : decode cX3_mustBeNew 12 = .ok (.invokevirtual 83, 3) := by decide +kernel
theorem dX3_mustBeNew_15 : decode cX3_mustBeNew 15 = .ok (.ireturn, 1) := by decide +kernel
theorem dX3_mustBeNew_16 : decode cX3_mustBeNew 16 = .ok (.aload_n 0, 1) := by decide +kernel
theorem dX3_mustBeNew_17 : decode cX3_mustBeNew 17 = .ok (.aload_n 0, 1) := by decide +kernel
theorem dX3_mustBeNew_18 : decode cX3_mustBeNew 18 = .ok (.getfield 32, 3) := by decide +kernel
theorem dX3_mustBeNew_21 : decode cX3_mustBeNew 21 = .ok (.aload_n 0, 1) := by decide +kernel
theorem dX3_mustBeNew_22 : decode cX3_mustBeNew 22 = .ok (.getfield 21, 3) := by decide +kernel
theorem dX3_mustBeNew_25 : decode cX3_mustBeNew 25 = .ok (.getfield 87, 3) := by decide +kernel
theorem dX3_mustBeNew_28 : decode cX3_mustBeNew 28 = .ok (.invokevirtual 125, 3) := by decide +kernel
theorem dX3_mustBeNew_31 : decode cX3_mustBeNew 31 = .ok (.ifCond .ge 21, 3) := by decide +kernel
theorem dX3_mustBeNew_34 : decode cX3_mustBeNew 34 = .ok (.aload_n 0, 1) := by decide +kernel
theorem dX3_mustBeNew_35 : decode cX3_mustBeNew 35 = .ok (.aload_n 0, 1) := by decide +kernel
theorem dX3_mustBeNew_36 : decode cX3_mustBeNew 36 = .ok (.getfield 36, 3) := by decide +kernel
theorem dX3_mustBeNew_39 : decode cX3_mustBeNew 39 = .ok (.aload_n 0, 1) := by decide +kernel
theorem dX3_mustBeNew_40 : decode cX3_mustBeNew 40 = .ok (.getfield 21, 3) := by decide +kernel
theorem dX3_mustBeNew_43 : decode cX3_mustBeNew 43 = .ok (.getfield 90, 3) := by decide +kernel
theorem dX3_mustBeNew_46 : decode cX3_mustBeNew 46 = .ok (.invokevirtual 125, 3) := by decide +kernel
theorem dX3_mustBeNew_49 : decode cX3_mustBeNew 49 = .ok (.ifCond .lt 7, 3) := by decide +kernel
theorem dX3_mustBeNew_52 : decode cX3_mustBeNew 52 = .ok (.iconst 1, 1) := by decide +kernel
theorem dX3_mustBeNew_53 : decode cX3_mustBeNew 53 = .ok (.goto 4, 3) := by decide +kernel
theorem dX3_mustBeNew_56 : decode cX3_mustBeNew 56 = .ok (.iconst 0, 1) := by decide +kernel
theorem dX3_mustBeNew_57 : decode cX3_mustBeNew 57 = .ok (.istore_n 1, 1) := by decide +kernel
theorem dX3_mustBeNew_58 : decode cX3_mustBeNew 58 = .ok (.iload_n 1, 1) := by decide +kernel
theorem dX3_mustBeNew_59 : decode cX3_mustBeNew 59 = .ok (.ifCond .eq 11, 3) := by decide +kernel
theorem dX3_mustBeNew_62 : decode cX3_mustBeNew 62 = .ok (.aload_n 0, 1) := by decide +kernel
theorem dX3_mustBeNew_63 : decode cX3_mustBeNew 63 = .ok (.iconst 3, 1) := by decide +kernel
theorem dX3_mustBeNew_64 : decode cX3_mustBeNew 64 = .ok (.invokevirtual 83, 3) := by decide +kernel
theorem dX3_mustBeNew_67 : decode cX3_mustBeNew 67 = .ok (.ifCond .eq 7, 3) := by decide +kernel
theorem dX3_mustBeNew_70 : decode cX3_mustBeNew 70 = .ok (.iconst 1, 1) := by decide +kernel
theorem dX3_mustBeNew_71 : decode cX3_mustBeNew 71 = .ok (.goto 4, 3) := by decide +kernel
theorem dX3_mustBeNew_74 : decode cX3_mustBeNew 74 = .ok (.iconst 0, 1) := by decide +kernel
theorem dX3_mustBeNew_75 : decode cX3_mustBeNew 75 = .ok (.ireturn, 1) := by decide +kernel
theorem dX3_find_0 : decode cX3_find 0 = .ok (.iconst 0, 1) := by decide +kernel
theorem dX3_find_1 : decode cX3_find 1 = .ok (.istore_n 3, 1) := by decide +kernel
theorem dX3_find_2 : decode cX3_find 2 = .ok (.iload_n 3, 1) := by decide +kernel
theorem dX3_find_3 : decode cX3_find 3 = .ok (.iload_n 2, 1) := by decide +kernel
theorem dX3_find_4 : decode cX3_find 4 = .ok (.if_icmp .ge 31, 3) := by decide +kernel
theorem dX3_find_7 : decode cX3_find 7 = .ok (.iload_n 3, 1) := by decide +kernel
theorem dX3_find_8 : decode cX3_find 8 = .ok (.aload_n 1, 1) := by decide +kernel
theorem dX3_find_9 : decode cX3_find 9 = .ok (.arraylength, 1) := by decide +kernel
theorem dX3_find_10 : decode cX3_find 10 = .ok (.if_icmp .ge 25, 3) := by decide +kernel
theorem dX3_find_13 : decode cX3_find 13 = .ok (.aload_n 1, 1) := by decide +kernel
theorem dX3_find_14 : decode cX3_find 14 = .ok (.iload_n 3, 1) := by decide +kernel
theorem dX3_find_15 : decode cX3_find 15 = .ok (.laload, 1) := by decide +kernel
theorem dX3_find_16 : decode cX3_find 16 = .ok (.aload_n 0, 1) := by decide +kernel
theorem dX3_find_17 : decode cX3_find 17 = .ok (.getfield 12, 3) := by decide +kernel
theorem dX3_find_20 : decode cX3_find 20 = .ok (.getfield 129, 3) := by decide +kernel
theorem dX3_find_23 : decode cX3_find 23 = .ok (.lcmp, 1) := by decide +kernel
theorem dX3_find_24 : decode cX3_find 24 = .ok (.ifCond .ne 5, 3) := by decide +kernel
theorem dX3_find_27 : decode cX3_find 27 = .ok (.iload_n 3, 1) := by decide +kernel
theorem dX3_find_28 : decode cX3_find 28 = .ok (.ireturn, 1) := by decide +kernel
theorem dX3_find_29 : decode cX3_find 29 = .ok (.iinc 3 1, 3) := by decide +kernel
theorem dX3_find_32 : decode cX3_find 32 = .ok (.goto (-30), 3) := by decide +kernel
theorem dX3_find_35 : decode cX3_find 35 = .ok (.iconst (-1), 1) := by decide +kernel
theorem dX3_find_36 : decode cX3_find 36 = .ok (.ireturn, 1) := by decide +kernel
theorem dX3_lawLine_0 : decode cX3_lawLine 0 = .ok (.aload_n 0, 1) := by decide +kernel
theorem dX3_lawLine_1 : decode cX3_lawLine 1 = .ok (.getfield 39, 3) := by decide +kernel
theorem dX3_lawLine_4 : decode cX3_lawLine 4 = .ok (.ifCond .eq 9, 3) := by decide +kernel
theorem dX3_lawLine_7 : decode cX3_lawLine 7 = .ok (.aload_n 0, 1) := by decide +kernel
theorem dX3_lawLine_8 : decode cX3_lawLine 8 = .ok (.iconst 3, 1) := by decide +kernel
theorem dX3_lawLine_9 : decode cX3_lawLine 9 = .ok (.invokevirtual 83, 3) := by decide +kernel
theorem dX3_lawLine_12 : decode cX3_lawLine 12 = .ok (.ireturn, 1) := by decide +kernel
theorem dX3_lawLine_13 : decode cX3_lawLine 13 = .ok (.aload_n 0, 1) := by decide +kernel
theorem dX3_lawLine_14 : decode cX3_lawLine 14 = .ok (.getfield 12, 3) := by decide +kernel
theorem dX3_lawLine_17 : decode cX3_lawLine 17 = .ok (.invokevirtual 80, 3) := by decide +kernel
theorem dX3_lawLine_20 : decode cX3_lawLine 20 = .ok (.aload_n 0, 1) := by decide +kernel
theorem dX3_lawLine_21 : decode cX3_lawLine 21 = .ok (.ldc 133, 2) := by decide +kernel
theorem dX3_lawLine_23 : decode cX3_lawLine 23 = .ok (.invokevirtual 135, 3) := by decide +kernel
theorem dX3_lawLine_26 : decode cX3_lawLine 26 = .ok (.ifCond .eq 13, 3) := by decide +kernel
theorem dX3_lawLine_29 : decode cX3_lawLine 29 = .ok (.aload_n 0, 1) := by decide +kernel
theorem dX3_lawLine_30 : decode cX3_lawLine 30 = .ok (.iconst 0, 1) := by decide +kernel
theorem dX3_lawLine_31 : decode cX3_lawLine 31 = .ok (.bipush 99, 2) := by decide +kernel
theorem dX3_lawLine_33 : decode cX3_lawLine 33 = .ok (.invokevirtual 138, 3) := by decide +kernel
theorem dX3_lawLine_36 : decode cX3_lawLine 36 = .ok (.ifCond .ne 5, 3) := by decide +kernel
theorem dX3_lawLine_39 : decode cX3_lawLine 39 = .ok (.iconst 0, 1) := by decide +kernel
theorem dX3_lawLine_40 : decode cX3_lawLine 40 = .ok (.ireturn, 1) := by decide +kernel
theorem dX3_lawLine_41 : decode cX3_lawLine 41 = .ok (.aload_n 0, 1) := by decide +kernel
theorem dX3_lawLine_42 : decode cX3_lawLine 42 = .ok (.iconst 1, 1) := by decide +kernel
theorem dX3_lawLine_43 : decode cX3_lawLine 43 = .ok (.putfield 39, 3) := by decide +kernel
theorem dX3_lawLine_46 : decode cX3_lawLine 46 = .ok (.aload_n 0, 1) := by decide +kernel
theorem dX3_lawLine_47 : decode cX3_lawLine 47 = .ok (.getfield 21, 3) := by decide +kernel
theorem dX3_lawLine_50 : decode cX3_lawLine 50 = .ok (.aload_n 0, 1) := by decide +kernel
theorem dX3_lawLine_51 : decode cX3_lawLine 51 = .ok (.getfield 12, 3) := by decide +kernel
theorem dX3_lawLine_54 : decode cX3_lawLine 54 = .ok (.getfield 119, 3) := by decide +kernel
theorem dX3_lawLine_57 : decode cX3_lawLine 57 = .ok (.putfield 142, 3) := by decide +kernel
theorem dX3_lawLine_60 : decode cX3_lawLine 60 = .ok (.aload_n 0, 1) := by decide +kernel
theorem dX3_lawLine_61 : decode cX3_lawLine 61 = .ok (.getfield 12, 3) := by decide +kernel
theorem dX3_lawLine_64 : decode cX3_lawLine 64 = .ok (.invokevirtual 80, 3) := by decide +kernel
theorem dX3_lawLine_67 : decode cX3_lawLine 67 = .ok (.iconst 1, 1) := by decide +kernel
theorem dX3_lawLine_68 : decode cX3_lawLine 68 = .ok (.ireturn, 1) := by decide +kernel
theorem dX3_tillLine_0 : decode cX3_tillLine 0 = .ok (.aload_n 0, 1) := by decide +kernel
theorem dX3_tillLine_1 : decode cX3_tillLine 1 = .ok (.getfield 21, 3) := by decide +kernel
theorem dX3_tillLine_4 : decode cX3_tillLine 4 = .ok (.getfield 87, 3) := by decide +kernel
theorem dX3_tillLine_7 : decode cX3_tillLine 7 = .ok (.iconst 3, 1) := by decide +kernel
theorem dX3_tillLine_8 : decode cX3_tillLine 8 = .ok (.if_icmp .lt 9, 3) := by decide +kernel
theorem dX3_tillLine_11 : decode cX3_tillLine 11 = .ok (.aload_n 0, 1) := by decide +kernel
theorem dX3_tillLine_12 : decode cX3_tillLine 12 = .ok (.iconst 5, 1) := by decide +kernel
theorem dX3_tillLine_13 : decode cX3_tillLine 13 = .ok (.invokevirtual 83, 3) := by decide +kernel
theorem dX3_tillLine_16 : decode cX3_tillLine 16 = .ok (.ireturn, 1) := by decide +kernel
theorem dX3_tillLine_17 : decode cX3_tillLine 17 = .ok (.aload_n 0, 1) := by decide +kernel
theorem dX3_tillLine_18 : decode cX3_tillLine 18 = .ok (.getfield 12, 3) := by decide +kernel
theorem dX3_tillLine_21 : decode cX3_tillLine 21 = .ok (.invokevirtual 80, 3) := by decide +kernel
theorem dX3_tillLine_24 : decode cX3_tillLine 24 = .ok (.aload_n 0, 1) := by decide +kernel
theorem dX3_tillLine_25 : decode cX3_tillLine 25 = .ok (.invokevirtual 144, 3) := by decide +kernel
theorem dX3_tillLine_28 : decode cX3_tillLine 28 = .ok (.ifCond .ne 5, 3) := by decide +kernel
theorem dX3_tillLine_31 : decode cX3_tillLine 31 = .ok (.iconst 0, 1) := by decide +kernel
theorem dX3_tillLine_32 : decode cX3_tillLine 32 = .ok (.ireturn, 1) := by decide +kernel
theorem dX3_tillLine_33 : decode cX3_tillLine 33 = .ok (.aload_n 0, 1) := by decide +kernel
theorem dX3_tillLine_34 : decode cX3_tillLine 34 = .ok (.getfield 32, 3) := by decide +kernel
theorem dX3_tillLine_37 : decode cX3_tillLine 37 = .ok (.aload_n 0, 1) := by decide +kernel
theorem dX3_tillLine_38 : decode cX3_tillLine 38 = .ok (.getfield 21, 3) := by decide +kernel
theorem dX3_tillLine_41 : decode cX3_tillLine 41 = .ok (.getfield 87, 3) := by decide +kernel
theorem dX3_tillLine_44 : decode cX3_tillLine 44 = .ok (.aload_n 0, 1) := by decide +kernel
theorem dX3_tillLine_45 : decode cX3_tillLine 45 = .ok (.getfield 12, 3) := by decide +kernel
theorem dX3_tillLine_48 : decode cX3_tillLine 48 = .ok (.getfield 129, 3) := by decide +kernel
theorem dX3_tillLine_51 : decode cX3_tillLine 51 = .ok (.lastore, 1) := by decide +kernel
theorem dX3_tillLine_52 : decode cX3_tillLine 52 = .ok (.aload_n 0, 1) := by decide +kernel
theorem dX3_tillLine_53 : decode cX3_tillLine 53 = .ok (.getfield 12, 3) := by decide +kernel
theorem dX3_tillLine_56 : decode cX3_tillLine 56 = .ok (.invokevirtual 80, 3) := by decide +kernel
theorem dX3_tillLine_59 : decode cX3_tillLine 59 = .ok (.aload_n 0, 1) := by decide +kernel
theorem dX3_tillLine_60 : decode cX3_tillLine 60 = .ok (.ldc 147, 2) := by decide +kernel
theorem dX3_tillLine_62 : decode cX3_tillLine 62 = .ok (.invokevirtual 135, 3) := by decide +kernel
theorem dX3_tillLine_65 : decode cX3_tillLine 65 = .ok (.ifCond .ne 5, 3) := by decide +kernel
theorem dX3_tillLine_68 : decode cX3_tillLine 68 = .ok (.iconst 0, 1) := by decide +kernel
theorem dX3_tillLine_69 : decode cX3_tillLine 69 = .ok (.ireturn, 1) := by decide +kernel
theorem dX3_tillLine_70 : decode cX3_tillLine 70 = .ok (.aload_n 0, 1) := by decide +kernel
theorem dX3_tillLine_71 : decode cX3_tillLine 71 = .ok (.invokevirtual 148, 3) := by decide +kernel
theorem dX3_tillLine_74 : decode cX3_tillLine 74 = .ok (.istore_n 1, 1) := by decide +kernel
theorem dX3_tillLine_75 : decode cX3_tillLine 75 = .ok (.iload_n 1, 1) := by decide +kernel
theorem dX3_tillLine_76 : decode cX3_tillLine 76 = .ok (.ifCond .ge 9, 3) := by decide +kernel
theorem dX3_tillLine_79 : decode cX3_tillLine 79 = .ok (.aload_n 0, 1) := by decide +kernel
theorem dX3_tillLine_80 : decode cX3_tillLine 80 = .ok (.iconst 1, 1) := by decide +kernel
theorem dX3_tillLine_81 : decode cX3_tillLine 81 = .ok (.invokevirtual 83, 3) := by decide +kernel
theorem dX3_tillLine_84 : decode cX3_tillLine 84 = .ok (.ireturn, 1) := by decide +kernel
theorem dX3_tillLine_85 : decode cX3_tillLine 85 = .ok (.aload_n 0, 1) := by decide +kernel
theorem dX3_tillLine_86 : decode cX3_tillLine 86 = .ok (.getfield 21, 3) := by decide +kernel
theorem dX3_tillLine_89 : decode cX3_tillLine 89 = .ok (.iload_n 1, 1) := by decide +kernel
theorem dX3_tillLine_90 : decode cX3_tillLine 90 = .ok (.invokevirtual 152, 3) := by decide +kernel
theorem dX3_tillLine_93 : decode cX3_tillLine 93 = .ok (.aload_n 0, 1) := by decide +kernel
theorem dX3_tillLine_94 : decode cX3_tillLine 94 = .ok (.getfield 12, 3) := by decide +kernel
theorem dX3_tillLine_97 : decode cX3_tillLine 97 = .ok (.invokevirtual 80, 3) := by decide +kernel
theorem dX3_tillLine_100 : decode cX3_tillLine 100 = .ok (.iconst 1, 1) := by decide +kernel
theorem dX3_tillLine_101 : decode cX3_tillLine 101 = .ok (.ireturn, 1) := by decide +kernel
theorem dX3_kindHere_0 : decode cX3_kindHere 0 = .ok (.aload_n 0, 1) := by decide +kernel
theorem dX3_kindHere_1 : decode cX3_kindHere 1 = .ok (.getfield 12, 3) := by decide +kernel
theorem dX3_kindHere_4 : decode cX3_kindHere 4 = .ok (.ldc 155, 2) := by decide +kernel
theorem dX3_kindHere_6 : decode cX3_kindHere 6 = .ok (.invokevirtual 99, 3) := by decide +kernel
theorem dX3_kindHere_9 : decode cX3_kindHere 9 = .ok (.ifCond .eq 5, 3) := by decide +kernel
theorem dX3_kindHere_12 : decode cX3_kindHere 12 = .ok (.iconst 0, 1) := by decide +kernel
theorem dX3_kindHere_13 : decode cX3_kindHere 13 = .ok (.ireturn, 1) := by decide +kernel
theorem dX3_kindHere_14 : decode cX3_kindHere 14 = .ok (.aload_n 0, 1) := by decide +kernel
theorem dX3_kindHere_15 : decode cX3_kindHere 15 = .ok (.getfield 12, 3) := by decide +kernel
theorem dX3_kindHere_18 : decode cX3_kindHere 18 = .ok (.ldc 159, 2) := by decide +kernel
theorem dX3_kindHere_20 : decode cX3_kindHere 20 = .ok (.invokevirtual 99, 3) := by decide +kernel
theorem dX3_kindHere_23 : decode cX3_kindHere 23 = .ok (.ifCond .eq 5, 3) := by decide +kernel
theorem dX3_kindHere_26 : decode cX3_kindHere 26 = .ok (.iconst 1, 1) := by decide +kernel
theorem dX3_kindHere_27 : decode cX3_kindHere 27 = .ok (.ireturn, 1) := by decide +kernel
theorem dX3_kindHere_28 : decode cX3_kindHere 28 = .ok (.aload_n 0, 1) := by decide +kernel
theorem dX3_kindHere_29 : decode cX3_kindHere 29 = .ok (.getfield 12, 3) := by decide +kernel
theorem dX3_kindHere_32 : decode cX3_kindHere 32 = .ok (.ldc 161, 2) := by decide +kernel
theorem dX3_kindHere_34 : decode cX3_kindHere 34 = .ok (.invokevirtual 99, 3) := by decide +kernel
theorem dX3_kindHere_37 : decode cX3_kindHere 37 = .ok (.ifCond .eq 5, 3) := by decide +kernel
theorem dX3_kindHere_40 : decode cX3_kindHere 40 = .ok (.iconst 2, 1) := by decide +kernel
theorem dX3_kindHere_41 : decode cX3_kindHere 41 = .ok (.ireturn, 1) := by decide +kernel
theorem dX3_kindHere_42 : decode cX3_kindHere 42 = .ok (.aload_n 0, 1) := by decide +kernel
theorem dX3_kindHere_43 : decode cX3_kindHere 43 = .ok (.getfield 12, 3) := by decide +kernel
theorem dX3_kindHere_46 : decode cX3_kindHere 46 = .ok (.ldc 163, 2) := by decide +kernel
theorem dX3_kindHere_48 : decode cX3_kindHere 48 = .ok (.invokevirtual 99, 3) := by decide +kernel
theorem dX3_kindHere_51 : decode cX3_kindHere 51 = .ok (.ifCond .eq 5, 3) := by decide +kernel
theorem dX3_kindHere_54 : decode cX3_kindHere 54 = .ok (.iconst 3, 1) := by decide +kernel
theorem dX3_kindHere_55 : decode cX3_kindHere 55 = .ok (.ireturn, 1) := by decide +kernel
theorem dX3_kindHere_56 : decode cX3_kindHere 56 = .ok (.aload_n 0, 1) := by decide +kernel
theorem dX3_kindHere_57 : decode cX3_kindHere 57 = .ok (.getfield 12, 3) := by decide +kernel
theorem dX3_kindHere_60 : decode cX3_kindHere 60 = .ok (.ldc 165, 2) := by decide +kernel
theorem dX3_kindHere_62 : decode cX3_kindHere 62 = .ok (.invokevirtual 99, 3) := by decide +kernel
theorem dX3_kindHere_65 : decode cX3_kindHere 65 = .ok (.ifCond .eq 7, 3) := by decide +kernel
theorem dX3_kindHere_68 : decode cX3_kindHere 68 = .ok (.iconst 4, 1) := by decide +kernel
theorem dX3_kindHere_69 : decode cX3_kindHere 69 = .ok (.goto 4, 3) := by decide +kernel
theorem dX3_kindHere_72 : decode cX3_kindHere 72 = .ok (.iconst (-1), 1) := by decide +kernel
theorem dX3_kindHere_73 : decode cX3_kindHere 73 = .ok (.ireturn, 1) := by decide +kernel
theorem dX3_cashierLine_0 : decode cX3_cashierLine 0 = .ok (.iconst 0, 1) := by decide +kernel
theorem dX3_cashierLine_1 : decode cX3_cashierLine 1 = .ok (.istore_n 1, 1) := by decide +kernel
theorem dX3_cashierLine_2 : decode cX3_cashierLine 2 = .ok (.iload_n 1, 1) := by decide +kernel
theorem dX3_cashierLine_3 : decode cX3_cashierLine 3 = .ok (.iconst 4, 1) := by decide +kernel
theorem dX3_cashierLine_4 : decode cX3_cashierLine 4 = .ok (.if_icmp .gt 94, 3) := by decide +kernel
theorem dX3_cashierLine_7 : decode cX3_cashierLine 7 = .ok (.aload_n 0, 1) := by decide +kernel
theorem dX3_cashierLine_8 : decode cX3_cashierLine 8 = .ok (.getfield 12, 3) := by decide +kernel
theorem dX3_cashierLine_11 : decode cX3_cashierLine 11 = .ok (.invokevirtual 80, 3) := by decide +kernel
theorem dX3_cashierLine_14 : decode cX3_cashierLine 14 = .ok (.aload_n 0, 1) := by decide +kernel
theorem dX3_cashierLine_15 : decode cX3_cashierLine 15 = .ok (.invokevirtual 144, 3) := by decide +kernel
theorem dX3_cashierLine_18 : decode cX3_cashierLine 18 = .ok (.ifCond .ne 5, 3) := by decide +kernel
theorem dX3_cashierLine_21 : decode cX3_cashierLine 21 = .ok (.iconst 0, 1) := by decide +kernel
theorem dX3_cashierLine_22 : decode cX3_cashierLine 22 = .ok (.ireturn, 1) := by decide +kernel
theorem dX3_cashierLine_23 : decode cX3_cashierLine 23 = .ok (.aload_n 0, 1) := by decide +kernel
theorem dX3_cashierLine_24 : decode cX3_cashierLine 24 = .ok (.getfield 21, 3) := by decide +kernel
theorem dX3_cashierLine_27 : decode cX3_cashierLine 27 = .ok (.getfield 90, 3) := by decide +kernel
theorem dX3_cashierLine_30 : decode cX3_cashierLine 30 = .ok (.iconst 4, 1) := by decide +kernel
theorem dX3_cashierLine_31 : decode cX3_cashierLine 31 = .ok (.if_icmp .lt 9, 3) := by decide +kernel
theorem dX3_cashierLine_34 : decode cX3_cashierLine 34 = .ok (.aload_n 0, 1) := by decide +kernel
theorem dX3_cashierLine_35 : decode cX3_cashierLine 35 = .ok (.iconst 5, 1) := by decide +kernel
theorem dX3_cashierLine_36 : decode cX3_cashierLine 36 = .ok (.invokevirtual 83, 3) := by decide +kernel
theorem dX3_cashierLine_39 : decode cX3_cashierLine 39 = .ok (.ireturn, 1) := by decide +kernel
theorem dX3_cashierLine_40 : decode cX3_cashierLine 40 = .ok (.aload_n 0, 1) := by decide +kernel
theorem dX3_cashierLine_41 : decode cX3_cashierLine 41 = .ok (.getfield 36, 3) := by decide +kernel
theorem dX3_cashierLine_44 : decode cX3_cashierLine 44 = .ok (.aload_n 0, 1) := by decide +kernel
theorem dX3_cashierLine_45 : decode cX3_cashierLine 45 = .ok (.getfield 21, 3) := by decide +kernel
theorem dX3_cashierLine_48 : decode cX3_cashierLine 48 = .ok (.getfield 90, 3) := by decide +kernel
theorem dX3_cashierLine_51 : decode cX3_cashierLine 51 = .ok (.aload_n 0, 1) := by decide +kernel
theorem dX3_cashierLine_52 : decode cX3_cashierLine 52 = .ok (.getfield 12, 3) := by decide +kernel
theorem dX3_cashierLine_55 : decode cX3_cashierLine 55 = .ok (.getfield 129, 3) := by decide +kernel
theorem dX3_cashierLine_58 : decode cX3_cashierLine 58 = .ok (.lastore, 1) := by decide +kernel
theorem dX3_cashierLine_59 : decode cX3_cashierLine 59 = .ok (.aload_n 0, 1) := by decide +kernel
theorem dX3_cashierLine_60 : decode cX3_cashierLine 60 = .ok (.getfield 21, 3) := by decide +kernel
theorem dX3_cashierLine_63 : decode cX3_cashierLine 63 = .ok (.dup, 1) := by decide +kernel
theorem dX3_cashierLine_64 : decode cX3_cashierLine 64 = .ok (.getfield 90, 3) := by decide +kernel
theorem dX3_cashierLine_67 : decode cX3_cashierLine 67 = .ok (.iconst 1, 1) := by decide +kernel
theorem dX3_cashierLine_68 : decode cX3_cashierLine 68 = .ok (.iadd, 1) := by decide +kernel
theorem dX3_cashierLine_69 : decode cX3_cashierLine 69 = .ok (.putfield 90, 3) := by decide +kernel
theorem dX3_cashierLine_72 : decode cX3_cashierLine 72 = .ok (.aload_n 0, 1) := by decide +kernel
theorem dX3_cashierLine_73 : decode cX3_cashierLine 73 = .ok (.getfield 12, 3) := by decide +kernel
theorem dX3_cashierLine_76 : decode cX3_cashierLine 76 = .ok (.invokevirtual 80, 3) := by decide +kernel
theorem dX3_cashierLine_79 : decode cX3_cashierLine 79 = .ok (.aload_n 0, 1) := by decide +kernel
theorem dX3_cashierLine_80 : decode cX3_cashierLine 80 = .ok (.getfield 12, 3) := by decide +kernel
theorem dX3_cashierLine_83 : decode cX3_cashierLine 83 = .ok (.getfield 74, 3) := by decide +kernel
theorem dX3_cashierLine_86 : decode cX3_cashierLine 86 = .ok (.iconst 4, 1) := by decide +kernel
theorem dX3_cashierLine_87 : decode cX3_cashierLine 87 = .ok (.if_icmp .eq 5, 3) := by decide +kernel
theorem dX3_cashierLine_90 : decode cX3_cashierLine 90 = .ok (.iconst 1, 1) := by decide +kernel
theorem dX3_cashierLine_91 : decode cX3_cashierLine 91 = .ok (.ireturn, 1) := by decide +kernel
theorem dX3_cashierLine_92 : decode cX3_cashierLine 92 = .ok (.iinc 1 1, 3) := by decide +kernel
theorem dX3_cashierLine_95 : decode cX3_cashierLine 95 = .ok (.goto (-93), 3) := by decide +kernel
theorem dX3_cashierLine_98 : decode cX3_cashierLine 98 = .ok (.aload_n 0, 1) := by decide +kernel
theorem dX3_cashierLine_99 : decode cX3_cashierLine 99 = .ok (.iconst 5, 1) := by decide +kernel
theorem dX3_cashierLine_100 : decode cX3_cashierLine 100 = .ok (.invokevirtual 83, 3) := by decide +kernel
theorem dX3_cashierLine_103 : decode cX3_cashierLine 103 = .ok (.ireturn, 1) := by decide +kernel
theorem dX3_callLine_0 : decode cX3_callLine 0 = .ok (.aload_n 0, 1) := by decide +kernel
theorem dX3_callLine_1 : decode cX3_callLine 1 = .ok (.getfield 28, 3) := by decide +kernel
theorem dX3_callLine_4 : decode cX3_callLine 4 = .ok (.getfield 167, 3) := by decide +kernel
theorem dX3_callLine_7 : decode cX3_callLine 7 = .ok (.bipush 20, 2) := by decide +kernel
theorem dX3_callLine_9 : decode cX3_callLine 9 = .ok (.if_icmp .lt 9, 3) := by decide +kernel
theorem dX3_callLine_12 : decode cX3_callLine 12 = .ok (.aload_n 0, 1) := by decide +kernel
theorem dX3_callLine_13 : decode cX3_callLine 13 = .ok (.iconst 5, 1) := by decide +kernel
theorem dX3_callLine_14 : decode cX3_callLine 14 = .ok (.invokevirtual 83, 3) := by decide +kernel
theorem dX3_callLine_17 : decode cX3_callLine 17 = .ok (.ireturn, 1) := by decide +kernel
theorem dX3_callLine_18 : decode cX3_callLine 18 = .ok (.aload_n 0, 1) := by decide +kernel
theorem dX3_callLine_19 : decode cX3_callLine 19 = .ok (.getfield 12, 3) := by decide +kernel
theorem dX3_callLine_22 : decode cX3_callLine 22 = .ok (.invokevirtual 80, 3) := by decide +kernel
theorem dX3_callLine_25 : decode cX3_callLine 25 = .ok (.aload_n 0, 1) := by decide +kernel
theorem dX3_callLine_26 : decode cX3_callLine 26 = .ok (.invokevirtual 170, 3) := by decide +kernel
theorem dX3_callLine_29 : decode cX3_callLine 29 = .ok (.ifCond .eq 28, 3) := by decide +kernel
theorem dX3_callLine_32 : decode cX3_callLine 32 = .ok (.aload_n 0, 1) := by decide +kernel
theorem dX3_callLine_33 : decode cX3_callLine 33 = .ok (.invokevirtual 173, 3) := by decide +kernel
theorem dX3_callLine_36 : decode cX3_callLine 36 = .ok (.ifCond .eq 21, 3) := by decide +kernel
theorem dX3_callLine_39 : decode cX3_callLine 39 = .ok (.aload_n 0, 1) := by decide +kernel
theorem dX3_callLine_40 : decode cX3_callLine 40 = .ok (.invokevirtual 176, 3) := by decide +kernel
theorem dX3_callLine_43 : decode cX3_callLine 43 = .ok (.ifCond .eq 14, 3) := by decide +kernel
theorem dX3_callLine_46 : decode cX3_callLine 46 = .ok (.aload_n 0, 1) := by decide +kernel
theorem dX3_callLine_47 : decode cX3_callLine 47 = .ok (.invokevirtual 179, 3) := by decide +kernel
theorem dX3_callLine_50 : decode cX3_callLine 50 = .ok (.ifCond .eq 7, 3) := by decide +kernel
theorem dX3_callLine_53 : decode cX3_callLine 53 = .ok (.iconst 1, 1) := by decide +kernel
theorem dX3_callLine_54 : decode cX3_callLine 54 = .ok (.goto 4, 3) := by decide +kernel
theorem dX3_callLine_57 : decode cX3_callLine 57 = .ok (.iconst 0, 1) := by decide +kernel
theorem dX3_callLine_58 : decode cX3_callLine 58 = .ok (.ireturn, 1) := by decide +kernel
theorem dX3_callCashier_0 : decode cX3_callCashier 0 = .ok (.aload_n 0, 1) := by decide +kernel
theorem dX3_callCashier_1 : decode cX3_callCashier 1 = .ok (.getfield 12, 3) := by decide +kernel
theorem dX3_callCashier_4 : decode cX3_callCashier 4 = .ok (.invokevirtual 122, 3) := by decide +kernel
theorem dX3_callCashier_7 : decode cX3_callCashier 7 = .ok (.ifCond .ne 9, 3) := by decide +kernel
theorem dX3_callCashier_10 : decode cX3_callCashier 10 = .ok (.aload_n 0, 1) := by decide +kernel
theorem dX3_callCashier_11 : decode cX3_callCashier 11 = .ok (.iconst 1, 1) := by decide +kernel
theorem dX3_callCashier_12 : decode cX3_callCashier 12 = .ok (.invokevirtual 83, 3) := by decide +kernel
theorem dX3_callCashier_15 : decode cX3_callCashier 15 = .ok (.ireturn, 1) := by decide +kernel
theorem dX3_callCashier_16 : decode cX3_callCashier 16 = .ok (.aload_n 0, 1) := by decide +kernel
theorem dX3_callCashier_17 : decode cX3_callCashier 17 = .ok (.aload_n 0, 1) := by decide +kernel
theorem dX3_callCashier_18 : decode cX3_callCashier 18 = .ok (.aload_n 0, 1) := by decide +kernel
theorem dX3_callCashier_19 : decode cX3_callCashier 19 = .ok (.getfield 36, 3) := by decide +kernel
theorem dX3_callCashier_22 : decode cX3_callCashier 22 = .ok (.aload_n 0, 1) := by decide +kernel
theorem dX3_callCashier_23 : decode cX3_callCashier 23 = .ok (.getfield 21, 3) := by decide +kernel
theorem dX3_callCashier_26 : decode cX3_callCashier 26 = .ok (.getfield 90, 3) := by decide +kernel
theorem dX3_callCashier_29 : decode cX3_callCashier 29 = .ok (.invokevirtual 125, 3) := by decide +kernel
theorem dX3_callCashier_32 : decode cX3_callCashier 32 = .ok (.putfield 50, 3) := by decide +kernel
theorem dX3_callCashier_35 : decode cX3_callCashier 35 = .ok (.aload_n 0, 1) := by decide +kernel
theorem dX3_callCashier_36 : decode cX3_callCashier 36 = .ok (.getfield 50, 3) := by decide +kernel
theorem dX3_callCashier_39 : decode cX3_callCashier 39 = .ok (.ifCond .ge 9, 3) := by decide +kernel
theorem dX3_callCashier_42 : decode cX3_callCashier 42 = .ok (.aload_n 0, 1) := by decide +kernel
theorem dX3_callCashier_43 : decode cX3_callCashier 43 = .ok (.iconst 2, 1) := by decide +kernel
theorem dX3_callCashier_44 : decode cX3_callCashier 44 = .ok (.invokevirtual 83, 3) := by decide +kernel
theorem dX3_callCashier_47 : decode cX3_callCashier 47 = .ok (.ireturn, 1) := by decide +kernel
theorem dX3_callCashier_48 : decode cX3_callCashier 48 = .ok (.aload_n 0, 1) := by decide +kernel
theorem dX3_callCashier_49 : decode cX3_callCashier 49 = .ok (.getfield 28, 3) := by decide +kernel
theorem dX3_callCashier_52 : decode cX3_callCashier 52 = .ok (.aload_n 0, 1) := by decide +kernel
theorem dX3_callCashier_53 : decode cX3_callCashier 53 = .ok (.getfield 50, 3) := by decide +kernel
theorem dX3_callCashier_56 : decode cX3_callCashier 56 = .ok (.invokevirtual 182, 3) := by decide +kernel
theorem dX3_callCashier_59 : decode cX3_callCashier 59 = .ok (.istore_n 1, 1) := by decide +kernel
theorem dX3_callCashier_60 : decode cX3_callCashier 60 = .ok (.iload_n 1, 1) := by decide +kernel
theorem dX3_callCashier_61 : decode cX3_callCashier 61 = .ok (.ifCond .lt 20, 3) := by decide +kernel
theorem dX3_callCashier_64 : decode cX3_callCashier 64 = .ok (.aload_n 0, 1) := by decide +kernel
theorem dX3_callCashier_65 : decode cX3_callCashier 65 = .ok (.getfield 28, 3) := by decide +kernel
theorem dX3_callCashier_68 : decode cX3_callCashier 68 = .ok (.iload_n 1, 1) := by decide +kernel
theorem dX3_callCashier_69 : decode cX3_callCashier 69 = .ok (.invokevirtual 186, 3) := by decide +kernel
theorem dX3_callCashier_72 : decode cX3_callCashier 72 = .ok (.ifCond .eq 9, 3) := by decide +kernel
theorem dX3_callCashier_75 : decode cX3_callCashier 75 = .ok (.aload_n 0, 1) := by decide +kernel
theorem dX3_callCashier_76 : decode cX3_callCashier 76 = .ok (.iconst 4, 1) := by decide +kernel
theorem dX3_callCashier_77 : decode cX3_callCashier 77 = .ok (.invokevirtual 83, 3) := by decide +kernel
theorem dX3_callCashier_80 : decode cX3_callCashier 80 = .ok (.ireturn, 1) := by decide +kernel
theorem dX3_callCashier_81 : decode cX3_callCashier 81 = .ok (.aload_n 0, 1) := by decide +kernel
theorem dX3_callCashier_82 : decode cX3_callCashier 82 = .ok (.getfield 12, 3) := by decide +kernel
theorem dX3_callCashier_85 : decode cX3_callCashier 85 = .ok (.invokevirtual 80, 3) := by decide +kernel
theorem dX3_callCashier_88 : decode cX3_callCashier 88 = .ok (.iconst 1, 1) := by decide +kernel
theorem dX3_callCashier_89 : decode cX3_callCashier 89 = .ok (.ireturn, 1) := by decide +kernel
theorem dX3_callTill_0 : decode cX3_callTill 0 = .ok (.aload_n 0, 1) := by decide +kernel
theorem dX3_callTill_1 : decode cX3_callTill 1 = .ok (.getfield 12, 3) := by decide +kernel
theorem dX3_callTill_4 : decode cX3_callTill 4 = .ok (.invokevirtual 122, 3) := by decide +kernel
theorem dX3_callTill_7 : decode cX3_callTill 7 = .ok (.ifCond .ne 9, 3) := by decide +kernel
theorem dX3_callTill_10 : decode cX3_callTill 10 = .ok (.aload_n 0, 1) := by decide +kernel
theorem dX3_callTill_11 : decode cX3_callTill 11 = .ok (.iconst 1, 1) := by decide +kernel
theorem dX3_callTill_12 : decode cX3_callTill 12 = .ok (.invokevirtual 83, 3) := by decide +kernel
theorem dX3_callTill_15 : decode cX3_callTill 15 = .ok (.ireturn, 1) := by decide +kernel
theorem dX3_callTill_16 : decode cX3_callTill 16 = .ok (.aload_n 0, 1) := by decide +kernel
theorem dX3_callTill_17 : decode cX3_callTill 17 = .ok (.aload_n 0, 1) := by decide +kernel
theorem dX3_callTill_18 : decode cX3_callTill 18 = .ok (.aload_n 0, 1) := by decide +kernel
theorem dX3_callTill_19 : decode cX3_callTill 19 = .ok (.getfield 32, 3) := by decide +kernel
theorem dX3_callTill_22 : decode cX3_callTill 22 = .ok (.aload_n 0, 1) := by decide +kernel
theorem dX3_callTill_23 : decode cX3_callTill 23 = .ok (.getfield 21, 3) := by decide +kernel
theorem dX3_callTill_26 : decode cX3_callTill 26 = .ok (.getfield 87, 3) := by decide +kernel
theorem dX3_callTill_29 : decode cX3_callTill 29 = .ok (.invokevirtual 125, 3) := by decide +kernel
theorem dX3_callTill_32 : decode cX3_callTill 32 = .ok (.putfield 53, 3) := by decide +kernel
theorem dX3_callTill_35 : decode cX3_callTill 35 = .ok (.aload_n 0, 1) := by decide +kernel
theorem dX3_callTill_36 : decode cX3_callTill 36 = .ok (.getfield 53, 3) := by decide +kernel
theorem dX3_callTill_39 : decode cX3_callTill 39 = .ok (.ifCond .ge 9, 3) := by decide +kernel
theorem dX3_callTill_42 : decode cX3_callTill 42 = .ok (.aload_n 0, 1) := by decide +kernel
theorem dX3_callTill_43 : decode cX3_callTill 43 = .ok (.iconst 2, 1) := by decide +kernel
theorem dX3_callTill_44 : decode cX3_callTill 44 = .ok (.invokevirtual 83, 3) := by decide +kernel
theorem dX3_callTill_47 : decode cX3_callTill 47 = .ok (.ireturn, 1) := by decide +kernel
theorem dX3_callTill_48 : decode cX3_callTill 48 = .ok (.aload_n 0, 1) := by decide +kernel
theorem dX3_callTill_49 : decode cX3_callTill 49 = .ok (.getfield 12, 3) := by decide +kernel
theorem dX3_callTill_52 : decode cX3_callTill 52 = .ok (.invokevirtual 80, 3) := by decide +kernel
theorem dX3_callTill_55 : decode cX3_callTill 55 = .ok (.iconst 1, 1) := by decide +kernel
theorem dX3_callTill_56 : decode cX3_callTill 56 = .ok (.ireturn, 1) := by decide +kernel
theorem dX3_callAct_0 : decode cX3_callAct 0 = .ok (.aload_n 0, 1) := by decide +kernel
theorem dX3_callAct_1 : decode cX3_callAct 1 = .ok (.getfield 21, 3) := by decide +kernel
theorem dX3_callAct_4 : decode cX3_callAct 4 = .ok (.aload_n 0, 1) := by decide +kernel
theorem dX3_callAct_5 : decode cX3_callAct 5 = .ok (.getfield 53, 3) := by decide +kernel
theorem dX3_callAct_8 : decode cX3_callAct 8 = .ok (.invokevirtual 189, 3) := by decide +kernel
theorem dX3_callAct_11 : decode cX3_callAct 11 = .ok (.istore_n 1, 1) := by decide +kernel
theorem dX3_callAct_12 : decode cX3_callAct 12 = .ok (.aload_n 0, 1) := by decide +kernel
theorem dX3_callAct_13 : decode cX3_callAct 13 = .ok (.aload_n 0, 1) := by decide +kernel
theorem dX3_callAct_14 : decode cX3_callAct 14 = .ok (.getfield 12, 3) := by decide +kernel
theorem dX3_callAct_17 : decode cX3_callAct 17 = .ok (.ldc 192, 2) := by decide +kernel
theorem dX3_callAct_19 : decode cX3_callAct 19 = .ok (.invokevirtual 99, 3) := by decide +kernel
theorem dX3_callAct_22 : decode cX3_callAct 22 = .ok (.ifCond .eq 7, 3) := by decide +kernel
theorem dX3_callAct_25 : decode cX3_callAct 25 = .ok (.iconst 0, 1) := by decide +kernel
theorem dX3_callAct_26 : decode cX3_callAct 26 = .ok (.goto 36, 3) := by decide +kernel
theorem dX3_callAct_29 : decode cX3_callAct 29 = .ok (.aload_n 0, 1) := by decide +kernel
theorem dX3_callAct_30 : decode cX3_callAct 30 = .ok (.getfield 12, 3) := by decide +kernel
theorem dX3_callAct_33 : decode cX3_callAct 33 = .ok (.ldc 194, 2) := by decide +kernel
theorem dX3_callAct_35 : decode cX3_callAct 35 = .ok (.invokevirtual 99, 3) := by decide +kernel
theorem dX3_callAct_38 : decode cX3_callAct 38 = .ok (.ifCond .eq 7, 3) := by decide +kernel
theorem dX3_callAct_41 : decode cX3_callAct 41 = .ok (.iconst 1, 1) := by decide +kernel
theorem dX3_callAct_42 : decode cX3_callAct 42 = .ok (.goto 20, 3) := by decide +kernel
theorem dX3_callAct_45 : decode cX3_callAct 45 = .ok (.aload_n 0, 1) := by decide +kernel
theorem dX3_callAct_46 : decode cX3_callAct 46 = .ok (.getfield 12, 3) := by decide +kernel
theorem dX3_callAct_49 : decode cX3_callAct 49 = .ok (.ldc 196, 2) := by decide +kernel
theorem dX3_callAct_51 : decode cX3_callAct 51 = .ok (.invokevirtual 99, 3) := by decide +kernel
theorem dX3_callAct_54 : decode cX3_callAct 54 = .ok (.ifCond .eq 7, 3) := by decide +kernel
theorem dX3_callAct_57 : decode cX3_callAct 57 = .ok (.iconst 2, 1) := by decide +kernel
theorem dX3_callAct_58 : decode cX3_callAct 58 = .ok (.goto 4, 3) := by decide +kernel
theorem dX3_callAct_61 : decode cX3_callAct 61 = .ok (.iconst (-1), 1) := by decide +kernel
theorem dX3_callAct_62 : decode cX3_callAct 62 = .ok (.putfield 56, 3) := by decide +kernel
theorem dX3_callAct_65 : decode cX3_callAct 65 = .ok (.iload_n 1, 1) := by decide +kernel
theorem dX3_callAct_66 : decode cX3_callAct 66 = .ok (.aload_n 0, 1) := by decide +kernel
theorem dX3_callAct_67 : decode cX3_callAct 67 = .ok (.getfield 56, 3) := by decide +kernel
theorem dX3_callAct_70 : decode cX3_callAct 70 = .ok (.invokestatic 198, 3) := by decide +kernel
theorem dX3_callAct_73 : decode cX3_callAct 73 = .ok (.ifCond .ne 9, 3) := by decide +kernel
theorem dX3_callAct_76 : decode cX3_callAct 76 = .ok (.aload_n 0, 1) := by decide +kernel
theorem dX3_callAct_77 : decode cX3_callAct 77 = .ok (.iconst 1, 1) := by decide +kernel
theorem dX3_callAct_78 : decode cX3_callAct 78 = .ok (.invokevirtual 83, 3) := by decide +kernel
theorem dX3_callAct_81 : decode cX3_callAct 81 = .ok (.ireturn, 1) := by decide +kernel
theorem dX3_callAct_82 : decode cX3_callAct 82 = .ok (.aload_n 0, 1) := by decide +kernel
theorem dX3_callAct_83 : decode cX3_callAct 83 = .ok (.getfield 12, 3) := by decide +kernel
theorem dX3_callAct_86 : decode cX3_callAct 86 = .ok (.invokevirtual 80, 3) := by decide +kernel
theorem dX3_callAct_89 : decode cX3_callAct 89 = .ok (.aload_n 0, 1) := by decide +kernel
theorem dX3_callAct_90 : decode cX3_callAct 90 = .ok (.iconst 0, 1) := by decide +kernel
theorem dX3_callAct_91 : decode cX3_callAct 91 = .ok (.putfield 59, 3) := by decide +kernel
theorem dX3_callAct_94 : decode cX3_callAct 94 = .ok (.iload_n 1, 1) := by decide +kernel
theorem dX3_callAct_95 : decode cX3_callAct 95 = .ok (.aload_n 0, 1) := by decide +kernel
theorem dX3_callAct_96 : decode cX3_callAct 96 = .ok (.getfield 56, 3) := by decide +kernel
theorem dX3_callAct_99 : decode cX3_callAct 99 = .ok (.invokestatic 201, 3) := by decide +kernel
theorem dX3_callAct_102 : decode cX3_callAct 102 = .ok (.ifCond .eq 33, 3) := by decide +kernel
theorem dX3_callAct_105 : decode cX3_callAct 105 = .ok (.aload_n 0, 1) := by decide +kernel
theorem dX3_callAct_106 : decode cX3_callAct 106 = .ok (.iconst 0, 1) := by decide +kernel
theorem dX3_callAct_107 : decode cX3_callAct 107 = .ok (.bipush 9, 2) := by decide +kernel
theorem dX3_callAct_109 : decode cX3_callAct 109 = .ok (.invokevirtual 138, 3) := by decide +kernel
theorem dX3_callAct_112 : decode cX3_callAct 112 = .ok (.ifCond .ne 5, 3) := by decide +kernel
theorem dX3_callAct_115 : decode cX3_callAct 115 = .ok (.iconst 0, 1) := by decide +kernel
theorem dX3_callAct_116 : decode cX3_callAct 116 = .ok (.ireturn, 1) := by decide +kernel
theorem dX3_callAct_117 : decode cX3_callAct 117 = .ok (.aload_n 0, 1) := by decide +kernel
theorem dX3_callAct_118 : decode cX3_callAct 118 = .ok (.aload_n 0, 1) := by decide +kernel
theorem dX3_callAct_119 : decode cX3_callAct 119 = .ok (.getfield 12, 3) := by decide +kernel
theorem dX3_callAct_122 : decode cX3_callAct 122 = .ok (.getfield 119, 3) := by decide +kernel
theorem dX3_callAct_125 : decode cX3_callAct 125 = .ok (.putfield 59, 3) := by decide +kernel
theorem dX3_callAct_128 : decode cX3_callAct 128 = .ok (.aload_n 0, 1) := by decide +kernel
theorem dX3_callAct_129 : decode cX3_callAct 129 = .ok (.getfield 12, 3) := by decide +kernel
theorem dX3_callAct_132 : decode cX3_callAct 132 = .ok (.invokevirtual 80, 3) := by decide +kernel
theorem dX3_callAct_135 : decode cX3_callAct 135 = .ok (.iconst 1, 1) := by decide +kernel
theorem dX3_callAct_136 : decode cX3_callAct 136 = .ok (.ireturn, 1) := by decide +kernel
theorem dX3_callTimes_0 : decode cX3_callTimes 0 = .ok (.aload_n 0, 1) := by decide +kernel
theorem dX3_callTimes_1 : decode cX3_callTimes 1 = .ok (.getfield 28, 3) := by decide +kernel
theorem dX3_callTimes_4 : decode cX3_callTimes 4 = .ok (.aload_n 0, 1) := by decide +kernel
theorem dX3_callTimes_5 : decode cX3_callTimes 5 = .ok (.getfield 50, 3) := by decide +kernel
theorem dX3_callTimes_8 : decode cX3_callTimes 8 = .ok (.invokevirtual 182, 3) := by decide +kernel
theorem dX3_callTimes_11 : decode cX3_callTimes 11 = .ok (.istore_n 1, 1) := by decide +kernel
theorem dX3_callTimes_12 : decode cX3_callTimes 12 = .ok (.aload_n 0, 1) := by decide +kernel
theorem dX3_callTimes_13 : decode cX3_callTimes 13 = .ok (.ldc 204, 2) := by decide +kernel
theorem dX3_callTimes_15 : decode cX3_callTimes 15 = .ok (.invokevirtual 135, 3) := by decide +kernel
theorem dX3_callTimes_18 : decode cX3_callTimes 18 = .ok (.ifCond .eq 31, 3) := by decide +kernel
theorem dX3_callTimes_21 : decode cX3_callTimes 21 = .ok (.aload_n 0, 1) := by decide +kernel
theorem dX3_callTimes_22 : decode cX3_callTimes 22 = .ok (.iload_n 1, 1) := by decide +kernel
theorem dX3_callTimes_23 : decode cX3_callTimes 23 = .ok (.ifCond .ge 7, 3) := by decide +kernel
theorem dX3_callTimes_26 : decode cX3_callTimes 26 = .ok (.iconst 0, 1) := by decide +kernel
theorem dX3_callTimes_27 : decode cX3_callTimes 27 = .ok (.goto 13, 3) := by decide +kernel
theorem dX3_callTimes_30 : decode cX3_callTimes 30 = .ok (.aload_n 0, 1) := by decide +kernel
theorem dX3_callTimes_31 : decode cX3_callTimes 31 = .ok (.getfield 28, 3) := by decide +kernel
theorem dX3_callTimes_34 : decode cX3_callTimes 34 = .ok (.iload_n 1, 1) := by decide +kernel
theorem dX3_callTimes_35 : decode cX3_callTimes 35 = .ok (.invokevirtual 206, 3) := by decide +kernel
theorem dX3_callTimes_38 : decode cX3_callTimes 38 = .ok (.iconst 1, 1) := by decide +kernel
theorem dX3_callTimes_39 : decode cX3_callTimes 39 = .ok (.iadd, 1) := by decide +kernel
theorem dX3_callTimes_40 : decode cX3_callTimes 40 = .ok (.sipush 999, 3) := by decide +kernel
theorem dX3_callTimes_43 : decode cX3_callTimes 43 = .ok (.invokevirtual 138, 3) := by decide +kernel
theorem dX3_callTimes_46 : decode cX3_callTimes 46 = .ok (.ifCond .ne 5, 3) := by decide +kernel
theorem dX3_callTimes_49 : decode cX3_callTimes 49 = .ok (.iconst 0, 1) := by decide +kernel
theorem dX3_callTimes_50 : decode cX3_callTimes 50 = .ok (.ireturn, 1) := by decide +kernel
theorem dX3_callTimes_51 : decode cX3_callTimes 51 = .ok (.aload_n 0, 1) := by decide +kernel
theorem dX3_callTimes_52 : decode cX3_callTimes 52 = .ok (.getfield 12, 3) := by decide +kernel
theorem dX3_callTimes_55 : decode cX3_callTimes 55 = .ok (.getfield 119, 3) := by decide +kernel
theorem dX3_callTimes_58 : decode cX3_callTimes 58 = .ok (.istore_n 2, 1) := by decide +kernel
theorem dX3_callTimes_59 : decode cX3_callTimes 59 = .ok (.aload_n 0, 1) := by decide +kernel
theorem dX3_callTimes_60 : decode cX3_callTimes 60 = .ok (.getfield 12, 3) := by decide +kernel
theorem dX3_callTimes_63 : decode cX3_callTimes 63 = .ok (.invokevirtual 80, 3) := by decide +kernel
theorem dX3_callTimes_66 : decode cX3_callTimes 66 = .ok (.aload_n 0, 1) := by decide +kernel
theorem dX3_callTimes_67 : decode cX3_callTimes 67 = .ok (.getfield 28, 3) := by decide +kernel
theorem dX3_callTimes_70 : decode cX3_callTimes 70 = .ok (.aload_n 0, 1) := by decide +kernel
theorem dX3_callTimes_71 : decode cX3_callTimes 71 = .ok (.getfield 50, 3) := by decide +kernel
theorem dX3_callTimes_74 : decode cX3_callTimes 74 = .ok (.aload_n 0, 1) := by decide +kernel
theorem dX3_callTimes_75 : decode cX3_callTimes 75 = .ok (.getfield 53, 3) := by decide +kernel
theorem dX3_callTimes_78 : decode cX3_callTimes 78 = .ok (.aload_n 0, 1) := by decide +kernel
theorem dX3_callTimes_79 : decode cX3_callTimes 79 = .ok (.getfield 56, 3) := by decide +kernel
theorem dX3_callTimes_82 : decode cX3_callTimes 82 = .ok (.aload_n 0, 1) := by decide +kernel
theorem dX3_callTimes_83 : decode cX3_callTimes 83 = .ok (.getfield 59, 3) := by decide +kernel
theorem dX3_callTimes_86 : decode cX3_callTimes 86 = .ok (.iload_n 2, 1) := by decide +kernel
theorem dX3_callTimes_87 : decode cX3_callTimes 87 = .ok (.invokevirtual 209, 3) := by decide +kernel
theorem dX3_callTimes_90 : decode cX3_callTimes 90 = .ok (.istore_n 3, 1) := by decide +kernel
theorem dX3_callTimes_91 : decode cX3_callTimes 91 = .ok (.aload_n 0, 1) := by decide +kernel
theorem dX3_callTimes_92 : decode cX3_callTimes 92 = .ok (.getfield 12, 3) := by decide +kernel
theorem dX3_callTimes_95 : decode cX3_callTimes 95 = .ok (.ldc 213, 2) := by decide +kernel
theorem dX3_callTimes_97 : decode cX3_callTimes 97 = .ok (.invokevirtual 99, 3) := by decide +kernel
theorem dX3_callTimes_100 : decode cX3_callTimes 100 = .ok (.ifCond .eq 12, 3) := by decide +kernel
theorem dX3_callTimes_103 : decode cX3_callTimes 103 = .ok (.aload_n 0, 1) := by decide +kernel
theorem dX3_callTimes_104 : decode cX3_callTimes 104 = .ok (.getfield 12, 3) := by decide +kernel
theorem dX3_callTimes_107 : decode cX3_callTimes 107 = .ok (.invokevirtual 80, 3) := by decide +kernel
theorem dX3_callTimes_110 : decode cX3_callTimes 110 = .ok (.iconst 1, 1) := by decide +kernel
theorem dX3_callTimes_111 : decode cX3_callTimes 111 = .ok (.ireturn, 1) := by decide +kernel
theorem dX3_callTimes_112 : decode cX3_callTimes 112 = .ok (.aload_n 0, 1) := by decide +kernel
theorem dX3_callTimes_113 : decode cX3_callTimes 113 = .ok (.ldc 215, 2) := by decide +kernel
theorem dX3_callTimes_115 : decode cX3_callTimes 115 = .ok (.invokevirtual 135, 3) := by decide +kernel
theorem dX3_callTimes_118 : decode cX3_callTimes 118 = .ok (.ifCond .eq 14, 3) := by decide +kernel
theorem dX3_callTimes_121 : decode cX3_callTimes 121 = .ok (.aload_n 0, 1) := by decide +kernel
theorem dX3_callTimes_122 : decode cX3_callTimes 122 = .ok (.iload_n 2, 1) := by decide +kernel
theorem dX3_callTimes_123 : decode cX3_callTimes 123 = .ok (.sipush 999, 3) := by decide +kernel
theorem dX3_callTimes_126 : decode cX3_callTimes 126 = .ok (.invokevirtual 138, 3) := by decide +kernel
theorem dX3_callTimes_129 : decode cX3_callTimes 129 = .ok (.ifCond .ne 5, 3) := by decide +kernel
theorem dX3_callTimes_132 : decode cX3_callTimes 132 = .ok (.iconst 0, 1) := by decide +kernel
theorem dX3_callTimes_133 : decode cX3_callTimes 133 = .ok (.ireturn, 1) := by decide +kernel
theorem dX3_callTimes_134 : decode cX3_callTimes 134 = .ok (.aload_n 0, 1) := by decide +kernel
theorem dX3_callTimes_135 : decode cX3_callTimes 135 = .ok (.getfield 12, 3) := by decide +kernel
theorem dX3_callTimes_138 : decode cX3_callTimes 138 = .ok (.getfield 119, 3) := by decide +kernel
theorem dX3_callTimes_141 : decode cX3_callTimes 141 = .ok (.istore 4, 2) := by decide +kernel
theorem dX3_callTimes_143 : decode cX3_callTimes 143 = .ok (.aload_n 0, 1) := by decide +kernel
theorem dX3_callTimes_144 : decode cX3_callTimes 144 = .ok (.getfield 12, 3) := by decide +kernel
theorem dX3_callTimes_147 : decode cX3_callTimes 147 = .ok (.invokevirtual 80, 3) := by decide +kernel
theorem dX3_callTimes_150 : decode cX3_callTimes 150 = .ok (.aload_n 0, 1) := by decide +kernel
theorem dX3_callTimes_151 : decode cX3_callTimes 151 = .ok (.ldc 217, 2) := by decide +kernel
theorem dX3_callTimes_153 : decode cX3_callTimes 153 = .ok (.invokevirtual 135, 3) := by decide +kernel
theorem dX3_callTimes_156 : decode cX3_callTimes 156 = .ok (.ifCond .eq 13, 3) := by decide +kernel
theorem dX3_callTimes_159 : decode cX3_callTimes 159 = .ok (.aload_n 0, 1) := by decide +kernel
theorem dX3_callTimes_160 : decode cX3_callTimes 160 = .ok (.iconst 0, 1) := by decide +kernel
theorem dX3_callTimes_161 : decode cX3_callTimes 161 = .ok (.bipush 99, 2) := by decide +kernel
theorem dX3_callTimes_163 : decode cX3_callTimes 163 = .ok (.invokevirtual 138, 3) := by decide +kernel
theorem dX3_callTimes_166 : decode cX3_callTimes 166 = .ok (.ifCond .ne 5, 3) := by decide +kernel
theorem dX3_callTimes_169 : decode cX3_callTimes 169 = .ok (.iconst 0, 1) := by decide +kernel
theorem dX3_callTimes_170 : decode cX3_callTimes 170 = .ok (.ireturn, 1) := by decide +kernel
theorem dX3_callTimes_171 : decode cX3_callTimes 171 = .ok (.aload_n 0, 1) := by decide +kernel
theorem dX3_callTimes_172 : decode cX3_callTimes 172 = .ok (.getfield 28, 3) := by decide +kernel
theorem dX3_callTimes_175 : decode cX3_callTimes 175 = .ok (.iload_n 3, 1) := by decide +kernel
theorem dX3_callTimes_176 : decode cX3_callTimes 176 = .ok (.iload 4, 2) := by decide +kernel
theorem dX3_callTimes_178 : decode cX3_callTimes 178 = .ok (.aload_n 0, 1) := by decide +kernel
theorem dX3_callTimes_179 : decode cX3_callTimes 179 = .ok (.getfield 12, 3) := by decide +kernel
theorem dX3_callTimes_182 : decode cX3_callTimes 182 = .ok (.getfield 119, 3) := by decide +kernel
theorem dX3_callTimes_185 : decode cX3_callTimes 185 = .ok (.invokevirtual 218, 3) := by decide +kernel
theorem dX3_callTimes_188 : decode cX3_callTimes 188 = .ok (.aload_n 0, 1) := by decide +kernel
theorem dX3_callTimes_189 : decode cX3_callTimes 189 = .ok (.getfield 12, 3) := by decide +kernel
theorem dX3_callTimes_192 : decode cX3_callTimes 192 = .ok (.invokevirtual 80, 3) := by decide +kernel
theorem dX3_callTimes_195 : decode cX3_callTimes 195 = .ok (.iconst 1, 1) := by decide +kernel
theorem dX3_callTimes_196 : decode cX3_callTimes 196 = .ok (.ireturn, 1) := by decide +kernel
theorem dX9_init_0 : decode cX9_init 0 = .ok (.aload_n 0, 1) := by decide +kernel
theorem dX9_init_1 : decode cX9_init 1 = .ok (.invokespecial 1, 3) := by decide +kernel
theorem dX9_init_4 : decode cX9_init 4 = .ok (.aload_n 0, 1) := by decide +kernel
theorem dX9_init_5 : decode cX9_init 5 = .ok (.new 7, 3) := by decide +kernel
theorem dX9_init_8 : decode cX9_init 8 = .ok (.dup, 1) := by decide +kernel
theorem dX9_init_9 : decode cX9_init 9 = .ok (.invokespecial 9, 3) := by decide +kernel
theorem dX9_init_12 : decode cX9_init 12 = .ok (.putfield 10, 3) := by decide +kernel
theorem dX9_init_15 : decode cX9_init 15 = .ok (.aload_n 0, 1) := by decide +kernel
theorem dX9_init_16 : decode cX9_init 16 = .ok (.new 16, 3) := by decide +kernel
theorem dX9_init_19 : decode cX9_init 19 = .ok (.dup, 1) := by decide +kernel
theorem dX9_init_20 : decode cX9_init 20 = .ok (.invokespecial 18, 3) := by decide +kernel
theorem dX9_init_23 : decode cX9_init 23 = .ok (.putfield 19, 3) := by decide +kernel
theorem dX9_init_26 : decode cX9_init 26 = .ok (.aload_n 0, 1) := by decide +kernel
theorem dX9_init_27 : decode cX9_init 27 = .ok (.new 16, 3) := by decide +kernel
theorem dX9_init_30 : decode cX9_init 30 = .ok (.dup, 1) := by decide +kernel
theorem dX9_init_31 : decode cX9_init 31 = .ok (.invokespecial 18, 3) := by decide +kernel
theorem dX9_init_34 : decode cX9_init 34 = .ok (.putfield 23, 3) := by decide +kernel
theorem dX9_init_37 : decode cX9_init 37 = .ok (.aload_n 0, 1) := by decide +kernel
theorem dX9_init_38 : decode cX9_init 38 = .ok (.iconst 3, 1) := by decide +kernel
theorem dX9_init_39 : decode cX9_init 39 = .ok (.anewarray 16, 3) := by decide +kernel
theorem dX9_init_42 : decode cX9_init 42 = .ok (.putfield 26, 3) := by decide +kernel
theorem dX9_init_45 : decode cX9_init 45 = .ok (.aload_n 0, 1) := by decide +kernel
theorem dX9_init_46 : decode cX9_init 46 = .ok (.iconst 3, 1) := by decide +kernel
theorem dX9_init_47 : decode cX9_init 47 = .ok (.newarray .int, 2) := by decide +kernel
theorem dX9_init_49 : decode cX9_init 49 = .ok (.putfield 30, 3) := by decide +kernel
theorem dX9_init_52 : decode cX9_init 52 = .ok (.aload_n 0, 1) := by decide +kernel
theorem dX9_init_53 : decode cX9_init 53 = .ok (.new 34, 3) := by decide +kernel
theorem dX9_init_56 : decode cX9_init 56 = .ok (.dup, 1) := by decide +kernel
theorem dX9_init_57 : decode cX9_init 57 = .ok (.invokespecial 36, 3) := by decide +kernel
theorem dX9_init_60 : decode cX9_init 60 = .ok (.putfield 37, 3) := by decide +kernel
theorem dX9_init_63 : decode cX9_init 63 = .ok (.aload_n 0, 1) := by decide +kernel
theorem dX9_init_64 : decode cX9_init 64 = .ok (.new 41, 3) := by decide +kernel
theorem dX9_init_67 : decode cX9_init 67 = .ok (.dup, 1) := by decide +kernel
theorem dX9_init_68 : decode cX9_init 68 = .ok (.aload_n 0, 1) := by decide +kernel
theorem dX9_init_69 : decode cX9_init 69 = .ok (.getfield 10, 3) := by decide +kernel
theorem dX9_init_72 : decode cX9_init 72 = .ok (.invokespecial 43, 3) := by decide +kernel
theorem dX9_init_75 : decode cX9_init 75 = .ok (.putfield 46, 3) := by decide +kernel
theorem dX9_init_78 : decode cX9_init 78 = .ok (.aload_n 0, 1) := by decide +kernel
theorem dX9_init_79 : decode cX9_init 79 = .ok (.new 50, 3) := by decide +kernel
theorem dX9_init_82 : decode cX9_init 82 = .ok (.dup, 1) := by decide +kernel
theorem dX9_init_83 : decode cX9_init 83 = .ok (.aload_n 0, 1) := by decide +kernel
theorem dX9_init_84 : decode cX9_init 84 = .ok (.getfield 10, 3) := by decide +kernel
theorem dX9_init_87 : decode cX9_init 87 = .ok (.invokespecial 52, 3) := by decide +kernel
theorem dX9_init_90 : decode cX9_init 90 = .ok (.putfield 53, 3) := by decide +kernel
theorem dX9_init_93 : decode cX9_init 93 = .ok (.aload_n 0, 1) := by decide +kernel
theorem dX9_init_94 : decode cX9_init 94 = .ok (.iconst 0, 1) := by decide +kernel
theorem dX9_init_95 : decode cX9_init 95 = .ok (.putfield 57, 3) := by decide +kernel
theorem dX9_init_98 : decode cX9_init 98 = .ok (.aload_n 0, 1) := by decide +kernel
theorem dX9_init_99 : decode cX9_init 99 = .ok (.iconst 0, 1) := by decide +kernel
theorem dX9_init_100 : decode cX9_init 100 = .ok (.putfield 61, 3) := by decide +kernel
theorem dX9_init_103 : decode cX9_init 103 = .ok (.aload_n 0, 1) := by decide +kernel
theorem dX9_init_104 : decode cX9_init 104 = .ok (.iconst 0, 1) := by decide +kernel
theorem dX9_init_105 : decode cX9_init 105 = .ok (.putfield 64, 3) := by decide +kernel
theorem dX9_init_108 : decode cX9_init 108 = .ok (.iconst 0, 1) := by decide +kernel
theorem dX9_init_109 : decode cX9_init 109 = .ok (.istore_n 1, 1) := by decide +kernel
theorem dX9_init_110 : decode cX9_init 110 = .ok (.iload_n 1, 1) := by decide +kernel
theorem dX9_init_111 : decode cX9_init 111 = .ok (.iconst 3, 1) := by decide +kernel
theorem dX9_init_112 : decode cX9_init 112 = .ok (.if_icmp .ge 22, 3) := by decide +kernel
theorem dX9_init_115 : decode cX9_init 115 = .ok (.aload_n 0, 1) := by decide +kernel
theorem dX9_init_116 : decode cX9_init 116 = .ok (.getfield 26, 3) := by decide +kernel
theorem dX9_init_119 : decode cX9_init 119 = .ok (.iload_n 1, 1) := by decide +kernel
theorem dX9_init_120 : decode cX9_init 120 = .ok (.new 16, 3) := by decide +kernel
theorem dX9_init_123 : decode cX9_init 123 = .ok (.dup, 1) := by decide +kernel
theorem dX9_init_124 : decode cX9_init 124 = .ok (.invokespecial 18, 3) := by decide +kernel
theorem dX9_init_127 : decode cX9_init 127 = .ok (.aastore, 1) := by decide +kernel
theorem dX9_init_128 : decode cX9_init 128 = .ok (.iinc 1 1, 3) := by decide +kernel
theorem dX9_init_131 : decode cX9_init 131 = .ok (.goto (-21), 3) := by decide +kernel
theorem dX9_init_134 : decode cX9_init 134 = .ok (.return_, 1) := by decide +kernel
theorem dX9_feed_0 : decode cX9_feed 0 = .ok (.aload_n 0, 1) := by decide +kernel
theorem dX9_feed_1 : decode cX9_feed 1 = .ok (.getfield 37, 3) := by decide +kernel
theorem dX9_feed_4 : decode cX9_feed 4 = .ok (.getfield 67, 3) := by decide +kernel
theorem dX9_feed_7 : decode cX9_feed 7 = .ok (.astore 6, 2) := by decide +kernel
theorem dX9_feed_9 : decode cX9_feed 9 = .ok (.aload 6, 2) := by decide +kernel
theorem dX9_feed_11 : decode cX9_feed 11 = .ok (.bipush 20, 2) := by decide +kernel
theorem dX9_feed_13 : decode cX9_feed 13 = .ok (.invokevirtual 71, 3) := by decide +kernel
theorem dX9_feed_16 : decode cX9_feed 16 = .ok (.ifCond .ne 5, 3) := by decide +kernel
theorem dX9_feed_19 : decode cX9_feed 19 = .ok (.iconst (-1), 1) := by decide +kernel
theorem dX9_feed_20 : decode cX9_feed 20 = .ok (.ireturn, 1) := by decide +kernel
theorem dX9_feed_21 : decode cX9_feed 21 = .ok (.aload 6, 2) := by decide +kernel
theorem dX9_feed_23 : decode cX9_feed 23 = .ok (.iload_n 1, 1) := by decide +kernel
theorem dX9_feed_24 : decode cX9_feed 24 = .ok (.invokevirtual 77, 3) := by decide +kernel
theorem dX9_feed_27 : decode cX9_feed 27 = .ok (.aload 6, 2) := by decide +kernel
theorem dX9_feed_29 : decode cX9_feed 29 = .ok (.iload_n 2, 1) := by decide +kernel
theorem dX9_feed_30 : decode cX9_feed 30 = .ok (.invokevirtual 77, 3) := by decide +kernel
theorem dX9_feed_33 : decode cX9_feed 33 = .ok (.aload 6, 2) := by decide +kernel
theorem dX9_feed_35 : decode cX9_feed 35 = .ok (.iload_n 3, 1) := by decide +kernel
theorem dX9_feed_36 : decode cX9_feed 36 = .ok (.invokevirtual 77, 3) := by decide +kernel
theorem dX9_feed_39 : decode cX9_feed 39 = .ok (.aload 6, 2) := by decide +kernel
theorem dX9_feed_41 : decode cX9_feed 41 = .ok (.iload 4, 2) := by decide +kernel
theorem dX9_feed_43 : decode cX9_feed 43 = .ok (.invokevirtual 77, 3) := by decide +kernel
theorem dX9_feed_46 : decode cX9_feed 46 = .ok (.aload 6, 2) := by decide +kernel
theorem dX9_feed_48 : decode cX9_feed 48 = .ok (.iload 5, 2) := by decide +kernel
theorem dX9_feed_50 : decode cX9_feed 50 = .ok (.invokevirtual 77, 3) := by decide +kernel
theorem dX9_feed_53 : decode cX9_feed 53 = .ok (.aload 6, 2) := by decide +kernel
theorem dX9_feed_55 : decode cX9_feed 55 = .ok (.getfield 81, 3) := by decide +kernel
theorem dX9_feed_58 : decode cX9_feed 58 = .ok (.ireturn, 1) := by decide +kernel
theorem dX9_book_0 : decode cX9_book 0 = .ok (.iload_n 1, 1) := by decide +kernel
theorem dX9_book_1 : decode cX9_book 1 = .ok (.ifCond .lt 17, 3) := by decide +kernel
theorem dX9_book_4 : decode cX9_book 4 = .ok (.iload_n 1, 1) := by decide +kernel
theorem dX9_book_5 : decode cX9_book 5 = .ok (.aload_n 0, 1) := by decide +kernel
theorem dX9_book_6 : decode cX9_book 6 = .ok (.getfield 37, 3) := by decide +kernel
theorem dX9_book_9 : decode cX9_book 9 = .ok (.getfield 67, 3) := by decide +kernel
theorem dX9_book_12 : decode cX9_book 12 = .ok (.getfield 81, 3) := by decide +kernel
theorem dX9_book_15 : decode cX9_book 15 = .ok (.if_icmp .le 9, 3) := by decide +kernel
theorem dX9_book_18 : decode cX9_book 18 = .ok (.aload_n 0, 1) := by decide +kernel
theorem dX9_book_19 : decode cX9_book 19 = .ok (.iconst 2, 1) := by decide +kernel
theorem dX9_book_20 : decode cX9_book 20 = .ok (.invokevirtual 84, 3) := by decide +kernel
theorem dX9_book_23 : decode cX9_book 23 = .ok (.ireturn, 1) := by decide +kernel
theorem dX9_book_24 : decode cX9_book 24 = .ok (.aload_n 0, 1) := by decide +kernel
theorem dX9_book_25 : decode cX9_book 25 = .ok (.getfield 37, 3) := by decide +kernel
theorem dX9_book_28 : decode cX9_book 28 = .ok (.iload_n 1, 1) := by decide +kernel
theorem dX9_book_29 : decode cX9_book 29 = .ok (.invokevirtual 88, 3) := by decide +kernel
theorem dX9_book_32 : decode cX9_book 32 = .ok (.ifCond .ne 9, 3) := by decide +kernel
theorem dX9_book_35 : decode cX9_book 35 = .ok (.aload_n 0, 1) := by decide +kernel
theorem dX9_book_36 : decode cX9_book 36 = .ok (.iconst 4, 1) := by decide +kernel
theorem dX9_book_37 : decode cX9_book 37 = .ok (.invokevirtual 84, 3) := by decide +kernel
theorem dX9_book_40 : decode cX9_book 40 = .ok (.ireturn, 1) := by decide +kernel
theorem dX9_book_41 : decode cX9_book 41 = .ok (.aload_n 0, 1) := by decide +kernel
theorem dX9_book_42 : decode cX9_book 42 = .ok (.getfield 10, 3) := by decide +kernel
theorem dX9_book_45 : decode cX9_book 45 = .ok (.aload_n 0, 1) := by decide +kernel
theorem dX9_book_46 : decode cX9_book 46 = .ok (.getfield 37, 3) := by decide +kernel
theorem dX9_book_49 : decode cX9_book 49 = .ok (.getfield 91, 3) := by decide +kernel
theorem dX9_book_52 : decode cX9_book 52 = .ok (.invokevirtual 92, 3) := by decide +kernel
theorem dX9_book_55 : decode cX9_book 55 = .ok (.aload_n 0, 1) := by decide +kernel
theorem dX9_book_56 : decode cX9_book 56 = .ok (.getfield 19, 3) := by decide +kernel
theorem dX9_book_59 : decode cX9_book 59 = .ok (.aload_n 0, 1) := by decide +kernel
theorem dX9_book_60 : decode cX9_book 60 = .ok (.getfield 37, 3) := by decide +kernel
theorem dX9_book_63 : decode cX9_book 63 = .ok (.getfield 95, 3) := by decide +kernel
theorem dX9_book_66 : decode cX9_book 66 = .ok (.invokevirtual 96, 3) := by decide +kernel
theorem dX9_book_69 : decode cX9_book 69 = .ok (.aload_n 0, 1) := by decide +kernel
theorem dX9_book_70 : decode cX9_book 70 = .ok (.iconst 0, 1) := by decide +kernel
theorem dX9_book_71 : decode cX9_book 71 = .ok (.putfield 61, 3) := by decide +kernel
theorem dX9_book_74 : decode cX9_book 74 = .ok (.aload_n 0, 1) := by decide +kernel
theorem dX9_book_75 : decode cX9_book 75 = .ok (.iconst 0, 1) := by decide +kernel
theorem dX9_book_76 : decode cX9_book 76 = .ok (.putfield 57, 3) := by decide +kernel
theorem dX9_book_79 : decode cX9_book 79 = .ok (.aload_n 0, 1) := by decide +kernel
theorem dX9_book_80 : decode cX9_book 80 = .ok (.aload_n 0, 1) := by decide +kernel
theorem dX9_book_81 : decode cX9_book 81 = .ok (.getfield 19, 3) := by decide +kernel
theorem dX9_book_84 : decode cX9_book 84 = .ok (.getfield 99, 3) := by decide +kernel
theorem dX9_book_87 : decode cX9_book 87 = .ok (.invokevirtual 102, 3) := by decide +kernel
theorem dX9_book_90 : decode cX9_book 90 = .ok (.ireturn, 1) := by decide +kernel
theorem dX9_fault_0 : decode cX9_fault 0 = .ok (.aload_n 0, 1) := by decide +kernel
theorem dX9_fault_1 : decode cX9_fault 1 = .ok (.getfield 37, 3) := by decide +kernel
theorem dX9_fault_4 : decode cX9_fault 4 = .ok (.getfield 105, 3) := by decide +kernel
theorem dX9_fault_7 : decode cX9_fault 7 = .ok (.ireturn, 1) := by decide +kernel
theorem dX9_where_0 : decode cX9_where 0 = .ok (.aload_n 0, 1) := by decide +kernel
theorem dX9_where_1 : decode cX9_where 1 = .ok (.getfield 64, 3) := by decide +kernel
theorem dX9_where_4 : decode cX9_where 4 = .ok (.iconst 4, 1) := by decide +kernel
theorem dX9_where_5 : decode cX9_where 5 = .ok (.if_icmp .ne 13, 3) := by decide +kernel
theorem dX9_where_8 : decode cX9_where 8 = .ok (.aload_n 0, 1) := by decide +kernel
theorem dX9_where_9 : decode cX9_where 9 = .ok (.getfield 37, 3) := by decide +kernel
theorem dX9_where_12 : decode cX9_where 12 = .ok (.getfield 108, 3) := by decide +kernel
theorem dX9_where_15 : decode cX9_where 15 = .ok (.goto 4, 3) := by decide +kernel
theorem dX9_where_18 : decode cX9_where 18 = .ok (.iconst (-1), 1) := by decide +kernel
theorem dX9_where_19 : decode cX9_where 19 = .ok (.ireturn, 1) := by decide +kernel
theorem dX9_can_0 : decode cX9_can 0 = .ok (.aload_n 0, 1) := by decide +kernel
theorem dX9_can_1 : decode cX9_can 1 = .ok (.iload_n 1, 1) := by decide +kernel
theorem dX9_can_2 : decode cX9_can 2 = .ok (.iconst 3, 1) := by decide +kernel
theorem dX9_can_3 : decode cX9_can 3 = .ok (.invokevirtual 111, 3) := by decide +kernel
theorem dX9_can_6 : decode cX9_can 6 = .ok (.ifCond .ne 9, 3) := by decide +kernel
theorem dX9_can_9 : decode cX9_can 9 = .ok (.aload_n 0, 1) := by decide +kernel
theorem dX9_can_10 : decode cX9_can 10 = .ok (.iconst 1, 1) := by decide +kernel
theorem dX9_can_11 : decode cX9_can 11 = .ok (.invokevirtual 84, 3) := by decide +kernel
theorem dX9_can_14 : decode cX9_can 14 = .ok (.ireturn, 1) := by decide +kernel
theorem dX9_can_15 : decode cX9_can 15 = .ok (.aload_n 0, 1) := by decide +kernel
theorem dX9_can_16 : decode cX9_can 16 = .ok (.getfield 46, 3) := by decide +kernel
theorem dX9_can_19 : decode cX9_can 19 = .ok (.aload_n 0, 1) := by decide +kernel
theorem dX9_can_20 : decode cX9_can 20 = .ok (.getfield 19, 3) := by decide +kernel
theorem dX9_can_23 : decode cX9_can 23 = .ok (.iload_n 1, 1) := by decide +kernel
theorem dX9_can_24 : decode cX9_can 24 = .ok (.invokevirtual 115, 3) := by decide +kernel
theorem dX9_can_27 : decode cX9_can 27 = .ok (.lstore_n 2, 1) := by decide +kernel
theorem dX9_can_28 : decode cX9_can 28 = .ok (.aload_n 0, 1) := by decide +kernel
theorem dX9_can_29 : decode cX9_can 29 = .ok (.lload_n 2, 1) := by decide +kernel
theorem dX9_can_30 : decode cX9_can 30 = .ok (.lconst 0, 1) := by decide +kernel
theorem dX9_can_31 : decode cX9_can 31 = .ok (.lcmp, 1) := by decide +kernel
theorem dX9_can_32 : decode cX9_can 32 = .ok (.ifCond .ge 8, 3) := by decide +kernel
theorem dX9_can_35 : decode cX9_can 35 = .ok (.bipush (-10), 2) := by decide +kernel
theorem dX9_can_37 : decode cX9_can 37 = .ok (.goto 14, 3) := by decide +kernel
theorem dX9_can_40 : decode cX9_can 40 = .ok (.lload_n 2, 1) := by decide +kernel
theorem dX9_can_41 : decode cX9_can 41 = .ok (.lconst 0, 1) := by decide +kernel
theorem dX9_can_42 : decode cX9_can 42 = .ok (.lcmp, 1) := by decide +kernel
theorem dX9_can_43 : decode cX9_can 43 = .ok (.ifCond .le 7, 3) := by decide +kernel
theorem dX9_can_46 : decode cX9_can 46 = .ok (.iconst 1, 1) := by decide +kernel
theorem dX9_can_47 : decode cX9_can 47 = .ok (.goto 4, 3) := by decide +kernel
theorem dX9_can_50 : decode cX9_can 50 = .ok (.iconst 0, 1) := by decide +kernel
theorem dX9_can_51 : decode cX9_can 51 = .ok (.invokevirtual 102, 3) := by decide +kernel
theorem dX9_can_54 : decode cX9_can 54 = .ok (.ireturn, 1) := by decide +kernel
theorem dX9_orders_0 : decode cX9_orders 0 = .ok (.aload_n 0, 1) := by decide +kernel
theorem dX9_orders_1 : decode cX9_orders 1 = .ok (.iload_n 1, 1) := by decide +kernel
theorem dX9_orders_2 : decode cX9_orders 2 = .ok (.iconst 3, 1) := by decide +kernel
theorem dX9_orders_3 : decode cX9_orders 3 = .ok (.invokevirtual 111, 3) := by decide +kernel
theorem dX9_orders_6 : decode cX9_orders 6 = .ok (.ifCond .ne 10, 3) := by decide +kernel
theorem dX9_orders_9 : decode cX9_orders 9 = .ok (.aload_n 0, 1) := by decide +kernel
theorem dX9_orders_10 : decode cX9_orders 10 = .ok (.iconst 1, 1) := by decide +kernel
theorem dX9_orders_11 : decode cX9_orders 11 = .ok (.invokevirtual 84, 3) := by decide +kernel
theorem dX9_orders_14 : decode cX9_orders 14 = .ok (.i2l, 1) := by decide +kernel
theorem dX9_orders_15 : decode cX9_orders 15 = .ok (.lreturn, 1) := by decide +kernel
theorem dX9_orders_16 : decode cX9_orders 16 = .ok (.aload_n 0, 1) := by decide +kernel
theorem dX9_orders_17 : decode cX9_orders 17 = .ok (.getfield 46, 3) := by decide +kernel
theorem dX9_orders_20 : decode cX9_orders 20 = .ok (.aload_n 0, 1) := by decide +kernel
theorem dX9_orders_21 : decode cX9_orders 21 = .ok (.getfield 19, 3) := by decide +kernel
theorem dX9_orders_24 : decode cX9_orders 24 = .ok (.iload_n 1, 1) := by decide +kernel
theorem dX9_orders_25 : decode cX9_orders 25 = .ok (.invokevirtual 115, 3) := by decide +kernel
theorem dX9_orders_28 : decode cX9_orders 28 = .ok (.lstore_n 2, 1) := by decide +kernel
theorem dX9_orders_29 : decode cX9_orders 29 = .ok (.lload_n 2, 1) := by decide +kernel
theorem dX9_orders_30 : decode cX9_orders 30 = .ok (.lconst 0, 1) := by decide +kernel
theorem dX9_orders_31 : decode cX9_orders 31 = .ok (.lcmp, 1) := by decide +kernel
theorem dX9_orders_32 : decode cX9_orders 32 = .ok (.ifCond .ge 10, 3) := by decide +kernel
theorem dX9_orders_35 : decode cX9_orders 35 = .ok (.aload_n 0, 1) := by decide +kernel
theorem dX9_orders_36 : decode cX9_orders 36 = .ok (.iconst 3, 1) := by decide +kernel
theorem dX9_orders_37 : decode cX9_orders 37 = .ok (.invokevirtual 84, 3) := by decide +kernel
theorem dX9_orders_40 : decode cX9_orders 40 = .ok (.i2l, 1) := by decide +kernel
theorem dX9_orders_41 : decode cX9_orders 41 = .ok (.lreturn, 1) := by decide +kernel
theorem dX9_orders_42 : decode cX9_orders 42 = .ok (.aload_n 0, 1) := by decide +kernel
theorem dX9_orders_43 : decode cX9_orders 43 = .ok (.iconst 0, 1) := by decide +kernel
theorem dX9_orders_44 : decode cX9_orders 44 = .ok (.putfield 64, 3) := by decide +kernel
theorem dX9_orders_47 : decode cX9_orders 47 = .ok (.lload_n 2, 1) := by decide +kernel
theorem dX9_orders_48 : decode cX9_orders 48 = .ok (.lreturn, 1) := by decide +kernel
theorem dX9_size_0 : decode cX9_size 0 = .ok (.aload_n 0, 1) := by decide +kernel
theorem dX9_size_1 : decode cX9_size 1 = .ok (.iload_n 1, 1) := by decide +kernel
theorem dX9_size_2 : decode cX9_size 2 = .ok (.iconst 2, 1) := by decide +kernel
theorem dX9_size_3 : decode cX9_size 3 = .ok (.invokevirtual 111, 3) := by decide +kernel
theorem dX9_size_6 : decode cX9_size 6 = .ok (.ifCond .eq 22, 3) := by decide +kernel
theorem dX9_size_9 : decode cX9_size 9 = .ok (.aload_n 0, 1) := by decide +kernel
theorem dX9_size_10 : decode cX9_size 10 = .ok (.aload_n 0, 1) := by decide +kernel
theorem dX9_size_11 : decode cX9_size 11 = .ok (.getfield 46, 3) := by decide +kernel
theorem dX9_size_14 : decode cX9_size 14 = .ok (.aload_n 0, 1) := by decide +kernel
theorem dX9_size_15 : decode cX9_size 15 = .ok (.getfield 19, 3) := by decide +kernel
theorem dX9_size_18 : decode cX9_size 18 = .ok (.iload_n 1, 1) := by decide +kernel
theorem dX9_size_19 : decode cX9_size 19 = .ok (.invokevirtual 119, 3) := by decide +kernel
theorem dX9_size_22 : decode cX9_size 22 = .ok (.invokevirtual 102, 3) := by decide +kernel
theorem dX9_size_25 : decode cX9_size 25 = .ok (.goto 8, 3) := by decide +kernel
theorem dX9_size_28 : decode cX9_size 28 = .ok (.aload_n 0, 1) := by decide +kernel
theorem dX9_size_29 : decode cX9_size 29 = .ok (.iconst 1, 1) := by decide +kernel
theorem dX9_size_30 : decode cX9_size 30 = .ok (.invokevirtual 84, 3) := by decide +kernel
theorem dX9_size_33 : decode cX9_size 33 = .ok (.ireturn, 1) := by decide +kernel
theorem dX9_order_0 : decode cX9_order 0 = .ok (.aload_n 0, 1) := by decide +kernel
theorem dX9_order_1 : decode cX9_order 1 = .ok (.iload_n 1, 1) := by decide +kernel
theorem dX9_order_2 : decode cX9_order 2 = .ok (.iconst 2, 1) := by decide +kernel
theorem dX9_order_3 : decode cX9_order 3 = .ok (.invokevirtual 111, 3) := by decide +kernel
theorem dX9_order_6 : decode cX9_order 6 = .ok (.ifCond .eq 7, 3) := by decide +kernel
theorem dX9_order_9 : decode cX9_order 9 = .ok (.iload_n 2, 1) := by decide +kernel
theorem dX9_order_10 : decode cX9_order 10 = .ok (.ifCond .ge 9, 3) := by decide +kernel
theorem dX9_order_13 : decode cX9_order 13 = .ok (.aload_n 0, 1) := by decide +kernel
theorem dX9_order_14 : decode cX9_order 14 = .ok (.iconst 1, 1) := by decide +kernel
theorem dX9_order_15 : decode cX9_order 15 = .ok (.invokevirtual 84, 3) := by decide +kernel
theorem dX9_order_18 : decode cX9_order 18 = .ok (.ireturn, 1) := by decide +kernel
theorem dX9_order_19 : decode cX9_order 19 = .ok (.aload_n 0, 1) := by decide +kernel
theorem dX9_order_20 : decode cX9_order 20 = .ok (.getfield 46, 3) := by decide +kernel
theorem dX9_order_23 : decode cX9_order 23 = .ok (.aload_n 0, 1) := by decide +kernel
theorem dX9_order_24 : decode cX9_order 24 = .ok (.getfield 19, 3) := by decide +kernel
theorem dX9_order_27 : decode cX9_order 27 = .ok (.iload_n 1, 1) := by decide +kernel
theorem dX9_order_28 : decode cX9_order 28 = .ok (.invokevirtual 119, 3) := by decide +kernel
theorem dX9_order_31 : decode cX9_order 31 = .ok (.istore_n 3, 1) := by decide +kernel
theorem dX9_order_32 : decode cX9_order 32 = .ok (.iload_n 3, 1) := by decide +kernel
theorem dX9_order_33 : decode cX9_order 33 = .ok (.ifCond .ge 9, 3) := by decide +kernel
theorem dX9_order_36 : decode cX9_order 36 = .ok (.aload_n 0, 1) := by decide +kernel
theorem dX9_order_37 : decode cX9_order 37 = .ok (.iload_n 3, 1) := by decide +kernel
theorem dX9_order_38 : decode cX9_order 38 = .ok (.invokevirtual 102, 3) := by decide +kernel
theorem dX9_order_41 : decode cX9_order 41 = .ok (.ireturn, 1) := by decide +kernel
theorem dX9_order_42 : decode cX9_order 42 = .ok (.iload_n 2, 1) := by decide +kernel
theorem dX9_order_43 : decode cX9_order 43 = .ok (.iload_n 3, 1) := by decide +kernel
theorem dX9_order_44 : decode cX9_order 44 = .ok (.if_icmp .ge 18, 3) := by decide +kernel
theorem dX9_order_47 : decode cX9_order 47 = .ok (.aload_n 0, 1) := by decide +kernel
theorem dX9_order_48 : decode cX9_order 48 = .ok (.aload_n 0, 1) := by decide +kernel
theorem dX9_order_49 : decode cX9_order 49 = .ok (.getfield 46, 3) := by decide +kernel
theorem dX9_order_52 : decode cX9_order 52 = .ok (.iload_n 2, 1) := by decide +kernel
theorem dX9_order_53 : decode cX9_order 53 = .ok (.invokevirtual 123, 3) := by decide +kernel
theorem dX9_order_56 : decode cX9_order 56 = .ok (.invokevirtual 102, 3) := by decide +kernel
theorem dX9_order_59 : decode cX9_order 59 = .ok (.goto 8, 3) := by decide +kernel
theorem dX9_order_62 : decode cX9_order 62 = .ok (.aload_n 0, 1) := by decide +kernel
theorem dX9_order_63 : decode cX9_order 63 = .ok (.iconst 1, 1) := by decide +kernel
theorem dX9_order_64 : decode cX9_order 64 = .ok (.invokevirtual 84, 3) := by decide +kernel
theorem dX9_order_67 : decode cX9_order 67 = .ok (.ireturn, 1) := by decide +kernel
theorem dX9_stands_0 : decode cX9_stands 0 = .ok (.aload_n 0, 1) := by decide +kernel
theorem dX9_stands_1 : decode cX9_stands 1 = .ok (.iload_n 1, 1) := by decide +kernel
theorem dX9_stands_2 : decode cX9_stands 2 = .ok (.iconst 2, 1) := by decide +kernel
theorem dX9_stands_3 : decode cX9_stands 3 = .ok (.invokevirtual 111, 3) := by decide +kernel
theorem dX9_stands_6 : decode cX9_stands 6 = .ok (.ifCond .eq 22, 3) := by decide +kernel
theorem dX9_stands_9 : decode cX9_stands 9 = .ok (.aload_n 0, 1) := by decide +kernel
theorem dX9_stands_10 : decode cX9_stands 10 = .ok (.aload_n 0, 1) := by decide +kernel
theorem dX9_stands_11 : decode cX9_stands 11 = .ok (.getfield 46, 3) := by decide +kernel
theorem dX9_stands_14 : decode cX9_stands 14 = .ok (.aload_n 0, 1) := by decide +kernel
theorem dX9_stands_15 : decode cX9_stands 15 = .ok (.getfield 19, 3) := by decide +kernel
theorem dX9_stands_18 : decode cX9_stands 18 = .ok (.iload_n 1, 1) := by decide +kernel
theorem dX9_stands_19 : decode cX9_stands 19 = .ok (.invokevirtual 126, 3) := by decide +kernel
theorem dX9_stands_22 : decode cX9_stands 22 = .ok (.invokevirtual 102, 3) := by decide +kernel
theorem dX9_stands_25 : decode cX9_stands 25 = .ok (.goto 8, 3) := by decide +kernel
theorem dX9_stands_28 : decode cX9_stands 28 = .ok (.aload_n 0, 1) := by decide +kernel
theorem dX9_stands_29 : decode cX9_stands 29 = .ok (.iconst 1, 1) := by decide +kernel
theorem dX9_stands_30 : decode cX9_stands 30 = .ok (.invokevirtual 84, 3) := by decide +kernel
theorem dX9_stands_33 : decode cX9_stands 33 = .ok (.ireturn, 1) := by decide +kernel
theorem dX9_ends_0 : decode cX9_ends 0 = .ok (.aload_n 0, 1) := by decide +kernel
theorem dX9_ends_1 : decode cX9_ends 1 = .ok (.iload_n 1, 1) := by decide +kernel
theorem dX9_ends_2 : decode cX9_ends 2 = .ok (.iconst 2, 1) := by decide +kernel
theorem dX9_ends_3 : decode cX9_ends 3 = .ok (.invokevirtual 111, 3) := by decide +kernel
theorem dX9_ends_6 : decode cX9_ends 6 = .ok (.ifCond .eq 22, 3) := by decide +kernel
theorem dX9_ends_9 : decode cX9_ends 9 = .ok (.aload_n 0, 1) := by decide +kernel
theorem dX9_ends_10 : decode cX9_ends 10 = .ok (.aload_n 0, 1) := by decide +kernel
theorem dX9_ends_11 : decode cX9_ends 11 = .ok (.getfield 46, 3) := by decide +kernel
theorem dX9_ends_14 : decode cX9_ends 14 = .ok (.aload_n 0, 1) := by decide +kernel
theorem dX9_ends_15 : decode cX9_ends 15 = .ok (.getfield 19, 3) := by decide +kernel
theorem dX9_ends_18 : decode cX9_ends 18 = .ok (.iload_n 1, 1) := by decide +kernel
theorem dX9_ends_19 : decode cX9_ends 19 = .ok (.invokevirtual 129, 3) := by decide +kernel
theorem dX9_ends_22 : decode cX9_ends 22 = .ok (.invokevirtual 102, 3) := by decide +kernel
theorem dX9_ends_25 : decode cX9_ends 25 = .ok (.goto 8, 3) := by decide +kernel
theorem dX9_ends_28 : decode cX9_ends 28 = .ok (.aload_n 0, 1) := by decide +kernel
theorem dX9_ends_29 : decode cX9_ends 29 = .ok (.iconst 1, 1) := by decide +kernel
theorem dX9_ends_30 : decode cX9_ends 30 = .ok (.invokevirtual 84, 3) := by decide +kernel
theorem dX9_ends_33 : decode cX9_ends 33 = .ok (.ireturn, 1) := by decide +kernel
theorem dX9_firsts_0 : decode cX9_firsts 0 = .ok (.aload_n 0, 1) := by decide +kernel
theorem dX9_firsts_1 : decode cX9_firsts 1 = .ok (.iload_n 1, 1) := by decide +kernel
theorem dX9_firsts_2 : decode cX9_firsts 2 = .ok (.iconst 2, 1) := by decide +kernel
theorem dX9_firsts_3 : decode cX9_firsts 3 = .ok (.invokevirtual 111, 3) := by decide +kernel
theorem dX9_firsts_6 : decode cX9_firsts 6 = .ok (.ifCond .eq 22, 3) := by decide +kernel
theorem dX9_firsts_9 : decode cX9_firsts 9 = .ok (.aload_n 0, 1) := by decide +kernel
theorem dX9_firsts_10 : decode cX9_firsts 10 = .ok (.aload_n 0, 1) := by decide +kernel
theorem dX9_firsts_11 : decode cX9_firsts 11 = .ok (.getfield 46, 3) := by decide +kernel
theorem dX9_firsts_14 : decode cX9_firsts 14 = .ok (.aload_n 0, 1) := by decide +kernel
theorem dX9_firsts_15 : decode cX9_firsts 15 = .ok (.getfield 19, 3) := by decide +kernel
theorem dX9_firsts_18 : decode cX9_firsts 18 = .ok (.iload_n 1, 1) := by decide +kernel
theorem dX9_firsts_19 : decode cX9_firsts 19 = .ok (.invokevirtual 132, 3) := by decide +kernel
theorem dX9_firsts_22 : decode cX9_firsts 22 = .ok (.invokevirtual 102, 3) := by decide +kernel
theorem dX9_firsts_25 : decode cX9_firsts 25 = .ok (.goto 8, 3) := by decide +kernel
theorem dX9_firsts_28 : decode cX9_firsts 28 = .ok (.aload_n 0, 1) := by decide +kernel
theorem dX9_firsts_29 : decode cX9_firsts 29 = .ok (.iconst 1, 1) := by decide +kernel
theorem dX9_firsts_30 : decode cX9_firsts 30 = .ok (.invokevirtual 84, 3) := by decide +kernel
theorem dX9_firsts_33 : decode cX9_firsts 33 = .ok (.ireturn, 1) := by decide +kernel
theorem dX9_ahead_0 : decode cX9_ahead 0 = .ok (.aload_n 0, 1) := by decide +kernel
theorem dX9_ahead_1 : decode cX9_ahead 1 = .ok (.iload_n 1, 1) := by decide +kernel
theorem dX9_ahead_2 : decode cX9_ahead 2 = .ok (.iconst 2, 1) := by decide +kernel
theorem dX9_ahead_3 : decode cX9_ahead 3 = .ok (.invokevirtual 111, 3) := by decide +kernel
theorem dX9_ahead_6 : decode cX9_ahead 6 = .ok (.ifCond .eq 30, 3) := by decide +kernel
theorem dX9_ahead_9 : decode cX9_ahead 9 = .ok (.aload_n 0, 1) := by decide +kernel
theorem dX9_ahead_10 : decode cX9_ahead 10 = .ok (.getfield 19, 3) := by decide +kernel
theorem dX9_ahead_13 : decode cX9_ahead 13 = .ok (.iload_n 2, 1) := by decide +kernel
theorem dX9_ahead_14 : decode cX9_ahead 14 = .ok (.invokevirtual 135, 3) := by decide +kernel
theorem dX9_ahead_17 : decode cX9_ahead 17 = .ok (.ifCond .eq 19, 3) := by decide +kernel
theorem dX9_ahead_20 : decode cX9_ahead 20 = .ok (.aload_n 0, 1) := by decide +kernel
theorem dX9_ahead_21 : decode cX9_ahead 21 = .ok (.getfield 19, 3) := by decide +kernel
theorem dX9_ahead_24 : decode cX9_ahead 24 = .ok (.iload_n 3, 1) := by decide +kernel
theorem dX9_ahead_25 : decode cX9_ahead 25 = .ok (.invokevirtual 135, 3) := by decide +kernel
theorem dX9_ahead_28 : decode cX9_ahead 28 = .ok (.ifCond .eq 8, 3) := by decide +kernel
theorem dX9_ahead_31 : decode cX9_ahead 31 = .ok (.iload_n 2, 1) := by decide +kernel
theorem dX9_ahead_32 : decode cX9_ahead 32 = .ok (.iload_n 3, 1) := by decide +kernel
theorem dX9_ahead_33 : decode cX9_ahead 33 = .ok (.if_icmp .ne 9, 3) := by decide +kernel
theorem dX9_ahead_36 : decode cX9_ahead 36 = .ok (.aload_n 0, 1) := by decide +kernel
theorem dX9_ahead_37 : decode cX9_ahead 37 = .ok (.iconst 1, 1) := by decide +kernel
theorem dX9_ahead_38 : decode cX9_ahead 38 = .ok (.invokevirtual 84, 3) := by decide +kernel
theorem dX9_ahead_41 : decode cX9_ahead 41 = .ok (.ireturn, 1) := by decide +kernel
theorem dX9_ahead_42 : decode cX9_ahead 42 = .ok (.aload_n 0, 1) := by decide +kernel
theorem dX9_ahead_43 : decode cX9_ahead 43 = .ok (.aload_n 0, 1) := by decide +kernel
theorem dX9_ahead_44 : decode cX9_ahead 44 = .ok (.getfield 46, 3) := by decide +kernel
theorem dX9_ahead_47 : decode cX9_ahead 47 = .ok (.aload_n 0, 1) := by decide +kernel
theorem dX9_ahead_48 : decode cX9_ahead 48 = .ok (.getfield 19, 3) := by decide +kernel
theorem dX9_ahead_51 : decode cX9_ahead 51 = .ok (.iload_n 1, 1) := by decide +kernel
theorem dX9_ahead_52 : decode cX9_ahead 52 = .ok (.iload_n 2, 1) := by decide +kernel
theorem dX9_ahead_53 : decode cX9_ahead 53 = .ok (.iload_n 3, 1) := by decide +kernel
theorem dX9_ahead_54 : decode cX9_ahead 54 = .ok (.invokevirtual 138, 3) := by decide +kernel
theorem dX9_ahead_57 : decode cX9_ahead 57 = .ok (.invokevirtual 102, 3) := by decide +kernel
theorem dX9_ahead_60 : decode cX9_ahead 60 = .ok (.ireturn, 1) := by decide +kernel
theorem dX9_each_0 : decode cX9_each 0 = .ok (.aload_n 0, 1) := by decide +kernel
theorem dX9_each_1 : decode cX9_each 1 = .ok (.getfield 10, 3) := by decide +kernel
theorem dX9_each_4 : decode cX9_each 4 = .ok (.iload_n 1, 1) := by decide +kernel
theorem dX9_each_5 : decode cX9_each 5 = .ok (.invokevirtual 142, 3) := by decide +kernel
theorem dX9_each_8 : decode cX9_each 8 = .ok (.ifCond .ne 9, 3) := by decide +kernel
theorem dX9_each_11 : decode cX9_each 11 = .ok (.aload_n 0, 1) := by decide +kernel
theorem dX9_each_12 : decode cX9_each 12 = .ok (.iconst 1, 1) := by decide +kernel
theorem dX9_each_13 : decode cX9_each 13 = .ok (.invokevirtual 84, 3) := by decide +kernel
theorem dX9_each_16 : decode cX9_each 16 = .ok (.ireturn, 1) := by decide +kernel
theorem dX9_each_17 : decode cX9_each 17 = .ok (.aload_n 0, 1) := by decide +kernel
theorem dX9_each_18 : decode cX9_each 18 = .ok (.getfield 46, 3) := by decide +kernel
theorem dX9_each_21 : decode cX9_each 21 = .ok (.aload_n 0, 1) := by decide +kernel
theorem dX9_each_22 : decode cX9_each 22 = .ok (.getfield 19, 3) := by decide +kernel
theorem dX9_each_25 : decode cX9_each 25 = .ok (.iload_n 1, 1) := by decide +kernel
theorem dX9_each_26 : decode cX9_each 26 = .ok (.invokevirtual 145, 3) := by decide +kernel
theorem dX9_each_29 : decode cX9_each 29 = .ok (.lstore_n 2, 1) := by decide +kernel
theorem dX9_each_30 : decode cX9_each 30 = .ok (.aload_n 0, 1) := by decide +kernel
theorem dX9_each_31 : decode cX9_each 31 = .ok (.lload_n 2, 1) := by decide +kernel
theorem dX9_each_32 : decode cX9_each 32 = .ok (.lconst 0, 1) := by decide +kernel
theorem dX9_each_33 : decode cX9_each 33 = .ok (.lcmp, 1) := by decide +kernel
theorem dX9_each_34 : decode cX9_each 34 = .ok (.ifCond .ge 8, 3) := by decide +kernel
theorem dX9_each_37 : decode cX9_each 37 = .ok (.bipush (-10), 2) := by decide +kernel
theorem dX9_each_39 : decode cX9_each 39 = .ok (.goto 14, 3) := by decide +kernel
theorem dX9_each_42 : decode cX9_each 42 = .ok (.lload_n 2, 1) := by decide +kernel
theorem dX9_each_43 : decode cX9_each 43 = .ok (.lconst 0, 1) := by decide +kernel
theorem dX9_each_44 : decode cX9_each 44 = .ok (.lcmp, 1) := by decide +kernel
theorem dX9_each_45 : decode cX9_each 45 = .ok (.ifCond .le 7, 3) := by decide +kernel
theorem dX9_each_48 : decode cX9_each 48 = .ok (.iconst 1, 1) := by decide +kernel
theorem dX9_each_49 : decode cX9_each 49 = .ok (.goto 4, 3) := by decide +kernel
theorem dX9_each_52 : decode cX9_each 52 = .ok (.iconst 0, 1) := by decide +kernel
theorem dX9_each_53 : decode cX9_each 53 = .ok (.invokevirtual 102, 3) := by decide +kernel
theorem dX9_each_56 : decode cX9_each 56 = .ok (.ireturn, 1) := by decide +kernel
theorem dX9_bad_0 : decode cX9_bad 0 = .ok (.aload_n 0, 1) := by decide +kernel
theorem dX9_bad_1 : decode cX9_bad 1 = .ok (.iload_n 1, 1) := by decide +kernel
theorem dX9_bad_2 : decode cX9_bad 2 = .ok (.iconst 2, 1) := by decide +kernel
theorem dX9_bad_3 : decode cX9_bad 3 = .ok (.invokevirtual 111, 3) := by decide +kernel
theorem dX9_bad_6 : decode cX9_bad 6 = .ok (.ifCond .eq 22, 3) := by decide +kernel
theorem dX9_bad_9 : decode cX9_bad 9 = .ok (.aload_n 0, 1) := by decide +kernel
theorem dX9_bad_10 : decode cX9_bad 10 = .ok (.aload_n 0, 1) := by decide +kernel
theorem dX9_bad_11 : decode cX9_bad 11 = .ok (.getfield 46, 3) := by decide +kernel
theorem dX9_bad_14 : decode cX9_bad 14 = .ok (.aload_n 0, 1) := by decide +kernel
theorem dX9_bad_15 : decode cX9_bad 15 = .ok (.getfield 19, 3) := by decide +kernel
theorem dX9_bad_18 : decode cX9_bad 18 = .ok (.iload_n 1, 1) := by decide +kernel
theorem dX9_bad_19 : decode cX9_bad 19 = .ok (.invokevirtual 148, 3) := by decide +kernel
theorem dX9_bad_22 : decode cX9_bad 22 = .ok (.invokevirtual 102, 3) := by decide +kernel
theorem dX9_bad_25 : decode cX9_bad 25 = .ok (.goto 8, 3) := by decide +kernel
theorem dX9_bad_28 : decode cX9_bad 28 = .ok (.aload_n 0, 1) := by decide +kernel
theorem dX9_bad_29 : decode cX9_bad 29 = .ok (.iconst 1, 1) := by decide +kernel
theorem dX9_bad_30 : decode cX9_bad 30 = .ok (.invokevirtual 84, 3) := by decide +kernel
theorem dX9_bad_33 : decode cX9_bad 33 = .ok (.ireturn, 1) := by decide +kernel
theorem dX9_core_0 : decode cX9_core 0 = .ok (.aload_n 0, 1) := by decide +kernel
theorem dX9_core_1 : decode cX9_core 1 = .ok (.iload_n 1, 1) := by decide +kernel
theorem dX9_core_2 : decode cX9_core 2 = .ok (.iconst 2, 1) := by decide +kernel
theorem dX9_core_3 : decode cX9_core 3 = .ok (.invokevirtual 111, 3) := by decide +kernel
theorem dX9_core_6 : decode cX9_core 6 = .ok (.ifCond .eq 22, 3) := by decide +kernel
theorem dX9_core_9 : decode cX9_core 9 = .ok (.aload_n 0, 1) := by decide +kernel
theorem dX9_core_10 : decode cX9_core 10 = .ok (.aload_n 0, 1) := by decide +kernel
theorem dX9_core_11 : decode cX9_core 11 = .ok (.getfield 46, 3) := by decide +kernel
theorem dX9_core_14 : decode cX9_core 14 = .ok (.aload_n 0, 1) := by decide +kernel
theorem dX9_core_15 : decode cX9_core 15 = .ok (.getfield 19, 3) := by decide +kernel
theorem dX9_core_18 : decode cX9_core 18 = .ok (.iload_n 1, 1) := by decide +kernel
theorem dX9_core_19 : decode cX9_core 19 = .ok (.invokevirtual 151, 3) := by decide +kernel
theorem dX9_core_22 : decode cX9_core 22 = .ok (.invokevirtual 102, 3) := by decide +kernel
theorem dX9_core_25 : decode cX9_core 25 = .ok (.goto 8, 3) := by decide +kernel
theorem dX9_core_28 : decode cX9_core 28 = .ok (.aload_n 0, 1) := by decide +kernel
theorem dX9_core_29 : decode cX9_core 29 = .ok (.iconst 1, 1) := by decide +kernel
theorem dX9_core_30 : decode cX9_core 30 = .ok (.invokevirtual 84, 3) := by decide +kernel
theorem dX9_core_33 : decode cX9_core 33 = .ok (.ireturn, 1) := by decide +kernel
theorem dX9_mends_0 : decode cX9_mends 0 = .ok (.aload_n 0, 1) := by decide +kernel
theorem dX9_mends_1 : decode cX9_mends 1 = .ok (.getfield 10, 3) := by decide +kernel
theorem dX9_mends_4 : decode cX9_mends 4 = .ok (.getfield 154, 3) := by decide +kernel
theorem dX9_mends_7 : decode cX9_mends 7 = .ok (.ifCond .ne 9, 3) := by decide +kernel
theorem dX9_mends_10 : decode cX9_mends 10 = .ok (.aload_n 0, 1) := by decide +kernel
theorem dX9_mends_11 : decode cX9_mends 11 = .ok (.iconst 1, 1) := by decide +kernel
theorem dX9_mends_12 : decode cX9_mends 12 = .ok (.invokevirtual 84, 3) := by decide +kernel
theorem dX9_mends_15 : decode cX9_mends 15 = .ok (.ireturn, 1) := by decide +kernel
theorem dX9_mends_16 : decode cX9_mends 16 = .ok (.aload_n 0, 1) := by decide +kernel
theorem dX9_mends_17 : decode cX9_mends 17 = .ok (.getfield 46, 3) := by decide +kernel
theorem dX9_mends_20 : decode cX9_mends 20 = .ok (.aload_n 0, 1) := by decide +kernel
theorem dX9_mends_21 : decode cX9_mends 21 = .ok (.getfield 19, 3) := by decide +kernel
theorem dX9_mends_24 : decode cX9_mends 24 = .ok (.iconst 0, 1) := by decide +kernel
theorem dX9_mends_25 : decode cX9_mends 25 = .ok (.invokevirtual 115, 3) := by decide +kernel
theorem dX9_mends_28 : decode cX9_mends 28 = .ok (.lstore_n 1, 1) := by decide +kernel
theorem dX9_mends_29 : decode cX9_mends 29 = .ok (.lload_n 1, 1) := by decide +kernel
theorem dX9_mends_30 : decode cX9_mends 30 = .ok (.lconst 0, 1) := by decide +kernel
theorem dX9_mends_31 : decode cX9_mends 31 = .ok (.lcmp, 1) := by decide +kernel
theorem dX9_mends_32 : decode cX9_mends 32 = .ok (.ifCond .eq 19, 3) := by decide +kernel
theorem dX9_mends_35 : decode cX9_mends 35 = .ok (.aload_n 0, 1) := by decide +kernel
theorem dX9_mends_36 : decode cX9_mends 36 = .ok (.lload_n 1, 1) := by decide +kernel
theorem dX9_mends_37 : decode cX9_mends 37 = .ok (.lconst 0, 1) := by decide +kernel
theorem dX9_mends_38 : decode cX9_mends 38 = .ok (.lcmp, 1) := by decide +kernel
theorem dX9_mends_39 : decode cX9_mends 39 = .ok (.ifCond .ge 7, 3) := by decide +kernel
theorem dX9_mends_42 : decode cX9_mends 42 = .ok (.iconst 3, 1) := by decide +kernel
theorem dX9_mends_43 : decode cX9_mends 43 = .ok (.goto 4, 3) := by decide +kernel
theorem dX9_mends_46 : decode cX9_mends 46 = .ok (.iconst 5, 1) := by decide +kernel
theorem dX9_mends_47 : decode cX9_mends 47 = .ok (.invokevirtual 84, 3) := by decide +kernel
theorem dX9_mends_50 : decode cX9_mends 50 = .ok (.ireturn, 1) := by decide +kernel
theorem dX9_mends_51 : decode cX9_mends 51 = .ok (.aload_n 0, 1) := by decide +kernel
theorem dX9_mends_52 : decode cX9_mends 52 = .ok (.aload_n 0, 1) := by decide +kernel
theorem dX9_mends_53 : decode cX9_mends 53 = .ok (.getfield 46, 3) := by decide +kernel
theorem dX9_mends_56 : decode cX9_mends 56 = .ok (.aload_n 0, 1) := by decide +kernel
theorem dX9_mends_57 : decode cX9_mends 57 = .ok (.getfield 19, 3) := by decide +kernel
theorem dX9_mends_60 : decode cX9_mends 60 = .ok (.invokevirtual 158, 3) := by decide +kernel
theorem dX9_mends_63 : decode cX9_mends 63 = .ok (.invokevirtual 102, 3) := by decide +kernel
theorem dX9_mends_66 : decode cX9_mends 66 = .ok (.ireturn, 1) := by decide +kernel
theorem dX9_enough_0 : decode cX9_enough 0 = .ok (.aload_n 0, 1) := by decide +kernel
theorem dX9_enough_1 : decode cX9_enough 1 = .ok (.getfield 10, 3) := by decide +kernel
theorem dX9_enough_4 : decode cX9_enough 4 = .ok (.getfield 154, 3) := by decide +kernel
theorem dX9_enough_7 : decode cX9_enough 7 = .ok (.ifCond .eq 21, 3) := by decide +kernel
theorem dX9_enough_10 : decode cX9_enough 10 = .ok (.aload_n 0, 1) := by decide +kernel
theorem dX9_enough_11 : decode cX9_enough 11 = .ok (.aload_n 0, 1) := by decide +kernel
theorem dX9_enough_12 : decode cX9_enough 12 = .ok (.getfield 46, 3) := by decide +kernel
theorem dX9_enough_15 : decode cX9_enough 15 = .ok (.aload_n 0, 1) := by decide +kernel
theorem dX9_enough_16 : decode cX9_enough 16 = .ok (.getfield 19, 3) := by decide +kernel
theorem dX9_enough_19 : decode cX9_enough 19 = .ok (.invokevirtual 162, 3) := by decide +kernel
theorem dX9_enough_22 : decode cX9_enough 22 = .ok (.invokevirtual 102, 3) := by decide +kernel
theorem dX9_enough_25 : decode cX9_enough 25 = .ok (.goto 8, 3) := by decide +kernel
theorem dX9_enough_28 : decode cX9_enough 28 = .ok (.aload_n 0, 1) := by decide +kernel
theorem dX9_enough_29 : decode cX9_enough 29 = .ok (.iconst 1, 1) := by decide +kernel
theorem dX9_enough_30 : decode cX9_enough 30 = .ok (.invokevirtual 84, 3) := by decide +kernel
theorem dX9_enough_33 : decode cX9_enough 33 = .ok (.ireturn, 1) := by decide +kernel
theorem dX9_could_0 : decode cX9_could 0 = .ok (.aload_n 0, 1) := by decide +kernel
theorem dX9_could_1 : decode cX9_could 1 = .ok (.iload_n 1, 1) := by decide +kernel
theorem dX9_could_2 : decode cX9_could 2 = .ok (.iconst 2, 1) := by decide +kernel
theorem dX9_could_3 : decode cX9_could 3 = .ok (.invokevirtual 111, 3) := by decide +kernel
theorem dX9_could_6 : decode cX9_could 6 = .ok (.ifCond .eq 14, 3) := by decide +kernel
theorem dX9_could_9 : decode cX9_could 9 = .ok (.aload_n 0, 1) := by decide +kernel
theorem dX9_could_10 : decode cX9_could 10 = .ok (.getfield 19, 3) := by decide +kernel
theorem dX9_could_13 : decode cX9_could 13 = .ok (.iload_n 2, 1) := by decide +kernel
theorem dX9_could_14 : decode cX9_could 14 = .ok (.invokevirtual 135, 3) := by decide +kernel
theorem dX9_could_17 : decode cX9_could 17 = .ok (.ifCond .ne 9, 3) := by decide +kernel
theorem dX9_could_20 : decode cX9_could 20 = .ok (.aload_n 0, 1) := by decide +kernel
theorem dX9_could_21 : decode cX9_could 21 = .ok (.iconst 1, 1) := by decide +kernel
theorem dX9_could_22 : decode cX9_could 22 = .ok (.invokevirtual 84, 3) := by decide +kernel
theorem dX9_could_25 : decode cX9_could 25 = .ok (.ireturn, 1) := by decide +kernel
theorem dX9_could_26 : decode cX9_could 26 = .ok (.aload_n 0, 1) := by decide +kernel
theorem dX9_could_27 : decode cX9_could 27 = .ok (.aload_n 0, 1) := by decide +kernel
theorem dX9_could_28 : decode cX9_could 28 = .ok (.getfield 46, 3) := by decide +kernel
theorem dX9_could_31 : decode cX9_could 31 = .ok (.aload_n 0, 1) := by decide +kernel
theorem dX9_could_32 : decode cX9_could 32 = .ok (.getfield 19, 3) := by decide +kernel
theorem dX9_could_35 : decode cX9_could 35 = .ok (.iload_n 1, 1) := by decide +kernel
theorem dX9_could_36 : decode cX9_could 36 = .ok (.iload_n 2, 1) := by decide +kernel
theorem dX9_could_37 : decode cX9_could 37 = .ok (.invokevirtual 165, 3) := by decide +kernel
theorem dX9_could_40 : decode cX9_could 40 = .ok (.invokevirtual 102, 3) := by decide +kernel
theorem dX9_could_43 : decode cX9_could 43 = .ok (.ireturn, 1) := by decide +kernel
theorem dX9_couldTell_0 : decode cX9_couldTell 0 = .ok (.aload_n 0, 1) := by decide +kernel
theorem dX9_couldTell_1 : decode cX9_couldTell 1 = .ok (.iload_n 1, 1) := by decide +kernel
theorem dX9_couldTell_2 : decode cX9_couldTell 2 = .ok (.iconst 2, 1) := by decide +kernel
theorem dX9_couldTell_3 : decode cX9_couldTell 3 = .ok (.invokevirtual 111, 3) := by decide +kernel
theorem dX9_couldTell_6 : decode cX9_couldTell 6 = .ok (.ifCond .eq 14, 3) := by decide +kernel
theorem dX9_couldTell_9 : decode cX9_couldTell 9 = .ok (.aload_n 0, 1) := by decide +kernel
theorem dX9_couldTell_10 : decode cX9_couldTell 10 = .ok (.getfield 19, 3) := by decide +kernel
theorem dX9_couldTell_13 : decode cX9_couldTell 13 = .ok (.iload_n 2, 1) := by decide +kernel
theorem dX9_couldTell_14 : decode cX9_couldTell 14 = .ok (.invokevirtual 135, 3) := by decide +kernel
theorem dX9_couldTell_17 : decode cX9_couldTell 17 = .ok (.ifCond .ne 9, 3) := by decide +kernel
theorem dX9_couldTell_20 : decode cX9_couldTell 20 = .ok (.aload_n 0, 1) := by decide +kernel
theorem dX9_couldTell_21 : decode cX9_couldTell 21 = .ok (.iconst 1, 1) := by decide +kernel
theorem dX9_couldTell_22 : decode cX9_couldTell 22 = .ok (.invokevirtual 84, 3) := by decide +kernel
theorem dX9_couldTell_25 : decode cX9_couldTell 25 = .ok (.ireturn, 1) := by decide +kernel
theorem dX9_couldTell_26 : decode cX9_couldTell 26 = .ok (.aload_n 0, 1) := by decide +kernel
theorem dX9_couldTell_27 : decode cX9_couldTell 27 = .ok (.getfield 46, 3) := by decide +kernel
theorem dX9_couldTell_30 : decode cX9_couldTell 30 = .ok (.aload_n 0, 1) := by decide +kernel
theorem dX9_couldTell_31 : decode cX9_couldTell 31 = .ok (.getfield 19, 3) := by decide +kernel
theorem dX9_couldTell_34 : decode cX9_couldTell 34 = .ok (.iload_n 1, 1) := by decide +kernel
theorem dX9_couldTell_35 : decode cX9_couldTell 35 = .ok (.iload_n 2, 1) := by decide +kernel
theorem dX9_couldTell_36 : decode cX9_couldTell 36 = .ok (.invokevirtual 165, 3) := by decide +kernel
theorem dX9_couldTell_39 : decode cX9_couldTell 39 = .ok (.istore 4, 2) := by decide +kernel
theorem dX9_couldTell_41 : decode cX9_couldTell 41 = .ok (.iload 4, 2) := by decide +kernel
theorem dX9_couldTell_43 : decode cX9_couldTell 43 = .ok (.ifCond .gt 20, 3) := by decide +kernel
theorem dX9_couldTell_46 : decode cX9_couldTell 46 = .ok (.aload_n 0, 1) := by decide +kernel
theorem dX9_couldTell_47 : decode cX9_couldTell 47 = .ok (.iload 4, 2) := by decide +kernel
theorem dX9_couldTell_49 : decode cX9_couldTell 49 = .ok (.ifCond .ge 8, 3) := by decide +kernel
theorem dX9_couldTell_52 : decode cX9_couldTell 52 = .ok (.iload 4, 2) := by decide +kernel
theorem dX9_couldTell_54 : decode cX9_couldTell 54 = .ok (.goto 5, 3) := by decide +kernel
theorem dX9_couldTell_57 : decode cX9_couldTell 57 = .ok (.bipush (-11), 2) := by decide +kernel
theorem dX9_couldTell_59 : decode cX9_couldTell 59 = .ok (.invokevirtual 102, 3) := by decide +kernel
theorem dX9_couldTell_62 : decode cX9_couldTell 62 = .ok (.ireturn, 1) := by decide +kernel
theorem dX9_couldTell_63 : decode cX9_couldTell 63 = .ok (.aload_n 0, 1) := by decide +kernel
theorem dX9_couldTell_64 : decode cX9_couldTell 64 = .ok (.iload_n 3, 1) := by decide +kernel
theorem dX9_couldTell_65 : decode cX9_couldTell 65 = .ok (.ifCond .eq 13, 3) := by decide +kernel
theorem dX9_couldTell_68 : decode cX9_couldTell 68 = .ok (.aload_n 0, 1) := by decide +kernel
theorem dX9_couldTell_69 : decode cX9_couldTell 69 = .ok (.getfield 46, 3) := by decide +kernel
theorem dX9_couldTell_72 : decode cX9_couldTell 72 = .ok (.invokevirtual 169, 3) := by decide +kernel
theorem dX9_couldTell_75 : decode cX9_couldTell 75 = .ok (.goto 10, 3) := by decide +kernel
theorem dX9_couldTell_78 : decode cX9_couldTell 78 = .ok (.aload_n 0, 1) := by decide +kernel
theorem dX9_couldTell_79 : decode cX9_couldTell 79 = .ok (.getfield 46, 3) := by decide +kernel
theorem dX9_couldTell_82 : decode cX9_couldTell 82 = .ok (.invokevirtual 173, 3) := by decide +kernel
theorem dX9_couldTell_85 : decode cX9_couldTell 85 = .ok (.invokevirtual 102, 3) := by decide +kernel
theorem dX9_couldTell_88 : decode cX9_couldTell 88 = .ok (.ireturn, 1) := by decide +kernel
theorem dX9_seed_0 : decode cX9_seed 0 = .ok (.aload_n 0, 1) := by decide +kernel
theorem dX9_seed_1 : decode cX9_seed 1 = .ok (.getfield 10, 3) := by decide +kernel
theorem dX9_seed_4 : decode cX9_seed 4 = .ok (.getfield 154, 3) := by decide +kernel
theorem dX9_seed_7 : decode cX9_seed 7 = .ok (.ifCond .ne 9, 3) := by decide +kernel
theorem dX9_seed_10 : decode cX9_seed 10 = .ok (.aload_n 0, 1) := by decide +kernel
theorem dX9_seed_11 : decode cX9_seed 11 = .ok (.iconst 1, 1) := by decide +kernel
theorem dX9_seed_12 : decode cX9_seed 12 = .ok (.invokevirtual 176, 3) := by decide +kernel
theorem dX9_seed_15 : decode cX9_seed 15 = .ok (.ireturn, 1) := by decide +kernel
theorem dX9_seed_16 : decode cX9_seed 16 = .ok (.iload_n 1, 1) := by decide +kernel
theorem dX9_seed_17 : decode cX9_seed 17 = .ok (.ifCond .lt 9, 3) := by decide +kernel
theorem dX9_seed_20 : decode cX9_seed 20 = .ok (.iload_n 1, 1) := by decide +kernel
theorem dX9_seed_21 : decode cX9_seed 21 = .ok (.ldc 179, 2) := by decide +kernel
theorem dX9_seed_23 : decode cX9_seed 23 = .ok (.if_icmp .le 9, 3) := by decide +kernel
theorem dX9_seed_26 : decode cX9_seed 26 = .ok (.aload_n 0, 1) := by decide +kernel
theorem dX9_seed_27 : decode cX9_seed 27 = .ok (.iconst 2, 1) := by decide +kernel
theorem dX9_seed_28 : decode cX9_seed 28 = .ok (.invokevirtual 176, 3) := by decide +kernel
theorem dX9_seed_31 : decode cX9_seed 31 = .ok (.ireturn, 1) := by decide +kernel
theorem dX9_seed_32 : decode cX9_seed 32 = .ok (.aload_n 0, 1) := by decide +kernel
theorem dX9_seed_33 : decode cX9_seed 33 = .ok (.iload_n 1, 1) := by decide +kernel
theorem dX9_seed_34 : decode cX9_seed 34 = .ok (.putfield 61, 3) := by decide +kernel
theorem dX9_seed_37 : decode cX9_seed 37 = .ok (.aload_n 0, 1) := by decide +kernel
theorem dX9_seed_38 : decode cX9_seed 38 = .ok (.iconst 0, 1) := by decide +kernel
theorem dX9_seed_39 : decode cX9_seed 39 = .ok (.invokevirtual 176, 3) := by decide +kernel
theorem dX9_seed_42 : decode cX9_seed 42 = .ok (.ireturn, 1) := by decide +kernel
theorem dX9_make_0 : decode cX9_make 0 = .ok (.aload_n 0, 1) := by decide +kernel
theorem dX9_make_1 : decode cX9_make 1 = .ok (.getfield 10, 3) := by decide +kernel
theorem dX9_make_4 : decode cX9_make 4 = .ok (.getfield 154, 3) := by decide +kernel
theorem dX9_make_7 : decode cX9_make 7 = .ok (.ifCond .eq 10, 3) := by decide +kernel
theorem dX9_make_10 : decode cX9_make 10 = .ok (.iload_n 1, 1) := by decide +kernel
theorem dX9_make_11 : decode cX9_make 11 = .ok (.invokestatic 180, 3) := by decide +kernel
theorem dX9_make_14 : decode cX9_make 14 = .ok (.ifCond .ne 9, 3) := by decide +kernel
theorem dX9_make_17 : decode cX9_make 17 = .ok (.aload_n 0, 1) := by decide +kernel
theorem dX9_make_18 : decode cX9_make 18 = .ok (.iconst 1, 1) := by decide +kernel
theorem dX9_make_19 : decode cX9_make 19 = .ok (.invokevirtual 84, 3) := by decide +kernel
theorem dX9_make_22 : decode cX9_make 22 = .ok (.ireturn, 1) := by decide +kernel
theorem dX9_make_23 : decode cX9_make 23 = .ok (.iload_n 2, 1) := by decide +kernel
theorem dX9_make_24 : decode cX9_make 24 = .ok (.iconst 1, 1) := by decide +kernel
theorem dX9_make_25 : decode cX9_make 25 = .ok (.if_icmp .lt 9, 3) := by decide +kernel
theorem dX9_make_28 : decode cX9_make 28 = .ok (.iload_n 2, 1) := by decide +kernel
theorem dX9_make_29 : decode cX9_make 29 = .ok (.bipush 20, 2) := by decide +kernel
theorem dX9_make_31 : decode cX9_make 31 = .ok (.if_icmp .le 9, 3) := by decide +kernel
theorem dX9_make_34 : decode cX9_make 34 = .ok (.aload_n 0, 1) := by decide +kernel
theorem dX9_make_35 : decode cX9_make 35 = .ok (.iconst 2, 1) := by decide +kernel
theorem dX9_make_36 : decode cX9_make 36 = .ok (.invokevirtual 84, 3) := by decide +kernel
theorem dX9_make_39 : decode cX9_make 39 = .ok (.ireturn, 1) := by decide +kernel
theorem dX9_make_40 : decode cX9_make 40 = .ok (.aload_n 0, 1) := by decide +kernel
theorem dX9_make_41 : decode cX9_make 41 = .ok (.getfield 53, 3) := by decide +kernel
theorem dX9_make_44 : decode cX9_make 44 = .ok (.aload_n 0, 1) := by decide +kernel
theorem dX9_make_45 : decode cX9_make 45 = .ok (.getfield 19, 3) := by decide +kernel
theorem dX9_make_48 : decode cX9_make 48 = .ok (.iload_n 1, 1) := by decide +kernel
theorem dX9_make_49 : decode cX9_make 49 = .ok (.iload_n 2, 1) := by decide +kernel
theorem dX9_make_50 : decode cX9_make 50 = .ok (.aload_n 0, 1) := by decide +kernel
theorem dX9_make_51 : decode cX9_make 51 = .ok (.getfield 61, 3) := by decide +kernel
theorem dX9_make_54 : decode cX9_make 54 = .ok (.invokevirtual 183, 3) := by decide +kernel
theorem dX9_make_57 : decode cX9_make 57 = .ok (.istore_n 3, 1) := by decide +kernel
theorem dX9_make_58 : decode cX9_make 58 = .ok (.aload_n 0, 1) := by decide +kernel
theorem dX9_make_59 : decode cX9_make 59 = .ok (.aload_n 0, 1) := by decide +kernel
theorem dX9_make_60 : decode cX9_make 60 = .ok (.getfield 53, 3) := by decide +kernel
theorem dX9_make_63 : decode cX9_make 63 = .ok (.getfield 186, 3) := by decide +kernel
theorem dX9_make_66 : decode cX9_make 66 = .ok (.putfield 61, 3) := by decide +kernel
theorem dX9_make_69 : decode cX9_make 69 = .ok (.aload_n 0, 1) := by decide +kernel
theorem dX9_make_70 : decode cX9_make 70 = .ok (.iload_n 3, 1) := by decide +kernel
theorem dX9_make_71 : decode cX9_make 71 = .ok (.invokevirtual 102, 3) := by decide +kernel
theorem dX9_make_74 : decode cX9_make 74 = .ok (.ireturn, 1) := by decide +kernel
theorem dX9_breaks_0 : decode cX9_breaks 0 = .ok (.aload_n 0, 1) := by decide +kernel
theorem dX9_breaks_1 : decode cX9_breaks 1 = .ok (.iload_n 1, 1) := by decide +kernel
theorem dX9_breaks_2 : decode cX9_breaks 2 = .ok (.iconst 3, 1) := by decide +kernel
theorem dX9_breaks_3 : decode cX9_breaks 3 = .ok (.invokevirtual 111, 3) := by decide +kernel
theorem dX9_breaks_6 : decode cX9_breaks 6 = .ok (.ifCond .eq 10, 3) := by decide +kernel
theorem dX9_breaks_9 : decode cX9_breaks 9 = .ok (.iload_n 2, 1) := by decide +kernel
theorem dX9_breaks_10 : decode cX9_breaks 10 = .ok (.invokestatic 180, 3) := by decide +kernel
theorem dX9_breaks_13 : decode cX9_breaks 13 = .ok (.ifCond .ne 9, 3) := by decide +kernel
theorem dX9_breaks_16 : decode cX9_breaks 16 = .ok (.aload_n 0, 1) := by decide +kernel
theorem dX9_breaks_17 : decode cX9_breaks 17 = .ok (.iconst 1, 1) := by decide +kernel
theorem dX9_breaks_18 : decode cX9_breaks 18 = .ok (.invokevirtual 84, 3) := by decide +kernel
theorem dX9_breaks_21 : decode cX9_breaks 21 = .ok (.ireturn, 1) := by decide +kernel
theorem dX9_breaks_22 : decode cX9_breaks 22 = .ok (.iload_n 3, 1) := by decide +kernel
theorem dX9_breaks_23 : decode cX9_breaks 23 = .ok (.iconst 1, 1) := by decide +kernel
theorem dX9_breaks_24 : decode cX9_breaks 24 = .ok (.if_icmp .lt 9, 3) := by decide +kernel
theorem dX9_breaks_27 : decode cX9_breaks 27 = .ok (.iload_n 3, 1) := by decide +kernel
theorem dX9_breaks_28 : decode cX9_breaks 28 = .ok (.bipush 8, 2) := by decide +kernel
theorem dX9_breaks_30 : decode cX9_breaks 30 = .ok (.if_icmp .le 9, 3) := by decide +kernel
theorem dX9_breaks_33 : decode cX9_breaks 33 = .ok (.aload_n 0, 1) := by decide +kernel
theorem dX9_breaks_34 : decode cX9_breaks 34 = .ok (.iconst 2, 1) := by decide +kernel
theorem dX9_breaks_35 : decode cX9_breaks 35 = .ok (.invokevirtual 84, 3) := by decide +kernel
theorem dX9_breaks_38 : decode cX9_breaks 38 = .ok (.ireturn, 1) := by decide +kernel
theorem dX9_breaks_39 : decode cX9_breaks 39 = .ok (.iconst 0, 1) := by decide +kernel
theorem dX9_breaks_40 : decode cX9_breaks 40 = .ok (.istore 4, 2) := by decide +kernel
theorem dX9_breaks_42 : decode cX9_breaks 42 = .ok (.iload 4, 2) := by decide +kernel
theorem dX9_breaks_44 : decode cX9_breaks 44 = .ok (.bipush 99, 2) := by decide +kernel
theorem dX9_breaks_46 : decode cX9_breaks 46 = .ok (.if_icmp .gt 65, 3) := by decide +kernel
theorem dX9_breaks_49 : decode cX9_breaks 49 = .ok (.aload_n 0, 1) := by decide +kernel
theorem dX9_breaks_50 : decode cX9_breaks 50 = .ok (.getfield 53, 3) := by decide +kernel
theorem dX9_breaks_53 : decode cX9_breaks 53 = .ok (.aload_n 0, 1) := by decide +kernel
theorem dX9_breaks_54 : decode cX9_breaks 54 = .ok (.getfield 23, 3) := by decide +kernel
theorem dX9_breaks_57 : decode cX9_breaks 57 = .ok (.iload_n 2, 1) := by decide +kernel
theorem dX9_breaks_58 : decode cX9_breaks 58 = .ok (.iload_n 3, 1) := by decide +kernel
theorem dX9_breaks_59 : decode cX9_breaks 59 = .ok (.iload 4, 2) := by decide +kernel
theorem dX9_breaks_61 : decode cX9_breaks 61 = .ok (.invokevirtual 183, 3) := by decide +kernel
theorem dX9_breaks_64 : decode cX9_breaks 64 = .ok (.pop, 1) := by decide +kernel
theorem dX9_breaks_65 : decode cX9_breaks 65 = .ok (.aload_n 0, 1) := by decide +kernel
theorem dX9_breaks_66 : decode cX9_breaks 66 = .ok (.getfield 46, 3) := by decide +kernel
theorem dX9_breaks_69 : decode cX9_breaks 69 = .ok (.aload_n 0, 1) := by decide +kernel
theorem dX9_breaks_70 : decode cX9_breaks 70 = .ok (.getfield 23, 3) := by decide +kernel
theorem dX9_breaks_73 : decode cX9_breaks 73 = .ok (.iload_n 1, 1) := by decide +kernel
theorem dX9_breaks_74 : decode cX9_breaks 74 = .ok (.invokevirtual 115, 3) := by decide +kernel
theorem dX9_breaks_77 : decode cX9_breaks 77 = .ok (.lstore 5, 2) := by decide +kernel
theorem dX9_breaks_79 : decode cX9_breaks 79 = .ok (.lload 5, 2) := by decide +kernel
theorem dX9_breaks_81 : decode cX9_breaks 81 = .ok (.lconst 0, 1) := by decide +kernel
theorem dX9_breaks_82 : decode cX9_breaks 82 = .ok (.lcmp, 1) := by decide +kernel
theorem dX9_breaks_83 : decode cX9_breaks 83 = .ok (.ifCond .gt 22, 3) := by decide +kernel
theorem dX9_breaks_86 : decode cX9_breaks 86 = .ok (.aload_n 0, 1) := by decide +kernel
theorem dX9_breaks_87 : decode cX9_breaks 87 = .ok (.lload 5, 2) := by decide +kernel
theorem dX9_breaks_89 : decode cX9_breaks 89 = .ok (.lconst 0, 1) := by decide +kernel
theorem dX9_breaks_90 : decode cX9_breaks 90 = .ok (.lcmp, 1) := by decide +kernel
theorem dX9_breaks_91 : decode cX9_breaks 91 = .ok (.ifCond .ge 8, 3) := by decide +kernel
theorem dX9_breaks_94 : decode cX9_breaks 94 = .ok (.bipush (-10), 2) := by decide +kernel
theorem dX9_breaks_96 : decode cX9_breaks 96 = .ok (.goto 5, 3) := by decide +kernel
theorem dX9_breaks_99 : decode cX9_breaks 99 = .ok (.iload 4, 2) := by decide +kernel
theorem dX9_breaks_101 : decode cX9_breaks 101 = .ok (.invokevirtual 102, 3) := by decide +kernel
theorem dX9_breaks_104 : decode cX9_breaks 104 = .ok (.ireturn, 1) := by decide +kernel
theorem dX9_breaks_105 : decode cX9_breaks 105 = .ok (.iinc 4 1, 3) := by decide +kernel
theorem dX9_breaks_108 : decode cX9_breaks 108 = .ok (.goto (-66), 3) := by decide +kernel
theorem dX9_breaks_111 : decode cX9_breaks 111 = .ok (.aload_n 0, 1) := by decide +kernel
theorem dX9_breaks_112 : decode cX9_breaks 112 = .ok (.bipush (-2), 2) := by decide +kernel
theorem dX9_breaks_114 : decode cX9_breaks 114 = .ok (.invokevirtual 102, 3) := by decide +kernel
theorem dX9_breaks_117 : decode cX9_breaks 117 = .ok (.ireturn, 1) := by decide +kernel
theorem dX9_answer_0 : decode cX9_answer 0 = .ok (.aload_n 0, 1) := by decide +kernel
theorem dX9_answer_1 : decode cX9_answer 1 = .ok (.getfield 19, 3) := by decide +kernel
theorem dX9_answer_4 : decode cX9_answer 4 = .ok (.iload_n 1, 1) := by decide +kernel
theorem dX9_answer_5 : decode cX9_answer 5 = .ok (.invokevirtual 135, 3) := by decide +kernel
theorem dX9_answer_8 : decode cX9_answer 8 = .ok (.ifCond .ne 9, 3) := by decide +kernel
theorem dX9_answer_11 : decode cX9_answer 11 = .ok (.aload_n 0, 1) := by decide +kernel
theorem dX9_answer_12 : decode cX9_answer 12 = .ok (.iconst 1, 1) := by decide +kernel
theorem dX9_answer_13 : decode cX9_answer 13 = .ok (.invokevirtual 84, 3) := by decide +kernel
theorem dX9_answer_16 : decode cX9_answer 16 = .ok (.ireturn, 1) := by decide +kernel
theorem dX9_answer_17 : decode cX9_answer 17 = .ok (.iload_n 2, 1) := by decide +kernel
theorem dX9_answer_18 : decode cX9_answer 18 = .ok (.ifCond .lt 9, 3) := by decide +kernel
theorem dX9_answer_21 : decode cX9_answer 21 = .ok (.iload_n 2, 1) := by decide +kernel
theorem dX9_answer_22 : decode cX9_answer 22 = .ok (.bipush 99, 2) := by decide +kernel
theorem dX9_answer_24 : decode cX9_answer 24 = .ok (.if_icmp .le 9, 3) := by decide +kernel
theorem dX9_answer_27 : decode cX9_answer 27 = .ok (.aload_n 0, 1) := by decide +kernel
theorem dX9_answer_28 : decode cX9_answer 28 = .ok (.iconst 2, 1) := by decide +kernel
theorem dX9_answer_29 : decode cX9_answer 29 = .ok (.invokevirtual 84, 3) := by decide +kernel
theorem dX9_answer_32 : decode cX9_answer 32 = .ok (.ireturn, 1) := by decide +kernel
theorem dX9_answer_33 : decode cX9_answer 33 = .ok (.aload_n 0, 1) := by decide +kernel
theorem dX9_answer_34 : decode cX9_answer 34 = .ok (.getfield 19, 3) := by decide +kernel
theorem dX9_answer_37 : decode cX9_answer 37 = .ok (.iload_n 1, 1) := by decide +kernel
theorem dX9_answer_38 : decode cX9_answer 38 = .ok (.invokevirtual 189, 3) := by decide +kernel
theorem dX9_answer_41 : decode cX9_answer 41 = .ok (.ifCond .eq 9, 3) := by decide +kernel
theorem dX9_answer_44 : decode cX9_answer 44 = .ok (.aload_n 0, 1) := by decide +kernel
theorem dX9_answer_45 : decode cX9_answer 45 = .ok (.iconst 5, 1) := by decide +kernel
theorem dX9_answer_46 : decode cX9_answer 46 = .ok (.invokevirtual 84, 3) := by decide +kernel
theorem dX9_answer_49 : decode cX9_answer 49 = .ok (.ireturn, 1) := by decide +kernel
theorem dX9_answer_50 : decode cX9_answer 50 = .ok (.aload_n 0, 1) := by decide +kernel
theorem dX9_answer_51 : decode cX9_answer 51 = .ok (.aload_n 0, 1) := by decide +kernel
theorem dX9_answer_52 : decode cX9_answer 52 = .ok (.getfield 19, 3) := by decide +kernel
theorem dX9_answer_55 : decode cX9_answer 55 = .ok (.iload_n 1, 1) := by decide +kernel
theorem dX9_answer_56 : decode cX9_answer 56 = .ok (.iload_n 2, 1) := by decide +kernel
theorem dX9_answer_57 : decode cX9_answer 57 = .ok (.invokevirtual 192, 3) := by decide +kernel
theorem dX9_answer_60 : decode cX9_answer 60 = .ok (.invokevirtual 102, 3) := by decide +kernel
theorem dX9_answer_63 : decode cX9_answer 63 = .ok (.ireturn, 1) := by decide +kernel
theorem dX9_lose_0 : decode cX9_lose 0 = .ok (.aload_n 0, 1) := by decide +kernel
theorem dX9_lose_1 : decode cX9_lose 1 = .ok (.getfield 19, 3) := by decide +kernel
theorem dX9_lose_4 : decode cX9_lose 4 = .ok (.iload_n 1, 1) := by decide +kernel
theorem dX9_lose_5 : decode cX9_lose 5 = .ok (.invokevirtual 135, 3) := by decide +kernel
theorem dX9_lose_8 : decode cX9_lose 8 = .ok (.ifCond .ne 9, 3) := by decide +kernel
theorem dX9_lose_11 : decode cX9_lose 11 = .ok (.aload_n 0, 1) := by decide +kernel
theorem dX9_lose_12 : decode cX9_lose 12 = .ok (.iconst 1, 1) := by decide +kernel
theorem dX9_lose_13 : decode cX9_lose 13 = .ok (.invokevirtual 176, 3) := by decide +kernel
theorem dX9_lose_16 : decode cX9_lose 16 = .ok (.ireturn, 1) := by decide +kernel
theorem dX9_lose_17 : decode cX9_lose 17 = .ok (.aload_n 0, 1) := by decide +kernel
theorem dX9_lose_18 : decode cX9_lose 18 = .ok (.getfield 19, 3) := by decide +kernel
theorem dX9_lose_21 : decode cX9_lose 21 = .ok (.iload_n 1, 1) := by decide +kernel
theorem dX9_lose_22 : decode cX9_lose 22 = .ok (.invokevirtual 196, 3) := by decide +kernel
theorem dX9_lose_25 : decode cX9_lose 25 = .ok (.aload_n 0, 1) := by decide +kernel
theorem dX9_lose_26 : decode cX9_lose 26 = .ok (.iconst 0, 1) := by decide +kernel
theorem dX9_lose_27 : decode cX9_lose 27 = .ok (.invokevirtual 176, 3) := by decide +kernel
theorem dX9_lose_30 : decode cX9_lose 30 = .ok (.ireturn, 1) := by decide +kernel
theorem dX9_opens_0 : decode cX9_opens 0 = .ok (.aload_n 0, 1) := by decide +kernel
theorem dX9_opens_1 : decode cX9_opens 1 = .ok (.getfield 10, 3) := by decide +kernel
theorem dX9_opens_4 : decode cX9_opens 4 = .ok (.iload_n 1, 1) := by decide +kernel
theorem dX9_opens_5 : decode cX9_opens 5 = .ok (.invokevirtual 199, 3) := by decide +kernel
theorem dX9_opens_8 : decode cX9_opens 8 = .ok (.ifCond .ne 9, 3) := by decide +kernel
theorem dX9_opens_11 : decode cX9_opens 11 = .ok (.aload_n 0, 1) := by decide +kernel
theorem dX9_opens_12 : decode cX9_opens 12 = .ok (.iconst 1, 1) := by decide +kernel
theorem dX9_opens_13 : decode cX9_opens 13 = .ok (.invokevirtual 84, 3) := by decide +kernel
theorem dX9_opens_16 : decode cX9_opens 16 = .ok (.ireturn, 1) := by decide +kernel
theorem dX9_opens_17 : decode cX9_opens 17 = .ok (.aload_n 0, 1) := by decide +kernel
theorem dX9_opens_18 : decode cX9_opens 18 = .ok (.getfield 19, 3) := by decide +kernel
theorem dX9_opens_21 : decode cX9_opens 21 = .ok (.iload_n 1, 1) := by decide +kernel
theorem dX9_opens_22 : decode cX9_opens 22 = .ok (.invokevirtual 202, 3) := by decide +kernel
theorem dX9_opens_25 : decode cX9_opens 25 = .ok (.istore_n 2, 1) := by decide +kernel
theorem dX9_opens_26 : decode cX9_opens 26 = .ok (.iload_n 2, 1) := by decide +kernel
theorem dX9_opens_27 : decode cX9_opens 27 = .ok (.ifCond .ge 10, 3) := by decide +kernel
theorem dX9_opens_30 : decode cX9_opens 30 = .ok (.aload_n 0, 1) := by decide +kernel
theorem dX9_opens_31 : decode cX9_opens 31 = .ok (.bipush 6, 2) := by decide +kernel
theorem dX9_opens_33 : decode cX9_opens 33 = .ok (.invokevirtual 84, 3) := by decide +kernel
theorem dX9_opens_36 : decode cX9_opens 36 = .ok (.ireturn, 1) := by decide +kernel
theorem dX9_opens_37 : decode cX9_opens 37 = .ok (.aload_n 0, 1) := by decide +kernel
theorem dX9_opens_38 : decode cX9_opens 38 = .ok (.getfield 19, 3) := by decide +kernel
theorem dX9_opens_41 : decode cX9_opens 41 = .ok (.iload_n 2, 1) := by decide +kernel
theorem dX9_opens_42 : decode cX9_opens 42 = .ok (.invokevirtual 189, 3) := by decide +kernel
theorem dX9_opens_45 : decode cX9_opens 45 = .ok (.ifCond .eq 9, 3) := by decide +kernel
theorem dX9_opens_48 : decode cX9_opens 48 = .ok (.aload_n 0, 1) := by decide +kernel
theorem dX9_opens_49 : decode cX9_opens 49 = .ok (.iconst 5, 1) := by decide +kernel
theorem dX9_opens_50 : decode cX9_opens 50 = .ok (.invokevirtual 84, 3) := by decide +kernel
theorem dX9_opens_53 : decode cX9_opens 53 = .ok (.ireturn, 1) := by decide +kernel
theorem dX9_opens_54 : decode cX9_opens 54 = .ok (.aload_n 0, 1) := by decide +kernel
theorem dX9_opens_55 : decode cX9_opens 55 = .ok (.getfield 19, 3) := by decide +kernel
theorem dX9_opens_58 : decode cX9_opens 58 = .ok (.iload_n 2, 1) := by decide +kernel
theorem dX9_opens_59 : decode cX9_opens 59 = .ok (.invokevirtual 205, 3) := by decide +kernel
theorem dX9_opens_62 : decode cX9_opens 62 = .ok (.aload_n 0, 1) := by decide +kernel
theorem dX9_opens_63 : decode cX9_opens 63 = .ok (.iload_n 2, 1) := by decide +kernel
theorem dX9_opens_64 : decode cX9_opens 64 = .ok (.invokevirtual 102, 3) := by decide +kernel
theorem dX9_opens_67 : decode cX9_opens 67 = .ok (.ireturn, 1) := by decide +kernel
theorem dX9_late_0 : decode cX9_late 0 = .ok (.aload_n 0, 1) := by decide +kernel
theorem dX9_late_1 : decode cX9_late 1 = .ok (.getfield 10, 3) := by decide +kernel
theorem dX9_late_4 : decode cX9_late 4 = .ok (.getfield 154, 3) := by decide +kernel
theorem dX9_late_7 : decode cX9_late 7 = .ok (.ifCond .ne 9, 3) := by decide +kernel
theorem dX9_late_10 : decode cX9_late 10 = .ok (.aload_n 0, 1) := by decide +kernel
theorem dX9_late_11 : decode cX9_late 11 = .ok (.iconst 1, 1) := by decide +kernel
theorem dX9_late_12 : decode cX9_late 12 = .ok (.invokevirtual 84, 3) := by decide +kernel
theorem dX9_late_15 : decode cX9_late 15 = .ok (.ireturn, 1) := by decide +kernel
theorem dX9_late_16 : decode cX9_late 16 = .ok (.iload_n 1, 1) := by decide +kernel
theorem dX9_late_17 : decode cX9_late 17 = .ok (.ifCond .lt 9, 3) := by decide +kernel
theorem dX9_late_20 : decode cX9_late 20 = .ok (.iload_n 1, 1) := by decide +kernel
theorem dX9_late_21 : decode cX9_late 21 = .ok (.bipush 99, 2) := by decide +kernel
theorem dX9_late_23 : decode cX9_late 23 = .ok (.if_icmp .le 9, 3) := by decide +kernel
theorem dX9_late_26 : decode cX9_late 26 = .ok (.aload_n 0, 1) := by decide +kernel
theorem dX9_late_27 : decode cX9_late 27 = .ok (.iconst 2, 1) := by decide +kernel
theorem dX9_late_28 : decode cX9_late 28 = .ok (.invokevirtual 84, 3) := by decide +kernel
theorem dX9_late_31 : decode cX9_late 31 = .ok (.ireturn, 1) := by decide +kernel
theorem dX9_late_32 : decode cX9_late 32 = .ok (.aload_n 0, 1) := by decide +kernel
theorem dX9_late_33 : decode cX9_late 33 = .ok (.getfield 10, 3) := by decide +kernel
theorem dX9_late_36 : decode cX9_late 36 = .ok (.getfield 208, 3) := by decide +kernel
theorem dX9_late_39 : decode cX9_late 39 = .ok (.istore_n 2, 1) := by decide +kernel
theorem dX9_late_40 : decode cX9_late 40 = .ok (.aload_n 0, 1) := by decide +kernel
theorem dX9_late_41 : decode cX9_late 41 = .ok (.getfield 10, 3) := by decide +kernel
theorem dX9_late_44 : decode cX9_late 44 = .ok (.iload_n 1, 1) := by decide +kernel
theorem dX9_late_45 : decode cX9_late 45 = .ok (.putfield 208, 3) := by decide +kernel
theorem dX9_late_48 : decode cX9_late 48 = .ok (.aload_n 0, 1) := by decide +kernel
theorem dX9_late_49 : decode cX9_late 49 = .ok (.iload_n 2, 1) := by decide +kernel
theorem dX9_late_50 : decode cX9_late 50 = .ok (.invokevirtual 102, 3) := by decide +kernel
theorem dX9_late_53 : decode cX9_late 53 = .ok (.ireturn, 1) := by decide +kernel
theorem dX9_mark_0 : decode cX9_mark 0 = .ok (.aload_n 0, 1) := by decide +kernel
theorem dX9_mark_1 : decode cX9_mark 1 = .ok (.getfield 10, 3) := by decide +kernel
theorem dX9_mark_4 : decode cX9_mark 4 = .ok (.getfield 154, 3) := by decide +kernel
theorem dX9_mark_7 : decode cX9_mark 7 = .ok (.ifCond .ne 9, 3) := by decide +kernel
theorem dX9_mark_10 : decode cX9_mark 10 = .ok (.aload_n 0, 1) := by decide +kernel
theorem dX9_mark_11 : decode cX9_mark 11 = .ok (.iconst 1, 1) := by decide +kernel
theorem dX9_mark_12 : decode cX9_mark 12 = .ok (.invokevirtual 84, 3) := by decide +kernel
theorem dX9_mark_15 : decode cX9_mark 15 = .ok (.ireturn, 1) := by decide +kernel
theorem dX9_mark_16 : decode cX9_mark 16 = .ok (.aload_n 0, 1) := by decide +kernel
theorem dX9_mark_17 : decode cX9_mark 17 = .ok (.getfield 57, 3) := by decide +kernel
theorem dX9_mark_20 : decode cX9_mark 20 = .ok (.iconst 3, 1) := by decide +kernel
theorem dX9_mark_21 : decode cX9_mark 21 = .ok (.if_icmp .lt 9, 3) := by decide +kernel
theorem dX9_mark_24 : decode cX9_mark 24 = .ok (.aload_n 0, 1) := by decide +kernel
theorem dX9_mark_25 : decode cX9_mark 25 = .ok (.iconst 3, 1) := by decide +kernel
theorem dX9_mark_26 : decode cX9_mark 26 = .ok (.invokevirtual 84, 3) := by decide +kernel
theorem dX9_mark_29 : decode cX9_mark 29 = .ok (.ireturn, 1) := by decide +kernel
theorem dX9_mark_30 : decode cX9_mark 30 = .ok (.aload_n 0, 1) := by decide +kernel
theorem dX9_mark_31 : decode cX9_mark 31 = .ok (.getfield 26, 3) := by decide +kernel
theorem dX9_mark_34 : decode cX9_mark 34 = .ok (.aload_n 0, 1) := by decide +kernel
theorem dX9_mark_35 : decode cX9_mark 35 = .ok (.getfield 57, 3) := by decide +kernel
theorem dX9_mark_38 : decode cX9_mark 38 = .ok (.aaload, 1) := by decide +kernel
theorem dX9_mark_39 : decode cX9_mark 39 = .ok (.astore_n 1, 1) := by decide +kernel
theorem dX9_mark_40 : decode cX9_mark 40 = .ok (.aload_n 1, 1) := by decide +kernel
theorem dX9_mark_41 : decode cX9_mark 41 = .ok (.ifnonnull 9, 3) := by decide +kernel
theorem dX9_mark_44 : decode cX9_mark 44 = .ok (.aload_n 0, 1) := by decide +kernel
theorem dX9_mark_45 : decode cX9_mark 45 = .ok (.iconst 3, 1) := by decide +kernel
theorem dX9_mark_46 : decode cX9_mark 46 = .ok (.invokevirtual 84, 3) := by decide +kernel
theorem dX9_mark_49 : decode cX9_mark 49 = .ok (.ireturn, 1) := by decide +kernel
theorem dX9_mark_50 : decode cX9_mark 50 = .ok (.aload_n 1, 1) := by decide +kernel
theorem dX9_mark_51 : decode cX9_mark 51 = .ok (.aload_n 0, 1) := by decide +kernel
theorem dX9_mark_52 : decode cX9_mark 52 = .ok (.getfield 19, 3) := by decide +kernel
theorem dX9_mark_55 : decode cX9_mark 55 = .ok (.invokevirtual 96, 3) := by decide +kernel
theorem dX9_mark_58 : decode cX9_mark 58 = .ok (.aload_n 0, 1) := by decide +kernel
theorem dX9_mark_59 : decode cX9_mark 59 = .ok (.getfield 30, 3) := by decide +kernel
theorem dX9_mark_62 : decode cX9_mark 62 = .ok (.aload_n 0, 1) := by decide +kernel
theorem dX9_mark_63 : decode cX9_mark 63 = .ok (.getfield 57, 3) := by decide +kernel
theorem dX9_mark_66 : decode cX9_mark 66 = .ok (.aload_n 0, 1) := by decide +kernel
theorem dX9_mark_67 : decode cX9_mark 67 = .ok (.getfield 61, 3) := by decide +kernel
theorem dX9_mark_70 : decode cX9_mark 70 = .ok (.iastore, 1) := by decide +kernel
theorem dX9_mark_71 : decode cX9_mark 71 = .ok (.aload_n 0, 1) := by decide +kernel
theorem dX9_mark_72 : decode cX9_mark 72 = .ok (.dup, 1) := by decide +kernel
theorem dX9_mark_73 : decode cX9_mark 73 = .ok (.getfield 57, 3) := by decide +kernel
theorem dX9_mark_76 : decode cX9_mark 76 = .ok (.iconst 1, 1) := by decide +kernel
theorem dX9_mark_77 : decode cX9_mark 77 = .ok (.iadd, 1) := by decide +kernel
theorem dX9_mark_78 : decode cX9_mark 78 = .ok (.putfield 57, 3) := by decide +kernel
theorem dX9_mark_81 : decode cX9_mark 81 = .ok (.aload_n 0, 1) := by decide +kernel
theorem dX9_mark_82 : decode cX9_mark 82 = .ok (.aload_n 0, 1) := by decide +kernel
theorem dX9_mark_83 : decode cX9_mark 83 = .ok (.getfield 57, 3) := by decide +kernel
theorem dX9_mark_86 : decode cX9_mark 86 = .ok (.iconst 1, 1) := by decide +kernel
theorem dX9_mark_87 : decode cX9_mark 87 = .ok (.isub, 1) := by decide +kernel
theorem dX9_mark_88 : decode cX9_mark 88 = .ok (.invokevirtual 102, 3) := by decide +kernel
theorem dX9_mark_91 : decode cX9_mark 91 = .ok (.ireturn, 1) := by decide +kernel
theorem dX9_back_0 : decode cX9_back 0 = .ok (.iload_n 1, 1) := by decide +kernel
theorem dX9_back_1 : decode cX9_back 1 = .ok (.ifCond .lt 16, 3) := by decide +kernel
theorem dX9_back_4 : decode cX9_back 4 = .ok (.iload_n 1, 1) := by decide +kernel
theorem dX9_back_5 : decode cX9_back 5 = .ok (.aload_n 0, 1) := by decide +kernel
theorem dX9_back_6 : decode cX9_back 6 = .ok (.getfield 57, 3) := by decide +kernel
theorem dX9_back_9 : decode cX9_back 9 = .ok (.if_icmp .ge 8, 3) := by decide +kernel
theorem dX9_back_12 : decode cX9_back 12 = .ok (.iload_n 1, 1) := by decide +kernel
theorem dX9_back_13 : decode cX9_back 13 = .ok (.iconst 3, 1) := by decide +kernel
theorem dX9_back_14 : decode cX9_back 14 = .ok (.if_icmp .lt 9, 3) := by decide +kernel
theorem dX9_back_17 : decode cX9_back 17 = .ok (.aload_n 0, 1) := by decide +kernel
theorem dX9_back_18 : decode cX9_back 18 = .ok (.iconst 1, 1) := by decide +kernel
theorem dX9_back_19 : decode cX9_back 19 = .ok (.invokevirtual 176, 3) := by decide +kernel
theorem dX9_back_22 : decode cX9_back 22 = .ok (.ireturn, 1) := by decide +kernel
theorem dX9_back_23 : decode cX9_back 23 = .ok (.aload_n 0, 1) := by decide +kernel
theorem dX9_back_24 : decode cX9_back 24 = .ok (.getfield 26, 3) := by decide +kernel
theorem dX9_back_27 : decode cX9_back 27 = .ok (.iload_n 1, 1) := by decide +kernel
theorem dX9_back_28 : decode cX9_back 28 = .ok (.aaload, 1) := by decide +kernel
theorem dX9_back_29 : decode cX9_back 29 = .ok (.astore_n 2, 1) := by decide +kernel
theorem dX9_back_30 : decode cX9_back 30 = .ok (.aload_n 2, 1) := by decide +kernel
theorem dX9_back_31 : decode cX9_back 31 = .ok (.ifnonnull 9, 3) := by decide +kernel
theorem dX9_back_34 : decode cX9_back 34 = .ok (.aload_n 0, 1) := by decide +kernel
theorem dX9_back_35 : decode cX9_back 35 = .ok (.iconst 1, 1) := by decide +kernel
theorem dX9_back_36 : decode cX9_back 36 = .ok (.invokevirtual 176, 3) := by decide +kernel
theorem dX9_back_39 : decode cX9_back 39 = .ok (.ireturn, 1) := by decide +kernel
theorem dX9_back_40 : decode cX9_back 40 = .ok (.aload_n 0, 1) := by decide +kernel
theorem dX9_back_41 : decode cX9_back 41 = .ok (.getfield 19, 3) := by decide +kernel
theorem dX9_back_44 : decode cX9_back 44 = .ok (.aload_n 2, 1) := by decide +kernel
theorem dX9_back_45 : decode cX9_back 45 = .ok (.invokevirtual 96, 3) := by decide +kernel
theorem dX9_back_48 : decode cX9_back 48 = .ok (.aload_n 0, 1) := by decide +kernel
theorem dX9_back_49 : decode cX9_back 49 = .ok (.aload_n 0, 1) := by decide +kernel
theorem dX9_back_50 : decode cX9_back 50 = .ok (.getfield 30, 3) := by decide +kernel
theorem dX9_back_53 : decode cX9_back 53 = .ok (.iload_n 1, 1) := by decide +kernel
theorem dX9_back_54 : decode cX9_back 54 = .ok (.iaload, 1) := by decide +kernel
theorem dX9_back_55 : decode cX9_back 55 = .ok (.putfield 61, 3) := by decide +kernel
theorem dX9_back_58 : decode cX9_back 58 = .ok (.aload_n 0, 1) := by decide +kernel
theorem dX9_back_59 : decode cX9_back 59 = .ok (.iconst 0, 1) := by decide +kernel
theorem dX9_back_60 : decode cX9_back 60 = .ok (.invokevirtual 176, 3) := by decide +kernel
theorem dX9_back_63 : decode cX9_back 63 = .ok (.ireturn, 1) := by decide +kernel
theorem dX9_call_0 : decode cX9_call 0 = .ok (.aload_n 0, 1) := by decide +kernel
theorem dX9_call_1 : decode cX9_call 1 = .ok (.getfield 19, 3) := by decide +kernel
theorem dX9_call_4 : decode cX9_call 4 = .ok (.iload_n 1, 1) := by decide +kernel
theorem dX9_call_5 : decode cX9_call 5 = .ok (.invokevirtual 135, 3) := by decide +kernel
theorem dX9_call_8 : decode cX9_call 8 = .ok (.ifCond .eq 13, 3) := by decide +kernel
theorem dX9_call_11 : decode cX9_call 11 = .ok (.iload_n 2, 1) := by decide +kernel
theorem dX9_call_12 : decode cX9_call 12 = .ok (.ifCond .lt 9, 3) := by decide +kernel
theorem dX9_call_15 : decode cX9_call 15 = .ok (.iload_n 2, 1) := by decide +kernel
theorem dX9_call_16 : decode cX9_call 16 = .ok (.bipush 6, 2) := by decide +kernel
theorem dX9_call_18 : decode cX9_call 18 = .ok (.if_icmp .le 9, 3) := by decide +kernel
theorem dX9_call_21 : decode cX9_call 21 = .ok (.aload_n 0, 1) := by decide +kernel
theorem dX9_call_22 : decode cX9_call 22 = .ok (.iconst 1, 1) := by decide +kernel
theorem dX9_call_23 : decode cX9_call 23 = .ok (.invokevirtual 84, 3) := by decide +kernel
theorem dX9_call_26 : decode cX9_call 26 = .ok (.ireturn, 1) := by decide +kernel
theorem dX9_call_27 : decode cX9_call 27 = .ok (.aload_n 0, 1) := by decide +kernel
theorem dX9_call_28 : decode cX9_call 28 = .ok (.aload_n 0, 1) := by decide +kernel
theorem dX9_call_29 : decode cX9_call 29 = .ok (.getfield 19, 3) := by decide +kernel
theorem dX9_call_32 : decode cX9_call 32 = .ok (.iload_n 1, 1) := by decide +kernel
theorem dX9_call_33 : decode cX9_call 33 = .ok (.iload_n 2, 1) := by decide +kernel
theorem dX9_call_34 : decode cX9_call 34 = .ok (.invokevirtual 211, 3) := by decide +kernel
theorem dX9_call_37 : decode cX9_call 37 = .ok (.invokevirtual 102, 3) := by decide +kernel
theorem dX9_call_40 : decode cX9_call 40 = .ok (.ireturn, 1) := by decide +kernel
theorem dX9_led_0 : decode cX9_led 0 = .ok (.aload_n 0, 1) := by decide +kernel
theorem dX9_led_1 : decode cX9_led 1 = .ok (.getfield 19, 3) := by decide +kernel
theorem dX9_led_4 : decode cX9_led 4 = .ok (.iload_n 1, 1) := by decide +kernel
theorem dX9_led_5 : decode cX9_led 5 = .ok (.invokevirtual 214, 3) := by decide +kernel
theorem dX9_led_8 : decode cX9_led 8 = .ok (.istore_n 2, 1) := by decide +kernel
theorem dX9_led_9 : decode cX9_led 9 = .ok (.iload_n 2, 1) := by decide +kernel
theorem dX9_led_10 : decode cX9_led 10 = .ok (.ifCond .ge 13, 3) := by decide +kernel
theorem dX9_led_13 : decode cX9_led 13 = .ok (.new 217, 3) := by decide +kernel
theorem dX9_led_16 : decode cX9_led 16 = .ok (.dup, 1) := by decide +kernel
theorem dX9_led_17 : decode cX9_led 17 = .ok (.ldc 219, 2) := by decide +kernel
theorem dX9_led_19 : decode cX9_led 19 = .ok (.invokespecial 221, 3) := by decide +kernel
theorem dX9_led_22 : decode cX9_led 22 = .ok (.athrow, 1) := by decide +kernel
theorem dX9_led_23 : decode cX9_led 23 = .ok (.iload_n 2, 1) := by decide +kernel
theorem dX9_led_24 : decode cX9_led 24 = .ok (.ireturn, 1) := by decide +kernel
theorem dX9_told_0 : decode cX9_told 0 = .ok (.iload_n 1, 1) := by decide +kernel
theorem dX9_told_1 : decode cX9_told 1 = .ok (.tableswitch 119 0 7 #[47, 55, 63, 71, 90, 98, 103, 108], 47) := by decide +kernel
theorem dX9_told_48 : decode cX9_told 48 = .ok (.aload_n 0, 1) := by decide +kernel
theorem dX9_told_49 : decode cX9_told 49 = .ok (.getfield 10, 3) := by decide +kernel
theorem dX9_told_52 : decode cX9_told 52 = .ok (.getfield 224, 3) := by decide +kernel
theorem dX9_told_55 : decode cX9_told 55 = .ok (.ireturn, 1) := by decide +kernel
theorem dX9_told_56 : decode cX9_told 56 = .ok (.aload_n 0, 1) := by decide +kernel
theorem dX9_told_57 : decode cX9_told 57 = .ok (.getfield 10, 3) := by decide +kernel
theorem dX9_told_60 : decode cX9_told 60 = .ok (.getfield 227, 3) := by decide +kernel
theorem dX9_told_63 : decode cX9_told 63 = .ok (.ireturn, 1) := by decide +kernel
theorem dX9_told_64 : decode cX9_told 64 = .ok (.aload_n 0, 1) := by decide +kernel
theorem dX9_told_65 : decode cX9_told 65 = .ok (.getfield 19, 3) := by decide +kernel
theorem dX9_told_68 : decode cX9_told 68 = .ok (.getfield 99, 3) := by decide +kernel
theorem dX9_told_71 : decode cX9_told 71 = .ok (.ireturn, 1) := by decide +kernel
theorem dX9_told_72 : decode cX9_told 72 = .ok (.aload_n 0, 1) := by decide +kernel
theorem dX9_told_73 : decode cX9_told 73 = .ok (.getfield 19, 3) := by decide +kernel
theorem dX9_told_76 : decode cX9_told 76 = .ok (.getfield 99, 3) := by decide +kernel
theorem dX9_told_79 : decode cX9_told 79 = .ok (.aload_n 0, 1) := by decide +kernel
theorem dX9_told_80 : decode cX9_told 80 = .ok (.getfield 19, 3) := by decide +kernel
theorem dX9_told_83 : decode cX9_told 83 = .ok (.invokevirtual 230, 3) := by decide +kernel
theorem dX9_told_86 : decode cX9_told 86 = .ok (.invokestatic 233, 3) := by decide +kernel
theorem dX9_told_89 : decode cX9_told 89 = .ok (.isub, 1) := by decide +kernel
theorem dX9_told_90 : decode cX9_told 90 = .ok (.ireturn, 1) := by decide +kernel
theorem dX9_told_91 : decode cX9_told 91 = .ok (.aload_n 0, 1) := by decide +kernel
theorem dX9_told_92 : decode cX9_told 92 = .ok (.getfield 10, 3) := by decide +kernel
theorem dX9_told_95 : decode cX9_told 95 = .ok (.getfield 208, 3) := by decide +kernel
theorem dX9_told_98 : decode cX9_told 98 = .ok (.ireturn, 1) := by decide +kernel
theorem dX9_told_99 : decode cX9_told 99 = .ok (.aload_n 0, 1) := by decide +kernel
theorem dX9_told_100 : decode cX9_told 100 = .ok (.getfield 61, 3) := by decide +kernel
theorem dX9_told_103 : decode cX9_told 103 = .ok (.ireturn, 1) := by decide +kernel
theorem dX9_told_104 : decode cX9_told 104 = .ok (.aload_n 0, 1) := by decide +kernel
theorem dX9_told_105 : decode cX9_told 105 = .ok (.getfield 57, 3) := by decide +kernel
theorem dX9_told_108 : decode cX9_told 108 = .ok (.ireturn, 1) := by decide +kernel
theorem dX9_told_109 : decode cX9_told 109 = .ok (.aload_n 0, 1) := by decide +kernel
theorem dX9_told_110 : decode cX9_told 110 = .ok (.getfield 37, 3) := by decide +kernel
theorem dX9_told_113 : decode cX9_told 113 = .ok (.getfield 67, 3) := by decide +kernel
theorem dX9_told_116 : decode cX9_told 116 = .ok (.getfield 81, 3) := by decide +kernel
theorem dX9_told_119 : decode cX9_told 119 = .ok (.ireturn, 1) := by decide +kernel
theorem dX9_told_120 : decode cX9_told 120 = .ok (.iconst (-1), 1) := by decide +kernel
theorem dX9_told_121 : decode cX9_told 121 = .ok (.ireturn, 1) := by decide +kernel
theorem dX9_trouble_0 : decode cX9_trouble 0 = .ok (.aload_n 0, 1) := by decide +kernel
theorem dX9_trouble_1 : decode cX9_trouble 1 = .ok (.getfield 64, 3) := by decide +kernel
theorem dX9_trouble_4 : decode cX9_trouble 4 = .ok (.ireturn, 1) := by decide +kernel
theorem dX9_hasKind_0 : decode cX9_hasKind 0 = .ok (.aload_n 0, 1) := by decide +kernel
theorem dX9_hasKind_1 : decode cX9_hasKind 1 = .ok (.getfield 10, 3) := by decide +kernel
theorem dX9_hasKind_4 : decode cX9_hasKind 4 = .ok (.getfield 154, 3) := by decide +kernel
theorem dX9_hasKind_7 : decode cX9_hasKind 7 = .ok (.ifCond .eq 16, 3) := by decide +kernel
theorem dX9_hasKind_10 : decode cX9_hasKind 10 = .ok (.iload_n 1, 1) := by decide +kernel
theorem dX9_hasKind_11 : decode cX9_hasKind 11 = .ok (.ifCond .lt 12, 3) := by decide +kernel
theorem dX9_hasKind_14 : decode cX9_hasKind 14 = .ok (.iload_n 1, 1) := by decide +kernel
theorem dX9_hasKind_15 : decode cX9_hasKind 15 = .ok (.iload_n 2, 1) := by decide +kernel
theorem dX9_hasKind_16 : decode cX9_hasKind 16 = .ok (.if_icmp .gt 7, 3) := by decide +kernel
theorem dX9_hasKind_19 : decode cX9_hasKind 19 = .ok (.iconst 1, 1) := by decide +kernel
theorem dX9_hasKind_20 : decode cX9_hasKind 20 = .ok (.goto 4, 3) := by decide +kernel
theorem dX9_hasKind_23 : decode cX9_hasKind 23 = .ok (.iconst 0, 1) := by decide +kernel
theorem dX9_hasKind_24 : decode cX9_hasKind 24 = .ok (.ireturn, 1) := by decide +kernel
theorem dX9_refused_0 : decode cX9_refused 0 = .ok (.aload_n 0, 1) := by decide +kernel
theorem dX9_refused_1 : decode cX9_refused 1 = .ok (.iload_n 1, 1) := by decide +kernel
theorem dX9_refused_2 : decode cX9_refused 2 = .ok (.putfield 64, 3) := by decide +kernel
theorem dX9_refused_5 : decode cX9_refused 5 = .ok (.iconst (-1), 1) := by decide +kernel
theorem dX9_refused_6 : decode cX9_refused 6 = .ok (.ireturn, 1) := by decide +kernel
theorem dX9_allowed_0 : decode cX9_allowed 0 = .ok (.aload_n 0, 1) := by decide +kernel
theorem dX9_allowed_1 : decode cX9_allowed 1 = .ok (.iload_n 1, 1) := by decide +kernel
theorem dX9_allowed_2 : decode cX9_allowed 2 = .ok (.putfield 64, 3) := by decide +kernel
theorem dX9_allowed_5 : decode cX9_allowed 5 = .ok (.iload_n 1, 1) := by decide +kernel
theorem dX9_allowed_6 : decode cX9_allowed 6 = .ok (.ifCond .ne 7, 3) := by decide +kernel
theorem dX9_allowed_9 : decode cX9_allowed 9 = .ok (.iconst 1, 1) := by decide +kernel
theorem dX9_allowed_10 : decode cX9_allowed 10 = .ok (.goto 4, 3) := by decide +kernel
theorem dX9_allowed_13 : decode cX9_allowed 13 = .ok (.iconst 0, 1) := by decide +kernel
theorem dX9_allowed_14 : decode cX9_allowed 14 = .ok (.ireturn, 1) := by decide +kernel
theorem dX9_answered_0 : decode cX9_answered 0 = .ok (.iload_n 1, 1) := by decide +kernel
theorem dX9_answered_1 : decode cX9_answered 1 = .ok (.bipush (-10), 2) := by decide +kernel
theorem dX9_answered_3 : decode cX9_answered 3 = .ok (.if_icmp .ne 9, 3) := by decide +kernel
theorem dX9_answered_6 : decode cX9_answered 6 = .ok (.aload_n 0, 1) := by decide +kernel
theorem dX9_answered_7 : decode cX9_answered 7 = .ok (.iconst 3, 1) := by decide +kernel
theorem dX9_answered_8 : decode cX9_answered 8 = .ok (.invokevirtual 84, 3) := by decide +kernel
theorem dX9_answered_11 : decode cX9_answered 11 = .ok (.ireturn, 1) := by decide +kernel
theorem dX9_answered_12 : decode cX9_answered 12 = .ok (.iload_n 1, 1) := by decide +kernel
theorem dX9_answered_13 : decode cX9_answered 13 = .ok (.bipush (-11), 2) := by decide +kernel
theorem dX9_answered_15 : decode cX9_answered 15 = .ok (.if_icmp .ne 10, 3) := by decide +kernel
theorem dX9_answered_18 : decode cX9_answered 18 = .ok (.aload_n 0, 1) := by decide +kernel
theorem dX9_answered_19 : decode cX9_answered 19 = .ok (.bipush 6, 2) := by decide +kernel
theorem dX9_answered_21 : decode cX9_answered 21 = .ok (.invokevirtual 84, 3) := by decide +kernel
theorem dX9_answered_24 : decode cX9_answered 24 = .ok (.ireturn, 1) := by decide +kernel
theorem dX9_answered_25 : decode cX9_answered 25 = .ok (.aload_n 0, 1) := by decide +kernel
theorem dX9_answered_26 : decode cX9_answered 26 = .ok (.iconst 0, 1) := by decide +kernel
theorem dX9_answered_27 : decode cX9_answered 27 = .ok (.putfield 64, 3) := by decide +kernel
theorem dX9_answered_30 : decode cX9_answered 30 = .ok (.iload_n 1, 1) := by decide +kernel
theorem dX9_answered_31 : decode cX9_answered 31 = .ok (.ireturn, 1) := by decide +kernel
