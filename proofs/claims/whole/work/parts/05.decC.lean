theorem dX9_init_0 : decode cX9_init 0 = .ok (.aload_n 0, 1) := by decide +kernel
theorem dX9_init_1 : decode cX9_init 1 = .ok (.invokespecial 1, 3) := by decide +kernel
theorem dX9_init_4 : decode cX9_init 4 = .ok (.aload_n 0, 1) := by decide +kernel
theorem dX9_init_5 : decode cX9_init 5 = .ok (.bipush 8, 2) := by decide +kernel
theorem dX9_init_7 : decode cX9_init 7 = .ok (.newarray .int, 2) := by decide +kernel
theorem dX9_init_9 : decode cX9_init 9 = .ok (.putfield 7, 3) := by decide +kernel
theorem dX9_init_12 : decode cX9_init 12 = .ok (.aload_n 0, 1) := by decide +kernel
theorem dX9_init_13 : decode cX9_init 13 = .ok (.bipush 8, 2) := by decide +kernel
theorem dX9_init_15 : decode cX9_init 15 = .ok (.newarray .int, 2) := by decide +kernel
theorem dX9_init_17 : decode cX9_init 17 = .ok (.putfield 13, 3) := by decide +kernel
theorem dX9_init_20 : decode cX9_init 20 = .ok (.aload_n 0, 1) := by decide +kernel
theorem dX9_init_21 : decode cX9_init 21 = .ok (.sipush 320, 3) := by decide +kernel
theorem dX9_init_24 : decode cX9_init 24 = .ok (.newarray .int, 2) := by decide +kernel
theorem dX9_init_26 : decode cX9_init 26 = .ok (.putfield 16, 3) := by decide +kernel
theorem dX9_init_29 : decode cX9_init 29 = .ok (.aload_n 0, 1) := by decide +kernel
theorem dX9_init_30 : decode cX9_init 30 = .ok (.bipush 40, 2) := by decide +kernel
theorem dX9_init_32 : decode cX9_init 32 = .ok (.newarray .int, 2) := by decide +kernel
theorem dX9_init_34 : decode cX9_init 34 = .ok (.putfield 19, 3) := by decide +kernel
theorem dX9_init_37 : decode cX9_init 37 = .ok (.aload_n 0, 1) := by decide +kernel
theorem dX9_init_38 : decode cX9_init 38 = .ok (.bipush 120, 2) := by decide +kernel
theorem dX9_init_40 : decode cX9_init 40 = .ok (.newarray .int, 2) := by decide +kernel
theorem dX9_init_42 : decode cX9_init 42 = .ok (.putfield 22, 3) := by decide +kernel
theorem dX9_init_45 : decode cX9_init 45 = .ok (.aload_n 0, 1) := by decide +kernel
theorem dX9_init_46 : decode cX9_init 46 = .ok (.bipush 57, 2) := by decide +kernel
theorem dX9_init_48 : decode cX9_init 48 = .ok (.newarray .int, 2) := by decide +kernel
theorem dX9_init_50 : decode cX9_init 50 = .ok (.putfield 25, 3) := by decide +kernel
theorem dX9_init_53 : decode cX9_init 53 = .ok (.aload_n 0, 1) := by decide +kernel
theorem dX9_init_54 : decode cX9_init 54 = .ok (.bipush 57, 2) := by decide +kernel
theorem dX9_init_56 : decode cX9_init 56 = .ok (.newarray .int, 2) := by decide +kernel
theorem dX9_init_58 : decode cX9_init 58 = .ok (.putfield 28, 3) := by decide +kernel
theorem dX9_init_61 : decode cX9_init 61 = .ok (.aload_n 0, 1) := by decide +kernel
theorem dX9_init_62 : decode cX9_init 62 = .ok (.bipush 57, 2) := by decide +kernel
theorem dX9_init_64 : decode cX9_init 64 = .ok (.newarray .int, 2) := by decide +kernel
theorem dX9_init_66 : decode cX9_init 66 = .ok (.putfield 31, 3) := by decide +kernel
theorem dX9_init_69 : decode cX9_init 69 = .ok (.aload_n 0, 1) := by decide +kernel
theorem dX9_init_70 : decode cX9_init 70 = .ok (.sipush 1368, 3) := by decide +kernel
theorem dX9_init_73 : decode cX9_init 73 = .ok (.newarray .int, 2) := by decide +kernel
theorem dX9_init_75 : decode cX9_init 75 = .ok (.putfield 34, 3) := by decide +kernel
theorem dX9_init_78 : decode cX9_init 78 = .ok (.aload_n 0, 1) := by decide +kernel
theorem dX9_init_79 : decode cX9_init 79 = .ok (.bipush 114, 2) := by decide +kernel
theorem dX9_init_81 : decode cX9_init 81 = .ok (.newarray .int, 2) := by decide +kernel
theorem dX9_init_83 : decode cX9_init 83 = .ok (.putfield 37, 3) := by decide +kernel
theorem dX9_init_86 : decode cX9_init 86 = .ok (.aload_n 0, 1) := by decide +kernel
theorem dX9_init_87 : decode cX9_init 87 = .ok (.iconst 2, 1) := by decide +kernel
theorem dX9_init_88 : decode cX9_init 88 = .ok (.newarray .boolean, 2) := by decide +kernel
theorem dX9_init_90 : decode cX9_init 90 = .ok (.putfield 40, 3) := by decide +kernel
theorem dX9_init_93 : decode cX9_init 93 = .ok (.aload_n 0, 1) := by decide +kernel
theorem dX9_init_94 : decode cX9_init 94 = .ok (.iconst 5, 1) := by decide +kernel
theorem dX9_init_95 : decode cX9_init 95 = .ok (.newarray .int, 2) := by decide +kernel
theorem dX9_init_97 : decode cX9_init 97 = .ok (.putfield 44, 3) := by decide +kernel
theorem dX9_init_100 : decode cX9_init 100 = .ok (.aload_n 0, 1) := by decide +kernel
theorem dX9_init_101 : decode cX9_init 101 = .ok (.iconst 5, 1) := by decide +kernel
theorem dX9_init_102 : decode cX9_init 102 = .ok (.newarray .int, 2) := by decide +kernel
theorem dX9_init_104 : decode cX9_init 104 = .ok (.putfield 47, 3) := by decide +kernel
theorem dX9_init_107 : decode cX9_init 107 = .ok (.aload_n 0, 1) := by decide +kernel
theorem dX9_init_108 : decode cX9_init 108 = .ok (.bipush 16, 2) := by decide +kernel
theorem dX9_init_110 : decode cX9_init 110 = .ok (.newarray .int, 2) := by decide +kernel
theorem dX9_init_112 : decode cX9_init 112 = .ok (.putfield 50, 3) := by decide +kernel
theorem dX9_init_115 : decode cX9_init 115 = .ok (.iconst 0, 1) := by decide +kernel
theorem dX9_init_116 : decode cX9_init 116 = .ok (.istore_n 1, 1) := by decide +kernel
theorem dX9_init_117 : decode cX9_init 117 = .ok (.iload_n 1, 1) := by decide +kernel
theorem dX9_init_118 : decode cX9_init 118 = .ok (.bipush 8, 2) := by decide +kernel
theorem dX9_init_120 : decode cX9_init 120 = .ok (.if_icmp .ge 17, 3) := by decide +kernel
theorem dX9_init_123 : decode cX9_init 123 = .ok (.aload_n 0, 1) := by decide +kernel
theorem dX9_init_124 : decode cX9_init 124 = .ok (.getfield 7, 3) := by decide +kernel
theorem dX9_init_127 : decode cX9_init 127 = .ok (.iload_n 1, 1) := by decide +kernel
theorem dX9_init_128 : decode cX9_init 128 = .ok (.ldc 53, 2) := by decide +kernel
theorem dX9_init_130 : decode cX9_init 130 = .ok (.iastore, 1) := by decide +kernel
theorem dX9_init_131 : decode cX9_init 131 = .ok (.iinc 1 1, 3) := by decide +kernel
theorem dX9_init_134 : decode cX9_init 134 = .ok (.goto (-17), 3) := by decide +kernel
theorem dX9_init_137 : decode cX9_init 137 = .ok (.return_, 1) := by decide +kernel
theorem dX9_in_0 : decode cX9_in 0 = .ok (.iload_n 0, 1) := by decide +kernel
theorem dX9_in_1 : decode cX9_in 1 = .ok (.iload_n 1, 1) := by decide +kernel
theorem dX9_in_2 : decode cX9_in 2 = .ok (.if_icmp .lt 12, 3) := by decide +kernel
theorem dX9_in_5 : decode cX9_in 5 = .ok (.iload_n 0, 1) := by decide +kernel
theorem dX9_in_6 : decode cX9_in 6 = .ok (.iload_n 2, 1) := by decide +kernel
theorem dX9_in_7 : decode cX9_in 7 = .ok (.if_icmp .gt 7, 3) := by decide +kernel
theorem dX9_in_10 : decode cX9_in 10 = .ok (.iconst 1, 1) := by decide +kernel
theorem dX9_in_11 : decode cX9_in 11 = .ok (.goto 4, 3) := by decide +kernel
theorem dX9_in_14 : decode cX9_in 14 = .ok (.iconst 0, 1) := by decide +kernel
theorem dX9_in_15 : decode cX9_in 15 = .ok (.ireturn, 1) := by decide +kernel
theorem dX9_has_0 : decode cX9_has 0 = .ok (.iload_n 0, 1) := by decide +kernel
theorem dX9_has_1 : decode cX9_has 1 = .ok (.iload_n 1, 1) := by decide +kernel
theorem dX9_has_2 : decode cX9_has 2 = .ok (.ishr, 1) := by decide +kernel
theorem dX9_has_3 : decode cX9_has 3 = .ok (.iconst 1, 1) := by decide +kernel
theorem dX9_has_4 : decode cX9_has 4 = .ok (.iand, 1) := by decide +kernel
theorem dX9_has_5 : decode cX9_has 5 = .ok (.iconst 1, 1) := by decide +kernel
theorem dX9_has_6 : decode cX9_has 6 = .ok (.if_icmp .ne 7, 3) := by decide +kernel
theorem dX9_has_9 : decode cX9_has 9 = .ok (.iconst 1, 1) := by decide +kernel
theorem dX9_has_10 : decode cX9_has 10 = .ok (.goto 4, 3) := by decide +kernel
theorem dX9_has_13 : decode cX9_has 13 = .ok (.iconst 0, 1) := by decide +kernel
theorem dX9_has_14 : decode cX9_has 14 = .ok (.ireturn, 1) := by decide +kernel
theorem dX9_ones_0 : decode cX9_ones 0 = .ok (.iconst 0, 1) := by decide +kernel
theorem dX9_ones_1 : decode cX9_ones 1 = .ok (.istore_n 1, 1) := by decide +kernel
theorem dX9_ones_2 : decode cX9_ones 2 = .ok (.iconst 0, 1) := by decide +kernel
theorem dX9_ones_3 : decode cX9_ones 3 = .ok (.istore_n 2, 1) := by decide +kernel
theorem dX9_ones_4 : decode cX9_ones 4 = .ok (.iload_n 2, 1) := by decide +kernel
theorem dX9_ones_5 : decode cX9_ones 5 = .ok (.bipush 8, 2) := by decide +kernel
theorem dX9_ones_7 : decode cX9_ones 7 = .ok (.if_icmp .ge 17, 3) := by decide +kernel
theorem dX9_ones_10 : decode cX9_ones 10 = .ok (.iload_n 1, 1) := by decide +kernel
theorem dX9_ones_11 : decode cX9_ones 11 = .ok (.iload_n 0, 1) := by decide +kernel
theorem dX9_ones_12 : decode cX9_ones 12 = .ok (.iload_n 2, 1) := by decide +kernel
theorem dX9_ones_13 : decode cX9_ones 13 = .ok (.ishr, 1) := by decide +kernel
theorem dX9_ones_14 : decode cX9_ones 14 = .ok (.iconst 1, 1) := by decide +kernel
theorem dX9_ones_15 : decode cX9_ones 15 = .ok (.iand, 1) := by decide +kernel
theorem dX9_ones_16 : decode cX9_ones 16 = .ok (.iadd, 1) := by decide +kernel
theorem dX9_ones_17 : decode cX9_ones 17 = .ok (.istore_n 1, 1) := by decide +kernel
theorem dX9_ones_18 : decode cX9_ones 18 = .ok (.iinc 2 1, 3) := by decide +kernel
theorem dX9_ones_21 : decode cX9_ones 21 = .ok (.goto (-17), 3) := by decide +kernel
theorem dX9_ones_24 : decode cX9_ones 24 = .ok (.iload_n 1, 1) := by decide +kernel
theorem dX9_ones_25 : decode cX9_ones 25 = .ok (.ireturn, 1) := by decide +kernel
theorem dX9_found_0 : decode cX9_found 0 = .ok (.aload_n 0, 1) := by decide +kernel
theorem dX9_found_1 : decode cX9_found 1 = .ok (.iload_n 1, 1) := by decide +kernel
theorem dX9_found_2 : decode cX9_found 2 = .ok (.putfield 54, 3) := by decide +kernel
theorem dX9_found_5 : decode cX9_found 5 = .ok (.ldc 58, 2) := by decide +kernel
theorem dX9_found_7 : decode cX9_found 7 = .ok (.iload_n 1, 1) := by decide +kernel
theorem dX9_found_8 : decode cX9_found 8 = .ok (.isub, 1) := by decide +kernel
theorem dX9_found_9 : decode cX9_found 9 = .ok (.ireturn, 1) := by decide +kernel
theorem dX9_well_0 : decode cX9_well 0 = .ok (.aload_n 0, 1) := by decide +kernel
theorem dX9_well_1 : decode cX9_well 1 = .ok (.iconst 0, 1) := by decide +kernel
theorem dX9_well_2 : decode cX9_well 2 = .ok (.putfield 54, 3) := by decide +kernel
theorem dX9_well_5 : decode cX9_well 5 = .ok (.iload_n 1, 1) := by decide +kernel
theorem dX9_well_6 : decode cX9_well 6 = .ok (.ireturn, 1) := by decide +kernel
theorem dX9_copies_0 : decode cX9_copies 0 = .ok (.iconst 0, 1) := by decide +kernel
theorem dX9_copies_1 : decode cX9_copies 1 = .ok (.istore 4, 2) := by decide +kernel
theorem dX9_copies_3 : decode cX9_copies 3 = .ok (.iload 4, 2) := by decide +kernel
theorem dX9_copies_5 : decode cX9_copies 5 = .ok (.bipush 57, 2) := by decide +kernel
theorem dX9_copies_7 : decode cX9_copies 7 = .ok (.if_icmp .ge 21, 3) := by decide +kernel
theorem dX9_copies_10 : decode cX9_copies 10 = .ok (.aload_n 2, 1) := by decide +kernel
theorem dX9_copies_11 : decode cX9_copies 11 = .ok (.iload_n 3, 1) := by decide +kernel
theorem dX9_copies_12 : decode cX9_copies 12 = .ok (.iload 4, 2) := by decide +kernel
theorem dX9_copies_14 : decode cX9_copies 14 = .ok (.iadd, 1) := by decide +kernel
theorem dX9_copies_15 : decode cX9_copies 15 = .ok (.aload_n 0, 1) := by decide +kernel
theorem dX9_copies_16 : decode cX9_copies 16 = .ok (.iload_n 1, 1) := by decide +kernel
theorem dX9_copies_17 : decode cX9_copies 17 = .ok (.iload 4, 2) := by decide +kernel
theorem dX9_copies_19 : decode cX9_copies 19 = .ok (.iadd, 1) := by decide +kernel
theorem dX9_copies_20 : decode cX9_copies 20 = .ok (.iaload, 1) := by decide +kernel
theorem dX9_copies_21 : decode cX9_copies 21 = .ok (.iastore, 1) := by decide +kernel
theorem dX9_copies_22 : decode cX9_copies 22 = .ok (.iinc 4 1, 3) := by decide +kernel
theorem dX9_copies_25 : decode cX9_copies 25 = .ok (.goto (-22), 3) := by decide +kernel
theorem dX9_copies_28 : decode cX9_copies 28 = .ok (.return_, 1) := by decide +kernel
theorem dX9_isRow_0 : decode cX9_isRow 0 = .ok (.iload_n 0, 1) := by decide +kernel
theorem dX9_isRow_1 : decode cX9_isRow 1 = .ok (.iconst 0, 1) := by decide +kernel
theorem dX9_isRow_2 : decode cX9_isRow 2 = .ok (.bipush 7, 2) := by decide +kernel
theorem dX9_isRow_4 : decode cX9_isRow 4 = .ok (.invokestatic 59, 3) := by decide +kernel
theorem dX9_isRow_7 : decode cX9_isRow 7 = .ok (.ireturn, 1) := by decide +kernel
theorem dX9_isMissing_0 : decode cX9_isMissing 0 = .ok (.aload_n 0, 1) := by decide +kernel
theorem dX9_isMissing_1 : decode cX9_isMissing 1 = .ok (.getfield 7, 3) := by decide +kernel
theorem dX9_isMissing_4 : decode cX9_isMissing 4 = .ok (.iload_n 1, 1) := by decide +kernel
theorem dX9_isMissing_5 : decode cX9_isMissing 5 = .ok (.iaload, 1) := by decide +kernel
theorem dX9_isMissing_6 : decode cX9_isMissing 6 = .ok (.ldc 53, 2) := by decide +kernel
theorem dX9_isMissing_8 : decode cX9_isMissing 8 = .ok (.if_icmp .ne 7, 3) := by decide +kernel
theorem dX9_isMissing_11 : decode cX9_isMissing 11 = .ok (.iconst 1, 1) := by decide +kernel
theorem dX9_isMissing_12 : decode cX9_isMissing 12 = .ok (.goto 4, 3) := by decide +kernel
theorem dX9_isMissing_15 : decode cX9_isMissing 15 = .ok (.iconst 0, 1) := by decide +kernel
theorem dX9_isMissing_16 : decode cX9_isMissing 16 = .ok (.ireturn, 1) := by decide +kernel
theorem dX9_cut_0 : decode cX9_cut 0 = .ok (.iload_n 0, 1) := by decide +kernel
theorem dX9_cut_1 : decode cX9_cut 1 = .ok (.ifCond .ne 13, 3) := by decide +kernel
theorem dX9_cut_4 : decode cX9_cut 4 = .ok (.iload_n 1, 1) := by decide +kernel
theorem dX9_cut_5 : decode cX9_cut 5 = .ok (.bipush 24, 2) := by decide +kernel
theorem dX9_cut_7 : decode cX9_cut 7 = .ok (.ishl, 1) := by decide +kernel
theorem dX9_cut_8 : decode cX9_cut 8 = .ok (.bipush 24, 2) := by decide +kernel
theorem dX9_cut_10 : decode cX9_cut 10 = .ok (.ishr, 1) := by decide +kernel
theorem dX9_cut_11 : decode cX9_cut 11 = .ok (.goto 19, 3) := by decide +kernel
theorem dX9_cut_14 : decode cX9_cut 14 = .ok (.iload_n 0, 1) := by decide +kernel
theorem dX9_cut_15 : decode cX9_cut 15 = .ok (.iconst 1, 1) := by decide +kernel
theorem dX9_cut_16 : decode cX9_cut 16 = .ok (.if_icmp .ne 13, 3) := by decide +kernel
theorem dX9_cut_19 : decode cX9_cut 19 = .ok (.iload_n 1, 1) := by decide +kernel
theorem dX9_cut_20 : decode cX9_cut 20 = .ok (.bipush 16, 2) := by decide +kernel
theorem dX9_cut_22 : decode cX9_cut 22 = .ok (.ishl, 1) := by decide +kernel
theorem dX9_cut_23 : decode cX9_cut 23 = .ok (.bipush 16, 2) := by decide +kernel
theorem dX9_cut_25 : decode cX9_cut 25 = .ok (.ishr, 1) := by decide +kernel
theorem dX9_cut_26 : decode cX9_cut 26 = .ok (.goto 4, 3) := by decide +kernel
theorem dX9_cut_29 : decode cX9_cut 29 = .ok (.iload_n 1, 1) := by decide +kernel
theorem dX9_cut_30 : decode cX9_cut 30 = .ok (.ireturn, 1) := by decide +kernel
theorem dX9_row_0 : decode cX9_row 0 = .ok (.iload_n 1, 1) := by decide +kernel
theorem dX9_row_1 : decode cX9_row 1 = .ok (.invokestatic 63, 3) := by decide +kernel
theorem dX9_row_4 : decode cX9_row 4 = .ok (.ifCond .eq 18, 3) := by decide +kernel
theorem dX9_row_7 : decode cX9_row 7 = .ok (.iload_n 2, 1) := by decide +kernel
theorem dX9_row_8 : decode cX9_row 8 = .ok (.iconst 0, 1) := by decide +kernel
theorem dX9_row_9 : decode cX9_row 9 = .ok (.iconst 2, 1) := by decide +kernel
theorem dX9_row_10 : decode cX9_row 10 = .ok (.invokestatic 59, 3) := by decide +kernel
theorem dX9_row_13 : decode cX9_row 13 = .ok (.ifCond .eq 9, 3) := by decide +kernel
theorem dX9_row_16 : decode cX9_row 16 = .ok (.iload_n 3, 1) := by decide +kernel
theorem dX9_row_17 : decode cX9_row 17 = .ok (.bipush 40, 2) := by decide +kernel
theorem dX9_row_19 : decode cX9_row 19 = .ok (.if_icmp .le 6, 3) := by decide +kernel
theorem dX9_row_22 : decode cX9_row 22 = .ok (.ldc 67, 2) := by decide +kernel
theorem dX9_row_24 : decode cX9_row 24 = .ok (.ireturn, 1) := by decide +kernel
theorem dX9_row_25 : decode cX9_row 25 = .ok (.iload_n 3, 1) := by decide +kernel
theorem dX9_row_26 : decode cX9_row 26 = .ok (.ifCond .ge 9, 3) := by decide +kernel
theorem dX9_row_29 : decode cX9_row 29 = .ok (.aload_n 0, 1) := by decide +kernel
theorem dX9_row_30 : decode cX9_row 30 = .ok (.iconst 4, 1) := by decide +kernel
theorem dX9_row_31 : decode cX9_row 31 = .ok (.invokevirtual 68, 3) := by decide +kernel
theorem dX9_row_34 : decode cX9_row 34 = .ok (.ireturn, 1) := by decide +kernel
theorem dX9_row_35 : decode cX9_row 35 = .ok (.aload_n 0, 1) := by decide +kernel
theorem dX9_row_36 : decode cX9_row 36 = .ok (.getfield 7, 3) := by decide +kernel
theorem dX9_row_39 : decode cX9_row 39 = .ok (.iload_n 1, 1) := by decide +kernel
theorem dX9_row_40 : decode cX9_row 40 = .ok (.iload_n 2, 1) := by decide +kernel
theorem dX9_row_41 : decode cX9_row 41 = .ok (.iastore, 1) := by decide +kernel
theorem dX9_row_42 : decode cX9_row 42 = .ok (.aload_n 0, 1) := by decide +kernel
theorem dX9_row_43 : decode cX9_row 43 = .ok (.getfield 13, 3) := by decide +kernel
theorem dX9_row_46 : decode cX9_row 46 = .ok (.iload_n 1, 1) := by decide +kernel
theorem dX9_row_47 : decode cX9_row 47 = .ok (.iload_n 3, 1) := by decide +kernel
theorem dX9_row_48 : decode cX9_row 48 = .ok (.iastore, 1) := by decide +kernel
theorem dX9_row_49 : decode cX9_row 49 = .ok (.iconst 0, 1) := by decide +kernel
theorem dX9_row_50 : decode cX9_row 50 = .ok (.istore 4, 2) := by decide +kernel
theorem dX9_row_52 : decode cX9_row 52 = .ok (.iload 4, 2) := by decide +kernel
theorem dX9_row_54 : decode cX9_row 54 = .ok (.bipush 40, 2) := by decide +kernel
theorem dX9_row_56 : decode cX9_row 56 = .ok (.if_icmp .ge 22, 3) := by decide +kernel
theorem dX9_row_59 : decode cX9_row 59 = .ok (.aload_n 0, 1) := by decide +kernel
theorem dX9_row_60 : decode cX9_row 60 = .ok (.getfield 16, 3) := by decide +kernel
theorem dX9_row_63 : decode cX9_row 63 = .ok (.bipush 40, 2) := by decide +kernel
theorem dX9_row_65 : decode cX9_row 65 = .ok (.iload_n 1, 1) := by decide +kernel
theorem dX9_row_66 : decode cX9_row 66 = .ok (.imul, 1) := by decide +kernel
theorem dX9_row_67 : decode cX9_row 67 = .ok (.iload 4, 2) := by decide +kernel
theorem dX9_row_69 : decode cX9_row 69 = .ok (.iadd, 1) := by decide +kernel
theorem dX9_row_70 : decode cX9_row 70 = .ok (.iconst 0, 1) := by decide +kernel
theorem dX9_row_71 : decode cX9_row 71 = .ok (.iastore, 1) := by decide +kernel
theorem dX9_row_72 : decode cX9_row 72 = .ok (.iinc 4 1, 3) := by decide +kernel
theorem dX9_row_75 : decode cX9_row 75 = .ok (.goto (-23), 3) := by decide +kernel
theorem dX9_row_78 : decode cX9_row 78 = .ok (.aload_n 0, 1) := by decide +kernel
theorem dX9_row_79 : decode cX9_row 79 = .ok (.iload_n 3, 1) := by decide +kernel
theorem dX9_row_80 : decode cX9_row 80 = .ok (.invokevirtual 72, 3) := by decide +kernel
theorem dX9_row_83 : decode cX9_row 83 = .ok (.ireturn, 1) := by decide +kernel
theorem dX9_set_0 : decode cX9_set 0 = .ok (.iload_n 1, 1) := by decide +kernel
theorem dX9_set_1 : decode cX9_set 1 = .ok (.invokestatic 63, 3) := by decide +kernel
theorem dX9_set_4 : decode cX9_set 4 = .ok (.ifCond .ne 6, 3) := by decide +kernel
theorem dX9_set_7 : decode cX9_set 7 = .ok (.ldc 67, 2) := by decide +kernel
theorem dX9_set_9 : decode cX9_set 9 = .ok (.ireturn, 1) := by decide +kernel
theorem dX9_set_10 : decode cX9_set 10 = .ok (.aload_n 0, 1) := by decide +kernel
theorem dX9_set_11 : decode cX9_set 11 = .ok (.iload_n 1, 1) := by decide +kernel
theorem dX9_set_12 : decode cX9_set 12 = .ok (.invokevirtual 75, 3) := by decide +kernel
theorem dX9_set_15 : decode cX9_set 15 = .ok (.ifCond .eq 9, 3) := by decide +kernel
theorem dX9_set_18 : decode cX9_set 18 = .ok (.aload_n 0, 1) := by decide +kernel
theorem dX9_set_19 : decode cX9_set 19 = .ok (.iconst 1, 1) := by decide +kernel
theorem dX9_set_20 : decode cX9_set 20 = .ok (.invokevirtual 68, 3) := by decide +kernel
theorem dX9_set_23 : decode cX9_set 23 = .ok (.ireturn, 1) := by decide +kernel
theorem dX9_set_24 : decode cX9_set 24 = .ok (.iload_n 2, 1) := by decide +kernel
theorem dX9_set_25 : decode cX9_set 25 = .ok (.iconst 0, 1) := by decide +kernel
theorem dX9_set_26 : decode cX9_set 26 = .ok (.aload_n 0, 1) := by decide +kernel
theorem dX9_set_27 : decode cX9_set 27 = .ok (.getfield 13, 3) := by decide +kernel
theorem dX9_set_30 : decode cX9_set 30 = .ok (.iload_n 1, 1) := by decide +kernel
theorem dX9_set_31 : decode cX9_set 31 = .ok (.iaload, 1) := by decide +kernel
theorem dX9_set_32 : decode cX9_set 32 = .ok (.iconst 1, 1) := by decide +kernel
theorem dX9_set_33 : decode cX9_set 33 = .ok (.isub, 1) := by decide +kernel
theorem dX9_set_34 : decode cX9_set 34 = .ok (.invokestatic 59, 3) := by decide +kernel
theorem dX9_set_37 : decode cX9_set 37 = .ok (.ifCond .ne 9, 3) := by decide +kernel
theorem dX9_set_40 : decode cX9_set 40 = .ok (.aload_n 0, 1) := by decide +kernel
theorem dX9_set_41 : decode cX9_set 41 = .ok (.iconst 2, 1) := by decide +kernel
theorem dX9_set_42 : decode cX9_set 42 = .ok (.invokevirtual 68, 3) := by decide +kernel
theorem dX9_set_45 : decode cX9_set 45 = .ok (.ireturn, 1) := by decide +kernel
theorem dX9_set_46 : decode cX9_set 46 = .ok (.aload_n 0, 1) := by decide +kernel
theorem dX9_set_47 : decode cX9_set 47 = .ok (.getfield 16, 3) := by decide +kernel
theorem dX9_set_50 : decode cX9_set 50 = .ok (.bipush 40, 2) := by decide +kernel
theorem dX9_set_52 : decode cX9_set 52 = .ok (.iload_n 1, 1) := by decide +kernel
theorem dX9_set_53 : decode cX9_set 53 = .ok (.imul, 1) := by decide +kernel
theorem dX9_set_54 : decode cX9_set 54 = .ok (.iload_n 2, 1) := by decide +kernel
theorem dX9_set_55 : decode cX9_set 55 = .ok (.iadd, 1) := by decide +kernel
theorem dX9_set_56 : decode cX9_set 56 = .ok (.aload_n 0, 1) := by decide +kernel
theorem dX9_set_57 : decode cX9_set 57 = .ok (.getfield 7, 3) := by decide +kernel
theorem dX9_set_60 : decode cX9_set 60 = .ok (.iload_n 1, 1) := by decide +kernel
theorem dX9_set_61 : decode cX9_set 61 = .ok (.iaload, 1) := by decide +kernel
theorem dX9_set_62 : decode cX9_set 62 = .ok (.iload_n 3, 1) := by decide +kernel
theorem dX9_set_63 : decode cX9_set 63 = .ok (.invokestatic 78, 3) := by decide +kernel
theorem dX9_set_66 : decode cX9_set 66 = .ok (.iastore, 1) := by decide +kernel
theorem dX9_set_67 : decode cX9_set 67 = .ok (.aload_n 0, 1) := by decide +kernel
theorem dX9_set_68 : decode cX9_set 68 = .ok (.aload_n 0, 1) := by decide +kernel
theorem dX9_set_69 : decode cX9_set 69 = .ok (.getfield 16, 3) := by decide +kernel
theorem dX9_set_72 : decode cX9_set 72 = .ok (.bipush 40, 2) := by decide +kernel
theorem dX9_set_74 : decode cX9_set 74 = .ok (.iload_n 1, 1) := by decide +kernel
theorem dX9_set_75 : decode cX9_set 75 = .ok (.imul, 1) := by decide +kernel
theorem dX9_set_76 : decode cX9_set 76 = .ok (.iload_n 2, 1) := by decide +kernel
theorem dX9_set_77 : decode cX9_set 77 = .ok (.iadd, 1) := by decide +kernel
theorem dX9_set_78 : decode cX9_set 78 = .ok (.iaload, 1) := by decide +kernel
theorem dX9_set_79 : decode cX9_set 79 = .ok (.invokevirtual 72, 3) := by decide +kernel
theorem dX9_set_82 : decode cX9_set 82 = .ok (.ireturn, 1) := by decide +kernel
theorem dX9_isPart_0 : decode cX9_isPart 0 = .ok (.iload_n 2, 1) := by decide +kernel
theorem dX9_isPart_1 : decode cX9_isPart 1 = .ok (.ifCond .lt 33, 3) := by decide +kernel
theorem dX9_isPart_4 : decode cX9_isPart 4 = .ok (.iload_n 3, 1) := by decide +kernel
theorem dX9_isPart_5 : decode cX9_isPart 5 = .ok (.ifCond .lt 29, 3) := by decide +kernel
theorem dX9_isPart_8 : decode cX9_isPart 8 = .ok (.iload_n 2, 1) := by decide +kernel
theorem dX9_isPart_9 : decode cX9_isPart 9 = .ok (.aload_n 0, 1) := by decide +kernel
theorem dX9_isPart_10 : decode cX9_isPart 10 = .ok (.getfield 13, 3) := by decide +kernel
theorem dX9_isPart_13 : decode cX9_isPart 13 = .ok (.iload_n 1, 1) := by decide +kernel
theorem dX9_isPart_14 : decode cX9_isPart 14 = .ok (.iaload, 1) := by decide +kernel
theorem dX9_isPart_15 : decode cX9_isPart 15 = .ok (.if_icmp .gt 19, 3) := by decide +kernel
theorem dX9_isPart_18 : decode cX9_isPart 18 = .ok (.iload_n 3, 1) := by decide +kernel
theorem dX9_isPart_19 : decode cX9_isPart 19 = .ok (.aload_n 0, 1) := by decide +kernel
theorem dX9_isPart_20 : decode cX9_isPart 20 = .ok (.getfield 13, 3) := by decide +kernel
theorem dX9_isPart_23 : decode cX9_isPart 23 = .ok (.iload_n 1, 1) := by decide +kernel
theorem dX9_isPart_24 : decode cX9_isPart 24 = .ok (.iaload, 1) := by decide +kernel
theorem dX9_isPart_25 : decode cX9_isPart 25 = .ok (.iload_n 2, 1) := by decide +kernel
theorem dX9_isPart_26 : decode cX9_isPart 26 = .ok (.isub, 1) := by decide +kernel
theorem dX9_isPart_27 : decode cX9_isPart 27 = .ok (.if_icmp .gt 7, 3) := by decide +kernel
theorem dX9_isPart_30 : decode cX9_isPart 30 = .ok (.iconst 1, 1) := by decide +kernel
theorem dX9_isPart_31 : decode cX9_isPart 31 = .ok (.goto 4, 3) := by decide +kernel
theorem dX9_isPart_34 : decode cX9_isPart 34 = .ok (.iconst 0, 1) := by decide +kernel
theorem dX9_isPart_35 : decode cX9_isPart 35 = .ok (.ireturn, 1) := by decide +kernel
theorem dX9_copy_0 : decode cX9_copy 0 = .ok (.iload_n 1, 1) := by decide +kernel
theorem dX9_copy_1 : decode cX9_copy 1 = .ok (.invokestatic 63, 3) := by decide +kernel
theorem dX9_copy_4 : decode cX9_copy 4 = .ok (.ifCond .eq 10, 3) := by decide +kernel
theorem dX9_copy_7 : decode cX9_copy 7 = .ok (.iload_n 3, 1) := by decide +kernel
theorem dX9_copy_8 : decode cX9_copy 8 = .ok (.invokestatic 63, 3) := by decide +kernel
theorem dX9_copy_11 : decode cX9_copy 11 = .ok (.ifCond .ne 6, 3) := by decide +kernel
theorem dX9_copy_14 : decode cX9_copy 14 = .ok (.ldc 67, 2) := by decide +kernel
theorem dX9_copy_16 : decode cX9_copy 16 = .ok (.ireturn, 1) := by decide +kernel
theorem dX9_copy_17 : decode cX9_copy 17 = .ok (.aload_n 0, 1) := by decide +kernel
theorem dX9_copy_18 : decode cX9_copy 18 = .ok (.iload_n 1, 1) := by decide +kernel
theorem dX9_copy_19 : decode cX9_copy 19 = .ok (.invokevirtual 75, 3) := by decide +kernel
theorem dX9_copy_22 : decode cX9_copy 22 = .ok (.ifCond .ne 11, 3) := by decide +kernel
theorem dX9_copy_25 : decode cX9_copy 25 = .ok (.aload_n 0, 1) := by decide +kernel
theorem dX9_copy_26 : decode cX9_copy 26 = .ok (.iload_n 3, 1) := by decide +kernel
theorem dX9_copy_27 : decode cX9_copy 27 = .ok (.invokevirtual 75, 3) := by decide +kernel
theorem dX9_copy_30 : decode cX9_copy 30 = .ok (.ifCond .eq 9, 3) := by decide +kernel
theorem dX9_copy_33 : decode cX9_copy 33 = .ok (.aload_n 0, 1) := by decide +kernel
theorem dX9_copy_34 : decode cX9_copy 34 = .ok (.iconst 1, 1) := by decide +kernel
theorem dX9_copy_35 : decode cX9_copy 35 = .ok (.invokevirtual 68, 3) := by decide +kernel
theorem dX9_copy_38 : decode cX9_copy 38 = .ok (.ireturn, 1) := by decide +kernel
theorem dX9_copy_39 : decode cX9_copy 39 = .ok (.aload_n 0, 1) := by decide +kernel
theorem dX9_copy_40 : decode cX9_copy 40 = .ok (.getfield 7, 3) := by decide +kernel
theorem dX9_copy_43 : decode cX9_copy 43 = .ok (.iload_n 1, 1) := by decide +kernel
theorem dX9_copy_44 : decode cX9_copy 44 = .ok (.iaload, 1) := by decide +kernel
theorem dX9_copy_45 : decode cX9_copy 45 = .ok (.aload_n 0, 1) := by decide +kernel
theorem dX9_copy_46 : decode cX9_copy 46 = .ok (.getfield 7, 3) := by decide +kernel
theorem dX9_copy_49 : decode cX9_copy 49 = .ok (.iload_n 3, 1) := by decide +kernel
theorem dX9_copy_50 : decode cX9_copy 50 = .ok (.iaload, 1) := by decide +kernel
theorem dX9_copy_51 : decode cX9_copy 51 = .ok (.if_icmp .eq 9, 3) := by decide +kernel
theorem dX9_copy_54 : decode cX9_copy 54 = .ok (.aload_n 0, 1) := by decide +kernel
theorem dX9_copy_55 : decode cX9_copy 55 = .ok (.iconst 5, 1) := by decide +kernel
theorem dX9_copy_56 : decode cX9_copy 56 = .ok (.invokevirtual 68, 3) := by decide +kernel
theorem dX9_copy_59 : decode cX9_copy 59 = .ok (.ireturn, 1) := by decide +kernel
theorem dX9_copy_60 : decode cX9_copy 60 = .ok (.aload_n 0, 1) := by decide +kernel
theorem dX9_copy_61 : decode cX9_copy 61 = .ok (.iload_n 1, 1) := by decide +kernel
theorem dX9_copy_62 : decode cX9_copy 62 = .ok (.iload_n 2, 1) := by decide +kernel
theorem dX9_copy_63 : decode cX9_copy 63 = .ok (.iload 5, 2) := by decide +kernel
theorem dX9_copy_65 : decode cX9_copy 65 = .ok (.invokevirtual 82, 3) := by decide +kernel
theorem dX9_copy_68 : decode cX9_copy 68 = .ok (.ifCond .eq 15, 3) := by decide +kernel
theorem dX9_copy_71 : decode cX9_copy 71 = .ok (.aload_n 0, 1) := by decide +kernel
theorem dX9_copy_72 : decode cX9_copy 72 = .ok (.iload_n 3, 1) := by decide +kernel
theorem dX9_copy_73 : decode cX9_copy 73 = .ok (.iload 4, 2) := by decide +kernel
theorem dX9_copy_75 : decode cX9_copy 75 = .ok (.iload 5, 2) := by decide +kernel
theorem dX9_copy_77 : decode cX9_copy 77 = .ok (.invokevirtual 82, 3) := by decide +kernel
theorem dX9_copy_80 : decode cX9_copy 80 = .ok (.ifCond .ne 9, 3) := by decide +kernel
theorem dX9_copy_83 : decode cX9_copy 83 = .ok (.aload_n 0, 1) := by decide +kernel
theorem dX9_copy_84 : decode cX9_copy 84 = .ok (.iconst 2, 1) := by decide +kernel
theorem dX9_copy_85 : decode cX9_copy 85 = .ok (.invokevirtual 68, 3) := by decide +kernel
theorem dX9_copy_88 : decode cX9_copy 88 = .ok (.ireturn, 1) := by decide +kernel
theorem dX9_copy_89 : decode cX9_copy 89 = .ok (.iconst 0, 1) := by decide +kernel
theorem dX9_copy_90 : decode cX9_copy 90 = .ok (.istore 6, 2) := by decide +kernel
theorem dX9_copy_92 : decode cX9_copy 92 = .ok (.iload 6, 2) := by decide +kernel
theorem dX9_copy_94 : decode cX9_copy 94 = .ok (.iload 5, 2) := by decide +kernel
theorem dX9_copy_96 : decode cX9_copy 96 = .ok (.if_icmp .ge 30, 3) := by decide +kernel
theorem dX9_copy_99 : decode cX9_copy 99 = .ok (.aload_n 0, 1) := by decide +kernel
theorem dX9_copy_100 : decode cX9_copy 100 = .ok (.getfield 19, 3) := by decide +kernel
theorem dX9_copy_103 : decode cX9_copy 103 = .ok (.iload 6, 2) := by decide +kernel
theorem dX9_copy_105 : decode cX9_copy 105 = .ok (.aload_n 0, 1) := by decide +kernel
theorem dX9_copy_106 : decode cX9_copy 106 = .ok (.getfield 16, 3) := by decide +kernel
theorem dX9_copy_109 : decode cX9_copy 109 = .ok (.bipush 40, 2) := by decide +kernel
theorem dX9_copy_111 : decode cX9_copy 111 = .ok (.iload_n 1, 1) := by decide +kernel
theorem dX9_copy_112 : decode cX9_copy 112 = .ok (.imul, 1) := by decide +kernel
theorem dX9_copy_113 : decode cX9_copy 113 = .ok (.iload_n 2, 1) := by decide +kernel
theorem dX9_copy_114 : decode cX9_copy 114 = .ok (.iadd, 1) := by decide +kernel
theorem dX9_copy_115 : decode cX9_copy 115 = .ok (.iload 6, 2) := by decide +kernel
theorem dX9_copy_117 : decode cX9_copy 117 = .ok (.iadd, 1) := by decide +kernel
theorem dX9_copy_118 : decode cX9_copy 118 = .ok (.iaload, 1) := by decide +kernel
theorem dX9_copy_119 : decode cX9_copy 119 = .ok (.iastore, 1) := by decide +kernel
theorem dX9_copy_120 : decode cX9_copy 120 = .ok (.iinc 6 1, 3) := by decide +kernel
theorem dX9_copy_123 : decode cX9_copy 123 = .ok (.goto (-31), 3) := by decide +kernel
theorem dX9_copy_126 : decode cX9_copy 126 = .ok (.iconst 0, 1) := by decide +kernel
theorem dX9_copy_127 : decode cX9_copy 127 = .ok (.istore 6, 2) := by decide +kernel
theorem dX9_copy_129 : decode cX9_copy 129 = .ok (.iload 6, 2) := by decide +kernel
theorem dX9_copy_131 : decode cX9_copy 131 = .ok (.iload 5, 2) := by decide +kernel
theorem dX9_copy_133 : decode cX9_copy 133 = .ok (.if_icmp .ge 31, 3) := by decide +kernel
theorem dX9_copy_136 : decode cX9_copy 136 = .ok (.aload_n 0, 1) := by decide +kernel
theorem dX9_copy_137 : decode cX9_copy 137 = .ok (.getfield 16, 3) := by decide +kernel
theorem dX9_copy_140 : decode cX9_copy 140 = .ok (.bipush 40, 2) := by decide +kernel
theorem dX9_copy_142 : decode cX9_copy 142 = .ok (.iload_n 3, 1) := by decide +kernel
theorem dX9_copy_143 : decode cX9_copy 143 = .ok (.imul, 1) := by decide +kernel
theorem dX9_copy_144 : decode cX9_copy 144 = .ok (.iload 4, 2) := by decide +kernel
theorem dX9_copy_146 : decode cX9_copy 146 = .ok (.iadd, 1) := by decide +kernel
theorem dX9_copy_147 : decode cX9_copy 147 = .ok (.iload 6, 2) := by decide +kernel
theorem dX9_copy_149 : decode cX9_copy 149 = .ok (.iadd, 1) := by decide +kernel
theorem dX9_copy_150 : decode cX9_copy 150 = .ok (.aload_n 0, 1) := by decide +kernel
theorem dX9_copy_151 : decode cX9_copy 151 = .ok (.getfield 19, 3) := by decide +kernel
theorem dX9_copy_154 : decode cX9_copy 154 = .ok (.iload 6, 2) := by decide +kernel
theorem dX9_copy_156 : decode cX9_copy 156 = .ok (.iaload, 1) := by decide +kernel
theorem dX9_copy_157 : decode cX9_copy 157 = .ok (.iastore, 1) := by decide +kernel
theorem dX9_copy_158 : decode cX9_copy 158 = .ok (.iinc 6 1, 3) := by decide +kernel
theorem dX9_copy_161 : decode cX9_copy 161 = .ok (.goto (-32), 3) := by decide +kernel
theorem dX9_copy_164 : decode cX9_copy 164 = .ok (.aload_n 0, 1) := by decide +kernel
theorem dX9_copy_165 : decode cX9_copy 165 = .ok (.iload 5, 2) := by decide +kernel
theorem dX9_copy_167 : decode cX9_copy 167 = .ok (.invokevirtual 72, 3) := by decide +kernel
theorem dX9_copy_170 : decode cX9_copy 170 = .ok (.ireturn, 1) := by decide +kernel
theorem dX9_drop_0 : decode cX9_drop 0 = .ok (.iload_n 1, 1) := by decide +kernel
theorem dX9_drop_1 : decode cX9_drop 1 = .ok (.invokestatic 63, 3) := by decide +kernel
theorem dX9_drop_4 : decode cX9_drop 4 = .ok (.ifCond .ne 6, 3) := by decide +kernel
theorem dX9_drop_7 : decode cX9_drop 7 = .ok (.ldc 67, 2) := by decide +kernel
theorem dX9_drop_9 : decode cX9_drop 9 = .ok (.ireturn, 1) := by decide +kernel
theorem dX9_drop_10 : decode cX9_drop 10 = .ok (.aload_n 0, 1) := by decide +kernel
theorem dX9_drop_11 : decode cX9_drop 11 = .ok (.iload_n 1, 1) := by decide +kernel
theorem dX9_drop_12 : decode cX9_drop 12 = .ok (.invokevirtual 75, 3) := by decide +kernel
theorem dX9_drop_15 : decode cX9_drop 15 = .ok (.ifCond .eq 9, 3) := by decide +kernel
theorem dX9_drop_18 : decode cX9_drop 18 = .ok (.aload_n 0, 1) := by decide +kernel
theorem dX9_drop_19 : decode cX9_drop 19 = .ok (.iconst 1, 1) := by decide +kernel
theorem dX9_drop_20 : decode cX9_drop 20 = .ok (.invokevirtual 68, 3) := by decide +kernel
theorem dX9_drop_23 : decode cX9_drop 23 = .ok (.ireturn, 1) := by decide +kernel
theorem dX9_drop_24 : decode cX9_drop 24 = .ok (.aload_n 0, 1) := by decide +kernel
theorem dX9_drop_25 : decode cX9_drop 25 = .ok (.getfield 7, 3) := by decide +kernel
theorem dX9_drop_28 : decode cX9_drop 28 = .ok (.iload_n 1, 1) := by decide +kernel
theorem dX9_drop_29 : decode cX9_drop 29 = .ok (.ldc 53, 2) := by decide +kernel
theorem dX9_drop_31 : decode cX9_drop 31 = .ok (.iastore, 1) := by decide +kernel
theorem dX9_drop_32 : decode cX9_drop 32 = .ok (.aload_n 0, 1) := by decide +kernel
theorem dX9_drop_33 : decode cX9_drop 33 = .ok (.aload_n 0, 1) := by decide +kernel
theorem dX9_drop_34 : decode cX9_drop 34 = .ok (.getfield 13, 3) := by decide +kernel
theorem dX9_drop_37 : decode cX9_drop 37 = .ok (.iload_n 1, 1) := by decide +kernel
theorem dX9_drop_38 : decode cX9_drop 38 = .ok (.iaload, 1) := by decide +kernel
theorem dX9_drop_39 : decode cX9_drop 39 = .ok (.invokevirtual 72, 3) := by decide +kernel
theorem dX9_drop_42 : decode cX9_drop 42 = .ok (.ireturn, 1) := by decide +kernel
theorem dX9_feed_0 : decode cX9_feed 0 = .ok (.iload_n 1, 1) := by decide +kernel
theorem dX9_feed_1 : decode cX9_feed 1 = .ok (.iconst 0, 1) := by decide +kernel
theorem dX9_feed_2 : decode cX9_feed 2 = .ok (.sipush 255, 3) := by decide +kernel
theorem dX9_feed_5 : decode cX9_feed 5 = .ok (.invokestatic 59, 3) := by decide +kernel
theorem dX9_feed_8 : decode cX9_feed 8 = .ok (.ifCond .ne 6, 3) := by decide +kernel
theorem dX9_feed_11 : decode cX9_feed 11 = .ok (.ldc 67, 2) := by decide +kernel
theorem dX9_feed_13 : decode cX9_feed 13 = .ok (.ireturn, 1) := by decide +kernel
theorem dX9_feed_14 : decode cX9_feed 14 = .ok (.aload_n 0, 1) := by decide +kernel
theorem dX9_feed_15 : decode cX9_feed 15 = .ok (.getfield 85, 3) := by decide +kernel
theorem dX9_feed_18 : decode cX9_feed 18 = .ok (.bipush 120, 2) := by decide +kernel
theorem dX9_feed_20 : decode cX9_feed 20 = .ok (.if_icmp .ne 6, 3) := by decide +kernel
theorem dX9_feed_23 : decode cX9_feed 23 = .ok (.ldc 88, 2) := by decide +kernel
theorem dX9_feed_25 : decode cX9_feed 25 = .ok (.ireturn, 1) := by decide +kernel
theorem dX9_feed_26 : decode cX9_feed 26 = .ok (.aload_n 0, 1) := by decide +kernel
theorem dX9_feed_27 : decode cX9_feed 27 = .ok (.getfield 22, 3) := by decide +kernel
theorem dX9_feed_30 : decode cX9_feed 30 = .ok (.aload_n 0, 1) := by decide +kernel
theorem dX9_feed_31 : decode cX9_feed 31 = .ok (.getfield 85, 3) := by decide +kernel
theorem dX9_feed_34 : decode cX9_feed 34 = .ok (.iload_n 1, 1) := by decide +kernel
theorem dX9_feed_35 : decode cX9_feed 35 = .ok (.iastore, 1) := by decide +kernel
theorem dX9_feed_36 : decode cX9_feed 36 = .ok (.aload_n 0, 1) := by decide +kernel
theorem dX9_feed_37 : decode cX9_feed 37 = .ok (.dup, 1) := by decide +kernel
theorem dX9_feed_38 : decode cX9_feed 38 = .ok (.getfield 85, 3) := by decide +kernel
theorem dX9_feed_41 : decode cX9_feed 41 = .ok (.iconst 1, 1) := by decide +kernel
theorem dX9_feed_42 : decode cX9_feed 42 = .ok (.iadd, 1) := by decide +kernel
theorem dX9_feed_43 : decode cX9_feed 43 = .ok (.putfield 85, 3) := by decide +kernel
theorem dX9_feed_46 : decode cX9_feed 46 = .ok (.aload_n 0, 1) := by decide +kernel
theorem dX9_feed_47 : decode cX9_feed 47 = .ok (.getfield 85, 3) := by decide +kernel
theorem dX9_feed_50 : decode cX9_feed 50 = .ok (.ireturn, 1) := by decide +kernel
theorem dX9_byteAt_0 : decode cX9_byteAt 0 = .ok (.iload_n 1, 1) := by decide +kernel
theorem dX9_byteAt_1 : decode cX9_byteAt 1 = .ok (.aload_n 0, 1) := by decide +kernel
theorem dX9_byteAt_2 : decode cX9_byteAt 2 = .ok (.getfield 85, 3) := by decide +kernel
theorem dX9_byteAt_5 : decode cX9_byteAt 5 = .ok (.if_icmp .ge 12, 3) := by decide +kernel
theorem dX9_byteAt_8 : decode cX9_byteAt 8 = .ok (.aload_n 0, 1) := by decide +kernel
theorem dX9_byteAt_9 : decode cX9_byteAt 9 = .ok (.getfield 22, 3) := by decide +kernel
theorem dX9_byteAt_12 : decode cX9_byteAt 12 = .ok (.iload_n 1, 1) := by decide +kernel
theorem dX9_byteAt_13 : decode cX9_byteAt 13 = .ok (.iaload, 1) := by decide +kernel
theorem dX9_byteAt_14 : decode cX9_byteAt 14 = .ok (.goto 4, 3) := by decide +kernel
theorem dX9_byteAt_17 : decode cX9_byteAt 17 = .ok (.iconst (-1), 1) := by decide +kernel
theorem dX9_byteAt_18 : decode cX9_byteAt 18 = .ok (.ireturn, 1) := by decide +kernel
theorem dX9_advances_0 : decode cX9_advances 0 = .ok (.aload_n 0, 1) := by decide +kernel
theorem dX9_advances_1 : decode cX9_advances 1 = .ok (.aload_n 0, 1) := by decide +kernel
theorem dX9_advances_2 : decode cX9_advances 2 = .ok (.getfield 89, 3) := by decide +kernel
theorem dX9_advances_5 : decode cX9_advances 5 = .ok (.putfield 92, 3) := by decide +kernel
theorem dX9_advances_8 : decode cX9_advances 8 = .ok (.aload_n 0, 1) := by decide +kernel
theorem dX9_advances_9 : decode cX9_advances 9 = .ok (.aload_n 0, 1) := by decide +kernel
theorem dX9_advances_10 : decode cX9_advances 10 = .ok (.getfield 89, 3) := by decide +kernel
theorem dX9_advances_13 : decode cX9_advances 13 = .ok (.invokevirtual 95, 3) := by decide +kernel
theorem dX9_advances_16 : decode cX9_advances 16 = .ok (.istore_n 1, 1) := by decide +kernel
theorem dX9_advances_17 : decode cX9_advances 17 = .ok (.aload_n 0, 1) := by decide +kernel
theorem dX9_advances_18 : decode cX9_advances 18 = .ok (.iload_n 1, 1) := by decide +kernel
theorem dX9_advances_19 : decode cX9_advances 19 = .ok (.putfield 98, 3) := by decide +kernel
theorem dX9_advances_22 : decode cX9_advances 22 = .ok (.iload_n 1, 1) := by decide +kernel
theorem dX9_advances_23 : decode cX9_advances 23 = .ok (.bipush 48, 2) := by decide +kernel
theorem dX9_advances_25 : decode cX9_advances 25 = .ok (.bipush 57, 2) := by decide +kernel
theorem dX9_advances_27 : decode cX9_advances 27 = .ok (.invokestatic 59, 3) := by decide +kernel
theorem dX9_advances_30 : decode cX9_advances 30 = .ok (.ifCond .eq 105, 3) := by decide +kernel
theorem dX9_advances_33 : decode cX9_advances 33 = .ok (.aload_n 0, 1) := by decide +kernel
theorem dX9_advances_34 : decode cX9_advances 34 = .ok (.iconst 0, 1) := by decide +kernel
theorem dX9_advances_35 : decode cX9_advances 35 = .ok (.putfield 98, 3) := by decide +kernel
theorem dX9_advances_38 : decode cX9_advances 38 = .ok (.aload_n 0, 1) := by decide +kernel
theorem dX9_advances_39 : decode cX9_advances 39 = .ok (.aload_n 0, 1) := by decide +kernel
theorem dX9_advances_40 : decode cX9_advances 40 = .ok (.getfield 89, 3) := by decide +kernel
theorem dX9_advances_43 : decode cX9_advances 43 = .ok (.invokevirtual 95, 3) := by decide +kernel
theorem dX9_advances_46 : decode cX9_advances 46 = .ok (.bipush 48, 2) := by decide +kernel
theorem dX9_advances_48 : decode cX9_advances 48 = .ok (.bipush 57, 2) := by decide +kernel
theorem dX9_advances_50 : decode cX9_advances 50 = .ok (.invokestatic 59, 3) := by decide +kernel
theorem dX9_advances_53 : decode cX9_advances 53 = .ok (.ifCond .eq 59, 3) := by decide +kernel
theorem dX9_advances_56 : decode cX9_advances 56 = .ok (.aload_n 0, 1) := by decide +kernel
theorem dX9_advances_57 : decode cX9_advances 57 = .ok (.aload_n 0, 1) := by decide +kernel
theorem dX9_advances_58 : decode cX9_advances 58 = .ok (.getfield 89, 3) := by decide +kernel
theorem dX9_advances_61 : decode cX9_advances 61 = .ok (.aload_n 0, 1) := by decide +kernel
theorem dX9_advances_62 : decode cX9_advances 62 = .ok (.getfield 92, 3) := by decide +kernel
theorem dX9_advances_65 : decode cX9_advances 65 = .ok (.isub, 1) := by decide +kernel
theorem dX9_advances_66 : decode cX9_advances 66 = .ok (.iconst 2, 1) := by decide +kernel
theorem dX9_advances_67 : decode cX9_advances 67 = .ok (.if_icmp .ge 25, 3) := by decide +kernel
theorem dX9_advances_70 : decode cX9_advances 70 = .ok (.bipush 10, 2) := by decide +kernel
theorem dX9_advances_72 : decode cX9_advances 72 = .ok (.aload_n 0, 1) := by decide +kernel
theorem dX9_advances_73 : decode cX9_advances 73 = .ok (.getfield 98, 3) := by decide +kernel
theorem dX9_advances_76 : decode cX9_advances 76 = .ok (.imul, 1) := by decide +kernel
theorem dX9_advances_77 : decode cX9_advances 77 = .ok (.aload_n 0, 1) := by decide +kernel
theorem dX9_advances_78 : decode cX9_advances 78 = .ok (.aload_n 0, 1) := by decide +kernel
theorem dX9_advances_79 : decode cX9_advances 79 = .ok (.getfield 89, 3) := by decide +kernel
theorem dX9_advances_82 : decode cX9_advances 82 = .ok (.invokevirtual 95, 3) := by decide +kernel
theorem dX9_advances_85 : decode cX9_advances 85 = .ok (.iadd, 1) := by decide +kernel
theorem dX9_advances_86 : decode cX9_advances 86 = .ok (.bipush 48, 2) := by decide +kernel
theorem dX9_advances_88 : decode cX9_advances 88 = .ok (.isub, 1) := by decide +kernel
theorem dX9_advances_89 : decode cX9_advances 89 = .ok (.goto 7, 3) := by decide +kernel
theorem dX9_advances_92 : decode cX9_advances 92 = .ok (.aload_n 0, 1) := by decide +kernel
theorem dX9_advances_93 : decode cX9_advances 93 = .ok (.getfield 98, 3) := by decide +kernel
theorem dX9_advances_96 : decode cX9_advances 96 = .ok (.putfield 98, 3) := by decide +kernel
theorem dX9_advances_99 : decode cX9_advances 99 = .ok (.aload_n 0, 1) := by decide +kernel
theorem dX9_advances_100 : decode cX9_advances 100 = .ok (.dup, 1) := by decide +kernel
theorem dX9_advances_101 : decode cX9_advances 101 = .ok (.getfield 89, 3) := by decide +kernel
theorem dX9_advances_104 : decode cX9_advances 104 = .ok (.iconst 1, 1) := by decide +kernel
theorem dX9_advances_105 : decode cX9_advances 105 = .ok (.iadd, 1) := by decide +kernel
theorem dX9_advances_106 : decode cX9_advances 106 = .ok (.putfield 89, 3) := by decide +kernel
theorem dX9_advances_109 : decode cX9_advances 109 = .ok (.goto (-71), 3) := by decide +kernel
theorem dX9_advances_112 : decode cX9_advances 112 = .ok (.aload_n 0, 1) := by decide +kernel
theorem dX9_advances_113 : decode cX9_advances 113 = .ok (.aload_n 0, 1) := by decide +kernel
theorem dX9_advances_114 : decode cX9_advances 114 = .ok (.getfield 89, 3) := by decide +kernel
theorem dX9_advances_117 : decode cX9_advances 117 = .ok (.aload_n 0, 1) := by decide +kernel
theorem dX9_advances_118 : decode cX9_advances 118 = .ok (.getfield 92, 3) := by decide +kernel
theorem dX9_advances_121 : decode cX9_advances 121 = .ok (.isub, 1) := by decide +kernel
theorem dX9_advances_122 : decode cX9_advances 122 = .ok (.iconst 3, 1) := by decide +kernel
theorem dX9_advances_123 : decode cX9_advances 123 = .ok (.if_icmp .ge 7, 3) := by decide +kernel
theorem dX9_advances_126 : decode cX9_advances 126 = .ok (.iconst 2, 1) := by decide +kernel
theorem dX9_advances_127 : decode cX9_advances 127 = .ok (.goto 4, 3) := by decide +kernel
theorem dX9_advances_130 : decode cX9_advances 130 = .ok (.iconst 5, 1) := by decide +kernel
theorem dX9_advances_131 : decode cX9_advances 131 = .ok (.putfield 101, 3) := by decide +kernel
theorem dX9_advances_134 : decode cX9_advances 134 = .ok (.return_, 1) := by decide +kernel
theorem dX9_advances_135 : decode cX9_advances 135 = .ok (.aload_n 0, 1) := by decide +kernel
theorem dX9_advances_136 : decode cX9_advances 136 = .ok (.iload_n 1, 1) := by decide +kernel
theorem dX9_advances_137 : decode cX9_advances 137 = .ok (.ifCond .ge 7, 3) := by decide +kernel
theorem dX9_advances_140 : decode cX9_advances 140 = .ok (.iconst 0, 1) := by decide +kernel
theorem dX9_advances_141 : decode cX9_advances 141 = .ok (.goto 39, 3) := by decide +kernel
theorem dX9_advances_144 : decode cX9_advances 144 = .ok (.iload_n 1, 1) := by decide +kernel
theorem dX9_advances_145 : decode cX9_advances 145 = .ok (.bipush 97, 2) := by decide +kernel
theorem dX9_advances_147 : decode cX9_advances 147 = .ok (.bipush 122, 2) := by decide +kernel
theorem dX9_advances_149 : decode cX9_advances 149 = .ok (.invokestatic 59, 3) := by decide +kernel
theorem dX9_advances_152 : decode cX9_advances 152 = .ok (.ifCond .eq 7, 3) := by decide +kernel
theorem dX9_advances_155 : decode cX9_advances 155 = .ok (.iconst 1, 1) := by decide +kernel
theorem dX9_advances_156 : decode cX9_advances 156 = .ok (.goto 24, 3) := by decide +kernel
theorem dX9_advances_159 : decode cX9_advances 159 = .ok (.iload_n 1, 1) := by decide +kernel
theorem dX9_advances_160 : decode cX9_advances 160 = .ok (.bipush 44, 2) := by decide +kernel
theorem dX9_advances_162 : decode cX9_advances 162 = .ok (.if_icmp .ne 7, 3) := by decide +kernel
theorem dX9_advances_165 : decode cX9_advances 165 = .ok (.iconst 3, 1) := by decide +kernel
theorem dX9_advances_166 : decode cX9_advances 166 = .ok (.goto 14, 3) := by decide +kernel
theorem dX9_advances_169 : decode cX9_advances 169 = .ok (.iload_n 1, 1) := by decide +kernel
theorem dX9_advances_170 : decode cX9_advances 170 = .ok (.bipush 59, 2) := by decide +kernel
theorem dX9_advances_172 : decode cX9_advances 172 = .ok (.if_icmp .ne 7, 3) := by decide +kernel
theorem dX9_advances_175 : decode cX9_advances 175 = .ok (.iconst 4, 1) := by decide +kernel
theorem dX9_advances_176 : decode cX9_advances 176 = .ok (.goto 4, 3) := by decide +kernel
theorem dX9_advances_179 : decode cX9_advances 179 = .ok (.iconst 5, 1) := by decide +kernel
theorem dX9_advances_180 : decode cX9_advances 180 = .ok (.putfield 101, 3) := by decide +kernel
theorem dX9_advances_183 : decode cX9_advances 183 = .ok (.aload_n 0, 1) := by decide +kernel
theorem dX9_advances_184 : decode cX9_advances 184 = .ok (.dup, 1) := by decide +kernel
theorem dX9_advances_185 : decode cX9_advances 185 = .ok (.getfield 89, 3) := by decide +kernel
theorem dX9_advances_188 : decode cX9_advances 188 = .ok (.aload_n 0, 1) := by decide +kernel
theorem dX9_advances_189 : decode cX9_advances 189 = .ok (.getfield 101, 3) := by decide +kernel
theorem dX9_advances_192 : decode cX9_advances 192 = .ok (.ifCond .ne 7, 3) := by decide +kernel
theorem dX9_advances_195 : decode cX9_advances 195 = .ok (.iconst 0, 1) := by decide +kernel
theorem dX9_advances_196 : decode cX9_advances 196 = .ok (.goto 4, 3) := by decide +kernel
theorem dX9_advances_199 : decode cX9_advances 199 = .ok (.iconst 1, 1) := by decide +kernel
theorem dX9_advances_200 : decode cX9_advances 200 = .ok (.iadd, 1) := by decide +kernel
theorem dX9_advances_201 : decode cX9_advances 201 = .ok (.putfield 89, 3) := by decide +kernel
theorem dX9_advances_204 : decode cX9_advances 204 = .ok (.return_, 1) := by decide +kernel
theorem dX9_isWell_0 : decode cX9_isWell 0 = .ok (.aload_n 0, 1) := by decide +kernel
theorem dX9_isWell_1 : decode cX9_isWell 1 = .ok (.getfield 104, 3) := by decide +kernel
theorem dX9_isWell_4 : decode cX9_isWell 4 = .ok (.ifCond .ge 7, 3) := by decide +kernel
theorem dX9_isWell_7 : decode cX9_isWell 7 = .ok (.iconst 1, 1) := by decide +kernel
theorem dX9_isWell_8 : decode cX9_isWell 8 = .ok (.goto 4, 3) := by decide +kernel
theorem dX9_isWell_11 : decode cX9_isWell 11 = .ok (.iconst 0, 1) := by decide +kernel
theorem dX9_isWell_12 : decode cX9_isWell 12 = .ok (.ireturn, 1) := by decide +kernel
theorem dX9_takes_0 : decode cX9_takes 0 = .ok (.aload_n 0, 1) := by decide +kernel
theorem dX9_takes_1 : decode cX9_takes 1 = .ok (.invokevirtual 107, 3) := by decide +kernel
theorem dX9_takes_4 : decode cX9_takes 4 = .ok (.ifCond .ne 5, 3) := by decide +kernel
theorem dX9_takes_7 : decode cX9_takes 7 = .ok (.iconst 0, 1) := by decide +kernel
theorem dX9_takes_8 : decode cX9_takes 8 = .ok (.ireturn, 1) := by decide +kernel
theorem dX9_takes_9 : decode cX9_takes 9 = .ok (.iload_n 1, 1) := by decide +kernel
theorem dX9_takes_10 : decode cX9_takes 10 = .ok (.ifCond .ne 18, 3) := by decide +kernel
theorem dX9_takes_13 : decode cX9_takes 13 = .ok (.aload_n 0, 1) := by decide +kernel
theorem dX9_takes_14 : decode cX9_takes 14 = .ok (.aload_n 0, 1) := by decide +kernel
theorem dX9_takes_15 : decode cX9_takes 15 = .ok (.getfield 92, 3) := by decide +kernel
theorem dX9_takes_18 : decode cX9_takes 18 = .ok (.putfield 104, 3) := by decide +kernel
theorem dX9_takes_21 : decode cX9_takes 21 = .ok (.aload_n 0, 1) := by decide +kernel
theorem dX9_takes_22 : decode cX9_takes 22 = .ok (.iload_n 2, 1) := by decide +kernel
theorem dX9_takes_23 : decode cX9_takes 23 = .ok (.putfield 111, 3) := by decide +kernel
theorem dX9_takes_26 : decode cX9_takes 26 = .ok (.iconst 0, 1) := by decide +kernel
theorem dX9_takes_27 : decode cX9_takes 27 = .ok (.ireturn, 1) := by decide +kernel
theorem dX9_takes_28 : decode cX9_takes 28 = .ok (.aload_n 0, 1) := by decide +kernel
theorem dX9_takes_29 : decode cX9_takes 29 = .ok (.getfield 98, 3) := by decide +kernel
theorem dX9_takes_32 : decode cX9_takes 32 = .ok (.istore_n 3, 1) := by decide +kernel
theorem dX9_takes_33 : decode cX9_takes 33 = .ok (.aload_n 0, 1) := by decide +kernel
theorem dX9_takes_34 : decode cX9_takes 34 = .ok (.invokevirtual 114, 3) := by decide +kernel
theorem dX9_takes_37 : decode cX9_takes 37 = .ok (.iload_n 3, 1) := by decide +kernel
theorem dX9_takes_38 : decode cX9_takes 38 = .ok (.ireturn, 1) := by decide +kernel
theorem dX9_figure_0 : decode cX9_figure 0 = .ok (.aload_n 0, 1) := by decide +kernel
theorem dX9_figure_1 : decode cX9_figure 1 = .ok (.invokevirtual 107, 3) := by decide +kernel
theorem dX9_figure_4 : decode cX9_figure 4 = .ok (.ifCond .eq 18, 3) := by decide +kernel
theorem dX9_figure_7 : decode cX9_figure 7 = .ok (.aload_n 0, 1) := by decide +kernel
theorem dX9_figure_8 : decode cX9_figure 8 = .ok (.getfield 101, 3) := by decide +kernel
theorem dX9_figure_11 : decode cX9_figure 11 = .ok (.iconst 2, 1) := by decide +kernel
theorem dX9_figure_12 : decode cX9_figure 12 = .ok (.if_icmp .eq 10, 3) := by decide +kernel
theorem dX9_figure_15 : decode cX9_figure 15 = .ok (.aload_n 0, 1) := by decide +kernel
theorem dX9_figure_16 : decode cX9_figure 16 = .ok (.iconst 0, 1) := by decide +kernel
theorem dX9_figure_17 : decode cX9_figure 17 = .ok (.iconst 1, 1) := by decide +kernel
theorem dX9_figure_18 : decode cX9_figure 18 = .ok (.invokevirtual 117, 3) := by decide +kernel
theorem dX9_figure_21 : decode cX9_figure 21 = .ok (.ireturn, 1) := by decide +kernel
theorem dX9_figure_22 : decode cX9_figure 22 = .ok (.aload_n 0, 1) := by decide +kernel
theorem dX9_figure_23 : decode cX9_figure 23 = .ok (.aload_n 0, 1) := by decide +kernel
theorem dX9_figure_24 : decode cX9_figure 24 = .ok (.getfield 98, 3) := by decide +kernel
theorem dX9_figure_27 : decode cX9_figure 27 = .ok (.iload_n 1, 1) := by decide +kernel
theorem dX9_figure_28 : decode cX9_figure 28 = .ok (.iload_n 2, 1) := by decide +kernel
theorem dX9_figure_29 : decode cX9_figure 29 = .ok (.invokestatic 59, 3) := by decide +kernel
theorem dX9_figure_32 : decode cX9_figure 32 = .ok (.iconst 2, 1) := by decide +kernel
theorem dX9_figure_33 : decode cX9_figure 33 = .ok (.invokevirtual 117, 3) := by decide +kernel
theorem dX9_figure_36 : decode cX9_figure 36 = .ok (.ireturn, 1) := by decide +kernel
theorem dX9_kindOf_0 : decode cX9_kindOf 0 = .ok (.iload_n 0, 1) := by decide +kernel
theorem dX9_kindOf_1 : decode cX9_kindOf 1 = .ok (.bipush 104, 2) := by decide +kernel
theorem dX9_kindOf_3 : decode cX9_kindOf 3 = .ok (.if_icmp .ne 7, 3) := by decide +kernel
theorem dX9_kindOf_6 : decode cX9_kindOf 6 = .ok (.iconst 1, 1) := by decide +kernel
theorem dX9_kindOf_7 : decode cX9_kindOf 7 = .ok (.goto 44, 3) := by decide +kernel
theorem dX9_kindOf_10 : decode cX9_kindOf 10 = .ok (.iload_n 0, 1) := by decide +kernel
theorem dX9_kindOf_11 : decode cX9_kindOf 11 = .ok (.bipush 100, 2) := by decide +kernel
theorem dX9_kindOf_13 : decode cX9_kindOf 13 = .ok (.if_icmp .ne 7, 3) := by decide +kernel
theorem dX9_kindOf_16 : decode cX9_kindOf 16 = .ok (.iconst 2, 1) := by decide +kernel
theorem dX9_kindOf_17 : decode cX9_kindOf 17 = .ok (.goto 34, 3) := by decide +kernel
theorem dX9_kindOf_20 : decode cX9_kindOf 20 = .ok (.iload_n 0, 1) := by decide +kernel
theorem dX9_kindOf_21 : decode cX9_kindOf 21 = .ok (.bipush 111, 2) := by decide +kernel
theorem dX9_kindOf_23 : decode cX9_kindOf 23 = .ok (.if_icmp .ne 7, 3) := by decide +kernel
theorem dX9_kindOf_26 : decode cX9_kindOf 26 = .ok (.iconst 3, 1) := by decide +kernel
theorem dX9_kindOf_27 : decode cX9_kindOf 27 = .ok (.goto 24, 3) := by decide +kernel
theorem dX9_kindOf_30 : decode cX9_kindOf 30 = .ok (.iload_n 0, 1) := by decide +kernel
theorem dX9_kindOf_31 : decode cX9_kindOf 31 = .ok (.bipush 110, 2) := by decide +kernel
theorem dX9_kindOf_33 : decode cX9_kindOf 33 = .ok (.if_icmp .ne 7, 3) := by decide +kernel
theorem dX9_kindOf_36 : decode cX9_kindOf 36 = .ok (.iconst 4, 1) := by decide +kernel
theorem dX9_kindOf_37 : decode cX9_kindOf 37 = .ok (.goto 14, 3) := by decide +kernel
theorem dX9_kindOf_40 : decode cX9_kindOf 40 = .ok (.iload_n 0, 1) := by decide +kernel
theorem dX9_kindOf_41 : decode cX9_kindOf 41 = .ok (.bipush 112, 2) := by decide +kernel
theorem dX9_kindOf_43 : decode cX9_kindOf 43 = .ok (.if_icmp .ne 7, 3) := by decide +kernel
theorem dX9_kindOf_46 : decode cX9_kindOf 46 = .ok (.iconst 5, 1) := by decide +kernel
theorem dX9_kindOf_47 : decode cX9_kindOf 47 = .ok (.goto 4, 3) := by decide +kernel
theorem dX9_kindOf_50 : decode cX9_kindOf 50 = .ok (.iconst 0, 1) := by decide +kernel
theorem dX9_kindOf_51 : decode cX9_kindOf 51 = .ok (.ireturn, 1) := by decide +kernel
theorem dX9_next_0 : decode cX9_next 0 = .ok (.aload_n 0, 1) := by decide +kernel
theorem dX9_next_1 : decode cX9_next 1 = .ok (.aload_n 0, 1) := by decide +kernel
theorem dX9_next_2 : decode cX9_next 2 = .ok (.getfield 101, 3) := by decide +kernel
theorem dX9_next_5 : decode cX9_next 5 = .ok (.iconst 3, 1) := by decide +kernel
theorem dX9_next_6 : decode cX9_next 6 = .ok (.if_icmp .ne 7, 3) := by decide +kernel
theorem dX9_next_9 : decode cX9_next 9 = .ok (.iconst 1, 1) := by decide +kernel
theorem dX9_next_10 : decode cX9_next 10 = .ok (.goto 4, 3) := by decide +kernel
theorem dX9_next_13 : decode cX9_next 13 = .ok (.iconst 0, 1) := by decide +kernel
theorem dX9_next_14 : decode cX9_next 14 = .ok (.iconst 1, 1) := by decide +kernel
theorem dX9_next_15 : decode cX9_next 15 = .ok (.invokevirtual 117, 3) := by decide +kernel
theorem dX9_next_18 : decode cX9_next 18 = .ok (.pop, 1) := by decide +kernel
theorem dX9_next_19 : decode cX9_next 19 = .ok (.aload_n 0, 1) := by decide +kernel
theorem dX9_next_20 : decode cX9_next 20 = .ok (.iload_n 1, 1) := by decide +kernel
theorem dX9_next_21 : decode cX9_next 21 = .ok (.iload_n 2, 1) := by decide +kernel
theorem dX9_next_22 : decode cX9_next 22 = .ok (.invokevirtual 121, 3) := by decide +kernel
theorem dX9_next_25 : decode cX9_next 25 = .ok (.ireturn, 1) := by decide +kernel
theorem dX9_readsValley_0 : decode cX9_readsValley 0 = .ok (.aload_n 0, 1) := by decide +kernel
theorem dX9_readsValley_1 : decode cX9_readsValley 1 = .ok (.aload_n 0, 1) := by decide +kernel
theorem dX9_readsValley_2 : decode cX9_readsValley 2 = .ok (.getfield 28, 3) := by decide +kernel
theorem dX9_readsValley_5 : decode cX9_readsValley 5 = .ok (.iconst 2, 1) := by decide +kernel
theorem dX9_readsValley_6 : decode cX9_readsValley 6 = .ok (.iaload, 1) := by decide +kernel
theorem dX9_readsValley_7 : decode cX9_readsValley 7 = .ok (.iconst 5, 1) := by decide +kernel
theorem dX9_readsValley_8 : decode cX9_readsValley 8 = .ok (.if_icmp .ge 7, 3) := by decide +kernel
theorem dX9_readsValley_11 : decode cX9_readsValley 11 = .ok (.iconst 1, 1) := by decide +kernel
theorem dX9_readsValley_12 : decode cX9_readsValley 12 = .ok (.goto 4, 3) := by decide +kernel
theorem dX9_readsValley_15 : decode cX9_readsValley 15 = .ok (.iconst 0, 1) := by decide +kernel
theorem dX9_readsValley_16 : decode cX9_readsValley 16 = .ok (.iconst 3, 1) := by decide +kernel
theorem dX9_readsValley_17 : decode cX9_readsValley 17 = .ok (.invokevirtual 117, 3) := by decide +kernel
theorem dX9_readsValley_20 : decode cX9_readsValley 20 = .ok (.pop, 1) := by decide +kernel
theorem dX9_readsValley_21 : decode cX9_readsValley 21 = .ok (.aload_n 0, 1) := by decide +kernel
theorem dX9_readsValley_22 : decode cX9_readsValley 22 = .ok (.getfield 28, 3) := by decide +kernel
theorem dX9_readsValley_25 : decode cX9_readsValley 25 = .ok (.iconst 2, 1) := by decide +kernel
theorem dX9_readsValley_26 : decode cX9_readsValley 26 = .ok (.iaload, 1) := by decide +kernel
theorem dX9_readsValley_27 : decode cX9_readsValley 27 = .ok (.iconst 5, 1) := by decide +kernel
theorem dX9_readsValley_28 : decode cX9_readsValley 28 = .ok (.if_icmp .ge 12, 3) := by decide +kernel
theorem dX9_readsValley_31 : decode cX9_readsValley 31 = .ok (.aload_n 0, 1) := by decide +kernel
theorem dX9_readsValley_32 : decode cX9_readsValley 32 = .ok (.getfield 28, 3) := by decide +kernel
theorem dX9_readsValley_35 : decode cX9_readsValley 35 = .ok (.iconst 2, 1) := by decide +kernel
theorem dX9_readsValley_36 : decode cX9_readsValley 36 = .ok (.iaload, 1) := by decide +kernel
theorem dX9_readsValley_37 : decode cX9_readsValley 37 = .ok (.goto 4, 3) := by decide +kernel
theorem dX9_readsValley_40 : decode cX9_readsValley 40 = .ok (.iconst 0, 1) := by decide +kernel
theorem dX9_readsValley_41 : decode cX9_readsValley 41 = .ok (.istore_n 1, 1) := by decide +kernel
theorem dX9_readsValley_42 : decode cX9_readsValley 42 = .ok (.aload_n 0, 1) := by decide +kernel
theorem dX9_readsValley_43 : decode cX9_readsValley 43 = .ok (.iconst 0, 1) := by decide +kernel
theorem dX9_readsValley_44 : decode cX9_readsValley 44 = .ok (.bipush 20, 2) := by decide +kernel
theorem dX9_readsValley_46 : decode cX9_readsValley 46 = .ok (.invokevirtual 121, 3) := by decide +kernel
theorem dX9_readsValley_49 : decode cX9_readsValley 49 = .ok (.istore_n 2, 1) := by decide +kernel
theorem dX9_readsValley_50 : decode cX9_readsValley 50 = .ok (.aload_n 0, 1) := by decide +kernel
theorem dX9_readsValley_51 : decode cX9_readsValley 51 = .ok (.iconst 0, 1) := by decide +kernel
theorem dX9_readsValley_52 : decode cX9_readsValley 52 = .ok (.bipush 9, 2) := by decide +kernel
theorem dX9_readsValley_54 : decode cX9_readsValley 54 = .ok (.invokevirtual 124, 3) := by decide +kernel
theorem dX9_readsValley_57 : decode cX9_readsValley 57 = .ok (.istore_n 3, 1) := by decide +kernel
theorem dX9_readsValley_58 : decode cX9_readsValley 58 = .ok (.aload_n 0, 1) := by decide +kernel
theorem dX9_readsValley_59 : decode cX9_readsValley 59 = .ok (.aload_n 0, 1) := by decide +kernel
theorem dX9_readsValley_60 : decode cX9_readsValley 60 = .ok (.getfield 101, 3) := by decide +kernel
theorem dX9_readsValley_63 : decode cX9_readsValley 63 = .ok (.iconst 4, 1) := by decide +kernel
theorem dX9_readsValley_64 : decode cX9_readsValley 64 = .ok (.if_icmp .ne 7, 3) := by decide +kernel
theorem dX9_readsValley_67 : decode cX9_readsValley 67 = .ok (.iconst 1, 1) := by decide +kernel
theorem dX9_readsValley_68 : decode cX9_readsValley 68 = .ok (.goto 4, 3) := by decide +kernel
theorem dX9_readsValley_71 : decode cX9_readsValley 71 = .ok (.iconst 0, 1) := by decide +kernel
theorem dX9_readsValley_72 : decode cX9_readsValley 72 = .ok (.iconst 1, 1) := by decide +kernel
theorem dX9_readsValley_73 : decode cX9_readsValley 73 = .ok (.invokevirtual 117, 3) := by decide +kernel
theorem dX9_readsValley_76 : decode cX9_readsValley 76 = .ok (.pop, 1) := by decide +kernel
theorem dX9_readsValley_77 : decode cX9_readsValley 77 = .ok (.aload_n 0, 1) := by decide +kernel
theorem dX9_readsValley_78 : decode cX9_readsValley 78 = .ok (.invokevirtual 107, 3) := by decide +kernel
theorem dX9_readsValley_81 : decode cX9_readsValley 81 = .ok (.ifCond .eq 43, 3) := by decide +kernel
theorem dX9_readsValley_84 : decode cX9_readsValley 84 = .ok (.aload_n 0, 1) := by decide +kernel
theorem dX9_readsValley_85 : decode cX9_readsValley 85 = .ok (.getfield 28, 3) := by decide +kernel
theorem dX9_readsValley_88 : decode cX9_readsValley 88 = .ok (.bipush 6, 2) := by decide +kernel
theorem dX9_readsValley_90 : decode cX9_readsValley 90 = .ok (.iload_n 1, 1) := by decide +kernel
theorem dX9_readsValley_91 : decode cX9_readsValley 91 = .ok (.iadd, 1) := by decide +kernel
theorem dX9_readsValley_92 : decode cX9_readsValley 92 = .ok (.iload_n 1, 1) := by decide +kernel
theorem dX9_readsValley_93 : decode cX9_readsValley 93 = .ok (.iastore, 1) := by decide +kernel
theorem dX9_readsValley_94 : decode cX9_readsValley 94 = .ok (.aload_n 0, 1) := by decide +kernel
theorem dX9_readsValley_95 : decode cX9_readsValley 95 = .ok (.getfield 28, 3) := by decide +kernel
theorem dX9_readsValley_98 : decode cX9_readsValley 98 = .ok (.bipush 11, 2) := by decide +kernel
theorem dX9_readsValley_100 : decode cX9_readsValley 100 = .ok (.iload_n 1, 1) := by decide +kernel
theorem dX9_readsValley_101 : decode cX9_readsValley 101 = .ok (.iadd, 1) := by decide +kernel
theorem dX9_readsValley_102 : decode cX9_readsValley 102 = .ok (.iload_n 2, 1) := by decide +kernel
theorem dX9_readsValley_103 : decode cX9_readsValley 103 = .ok (.iastore, 1) := by decide +kernel
theorem dX9_readsValley_104 : decode cX9_readsValley 104 = .ok (.aload_n 0, 1) := by decide +kernel
theorem dX9_readsValley_105 : decode cX9_readsValley 105 = .ok (.getfield 28, 3) := by decide +kernel
theorem dX9_readsValley_108 : decode cX9_readsValley 108 = .ok (.bipush 16, 2) := by decide +kernel
theorem dX9_readsValley_110 : decode cX9_readsValley 110 = .ok (.iload_n 1, 1) := by decide +kernel
theorem dX9_readsValley_111 : decode cX9_readsValley 111 = .ok (.iadd, 1) := by decide +kernel
theorem dX9_readsValley_112 : decode cX9_readsValley 112 = .ok (.iload_n 3, 1) := by decide +kernel
theorem dX9_readsValley_113 : decode cX9_readsValley 113 = .ok (.iastore, 1) := by decide +kernel
theorem dX9_readsValley_114 : decode cX9_readsValley 114 = .ok (.aload_n 0, 1) := by decide +kernel
theorem dX9_readsValley_115 : decode cX9_readsValley 115 = .ok (.getfield 28, 3) := by decide +kernel
theorem dX9_readsValley_118 : decode cX9_readsValley 118 = .ok (.iconst 2, 1) := by decide +kernel
theorem dX9_readsValley_119 : decode cX9_readsValley 119 = .ok (.dup2, 1) := by decide +kernel
theorem dX9_readsValley_120 : decode cX9_readsValley 120 = .ok (.iaload, 1) := by decide +kernel
theorem dX9_readsValley_121 : decode cX9_readsValley 121 = .ok (.iconst 1, 1) := by decide +kernel
theorem dX9_readsValley_122 : decode cX9_readsValley 122 = .ok (.iadd, 1) := by decide +kernel
theorem dX9_readsValley_123 : decode cX9_readsValley 123 = .ok (.iastore, 1) := by decide +kernel
theorem dX9_readsValley_124 : decode cX9_readsValley 124 = .ok (.return_, 1) := by decide +kernel
theorem dX9_readsBird_0 : decode cX9_readsBird 0 = .ok (.aload_n 0, 1) := by decide +kernel
theorem dX9_readsBird_1 : decode cX9_readsBird 1 = .ok (.getfield 98, 3) := by decide +kernel
theorem dX9_readsBird_4 : decode cX9_readsBird 4 = .ok (.invokestatic 127, 3) := by decide +kernel
theorem dX9_readsBird_7 : decode cX9_readsBird 7 = .ok (.istore_n 1, 1) := by decide +kernel
theorem dX9_readsBird_8 : decode cX9_readsBird 8 = .ok (.aload_n 0, 1) := by decide +kernel
theorem dX9_readsBird_9 : decode cX9_readsBird 9 = .ok (.aload_n 0, 1) := by decide +kernel
theorem dX9_readsBird_10 : decode cX9_readsBird 10 = .ok (.getfield 28, 3) := by decide +kernel
theorem dX9_readsBird_13 : decode cX9_readsBird 13 = .ok (.iconst 5, 1) := by decide +kernel
theorem dX9_readsBird_14 : decode cX9_readsBird 14 = .ok (.iaload, 1) := by decide +kernel
theorem dX9_readsBird_15 : decode cX9_readsBird 15 = .ok (.bipush 6, 2) := by decide +kernel
theorem dX9_readsBird_17 : decode cX9_readsBird 17 = .ok (.if_icmp .ge 7, 3) := by decide +kernel
theorem dX9_readsBird_20 : decode cX9_readsBird 20 = .ok (.iconst 1, 1) := by decide +kernel
theorem dX9_readsBird_21 : decode cX9_readsBird 21 = .ok (.goto 4, 3) := by decide +kernel
theorem dX9_readsBird_24 : decode cX9_readsBird 24 = .ok (.iconst 0, 1) := by decide +kernel
theorem dX9_readsBird_25 : decode cX9_readsBird 25 = .ok (.iconst 3, 1) := by decide +kernel
theorem dX9_readsBird_26 : decode cX9_readsBird 26 = .ok (.invokevirtual 117, 3) := by decide +kernel
theorem dX9_readsBird_29 : decode cX9_readsBird 29 = .ok (.pop, 1) := by decide +kernel
theorem dX9_readsBird_30 : decode cX9_readsBird 30 = .ok (.bipush 21, 2) := by decide +kernel
theorem dX9_readsBird_32 : decode cX9_readsBird 32 = .ok (.bipush 6, 2) := by decide +kernel
theorem dX9_readsBird_34 : decode cX9_readsBird 34 = .ok (.aload_n 0, 1) := by decide +kernel
theorem dX9_readsBird_35 : decode cX9_readsBird 35 = .ok (.getfield 28, 3) := by decide +kernel
theorem dX9_readsBird_38 : decode cX9_readsBird 38 = .ok (.iconst 5, 1) := by decide +kernel
theorem dX9_readsBird_39 : decode cX9_readsBird 39 = .ok (.iaload, 1) := by decide +kernel
theorem dX9_readsBird_40 : decode cX9_readsBird 40 = .ok (.bipush 6, 2) := by decide +kernel
theorem dX9_readsBird_42 : decode cX9_readsBird 42 = .ok (.if_icmp .ge 12, 3) := by decide +kernel
theorem dX9_readsBird_45 : decode cX9_readsBird 45 = .ok (.aload_n 0, 1) := by decide +kernel
theorem dX9_readsBird_46 : decode cX9_readsBird 46 = .ok (.getfield 28, 3) := by decide +kernel
theorem dX9_readsBird_49 : decode cX9_readsBird 49 = .ok (.iconst 5, 1) := by decide +kernel
theorem dX9_readsBird_50 : decode cX9_readsBird 50 = .ok (.iaload, 1) := by decide +kernel
theorem dX9_readsBird_51 : decode cX9_readsBird 51 = .ok (.goto 4, 3) := by decide +kernel
theorem dX9_readsBird_54 : decode cX9_readsBird 54 = .ok (.iconst 0, 1) := by decide +kernel
theorem dX9_readsBird_55 : decode cX9_readsBird 55 = .ok (.imul, 1) := by decide +kernel
theorem dX9_readsBird_56 : decode cX9_readsBird 56 = .ok (.iadd, 1) := by decide +kernel
theorem dX9_readsBird_57 : decode cX9_readsBird 57 = .ok (.istore_n 2, 1) := by decide +kernel
theorem dX9_readsBird_58 : decode cX9_readsBird 58 = .ok (.aload_n 0, 1) := by decide +kernel
theorem dX9_readsBird_59 : decode cX9_readsBird 59 = .ok (.iconst 0, 1) := by decide +kernel
theorem dX9_readsBird_60 : decode cX9_readsBird 60 = .ok (.bipush 30, 2) := by decide +kernel
theorem dX9_readsBird_62 : decode cX9_readsBird 62 = .ok (.invokevirtual 121, 3) := by decide +kernel
theorem dX9_readsBird_65 : decode cX9_readsBird 65 = .ok (.istore_n 3, 1) := by decide +kernel
theorem dX9_readsBird_66 : decode cX9_readsBird 66 = .ok (.aload_n 0, 1) := by decide +kernel
theorem dX9_readsBird_67 : decode cX9_readsBird 67 = .ok (.iconst 0, 1) := by decide +kernel
theorem dX9_readsBird_68 : decode cX9_readsBird 68 = .ok (.bipush 6, 2) := by decide +kernel
theorem dX9_readsBird_70 : decode cX9_readsBird 70 = .ok (.invokevirtual 124, 3) := by decide +kernel
theorem dX9_readsBird_73 : decode cX9_readsBird 73 = .ok (.istore 4, 2) := by decide +kernel
theorem dX9_readsBird_75 : decode cX9_readsBird 75 = .ok (.aload_n 0, 1) := by decide +kernel
theorem dX9_readsBird_76 : decode cX9_readsBird 76 = .ok (.iconst 0, 1) := by decide +kernel
theorem dX9_readsBird_77 : decode cX9_readsBird 77 = .ok (.iconst 5, 1) := by decide +kernel
theorem dX9_readsBird_78 : decode cX9_readsBird 78 = .ok (.invokevirtual 124, 3) := by decide +kernel
theorem dX9_readsBird_81 : decode cX9_readsBird 81 = .ok (.istore 5, 2) := by decide +kernel
theorem dX9_readsBird_83 : decode cX9_readsBird 83 = .ok (.aload_n 0, 1) := by decide +kernel
theorem dX9_readsBird_84 : decode cX9_readsBird 84 = .ok (.aload_n 0, 1) := by decide +kernel
theorem dX9_readsBird_85 : decode cX9_readsBird 85 = .ok (.getfield 101, 3) := by decide +kernel
theorem dX9_readsBird_88 : decode cX9_readsBird 88 = .ok (.iconst 4, 1) := by decide +kernel
theorem dX9_readsBird_89 : decode cX9_readsBird 89 = .ok (.if_icmp .ne 7, 3) := by decide +kernel
theorem dX9_readsBird_92 : decode cX9_readsBird 92 = .ok (.iconst 1, 1) := by decide +kernel
theorem dX9_readsBird_93 : decode cX9_readsBird 93 = .ok (.goto 4, 3) := by decide +kernel
theorem dX9_readsBird_96 : decode cX9_readsBird 96 = .ok (.iconst 0, 1) := by decide +kernel
theorem dX9_readsBird_97 : decode cX9_readsBird 97 = .ok (.iconst 1, 1) := by decide +kernel
theorem dX9_readsBird_98 : decode cX9_readsBird 98 = .ok (.invokevirtual 117, 3) := by decide +kernel
theorem dX9_readsBird_101 : decode cX9_readsBird 101 = .ok (.pop, 1) := by decide +kernel
theorem dX9_readsBird_102 : decode cX9_readsBird 102 = .ok (.aload_n 0, 1) := by decide +kernel
theorem dX9_readsBird_103 : decode cX9_readsBird 103 = .ok (.invokevirtual 107, 3) := by decide +kernel
theorem dX9_readsBird_106 : decode cX9_readsBird 106 = .ok (.ifCond .eq 58, 3) := by decide +kernel
theorem dX9_readsBird_109 : decode cX9_readsBird 109 = .ok (.aload_n 0, 1) := by decide +kernel
theorem dX9_readsBird_110 : decode cX9_readsBird 110 = .ok (.getfield 28, 3) := by decide +kernel
theorem dX9_readsBird_113 : decode cX9_readsBird 113 = .ok (.iload_n 2, 1) := by decide +kernel
theorem dX9_readsBird_114 : decode cX9_readsBird 114 = .ok (.iload_n 1, 1) := by decide +kernel
theorem dX9_readsBird_115 : decode cX9_readsBird 115 = .ok (.iastore, 1) := by decide +kernel
theorem dX9_readsBird_116 : decode cX9_readsBird 116 = .ok (.aload_n 0, 1) := by decide +kernel
theorem dX9_readsBird_117 : decode cX9_readsBird 117 = .ok (.getfield 28, 3) := by decide +kernel
theorem dX9_readsBird_120 : decode cX9_readsBird 120 = .ok (.iload_n 2, 1) := by decide +kernel
theorem dX9_readsBird_121 : decode cX9_readsBird 121 = .ok (.iconst 1, 1) := by decide +kernel
theorem dX9_readsBird_122 : decode cX9_readsBird 122 = .ok (.iadd, 1) := by decide +kernel
theorem dX9_readsBird_123 : decode cX9_readsBird 123 = .ok (.iload_n 3, 1) := by decide +kernel
theorem dX9_readsBird_124 : decode cX9_readsBird 124 = .ok (.iastore, 1) := by decide +kernel
theorem dX9_readsBird_125 : decode cX9_readsBird 125 = .ok (.aload_n 0, 1) := by decide +kernel
theorem dX9_readsBird_126 : decode cX9_readsBird 126 = .ok (.getfield 28, 3) := by decide +kernel
theorem dX9_readsBird_129 : decode cX9_readsBird 129 = .ok (.iload_n 2, 1) := by decide +kernel
theorem dX9_readsBird_130 : decode cX9_readsBird 130 = .ok (.iconst 2, 1) := by decide +kernel
theorem dX9_readsBird_131 : decode cX9_readsBird 131 = .ok (.iadd, 1) := by decide +kernel
theorem dX9_readsBird_132 : decode cX9_readsBird 132 = .ok (.iload 4, 2) := by decide +kernel
theorem dX9_readsBird_134 : decode cX9_readsBird 134 = .ok (.iastore, 1) := by decide +kernel
theorem dX9_readsBird_135 : decode cX9_readsBird 135 = .ok (.aload_n 0, 1) := by decide +kernel
theorem dX9_readsBird_136 : decode cX9_readsBird 136 = .ok (.getfield 28, 3) := by decide +kernel
theorem dX9_readsBird_139 : decode cX9_readsBird 139 = .ok (.iload_n 2, 1) := by decide +kernel
theorem dX9_readsBird_140 : decode cX9_readsBird 140 = .ok (.iconst 3, 1) := by decide +kernel
theorem dX9_readsBird_141 : decode cX9_readsBird 141 = .ok (.iadd, 1) := by decide +kernel
theorem dX9_readsBird_142 : decode cX9_readsBird 142 = .ok (.iload 5, 2) := by decide +kernel
theorem dX9_readsBird_144 : decode cX9_readsBird 144 = .ok (.iastore, 1) := by decide +kernel
theorem dX9_readsBird_145 : decode cX9_readsBird 145 = .ok (.aload_n 0, 1) := by decide +kernel
theorem dX9_readsBird_146 : decode cX9_readsBird 146 = .ok (.getfield 28, 3) := by decide +kernel
theorem dX9_readsBird_149 : decode cX9_readsBird 149 = .ok (.iload_n 2, 1) := by decide +kernel
theorem dX9_readsBird_150 : decode cX9_readsBird 150 = .ok (.iconst 4, 1) := by decide +kernel
theorem dX9_readsBird_151 : decode cX9_readsBird 151 = .ok (.iadd, 1) := by decide +kernel
theorem dX9_readsBird_152 : decode cX9_readsBird 152 = .ok (.iconst 1, 1) := by decide +kernel
theorem dX9_readsBird_153 : decode cX9_readsBird 153 = .ok (.iastore, 1) := by decide +kernel
theorem dX9_readsBird_154 : decode cX9_readsBird 154 = .ok (.aload_n 0, 1) := by decide +kernel
theorem dX9_readsBird_155 : decode cX9_readsBird 155 = .ok (.getfield 28, 3) := by decide +kernel
theorem dX9_readsBird_158 : decode cX9_readsBird 158 = .ok (.iconst 5, 1) := by decide +kernel
theorem dX9_readsBird_159 : decode cX9_readsBird 159 = .ok (.dup2, 1) := by decide +kernel
theorem dX9_readsBird_160 : decode cX9_readsBird 160 = .ok (.iaload, 1) := by decide +kernel
theorem dX9_readsBird_161 : decode cX9_readsBird 161 = .ok (.iconst 1, 1) := by decide +kernel
theorem dX9_readsBird_162 : decode cX9_readsBird 162 = .ok (.iadd, 1) := by decide +kernel
theorem dX9_readsBird_163 : decode cX9_readsBird 163 = .ok (.iastore, 1) := by decide +kernel
theorem dX9_readsBird_164 : decode cX9_readsBird 164 = .ok (.return_, 1) := by decide +kernel
theorem dX9_flight_0 : decode cX9_flight 0 = .ok (.iconst 0, 1) := by decide +kernel
theorem dX9_flight_1 : decode cX9_flight 1 = .ok (.istore_n 1, 1) := by decide +kernel
theorem dX9_flight_2 : decode cX9_flight 2 = .ok (.iload_n 1, 1) := by decide +kernel
theorem dX9_flight_3 : decode cX9_flight 3 = .ok (.bipush 57, 2) := by decide +kernel
theorem dX9_flight_5 : decode cX9_flight 5 = .ok (.if_icmp .ge 16, 3) := by decide +kernel
theorem dX9_flight_8 : decode cX9_flight 8 = .ok (.aload_n 0, 1) := by decide +kernel
theorem dX9_flight_9 : decode cX9_flight 9 = .ok (.getfield 28, 3) := by decide +kernel
theorem dX9_flight_12 : decode cX9_flight 12 = .ok (.iload_n 1, 1) := by decide +kernel
theorem dX9_flight_13 : decode cX9_flight 13 = .ok (.iconst 0, 1) := by decide +kernel
theorem dX9_flight_14 : decode cX9_flight 14 = .ok (.iastore, 1) := by decide +kernel
theorem dX9_flight_15 : decode cX9_flight 15 = .ok (.iinc 1 1, 3) := by decide +kernel
theorem dX9_flight_18 : decode cX9_flight 18 = .ok (.goto (-16), 3) := by decide +kernel
theorem dX9_flight_21 : decode cX9_flight 21 = .ok (.aload_n 0, 1) := by decide +kernel
theorem dX9_flight_22 : decode cX9_flight 22 = .ok (.iconst 0, 1) := by decide +kernel
theorem dX9_flight_23 : decode cX9_flight 23 = .ok (.putfield 89, 3) := by decide +kernel
theorem dX9_flight_26 : decode cX9_flight 26 = .ok (.aload_n 0, 1) := by decide +kernel
theorem dX9_flight_27 : decode cX9_flight 27 = .ok (.iconst (-1), 1) := by decide +kernel
theorem dX9_flight_28 : decode cX9_flight 28 = .ok (.putfield 104, 3) := by decide +kernel
theorem dX9_flight_31 : decode cX9_flight 31 = .ok (.aload_n 0, 1) := by decide +kernel
theorem dX9_flight_32 : decode cX9_flight 32 = .ok (.invokevirtual 114, 3) := by decide +kernel
theorem dX9_flight_35 : decode cX9_flight 35 = .ok (.aload_n 0, 1) := by decide +kernel
theorem dX9_flight_36 : decode cX9_flight 36 = .ok (.aload_n 0, 1) := by decide +kernel
theorem dX9_flight_37 : decode cX9_flight 37 = .ok (.getfield 101, 3) := by decide +kernel
theorem dX9_flight_40 : decode cX9_flight 40 = .ok (.iconst 1, 1) := by decide +kernel
theorem dX9_flight_41 : decode cX9_flight 41 = .ok (.if_icmp .ne 16, 3) := by decide +kernel
theorem dX9_flight_44 : decode cX9_flight 44 = .ok (.aload_n 0, 1) := by decide +kernel
theorem dX9_flight_45 : decode cX9_flight 45 = .ok (.getfield 98, 3) := by decide +kernel
theorem dX9_flight_48 : decode cX9_flight 48 = .ok (.bipush 102, 2) := by decide +kernel
theorem dX9_flight_50 : decode cX9_flight 50 = .ok (.if_icmp .ne 7, 3) := by decide +kernel
theorem dX9_flight_53 : decode cX9_flight 53 = .ok (.iconst 1, 1) := by decide +kernel
theorem dX9_flight_54 : decode cX9_flight 54 = .ok (.goto 4, 3) := by decide +kernel
theorem dX9_flight_57 : decode cX9_flight 57 = .ok (.iconst 0, 1) := by decide +kernel
theorem dX9_flight_58 : decode cX9_flight 58 = .ok (.iconst 1, 1) := by decide +kernel
theorem dX9_flight_59 : decode cX9_flight 59 = .ok (.invokevirtual 117, 3) := by decide +kernel
theorem dX9_flight_62 : decode cX9_flight 62 = .ok (.pop, 1) := by decide +kernel
theorem dX9_flight_63 : decode cX9_flight 63 = .ok (.aload_n 0, 1) := by decide +kernel
theorem dX9_flight_64 : decode cX9_flight 64 = .ok (.getfield 28, 3) := by decide +kernel
theorem dX9_flight_67 : decode cX9_flight 67 = .ok (.iconst 0, 1) := by decide +kernel
theorem dX9_flight_68 : decode cX9_flight 68 = .ok (.aload_n 0, 1) := by decide +kernel
theorem dX9_flight_69 : decode cX9_flight 69 = .ok (.iconst 0, 1) := by decide +kernel
theorem dX9_flight_70 : decode cX9_flight 70 = .ok (.bipush 9, 2) := by decide +kernel
theorem dX9_flight_72 : decode cX9_flight 72 = .ok (.invokevirtual 121, 3) := by decide +kernel
theorem dX9_flight_75 : decode cX9_flight 75 = .ok (.iastore, 1) := by decide +kernel
theorem dX9_flight_76 : decode cX9_flight 76 = .ok (.aload_n 0, 1) := by decide +kernel
theorem dX9_flight_77 : decode cX9_flight 77 = .ok (.aload_n 0, 1) := by decide +kernel
theorem dX9_flight_78 : decode cX9_flight 78 = .ok (.getfield 101, 3) := by decide +kernel
theorem dX9_flight_81 : decode cX9_flight 81 = .ok (.iconst 4, 1) := by decide +kernel
theorem dX9_flight_82 : decode cX9_flight 82 = .ok (.if_icmp .ne 7, 3) := by decide +kernel
theorem dX9_flight_85 : decode cX9_flight 85 = .ok (.iconst 1, 1) := by decide +kernel
theorem dX9_flight_86 : decode cX9_flight 86 = .ok (.goto 4, 3) := by decide +kernel
theorem dX9_flight_89 : decode cX9_flight 89 = .ok (.iconst 0, 1) := by decide +kernel
theorem dX9_flight_90 : decode cX9_flight 90 = .ok (.iconst 1, 1) := by decide +kernel
theorem dX9_flight_91 : decode cX9_flight 91 = .ok (.invokevirtual 117, 3) := by decide +kernel
theorem dX9_flight_94 : decode cX9_flight 94 = .ok (.pop, 1) := by decide +kernel
theorem dX9_flight_95 : decode cX9_flight 95 = .ok (.aload_n 0, 1) := by decide +kernel
theorem dX9_flight_96 : decode cX9_flight 96 = .ok (.invokevirtual 107, 3) := by decide +kernel
theorem dX9_flight_99 : decode cX9_flight 99 = .ok (.ifCond .eq 27, 3) := by decide +kernel
theorem dX9_flight_102 : decode cX9_flight 102 = .ok (.aload_n 0, 1) := by decide +kernel
theorem dX9_flight_103 : decode cX9_flight 103 = .ok (.getfield 101, 3) := by decide +kernel
theorem dX9_flight_106 : decode cX9_flight 106 = .ok (.iconst 1, 1) := by decide +kernel
theorem dX9_flight_107 : decode cX9_flight 107 = .ok (.if_icmp .ne 12, 3) := by decide +kernel
theorem dX9_flight_110 : decode cX9_flight 110 = .ok (.aload_n 0, 1) := by decide +kernel
theorem dX9_flight_111 : decode cX9_flight 111 = .ok (.getfield 98, 3) := by decide +kernel
theorem dX9_flight_114 : decode cX9_flight 114 = .ok (.bipush 118, 2) := by decide +kernel
theorem dX9_flight_116 : decode cX9_flight 116 = .ok (.if_icmp .eq 10, 3) := by decide +kernel
theorem dX9_flight_119 : decode cX9_flight 119 = .ok (.aload_n 0, 1) := by decide +kernel
theorem dX9_flight_120 : decode cX9_flight 120 = .ok (.iconst 0, 1) := by decide +kernel
theorem dX9_flight_121 : decode cX9_flight 121 = .ok (.iconst 1, 1) := by decide +kernel
theorem dX9_flight_122 : decode cX9_flight 122 = .ok (.invokevirtual 117, 3) := by decide +kernel
theorem dX9_flight_125 : decode cX9_flight 125 = .ok (.pop, 1) := by decide +kernel
theorem dX9_flight_126 : decode cX9_flight 126 = .ok (.aload_n 0, 1) := by decide +kernel
theorem dX9_flight_127 : decode cX9_flight 127 = .ok (.invokevirtual 107, 3) := by decide +kernel
theorem dX9_flight_130 : decode cX9_flight 130 = .ok (.ifCond .eq 27, 3) := by decide +kernel
theorem dX9_flight_133 : decode cX9_flight 133 = .ok (.aload_n 0, 1) := by decide +kernel
theorem dX9_flight_134 : decode cX9_flight 134 = .ok (.getfield 101, 3) := by decide +kernel
theorem dX9_flight_137 : decode cX9_flight 137 = .ok (.iconst 1, 1) := by decide +kernel
theorem dX9_flight_138 : decode cX9_flight 138 = .ok (.if_icmp .ne 19, 3) := by decide +kernel
theorem dX9_flight_141 : decode cX9_flight 141 = .ok (.aload_n 0, 1) := by decide +kernel
theorem dX9_flight_142 : decode cX9_flight 142 = .ok (.getfield 98, 3) := by decide +kernel
theorem dX9_flight_145 : decode cX9_flight 145 = .ok (.bipush 118, 2) := by decide +kernel
theorem dX9_flight_147 : decode cX9_flight 147 = .ok (.if_icmp .ne 10, 3) := by decide +kernel
theorem dX9_flight_150 : decode cX9_flight 150 = .ok (.aload_n 0, 1) := by decide +kernel
theorem dX9_flight_151 : decode cX9_flight 151 = .ok (.invokevirtual 130, 3) := by decide +kernel
theorem dX9_flight_154 : decode cX9_flight 154 = .ok (.goto (-28), 3) := by decide +kernel
theorem dX9_flight_157 : decode cX9_flight 157 = .ok (.aload_n 0, 1) := by decide +kernel
theorem dX9_flight_158 : decode cX9_flight 158 = .ok (.invokevirtual 107, 3) := by decide +kernel
theorem dX9_flight_161 : decode cX9_flight 161 = .ok (.ifCond .eq 28, 3) := by decide +kernel
theorem dX9_flight_164 : decode cX9_flight 164 = .ok (.aload_n 0, 1) := by decide +kernel
theorem dX9_flight_165 : decode cX9_flight 165 = .ok (.getfield 101, 3) := by decide +kernel
theorem dX9_flight_168 : decode cX9_flight 168 = .ok (.iconst 1, 1) := by decide +kernel
theorem dX9_flight_169 : decode cX9_flight 169 = .ok (.if_icmp .ne 20, 3) := by decide +kernel
theorem dX9_flight_172 : decode cX9_flight 172 = .ok (.aload_n 0, 1) := by decide +kernel
theorem dX9_flight_173 : decode cX9_flight 173 = .ok (.getfield 98, 3) := by decide +kernel
theorem dX9_flight_176 : decode cX9_flight 176 = .ok (.invokestatic 127, 3) := by decide +kernel
theorem dX9_flight_179 : decode cX9_flight 179 = .ok (.ifCond .le 10, 3) := by decide +kernel
theorem dX9_flight_182 : decode cX9_flight 182 = .ok (.aload_n 0, 1) := by decide +kernel
theorem dX9_flight_183 : decode cX9_flight 183 = .ok (.invokevirtual 133, 3) := by decide +kernel
theorem dX9_flight_186 : decode cX9_flight 186 = .ok (.goto (-29), 3) := by decide +kernel
theorem dX9_flight_189 : decode cX9_flight 189 = .ok (.aload_n 0, 1) := by decide +kernel
theorem dX9_flight_190 : decode cX9_flight 190 = .ok (.invokevirtual 107, 3) := by decide +kernel
theorem dX9_flight_193 : decode cX9_flight 193 = .ok (.ifCond .eq 17, 3) := by decide +kernel
theorem dX9_flight_196 : decode cX9_flight 196 = .ok (.aload_n 0, 1) := by decide +kernel
theorem dX9_flight_197 : decode cX9_flight 197 = .ok (.getfield 101, 3) := by decide +kernel
theorem dX9_flight_200 : decode cX9_flight 200 = .ok (.ifCond .eq 10, 3) := by decide +kernel
theorem dX9_flight_203 : decode cX9_flight 203 = .ok (.aload_n 0, 1) := by decide +kernel
theorem dX9_flight_204 : decode cX9_flight 204 = .ok (.iconst 0, 1) := by decide +kernel
theorem dX9_flight_205 : decode cX9_flight 205 = .ok (.iconst 1, 1) := by decide +kernel
theorem dX9_flight_206 : decode cX9_flight 206 = .ok (.invokevirtual 117, 3) := by decide +kernel
theorem dX9_flight_209 : decode cX9_flight 209 = .ok (.pop, 1) := by decide +kernel
theorem dX9_flight_210 : decode cX9_flight 210 = .ok (.aload_n 0, 1) := by decide +kernel
theorem dX9_flight_211 : decode cX9_flight 211 = .ok (.iconst 0, 1) := by decide +kernel
theorem dX9_flight_212 : decode cX9_flight 212 = .ok (.putfield 85, 3) := by decide +kernel
theorem dX9_flight_215 : decode cX9_flight 215 = .ok (.aload_n 0, 1) := by decide +kernel
theorem dX9_flight_216 : decode cX9_flight 216 = .ok (.invokevirtual 107, 3) := by decide +kernel
theorem dX9_flight_219 : decode cX9_flight 219 = .ok (.ifCond .ne 11, 3) := by decide +kernel
theorem dX9_flight_222 : decode cX9_flight 222 = .ok (.ldc 136, 2) := by decide +kernel
theorem dX9_flight_224 : decode cX9_flight 224 = .ok (.aload_n 0, 1) := by decide +kernel
theorem dX9_flight_225 : decode cX9_flight 225 = .ok (.getfield 104, 3) := by decide +kernel
theorem dX9_flight_228 : decode cX9_flight 228 = .ok (.isub, 1) := by decide +kernel
theorem dX9_flight_229 : decode cX9_flight 229 = .ok (.ireturn, 1) := by decide +kernel
theorem dX9_flight_230 : decode cX9_flight 230 = .ok (.aload_n 0, 1) := by decide +kernel
theorem dX9_flight_231 : decode cX9_flight 231 = .ok (.getfield 28, 3) := by decide +kernel
theorem dX9_flight_234 : decode cX9_flight 234 = .ok (.iconst 1, 1) := by decide +kernel
theorem dX9_flight_235 : decode cX9_flight 235 = .ok (.iconst 1, 1) := by decide +kernel
theorem dX9_flight_236 : decode cX9_flight 236 = .ok (.iastore, 1) := by decide +kernel
theorem dX9_flight_237 : decode cX9_flight 237 = .ok (.aload_n 0, 1) := by decide +kernel
theorem dX9_flight_238 : decode cX9_flight 238 = .ok (.getfield 28, 3) := by decide +kernel
theorem dX9_flight_241 : decode cX9_flight 241 = .ok (.iconst 0, 1) := by decide +kernel
theorem dX9_flight_242 : decode cX9_flight 242 = .ok (.aload_n 0, 1) := by decide +kernel
theorem dX9_flight_243 : decode cX9_flight 243 = .ok (.getfield 25, 3) := by decide +kernel
theorem dX9_flight_246 : decode cX9_flight 246 = .ok (.iconst 0, 1) := by decide +kernel
theorem dX9_flight_247 : decode cX9_flight 247 = .ok (.invokestatic 137, 3) := by decide +kernel
theorem dX9_flight_250 : decode cX9_flight 250 = .ok (.aload_n 0, 1) := by decide +kernel
theorem dX9_flight_251 : decode cX9_flight 251 = .ok (.iconst 0, 1) := by decide +kernel
theorem dX9_flight_252 : decode cX9_flight 252 = .ok (.putfield 141, 3) := by decide +kernel
theorem dX9_flight_255 : decode cX9_flight 255 = .ok (.aload_n 0, 1) := by decide +kernel
theorem dX9_flight_256 : decode cX9_flight 256 = .ok (.getfield 25, 3) := by decide +kernel
theorem dX9_flight_259 : decode cX9_flight 259 = .ok (.iconst 5, 1) := by decide +kernel
theorem dX9_flight_260 : decode cX9_flight 260 = .ok (.iaload, 1) := by decide +kernel
theorem dX9_flight_261 : decode cX9_flight 261 = .ok (.ireturn, 1) := by decide +kernel
theorem dX9_fault_0 : decode cX9_fault 0 = .ok (.aload_n 0, 1) := by decide +kernel
theorem dX9_fault_1 : decode cX9_fault 1 = .ok (.getfield 111, 3) := by decide +kernel
theorem dX9_fault_4 : decode cX9_fault 4 = .ok (.ireturn, 1) := by decide +kernel
theorem dX9_isFlight_0 : decode cX9_isFlight 0 = .ok (.aload_n 0, 1) := by decide +kernel
theorem dX9_isFlight_1 : decode cX9_isFlight 1 = .ok (.getfield 25, 3) := by decide +kernel
theorem dX9_isFlight_4 : decode cX9_isFlight 4 = .ok (.iconst 1, 1) := by decide +kernel
theorem dX9_isFlight_5 : decode cX9_isFlight 5 = .ok (.iaload, 1) := by decide +kernel
theorem dX9_isFlight_6 : decode cX9_isFlight 6 = .ok (.iconst 1, 1) := by decide +kernel
theorem dX9_isFlight_7 : decode cX9_isFlight 7 = .ok (.if_icmp .ne 7, 3) := by decide +kernel
theorem dX9_isFlight_10 : decode cX9_isFlight 10 = .ok (.iconst 1, 1) := by decide +kernel
theorem dX9_isFlight_11 : decode cX9_isFlight 11 = .ok (.goto 4, 3) := by decide +kernel
theorem dX9_isFlight_14 : decode cX9_isFlight 14 = .ok (.iconst 0, 1) := by decide +kernel
theorem dX9_isFlight_15 : decode cX9_isFlight 15 = .ok (.ireturn, 1) := by decide +kernel
theorem dX9_isBird_0 : decode cX9_isBird 0 = .ok (.iload_n 1, 1) := by decide +kernel
theorem dX9_isBird_1 : decode cX9_isBird 1 = .ok (.iconst 0, 1) := by decide +kernel
theorem dX9_isBird_2 : decode cX9_isBird 2 = .ok (.aload_n 0, 1) := by decide +kernel
theorem dX9_isBird_3 : decode cX9_isBird 3 = .ok (.getfield 25, 3) := by decide +kernel
theorem dX9_isBird_6 : decode cX9_isBird 6 = .ok (.iconst 5, 1) := by decide +kernel
theorem dX9_isBird_7 : decode cX9_isBird 7 = .ok (.iaload, 1) := by decide +kernel
theorem dX9_isBird_8 : decode cX9_isBird 8 = .ok (.iconst 1, 1) := by decide +kernel
theorem dX9_isBird_9 : decode cX9_isBird 9 = .ok (.isub, 1) := by decide +kernel
theorem dX9_isBird_10 : decode cX9_isBird 10 = .ok (.invokestatic 59, 3) := by decide +kernel
theorem dX9_isBird_13 : decode cX9_isBird 13 = .ok (.ireturn, 1) := by decide +kernel
theorem dX9_left_0 : decode cX9_left 0 = .ok (.aload_n 0, 1) := by decide +kernel
theorem dX9_left_1 : decode cX9_left 1 = .ok (.iconst 2, 1) := by decide +kernel
theorem dX9_left_2 : decode cX9_left 2 = .ok (.iaload, 1) := by decide +kernel
theorem dX9_left_3 : decode cX9_left 3 = .ok (.aload_n 0, 1) := by decide +kernel
theorem dX9_left_4 : decode cX9_left 4 = .ok (.iconst 3, 1) := by decide +kernel
theorem dX9_left_5 : decode cX9_left 5 = .ok (.iaload, 1) := by decide +kernel
theorem dX9_left_6 : decode cX9_left 6 = .ok (.isub, 1) := by decide +kernel
theorem dX9_left_7 : decode cX9_left 7 = .ok (.ireturn, 1) := by decide +kernel
theorem dX9_flies_0 : decode cX9_flies 0 = .ok (.iload_n 1, 1) := by decide +kernel
theorem dX9_flies_1 : decode cX9_flies 1 = .ok (.aload_n 0, 1) := by decide +kernel
theorem dX9_flies_2 : decode cX9_flies 2 = .ok (.iconst 5, 1) := by decide +kernel
theorem dX9_flies_3 : decode cX9_flies 3 = .ok (.iaload, 1) := by decide +kernel
theorem dX9_flies_4 : decode cX9_flies 4 = .ok (.if_icmp .ge 22, 3) := by decide +kernel
theorem dX9_flies_7 : decode cX9_flies 7 = .ok (.aload_n 0, 1) := by decide +kernel
theorem dX9_flies_8 : decode cX9_flies 8 = .ok (.bipush 21, 2) := by decide +kernel
theorem dX9_flies_10 : decode cX9_flies 10 = .ok (.bipush 6, 2) := by decide +kernel
theorem dX9_flies_12 : decode cX9_flies 12 = .ok (.iload_n 1, 1) := by decide +kernel
theorem dX9_flies_13 : decode cX9_flies 13 = .ok (.imul, 1) := by decide +kernel
theorem dX9_flies_14 : decode cX9_flies 14 = .ok (.iadd, 1) := by decide +kernel
theorem dX9_flies_15 : decode cX9_flies 15 = .ok (.iconst 4, 1) := by decide +kernel
theorem dX9_flies_16 : decode cX9_flies 16 = .ok (.iadd, 1) := by decide +kernel
theorem dX9_flies_17 : decode cX9_flies 17 = .ok (.iaload, 1) := by decide +kernel
theorem dX9_flies_18 : decode cX9_flies 18 = .ok (.iconst 1, 1) := by decide +kernel
theorem dX9_flies_19 : decode cX9_flies 19 = .ok (.if_icmp .ne 7, 3) := by decide +kernel
theorem dX9_flies_22 : decode cX9_flies 22 = .ok (.iconst 1, 1) := by decide +kernel
theorem dX9_flies_23 : decode cX9_flies 23 = .ok (.goto 4, 3) := by decide +kernel
theorem dX9_flies_26 : decode cX9_flies 26 = .ok (.iconst 0, 1) := by decide +kernel
theorem dX9_flies_27 : decode cX9_flies 27 = .ok (.ireturn, 1) := by decide +kernel
theorem dX9_flying_0 : decode cX9_flying 0 = .ok (.iconst 0, 1) := by decide +kernel
theorem dX9_flying_1 : decode cX9_flying 1 = .ok (.istore_n 1, 1) := by decide +kernel
theorem dX9_flying_2 : decode cX9_flying 2 = .ok (.iconst 0, 1) := by decide +kernel
theorem dX9_flying_3 : decode cX9_flying 3 = .ok (.istore_n 2, 1) := by decide +kernel
theorem dX9_flying_4 : decode cX9_flying 4 = .ok (.iload_n 2, 1) := by decide +kernel
theorem dX9_flying_5 : decode cX9_flying 5 = .ok (.aload_n 0, 1) := by decide +kernel
theorem dX9_flying_6 : decode cX9_flying 6 = .ok (.iconst 5, 1) := by decide +kernel
theorem dX9_flying_7 : decode cX9_flying 7 = .ok (.iaload, 1) := by decide +kernel
theorem dX9_flying_8 : decode cX9_flying 8 = .ok (.if_icmp .ge 25, 3) := by decide +kernel
theorem dX9_flying_11 : decode cX9_flying 11 = .ok (.iload_n 1, 1) := by decide +kernel
theorem dX9_flying_12 : decode cX9_flying 12 = .ok (.aload_n 0, 1) := by decide +kernel
theorem dX9_flying_13 : decode cX9_flying 13 = .ok (.bipush 21, 2) := by decide +kernel
theorem dX9_flying_15 : decode cX9_flying 15 = .ok (.bipush 6, 2) := by decide +kernel
theorem dX9_flying_17 : decode cX9_flying 17 = .ok (.iload_n 2, 1) := by decide +kernel
theorem dX9_flying_18 : decode cX9_flying 18 = .ok (.imul, 1) := by decide +kernel
theorem dX9_flying_19 : decode cX9_flying 19 = .ok (.iadd, 1) := by decide +kernel
theorem dX9_flying_20 : decode cX9_flying 20 = .ok (.iconst 4, 1) := by decide +kernel
theorem dX9_flying_21 : decode cX9_flying 21 = .ok (.iadd, 1) := by decide +kernel
theorem dX9_flying_22 : decode cX9_flying 22 = .ok (.iaload, 1) := by decide +kernel
theorem dX9_flying_23 : decode cX9_flying 23 = .ok (.iload_n 2, 1) := by decide +kernel
theorem dX9_flying_24 : decode cX9_flying 24 = .ok (.ishl, 1) := by decide +kernel
theorem dX9_flying_25 : decode cX9_flying 25 = .ok (.ior, 1) := by decide +kernel
theorem dX9_flying_26 : decode cX9_flying 26 = .ok (.istore_n 1, 1) := by decide +kernel
theorem dX9_flying_27 : decode cX9_flying 27 = .ok (.iinc 2 1, 3) := by decide +kernel
theorem dX9_flying_30 : decode cX9_flying 30 = .ok (.goto (-26), 3) := by decide +kernel
theorem dX9_flying_33 : decode cX9_flying 33 = .ok (.iload_n 1, 1) := by decide +kernel
theorem dX9_flying_34 : decode cX9_flying 34 = .ok (.ireturn, 1) := by decide +kernel
theorem dX9_takesOf_0 : decode cX9_takesOf 0 = .ok (.bipush 21, 2) := by decide +kernel
theorem dX9_takesOf_2 : decode cX9_takesOf 2 = .ok (.bipush 6, 2) := by decide +kernel
theorem dX9_takesOf_4 : decode cX9_takesOf 4 = .ok (.iload_n 1, 1) := by decide +kernel
theorem dX9_takesOf_5 : decode cX9_takesOf 5 = .ok (.imul, 1) := by decide +kernel
theorem dX9_takesOf_6 : decode cX9_takesOf 6 = .ok (.iadd, 1) := by decide +kernel
theorem dX9_takesOf_7 : decode cX9_takesOf 7 = .ok (.istore_n 2, 1) := by decide +kernel
theorem dX9_takesOf_8 : decode cX9_takesOf 8 = .ok (.aload_n 0, 1) := by decide +kernel
theorem dX9_takesOf_9 : decode cX9_takesOf 9 = .ok (.bipush 16, 2) := by decide +kernel
theorem dX9_takesOf_11 : decode cX9_takesOf 11 = .ok (.aload_n 0, 1) := by decide +kernel
theorem dX9_takesOf_12 : decode cX9_takesOf 12 = .ok (.bipush 6, 2) := by decide +kernel
theorem dX9_takesOf_14 : decode cX9_takesOf 14 = .ok (.aload_n 0, 1) := by decide +kernel
theorem dX9_takesOf_15 : decode cX9_takesOf 15 = .ok (.iconst 3, 1) := by decide +kernel
theorem dX9_takesOf_16 : decode cX9_takesOf 16 = .ok (.iaload, 1) := by decide +kernel
theorem dX9_takesOf_17 : decode cX9_takesOf 17 = .ok (.iadd, 1) := by decide +kernel
theorem dX9_takesOf_18 : decode cX9_takesOf 18 = .ok (.iaload, 1) := by decide +kernel
theorem dX9_takesOf_19 : decode cX9_takesOf 19 = .ok (.iadd, 1) := by decide +kernel
theorem dX9_takesOf_20 : decode cX9_takesOf 20 = .ok (.iaload, 1) := by decide +kernel
theorem dX9_takesOf_21 : decode cX9_takesOf 21 = .ok (.istore_n 3, 1) := by decide +kernel
theorem dX9_takesOf_22 : decode cX9_takesOf 22 = .ok (.aload_n 0, 1) := by decide +kernel
theorem dX9_takesOf_23 : decode cX9_takesOf 23 = .ok (.aload_n 0, 1) := by decide +kernel
theorem dX9_takesOf_24 : decode cX9_takesOf 24 = .ok (.iload_n 2, 1) := by decide +kernel
theorem dX9_takesOf_25 : decode cX9_takesOf 25 = .ok (.iconst 3, 1) := by decide +kernel
theorem dX9_takesOf_26 : decode cX9_takesOf 26 = .ok (.iadd, 1) := by decide +kernel
theorem dX9_takesOf_27 : decode cX9_takesOf 27 = .ok (.iaload, 1) := by decide +kernel
theorem dX9_takesOf_28 : decode cX9_takesOf 28 = .ok (.invokestatic 144, 3) := by decide +kernel
theorem dX9_takesOf_31 : decode cX9_takesOf 31 = .ok (.istore 4, 2) := by decide +kernel
theorem dX9_takesOf_33 : decode cX9_takesOf 33 = .ok (.aload_n 0, 1) := by decide +kernel
theorem dX9_takesOf_34 : decode cX9_takesOf 34 = .ok (.iload_n 2, 1) := by decide +kernel
theorem dX9_takesOf_35 : decode cX9_takesOf 35 = .ok (.iaload, 1) := by decide +kernel
theorem dX9_takesOf_36 : decode cX9_takesOf 36 = .ok (.tableswitch 55 1 4 #[32, 34, 40, 44], 32) := by decide +kernel
theorem dX9_takesOf_68 : decode cX9_takesOf 68 = .ok (.iload_n 3, 1) := by decide +kernel
theorem dX9_takesOf_69 : decode cX9_takesOf 69 = .ok (.ireturn, 1) := by decide +kernel
theorem dX9_takesOf_70 : decode cX9_takesOf 70 = .ok (.iload_n 3, 1) := by decide +kernel
theorem dX9_takesOf_71 : decode cX9_takesOf 71 = .ok (.aload_n 0, 1) := by decide +kernel
theorem dX9_takesOf_72 : decode cX9_takesOf 72 = .ok (.iconst 4, 1) := by decide +kernel
theorem dX9_takesOf_73 : decode cX9_takesOf 73 = .ok (.iaload, 1) := by decide +kernel
theorem dX9_takesOf_74 : decode cX9_takesOf 74 = .ok (.iadd, 1) := by decide +kernel
theorem dX9_takesOf_75 : decode cX9_takesOf 75 = .ok (.ireturn, 1) := by decide +kernel
theorem dX9_takesOf_76 : decode cX9_takesOf 76 = .ok (.iconst 2, 1) := by decide +kernel
theorem dX9_takesOf_77 : decode cX9_takesOf 77 = .ok (.iload_n 3, 1) := by decide +kernel
theorem dX9_takesOf_78 : decode cX9_takesOf 78 = .ok (.imul, 1) := by decide +kernel
theorem dX9_takesOf_79 : decode cX9_takesOf 79 = .ok (.ireturn, 1) := by decide +kernel
theorem dX9_takesOf_80 : decode cX9_takesOf 80 = .ok (.iload 4, 2) := by decide +kernel
theorem dX9_takesOf_82 : decode cX9_takesOf 82 = .ok (.ifCond .eq 7, 3) := by decide +kernel
theorem dX9_takesOf_85 : decode cX9_takesOf 85 = .ok (.iconst 0, 1) := by decide +kernel
theorem dX9_takesOf_86 : decode cX9_takesOf 86 = .ok (.goto 4, 3) := by decide +kernel
theorem dX9_takesOf_89 : decode cX9_takesOf 89 = .ok (.iload_n 3, 1) := by decide +kernel
theorem dX9_takesOf_90 : decode cX9_takesOf 90 = .ok (.ireturn, 1) := by decide +kernel
theorem dX9_takesOf_91 : decode cX9_takesOf 91 = .ok (.iload 4, 2) := by decide +kernel
theorem dX9_takesOf_93 : decode cX9_takesOf 93 = .ok (.ifCond .eq 7, 3) := by decide +kernel
theorem dX9_takesOf_96 : decode cX9_takesOf 96 = .ok (.iconst 0, 1) := by decide +kernel
theorem dX9_takesOf_97 : decode cX9_takesOf 97 = .ok (.goto 4, 3) := by decide +kernel
theorem dX9_takesOf_100 : decode cX9_takesOf 100 = .ok (.iconst 3, 1) := by decide +kernel
theorem dX9_takesOf_101 : decode cX9_takesOf 101 = .ok (.ireturn, 1) := by decide +kernel
theorem dX9_turns_0 : decode cX9_turns 0 = .ok (.iconst 0, 1) := by decide +kernel
theorem dX9_turns_1 : decode cX9_turns 1 = .ok (.istore_n 2, 1) := by decide +kernel
theorem dX9_turns_2 : decode cX9_turns 2 = .ok (.iload_n 2, 1) := by decide +kernel
theorem dX9_turns_3 : decode cX9_turns 3 = .ok (.aload_n 0, 1) := by decide +kernel
theorem dX9_turns_4 : decode cX9_turns 4 = .ok (.iconst 5, 1) := by decide +kernel
theorem dX9_turns_5 : decode cX9_turns 5 = .ok (.iaload, 1) := by decide +kernel
theorem dX9_turns_6 : decode cX9_turns 6 = .ok (.if_icmp .ge 43, 3) := by decide +kernel
theorem dX9_turns_9 : decode cX9_turns 9 = .ok (.aload_n 0, 1) := by decide +kernel
theorem dX9_turns_10 : decode cX9_turns 10 = .ok (.bipush 21, 2) := by decide +kernel
theorem dX9_turns_12 : decode cX9_turns 12 = .ok (.bipush 6, 2) := by decide +kernel
theorem dX9_turns_14 : decode cX9_turns 14 = .ok (.iload_n 2, 1) := by decide +kernel
theorem dX9_turns_15 : decode cX9_turns 15 = .ok (.imul, 1) := by decide +kernel
theorem dX9_turns_16 : decode cX9_turns 16 = .ok (.iadd, 1) := by decide +kernel
theorem dX9_turns_17 : decode cX9_turns 17 = .ok (.iconst 4, 1) := by decide +kernel
theorem dX9_turns_18 : decode cX9_turns 18 = .ok (.iadd, 1) := by decide +kernel
theorem dX9_turns_19 : decode cX9_turns 19 = .ok (.iload_n 1, 1) := by decide +kernel
theorem dX9_turns_20 : decode cX9_turns 20 = .ok (.iload_n 2, 1) := by decide +kernel
theorem dX9_turns_21 : decode cX9_turns 21 = .ok (.invokestatic 148, 3) := by decide +kernel
theorem dX9_turns_24 : decode cX9_turns 24 = .ok (.ifCond .eq 7, 3) := by decide +kernel
theorem dX9_turns_27 : decode cX9_turns 27 = .ok (.iconst 0, 1) := by decide +kernel
theorem dX9_turns_28 : decode cX9_turns 28 = .ok (.goto 14, 3) := by decide +kernel
theorem dX9_turns_31 : decode cX9_turns 31 = .ok (.aload_n 0, 1) := by decide +kernel
theorem dX9_turns_32 : decode cX9_turns 32 = .ok (.bipush 21, 2) := by decide +kernel
theorem dX9_turns_34 : decode cX9_turns 34 = .ok (.bipush 6, 2) := by decide +kernel
theorem dX9_turns_36 : decode cX9_turns 36 = .ok (.iload_n 2, 1) := by decide +kernel
theorem dX9_turns_37 : decode cX9_turns 37 = .ok (.imul, 1) := by decide +kernel
theorem dX9_turns_38 : decode cX9_turns 38 = .ok (.iadd, 1) := by decide +kernel
theorem dX9_turns_39 : decode cX9_turns 39 = .ok (.iconst 4, 1) := by decide +kernel
theorem dX9_turns_40 : decode cX9_turns 40 = .ok (.iadd, 1) := by decide +kernel
theorem dX9_turns_41 : decode cX9_turns 41 = .ok (.iaload, 1) := by decide +kernel
theorem dX9_turns_42 : decode cX9_turns 42 = .ok (.iastore, 1) := by decide +kernel
theorem dX9_turns_43 : decode cX9_turns 43 = .ok (.iinc 2 1, 3) := by decide +kernel
theorem dX9_turns_46 : decode cX9_turns 46 = .ok (.goto (-44), 3) := by decide +kernel
theorem dX9_turns_49 : decode cX9_turns 49 = .ok (.aload_n 0, 1) := by decide +kernel
theorem dX9_turns_50 : decode cX9_turns 50 = .ok (.iconst 4, 1) := by decide +kernel
theorem dX9_turns_51 : decode cX9_turns 51 = .ok (.dup2, 1) := by decide +kernel
theorem dX9_turns_52 : decode cX9_turns 52 = .ok (.iaload, 1) := by decide +kernel
theorem dX9_turns_53 : decode cX9_turns 53 = .ok (.iload_n 1, 1) := by decide +kernel
theorem dX9_turns_54 : decode cX9_turns 54 = .ok (.invokestatic 152, 3) := by decide +kernel
theorem dX9_turns_57 : decode cX9_turns 57 = .ok (.iadd, 1) := by decide +kernel
theorem dX9_turns_58 : decode cX9_turns 58 = .ok (.iastore, 1) := by decide +kernel
theorem dX9_turns_59 : decode cX9_turns 59 = .ok (.return_, 1) := by decide +kernel
theorem dX9_isLoose_0 : decode cX9_isLoose 0 = .ok (.aload_n 0, 1) := by decide +kernel
theorem dX9_isLoose_1 : decode cX9_isLoose 1 = .ok (.iload_n 1, 1) := by decide +kernel
theorem dX9_isLoose_2 : decode cX9_isLoose 2 = .ok (.invokestatic 144, 3) := by decide +kernel
theorem dX9_isLoose_5 : decode cX9_isLoose 5 = .ok (.ifCond .eq 21, 3) := by decide +kernel
theorem dX9_isLoose_8 : decode cX9_isLoose 8 = .ok (.aload_n 0, 1) := by decide +kernel
theorem dX9_isLoose_9 : decode cX9_isLoose 9 = .ok (.bipush 21, 2) := by decide +kernel
theorem dX9_isLoose_11 : decode cX9_isLoose 11 = .ok (.bipush 6, 2) := by decide +kernel
theorem dX9_isLoose_13 : decode cX9_isLoose 13 = .ok (.iload_n 1, 1) := by decide +kernel
theorem dX9_isLoose_14 : decode cX9_isLoose 14 = .ok (.imul, 1) := by decide +kernel
theorem dX9_isLoose_15 : decode cX9_isLoose 15 = .ok (.iadd, 1) := by decide +kernel
theorem dX9_isLoose_16 : decode cX9_isLoose 16 = .ok (.iconst 5, 1) := by decide +kernel
theorem dX9_isLoose_17 : decode cX9_isLoose 17 = .ok (.iadd, 1) := by decide +kernel
theorem dX9_isLoose_18 : decode cX9_isLoose 18 = .ok (.iaload, 1) := by decide +kernel
theorem dX9_isLoose_19 : decode cX9_isLoose 19 = .ok (.ifCond .ne 7, 3) := by decide +kernel
theorem dX9_isLoose_22 : decode cX9_isLoose 22 = .ok (.iconst 1, 1) := by decide +kernel
theorem dX9_isLoose_23 : decode cX9_isLoose 23 = .ok (.goto 4, 3) := by decide +kernel
theorem dX9_isLoose_26 : decode cX9_isLoose 26 = .ok (.iconst 0, 1) := by decide +kernel
theorem dX9_isLoose_27 : decode cX9_isLoose 27 = .ok (.ireturn, 1) := by decide +kernel
theorem dX9_leavers_0 : decode cX9_leavers 0 = .ok (.iconst 0, 1) := by decide +kernel
theorem dX9_leavers_1 : decode cX9_leavers 1 = .ok (.istore_n 1, 1) := by decide +kernel
theorem dX9_leavers_2 : decode cX9_leavers 2 = .ok (.iconst 0, 1) := by decide +kernel
theorem dX9_leavers_3 : decode cX9_leavers 3 = .ok (.istore_n 2, 1) := by decide +kernel
theorem dX9_leavers_4 : decode cX9_leavers 4 = .ok (.iload_n 2, 1) := by decide +kernel
theorem dX9_leavers_5 : decode cX9_leavers 5 = .ok (.aload_n 0, 1) := by decide +kernel
theorem dX9_leavers_6 : decode cX9_leavers 6 = .ok (.iconst 5, 1) := by decide +kernel
theorem dX9_leavers_7 : decode cX9_leavers 7 = .ok (.iaload, 1) := by decide +kernel
theorem dX9_leavers_8 : decode cX9_leavers 8 = .ok (.if_icmp .ge 50, 3) := by decide +kernel
theorem dX9_leavers_11 : decode cX9_leavers 11 = .ok (.aload_n 0, 1) := by decide +kernel
theorem dX9_leavers_12 : decode cX9_leavers 12 = .ok (.bipush 21, 2) := by decide +kernel
theorem dX9_leavers_14 : decode cX9_leavers 14 = .ok (.bipush 6, 2) := by decide +kernel
theorem dX9_leavers_16 : decode cX9_leavers 16 = .ok (.iload_n 2, 1) := by decide +kernel
theorem dX9_leavers_17 : decode cX9_leavers 17 = .ok (.imul, 1) := by decide +kernel
theorem dX9_leavers_18 : decode cX9_leavers 18 = .ok (.iadd, 1) := by decide +kernel
theorem dX9_leavers_19 : decode cX9_leavers 19 = .ok (.iconst 2, 1) := by decide +kernel
theorem dX9_leavers_20 : decode cX9_leavers 20 = .ok (.iadd, 1) := by decide +kernel
theorem dX9_leavers_21 : decode cX9_leavers 21 = .ok (.iaload, 1) := by decide +kernel
theorem dX9_leavers_22 : decode cX9_leavers 22 = .ok (.istore_n 3, 1) := by decide +kernel
theorem dX9_leavers_23 : decode cX9_leavers 23 = .ok (.iload_n 1, 1) := by decide +kernel
theorem dX9_leavers_24 : decode cX9_leavers 24 = .ok (.aload_n 0, 1) := by decide +kernel
theorem dX9_leavers_25 : decode cX9_leavers 25 = .ok (.iload_n 2, 1) := by decide +kernel
theorem dX9_leavers_26 : decode cX9_leavers 26 = .ok (.invokestatic 155, 3) := by decide +kernel
theorem dX9_leavers_29 : decode cX9_leavers 29 = .ok (.ifCond .eq 20, 3) := by decide +kernel
theorem dX9_leavers_32 : decode cX9_leavers 32 = .ok (.iload_n 3, 1) := by decide +kernel
theorem dX9_leavers_33 : decode cX9_leavers 33 = .ok (.ifCond .le 16, 3) := by decide +kernel
theorem dX9_leavers_36 : decode cX9_leavers 36 = .ok (.iload_n 3, 1) := by decide +kernel
theorem dX9_leavers_37 : decode cX9_leavers 37 = .ok (.aload_n 0, 1) := by decide +kernel
theorem dX9_leavers_38 : decode cX9_leavers 38 = .ok (.iconst 4, 1) := by decide +kernel
theorem dX9_leavers_39 : decode cX9_leavers 39 = .ok (.iaload, 1) := by decide +kernel
theorem dX9_leavers_40 : decode cX9_leavers 40 = .ok (.if_icmp .gt 9, 3) := by decide +kernel
theorem dX9_leavers_43 : decode cX9_leavers 43 = .ok (.iconst 1, 1) := by decide +kernel
theorem dX9_leavers_44 : decode cX9_leavers 44 = .ok (.iload_n 2, 1) := by decide +kernel
theorem dX9_leavers_45 : decode cX9_leavers 45 = .ok (.ishl, 1) := by decide +kernel
theorem dX9_leavers_46 : decode cX9_leavers 46 = .ok (.goto 4, 3) := by decide +kernel
theorem dX9_leavers_49 : decode cX9_leavers 49 = .ok (.iconst 0, 1) := by decide +kernel
theorem dX9_leavers_50 : decode cX9_leavers 50 = .ok (.ior, 1) := by decide +kernel
theorem dX9_leavers_51 : decode cX9_leavers 51 = .ok (.istore_n 1, 1) := by decide +kernel
theorem dX9_leavers_52 : decode cX9_leavers 52 = .ok (.iinc 2 1, 3) := by decide +kernel
theorem dX9_leavers_55 : decode cX9_leavers 55 = .ok (.goto (-51), 3) := by decide +kernel
theorem dX9_leavers_58 : decode cX9_leavers 58 = .ok (.iload_n 1, 1) := by decide +kernel
theorem dX9_leavers_59 : decode cX9_leavers 59 = .ok (.ireturn, 1) := by decide +kernel
theorem dX9_passes_0 : decode cX9_passes 0 = .ok (.iconst 0, 1) := by decide +kernel
theorem dX9_passes_1 : decode cX9_passes 1 = .ok (.istore_n 1, 1) := by decide +kernel
theorem dX9_passes_2 : decode cX9_passes 2 = .ok (.aload_n 0, 1) := by decide +kernel
theorem dX9_passes_3 : decode cX9_passes 3 = .ok (.bipush 11, 2) := by decide +kernel
theorem dX9_passes_5 : decode cX9_passes 5 = .ok (.aload_n 0, 1) := by decide +kernel
theorem dX9_passes_6 : decode cX9_passes 6 = .ok (.bipush 6, 2) := by decide +kernel
theorem dX9_passes_8 : decode cX9_passes 8 = .ok (.aload_n 0, 1) := by decide +kernel
theorem dX9_passes_9 : decode cX9_passes 9 = .ok (.iconst 3, 1) := by decide +kernel
theorem dX9_passes_10 : decode cX9_passes 10 = .ok (.iaload, 1) := by decide +kernel
theorem dX9_passes_11 : decode cX9_passes 11 = .ok (.iadd, 1) := by decide +kernel
theorem dX9_passes_12 : decode cX9_passes 12 = .ok (.iaload, 1) := by decide +kernel
theorem dX9_passes_13 : decode cX9_passes 13 = .ok (.iadd, 1) := by decide +kernel
theorem dX9_passes_14 : decode cX9_passes 14 = .ok (.iaload, 1) := by decide +kernel
theorem dX9_passes_15 : decode cX9_passes 15 = .ok (.istore_n 2, 1) := by decide +kernel
theorem dX9_passes_16 : decode cX9_passes 16 = .ok (.iconst 0, 1) := by decide +kernel
theorem dX9_passes_17 : decode cX9_passes 17 = .ok (.istore_n 3, 1) := by decide +kernel
theorem dX9_passes_18 : decode cX9_passes 18 = .ok (.iload_n 3, 1) := by decide +kernel
theorem dX9_passes_19 : decode cX9_passes 19 = .ok (.aload_n 0, 1) := by decide +kernel
theorem dX9_passes_20 : decode cX9_passes 20 = .ok (.iconst 5, 1) := by decide +kernel
theorem dX9_passes_21 : decode cX9_passes 21 = .ok (.iaload, 1) := by decide +kernel
theorem dX9_passes_22 : decode cX9_passes 22 = .ok (.if_icmp .ge 100, 3) := by decide +kernel
theorem dX9_passes_25 : decode cX9_passes 25 = .ok (.aload_n 0, 1) := by decide +kernel
theorem dX9_passes_26 : decode cX9_passes 26 = .ok (.bipush 21, 2) := by decide +kernel
theorem dX9_passes_28 : decode cX9_passes 28 = .ok (.bipush 6, 2) := by decide +kernel
theorem dX9_passes_30 : decode cX9_passes 30 = .ok (.iload_n 3, 1) := by decide +kernel
theorem dX9_passes_31 : decode cX9_passes 31 = .ok (.imul, 1) := by decide +kernel
theorem dX9_passes_32 : decode cX9_passes 32 = .ok (.iadd, 1) := by decide +kernel
theorem dX9_passes_33 : decode cX9_passes 33 = .ok (.iconst 1, 1) := by decide +kernel
theorem dX9_passes_34 : decode cX9_passes 34 = .ok (.iadd, 1) := by decide +kernel
theorem dX9_passes_35 : decode cX9_passes 35 = .ok (.iaload, 1) := by decide +kernel
theorem dX9_passes_36 : decode cX9_passes 36 = .ok (.istore 4, 2) := by decide +kernel
theorem dX9_passes_38 : decode cX9_passes 38 = .ok (.aload_n 0, 1) := by decide +kernel
theorem dX9_passes_39 : decode cX9_passes 39 = .ok (.iload_n 3, 1) := by decide +kernel
theorem dX9_passes_40 : decode cX9_passes 40 = .ok (.invokestatic 144, 3) := by decide +kernel
theorem dX9_passes_43 : decode cX9_passes 43 = .ok (.ifCond .eq 14, 3) := by decide +kernel
theorem dX9_passes_46 : decode cX9_passes 46 = .ok (.iload 4, 2) := by decide +kernel
theorem dX9_passes_48 : decode cX9_passes 48 = .ok (.aload_n 0, 1) := by decide +kernel
theorem dX9_passes_49 : decode cX9_passes 49 = .ok (.iload_n 3, 1) := by decide +kernel
theorem dX9_passes_50 : decode cX9_passes 50 = .ok (.invokestatic 158, 3) := by decide +kernel
theorem dX9_passes_53 : decode cX9_passes 53 = .ok (.isub, 1) := by decide +kernel
theorem dX9_passes_54 : decode cX9_passes 54 = .ok (.goto 5, 3) := by decide +kernel
theorem dX9_passes_57 : decode cX9_passes 57 = .ok (.iload 4, 2) := by decide +kernel
theorem dX9_passes_59 : decode cX9_passes 59 = .ok (.istore 5, 2) := by decide +kernel
theorem dX9_passes_61 : decode cX9_passes 61 = .ok (.aload_n 0, 1) := by decide +kernel
theorem dX9_passes_62 : decode cX9_passes 62 = .ok (.bipush 21, 2) := by decide +kernel
theorem dX9_passes_64 : decode cX9_passes 64 = .ok (.bipush 6, 2) := by decide +kernel
theorem dX9_passes_66 : decode cX9_passes 66 = .ok (.iload_n 3, 1) := by decide +kernel
theorem dX9_passes_67 : decode cX9_passes 67 = .ok (.imul, 1) := by decide +kernel
theorem dX9_passes_68 : decode cX9_passes 68 = .ok (.iadd, 1) := by decide +kernel
theorem dX9_passes_69 : decode cX9_passes 69 = .ok (.iconst 1, 1) := by decide +kernel
theorem dX9_passes_70 : decode cX9_passes 70 = .ok (.iadd, 1) := by decide +kernel
theorem dX9_passes_71 : decode cX9_passes 71 = .ok (.iload 5, 2) := by decide +kernel
theorem dX9_passes_73 : decode cX9_passes 73 = .ok (.ifCond .ge 7, 3) := by decide +kernel
theorem dX9_passes_76 : decode cX9_passes 76 = .ok (.iconst 0, 1) := by decide +kernel
theorem dX9_passes_77 : decode cX9_passes 77 = .ok (.goto 5, 3) := by decide +kernel
theorem dX9_passes_80 : decode cX9_passes 80 = .ok (.iload 5, 2) := by decide +kernel
theorem dX9_passes_82 : decode cX9_passes 82 = .ok (.iastore, 1) := by decide +kernel
theorem dX9_passes_83 : decode cX9_passes 83 = .ok (.iload_n 1, 1) := by decide +kernel
theorem dX9_passes_84 : decode cX9_passes 84 = .ok (.aload_n 0, 1) := by decide +kernel
theorem dX9_passes_85 : decode cX9_passes 85 = .ok (.iload_n 3, 1) := by decide +kernel
theorem dX9_passes_86 : decode cX9_passes 86 = .ok (.invokestatic 155, 3) := by decide +kernel
theorem dX9_passes_89 : decode cX9_passes 89 = .ok (.ifCond .eq 24, 3) := by decide +kernel
theorem dX9_passes_92 : decode cX9_passes 92 = .ok (.aload_n 0, 1) := by decide +kernel
theorem dX9_passes_93 : decode cX9_passes 93 = .ok (.bipush 21, 2) := by decide +kernel
theorem dX9_passes_95 : decode cX9_passes 95 = .ok (.bipush 6, 2) := by decide +kernel
theorem dX9_passes_97 : decode cX9_passes 97 = .ok (.iload_n 3, 1) := by decide +kernel
theorem dX9_passes_98 : decode cX9_passes 98 = .ok (.imul, 1) := by decide +kernel
theorem dX9_passes_99 : decode cX9_passes 99 = .ok (.iadd, 1) := by decide +kernel
theorem dX9_passes_100 : decode cX9_passes 100 = .ok (.iconst 1, 1) := by decide +kernel
theorem dX9_passes_101 : decode cX9_passes 101 = .ok (.iadd, 1) := by decide +kernel
theorem dX9_passes_102 : decode cX9_passes 102 = .ok (.iaload, 1) := by decide +kernel
theorem dX9_passes_103 : decode cX9_passes 103 = .ok (.iload_n 2, 1) := by decide +kernel
theorem dX9_passes_104 : decode cX9_passes 104 = .ok (.if_icmp .ge 9, 3) := by decide +kernel
theorem dX9_passes_107 : decode cX9_passes 107 = .ok (.iconst 1, 1) := by decide +kernel
theorem dX9_passes_108 : decode cX9_passes 108 = .ok (.iload_n 3, 1) := by decide +kernel
theorem dX9_passes_109 : decode cX9_passes 109 = .ok (.ishl, 1) := by decide +kernel
theorem dX9_passes_110 : decode cX9_passes 110 = .ok (.goto 4, 3) := by decide +kernel
theorem dX9_passes_113 : decode cX9_passes 113 = .ok (.iconst 0, 1) := by decide +kernel
theorem dX9_passes_114 : decode cX9_passes 114 = .ok (.ior, 1) := by decide +kernel
theorem dX9_passes_115 : decode cX9_passes 115 = .ok (.istore_n 1, 1) := by decide +kernel
theorem dX9_passes_116 : decode cX9_passes 116 = .ok (.iinc 3 1, 3) := by decide +kernel
theorem dX9_passes_119 : decode cX9_passes 119 = .ok (.goto (-101), 3) := by decide +kernel
theorem dX9_passes_122 : decode cX9_passes 122 = .ok (.aload_n 0, 1) := by decide +kernel
theorem dX9_passes_123 : decode cX9_passes 123 = .ok (.iload_n 1, 1) := by decide +kernel
theorem dX9_passes_124 : decode cX9_passes 124 = .ok (.invokestatic 162, 3) := by decide +kernel
theorem dX9_passes_127 : decode cX9_passes 127 = .ok (.aload_n 0, 1) := by decide +kernel
theorem dX9_passes_128 : decode cX9_passes 128 = .ok (.invokestatic 166, 3) := by decide +kernel
theorem dX9_passes_131 : decode cX9_passes 131 = .ok (.istore_n 3, 1) := by decide +kernel
theorem dX9_passes_132 : decode cX9_passes 132 = .ok (.iload_n 3, 1) := by decide +kernel
theorem dX9_passes_133 : decode cX9_passes 133 = .ok (.ifCond .eq 16, 3) := by decide +kernel
theorem dX9_passes_136 : decode cX9_passes 136 = .ok (.aload_n 0, 1) := by decide +kernel
theorem dX9_passes_137 : decode cX9_passes 137 = .ok (.iload_n 3, 1) := by decide +kernel
theorem dX9_passes_138 : decode cX9_passes 138 = .ok (.invokestatic 162, 3) := by decide +kernel
theorem dX9_passes_141 : decode cX9_passes 141 = .ok (.aload_n 0, 1) := by decide +kernel
theorem dX9_passes_142 : decode cX9_passes 142 = .ok (.invokestatic 166, 3) := by decide +kernel
theorem dX9_passes_145 : decode cX9_passes 145 = .ok (.istore_n 3, 1) := by decide +kernel
theorem dX9_passes_146 : decode cX9_passes 146 = .ok (.goto (-14), 3) := by decide +kernel
theorem dX9_passes_149 : decode cX9_passes 149 = .ok (.aload_n 0, 1) := by decide +kernel
theorem dX9_passes_150 : decode cX9_passes 150 = .ok (.iconst 3, 1) := by decide +kernel
theorem dX9_passes_151 : decode cX9_passes 151 = .ok (.dup2, 1) := by decide +kernel
theorem dX9_passes_152 : decode cX9_passes 152 = .ok (.iaload, 1) := by decide +kernel
theorem dX9_passes_153 : decode cX9_passes 153 = .ok (.iconst 1, 1) := by decide +kernel
theorem dX9_passes_154 : decode cX9_passes 154 = .ok (.iadd, 1) := by decide +kernel
theorem dX9_passes_155 : decode cX9_passes 155 = .ok (.iastore, 1) := by decide +kernel
theorem dX9_passes_156 : decode cX9_passes 156 = .ok (.return_, 1) := by decide +kernel
theorem dX9_ends_0 : decode cX9_ends 0 = .ok (.aload_n 0, 1) := by decide +kernel
theorem dX9_ends_1 : decode cX9_ends 1 = .ok (.getfield 31, 3) := by decide +kernel
theorem dX9_ends_4 : decode cX9_ends 4 = .ok (.invokestatic 170, 3) := by decide +kernel
theorem dX9_ends_7 : decode cX9_ends 7 = .ok (.ifCond .le 13, 3) := by decide +kernel
theorem dX9_ends_10 : decode cX9_ends 10 = .ok (.aload_n 0, 1) := by decide +kernel
theorem dX9_ends_11 : decode cX9_ends 11 = .ok (.getfield 31, 3) := by decide +kernel
theorem dX9_ends_14 : decode cX9_ends 14 = .ok (.invokestatic 173, 3) := by decide +kernel
theorem dX9_ends_17 : decode cX9_ends 17 = .ok (.goto (-17), 3) := by decide +kernel
theorem dX9_ends_20 : decode cX9_ends 20 = .ok (.aload_n 0, 1) := by decide +kernel
theorem dX9_ends_21 : decode cX9_ends 21 = .ok (.getfield 31, 3) := by decide +kernel
theorem dX9_ends_24 : decode cX9_ends 24 = .ok (.invokestatic 177, 3) := by decide +kernel
theorem dX9_ends_27 : decode cX9_ends 27 = .ok (.ireturn, 1) := by decide +kernel
theorem dX9_tries_0 : decode cX9_tries 0 = .ok (.aload_n 0, 1) := by decide +kernel
theorem dX9_tries_1 : decode cX9_tries 1 = .ok (.getfield 25, 3) := by decide +kernel
theorem dX9_tries_4 : decode cX9_tries 4 = .ok (.iconst 0, 1) := by decide +kernel
theorem dX9_tries_5 : decode cX9_tries 5 = .ok (.aload_n 0, 1) := by decide +kernel
theorem dX9_tries_6 : decode cX9_tries 6 = .ok (.getfield 31, 3) := by decide +kernel
theorem dX9_tries_9 : decode cX9_tries 9 = .ok (.iconst 0, 1) := by decide +kernel
theorem dX9_tries_10 : decode cX9_tries 10 = .ok (.invokestatic 137, 3) := by decide +kernel
theorem dX9_tries_13 : decode cX9_tries 13 = .ok (.return_, 1) := by decide +kernel
theorem dX9_eats_0 : decode cX9_eats 0 = .ok (.aload_n 0, 1) := by decide +kernel
theorem dX9_eats_1 : decode cX9_eats 1 = .ok (.bipush 21, 2) := by decide +kernel
theorem dX9_eats_3 : decode cX9_eats 3 = .ok (.bipush 6, 2) := by decide +kernel
theorem dX9_eats_5 : decode cX9_eats 5 = .ok (.iload_n 1, 1) := by decide +kernel
theorem dX9_eats_6 : decode cX9_eats 6 = .ok (.imul, 1) := by decide +kernel
theorem dX9_eats_7 : decode cX9_eats 7 = .ok (.iadd, 1) := by decide +kernel
theorem dX9_eats_8 : decode cX9_eats 8 = .ok (.iconst 1, 1) := by decide +kernel
theorem dX9_eats_9 : decode cX9_eats 9 = .ok (.iadd, 1) := by decide +kernel
theorem dX9_eats_10 : decode cX9_eats 10 = .ok (.iaload, 1) := by decide +kernel
theorem dX9_eats_11 : decode cX9_eats 11 = .ok (.aload_n 0, 1) := by decide +kernel
theorem dX9_eats_12 : decode cX9_eats 12 = .ok (.iconst 0, 1) := by decide +kernel
theorem dX9_eats_13 : decode cX9_eats 13 = .ok (.iaload, 1) := by decide +kernel
theorem dX9_eats_14 : decode cX9_eats 14 = .ok (.iadd, 1) := by decide +kernel
theorem dX9_eats_15 : decode cX9_eats 15 = .ok (.istore_n 2, 1) := by decide +kernel
theorem dX9_eats_16 : decode cX9_eats 16 = .ok (.aload_n 0, 1) := by decide +kernel
theorem dX9_eats_17 : decode cX9_eats 17 = .ok (.bipush 21, 2) := by decide +kernel
theorem dX9_eats_19 : decode cX9_eats 19 = .ok (.bipush 6, 2) := by decide +kernel
theorem dX9_eats_21 : decode cX9_eats 21 = .ok (.iload_n 1, 1) := by decide +kernel
theorem dX9_eats_22 : decode cX9_eats 22 = .ok (.imul, 1) := by decide +kernel
theorem dX9_eats_23 : decode cX9_eats 23 = .ok (.iadd, 1) := by decide +kernel
theorem dX9_eats_24 : decode cX9_eats 24 = .ok (.iconst 1, 1) := by decide +kernel
theorem dX9_eats_25 : decode cX9_eats 25 = .ok (.iadd, 1) := by decide +kernel
theorem dX9_eats_26 : decode cX9_eats 26 = .ok (.iload_n 2, 1) := by decide +kernel
theorem dX9_eats_27 : decode cX9_eats 27 = .ok (.bipush 30, 2) := by decide +kernel
theorem dX9_eats_29 : decode cX9_eats 29 = .ok (.if_icmp .le 8, 3) := by decide +kernel
theorem dX9_eats_32 : decode cX9_eats 32 = .ok (.bipush 30, 2) := by decide +kernel
theorem dX9_eats_34 : decode cX9_eats 34 = .ok (.goto 4, 3) := by decide +kernel
theorem dX9_eats_37 : decode cX9_eats 37 = .ok (.iload_n 2, 1) := by decide +kernel
theorem dX9_eats_38 : decode cX9_eats 38 = .ok (.iastore, 1) := by decide +kernel
theorem dX9_eats_39 : decode cX9_eats 39 = .ok (.return_, 1) := by decide +kernel
theorem dX9_notes_0 : decode cX9_notes 0 = .ok (.aload_n 0, 1) := by decide +kernel
theorem dX9_notes_1 : decode cX9_notes 1 = .ok (.getfield 141, 3) := by decide +kernel
theorem dX9_notes_4 : decode cX9_notes 4 = .ok (.bipush 24, 2) := by decide +kernel
theorem dX9_notes_6 : decode cX9_notes 6 = .ok (.if_icmp .ne 43, 3) := by decide +kernel
theorem dX9_notes_9 : decode cX9_notes 9 = .ok (.iconst 0, 1) := by decide +kernel
theorem dX9_notes_10 : decode cX9_notes 10 = .ok (.istore_n 1, 1) := by decide +kernel
theorem dX9_notes_11 : decode cX9_notes 11 = .ok (.iload_n 1, 1) := by decide +kernel
theorem dX9_notes_12 : decode cX9_notes 12 = .ok (.sipush 1311, 3) := by decide +kernel
theorem dX9_notes_15 : decode cX9_notes 15 = .ok (.if_icmp .ge 24, 3) := by decide +kernel
theorem dX9_notes_18 : decode cX9_notes 18 = .ok (.aload_n 0, 1) := by decide +kernel
theorem dX9_notes_19 : decode cX9_notes 19 = .ok (.getfield 34, 3) := by decide +kernel
theorem dX9_notes_22 : decode cX9_notes 22 = .ok (.iload_n 1, 1) := by decide +kernel
theorem dX9_notes_23 : decode cX9_notes 23 = .ok (.aload_n 0, 1) := by decide +kernel
theorem dX9_notes_24 : decode cX9_notes 24 = .ok (.getfield 34, 3) := by decide +kernel
theorem dX9_notes_27 : decode cX9_notes 27 = .ok (.iload_n 1, 1) := by decide +kernel
theorem dX9_notes_28 : decode cX9_notes 28 = .ok (.bipush 57, 2) := by decide +kernel
theorem dX9_notes_30 : decode cX9_notes 30 = .ok (.iadd, 1) := by decide +kernel
theorem dX9_notes_31 : decode cX9_notes 31 = .ok (.iaload, 1) := by decide +kernel
theorem dX9_notes_32 : decode cX9_notes 32 = .ok (.iastore, 1) := by decide +kernel
theorem dX9_notes_33 : decode cX9_notes 33 = .ok (.iinc 1 1, 3) := by decide +kernel
theorem dX9_notes_36 : decode cX9_notes 36 = .ok (.goto (-25), 3) := by decide +kernel
theorem dX9_notes_39 : decode cX9_notes 39 = .ok (.aload_n 0, 1) := by decide +kernel
theorem dX9_notes_40 : decode cX9_notes 40 = .ok (.dup, 1) := by decide +kernel
theorem dX9_notes_41 : decode cX9_notes 41 = .ok (.getfield 141, 3) := by decide +kernel
theorem dX9_notes_44 : decode cX9_notes 44 = .ok (.iconst 1, 1) := by decide +kernel
theorem dX9_notes_45 : decode cX9_notes 45 = .ok (.isub, 1) := by decide +kernel
theorem dX9_notes_46 : decode cX9_notes 46 = .ok (.putfield 141, 3) := by decide +kernel
theorem dX9_notes_49 : decode cX9_notes 49 = .ok (.aload_n 0, 1) := by decide +kernel
theorem dX9_notes_50 : decode cX9_notes 50 = .ok (.getfield 25, 3) := by decide +kernel
theorem dX9_notes_53 : decode cX9_notes 53 = .ok (.iconst 0, 1) := by decide +kernel
theorem dX9_notes_54 : decode cX9_notes 54 = .ok (.aload_n 0, 1) := by decide +kernel
theorem dX9_notes_55 : decode cX9_notes 55 = .ok (.getfield 34, 3) := by decide +kernel
theorem dX9_notes_58 : decode cX9_notes 58 = .ok (.bipush 57, 2) := by decide +kernel
theorem dX9_notes_60 : decode cX9_notes 60 = .ok (.aload_n 0, 1) := by decide +kernel
theorem dX9_notes_61 : decode cX9_notes 61 = .ok (.getfield 141, 3) := by decide +kernel
theorem dX9_notes_64 : decode cX9_notes 64 = .ok (.imul, 1) := by decide +kernel
theorem dX9_notes_65 : decode cX9_notes 65 = .ok (.invokestatic 137, 3) := by decide +kernel
theorem dX9_notes_68 : decode cX9_notes 68 = .ok (.aload_n 0, 1) := by decide +kernel
theorem dX9_notes_69 : decode cX9_notes 69 = .ok (.dup, 1) := by decide +kernel
theorem dX9_notes_70 : decode cX9_notes 70 = .ok (.getfield 141, 3) := by decide +kernel
theorem dX9_notes_73 : decode cX9_notes 73 = .ok (.iconst 1, 1) := by decide +kernel
theorem dX9_notes_74 : decode cX9_notes 74 = .ok (.iadd, 1) := by decide +kernel
theorem dX9_notes_75 : decode cX9_notes 75 = .ok (.putfield 141, 3) := by decide +kernel
theorem dX9_notes_78 : decode cX9_notes 78 = .ok (.return_, 1) := by decide +kernel
theorem dX9_fly_0 : decode cX9_fly 0 = .ok (.aload_n 0, 1) := by decide +kernel
theorem dX9_fly_1 : decode cX9_fly 1 = .ok (.invokevirtual 180, 3) := by decide +kernel
theorem dX9_fly_4 : decode cX9_fly 4 = .ok (.ifCond .eq 13, 3) := by decide +kernel
theorem dX9_fly_7 : decode cX9_fly 7 = .ok (.aload_n 0, 1) := by decide +kernel
theorem dX9_fly_8 : decode cX9_fly 8 = .ok (.getfield 25, 3) := by decide +kernel
theorem dX9_fly_11 : decode cX9_fly 11 = .ok (.invokestatic 170, 3) := by decide +kernel
theorem dX9_fly_14 : decode cX9_fly 14 = .ok (.ifCond .ne 6, 3) := by decide +kernel
theorem dX9_fly_17 : decode cX9_fly 17 = .ok (.ldc 183, 2) := by decide +kernel
theorem dX9_fly_19 : decode cX9_fly 19 = .ok (.ireturn, 1) := by decide +kernel
theorem dX9_fly_20 : decode cX9_fly 20 = .ok (.aload_n 0, 1) := by decide +kernel
theorem dX9_fly_21 : decode cX9_fly 21 = .ok (.invokevirtual 184, 3) := by decide +kernel
theorem dX9_fly_24 : decode cX9_fly 24 = .ok (.aload_n 0, 1) := by decide +kernel
theorem dX9_fly_25 : decode cX9_fly 25 = .ok (.getfield 25, 3) := by decide +kernel
theorem dX9_fly_28 : decode cX9_fly 28 = .ok (.invokestatic 173, 3) := by decide +kernel
theorem dX9_fly_31 : decode cX9_fly 31 = .ok (.aload_n 0, 1) := by decide +kernel
theorem dX9_fly_32 : decode cX9_fly 32 = .ok (.getfield 25, 3) := by decide +kernel
theorem dX9_fly_35 : decode cX9_fly 35 = .ok (.invokestatic 177, 3) := by decide +kernel
theorem dX9_fly_38 : decode cX9_fly 38 = .ok (.ireturn, 1) := by decide +kernel
theorem dX9_eat_0 : decode cX9_eat 0 = .ok (.aload_n 0, 1) := by decide +kernel
theorem dX9_eat_1 : decode cX9_eat 1 = .ok (.iload_n 1, 1) := by decide +kernel
theorem dX9_eat_2 : decode cX9_eat 2 = .ok (.invokevirtual 187, 3) := by decide +kernel
theorem dX9_eat_5 : decode cX9_eat 5 = .ok (.ifCond .ne 6, 3) := by decide +kernel
theorem dX9_eat_8 : decode cX9_eat 8 = .ok (.ldc 67, 2) := by decide +kernel
theorem dX9_eat_10 : decode cX9_eat 10 = .ok (.ireturn, 1) := by decide +kernel
theorem dX9_eat_11 : decode cX9_eat 11 = .ok (.aload_n 0, 1) := by decide +kernel
theorem dX9_eat_12 : decode cX9_eat 12 = .ok (.invokevirtual 184, 3) := by decide +kernel
theorem dX9_eat_15 : decode cX9_eat 15 = .ok (.aload_n 0, 1) := by decide +kernel
theorem dX9_eat_16 : decode cX9_eat 16 = .ok (.getfield 25, 3) := by decide +kernel
theorem dX9_eat_19 : decode cX9_eat 19 = .ok (.iload_n 1, 1) := by decide +kernel
theorem dX9_eat_20 : decode cX9_eat 20 = .ok (.invokestatic 190, 3) := by decide +kernel
theorem dX9_eat_23 : decode cX9_eat 23 = .ok (.aload_n 0, 1) := by decide +kernel
theorem dX9_eat_24 : decode cX9_eat 24 = .ok (.getfield 25, 3) := by decide +kernel
theorem dX9_eat_27 : decode cX9_eat 27 = .ok (.bipush 21, 2) := by decide +kernel
theorem dX9_eat_29 : decode cX9_eat 29 = .ok (.bipush 6, 2) := by decide +kernel
theorem dX9_eat_31 : decode cX9_eat 31 = .ok (.iload_n 1, 1) := by decide +kernel
theorem dX9_eat_32 : decode cX9_eat 32 = .ok (.imul, 1) := by decide +kernel
theorem dX9_eat_33 : decode cX9_eat 33 = .ok (.iadd, 1) := by decide +kernel
theorem dX9_eat_34 : decode cX9_eat 34 = .ok (.iconst 1, 1) := by decide +kernel
theorem dX9_eat_35 : decode cX9_eat 35 = .ok (.iadd, 1) := by decide +kernel
theorem dX9_eat_36 : decode cX9_eat 36 = .ok (.iaload, 1) := by decide +kernel
theorem dX9_eat_37 : decode cX9_eat 37 = .ok (.ireturn, 1) := by decide +kernel
theorem dX9_keptIn_0 : decode cX9_keptIn 0 = .ok (.iconst 0, 1) := by decide +kernel
theorem dX9_keptIn_1 : decode cX9_keptIn 1 = .ok (.istore_n 1, 1) := by decide +kernel
theorem dX9_keptIn_2 : decode cX9_keptIn 2 = .ok (.iconst 0, 1) := by decide +kernel
theorem dX9_keptIn_3 : decode cX9_keptIn 3 = .ok (.istore_n 2, 1) := by decide +kernel
theorem dX9_keptIn_4 : decode cX9_keptIn 4 = .ok (.iload_n 2, 1) := by decide +kernel
theorem dX9_keptIn_5 : decode cX9_keptIn 5 = .ok (.aload_n 0, 1) := by decide +kernel
theorem dX9_keptIn_6 : decode cX9_keptIn 6 = .ok (.iconst 5, 1) := by decide +kernel
theorem dX9_keptIn_7 : decode cX9_keptIn 7 = .ok (.iaload, 1) := by decide +kernel
theorem dX9_keptIn_8 : decode cX9_keptIn 8 = .ok (.if_icmp .ge 25, 3) := by decide +kernel
theorem dX9_keptIn_11 : decode cX9_keptIn 11 = .ok (.iload_n 1, 1) := by decide +kernel
theorem dX9_keptIn_12 : decode cX9_keptIn 12 = .ok (.aload_n 0, 1) := by decide +kernel
theorem dX9_keptIn_13 : decode cX9_keptIn 13 = .ok (.bipush 21, 2) := by decide +kernel
theorem dX9_keptIn_15 : decode cX9_keptIn 15 = .ok (.bipush 6, 2) := by decide +kernel
theorem dX9_keptIn_17 : decode cX9_keptIn 17 = .ok (.iload_n 2, 1) := by decide +kernel
theorem dX9_keptIn_18 : decode cX9_keptIn 18 = .ok (.imul, 1) := by decide +kernel
theorem dX9_keptIn_19 : decode cX9_keptIn 19 = .ok (.iadd, 1) := by decide +kernel
theorem dX9_keptIn_20 : decode cX9_keptIn 20 = .ok (.iconst 5, 1) := by decide +kernel
theorem dX9_keptIn_21 : decode cX9_keptIn 21 = .ok (.iadd, 1) := by decide +kernel
theorem dX9_keptIn_22 : decode cX9_keptIn 22 = .ok (.iaload, 1) := by decide +kernel
theorem dX9_keptIn_23 : decode cX9_keptIn 23 = .ok (.iload_n 2, 1) := by decide +kernel
theorem dX9_keptIn_24 : decode cX9_keptIn 24 = .ok (.ishl, 1) := by decide +kernel
theorem dX9_keptIn_25 : decode cX9_keptIn 25 = .ok (.ior, 1) := by decide +kernel
theorem dX9_keptIn_26 : decode cX9_keptIn 26 = .ok (.istore_n 1, 1) := by decide +kernel
theorem dX9_keptIn_27 : decode cX9_keptIn 27 = .ok (.iinc 2 1, 3) := by decide +kernel
theorem dX9_keptIn_30 : decode cX9_keptIn 30 = .ok (.goto (-26), 3) := by decide +kernel
theorem dX9_keptIn_33 : decode cX9_keptIn 33 = .ok (.iload_n 1, 1) := by decide +kernel
theorem dX9_keptIn_34 : decode cX9_keptIn 34 = .ok (.ireturn, 1) := by decide +kernel
theorem dX9_keep_0 : decode cX9_keep 0 = .ok (.aload_n 0, 1) := by decide +kernel
theorem dX9_keep_1 : decode cX9_keep 1 = .ok (.iload_n 1, 1) := by decide +kernel
theorem dX9_keep_2 : decode cX9_keep 2 = .ok (.invokevirtual 187, 3) := by decide +kernel
theorem dX9_keep_5 : decode cX9_keep 5 = .ok (.ifCond .eq 12, 3) := by decide +kernel
theorem dX9_keep_8 : decode cX9_keep 8 = .ok (.iload_n 2, 1) := by decide +kernel
theorem dX9_keep_9 : decode cX9_keep 9 = .ok (.iconst 0, 1) := by decide +kernel
theorem dX9_keep_10 : decode cX9_keep 10 = .ok (.iconst 1, 1) := by decide +kernel
theorem dX9_keep_11 : decode cX9_keep 11 = .ok (.invokestatic 59, 3) := by decide +kernel
theorem dX9_keep_14 : decode cX9_keep 14 = .ok (.ifCond .ne 6, 3) := by decide +kernel
theorem dX9_keep_17 : decode cX9_keep 17 = .ok (.ldc 67, 2) := by decide +kernel
theorem dX9_keep_19 : decode cX9_keep 19 = .ok (.ireturn, 1) := by decide +kernel
theorem dX9_keep_20 : decode cX9_keep 20 = .ok (.aload_n 0, 1) := by decide +kernel
theorem dX9_keep_21 : decode cX9_keep 21 = .ok (.getfield 25, 3) := by decide +kernel
theorem dX9_keep_24 : decode cX9_keep 24 = .ok (.bipush 21, 2) := by decide +kernel
theorem dX9_keep_26 : decode cX9_keep 26 = .ok (.bipush 6, 2) := by decide +kernel
theorem dX9_keep_28 : decode cX9_keep 28 = .ok (.iload_n 1, 1) := by decide +kernel
theorem dX9_keep_29 : decode cX9_keep 29 = .ok (.imul, 1) := by decide +kernel
theorem dX9_keep_30 : decode cX9_keep 30 = .ok (.iadd, 1) := by decide +kernel
theorem dX9_keep_31 : decode cX9_keep 31 = .ok (.iconst 5, 1) := by decide +kernel
theorem dX9_keep_32 : decode cX9_keep 32 = .ok (.iadd, 1) := by decide +kernel
theorem dX9_keep_33 : decode cX9_keep 33 = .ok (.iaload, 1) := by decide +kernel
theorem dX9_keep_34 : decode cX9_keep 34 = .ok (.iload_n 2, 1) := by decide +kernel
theorem dX9_keep_35 : decode cX9_keep 35 = .ok (.if_icmp .ne 6, 3) := by decide +kernel
theorem dX9_keep_38 : decode cX9_keep 38 = .ok (.ldc 183, 2) := by decide +kernel
theorem dX9_keep_40 : decode cX9_keep 40 = .ok (.ireturn, 1) := by decide +kernel
theorem dX9_keep_41 : decode cX9_keep 41 = .ok (.aload_n 0, 1) := by decide +kernel
theorem dX9_keep_42 : decode cX9_keep 42 = .ok (.invokevirtual 184, 3) := by decide +kernel
theorem dX9_keep_45 : decode cX9_keep 45 = .ok (.aload_n 0, 1) := by decide +kernel
theorem dX9_keep_46 : decode cX9_keep 46 = .ok (.getfield 25, 3) := by decide +kernel
theorem dX9_keep_49 : decode cX9_keep 49 = .ok (.bipush 21, 2) := by decide +kernel
theorem dX9_keep_51 : decode cX9_keep 51 = .ok (.bipush 6, 2) := by decide +kernel
theorem dX9_keep_53 : decode cX9_keep 53 = .ok (.iload_n 1, 1) := by decide +kernel
theorem dX9_keep_54 : decode cX9_keep 54 = .ok (.imul, 1) := by decide +kernel
theorem dX9_keep_55 : decode cX9_keep 55 = .ok (.iadd, 1) := by decide +kernel
theorem dX9_keep_56 : decode cX9_keep 56 = .ok (.iconst 5, 1) := by decide +kernel
theorem dX9_keep_57 : decode cX9_keep 57 = .ok (.iadd, 1) := by decide +kernel
theorem dX9_keep_58 : decode cX9_keep 58 = .ok (.iload_n 2, 1) := by decide +kernel
theorem dX9_keep_59 : decode cX9_keep 59 = .ok (.iastore, 1) := by decide +kernel
theorem dX9_keep_60 : decode cX9_keep 60 = .ok (.aload_n 0, 1) := by decide +kernel
theorem dX9_keep_61 : decode cX9_keep 61 = .ok (.getfield 25, 3) := by decide +kernel
theorem dX9_keep_64 : decode cX9_keep 64 = .ok (.invokestatic 193, 3) := by decide +kernel
theorem dX9_keep_67 : decode cX9_keep 67 = .ok (.ireturn, 1) := by decide +kernel
theorem dX9_call_0 : decode cX9_call 0 = .ok (.aload_n 0, 1) := by decide +kernel
theorem dX9_call_1 : decode cX9_call 1 = .ok (.iload_n 1, 1) := by decide +kernel
theorem dX9_call_2 : decode cX9_call 2 = .ok (.invokevirtual 187, 3) := by decide +kernel
theorem dX9_call_5 : decode cX9_call 5 = .ok (.ifCond .ne 6, 3) := by decide +kernel
theorem dX9_call_8 : decode cX9_call 8 = .ok (.ldc 67, 2) := by decide +kernel
theorem dX9_call_10 : decode cX9_call 10 = .ok (.ireturn, 1) := by decide +kernel
theorem dX9_call_11 : decode cX9_call 11 = .ok (.aload_n 0, 1) := by decide +kernel
theorem dX9_call_12 : decode cX9_call 12 = .ok (.getfield 25, 3) := by decide +kernel
theorem dX9_call_15 : decode cX9_call 15 = .ok (.iload_n 1, 1) := by decide +kernel
theorem dX9_call_16 : decode cX9_call 16 = .ok (.invokestatic 144, 3) := by decide +kernel
theorem dX9_call_19 : decode cX9_call 19 = .ok (.ifCond .eq 6, 3) := by decide +kernel
theorem dX9_call_22 : decode cX9_call 22 = .ok (.ldc 183, 2) := by decide +kernel
theorem dX9_call_24 : decode cX9_call 24 = .ok (.ireturn, 1) := by decide +kernel
theorem dX9_call_25 : decode cX9_call 25 = .ok (.aload_n 0, 1) := by decide +kernel
theorem dX9_call_26 : decode cX9_call 26 = .ok (.invokevirtual 184, 3) := by decide +kernel
theorem dX9_call_29 : decode cX9_call 29 = .ok (.aload_n 0, 1) := by decide +kernel
theorem dX9_call_30 : decode cX9_call 30 = .ok (.getfield 25, 3) := by decide +kernel
theorem dX9_call_33 : decode cX9_call 33 = .ok (.bipush 21, 2) := by decide +kernel
theorem dX9_call_35 : decode cX9_call 35 = .ok (.bipush 6, 2) := by decide +kernel
theorem dX9_call_37 : decode cX9_call 37 = .ok (.iload_n 1, 1) := by decide +kernel
theorem dX9_call_38 : decode cX9_call 38 = .ok (.imul, 1) := by decide +kernel
theorem dX9_call_39 : decode cX9_call 39 = .ok (.iadd, 1) := by decide +kernel
theorem dX9_call_40 : decode cX9_call 40 = .ok (.iconst 4, 1) := by decide +kernel
theorem dX9_call_41 : decode cX9_call 41 = .ok (.iadd, 1) := by decide +kernel
theorem dX9_call_42 : decode cX9_call 42 = .ok (.iconst 1, 1) := by decide +kernel
theorem dX9_call_43 : decode cX9_call 43 = .ok (.iastore, 1) := by decide +kernel
theorem dX9_call_44 : decode cX9_call 44 = .ok (.aload_n 0, 1) := by decide +kernel
theorem dX9_call_45 : decode cX9_call 45 = .ok (.getfield 25, 3) := by decide +kernel
theorem dX9_call_48 : decode cX9_call 48 = .ok (.invokestatic 177, 3) := by decide +kernel
theorem dX9_call_51 : decode cX9_call 51 = .ok (.ireturn, 1) := by decide +kernel
theorem dX9_swap_0 : decode cX9_swap 0 = .ok (.aload_n 0, 1) := by decide +kernel
theorem dX9_swap_1 : decode cX9_swap 1 = .ok (.invokevirtual 180, 3) := by decide +kernel
theorem dX9_swap_4 : decode cX9_swap 4 = .ok (.ifCond .eq 14, 3) := by decide +kernel
theorem dX9_swap_7 : decode cX9_swap 7 = .ok (.aload_n 0, 1) := by decide +kernel
theorem dX9_swap_8 : decode cX9_swap 8 = .ok (.getfield 25, 3) := by decide +kernel
theorem dX9_swap_11 : decode cX9_swap 11 = .ok (.invokestatic 170, 3) := by decide +kernel
theorem dX9_swap_14 : decode cX9_swap 14 = .ok (.iconst 2, 1) := by decide +kernel
theorem dX9_swap_15 : decode cX9_swap 15 = .ok (.if_icmp .ge 6, 3) := by decide +kernel
theorem dX9_swap_18 : decode cX9_swap 18 = .ok (.ldc 183, 2) := by decide +kernel
theorem dX9_swap_20 : decode cX9_swap 20 = .ok (.ireturn, 1) := by decide +kernel
theorem dX9_swap_21 : decode cX9_swap 21 = .ok (.aload_n 0, 1) := by decide +kernel
theorem dX9_swap_22 : decode cX9_swap 22 = .ok (.invokevirtual 184, 3) := by decide +kernel
theorem dX9_swap_25 : decode cX9_swap 25 = .ok (.bipush 6, 2) := by decide +kernel
theorem dX9_swap_27 : decode cX9_swap 27 = .ok (.aload_n 0, 1) := by decide +kernel
theorem dX9_swap_28 : decode cX9_swap 28 = .ok (.getfield 25, 3) := by decide +kernel
theorem dX9_swap_31 : decode cX9_swap 31 = .ok (.iconst 3, 1) := by decide +kernel
theorem dX9_swap_32 : decode cX9_swap 32 = .ok (.iaload, 1) := by decide +kernel
theorem dX9_swap_33 : decode cX9_swap 33 = .ok (.iadd, 1) := by decide +kernel
theorem dX9_swap_34 : decode cX9_swap 34 = .ok (.istore_n 1, 1) := by decide +kernel
theorem dX9_swap_35 : decode cX9_swap 35 = .ok (.aload_n 0, 1) := by decide +kernel
theorem dX9_swap_36 : decode cX9_swap 36 = .ok (.getfield 25, 3) := by decide +kernel
theorem dX9_swap_39 : decode cX9_swap 39 = .ok (.iload_n 1, 1) := by decide +kernel
theorem dX9_swap_40 : decode cX9_swap 40 = .ok (.iaload, 1) := by decide +kernel
theorem dX9_swap_41 : decode cX9_swap 41 = .ok (.istore_n 2, 1) := by decide +kernel
theorem dX9_swap_42 : decode cX9_swap 42 = .ok (.aload_n 0, 1) := by decide +kernel
theorem dX9_swap_43 : decode cX9_swap 43 = .ok (.getfield 25, 3) := by decide +kernel
theorem dX9_swap_46 : decode cX9_swap 46 = .ok (.iload_n 1, 1) := by decide +kernel
theorem dX9_swap_47 : decode cX9_swap 47 = .ok (.aload_n 0, 1) := by decide +kernel
theorem dX9_swap_48 : decode cX9_swap 48 = .ok (.getfield 25, 3) := by decide +kernel
theorem dX9_swap_51 : decode cX9_swap 51 = .ok (.iload_n 1, 1) := by decide +kernel
theorem dX9_swap_52 : decode cX9_swap 52 = .ok (.iconst 1, 1) := by decide +kernel
theorem dX9_swap_53 : decode cX9_swap 53 = .ok (.iadd, 1) := by decide +kernel
theorem dX9_swap_54 : decode cX9_swap 54 = .ok (.iaload, 1) := by decide +kernel
theorem dX9_swap_55 : decode cX9_swap 55 = .ok (.iastore, 1) := by decide +kernel
theorem dX9_swap_56 : decode cX9_swap 56 = .ok (.aload_n 0, 1) := by decide +kernel
theorem dX9_swap_57 : decode cX9_swap 57 = .ok (.getfield 25, 3) := by decide +kernel
theorem dX9_swap_60 : decode cX9_swap 60 = .ok (.iload_n 1, 1) := by decide +kernel
theorem dX9_swap_61 : decode cX9_swap 61 = .ok (.iconst 1, 1) := by decide +kernel
theorem dX9_swap_62 : decode cX9_swap 62 = .ok (.iadd, 1) := by decide +kernel
theorem dX9_swap_63 : decode cX9_swap 63 = .ok (.iload_n 2, 1) := by decide +kernel
theorem dX9_swap_64 : decode cX9_swap 64 = .ok (.iastore, 1) := by decide +kernel
theorem dX9_swap_65 : decode cX9_swap 65 = .ok (.aload_n 0, 1) := by decide +kernel
theorem dX9_swap_66 : decode cX9_swap 66 = .ok (.getfield 25, 3) := by decide +kernel
theorem dX9_swap_69 : decode cX9_swap 69 = .ok (.iload_n 1, 1) := by decide +kernel
theorem dX9_swap_70 : decode cX9_swap 70 = .ok (.iaload, 1) := by decide +kernel
theorem dX9_swap_71 : decode cX9_swap 71 = .ok (.ireturn, 1) := by decide +kernel
theorem dX9_undo_0 : decode cX9_undo 0 = .ok (.aload_n 0, 1) := by decide +kernel
theorem dX9_undo_1 : decode cX9_undo 1 = .ok (.getfield 141, 3) := by decide +kernel
theorem dX9_undo_4 : decode cX9_undo 4 = .ok (.ifCond .ne 6, 3) := by decide +kernel
theorem dX9_undo_7 : decode cX9_undo 7 = .ok (.ldc 183, 2) := by decide +kernel
theorem dX9_undo_9 : decode cX9_undo 9 = .ok (.ireturn, 1) := by decide +kernel
theorem dX9_undo_10 : decode cX9_undo 10 = .ok (.aload_n 0, 1) := by decide +kernel
theorem dX9_undo_11 : decode cX9_undo 11 = .ok (.dup, 1) := by decide +kernel
theorem dX9_undo_12 : decode cX9_undo 12 = .ok (.getfield 141, 3) := by decide +kernel
theorem dX9_undo_15 : decode cX9_undo 15 = .ok (.iconst 1, 1) := by decide +kernel
theorem dX9_undo_16 : decode cX9_undo 16 = .ok (.isub, 1) := by decide +kernel
theorem dX9_undo_17 : decode cX9_undo 17 = .ok (.putfield 141, 3) := by decide +kernel
theorem dX9_undo_20 : decode cX9_undo 20 = .ok (.aload_n 0, 1) := by decide +kernel
theorem dX9_undo_21 : decode cX9_undo 21 = .ok (.getfield 34, 3) := by decide +kernel
theorem dX9_undo_24 : decode cX9_undo 24 = .ok (.bipush 57, 2) := by decide +kernel
theorem dX9_undo_26 : decode cX9_undo 26 = .ok (.aload_n 0, 1) := by decide +kernel
theorem dX9_undo_27 : decode cX9_undo 27 = .ok (.getfield 141, 3) := by decide +kernel
theorem dX9_undo_30 : decode cX9_undo 30 = .ok (.imul, 1) := by decide +kernel
theorem dX9_undo_31 : decode cX9_undo 31 = .ok (.aload_n 0, 1) := by decide +kernel
theorem dX9_undo_32 : decode cX9_undo 32 = .ok (.getfield 25, 3) := by decide +kernel
theorem dX9_undo_35 : decode cX9_undo 35 = .ok (.iconst 0, 1) := by decide +kernel
theorem dX9_undo_36 : decode cX9_undo 36 = .ok (.invokestatic 137, 3) := by decide +kernel
theorem dX9_undo_39 : decode cX9_undo 39 = .ok (.aload_n 0, 1) := by decide +kernel
theorem dX9_undo_40 : decode cX9_undo 40 = .ok (.getfield 141, 3) := by decide +kernel
theorem dX9_undo_43 : decode cX9_undo 43 = .ok (.ireturn, 1) := by decide +kernel
theorem dX9_bird_0 : decode cX9_bird 0 = .ok (.aload_n 0, 1) := by decide +kernel
theorem dX9_bird_1 : decode cX9_bird 1 = .ok (.iload_n 1, 1) := by decide +kernel
theorem dX9_bird_2 : decode cX9_bird 2 = .ok (.invokevirtual 187, 3) := by decide +kernel
theorem dX9_bird_5 : decode cX9_bird 5 = .ok (.ifCond .ne 6, 3) := by decide +kernel
theorem dX9_bird_8 : decode cX9_bird 8 = .ok (.ldc 67, 2) := by decide +kernel
theorem dX9_bird_10 : decode cX9_bird 10 = .ok (.ireturn, 1) := by decide +kernel
theorem dX9_bird_11 : decode cX9_bird 11 = .ok (.bipush 21, 2) := by decide +kernel
theorem dX9_bird_13 : decode cX9_bird 13 = .ok (.bipush 6, 2) := by decide +kernel
theorem dX9_bird_15 : decode cX9_bird 15 = .ok (.iload_n 1, 1) := by decide +kernel
theorem dX9_bird_16 : decode cX9_bird 16 = .ok (.imul, 1) := by decide +kernel
theorem dX9_bird_17 : decode cX9_bird 17 = .ok (.iadd, 1) := by decide +kernel
theorem dX9_bird_18 : decode cX9_bird 18 = .ok (.istore_n 3, 1) := by decide +kernel
theorem dX9_bird_19 : decode cX9_bird 19 = .ok (.iload_n 2, 1) := by decide +kernel
theorem dX9_bird_20 : decode cX9_bird 20 = .ok (.tableswitch 119 0 5 #[40, 49, 58, 67, 76, 85], 40) := by decide +kernel
theorem dX9_bird_60 : decode cX9_bird 60 = .ok (.aload_n 0, 1) := by decide +kernel
theorem dX9_bird_61 : decode cX9_bird 61 = .ok (.getfield 25, 3) := by decide +kernel
theorem dX9_bird_64 : decode cX9_bird 64 = .ok (.iload_n 3, 1) := by decide +kernel
theorem dX9_bird_65 : decode cX9_bird 65 = .ok (.iconst 1, 1) := by decide +kernel
theorem dX9_bird_66 : decode cX9_bird 66 = .ok (.iadd, 1) := by decide +kernel
theorem dX9_bird_67 : decode cX9_bird 67 = .ok (.iaload, 1) := by decide +kernel
theorem dX9_bird_68 : decode cX9_bird 68 = .ok (.ireturn, 1) := by decide +kernel
theorem dX9_bird_69 : decode cX9_bird 69 = .ok (.aload_n 0, 1) := by decide +kernel
theorem dX9_bird_70 : decode cX9_bird 70 = .ok (.getfield 25, 3) := by decide +kernel
theorem dX9_bird_73 : decode cX9_bird 73 = .ok (.iload_n 3, 1) := by decide +kernel
theorem dX9_bird_74 : decode cX9_bird 74 = .ok (.iconst 2, 1) := by decide +kernel
theorem dX9_bird_75 : decode cX9_bird 75 = .ok (.iadd, 1) := by decide +kernel
theorem dX9_bird_76 : decode cX9_bird 76 = .ok (.iaload, 1) := by decide +kernel
theorem dX9_bird_77 : decode cX9_bird 77 = .ok (.ireturn, 1) := by decide +kernel
theorem dX9_bird_78 : decode cX9_bird 78 = .ok (.aload_n 0, 1) := by decide +kernel
theorem dX9_bird_79 : decode cX9_bird 79 = .ok (.getfield 25, 3) := by decide +kernel
theorem dX9_bird_82 : decode cX9_bird 82 = .ok (.iload_n 3, 1) := by decide +kernel
theorem dX9_bird_83 : decode cX9_bird 83 = .ok (.iconst 3, 1) := by decide +kernel
theorem dX9_bird_84 : decode cX9_bird 84 = .ok (.iadd, 1) := by decide +kernel
theorem dX9_bird_85 : decode cX9_bird 85 = .ok (.iaload, 1) := by decide +kernel
theorem dX9_bird_86 : decode cX9_bird 86 = .ok (.ireturn, 1) := by decide +kernel
theorem dX9_bird_87 : decode cX9_bird 87 = .ok (.aload_n 0, 1) := by decide +kernel
theorem dX9_bird_88 : decode cX9_bird 88 = .ok (.getfield 25, 3) := by decide +kernel
theorem dX9_bird_91 : decode cX9_bird 91 = .ok (.iload_n 3, 1) := by decide +kernel
theorem dX9_bird_92 : decode cX9_bird 92 = .ok (.iconst 4, 1) := by decide +kernel
theorem dX9_bird_93 : decode cX9_bird 93 = .ok (.iadd, 1) := by decide +kernel
theorem dX9_bird_94 : decode cX9_bird 94 = .ok (.iaload, 1) := by decide +kernel
theorem dX9_bird_95 : decode cX9_bird 95 = .ok (.ireturn, 1) := by decide +kernel
theorem dX9_bird_96 : decode cX9_bird 96 = .ok (.aload_n 0, 1) := by decide +kernel
theorem dX9_bird_97 : decode cX9_bird 97 = .ok (.getfield 25, 3) := by decide +kernel
theorem dX9_bird_100 : decode cX9_bird 100 = .ok (.iload_n 3, 1) := by decide +kernel
theorem dX9_bird_101 : decode cX9_bird 101 = .ok (.iconst 5, 1) := by decide +kernel
theorem dX9_bird_102 : decode cX9_bird 102 = .ok (.iadd, 1) := by decide +kernel
theorem dX9_bird_103 : decode cX9_bird 103 = .ok (.iaload, 1) := by decide +kernel
theorem dX9_bird_104 : decode cX9_bird 104 = .ok (.ireturn, 1) := by decide +kernel
theorem dX9_bird_105 : decode cX9_bird 105 = .ok (.aload_n 0, 1) := by decide +kernel
theorem dX9_bird_106 : decode cX9_bird 106 = .ok (.getfield 25, 3) := by decide +kernel
theorem dX9_bird_109 : decode cX9_bird 109 = .ok (.iload_n 1, 1) := by decide +kernel
theorem dX9_bird_110 : decode cX9_bird 110 = .ok (.invokestatic 144, 3) := by decide +kernel
theorem dX9_bird_113 : decode cX9_bird 113 = .ok (.ifCond .eq 24, 3) := by decide +kernel
theorem dX9_bird_116 : decode cX9_bird 116 = .ok (.aload_n 0, 1) := by decide +kernel
theorem dX9_bird_117 : decode cX9_bird 117 = .ok (.getfield 25, 3) := by decide +kernel
theorem dX9_bird_120 : decode cX9_bird 120 = .ok (.invokestatic 170, 3) := by decide +kernel
theorem dX9_bird_123 : decode cX9_bird 123 = .ok (.ifCond .le 14, 3) := by decide +kernel
theorem dX9_bird_126 : decode cX9_bird 126 = .ok (.aload_n 0, 1) := by decide +kernel
theorem dX9_bird_127 : decode cX9_bird 127 = .ok (.getfield 25, 3) := by decide +kernel
theorem dX9_bird_130 : decode cX9_bird 130 = .ok (.iload_n 1, 1) := by decide +kernel
theorem dX9_bird_131 : decode cX9_bird 131 = .ok (.invokestatic 158, 3) := by decide +kernel
theorem dX9_bird_134 : decode cX9_bird 134 = .ok (.goto 4, 3) := by decide +kernel
theorem dX9_bird_137 : decode cX9_bird 137 = .ok (.iconst 0, 1) := by decide +kernel
theorem dX9_bird_138 : decode cX9_bird 138 = .ok (.ireturn, 1) := by decide +kernel
theorem dX9_bird_139 : decode cX9_bird 139 = .ok (.ldc 67, 2) := by decide +kernel
theorem dX9_bird_141 : decode cX9_bird 141 = .ok (.ireturn, 1) := by decide +kernel
theorem dX9_valley_0 : decode cX9_valley 0 = .ok (.iload_n 1, 1) := by decide +kernel
theorem dX9_valley_1 : decode cX9_valley 1 = .ok (.iconst 0, 1) := by decide +kernel
theorem dX9_valley_2 : decode cX9_valley 2 = .ok (.aload_n 0, 1) := by decide +kernel
theorem dX9_valley_3 : decode cX9_valley 3 = .ok (.getfield 25, 3) := by decide +kernel
theorem dX9_valley_6 : decode cX9_valley 6 = .ok (.iconst 2, 1) := by decide +kernel
theorem dX9_valley_7 : decode cX9_valley 7 = .ok (.iaload, 1) := by decide +kernel
theorem dX9_valley_8 : decode cX9_valley 8 = .ok (.iconst 1, 1) := by decide +kernel
theorem dX9_valley_9 : decode cX9_valley 9 = .ok (.isub, 1) := by decide +kernel
theorem dX9_valley_10 : decode cX9_valley 10 = .ok (.invokestatic 59, 3) := by decide +kernel
theorem dX9_valley_13 : decode cX9_valley 13 = .ok (.ifCond .eq 12, 3) := by decide +kernel
theorem dX9_valley_16 : decode cX9_valley 16 = .ok (.iload_n 2, 1) := by decide +kernel
theorem dX9_valley_17 : decode cX9_valley 17 = .ok (.iconst 0, 1) := by decide +kernel
theorem dX9_valley_18 : decode cX9_valley 18 = .ok (.iconst 2, 1) := by decide +kernel
theorem dX9_valley_19 : decode cX9_valley 19 = .ok (.invokestatic 59, 3) := by decide +kernel
theorem dX9_valley_22 : decode cX9_valley 22 = .ok (.ifCond .ne 6, 3) := by decide +kernel
theorem dX9_valley_25 : decode cX9_valley 25 = .ok (.ldc 67, 2) := by decide +kernel
theorem dX9_valley_27 : decode cX9_valley 27 = .ok (.ireturn, 1) := by decide +kernel
theorem dX9_valley_28 : decode cX9_valley 28 = .ok (.iconst 0, 1) := by decide +kernel
theorem dX9_valley_29 : decode cX9_valley 29 = .ok (.istore_n 3, 1) := by decide +kernel
theorem dX9_valley_30 : decode cX9_valley 30 = .ok (.aload_n 0, 1) := by decide +kernel
theorem dX9_valley_31 : decode cX9_valley 31 = .ok (.getfield 25, 3) := by decide +kernel
theorem dX9_valley_34 : decode cX9_valley 34 = .ok (.bipush 6, 2) := by decide +kernel
theorem dX9_valley_36 : decode cX9_valley 36 = .ok (.iload_n 3, 1) := by decide +kernel
theorem dX9_valley_37 : decode cX9_valley 37 = .ok (.iadd, 1) := by decide +kernel
theorem dX9_valley_38 : decode cX9_valley 38 = .ok (.iaload, 1) := by decide +kernel
theorem dX9_valley_39 : decode cX9_valley 39 = .ok (.iload_n 1, 1) := by decide +kernel
theorem dX9_valley_40 : decode cX9_valley 40 = .ok (.if_icmp .eq 9, 3) := by decide +kernel
theorem dX9_valley_43 : decode cX9_valley 43 = .ok (.iinc 3 1, 3) := by decide +kernel
theorem dX9_valley_46 : decode cX9_valley 46 = .ok (.goto (-16), 3) := by decide +kernel
theorem dX9_valley_49 : decode cX9_valley 49 = .ok (.iload_n 2, 1) := by decide +kernel
theorem dX9_valley_50 : decode cX9_valley 50 = .ok (.ifCond .ne 15, 3) := by decide +kernel
theorem dX9_valley_53 : decode cX9_valley 53 = .ok (.aload_n 0, 1) := by decide +kernel
theorem dX9_valley_54 : decode cX9_valley 54 = .ok (.getfield 25, 3) := by decide +kernel
theorem dX9_valley_57 : decode cX9_valley 57 = .ok (.bipush 11, 2) := by decide +kernel
theorem dX9_valley_59 : decode cX9_valley 59 = .ok (.iload_n 1, 1) := by decide +kernel
theorem dX9_valley_60 : decode cX9_valley 60 = .ok (.iadd, 1) := by decide +kernel
theorem dX9_valley_61 : decode cX9_valley 61 = .ok (.iaload, 1) := by decide +kernel
theorem dX9_valley_62 : decode cX9_valley 62 = .ok (.goto 21, 3) := by decide +kernel
theorem dX9_valley_65 : decode cX9_valley 65 = .ok (.iload_n 2, 1) := by decide +kernel
theorem dX9_valley_66 : decode cX9_valley 66 = .ok (.iconst 1, 1) := by decide +kernel
theorem dX9_valley_67 : decode cX9_valley 67 = .ok (.if_icmp .ne 15, 3) := by decide +kernel
theorem dX9_valley_70 : decode cX9_valley 70 = .ok (.aload_n 0, 1) := by decide +kernel
theorem dX9_valley_71 : decode cX9_valley 71 = .ok (.getfield 25, 3) := by decide +kernel
theorem dX9_valley_74 : decode cX9_valley 74 = .ok (.bipush 16, 2) := by decide +kernel
theorem dX9_valley_76 : decode cX9_valley 76 = .ok (.iload_n 1, 1) := by decide +kernel
theorem dX9_valley_77 : decode cX9_valley 77 = .ok (.iadd, 1) := by decide +kernel
theorem dX9_valley_78 : decode cX9_valley 78 = .ok (.iaload, 1) := by decide +kernel
theorem dX9_valley_79 : decode cX9_valley 79 = .ok (.goto 4, 3) := by decide +kernel
theorem dX9_valley_82 : decode cX9_valley 82 = .ok (.iload_n 3, 1) := by decide +kernel
theorem dX9_valley_83 : decode cX9_valley 83 = .ok (.ireturn, 1) := by decide +kernel
theorem dX9_arrive_0 : decode cX9_arrive 0 = .ok (.aload_n 0, 1) := by decide +kernel
theorem dX9_arrive_1 : decode cX9_arrive 1 = .ok (.invokevirtual 180, 3) := by decide +kernel
theorem dX9_arrive_4 : decode cX9_arrive 4 = .ok (.ifCond .ne 6, 3) := by decide +kernel
theorem dX9_arrive_7 : decode cX9_arrive 7 = .ok (.ldc 183, 2) := by decide +kernel
theorem dX9_arrive_9 : decode cX9_arrive 9 = .ok (.ireturn, 1) := by decide +kernel
theorem dX9_arrive_10 : decode cX9_arrive 10 = .ok (.aload_n 0, 1) := by decide +kernel
theorem dX9_arrive_11 : decode cX9_arrive 11 = .ok (.invokevirtual 196, 3) := by decide +kernel
theorem dX9_arrive_14 : decode cX9_arrive 14 = .ok (.aload_n 0, 1) := by decide +kernel
theorem dX9_arrive_15 : decode cX9_arrive 15 = .ok (.invokevirtual 199, 3) := by decide +kernel
theorem dX9_arrive_18 : decode cX9_arrive 18 = .ok (.ireturn, 1) := by decide +kernel
theorem dX9_where_0 : decode cX9_where 0 = .ok (.aload_n 0, 1) := by decide +kernel
theorem dX9_where_1 : decode cX9_where 1 = .ok (.iload_n 1, 1) := by decide +kernel
theorem dX9_where_2 : decode cX9_where 2 = .ok (.invokevirtual 187, 3) := by decide +kernel
theorem dX9_where_5 : decode cX9_where 5 = .ok (.ifCond .ne 6, 3) := by decide +kernel
theorem dX9_where_8 : decode cX9_where 8 = .ok (.ldc 67, 2) := by decide +kernel
theorem dX9_where_10 : decode cX9_where 10 = .ok (.ireturn, 1) := by decide +kernel
theorem dX9_where_11 : decode cX9_where 11 = .ok (.aload_n 0, 1) := by decide +kernel
theorem dX9_where_12 : decode cX9_where 12 = .ok (.getfield 25, 3) := by decide +kernel
theorem dX9_where_15 : decode cX9_where 15 = .ok (.iload_n 1, 1) := by decide +kernel
theorem dX9_where_16 : decode cX9_where 16 = .ok (.invokestatic 144, 3) := by decide +kernel
theorem dX9_where_19 : decode cX9_where 19 = .ok (.ifCond .ne 5, 3) := by decide +kernel
theorem dX9_where_22 : decode cX9_where 22 = .ok (.iconst (-1), 1) := by decide +kernel
theorem dX9_where_23 : decode cX9_where 23 = .ok (.ireturn, 1) := by decide +kernel
theorem dX9_where_24 : decode cX9_where 24 = .ok (.aload_n 0, 1) := by decide +kernel
theorem dX9_where_25 : decode cX9_where 25 = .ok (.invokevirtual 196, 3) := by decide +kernel
theorem dX9_where_28 : decode cX9_where 28 = .ok (.aload_n 0, 1) := by decide +kernel
theorem dX9_where_29 : decode cX9_where 29 = .ok (.getfield 31, 3) := by decide +kernel
theorem dX9_where_32 : decode cX9_where 32 = .ok (.invokestatic 170, 3) := by decide +kernel
theorem dX9_where_35 : decode cX9_where 35 = .ok (.ifCond .le 30, 3) := by decide +kernel
theorem dX9_where_38 : decode cX9_where 38 = .ok (.aload_n 0, 1) := by decide +kernel
theorem dX9_where_39 : decode cX9_where 39 = .ok (.getfield 31, 3) := by decide +kernel
theorem dX9_where_42 : decode cX9_where 42 = .ok (.invokestatic 173, 3) := by decide +kernel
theorem dX9_where_45 : decode cX9_where 45 = .ok (.aload_n 0, 1) := by decide +kernel
theorem dX9_where_46 : decode cX9_where 46 = .ok (.getfield 31, 3) := by decide +kernel
theorem dX9_where_49 : decode cX9_where 49 = .ok (.iload_n 1, 1) := by decide +kernel
theorem dX9_where_50 : decode cX9_where 50 = .ok (.invokestatic 144, 3) := by decide +kernel
theorem dX9_where_53 : decode cX9_where 53 = .ok (.ifCond .ne (-25), 3) := by decide +kernel
theorem dX9_where_56 : decode cX9_where 56 = .ok (.aload_n 0, 1) := by decide +kernel
theorem dX9_where_57 : decode cX9_where 57 = .ok (.getfield 31, 3) := by decide +kernel
theorem dX9_where_60 : decode cX9_where 60 = .ok (.iconst 3, 1) := by decide +kernel
theorem dX9_where_61 : decode cX9_where 61 = .ok (.iaload, 1) := by decide +kernel
theorem dX9_where_62 : decode cX9_where 62 = .ok (.iconst 1, 1) := by decide +kernel
theorem dX9_where_63 : decode cX9_where 63 = .ok (.isub, 1) := by decide +kernel
theorem dX9_where_64 : decode cX9_where 64 = .ok (.ireturn, 1) := by decide +kernel
theorem dX9_where_65 : decode cX9_where 65 = .ok (.ldc 53, 2) := by decide +kernel
theorem dX9_where_67 : decode cX9_where 67 = .ok (.ireturn, 1) := by decide +kernel
theorem dX9_strength_0 : decode cX9_strength 0 = .ok (.aload_n 0, 1) := by decide +kernel
theorem dX9_strength_1 : decode cX9_strength 1 = .ok (.iload_n 1, 1) := by decide +kernel
theorem dX9_strength_2 : decode cX9_strength 2 = .ok (.invokevirtual 187, 3) := by decide +kernel
theorem dX9_strength_5 : decode cX9_strength 5 = .ok (.ifCond .eq 12, 3) := by decide +kernel
theorem dX9_strength_8 : decode cX9_strength 8 = .ok (.iload_n 2, 1) := by decide +kernel
theorem dX9_strength_9 : decode cX9_strength 9 = .ok (.iconst 0, 1) := by decide +kernel
theorem dX9_strength_10 : decode cX9_strength 10 = .ok (.iconst 5, 1) := by decide +kernel
theorem dX9_strength_11 : decode cX9_strength 11 = .ok (.invokestatic 59, 3) := by decide +kernel
theorem dX9_strength_14 : decode cX9_strength 14 = .ok (.ifCond .ne 6, 3) := by decide +kernel
theorem dX9_strength_17 : decode cX9_strength 17 = .ok (.ldc 67, 2) := by decide +kernel
theorem dX9_strength_19 : decode cX9_strength 19 = .ok (.ireturn, 1) := by decide +kernel
theorem dX9_strength_20 : decode cX9_strength 20 = .ok (.aload_n 0, 1) := by decide +kernel
theorem dX9_strength_21 : decode cX9_strength 21 = .ok (.invokevirtual 196, 3) := by decide +kernel
theorem dX9_strength_24 : decode cX9_strength 24 = .ok (.iconst 0, 1) := by decide +kernel
theorem dX9_strength_25 : decode cX9_strength 25 = .ok (.istore_n 3, 1) := by decide +kernel
theorem dX9_strength_26 : decode cX9_strength 26 = .ok (.iload_n 3, 1) := by decide +kernel
theorem dX9_strength_27 : decode cX9_strength 27 = .ok (.iload_n 2, 1) := by decide +kernel
theorem dX9_strength_28 : decode cX9_strength 28 = .ok (.if_icmp .ge 26, 3) := by decide +kernel
theorem dX9_strength_31 : decode cX9_strength 31 = .ok (.aload_n 0, 1) := by decide +kernel
theorem dX9_strength_32 : decode cX9_strength 32 = .ok (.getfield 31, 3) := by decide +kernel
theorem dX9_strength_35 : decode cX9_strength 35 = .ok (.invokestatic 170, 3) := by decide +kernel
theorem dX9_strength_38 : decode cX9_strength 38 = .ok (.ifCond .le 16, 3) := by decide +kernel
theorem dX9_strength_41 : decode cX9_strength 41 = .ok (.aload_n 0, 1) := by decide +kernel
theorem dX9_strength_42 : decode cX9_strength 42 = .ok (.getfield 31, 3) := by decide +kernel
theorem dX9_strength_45 : decode cX9_strength 45 = .ok (.invokestatic 173, 3) := by decide +kernel
theorem dX9_strength_48 : decode cX9_strength 48 = .ok (.iinc 3 1, 3) := by decide +kernel
theorem dX9_strength_51 : decode cX9_strength 51 = .ok (.goto (-25), 3) := by decide +kernel
theorem dX9_strength_54 : decode cX9_strength 54 = .ok (.aload_n 0, 1) := by decide +kernel
theorem dX9_strength_55 : decode cX9_strength 55 = .ok (.getfield 31, 3) := by decide +kernel
theorem dX9_strength_58 : decode cX9_strength 58 = .ok (.bipush 21, 2) := by decide +kernel
theorem dX9_strength_60 : decode cX9_strength 60 = .ok (.bipush 6, 2) := by decide +kernel
theorem dX9_strength_62 : decode cX9_strength 62 = .ok (.iload_n 1, 1) := by decide +kernel
theorem dX9_strength_63 : decode cX9_strength 63 = .ok (.imul, 1) := by decide +kernel
theorem dX9_strength_64 : decode cX9_strength 64 = .ok (.iadd, 1) := by decide +kernel
theorem dX9_strength_65 : decode cX9_strength 65 = .ok (.iconst 1, 1) := by decide +kernel
theorem dX9_strength_66 : decode cX9_strength 66 = .ok (.iadd, 1) := by decide +kernel
theorem dX9_strength_67 : decode cX9_strength 67 = .ok (.iaload, 1) := by decide +kernel
theorem dX9_strength_68 : decode cX9_strength 68 = .ok (.ireturn, 1) := by decide +kernel
theorem dX9_nextOrder_0 : decode cX9_nextOrder 0 = .ok (.iload_n 1, 1) := by decide +kernel
theorem dX9_nextOrder_1 : decode cX9_nextOrder 1 = .ok (.iconst 2, 1) := by decide +kernel
theorem dX9_nextOrder_2 : decode cX9_nextOrder 2 = .ok (.isub, 1) := by decide +kernel
theorem dX9_nextOrder_3 : decode cX9_nextOrder 3 = .ok (.istore_n 2, 1) := by decide +kernel
theorem dX9_nextOrder_4 : decode cX9_nextOrder 4 = .ok (.iload_n 2, 1) := by decide +kernel
theorem dX9_nextOrder_5 : decode cX9_nextOrder 5 = .ok (.ifCond .lt 26, 3) := by decide +kernel
theorem dX9_nextOrder_8 : decode cX9_nextOrder 8 = .ok (.aload_n 0, 1) := by decide +kernel
theorem dX9_nextOrder_9 : decode cX9_nextOrder 9 = .ok (.getfield 44, 3) := by decide +kernel
theorem dX9_nextOrder_12 : decode cX9_nextOrder 12 = .ok (.iload_n 2, 1) := by decide +kernel
theorem dX9_nextOrder_13 : decode cX9_nextOrder 13 = .ok (.iaload, 1) := by decide +kernel
theorem dX9_nextOrder_14 : decode cX9_nextOrder 14 = .ok (.aload_n 0, 1) := by decide +kernel
theorem dX9_nextOrder_15 : decode cX9_nextOrder 15 = .ok (.getfield 44, 3) := by decide +kernel
theorem dX9_nextOrder_18 : decode cX9_nextOrder 18 = .ok (.iload_n 2, 1) := by decide +kernel
theorem dX9_nextOrder_19 : decode cX9_nextOrder 19 = .ok (.iconst 1, 1) := by decide +kernel
theorem dX9_nextOrder_20 : decode cX9_nextOrder 20 = .ok (.iadd, 1) := by decide +kernel
theorem dX9_nextOrder_21 : decode cX9_nextOrder 21 = .ok (.iaload, 1) := by decide +kernel
theorem dX9_nextOrder_22 : decode cX9_nextOrder 22 = .ok (.if_icmp .le 9, 3) := by decide +kernel
theorem dX9_nextOrder_25 : decode cX9_nextOrder 25 = .ok (.iinc 2 (-1), 3) := by decide +kernel
theorem dX9_nextOrder_28 : decode cX9_nextOrder 28 = .ok (.goto (-24), 3) := by decide +kernel
theorem dX9_nextOrder_31 : decode cX9_nextOrder 31 = .ok (.iload_n 2, 1) := by decide +kernel
theorem dX9_nextOrder_32 : decode cX9_nextOrder 32 = .ok (.ifCond .ge 5, 3) := by decide +kernel
theorem dX9_nextOrder_35 : decode cX9_nextOrder 35 = .ok (.iconst 0, 1) := by decide +kernel
theorem dX9_nextOrder_36 : decode cX9_nextOrder 36 = .ok (.ireturn, 1) := by decide +kernel
theorem dX9_nextOrder_37 : decode cX9_nextOrder 37 = .ok (.iload_n 1, 1) := by decide +kernel
theorem dX9_nextOrder_38 : decode cX9_nextOrder 38 = .ok (.iconst 1, 1) := by decide +kernel
theorem dX9_nextOrder_39 : decode cX9_nextOrder 39 = .ok (.isub, 1) := by decide +kernel
theorem dX9_nextOrder_40 : decode cX9_nextOrder 40 = .ok (.istore_n 3, 1) := by decide +kernel
theorem dX9_nextOrder_41 : decode cX9_nextOrder 41 = .ok (.aload_n 0, 1) := by decide +kernel
theorem dX9_nextOrder_42 : decode cX9_nextOrder 42 = .ok (.getfield 44, 3) := by decide +kernel
theorem dX9_nextOrder_45 : decode cX9_nextOrder 45 = .ok (.iload_n 3, 1) := by decide +kernel
theorem dX9_nextOrder_46 : decode cX9_nextOrder 46 = .ok (.iaload, 1) := by decide +kernel
theorem dX9_nextOrder_47 : decode cX9_nextOrder 47 = .ok (.aload_n 0, 1) := by decide +kernel
theorem dX9_nextOrder_48 : decode cX9_nextOrder 48 = .ok (.getfield 44, 3) := by decide +kernel
theorem dX9_nextOrder_51 : decode cX9_nextOrder 51 = .ok (.iload_n 2, 1) := by decide +kernel
theorem dX9_nextOrder_52 : decode cX9_nextOrder 52 = .ok (.iaload, 1) := by decide +kernel
theorem dX9_nextOrder_53 : decode cX9_nextOrder 53 = .ok (.if_icmp .ge 9, 3) := by decide +kernel
theorem dX9_nextOrder_56 : decode cX9_nextOrder 56 = .ok (.iinc 3 (-1), 3) := by decide +kernel
theorem dX9_nextOrder_59 : decode cX9_nextOrder 59 = .ok (.goto (-18), 3) := by decide +kernel
theorem dX9_nextOrder_62 : decode cX9_nextOrder 62 = .ok (.aload_n 0, 1) := by decide +kernel
theorem dX9_nextOrder_63 : decode cX9_nextOrder 63 = .ok (.getfield 44, 3) := by decide +kernel
theorem dX9_nextOrder_66 : decode cX9_nextOrder 66 = .ok (.iload_n 2, 1) := by decide +kernel
theorem dX9_nextOrder_67 : decode cX9_nextOrder 67 = .ok (.iaload, 1) := by decide +kernel
theorem dX9_nextOrder_68 : decode cX9_nextOrder 68 = .ok (.istore 4, 2) := by decide +kernel
theorem dX9_nextOrder_70 : decode cX9_nextOrder 70 = .ok (.aload_n 0, 1) := by decide +kernel
theorem dX9_nextOrder_71 : decode cX9_nextOrder 71 = .ok (.getfield 44, 3) := by decide +kernel
theorem dX9_nextOrder_74 : decode cX9_nextOrder 74 = .ok (.iload_n 2, 1) := by decide +kernel
theorem dX9_nextOrder_75 : decode cX9_nextOrder 75 = .ok (.aload_n 0, 1) := by decide +kernel
theorem dX9_nextOrder_76 : decode cX9_nextOrder 76 = .ok (.getfield 44, 3) := by decide +kernel
theorem dX9_nextOrder_79 : decode cX9_nextOrder 79 = .ok (.iload_n 3, 1) := by decide +kernel
theorem dX9_nextOrder_80 : decode cX9_nextOrder 80 = .ok (.iaload, 1) := by decide +kernel
theorem dX9_nextOrder_81 : decode cX9_nextOrder 81 = .ok (.iastore, 1) := by decide +kernel
theorem dX9_nextOrder_82 : decode cX9_nextOrder 82 = .ok (.aload_n 0, 1) := by decide +kernel
theorem dX9_nextOrder_83 : decode cX9_nextOrder 83 = .ok (.getfield 44, 3) := by decide +kernel
theorem dX9_nextOrder_86 : decode cX9_nextOrder 86 = .ok (.iload_n 3, 1) := by decide +kernel
theorem dX9_nextOrder_87 : decode cX9_nextOrder 87 = .ok (.iload 4, 2) := by decide +kernel
theorem dX9_nextOrder_89 : decode cX9_nextOrder 89 = .ok (.iastore, 1) := by decide +kernel
theorem dX9_nextOrder_90 : decode cX9_nextOrder 90 = .ok (.iload_n 2, 1) := by decide +kernel
theorem dX9_nextOrder_91 : decode cX9_nextOrder 91 = .ok (.iconst 1, 1) := by decide +kernel
theorem dX9_nextOrder_92 : decode cX9_nextOrder 92 = .ok (.iadd, 1) := by decide +kernel
theorem dX9_nextOrder_93 : decode cX9_nextOrder 93 = .ok (.istore 5, 2) := by decide +kernel
theorem dX9_nextOrder_95 : decode cX9_nextOrder 95 = .ok (.iload_n 1, 1) := by decide +kernel
theorem dX9_nextOrder_96 : decode cX9_nextOrder 96 = .ok (.iconst 1, 1) := by decide +kernel
theorem dX9_nextOrder_97 : decode cX9_nextOrder 97 = .ok (.isub, 1) := by decide +kernel
theorem dX9_nextOrder_98 : decode cX9_nextOrder 98 = .ok (.istore 6, 2) := by decide +kernel
theorem dX9_nextOrder_100 : decode cX9_nextOrder 100 = .ok (.iload 5, 2) := by decide +kernel
theorem dX9_nextOrder_102 : decode cX9_nextOrder 102 = .ok (.iload 6, 2) := by decide +kernel
theorem dX9_nextOrder_104 : decode cX9_nextOrder 104 = .ok (.if_icmp .ge 44, 3) := by decide +kernel
theorem dX9_nextOrder_107 : decode cX9_nextOrder 107 = .ok (.aload_n 0, 1) := by decide +kernel
theorem dX9_nextOrder_108 : decode cX9_nextOrder 108 = .ok (.getfield 44, 3) := by decide +kernel
theorem dX9_nextOrder_111 : decode cX9_nextOrder 111 = .ok (.iload 5, 2) := by decide +kernel
theorem dX9_nextOrder_113 : decode cX9_nextOrder 113 = .ok (.iaload, 1) := by decide +kernel
theorem dX9_nextOrder_114 : decode cX9_nextOrder 114 = .ok (.istore 7, 2) := by decide +kernel
theorem dX9_nextOrder_116 : decode cX9_nextOrder 116 = .ok (.aload_n 0, 1) := by decide +kernel
theorem dX9_nextOrder_117 : decode cX9_nextOrder 117 = .ok (.getfield 44, 3) := by decide +kernel
theorem dX9_nextOrder_120 : decode cX9_nextOrder 120 = .ok (.iload 5, 2) := by decide +kernel
theorem dX9_nextOrder_122 : decode cX9_nextOrder 122 = .ok (.aload_n 0, 1) := by decide +kernel
theorem dX9_nextOrder_123 : decode cX9_nextOrder 123 = .ok (.getfield 44, 3) := by decide +kernel
theorem dX9_nextOrder_126 : decode cX9_nextOrder 126 = .ok (.iload 6, 2) := by decide +kernel
theorem dX9_nextOrder_128 : decode cX9_nextOrder 128 = .ok (.iaload, 1) := by decide +kernel
theorem dX9_nextOrder_129 : decode cX9_nextOrder 129 = .ok (.iastore, 1) := by decide +kernel
theorem dX9_nextOrder_130 : decode cX9_nextOrder 130 = .ok (.aload_n 0, 1) := by decide +kernel
theorem dX9_nextOrder_131 : decode cX9_nextOrder 131 = .ok (.getfield 44, 3) := by decide +kernel
theorem dX9_nextOrder_134 : decode cX9_nextOrder 134 = .ok (.iload 6, 2) := by decide +kernel
theorem dX9_nextOrder_136 : decode cX9_nextOrder 136 = .ok (.iload 7, 2) := by decide +kernel
theorem dX9_nextOrder_138 : decode cX9_nextOrder 138 = .ok (.iastore, 1) := by decide +kernel
theorem dX9_nextOrder_139 : decode cX9_nextOrder 139 = .ok (.iinc 5 1, 3) := by decide +kernel
theorem dX9_nextOrder_142 : decode cX9_nextOrder 142 = .ok (.iinc 6 (-1), 3) := by decide +kernel
theorem dX9_nextOrder_145 : decode cX9_nextOrder 145 = .ok (.goto (-45), 3) := by decide +kernel
theorem dX9_nextOrder_148 : decode cX9_nextOrder 148 = .ok (.iconst 1, 1) := by decide +kernel
theorem dX9_nextOrder_149 : decode cX9_nextOrder 149 = .ok (.ireturn, 1) := by decide +kernel
theorem dX9_order_0 : decode cX9_order 0 = .ok (.aload_n 0, 1) := by decide +kernel
theorem dX9_order_1 : decode cX9_order 1 = .ok (.invokevirtual 180, 3) := by decide +kernel
theorem dX9_order_4 : decode cX9_order 4 = .ok (.ifCond .ne 6, 3) := by decide +kernel
theorem dX9_order_7 : decode cX9_order 7 = .ok (.ldc 183, 2) := by decide +kernel
theorem dX9_order_9 : decode cX9_order 9 = .ok (.ireturn, 1) := by decide +kernel
theorem dX9_order_10 : decode cX9_order 10 = .ok (.iload_n 1, 1) := by decide +kernel
theorem dX9_order_11 : decode cX9_order 11 = .ok (.iconst (-1), 1) := by decide +kernel
theorem dX9_order_12 : decode cX9_order 12 = .ok (.iconst 4, 1) := by decide +kernel
theorem dX9_order_13 : decode cX9_order 13 = .ok (.invokestatic 59, 3) := by decide +kernel
theorem dX9_order_16 : decode cX9_order 16 = .ok (.ifCond .ne 6, 3) := by decide +kernel
theorem dX9_order_19 : decode cX9_order 19 = .ok (.ldc 67, 2) := by decide +kernel
theorem dX9_order_21 : decode cX9_order 21 = .ok (.ireturn, 1) := by decide +kernel
theorem dX9_order_22 : decode cX9_order 22 = .ok (.aload_n 0, 1) := by decide +kernel
theorem dX9_order_23 : decode cX9_order 23 = .ok (.getfield 25, 3) := by decide +kernel
theorem dX9_order_26 : decode cX9_order 26 = .ok (.invokestatic 170, 3) := by decide +kernel
theorem dX9_order_29 : decode cX9_order 29 = .ok (.istore_n 2, 1) := by decide +kernel
theorem dX9_order_30 : decode cX9_order 30 = .ok (.iconst 0, 1) := by decide +kernel
theorem dX9_order_31 : decode cX9_order 31 = .ok (.istore_n 3, 1) := by decide +kernel
theorem dX9_order_32 : decode cX9_order 32 = .ok (.iconst 0, 1) := by decide +kernel
theorem dX9_order_33 : decode cX9_order 33 = .ok (.istore 4, 2) := by decide +kernel
theorem dX9_order_35 : decode cX9_order 35 = .ok (.iload 4, 2) := by decide +kernel
theorem dX9_order_37 : decode cX9_order 37 = .ok (.aload_n 0, 1) := by decide +kernel
theorem dX9_order_38 : decode cX9_order 38 = .ok (.getfield 25, 3) := by decide +kernel
theorem dX9_order_41 : decode cX9_order 41 = .ok (.iconst 2, 1) := by decide +kernel
theorem dX9_order_42 : decode cX9_order 42 = .ok (.iaload, 1) := by decide +kernel
theorem dX9_order_43 : decode cX9_order 43 = .ok (.if_icmp .ge 80, 3) := by decide +kernel
theorem dX9_order_46 : decode cX9_order 46 = .ok (.iconst 0, 1) := by decide +kernel
theorem dX9_order_47 : decode cX9_order 47 = .ok (.istore 5, 2) := by decide +kernel
theorem dX9_order_49 : decode cX9_order 49 = .ok (.aload_n 0, 1) := by decide +kernel
theorem dX9_order_50 : decode cX9_order 50 = .ok (.getfield 25, 3) := by decide +kernel
theorem dX9_order_53 : decode cX9_order 53 = .ok (.iconst 3, 1) := by decide +kernel
theorem dX9_order_54 : decode cX9_order 54 = .ok (.iaload, 1) := by decide +kernel
theorem dX9_order_55 : decode cX9_order 55 = .ok (.istore 6, 2) := by decide +kernel
theorem dX9_order_57 : decode cX9_order 57 = .ok (.iload 6, 2) := by decide +kernel
theorem dX9_order_59 : decode cX9_order 59 = .ok (.aload_n 0, 1) := by decide +kernel
theorem dX9_order_60 : decode cX9_order 60 = .ok (.getfield 25, 3) := by decide +kernel
theorem dX9_order_63 : decode cX9_order 63 = .ok (.iconst 2, 1) := by decide +kernel
theorem dX9_order_64 : decode cX9_order 64 = .ok (.iaload, 1) := by decide +kernel
theorem dX9_order_65 : decode cX9_order 65 = .ok (.if_icmp .ge 36, 3) := by decide +kernel
theorem dX9_order_68 : decode cX9_order 68 = .ok (.iload 5, 2) := by decide +kernel
theorem dX9_order_70 : decode cX9_order 70 = .ok (.ifCond .ne 18, 3) := by decide +kernel
theorem dX9_order_73 : decode cX9_order 73 = .ok (.aload_n 0, 1) := by decide +kernel
theorem dX9_order_74 : decode cX9_order 74 = .ok (.getfield 25, 3) := by decide +kernel
theorem dX9_order_77 : decode cX9_order 77 = .ok (.bipush 6, 2) := by decide +kernel
theorem dX9_order_79 : decode cX9_order 79 = .ok (.iload 6, 2) := by decide +kernel
theorem dX9_order_81 : decode cX9_order 81 = .ok (.iadd, 1) := by decide +kernel
theorem dX9_order_82 : decode cX9_order 82 = .ok (.iaload, 1) := by decide +kernel
theorem dX9_order_83 : decode cX9_order 83 = .ok (.iload 4, 2) := by decide +kernel
theorem dX9_order_85 : decode cX9_order 85 = .ok (.if_icmp .ne 7, 3) := by decide +kernel
theorem dX9_order_88 : decode cX9_order 88 = .ok (.iconst 1, 1) := by decide +kernel
theorem dX9_order_89 : decode cX9_order 89 = .ok (.goto 4, 3) := by decide +kernel
theorem dX9_order_92 : decode cX9_order 92 = .ok (.iconst 0, 1) := by decide +kernel
theorem dX9_order_93 : decode cX9_order 93 = .ok (.istore 5, 2) := by decide +kernel
theorem dX9_order_95 : decode cX9_order 95 = .ok (.iinc 6 1, 3) := by decide +kernel
theorem dX9_order_98 : decode cX9_order 98 = .ok (.goto (-41), 3) := by decide +kernel
theorem dX9_order_101 : decode cX9_order 101 = .ok (.iload 5, 2) := by decide +kernel
theorem dX9_order_103 : decode cX9_order 103 = .ok (.ifCond .eq 14, 3) := by decide +kernel
theorem dX9_order_106 : decode cX9_order 106 = .ok (.aload_n 0, 1) := by decide +kernel
theorem dX9_order_107 : decode cX9_order 107 = .ok (.getfield 44, 3) := by decide +kernel
theorem dX9_order_110 : decode cX9_order 110 = .ok (.iload_n 3, 1) := by decide +kernel
theorem dX9_order_111 : decode cX9_order 111 = .ok (.iload 4, 2) := by decide +kernel
theorem dX9_order_113 : decode cX9_order 113 = .ok (.iastore, 1) := by decide +kernel
theorem dX9_order_114 : decode cX9_order 114 = .ok (.iinc 3 1, 3) := by decide +kernel
theorem dX9_order_117 : decode cX9_order 117 = .ok (.iinc 4 1, 3) := by decide +kernel
theorem dX9_order_120 : decode cX9_order 120 = .ok (.goto (-85), 3) := by decide +kernel
theorem dX9_order_123 : decode cX9_order 123 = .ok (.ldc 53, 2) := by decide +kernel
theorem dX9_order_125 : decode cX9_order 125 = .ok (.istore 4, 2) := by decide +kernel
theorem dX9_order_127 : decode cX9_order 127 = .ok (.iconst 1, 1) := by decide +kernel
theorem dX9_order_128 : decode cX9_order 128 = .ok (.istore 5, 2) := by decide +kernel
theorem dX9_order_130 : decode cX9_order 130 = .ok (.iload 5, 2) := by decide +kernel
theorem dX9_order_132 : decode cX9_order 132 = .ok (.ifCond .eq 117, 3) := by decide +kernel
theorem dX9_order_135 : decode cX9_order 135 = .ok (.aload_n 0, 1) := by decide +kernel
theorem dX9_order_136 : decode cX9_order 136 = .ok (.invokevirtual 196, 3) := by decide +kernel
theorem dX9_order_139 : decode cX9_order 139 = .ok (.iconst 0, 1) := by decide +kernel
theorem dX9_order_140 : decode cX9_order 140 = .ok (.istore 6, 2) := by decide +kernel
theorem dX9_order_142 : decode cX9_order 142 = .ok (.iload 6, 2) := by decide +kernel
theorem dX9_order_144 : decode cX9_order 144 = .ok (.iload_n 2, 1) := by decide +kernel
theorem dX9_order_145 : decode cX9_order 145 = .ok (.if_icmp .ge 33, 3) := by decide +kernel
theorem dX9_order_148 : decode cX9_order 148 = .ok (.aload_n 0, 1) := by decide +kernel
theorem dX9_order_149 : decode cX9_order 149 = .ok (.getfield 31, 3) := by decide +kernel
theorem dX9_order_152 : decode cX9_order 152 = .ok (.bipush 6, 2) := by decide +kernel
theorem dX9_order_154 : decode cX9_order 154 = .ok (.aload_n 0, 1) := by decide +kernel
theorem dX9_order_155 : decode cX9_order 155 = .ok (.getfield 25, 3) := by decide +kernel
theorem dX9_order_158 : decode cX9_order 158 = .ok (.iconst 3, 1) := by decide +kernel
theorem dX9_order_159 : decode cX9_order 159 = .ok (.iaload, 1) := by decide +kernel
theorem dX9_order_160 : decode cX9_order 160 = .ok (.iadd, 1) := by decide +kernel
theorem dX9_order_161 : decode cX9_order 161 = .ok (.iload 6, 2) := by decide +kernel
theorem dX9_order_163 : decode cX9_order 163 = .ok (.iadd, 1) := by decide +kernel
theorem dX9_order_164 : decode cX9_order 164 = .ok (.aload_n 0, 1) := by decide +kernel
theorem dX9_order_165 : decode cX9_order 165 = .ok (.getfield 44, 3) := by decide +kernel
theorem dX9_order_168 : decode cX9_order 168 = .ok (.iload 6, 2) := by decide +kernel
theorem dX9_order_170 : decode cX9_order 170 = .ok (.iaload, 1) := by decide +kernel
theorem dX9_order_171 : decode cX9_order 171 = .ok (.iastore, 1) := by decide +kernel
theorem dX9_order_172 : decode cX9_order 172 = .ok (.iinc 6 1, 3) := by decide +kernel
theorem dX9_order_175 : decode cX9_order 175 = .ok (.goto (-33), 3) := by decide +kernel
theorem dX9_order_178 : decode cX9_order 178 = .ok (.aload_n 0, 1) := by decide +kernel
theorem dX9_order_179 : decode cX9_order 179 = .ok (.invokevirtual 199, 3) := by decide +kernel
theorem dX9_order_182 : decode cX9_order 182 = .ok (.invokestatic 152, 3) := by decide +kernel
theorem dX9_order_185 : decode cX9_order 185 = .ok (.istore 6, 2) := by decide +kernel
theorem dX9_order_187 : decode cX9_order 187 = .ok (.iconst 0, 1) := by decide +kernel
theorem dX9_order_188 : decode cX9_order 188 = .ok (.istore 7, 2) := by decide +kernel
theorem dX9_order_190 : decode cX9_order 190 = .ok (.iload 7, 2) := by decide +kernel
theorem dX9_order_192 : decode cX9_order 192 = .ok (.iload_n 2, 1) := by decide +kernel
theorem dX9_order_193 : decode cX9_order 193 = .ok (.if_icmp .ge 30, 3) := by decide +kernel
theorem dX9_order_196 : decode cX9_order 196 = .ok (.iload 6, 2) := by decide +kernel
theorem dX9_order_198 : decode cX9_order 198 = .ok (.iload 4, 2) := by decide +kernel
theorem dX9_order_200 : decode cX9_order 200 = .ok (.if_icmp .le 23, 3) := by decide +kernel
theorem dX9_order_203 : decode cX9_order 203 = .ok (.aload_n 0, 1) := by decide +kernel
theorem dX9_order_204 : decode cX9_order 204 = .ok (.getfield 47, 3) := by decide +kernel
theorem dX9_order_207 : decode cX9_order 207 = .ok (.iload 7, 2) := by decide +kernel
theorem dX9_order_209 : decode cX9_order 209 = .ok (.aload_n 0, 1) := by decide +kernel
theorem dX9_order_210 : decode cX9_order 210 = .ok (.getfield 44, 3) := by decide +kernel
theorem dX9_order_213 : decode cX9_order 213 = .ok (.iload 7, 2) := by decide +kernel
theorem dX9_order_215 : decode cX9_order 215 = .ok (.iaload, 1) := by decide +kernel
theorem dX9_order_216 : decode cX9_order 216 = .ok (.iastore, 1) := by decide +kernel
theorem dX9_order_217 : decode cX9_order 217 = .ok (.iinc 7 1, 3) := by decide +kernel
theorem dX9_order_220 : decode cX9_order 220 = .ok (.goto (-30), 3) := by decide +kernel
theorem dX9_order_223 : decode cX9_order 223 = .ok (.iload 6, 2) := by decide +kernel
theorem dX9_order_225 : decode cX9_order 225 = .ok (.iload 4, 2) := by decide +kernel
theorem dX9_order_227 : decode cX9_order 227 = .ok (.if_icmp .le 8, 3) := by decide +kernel
theorem dX9_order_230 : decode cX9_order 230 = .ok (.iload 6, 2) := by decide +kernel
theorem dX9_order_232 : decode cX9_order 232 = .ok (.goto 5, 3) := by decide +kernel
theorem dX9_order_235 : decode cX9_order 235 = .ok (.iload 4, 2) := by decide +kernel
theorem dX9_order_237 : decode cX9_order 237 = .ok (.istore 4, 2) := by decide +kernel
theorem dX9_order_239 : decode cX9_order 239 = .ok (.aload_n 0, 1) := by decide +kernel
theorem dX9_order_240 : decode cX9_order 240 = .ok (.iload_n 2, 1) := by decide +kernel
theorem dX9_order_241 : decode cX9_order 241 = .ok (.invokevirtual 203, 3) := by decide +kernel
theorem dX9_order_244 : decode cX9_order 244 = .ok (.istore 5, 2) := by decide +kernel
theorem dX9_order_246 : decode cX9_order 246 = .ok (.goto (-116), 3) := by decide +kernel
theorem dX9_order_249 : decode cX9_order 249 = .ok (.iload_n 1, 1) := by decide +kernel
theorem dX9_order_250 : decode cX9_order 250 = .ok (.iconst (-1), 1) := by decide +kernel
theorem dX9_order_251 : decode cX9_order 251 = .ok (.if_icmp .ne 8, 3) := by decide +kernel
theorem dX9_order_254 : decode cX9_order 254 = .ok (.iload 4, 2) := by decide +kernel
theorem dX9_order_256 : decode cX9_order 256 = .ok (.goto 19, 3) := by decide +kernel
theorem dX9_order_259 : decode cX9_order 259 = .ok (.iload_n 1, 1) := by decide +kernel
theorem dX9_order_260 : decode cX9_order 260 = .ok (.iload_n 2, 1) := by decide +kernel
theorem dX9_order_261 : decode cX9_order 261 = .ok (.if_icmp .ge 12, 3) := by decide +kernel
theorem dX9_order_264 : decode cX9_order 264 = .ok (.aload_n 0, 1) := by decide +kernel
theorem dX9_order_265 : decode cX9_order 265 = .ok (.getfield 47, 3) := by decide +kernel
theorem dX9_order_268 : decode cX9_order 268 = .ok (.iload_n 1, 1) := by decide +kernel
theorem dX9_order_269 : decode cX9_order 269 = .ok (.iaload, 1) := by decide +kernel
theorem dX9_order_270 : decode cX9_order 270 = .ok (.goto 5, 3) := by decide +kernel
theorem dX9_order_273 : decode cX9_order 273 = .ok (.ldc 53, 2) := by decide +kernel
theorem dX9_order_275 : decode cX9_order 275 = .ok (.ireturn, 1) := by decide +kernel
theorem dX9_fewest_0 : decode cX9_fewest 0 = .ok (.ldc 53, 2) := by decide +kernel
theorem dX9_fewest_2 : decode cX9_fewest 2 = .ok (.istore_n 2, 1) := by decide +kernel
theorem dX9_fewest_3 : decode cX9_fewest 3 = .ok (.iconst 0, 1) := by decide +kernel
theorem dX9_fewest_4 : decode cX9_fewest 4 = .ok (.istore_n 3, 1) := by decide +kernel
theorem dX9_fewest_5 : decode cX9_fewest 5 = .ok (.iload_n 3, 1) := by decide +kernel
theorem dX9_fewest_6 : decode cX9_fewest 6 = .ok (.iconst 1, 1) := by decide +kernel
theorem dX9_fewest_7 : decode cX9_fewest 7 = .ok (.aload_n 0, 1) := by decide +kernel
theorem dX9_fewest_8 : decode cX9_fewest 8 = .ok (.getfield 25, 3) := by decide +kernel
theorem dX9_fewest_11 : decode cX9_fewest 11 = .ok (.iconst 5, 1) := by decide +kernel
theorem dX9_fewest_12 : decode cX9_fewest 12 = .ok (.iaload, 1) := by decide +kernel
theorem dX9_fewest_13 : decode cX9_fewest 13 = .ok (.ishl, 1) := by decide +kernel
theorem dX9_fewest_14 : decode cX9_fewest 14 = .ok (.if_icmp .ge 175, 3) := by decide +kernel
theorem dX9_fewest_17 : decode cX9_fewest 17 = .ok (.iload_n 2, 1) := by decide +kernel
theorem dX9_fewest_18 : decode cX9_fewest 18 = .ok (.ldc 53, 2) := by decide +kernel
theorem dX9_fewest_20 : decode cX9_fewest 20 = .ok (.if_icmp .eq 14, 3) := by decide +kernel
theorem dX9_fewest_23 : decode cX9_fewest 23 = .ok (.iload_n 3, 1) := by decide +kernel
theorem dX9_fewest_24 : decode cX9_fewest 24 = .ok (.invokestatic 152, 3) := by decide +kernel
theorem dX9_fewest_27 : decode cX9_fewest 27 = .ok (.iload_n 2, 1) := by decide +kernel
theorem dX9_fewest_28 : decode cX9_fewest 28 = .ok (.invokestatic 152, 3) := by decide +kernel
theorem dX9_fewest_31 : decode cX9_fewest 31 = .ok (.if_icmp .ge 7, 3) := by decide +kernel
theorem dX9_fewest_34 : decode cX9_fewest 34 = .ok (.iconst 1, 1) := by decide +kernel
theorem dX9_fewest_35 : decode cX9_fewest 35 = .ok (.goto 4, 3) := by decide +kernel
theorem dX9_fewest_38 : decode cX9_fewest 38 = .ok (.iconst 0, 1) := by decide +kernel
theorem dX9_fewest_39 : decode cX9_fewest 39 = .ok (.istore 4, 2) := by decide +kernel
theorem dX9_fewest_41 : decode cX9_fewest 41 = .ok (.iconst 0, 1) := by decide +kernel
theorem dX9_fewest_42 : decode cX9_fewest 42 = .ok (.istore 5, 2) := by decide +kernel
theorem dX9_fewest_44 : decode cX9_fewest 44 = .ok (.iload 5, 2) := by decide +kernel
theorem dX9_fewest_46 : decode cX9_fewest 46 = .ok (.aload_n 0, 1) := by decide +kernel
theorem dX9_fewest_47 : decode cX9_fewest 47 = .ok (.getfield 25, 3) := by decide +kernel
theorem dX9_fewest_50 : decode cX9_fewest 50 = .ok (.iconst 5, 1) := by decide +kernel
theorem dX9_fewest_51 : decode cX9_fewest 51 = .ok (.iaload, 1) := by decide +kernel
theorem dX9_fewest_52 : decode cX9_fewest 52 = .ok (.if_icmp .ge 42, 3) := by decide +kernel
theorem dX9_fewest_55 : decode cX9_fewest 55 = .ok (.iload 4, 2) := by decide +kernel
theorem dX9_fewest_57 : decode cX9_fewest 57 = .ok (.ifCond .eq 28, 3) := by decide +kernel
theorem dX9_fewest_60 : decode cX9_fewest 60 = .ok (.iload_n 3, 1) := by decide +kernel
theorem dX9_fewest_61 : decode cX9_fewest 61 = .ok (.iload 5, 2) := by decide +kernel
theorem dX9_fewest_63 : decode cX9_fewest 63 = .ok (.invokestatic 148, 3) := by decide +kernel
theorem dX9_fewest_66 : decode cX9_fewest 66 = .ok (.ifCond .eq 15, 3) := by decide +kernel
theorem dX9_fewest_69 : decode cX9_fewest 69 = .ok (.aload_n 0, 1) := by decide +kernel
theorem dX9_fewest_70 : decode cX9_fewest 70 = .ok (.getfield 25, 3) := by decide +kernel
theorem dX9_fewest_73 : decode cX9_fewest 73 = .ok (.iload 5, 2) := by decide +kernel
theorem dX9_fewest_75 : decode cX9_fewest 75 = .ok (.invokestatic 155, 3) := by decide +kernel
theorem dX9_fewest_78 : decode cX9_fewest 78 = .ok (.ifCond .eq 7, 3) := by decide +kernel
theorem dX9_fewest_81 : decode cX9_fewest 81 = .ok (.iconst 1, 1) := by decide +kernel
theorem dX9_fewest_82 : decode cX9_fewest 82 = .ok (.goto 4, 3) := by decide +kernel
theorem dX9_fewest_85 : decode cX9_fewest 85 = .ok (.iconst 0, 1) := by decide +kernel
theorem dX9_fewest_86 : decode cX9_fewest 86 = .ok (.istore 4, 2) := by decide +kernel
theorem dX9_fewest_88 : decode cX9_fewest 88 = .ok (.iinc 5 1, 3) := by decide +kernel
theorem dX9_fewest_91 : decode cX9_fewest 91 = .ok (.goto (-47), 3) := by decide +kernel
theorem dX9_fewest_94 : decode cX9_fewest 94 = .ok (.iload 4, 2) := by decide +kernel
theorem dX9_fewest_96 : decode cX9_fewest 96 = .ok (.ifCond .eq 87, 3) := by decide +kernel
theorem dX9_fewest_99 : decode cX9_fewest 99 = .ok (.aload_n 0, 1) := by decide +kernel
theorem dX9_fewest_100 : decode cX9_fewest 100 = .ok (.invokevirtual 196, 3) := by decide +kernel
theorem dX9_fewest_103 : decode cX9_fewest 103 = .ok (.iconst 0, 1) := by decide +kernel
theorem dX9_fewest_104 : decode cX9_fewest 104 = .ok (.istore 5, 2) := by decide +kernel
theorem dX9_fewest_106 : decode cX9_fewest 106 = .ok (.iload 5, 2) := by decide +kernel
theorem dX9_fewest_108 : decode cX9_fewest 108 = .ok (.aload_n 0, 1) := by decide +kernel
theorem dX9_fewest_109 : decode cX9_fewest 109 = .ok (.getfield 25, 3) := by decide +kernel
theorem dX9_fewest_112 : decode cX9_fewest 112 = .ok (.iconst 5, 1) := by decide +kernel
theorem dX9_fewest_113 : decode cX9_fewest 113 = .ok (.iaload, 1) := by decide +kernel
theorem dX9_fewest_114 : decode cX9_fewest 114 = .ok (.if_icmp .ge 52, 3) := by decide +kernel
theorem dX9_fewest_117 : decode cX9_fewest 117 = .ok (.aload_n 0, 1) := by decide +kernel
theorem dX9_fewest_118 : decode cX9_fewest 118 = .ok (.getfield 31, 3) := by decide +kernel
theorem dX9_fewest_121 : decode cX9_fewest 121 = .ok (.bipush 21, 2) := by decide +kernel
theorem dX9_fewest_123 : decode cX9_fewest 123 = .ok (.bipush 6, 2) := by decide +kernel
theorem dX9_fewest_125 : decode cX9_fewest 125 = .ok (.iload 5, 2) := by decide +kernel
theorem dX9_fewest_127 : decode cX9_fewest 127 = .ok (.imul, 1) := by decide +kernel
theorem dX9_fewest_128 : decode cX9_fewest 128 = .ok (.iadd, 1) := by decide +kernel
theorem dX9_fewest_129 : decode cX9_fewest 129 = .ok (.iconst 5, 1) := by decide +kernel
theorem dX9_fewest_130 : decode cX9_fewest 130 = .ok (.iadd, 1) := by decide +kernel
theorem dX9_fewest_131 : decode cX9_fewest 131 = .ok (.iload_n 3, 1) := by decide +kernel
theorem dX9_fewest_132 : decode cX9_fewest 132 = .ok (.iload 5, 2) := by decide +kernel
theorem dX9_fewest_134 : decode cX9_fewest 134 = .ok (.invokestatic 148, 3) := by decide +kernel
theorem dX9_fewest_137 : decode cX9_fewest 137 = .ok (.ifCond .eq 7, 3) := by decide +kernel
theorem dX9_fewest_140 : decode cX9_fewest 140 = .ok (.iconst 1, 1) := by decide +kernel
theorem dX9_fewest_141 : decode cX9_fewest 141 = .ok (.goto 18, 3) := by decide +kernel
theorem dX9_fewest_144 : decode cX9_fewest 144 = .ok (.aload_n 0, 1) := by decide +kernel
theorem dX9_fewest_145 : decode cX9_fewest 145 = .ok (.getfield 31, 3) := by decide +kernel
theorem dX9_fewest_148 : decode cX9_fewest 148 = .ok (.bipush 21, 2) := by decide +kernel
theorem dX9_fewest_150 : decode cX9_fewest 150 = .ok (.bipush 6, 2) := by decide +kernel
theorem dX9_fewest_152 : decode cX9_fewest 152 = .ok (.iload 5, 2) := by decide +kernel
theorem dX9_fewest_154 : decode cX9_fewest 154 = .ok (.imul, 1) := by decide +kernel
theorem dX9_fewest_155 : decode cX9_fewest 155 = .ok (.iadd, 1) := by decide +kernel
theorem dX9_fewest_156 : decode cX9_fewest 156 = .ok (.iconst 5, 1) := by decide +kernel
theorem dX9_fewest_157 : decode cX9_fewest 157 = .ok (.iadd, 1) := by decide +kernel
theorem dX9_fewest_158 : decode cX9_fewest 158 = .ok (.iaload, 1) := by decide +kernel
theorem dX9_fewest_159 : decode cX9_fewest 159 = .ok (.iastore, 1) := by decide +kernel
theorem dX9_fewest_160 : decode cX9_fewest 160 = .ok (.iinc 5 1, 3) := by decide +kernel
theorem dX9_fewest_163 : decode cX9_fewest 163 = .ok (.goto (-57), 3) := by decide +kernel
theorem dX9_fewest_166 : decode cX9_fewest 166 = .ok (.aload_n 0, 1) := by decide +kernel
theorem dX9_fewest_167 : decode cX9_fewest 167 = .ok (.invokevirtual 199, 3) := by decide +kernel
theorem dX9_fewest_170 : decode cX9_fewest 170 = .ok (.invokestatic 152, 3) := by decide +kernel
theorem dX9_fewest_173 : decode cX9_fewest 173 = .ok (.iload_n 1, 1) := by decide +kernel
theorem dX9_fewest_174 : decode cX9_fewest 174 = .ok (.if_icmp .lt 7, 3) := by decide +kernel
theorem dX9_fewest_177 : decode cX9_fewest 177 = .ok (.iload_n 3, 1) := by decide +kernel
theorem dX9_fewest_178 : decode cX9_fewest 178 = .ok (.goto 4, 3) := by decide +kernel
theorem dX9_fewest_181 : decode cX9_fewest 181 = .ok (.iload_n 2, 1) := by decide +kernel
theorem dX9_fewest_182 : decode cX9_fewest 182 = .ok (.istore_n 2, 1) := by decide +kernel
theorem dX9_fewest_183 : decode cX9_fewest 183 = .ok (.iinc 3 1, 3) := by decide +kernel
theorem dX9_fewest_186 : decode cX9_fewest 186 = .ok (.goto (-181), 3) := by decide +kernel
theorem dX9_fewest_189 : decode cX9_fewest 189 = .ok (.iload_n 2, 1) := by decide +kernel
theorem dX9_fewest_190 : decode cX9_fewest 190 = .ok (.ireturn, 1) := by decide +kernel
theorem dX9_toKeep_0 : decode cX9_toKeep 0 = .ok (.aload_n 0, 1) := by decide +kernel
theorem dX9_toKeep_1 : decode cX9_toKeep 1 = .ok (.invokevirtual 180, 3) := by decide +kernel
theorem dX9_toKeep_4 : decode cX9_toKeep 4 = .ok (.ifCond .ne 6, 3) := by decide +kernel
theorem dX9_toKeep_7 : decode cX9_toKeep 7 = .ok (.ldc 183, 2) := by decide +kernel
theorem dX9_toKeep_9 : decode cX9_toKeep 9 = .ok (.ireturn, 1) := by decide +kernel
theorem dX9_toKeep_10 : decode cX9_toKeep 10 = .ok (.iload_n 1, 1) := by decide +kernel
theorem dX9_toKeep_11 : decode cX9_toKeep 11 = .ok (.iconst 0, 1) := by decide +kernel
theorem dX9_toKeep_12 : decode cX9_toKeep 12 = .ok (.iconst 1, 1) := by decide +kernel
theorem dX9_toKeep_13 : decode cX9_toKeep 13 = .ok (.invokestatic 59, 3) := by decide +kernel
theorem dX9_toKeep_16 : decode cX9_toKeep 16 = .ok (.ifCond .ne 6, 3) := by decide +kernel
theorem dX9_toKeep_19 : decode cX9_toKeep 19 = .ok (.ldc 67, 2) := by decide +kernel
theorem dX9_toKeep_21 : decode cX9_toKeep 21 = .ok (.ireturn, 1) := by decide +kernel
theorem dX9_toKeep_22 : decode cX9_toKeep 22 = .ok (.aload_n 0, 1) := by decide +kernel
theorem dX9_toKeep_23 : decode cX9_toKeep 23 = .ok (.aload_n 0, 1) := by decide +kernel
theorem dX9_toKeep_24 : decode cX9_toKeep 24 = .ok (.getfield 25, 3) := by decide +kernel
theorem dX9_toKeep_27 : decode cX9_toKeep 27 = .ok (.invokestatic 177, 3) := by decide +kernel
theorem dX9_toKeep_30 : decode cX9_toKeep 30 = .ok (.invokestatic 152, 3) := by decide +kernel
theorem dX9_toKeep_33 : decode cX9_toKeep 33 = .ok (.invokevirtual 206, 3) := by decide +kernel
theorem dX9_toKeep_36 : decode cX9_toKeep 36 = .ok (.istore_n 2, 1) := by decide +kernel
theorem dX9_toKeep_37 : decode cX9_toKeep 37 = .ok (.iload_n 1, 1) := by decide +kernel
theorem dX9_toKeep_38 : decode cX9_toKeep 38 = .ok (.iconst 1, 1) := by decide +kernel
theorem dX9_toKeep_39 : decode cX9_toKeep 39 = .ok (.if_icmp .ne 7, 3) := by decide +kernel
theorem dX9_toKeep_42 : decode cX9_toKeep 42 = .ok (.iload_n 2, 1) := by decide +kernel
theorem dX9_toKeep_43 : decode cX9_toKeep 43 = .ok (.goto 7, 3) := by decide +kernel
theorem dX9_toKeep_46 : decode cX9_toKeep 46 = .ok (.iload_n 2, 1) := by decide +kernel
theorem dX9_toKeep_47 : decode cX9_toKeep 47 = .ok (.invokestatic 152, 3) := by decide +kernel
theorem dX9_toKeep_50 : decode cX9_toKeep 50 = .ok (.ireturn, 1) := by decide +kernel
theorem dX9_whole_0 : decode cX9_whole 0 = .ok (.aload_n 0, 1) := by decide +kernel
theorem dX9_whole_1 : decode cX9_whole 1 = .ok (.invokevirtual 180, 3) := by decide +kernel
theorem dX9_whole_4 : decode cX9_whole 4 = .ok (.ifCond .ne 6, 3) := by decide +kernel
theorem dX9_whole_7 : decode cX9_whole 7 = .ok (.ldc 183, 2) := by decide +kernel
theorem dX9_whole_9 : decode cX9_whole 9 = .ok (.ireturn, 1) := by decide +kernel
theorem dX9_whole_10 : decode cX9_whole 10 = .ok (.iload_n 1, 1) := by decide +kernel
theorem dX9_whole_11 : decode cX9_whole 11 = .ok (.iconst 0, 1) := by decide +kernel
theorem dX9_whole_12 : decode cX9_whole 12 = .ok (.bipush 6, 2) := by decide +kernel
theorem dX9_whole_14 : decode cX9_whole 14 = .ok (.invokestatic 59, 3) := by decide +kernel
theorem dX9_whole_17 : decode cX9_whole 17 = .ok (.ifCond .eq 12, 3) := by decide +kernel
theorem dX9_whole_20 : decode cX9_whole 20 = .ok (.iload_n 2, 1) := by decide +kernel
theorem dX9_whole_21 : decode cX9_whole 21 = .ok (.iconst 0, 1) := by decide +kernel
theorem dX9_whole_22 : decode cX9_whole 22 = .ok (.iconst 1, 1) := by decide +kernel
theorem dX9_whole_23 : decode cX9_whole 23 = .ok (.invokestatic 59, 3) := by decide +kernel
theorem dX9_whole_26 : decode cX9_whole 26 = .ok (.ifCond .ne 6, 3) := by decide +kernel
theorem dX9_whole_29 : decode cX9_whole 29 = .ok (.ldc 67, 2) := by decide +kernel
theorem dX9_whole_31 : decode cX9_whole 31 = .ok (.ireturn, 1) := by decide +kernel
theorem dX9_whole_32 : decode cX9_whole 32 = .ok (.aload_n 0, 1) := by decide +kernel
theorem dX9_whole_33 : decode cX9_whole 33 = .ok (.iload_n 1, 1) := by decide +kernel
theorem dX9_whole_34 : decode cX9_whole 34 = .ok (.invokevirtual 206, 3) := by decide +kernel
theorem dX9_whole_37 : decode cX9_whole 37 = .ok (.istore_n 3, 1) := by decide +kernel
theorem dX9_whole_38 : decode cX9_whole 38 = .ok (.iload_n 3, 1) := by decide +kernel
theorem dX9_whole_39 : decode cX9_whole 39 = .ok (.ldc 53, 2) := by decide +kernel
theorem dX9_whole_41 : decode cX9_whole 41 = .ok (.if_icmp .eq 8, 3) := by decide +kernel
theorem dX9_whole_44 : decode cX9_whole 44 = .ok (.iload_n 2, 1) := by decide +kernel
theorem dX9_whole_45 : decode cX9_whole 45 = .ok (.iconst 1, 1) := by decide +kernel
theorem dX9_whole_46 : decode cX9_whole 46 = .ok (.if_icmp .ne 7, 3) := by decide +kernel
theorem dX9_whole_49 : decode cX9_whole 49 = .ok (.iload_n 3, 1) := by decide +kernel
theorem dX9_whole_50 : decode cX9_whole 50 = .ok (.goto 7, 3) := by decide +kernel
theorem dX9_whole_53 : decode cX9_whole 53 = .ok (.iload_n 3, 1) := by decide +kernel
theorem dX9_whole_54 : decode cX9_whole 54 = .ok (.invokestatic 152, 3) := by decide +kernel
theorem dX9_whole_57 : decode cX9_whole 57 = .ok (.ireturn, 1) := by decide +kernel
theorem dX9_meal_0 : decode cX9_meal 0 = .ok (.aload_n 0, 1) := by decide +kernel
theorem dX9_meal_1 : decode cX9_meal 1 = .ok (.invokevirtual 180, 3) := by decide +kernel
theorem dX9_meal_4 : decode cX9_meal 4 = .ok (.ifCond .ne 6, 3) := by decide +kernel
theorem dX9_meal_7 : decode cX9_meal 7 = .ok (.ldc 183, 2) := by decide +kernel
theorem dX9_meal_9 : decode cX9_meal 9 = .ok (.ireturn, 1) := by decide +kernel
theorem dX9_meal_10 : decode cX9_meal 10 = .ok (.iload_n 1, 1) := by decide +kernel
theorem dX9_meal_11 : decode cX9_meal 11 = .ok (.iconst 0, 1) := by decide +kernel
theorem dX9_meal_12 : decode cX9_meal 12 = .ok (.iconst 1, 1) := by decide +kernel
theorem dX9_meal_13 : decode cX9_meal 13 = .ok (.invokestatic 59, 3) := by decide +kernel
theorem dX9_meal_16 : decode cX9_meal 16 = .ok (.ifCond .ne 6, 3) := by decide +kernel
theorem dX9_meal_19 : decode cX9_meal 19 = .ok (.ldc 67, 2) := by decide +kernel
theorem dX9_meal_21 : decode cX9_meal 21 = .ok (.ireturn, 1) := by decide +kernel
theorem dX9_meal_22 : decode cX9_meal 22 = .ok (.ldc 53, 2) := by decide +kernel
theorem dX9_meal_24 : decode cX9_meal 24 = .ok (.istore_n 2, 1) := by decide +kernel
theorem dX9_meal_25 : decode cX9_meal 25 = .ok (.ldc 53, 2) := by decide +kernel
theorem dX9_meal_27 : decode cX9_meal 27 = .ok (.istore_n 3, 1) := by decide +kernel
theorem dX9_meal_28 : decode cX9_meal 28 = .ok (.iconst 0, 1) := by decide +kernel
theorem dX9_meal_29 : decode cX9_meal 29 = .ok (.istore 4, 2) := by decide +kernel
theorem dX9_meal_31 : decode cX9_meal 31 = .ok (.iload 4, 2) := by decide +kernel
theorem dX9_meal_33 : decode cX9_meal 33 = .ok (.aload_n 0, 1) := by decide +kernel
theorem dX9_meal_34 : decode cX9_meal 34 = .ok (.getfield 25, 3) := by decide +kernel
theorem dX9_meal_37 : decode cX9_meal 37 = .ok (.iconst 5, 1) := by decide +kernel
theorem dX9_meal_38 : decode cX9_meal 38 = .ok (.iaload, 1) := by decide +kernel
theorem dX9_meal_39 : decode cX9_meal 39 = .ok (.if_icmp .ge 74, 3) := by decide +kernel
theorem dX9_meal_42 : decode cX9_meal 42 = .ok (.aload_n 0, 1) := by decide +kernel
theorem dX9_meal_43 : decode cX9_meal 43 = .ok (.invokevirtual 196, 3) := by decide +kernel
theorem dX9_meal_46 : decode cX9_meal 46 = .ok (.aload_n 0, 1) := by decide +kernel
theorem dX9_meal_47 : decode cX9_meal 47 = .ok (.getfield 31, 3) := by decide +kernel
theorem dX9_meal_50 : decode cX9_meal 50 = .ok (.iload 4, 2) := by decide +kernel
theorem dX9_meal_52 : decode cX9_meal 52 = .ok (.invokestatic 190, 3) := by decide +kernel
theorem dX9_meal_55 : decode cX9_meal 55 = .ok (.aload_n 0, 1) := by decide +kernel
theorem dX9_meal_56 : decode cX9_meal 56 = .ok (.getfield 25, 3) := by decide +kernel
theorem dX9_meal_59 : decode cX9_meal 59 = .ok (.iload 4, 2) := by decide +kernel
theorem dX9_meal_61 : decode cX9_meal 61 = .ok (.invokestatic 144, 3) := by decide +kernel
theorem dX9_meal_64 : decode cX9_meal 64 = .ok (.ifCond .eq 13, 3) := by decide +kernel
theorem dX9_meal_67 : decode cX9_meal 67 = .ok (.aload_n 0, 1) := by decide +kernel
theorem dX9_meal_68 : decode cX9_meal 68 = .ok (.invokevirtual 199, 3) := by decide +kernel
theorem dX9_meal_71 : decode cX9_meal 71 = .ok (.invokestatic 152, 3) := by decide +kernel
theorem dX9_meal_74 : decode cX9_meal 74 = .ok (.goto 5, 3) := by decide +kernel
theorem dX9_meal_77 : decode cX9_meal 77 = .ok (.ldc 53, 2) := by decide +kernel
theorem dX9_meal_79 : decode cX9_meal 79 = .ok (.istore 5, 2) := by decide +kernel
theorem dX9_meal_81 : decode cX9_meal 81 = .ok (.iload 5, 2) := by decide +kernel
theorem dX9_meal_83 : decode cX9_meal 83 = .ok (.iload_n 3, 1) := by decide +kernel
theorem dX9_meal_84 : decode cX9_meal 84 = .ok (.if_icmp .le 8, 3) := by decide +kernel
theorem dX9_meal_87 : decode cX9_meal 87 = .ok (.iload 4, 2) := by decide +kernel
theorem dX9_meal_89 : decode cX9_meal 89 = .ok (.goto 4, 3) := by decide +kernel
theorem dX9_meal_92 : decode cX9_meal 92 = .ok (.iload_n 2, 1) := by decide +kernel
theorem dX9_meal_93 : decode cX9_meal 93 = .ok (.istore_n 2, 1) := by decide +kernel
theorem dX9_meal_94 : decode cX9_meal 94 = .ok (.iload 5, 2) := by decide +kernel
theorem dX9_meal_96 : decode cX9_meal 96 = .ok (.iload_n 3, 1) := by decide +kernel
theorem dX9_meal_97 : decode cX9_meal 97 = .ok (.if_icmp .le 8, 3) := by decide +kernel
theorem dX9_meal_100 : decode cX9_meal 100 = .ok (.iload 5, 2) := by decide +kernel
theorem dX9_meal_102 : decode cX9_meal 102 = .ok (.goto 4, 3) := by decide +kernel
theorem dX9_meal_105 : decode cX9_meal 105 = .ok (.iload_n 3, 1) := by decide +kernel
theorem dX9_meal_106 : decode cX9_meal 106 = .ok (.istore_n 3, 1) := by decide +kernel
theorem dX9_meal_107 : decode cX9_meal 107 = .ok (.iinc 4 1, 3) := by decide +kernel
theorem dX9_meal_110 : decode cX9_meal 110 = .ok (.goto (-79), 3) := by decide +kernel
theorem dX9_meal_113 : decode cX9_meal 113 = .ok (.iload_n 1, 1) := by decide +kernel
theorem dX9_meal_114 : decode cX9_meal 114 = .ok (.ifCond .ne 7, 3) := by decide +kernel
theorem dX9_meal_117 : decode cX9_meal 117 = .ok (.iload_n 2, 1) := by decide +kernel
theorem dX9_meal_118 : decode cX9_meal 118 = .ok (.goto 4, 3) := by decide +kernel
theorem dX9_meal_121 : decode cX9_meal 121 = .ok (.iload_n 3, 1) := by decide +kernel
theorem dX9_meal_122 : decode cX9_meal 122 = .ok (.ireturn, 1) := by decide +kernel
theorem dX9_catches_0 : decode cX9_catches 0 = .ok (.aload_n 0, 1) := by decide +kernel
theorem dX9_catches_1 : decode cX9_catches 1 = .ok (.iload_n 1, 1) := by decide +kernel
theorem dX9_catches_2 : decode cX9_catches 2 = .ok (.invokevirtual 187, 3) := by decide +kernel
theorem dX9_catches_5 : decode cX9_catches 5 = .ok (.ifCond .ne 6, 3) := by decide +kernel
theorem dX9_catches_8 : decode cX9_catches 8 = .ok (.ldc 67, 2) := by decide +kernel
theorem dX9_catches_10 : decode cX9_catches 10 = .ok (.ireturn, 1) := by decide +kernel
theorem dX9_catches_11 : decode cX9_catches 11 = .ok (.aload_n 0, 1) := by decide +kernel
theorem dX9_catches_12 : decode cX9_catches 12 = .ok (.getfield 25, 3) := by decide +kernel
theorem dX9_catches_15 : decode cX9_catches 15 = .ok (.iload_n 1, 1) := by decide +kernel
theorem dX9_catches_16 : decode cX9_catches 16 = .ok (.invokestatic 144, 3) := by decide +kernel
theorem dX9_catches_19 : decode cX9_catches 19 = .ok (.ifCond .ne 6, 3) := by decide +kernel
theorem dX9_catches_22 : decode cX9_catches 22 = .ok (.ldc 183, 2) := by decide +kernel
theorem dX9_catches_24 : decode cX9_catches 24 = .ok (.ireturn, 1) := by decide +kernel
theorem dX9_catches_25 : decode cX9_catches 25 = .ok (.iconst 1, 1) := by decide +kernel
theorem dX9_catches_26 : decode cX9_catches 26 = .ok (.iload_n 1, 1) := by decide +kernel
theorem dX9_catches_27 : decode cX9_catches 27 = .ok (.ishl, 1) := by decide +kernel
theorem dX9_catches_28 : decode cX9_catches 28 = .ok (.iconst (-1), 1) := by decide +kernel
theorem dX9_catches_29 : decode cX9_catches 29 = .ok (.ixor, 1) := by decide +kernel
theorem dX9_catches_30 : decode cX9_catches 30 = .ok (.istore_n 2, 1) := by decide +kernel
theorem dX9_catches_31 : decode cX9_catches 31 = .ok (.aload_n 0, 1) := by decide +kernel
theorem dX9_catches_32 : decode cX9_catches 32 = .ok (.invokevirtual 196, 3) := by decide +kernel
theorem dX9_catches_35 : decode cX9_catches 35 = .ok (.aload_n 0, 1) := by decide +kernel
theorem dX9_catches_36 : decode cX9_catches 36 = .ok (.invokevirtual 199, 3) := by decide +kernel
theorem dX9_catches_39 : decode cX9_catches 39 = .ok (.iload_n 2, 1) := by decide +kernel
theorem dX9_catches_40 : decode cX9_catches 40 = .ok (.iand, 1) := by decide +kernel
theorem dX9_catches_41 : decode cX9_catches 41 = .ok (.invokestatic 152, 3) := by decide +kernel
theorem dX9_catches_44 : decode cX9_catches 44 = .ok (.istore_n 3, 1) := by decide +kernel
theorem dX9_catches_45 : decode cX9_catches 45 = .ok (.aload_n 0, 1) := by decide +kernel
theorem dX9_catches_46 : decode cX9_catches 46 = .ok (.invokevirtual 196, 3) := by decide +kernel
theorem dX9_catches_49 : decode cX9_catches 49 = .ok (.aload_n 0, 1) := by decide +kernel
theorem dX9_catches_50 : decode cX9_catches 50 = .ok (.getfield 31, 3) := by decide +kernel
theorem dX9_catches_53 : decode cX9_catches 53 = .ok (.iconst 1, 1) := by decide +kernel
theorem dX9_catches_54 : decode cX9_catches 54 = .ok (.iload_n 1, 1) := by decide +kernel
theorem dX9_catches_55 : decode cX9_catches 55 = .ok (.ishl, 1) := by decide +kernel
theorem dX9_catches_56 : decode cX9_catches 56 = .ok (.invokestatic 162, 3) := by decide +kernel
theorem dX9_catches_59 : decode cX9_catches 59 = .ok (.iload_n 3, 1) := by decide +kernel
theorem dX9_catches_60 : decode cX9_catches 60 = .ok (.aload_n 0, 1) := by decide +kernel
theorem dX9_catches_61 : decode cX9_catches 61 = .ok (.invokevirtual 199, 3) := by decide +kernel
theorem dX9_catches_64 : decode cX9_catches 64 = .ok (.iload_n 2, 1) := by decide +kernel
theorem dX9_catches_65 : decode cX9_catches 65 = .ok (.iand, 1) := by decide +kernel
theorem dX9_catches_66 : decode cX9_catches 66 = .ok (.invokestatic 152, 3) := by decide +kernel
theorem dX9_catches_69 : decode cX9_catches 69 = .ok (.isub, 1) := by decide +kernel
theorem dX9_catches_70 : decode cX9_catches 70 = .ok (.ireturn, 1) := by decide +kernel
theorem dX9_beloved_0 : decode cX9_beloved 0 = .ok (.aload_n 0, 1) := by decide +kernel
theorem dX9_beloved_1 : decode cX9_beloved 1 = .ok (.invokevirtual 180, 3) := by decide +kernel
theorem dX9_beloved_4 : decode cX9_beloved 4 = .ok (.ifCond .ne 6, 3) := by decide +kernel
theorem dX9_beloved_7 : decode cX9_beloved 7 = .ok (.ldc 183, 2) := by decide +kernel
theorem dX9_beloved_9 : decode cX9_beloved 9 = .ok (.ireturn, 1) := by decide +kernel
theorem dX9_beloved_10 : decode cX9_beloved 10 = .ok (.iload_n 1, 1) := by decide +kernel
theorem dX9_beloved_11 : decode cX9_beloved 11 = .ok (.iconst 0, 1) := by decide +kernel
theorem dX9_beloved_12 : decode cX9_beloved 12 = .ok (.iconst 1, 1) := by decide +kernel
theorem dX9_beloved_13 : decode cX9_beloved 13 = .ok (.invokestatic 59, 3) := by decide +kernel
theorem dX9_beloved_16 : decode cX9_beloved 16 = .ok (.ifCond .ne 6, 3) := by decide +kernel
theorem dX9_beloved_19 : decode cX9_beloved 19 = .ok (.ldc 67, 2) := by decide +kernel
theorem dX9_beloved_21 : decode cX9_beloved 21 = .ok (.ireturn, 1) := by decide +kernel
theorem dX9_beloved_22 : decode cX9_beloved 22 = .ok (.ldc 53, 2) := by decide +kernel
theorem dX9_beloved_24 : decode cX9_beloved 24 = .ok (.istore_n 2, 1) := by decide +kernel
theorem dX9_beloved_25 : decode cX9_beloved 25 = .ok (.iconst 0, 1) := by decide +kernel
theorem dX9_beloved_26 : decode cX9_beloved 26 = .ok (.istore_n 3, 1) := by decide +kernel
theorem dX9_beloved_27 : decode cX9_beloved 27 = .ok (.iconst 0, 1) := by decide +kernel
theorem dX9_beloved_28 : decode cX9_beloved 28 = .ok (.istore 4, 2) := by decide +kernel
theorem dX9_beloved_30 : decode cX9_beloved 30 = .ok (.iload 4, 2) := by decide +kernel
theorem dX9_beloved_32 : decode cX9_beloved 32 = .ok (.aload_n 0, 1) := by decide +kernel
theorem dX9_beloved_33 : decode cX9_beloved 33 = .ok (.getfield 25, 3) := by decide +kernel
theorem dX9_beloved_36 : decode cX9_beloved 36 = .ok (.iconst 5, 1) := by decide +kernel
theorem dX9_beloved_37 : decode cX9_beloved 37 = .ok (.iaload, 1) := by decide +kernel
theorem dX9_beloved_38 : decode cX9_beloved 38 = .ok (.if_icmp .ge 107, 3) := by decide +kernel
theorem dX9_beloved_41 : decode cX9_beloved 41 = .ok (.iconst 0, 1) := by decide +kernel
theorem dX9_beloved_42 : decode cX9_beloved 42 = .ok (.istore 5, 2) := by decide +kernel
theorem dX9_beloved_44 : decode cX9_beloved 44 = .ok (.iconst 0, 1) := by decide +kernel
theorem dX9_beloved_45 : decode cX9_beloved 45 = .ok (.istore 6, 2) := by decide +kernel
theorem dX9_beloved_47 : decode cX9_beloved 47 = .ok (.iload 6, 2) := by decide +kernel
theorem dX9_beloved_49 : decode cX9_beloved 49 = .ok (.aload_n 0, 1) := by decide +kernel
theorem dX9_beloved_50 : decode cX9_beloved 50 = .ok (.getfield 25, 3) := by decide +kernel
theorem dX9_beloved_53 : decode cX9_beloved 53 = .ok (.iconst 5, 1) := by decide +kernel
theorem dX9_beloved_54 : decode cX9_beloved 54 = .ok (.iaload, 1) := by decide +kernel
theorem dX9_beloved_55 : decode cX9_beloved 55 = .ok (.if_icmp .ge 58, 3) := by decide +kernel
theorem dX9_beloved_58 : decode cX9_beloved 58 = .ok (.iload 5, 2) := by decide +kernel
theorem dX9_beloved_60 : decode cX9_beloved 60 = .ok (.iload 6, 2) := by decide +kernel
theorem dX9_beloved_62 : decode cX9_beloved 62 = .ok (.iload 4, 2) := by decide +kernel
theorem dX9_beloved_64 : decode cX9_beloved 64 = .ok (.if_icmp .eq 39, 3) := by decide +kernel
theorem dX9_beloved_67 : decode cX9_beloved 67 = .ok (.aload_n 0, 1) := by decide +kernel
theorem dX9_beloved_68 : decode cX9_beloved 68 = .ok (.getfield 25, 3) := by decide +kernel
theorem dX9_beloved_71 : decode cX9_beloved 71 = .ok (.iload 6, 2) := by decide +kernel
theorem dX9_beloved_73 : decode cX9_beloved 73 = .ok (.invokestatic 144, 3) := by decide +kernel
theorem dX9_beloved_76 : decode cX9_beloved 76 = .ok (.ifCond .eq 27, 3) := by decide +kernel
theorem dX9_beloved_79 : decode cX9_beloved 79 = .ok (.aload_n 0, 1) := by decide +kernel
theorem dX9_beloved_80 : decode cX9_beloved 80 = .ok (.getfield 25, 3) := by decide +kernel
theorem dX9_beloved_83 : decode cX9_beloved 83 = .ok (.bipush 21, 2) := by decide +kernel
theorem dX9_beloved_85 : decode cX9_beloved 85 = .ok (.bipush 6, 2) := by decide +kernel
theorem dX9_beloved_87 : decode cX9_beloved 87 = .ok (.iload 6, 2) := by decide +kernel
theorem dX9_beloved_89 : decode cX9_beloved 89 = .ok (.imul, 1) := by decide +kernel
theorem dX9_beloved_90 : decode cX9_beloved 90 = .ok (.iadd, 1) := by decide +kernel
theorem dX9_beloved_91 : decode cX9_beloved 91 = .ok (.iconst 3, 1) := by decide +kernel
theorem dX9_beloved_92 : decode cX9_beloved 92 = .ok (.iadd, 1) := by decide +kernel
theorem dX9_beloved_93 : decode cX9_beloved 93 = .ok (.iaload, 1) := by decide +kernel
theorem dX9_beloved_94 : decode cX9_beloved 94 = .ok (.iload 4, 2) := by decide +kernel
theorem dX9_beloved_96 : decode cX9_beloved 96 = .ok (.if_icmp .ne 7, 3) := by decide +kernel
theorem dX9_beloved_99 : decode cX9_beloved 99 = .ok (.iconst 1, 1) := by decide +kernel
theorem dX9_beloved_100 : decode cX9_beloved 100 = .ok (.goto 4, 3) := by decide +kernel
theorem dX9_beloved_103 : decode cX9_beloved 103 = .ok (.iconst 0, 1) := by decide +kernel
theorem dX9_beloved_104 : decode cX9_beloved 104 = .ok (.iadd, 1) := by decide +kernel
theorem dX9_beloved_105 : decode cX9_beloved 105 = .ok (.istore 5, 2) := by decide +kernel
theorem dX9_beloved_107 : decode cX9_beloved 107 = .ok (.iinc 6 1, 3) := by decide +kernel
theorem dX9_beloved_110 : decode cX9_beloved 110 = .ok (.goto (-63), 3) := by decide +kernel
theorem dX9_beloved_113 : decode cX9_beloved 113 = .ok (.iload 5, 2) := by decide +kernel
theorem dX9_beloved_115 : decode cX9_beloved 115 = .ok (.iload_n 3, 1) := by decide +kernel
theorem dX9_beloved_116 : decode cX9_beloved 116 = .ok (.if_icmp .le 8, 3) := by decide +kernel
theorem dX9_beloved_119 : decode cX9_beloved 119 = .ok (.iload 4, 2) := by decide +kernel
theorem dX9_beloved_121 : decode cX9_beloved 121 = .ok (.goto 4, 3) := by decide +kernel
theorem dX9_beloved_124 : decode cX9_beloved 124 = .ok (.iload_n 2, 1) := by decide +kernel
theorem dX9_beloved_125 : decode cX9_beloved 125 = .ok (.istore_n 2, 1) := by decide +kernel
theorem dX9_beloved_126 : decode cX9_beloved 126 = .ok (.iload 5, 2) := by decide +kernel
theorem dX9_beloved_128 : decode cX9_beloved 128 = .ok (.iload_n 3, 1) := by decide +kernel
theorem dX9_beloved_129 : decode cX9_beloved 129 = .ok (.if_icmp .le 8, 3) := by decide +kernel
theorem dX9_beloved_132 : decode cX9_beloved 132 = .ok (.iload 5, 2) := by decide +kernel
theorem dX9_beloved_134 : decode cX9_beloved 134 = .ok (.goto 4, 3) := by decide +kernel
theorem dX9_beloved_137 : decode cX9_beloved 137 = .ok (.iload_n 3, 1) := by decide +kernel
theorem dX9_beloved_138 : decode cX9_beloved 138 = .ok (.istore_n 3, 1) := by decide +kernel
theorem dX9_beloved_139 : decode cX9_beloved 139 = .ok (.iinc 4 1, 3) := by decide +kernel
theorem dX9_beloved_142 : decode cX9_beloved 142 = .ok (.goto (-112), 3) := by decide +kernel
theorem dX9_beloved_145 : decode cX9_beloved 145 = .ok (.iload_n 2, 1) := by decide +kernel
theorem dX9_beloved_146 : decode cX9_beloved 146 = .ok (.ldc 53, 2) := by decide +kernel
theorem dX9_beloved_148 : decode cX9_beloved 148 = .ok (.if_icmp .eq 7, 3) := by decide +kernel
theorem dX9_beloved_151 : decode cX9_beloved 151 = .ok (.iload_n 1, 1) := by decide +kernel
theorem dX9_beloved_152 : decode cX9_beloved 152 = .ok (.ifCond .ne 7, 3) := by decide +kernel
theorem dX9_beloved_155 : decode cX9_beloved 155 = .ok (.iload_n 2, 1) := by decide +kernel
theorem dX9_beloved_156 : decode cX9_beloved 156 = .ok (.goto 4, 3) := by decide +kernel
theorem dX9_beloved_159 : decode cX9_beloved 159 = .ok (.iload_n 3, 1) := by decide +kernel
theorem dX9_beloved_160 : decode cX9_beloved 160 = .ok (.ireturn, 1) := by decide +kernel
theorem dX9_goesSo_0 : decode cX9_goesSo 0 = .ok (.iconst 1, 1) := by decide +kernel
theorem dX9_goesSo_1 : decode cX9_goesSo 1 = .ok (.istore_n 3, 1) := by decide +kernel
theorem dX9_goesSo_2 : decode cX9_goesSo 2 = .ok (.iconst 0, 1) := by decide +kernel
theorem dX9_goesSo_3 : decode cX9_goesSo 3 = .ok (.istore 4, 2) := by decide +kernel
theorem dX9_goesSo_5 : decode cX9_goesSo 5 = .ok (.iload 4, 2) := by decide +kernel
theorem dX9_goesSo_7 : decode cX9_goesSo 7 = .ok (.iload_n 2, 1) := by decide +kernel
theorem dX9_goesSo_8 : decode cX9_goesSo 8 = .ok (.if_icmp .ge 45, 3) := by decide +kernel
theorem dX9_goesSo_11 : decode cX9_goesSo 11 = .ok (.aload_n 0, 1) := by decide +kernel
theorem dX9_goesSo_12 : decode cX9_goesSo 12 = .ok (.getfield 31, 3) := by decide +kernel
theorem dX9_goesSo_15 : decode cX9_goesSo 15 = .ok (.invokestatic 173, 3) := by decide +kernel
theorem dX9_goesSo_18 : decode cX9_goesSo 18 = .ok (.iload_n 3, 1) := by decide +kernel
theorem dX9_goesSo_19 : decode cX9_goesSo 19 = .ok (.ifCond .eq 26, 3) := by decide +kernel
theorem dX9_goesSo_22 : decode cX9_goesSo 22 = .ok (.aload_n 0, 1) := by decide +kernel
theorem dX9_goesSo_23 : decode cX9_goesSo 23 = .ok (.getfield 31, 3) := by decide +kernel
theorem dX9_goesSo_26 : decode cX9_goesSo 26 = .ok (.invokestatic 177, 3) := by decide +kernel
theorem dX9_goesSo_29 : decode cX9_goesSo 29 = .ok (.aload_n 0, 1) := by decide +kernel
theorem dX9_goesSo_30 : decode cX9_goesSo 30 = .ok (.getfield 16, 3) := by decide +kernel
theorem dX9_goesSo_33 : decode cX9_goesSo 33 = .ok (.iload_n 1, 1) := by decide +kernel
theorem dX9_goesSo_34 : decode cX9_goesSo 34 = .ok (.iload 4, 2) := by decide +kernel
theorem dX9_goesSo_36 : decode cX9_goesSo 36 = .ok (.iadd, 1) := by decide +kernel
theorem dX9_goesSo_37 : decode cX9_goesSo 37 = .ok (.iaload, 1) := by decide +kernel
theorem dX9_goesSo_38 : decode cX9_goesSo 38 = .ok (.if_icmp .ne 7, 3) := by decide +kernel
theorem dX9_goesSo_41 : decode cX9_goesSo 41 = .ok (.iconst 1, 1) := by decide +kernel
theorem dX9_goesSo_42 : decode cX9_goesSo 42 = .ok (.goto 4, 3) := by decide +kernel
theorem dX9_goesSo_45 : decode cX9_goesSo 45 = .ok (.iconst 0, 1) := by decide +kernel
theorem dX9_goesSo_46 : decode cX9_goesSo 46 = .ok (.istore_n 3, 1) := by decide +kernel
theorem dX9_goesSo_47 : decode cX9_goesSo 47 = .ok (.iinc 4 1, 3) := by decide +kernel
theorem dX9_goesSo_50 : decode cX9_goesSo 50 = .ok (.goto (-45), 3) := by decide +kernel
theorem dX9_goesSo_53 : decode cX9_goesSo 53 = .ok (.iload_n 3, 1) := by decide +kernel
theorem dX9_goesSo_54 : decode cX9_goesSo 54 = .ok (.ireturn, 1) := by decide +kernel
theorem dX9_fits_0 : decode cX9_fits 0 = .ok (.aload_n 0, 1) := by decide +kernel
theorem dX9_fits_1 : decode cX9_fits 1 = .ok (.iload_n 1, 1) := by decide +kernel
theorem dX9_fits_2 : decode cX9_fits 2 = .ok (.invokevirtual 187, 3) := by decide +kernel
theorem dX9_fits_5 : decode cX9_fits 5 = .ok (.ifCond .eq 36, 3) := by decide +kernel
theorem dX9_fits_8 : decode cX9_fits 8 = .ok (.iload_n 2, 1) := by decide +kernel
theorem dX9_fits_9 : decode cX9_fits 9 = .ok (.invokestatic 63, 3) := by decide +kernel
theorem dX9_fits_12 : decode cX9_fits 12 = .ok (.ifCond .eq 29, 3) := by decide +kernel
theorem dX9_fits_15 : decode cX9_fits 15 = .ok (.iload 4, 2) := by decide +kernel
theorem dX9_fits_17 : decode cX9_fits 17 = .ok (.iconst 1, 1) := by decide +kernel
theorem dX9_fits_18 : decode cX9_fits 18 = .ok (.aload_n 0, 1) := by decide +kernel
theorem dX9_fits_19 : decode cX9_fits 19 = .ok (.getfield 25, 3) := by decide +kernel
theorem dX9_fits_22 : decode cX9_fits 22 = .ok (.invokestatic 170, 3) := by decide +kernel
theorem dX9_fits_25 : decode cX9_fits 25 = .ok (.invokestatic 59, 3) := by decide +kernel
theorem dX9_fits_28 : decode cX9_fits 28 = .ok (.ifCond .eq 13, 3) := by decide +kernel
theorem dX9_fits_31 : decode cX9_fits 31 = .ok (.iload 5, 2) := by decide +kernel
theorem dX9_fits_33 : decode cX9_fits 33 = .ok (.iconst 0, 1) := by decide +kernel
theorem dX9_fits_34 : decode cX9_fits 34 = .ok (.iconst 1, 1) := by decide +kernel
theorem dX9_fits_35 : decode cX9_fits 35 = .ok (.invokestatic 59, 3) := by decide +kernel
theorem dX9_fits_38 : decode cX9_fits 38 = .ok (.ifCond .ne 6, 3) := by decide +kernel
theorem dX9_fits_41 : decode cX9_fits 41 = .ok (.ldc 67, 2) := by decide +kernel
theorem dX9_fits_43 : decode cX9_fits 43 = .ok (.ireturn, 1) := by decide +kernel
theorem dX9_fits_44 : decode cX9_fits 44 = .ok (.aload_n 0, 1) := by decide +kernel
theorem dX9_fits_45 : decode cX9_fits 45 = .ok (.iload_n 2, 1) := by decide +kernel
theorem dX9_fits_46 : decode cX9_fits 46 = .ok (.invokevirtual 75, 3) := by decide +kernel
theorem dX9_fits_49 : decode cX9_fits 49 = .ok (.ifCond .eq 9, 3) := by decide +kernel
theorem dX9_fits_52 : decode cX9_fits 52 = .ok (.aload_n 0, 1) := by decide +kernel
theorem dX9_fits_53 : decode cX9_fits 53 = .ok (.iconst 1, 1) := by decide +kernel
theorem dX9_fits_54 : decode cX9_fits 54 = .ok (.invokevirtual 68, 3) := by decide +kernel
theorem dX9_fits_57 : decode cX9_fits 57 = .ok (.ireturn, 1) := by decide +kernel
theorem dX9_fits_58 : decode cX9_fits 58 = .ok (.aload_n 0, 1) := by decide +kernel
theorem dX9_fits_59 : decode cX9_fits 59 = .ok (.iload_n 2, 1) := by decide +kernel
theorem dX9_fits_60 : decode cX9_fits 60 = .ok (.iload_n 3, 1) := by decide +kernel
theorem dX9_fits_61 : decode cX9_fits 61 = .ok (.iload 4, 2) := by decide +kernel
theorem dX9_fits_63 : decode cX9_fits 63 = .ok (.invokevirtual 82, 3) := by decide +kernel
theorem dX9_fits_66 : decode cX9_fits 66 = .ok (.ifCond .ne 9, 3) := by decide +kernel
theorem dX9_fits_69 : decode cX9_fits 69 = .ok (.aload_n 0, 1) := by decide +kernel
theorem dX9_fits_70 : decode cX9_fits 70 = .ok (.iconst 2, 1) := by decide +kernel
theorem dX9_fits_71 : decode cX9_fits 71 = .ok (.invokevirtual 68, 3) := by decide +kernel
theorem dX9_fits_74 : decode cX9_fits 74 = .ok (.ireturn, 1) := by decide +kernel
theorem dX9_fits_75 : decode cX9_fits 75 = .ok (.bipush 21, 2) := by decide +kernel
theorem dX9_fits_77 : decode cX9_fits 77 = .ok (.bipush 6, 2) := by decide +kernel
theorem dX9_fits_79 : decode cX9_fits 79 = .ok (.iload_n 1, 1) := by decide +kernel
theorem dX9_fits_80 : decode cX9_fits 80 = .ok (.imul, 1) := by decide +kernel
theorem dX9_fits_81 : decode cX9_fits 81 = .ok (.iadd, 1) := by decide +kernel
theorem dX9_fits_82 : decode cX9_fits 82 = .ok (.iload 5, 2) := by decide +kernel
theorem dX9_fits_84 : decode cX9_fits 84 = .ok (.ifCond .ne 7, 3) := by decide +kernel
theorem dX9_fits_87 : decode cX9_fits 87 = .ok (.iconst 0, 1) := by decide +kernel
theorem dX9_fits_88 : decode cX9_fits 88 = .ok (.goto 4, 3) := by decide +kernel
theorem dX9_fits_91 : decode cX9_fits 91 = .ok (.iconst 2, 1) := by decide +kernel
theorem dX9_fits_92 : decode cX9_fits 92 = .ok (.iadd, 1) := by decide +kernel
theorem dX9_fits_93 : decode cX9_fits 93 = .ok (.istore 6, 2) := by decide +kernel
theorem dX9_fits_95 : decode cX9_fits 95 = .ok (.iload 5, 2) := by decide +kernel
theorem dX9_fits_97 : decode cX9_fits 97 = .ok (.ifCond .ne 7, 3) := by decide +kernel
theorem dX9_fits_100 : decode cX9_fits 100 = .ok (.iconst 1, 1) := by decide +kernel
theorem dX9_fits_101 : decode cX9_fits 101 = .ok (.goto 4, 3) := by decide +kernel
theorem dX9_fits_104 : decode cX9_fits 104 = .ok (.iconst 0, 1) := by decide +kernel
theorem dX9_fits_105 : decode cX9_fits 105 = .ok (.istore 7, 2) := by decide +kernel
theorem dX9_fits_107 : decode cX9_fits 107 = .ok (.iload 5, 2) := by decide +kernel
theorem dX9_fits_109 : decode cX9_fits 109 = .ok (.ifCond .ne 7, 3) := by decide +kernel
theorem dX9_fits_112 : decode cX9_fits 112 = .ok (.iconst 5, 1) := by decide +kernel
theorem dX9_fits_113 : decode cX9_fits 113 = .ok (.goto 5, 3) := by decide +kernel
theorem dX9_fits_116 : decode cX9_fits 116 = .ok (.bipush 6, 2) := by decide +kernel
theorem dX9_fits_118 : decode cX9_fits 118 = .ok (.istore 8, 2) := by decide +kernel
theorem dX9_fits_120 : decode cX9_fits 120 = .ok (.iconst 0, 1) := by decide +kernel
theorem dX9_fits_121 : decode cX9_fits 121 = .ok (.istore 9, 2) := by decide +kernel
theorem dX9_fits_123 : decode cX9_fits 123 = .ok (.iload 7, 2) := by decide +kernel
theorem dX9_fits_125 : decode cX9_fits 125 = .ok (.istore 10, 2) := by decide +kernel
theorem dX9_fits_127 : decode cX9_fits 127 = .ok (.iload 10, 2) := by decide +kernel
theorem dX9_fits_129 : decode cX9_fits 129 = .ok (.iload 8, 2) := by decide +kernel
theorem dX9_fits_131 : decode cX9_fits 131 = .ok (.if_icmp .gt 50, 3) := by decide +kernel
theorem dX9_fits_134 : decode cX9_fits 134 = .ok (.aload_n 0, 1) := by decide +kernel
theorem dX9_fits_135 : decode cX9_fits 135 = .ok (.invokevirtual 196, 3) := by decide +kernel
theorem dX9_fits_138 : decode cX9_fits 138 = .ok (.aload_n 0, 1) := by decide +kernel
theorem dX9_fits_139 : decode cX9_fits 139 = .ok (.getfield 31, 3) := by decide +kernel
theorem dX9_fits_142 : decode cX9_fits 142 = .ok (.iload 6, 2) := by decide +kernel
theorem dX9_fits_144 : decode cX9_fits 144 = .ok (.iload 10, 2) := by decide +kernel
theorem dX9_fits_146 : decode cX9_fits 146 = .ok (.iastore, 1) := by decide +kernel
theorem dX9_fits_147 : decode cX9_fits 147 = .ok (.iload 9, 2) := by decide +kernel
theorem dX9_fits_149 : decode cX9_fits 149 = .ok (.aload_n 0, 1) := by decide +kernel
theorem dX9_fits_150 : decode cX9_fits 150 = .ok (.bipush 40, 2) := by decide +kernel
theorem dX9_fits_152 : decode cX9_fits 152 = .ok (.iload_n 2, 1) := by decide +kernel
theorem dX9_fits_153 : decode cX9_fits 153 = .ok (.imul, 1) := by decide +kernel
theorem dX9_fits_154 : decode cX9_fits 154 = .ok (.iload_n 3, 1) := by decide +kernel
theorem dX9_fits_155 : decode cX9_fits 155 = .ok (.iadd, 1) := by decide +kernel
theorem dX9_fits_156 : decode cX9_fits 156 = .ok (.iload 4, 2) := by decide +kernel
theorem dX9_fits_158 : decode cX9_fits 158 = .ok (.invokevirtual 209, 3) := by decide +kernel
theorem dX9_fits_161 : decode cX9_fits 161 = .ok (.ifCond .eq 10, 3) := by decide +kernel
theorem dX9_fits_164 : decode cX9_fits 164 = .ok (.iconst 1, 1) := by decide +kernel
theorem dX9_fits_165 : decode cX9_fits 165 = .ok (.iload 10, 2) := by decide +kernel
theorem dX9_fits_167 : decode cX9_fits 167 = .ok (.ishl, 1) := by decide +kernel
theorem dX9_fits_168 : decode cX9_fits 168 = .ok (.goto 4, 3) := by decide +kernel
theorem dX9_fits_171 : decode cX9_fits 171 = .ok (.iconst 0, 1) := by decide +kernel
theorem dX9_fits_172 : decode cX9_fits 172 = .ok (.ior, 1) := by decide +kernel
theorem dX9_fits_173 : decode cX9_fits 173 = .ok (.istore 9, 2) := by decide +kernel
theorem dX9_fits_175 : decode cX9_fits 175 = .ok (.iinc 10 1, 3) := by decide +kernel
theorem dX9_fits_178 : decode cX9_fits 178 = .ok (.goto (-51), 3) := by decide +kernel
theorem dX9_fits_181 : decode cX9_fits 181 = .ok (.aload_n 0, 1) := by decide +kernel
theorem dX9_fits_182 : decode cX9_fits 182 = .ok (.iload 9, 2) := by decide +kernel
theorem dX9_fits_184 : decode cX9_fits 184 = .ok (.invokevirtual 72, 3) := by decide +kernel
theorem dX9_fits_187 : decode cX9_fits 187 = .ok (.ireturn, 1) := by decide +kernel
theorem dX9_asked_0 : decode cX9_asked 0 = .ok (.aload_n 0, 1) := by decide +kernel
theorem dX9_asked_1 : decode cX9_asked 1 = .ok (.invokevirtual 180, 3) := by decide +kernel
theorem dX9_asked_4 : decode cX9_asked 4 = .ok (.ifCond .eq 13, 3) := by decide +kernel
theorem dX9_asked_7 : decode cX9_asked 7 = .ok (.aload_n 0, 1) := by decide +kernel
theorem dX9_asked_8 : decode cX9_asked 8 = .ok (.getfield 25, 3) := by decide +kernel
theorem dX9_asked_11 : decode cX9_asked 11 = .ok (.invokestatic 170, 3) := by decide +kernel
theorem dX9_asked_14 : decode cX9_asked 14 = .ok (.ifCond .ne 6, 3) := by decide +kernel
theorem dX9_asked_17 : decode cX9_asked 17 = .ok (.ldc 183, 2) := by decide +kernel
theorem dX9_asked_19 : decode cX9_asked 19 = .ok (.ireturn, 1) := by decide +kernel
theorem dX9_asked_20 : decode cX9_asked 20 = .ok (.iload_n 1, 1) := by decide +kernel
theorem dX9_asked_21 : decode cX9_asked 21 = .ok (.invokestatic 63, 3) := by decide +kernel
theorem dX9_asked_24 : decode cX9_asked 24 = .ok (.ifCond .eq 18, 3) := by decide +kernel
theorem dX9_asked_27 : decode cX9_asked 27 = .ok (.iload_n 3, 1) := by decide +kernel
theorem dX9_asked_28 : decode cX9_asked 28 = .ok (.iconst 1, 1) := by decide +kernel
theorem dX9_asked_29 : decode cX9_asked 29 = .ok (.aload_n 0, 1) := by decide +kernel
theorem dX9_asked_30 : decode cX9_asked 30 = .ok (.getfield 25, 3) := by decide +kernel
theorem dX9_asked_33 : decode cX9_asked 33 = .ok (.invokestatic 170, 3) := by decide +kernel
theorem dX9_asked_36 : decode cX9_asked 36 = .ok (.invokestatic 59, 3) := by decide +kernel
theorem dX9_asked_39 : decode cX9_asked 39 = .ok (.ifCond .ne 6, 3) := by decide +kernel
theorem dX9_asked_42 : decode cX9_asked 42 = .ok (.ldc 67, 2) := by decide +kernel
theorem dX9_asked_44 : decode cX9_asked 44 = .ok (.ireturn, 1) := by decide +kernel
theorem dX9_asked_45 : decode cX9_asked 45 = .ok (.aload_n 0, 1) := by decide +kernel
theorem dX9_asked_46 : decode cX9_asked 46 = .ok (.iload_n 1, 1) := by decide +kernel
theorem dX9_asked_47 : decode cX9_asked 47 = .ok (.invokevirtual 75, 3) := by decide +kernel
theorem dX9_asked_50 : decode cX9_asked 50 = .ok (.ifCond .eq 9, 3) := by decide +kernel
theorem dX9_asked_53 : decode cX9_asked 53 = .ok (.aload_n 0, 1) := by decide +kernel
theorem dX9_asked_54 : decode cX9_asked 54 = .ok (.iconst 1, 1) := by decide +kernel
theorem dX9_asked_55 : decode cX9_asked 55 = .ok (.invokevirtual 68, 3) := by decide +kernel
theorem dX9_asked_58 : decode cX9_asked 58 = .ok (.ireturn, 1) := by decide +kernel
theorem dX9_asked_59 : decode cX9_asked 59 = .ok (.aload_n 0, 1) := by decide +kernel
theorem dX9_asked_60 : decode cX9_asked 60 = .ok (.iload_n 1, 1) := by decide +kernel
theorem dX9_asked_61 : decode cX9_asked 61 = .ok (.iload_n 2, 1) := by decide +kernel
theorem dX9_asked_62 : decode cX9_asked 62 = .ok (.iload_n 3, 1) := by decide +kernel
theorem dX9_asked_63 : decode cX9_asked 63 = .ok (.invokevirtual 82, 3) := by decide +kernel
theorem dX9_asked_66 : decode cX9_asked 66 = .ok (.ifCond .ne 9, 3) := by decide +kernel
theorem dX9_asked_69 : decode cX9_asked 69 = .ok (.aload_n 0, 1) := by decide +kernel
theorem dX9_asked_70 : decode cX9_asked 70 = .ok (.iconst 2, 1) := by decide +kernel
theorem dX9_asked_71 : decode cX9_asked 71 = .ok (.invokevirtual 68, 3) := by decide +kernel
theorem dX9_asked_74 : decode cX9_asked 74 = .ok (.ireturn, 1) := by decide +kernel
theorem dX9_asked_75 : decode cX9_asked 75 = .ok (.iconst 0, 1) := by decide +kernel
theorem dX9_asked_76 : decode cX9_asked 76 = .ok (.istore 4, 2) := by decide +kernel
theorem dX9_asked_78 : decode cX9_asked 78 = .ok (.iconst 0, 1) := by decide +kernel
theorem dX9_asked_79 : decode cX9_asked 79 = .ok (.istore 5, 2) := by decide +kernel
theorem dX9_asked_81 : decode cX9_asked 81 = .ok (.iload 5, 2) := by decide +kernel
theorem dX9_asked_83 : decode cX9_asked 83 = .ok (.bipush 21, 2) := by decide +kernel
theorem dX9_asked_85 : decode cX9_asked 85 = .ok (.if_icmp .ge 64, 3) := by decide +kernel
theorem dX9_asked_88 : decode cX9_asked 88 = .ok (.aload_n 0, 1) := by decide +kernel
theorem dX9_asked_89 : decode cX9_asked 89 = .ok (.invokevirtual 196, 3) := by decide +kernel
theorem dX9_asked_92 : decode cX9_asked 92 = .ok (.aload_n 0, 1) := by decide +kernel
theorem dX9_asked_93 : decode cX9_asked 93 = .ok (.getfield 31, 3) := by decide +kernel
theorem dX9_asked_96 : decode cX9_asked 96 = .ok (.bipush 11, 2) := by decide +kernel
theorem dX9_asked_98 : decode cX9_asked 98 = .ok (.aload_n 0, 1) := by decide +kernel
theorem dX9_asked_99 : decode cX9_asked 99 = .ok (.getfield 25, 3) := by decide +kernel
theorem dX9_asked_102 : decode cX9_asked 102 = .ok (.bipush 6, 2) := by decide +kernel
theorem dX9_asked_104 : decode cX9_asked 104 = .ok (.aload_n 0, 1) := by decide +kernel
theorem dX9_asked_105 : decode cX9_asked 105 = .ok (.getfield 25, 3) := by decide +kernel
theorem dX9_asked_108 : decode cX9_asked 108 = .ok (.iconst 3, 1) := by decide +kernel
theorem dX9_asked_109 : decode cX9_asked 109 = .ok (.iaload, 1) := by decide +kernel
theorem dX9_asked_110 : decode cX9_asked 110 = .ok (.iadd, 1) := by decide +kernel
theorem dX9_asked_111 : decode cX9_asked 111 = .ok (.iaload, 1) := by decide +kernel
theorem dX9_asked_112 : decode cX9_asked 112 = .ok (.iadd, 1) := by decide +kernel
theorem dX9_asked_113 : decode cX9_asked 113 = .ok (.iload 5, 2) := by decide +kernel
theorem dX9_asked_115 : decode cX9_asked 115 = .ok (.iastore, 1) := by decide +kernel
theorem dX9_asked_116 : decode cX9_asked 116 = .ok (.iload 4, 2) := by decide +kernel
theorem dX9_asked_118 : decode cX9_asked 118 = .ok (.aload_n 0, 1) := by decide +kernel
theorem dX9_asked_119 : decode cX9_asked 119 = .ok (.bipush 40, 2) := by decide +kernel
theorem dX9_asked_121 : decode cX9_asked 121 = .ok (.iload_n 1, 1) := by decide +kernel
theorem dX9_asked_122 : decode cX9_asked 122 = .ok (.imul, 1) := by decide +kernel
theorem dX9_asked_123 : decode cX9_asked 123 = .ok (.iload_n 2, 1) := by decide +kernel
theorem dX9_asked_124 : decode cX9_asked 124 = .ok (.iadd, 1) := by decide +kernel
theorem dX9_asked_125 : decode cX9_asked 125 = .ok (.iload_n 3, 1) := by decide +kernel
theorem dX9_asked_126 : decode cX9_asked 126 = .ok (.invokevirtual 209, 3) := by decide +kernel
theorem dX9_asked_129 : decode cX9_asked 129 = .ok (.ifCond .eq 10, 3) := by decide +kernel
theorem dX9_asked_132 : decode cX9_asked 132 = .ok (.iconst 1, 1) := by decide +kernel
theorem dX9_asked_133 : decode cX9_asked 133 = .ok (.iload 5, 2) := by decide +kernel
theorem dX9_asked_135 : decode cX9_asked 135 = .ok (.ishl, 1) := by decide +kernel
theorem dX9_asked_136 : decode cX9_asked 136 = .ok (.goto 4, 3) := by decide +kernel
theorem dX9_asked_139 : decode cX9_asked 139 = .ok (.iconst 0, 1) := by decide +kernel
theorem dX9_asked_140 : decode cX9_asked 140 = .ok (.ior, 1) := by decide +kernel
theorem dX9_asked_141 : decode cX9_asked 141 = .ok (.istore 4, 2) := by decide +kernel
theorem dX9_asked_143 : decode cX9_asked 143 = .ok (.iinc 5 1, 3) := by decide +kernel
theorem dX9_asked_146 : decode cX9_asked 146 = .ok (.goto (-65), 3) := by decide +kernel
theorem dX9_asked_149 : decode cX9_asked 149 = .ok (.aload_n 0, 1) := by decide +kernel
theorem dX9_asked_150 : decode cX9_asked 150 = .ok (.iload 4, 2) := by decide +kernel
theorem dX9_asked_152 : decode cX9_asked 152 = .ok (.invokevirtual 72, 3) := by decide +kernel
theorem dX9_asked_155 : decode cX9_asked 155 = .ok (.ireturn, 1) := by decide +kernel
theorem dX9_storm_0 : decode cX9_storm 0 = .ok (.aload_n 0, 1) := by decide +kernel
theorem dX9_storm_1 : decode cX9_storm 1 = .ok (.invokevirtual 180, 3) := by decide +kernel
theorem dX9_storm_4 : decode cX9_storm 4 = .ok (.ifCond .ne 6, 3) := by decide +kernel
theorem dX9_storm_7 : decode cX9_storm 7 = .ok (.ldc 183, 2) := by decide +kernel
theorem dX9_storm_9 : decode cX9_storm 9 = .ok (.ireturn, 1) := by decide +kernel
theorem dX9_storm_10 : decode cX9_storm 10 = .ok (.iload_n 1, 1) := by decide +kernel
theorem dX9_storm_11 : decode cX9_storm 11 = .ok (.iconst 0, 1) := by decide +kernel
theorem dX9_storm_12 : decode cX9_storm 12 = .ok (.bipush 6, 2) := by decide +kernel
theorem dX9_storm_14 : decode cX9_storm 14 = .ok (.invokestatic 59, 3) := by decide +kernel
theorem dX9_storm_17 : decode cX9_storm 17 = .ok (.ifCond .eq 22, 3) := by decide +kernel
theorem dX9_storm_20 : decode cX9_storm 20 = .ok (.iload_n 2, 1) := by decide +kernel
theorem dX9_storm_21 : decode cX9_storm 21 = .ok (.iconst 0, 1) := by decide +kernel
theorem dX9_storm_22 : decode cX9_storm 22 = .ok (.bipush 10, 2) := by decide +kernel
theorem dX9_storm_24 : decode cX9_storm 24 = .ok (.invokestatic 59, 3) := by decide +kernel
theorem dX9_storm_27 : decode cX9_storm 27 = .ok (.ifCond .eq 12, 3) := by decide +kernel
theorem dX9_storm_30 : decode cX9_storm 30 = .ok (.iload_n 3, 1) := by decide +kernel
theorem dX9_storm_31 : decode cX9_storm 31 = .ok (.iconst 0, 1) := by decide +kernel
theorem dX9_storm_32 : decode cX9_storm 32 = .ok (.iconst 1, 1) := by decide +kernel
theorem dX9_storm_33 : decode cX9_storm 33 = .ok (.invokestatic 59, 3) := by decide +kernel
theorem dX9_storm_36 : decode cX9_storm 36 = .ok (.ifCond .ne 6, 3) := by decide +kernel
theorem dX9_storm_39 : decode cX9_storm 39 = .ok (.ldc 67, 2) := by decide +kernel
theorem dX9_storm_41 : decode cX9_storm 41 = .ok (.ireturn, 1) := by decide +kernel
theorem dX9_storm_42 : decode cX9_storm 42 = .ok (.aload_n 0, 1) := by decide +kernel
theorem dX9_storm_43 : decode cX9_storm 43 = .ok (.getfield 25, 3) := by decide +kernel
theorem dX9_storm_46 : decode cX9_storm 46 = .ok (.invokestatic 177, 3) := by decide +kernel
theorem dX9_storm_49 : decode cX9_storm 49 = .ok (.istore 4, 2) := by decide +kernel
theorem dX9_storm_51 : decode cX9_storm 51 = .ok (.iconst 0, 1) := by decide +kernel
theorem dX9_storm_52 : decode cX9_storm 52 = .ok (.istore 5, 2) := by decide +kernel
theorem dX9_storm_54 : decode cX9_storm 54 = .ok (.iconst 1, 1) := by decide +kernel
theorem dX9_storm_55 : decode cX9_storm 55 = .ok (.istore 6, 2) := by decide +kernel
theorem dX9_storm_57 : decode cX9_storm 57 = .ok (.iconst 0, 1) := by decide +kernel
theorem dX9_storm_58 : decode cX9_storm 58 = .ok (.istore 7, 2) := by decide +kernel
theorem dX9_storm_60 : decode cX9_storm 60 = .ok (.iload 7, 2) := by decide +kernel
theorem dX9_storm_62 : decode cX9_storm 62 = .ok (.aload_n 0, 1) := by decide +kernel
theorem dX9_storm_63 : decode cX9_storm 63 = .ok (.getfield 25, 3) := by decide +kernel
theorem dX9_storm_66 : decode cX9_storm 66 = .ok (.iconst 5, 1) := by decide +kernel
theorem dX9_storm_67 : decode cX9_storm 67 = .ok (.iaload, 1) := by decide +kernel
theorem dX9_storm_68 : decode cX9_storm 68 = .ok (.if_icmp .ge 30, 3) := by decide +kernel
theorem dX9_storm_71 : decode cX9_storm 71 = .ok (.iload 6, 2) := by decide +kernel
theorem dX9_storm_73 : decode cX9_storm 73 = .ok (.iload 4, 2) := by decide +kernel
theorem dX9_storm_75 : decode cX9_storm 75 = .ok (.iload 7, 2) := by decide +kernel
theorem dX9_storm_77 : decode cX9_storm 77 = .ok (.invokestatic 148, 3) := by decide +kernel
theorem dX9_storm_80 : decode cX9_storm 80 = .ok (.ifCond .eq 8, 3) := by decide +kernel
theorem dX9_storm_83 : decode cX9_storm 83 = .ok (.bipush 10, 2) := by decide +kernel
theorem dX9_storm_85 : decode cX9_storm 85 = .ok (.goto 4, 3) := by decide +kernel
theorem dX9_storm_88 : decode cX9_storm 88 = .ok (.iconst 1, 1) := by decide +kernel
theorem dX9_storm_89 : decode cX9_storm 89 = .ok (.imul, 1) := by decide +kernel
theorem dX9_storm_90 : decode cX9_storm 90 = .ok (.istore 6, 2) := by decide +kernel
theorem dX9_storm_92 : decode cX9_storm 92 = .ok (.iinc 7 1, 3) := by decide +kernel
theorem dX9_storm_95 : decode cX9_storm 95 = .ok (.goto (-35), 3) := by decide +kernel
theorem dX9_storm_98 : decode cX9_storm 98 = .ok (.iconst 0, 1) := by decide +kernel
theorem dX9_storm_99 : decode cX9_storm 99 = .ok (.istore 7, 2) := by decide +kernel
theorem dX9_storm_101 : decode cX9_storm 101 = .ok (.iload 7, 2) := by decide +kernel
theorem dX9_storm_103 : decode cX9_storm 103 = .ok (.iload 4, 2) := by decide +kernel
theorem dX9_storm_105 : decode cX9_storm 105 = .ok (.if_icmp .gt 177, 3) := by decide +kernel
theorem dX9_storm_108 : decode cX9_storm 108 = .ok (.iload 7, 2) := by decide +kernel
theorem dX9_storm_110 : decode cX9_storm 110 = .ok (.iload 4, 2) := by decide +kernel
theorem dX9_storm_112 : decode cX9_storm 112 = .ok (.iconst (-1), 1) := by decide +kernel
theorem dX9_storm_113 : decode cX9_storm 113 = .ok (.ixor, 1) := by decide +kernel
theorem dX9_storm_114 : decode cX9_storm 114 = .ok (.iand, 1) := by decide +kernel
theorem dX9_storm_115 : decode cX9_storm 115 = .ok (.ifCond .ne 7, 3) := by decide +kernel
theorem dX9_storm_118 : decode cX9_storm 118 = .ok (.iconst 1, 1) := by decide +kernel
theorem dX9_storm_119 : decode cX9_storm 119 = .ok (.goto 4, 3) := by decide +kernel
theorem dX9_storm_122 : decode cX9_storm 122 = .ok (.iconst 0, 1) := by decide +kernel
theorem dX9_storm_123 : decode cX9_storm 123 = .ok (.istore 8, 2) := by decide +kernel
theorem dX9_storm_125 : decode cX9_storm 125 = .ok (.aload_n 0, 1) := by decide +kernel
theorem dX9_storm_126 : decode cX9_storm 126 = .ok (.invokevirtual 196, 3) := by decide +kernel
theorem dX9_storm_129 : decode cX9_storm 129 = .ok (.iconst 0, 1) := by decide +kernel
theorem dX9_storm_130 : decode cX9_storm 130 = .ok (.istore 9, 2) := by decide +kernel
theorem dX9_storm_132 : decode cX9_storm 132 = .ok (.iload 9, 2) := by decide +kernel
theorem dX9_storm_134 : decode cX9_storm 134 = .ok (.aload_n 0, 1) := by decide +kernel
theorem dX9_storm_135 : decode cX9_storm 135 = .ok (.getfield 25, 3) := by decide +kernel
theorem dX9_storm_138 : decode cX9_storm 138 = .ok (.iconst 5, 1) := by decide +kernel
theorem dX9_storm_139 : decode cX9_storm 139 = .ok (.iaload, 1) := by decide +kernel
theorem dX9_storm_140 : decode cX9_storm 140 = .ok (.if_icmp .ge 109, 3) := by decide +kernel
theorem dX9_storm_143 : decode cX9_storm 143 = .ok (.bipush 21, 2) := by decide +kernel
theorem dX9_storm_145 : decode cX9_storm 145 = .ok (.bipush 6, 2) := by decide +kernel
theorem dX9_storm_147 : decode cX9_storm 147 = .ok (.iload 9, 2) := by decide +kernel
theorem dX9_storm_149 : decode cX9_storm 149 = .ok (.imul, 1) := by decide +kernel
theorem dX9_storm_150 : decode cX9_storm 150 = .ok (.iadd, 1) := by decide +kernel
theorem dX9_storm_151 : decode cX9_storm 151 = .ok (.iconst 1, 1) := by decide +kernel
theorem dX9_storm_152 : decode cX9_storm 152 = .ok (.iadd, 1) := by decide +kernel
theorem dX9_storm_153 : decode cX9_storm 153 = .ok (.istore 10, 2) := by decide +kernel
theorem dX9_storm_155 : decode cX9_storm 155 = .ok (.iload 8, 2) := by decide +kernel
theorem dX9_storm_157 : decode cX9_storm 157 = .ok (.iload 4, 2) := by decide +kernel
theorem dX9_storm_159 : decode cX9_storm 159 = .ok (.iload 9, 2) := by decide +kernel
theorem dX9_storm_161 : decode cX9_storm 161 = .ok (.invokestatic 148, 3) := by decide +kernel
theorem dX9_storm_164 : decode cX9_storm 164 = .ok (.ifCond .ne 7, 3) := by decide +kernel
theorem dX9_storm_167 : decode cX9_storm 167 = .ok (.iconst 1, 1) := by decide +kernel
theorem dX9_storm_168 : decode cX9_storm 168 = .ok (.goto 21, 3) := by decide +kernel
theorem dX9_storm_171 : decode cX9_storm 171 = .ok (.iload 7, 2) := by decide +kernel
theorem dX9_storm_173 : decode cX9_storm 173 = .ok (.iload 9, 2) := by decide +kernel
theorem dX9_storm_175 : decode cX9_storm 175 = .ok (.invokestatic 148, 3) := by decide +kernel
theorem dX9_storm_178 : decode cX9_storm 178 = .ok (.ifCond .eq 7, 3) := by decide +kernel
theorem dX9_storm_181 : decode cX9_storm 181 = .ok (.iload_n 2, 1) := by decide +kernel
theorem dX9_storm_182 : decode cX9_storm 182 = .ok (.goto 7, 3) := by decide +kernel
theorem dX9_storm_185 : decode cX9_storm 185 = .ok (.bipush 10, 2) := by decide +kernel
theorem dX9_storm_187 : decode cX9_storm 187 = .ok (.iload_n 2, 1) := by decide +kernel
theorem dX9_storm_188 : decode cX9_storm 188 = .ok (.isub, 1) := by decide +kernel
theorem dX9_storm_189 : decode cX9_storm 189 = .ok (.imul, 1) := by decide +kernel
theorem dX9_storm_190 : decode cX9_storm 190 = .ok (.istore 8, 2) := by decide +kernel
theorem dX9_storm_192 : decode cX9_storm 192 = .ok (.aload_n 0, 1) := by decide +kernel
theorem dX9_storm_193 : decode cX9_storm 193 = .ok (.getfield 31, 3) := by decide +kernel
theorem dX9_storm_196 : decode cX9_storm 196 = .ok (.iload 10, 2) := by decide +kernel
theorem dX9_storm_198 : decode cX9_storm 198 = .ok (.iload 7, 2) := by decide +kernel
theorem dX9_storm_200 : decode cX9_storm 200 = .ok (.iload 9, 2) := by decide +kernel
theorem dX9_storm_202 : decode cX9_storm 202 = .ok (.invokestatic 148, 3) := by decide +kernel
theorem dX9_storm_205 : decode cX9_storm 205 = .ok (.ifCond .ne 13, 3) := by decide +kernel
theorem dX9_storm_208 : decode cX9_storm 208 = .ok (.aload_n 0, 1) := by decide +kernel
theorem dX9_storm_209 : decode cX9_storm 209 = .ok (.getfield 31, 3) := by decide +kernel
theorem dX9_storm_212 : decode cX9_storm 212 = .ok (.iload 10, 2) := by decide +kernel
theorem dX9_storm_214 : decode cX9_storm 214 = .ok (.iaload, 1) := by decide +kernel
theorem dX9_storm_215 : decode cX9_storm 215 = .ok (.goto 27, 3) := by decide +kernel
theorem dX9_storm_218 : decode cX9_storm 218 = .ok (.aload_n 0, 1) := by decide +kernel
theorem dX9_storm_219 : decode cX9_storm 219 = .ok (.getfield 31, 3) := by decide +kernel
theorem dX9_storm_222 : decode cX9_storm 222 = .ok (.iload 10, 2) := by decide +kernel
theorem dX9_storm_224 : decode cX9_storm 224 = .ok (.iaload, 1) := by decide +kernel
theorem dX9_storm_225 : decode cX9_storm 225 = .ok (.iconst 5, 1) := by decide +kernel
theorem dX9_storm_226 : decode cX9_storm 226 = .ok (.if_icmp .ge 7, 3) := by decide +kernel
theorem dX9_storm_229 : decode cX9_storm 229 = .ok (.iconst 0, 1) := by decide +kernel
theorem dX9_storm_230 : decode cX9_storm 230 = .ok (.goto 12, 3) := by decide +kernel
theorem dX9_storm_233 : decode cX9_storm 233 = .ok (.aload_n 0, 1) := by decide +kernel
theorem dX9_storm_234 : decode cX9_storm 234 = .ok (.getfield 31, 3) := by decide +kernel
theorem dX9_storm_237 : decode cX9_storm 237 = .ok (.iload 10, 2) := by decide +kernel
theorem dX9_storm_239 : decode cX9_storm 239 = .ok (.iaload, 1) := by decide +kernel
theorem dX9_storm_240 : decode cX9_storm 240 = .ok (.iconst 5, 1) := by decide +kernel
theorem dX9_storm_241 : decode cX9_storm 241 = .ok (.isub, 1) := by decide +kernel
theorem dX9_storm_242 : decode cX9_storm 242 = .ok (.iastore, 1) := by decide +kernel
theorem dX9_storm_243 : decode cX9_storm 243 = .ok (.iinc 9 1, 3) := by decide +kernel
theorem dX9_storm_246 : decode cX9_storm 246 = .ok (.goto (-114), 3) := by decide +kernel
theorem dX9_storm_249 : decode cX9_storm 249 = .ok (.iload 5, 2) := by decide +kernel
theorem dX9_storm_251 : decode cX9_storm 251 = .ok (.iload 8, 2) := by decide +kernel
theorem dX9_storm_253 : decode cX9_storm 253 = .ok (.ifCond .le 19, 3) := by decide +kernel
theorem dX9_storm_256 : decode cX9_storm 256 = .ok (.aload_n 0, 1) := by decide +kernel
theorem dX9_storm_257 : decode cX9_storm 257 = .ok (.invokevirtual 199, 3) := by decide +kernel
theorem dX9_storm_260 : decode cX9_storm 260 = .ok (.invokestatic 152, 3) := by decide +kernel
theorem dX9_storm_263 : decode cX9_storm 263 = .ok (.iload_n 1, 1) := by decide +kernel
theorem dX9_storm_264 : decode cX9_storm 264 = .ok (.if_icmp .lt 8, 3) := by decide +kernel
theorem dX9_storm_267 : decode cX9_storm 267 = .ok (.iload 8, 2) := by decide +kernel
theorem dX9_storm_269 : decode cX9_storm 269 = .ok (.goto 4, 3) := by decide +kernel
theorem dX9_storm_272 : decode cX9_storm 272 = .ok (.iconst 0, 1) := by decide +kernel
theorem dX9_storm_273 : decode cX9_storm 273 = .ok (.iadd, 1) := by decide +kernel
theorem dX9_storm_274 : decode cX9_storm 274 = .ok (.istore 5, 2) := by decide +kernel
theorem dX9_storm_276 : decode cX9_storm 276 = .ok (.iinc 7 1, 3) := by decide +kernel
theorem dX9_storm_279 : decode cX9_storm 279 = .ok (.goto (-178), 3) := by decide +kernel
theorem dX9_storm_282 : decode cX9_storm 282 = .ok (.iload 5, 2) := by decide +kernel
theorem dX9_storm_284 : decode cX9_storm 284 = .ok (.istore 7, 2) := by decide +kernel
theorem dX9_storm_286 : decode cX9_storm 286 = .ok (.iload 6, 2) := by decide +kernel
theorem dX9_storm_288 : decode cX9_storm 288 = .ok (.istore 8, 2) := by decide +kernel
theorem dX9_storm_290 : decode cX9_storm 290 = .ok (.iload 8, 2) := by decide +kernel
theorem dX9_storm_292 : decode cX9_storm 292 = .ok (.ifCond .eq 21, 3) := by decide +kernel
theorem dX9_storm_295 : decode cX9_storm 295 = .ok (.iload 7, 2) := by decide +kernel
theorem dX9_storm_297 : decode cX9_storm 297 = .ok (.iload 8, 2) := by decide +kernel
theorem dX9_storm_299 : decode cX9_storm 299 = .ok (.irem, 1) := by decide +kernel
theorem dX9_storm_300 : decode cX9_storm 300 = .ok (.istore 9, 2) := by decide +kernel
theorem dX9_storm_302 : decode cX9_storm 302 = .ok (.iload 8, 2) := by decide +kernel
theorem dX9_storm_304 : decode cX9_storm 304 = .ok (.istore 7, 2) := by decide +kernel
theorem dX9_storm_306 : decode cX9_storm 306 = .ok (.iload 9, 2) := by decide +kernel
theorem dX9_storm_308 : decode cX9_storm 308 = .ok (.istore 8, 2) := by decide +kernel
theorem dX9_storm_310 : decode cX9_storm 310 = .ok (.goto (-20), 3) := by decide +kernel
theorem dX9_storm_313 : decode cX9_storm 313 = .ok (.iload_n 3, 1) := by decide +kernel
theorem dX9_storm_314 : decode cX9_storm 314 = .ok (.ifCond .ne 8, 3) := by decide +kernel
theorem dX9_storm_317 : decode cX9_storm 317 = .ok (.iload 5, 2) := by decide +kernel
theorem dX9_storm_319 : decode cX9_storm 319 = .ok (.goto 5, 3) := by decide +kernel
theorem dX9_storm_322 : decode cX9_storm 322 = .ok (.iload 6, 2) := by decide +kernel
theorem dX9_storm_324 : decode cX9_storm 324 = .ok (.iload 7, 2) := by decide +kernel
theorem dX9_storm_326 : decode cX9_storm 326 = .ok (.idiv, 1) := by decide +kernel
theorem dX9_storm_327 : decode cX9_storm 327 = .ok (.ireturn, 1) := by decide +kernel
theorem dX9_drawn_0 : decode cX9_drawn 0 = .ok (.aload_n 0, 1) := by decide +kernel
theorem dX9_drawn_1 : decode cX9_drawn 1 = .ok (.invokevirtual 180, 3) := by decide +kernel
theorem dX9_drawn_4 : decode cX9_drawn 4 = .ok (.ifCond .ne 6, 3) := by decide +kernel
theorem dX9_drawn_7 : decode cX9_drawn 7 = .ok (.ldc 183, 2) := by decide +kernel
theorem dX9_drawn_9 : decode cX9_drawn 9 = .ok (.ireturn, 1) := by decide +kernel
theorem dX9_drawn_10 : decode cX9_drawn 10 = .ok (.iload_n 1, 1) := by decide +kernel
theorem dX9_drawn_11 : decode cX9_drawn 11 = .ok (.iconst 0, 1) := by decide +kernel
theorem dX9_drawn_12 : decode cX9_drawn 12 = .ok (.bipush 40, 2) := by decide +kernel
theorem dX9_drawn_14 : decode cX9_drawn 14 = .ok (.invokestatic 59, 3) := by decide +kernel
theorem dX9_drawn_17 : decode cX9_drawn 17 = .ok (.ifCond .eq 22, 3) := by decide +kernel
theorem dX9_drawn_20 : decode cX9_drawn 20 = .ok (.iload_n 2, 1) := by decide +kernel
theorem dX9_drawn_21 : decode cX9_drawn 21 = .ok (.iconst 1, 1) := by decide +kernel
theorem dX9_drawn_22 : decode cX9_drawn 22 = .ok (.ldc 212, 2) := by decide +kernel
theorem dX9_drawn_24 : decode cX9_drawn 24 = .ok (.invokestatic 59, 3) := by decide +kernel
theorem dX9_drawn_27 : decode cX9_drawn 27 = .ok (.ifCond .eq 12, 3) := by decide +kernel
theorem dX9_drawn_30 : decode cX9_drawn 30 = .ok (.iload_n 3, 1) := by decide +kernel
theorem dX9_drawn_31 : decode cX9_drawn 31 = .ok (.iconst 0, 1) := by decide +kernel
theorem dX9_drawn_32 : decode cX9_drawn 32 = .ok (.iconst 1, 1) := by decide +kernel
theorem dX9_drawn_33 : decode cX9_drawn 33 = .ok (.invokestatic 59, 3) := by decide +kernel
theorem dX9_drawn_36 : decode cX9_drawn 36 = .ok (.ifCond .ne 6, 3) := by decide +kernel
theorem dX9_drawn_39 : decode cX9_drawn 39 = .ok (.ldc 67, 2) := by decide +kernel
theorem dX9_drawn_41 : decode cX9_drawn 41 = .ok (.ireturn, 1) := by decide +kernel
theorem dX9_drawn_42 : decode cX9_drawn 42 = .ok (.iload_n 2, 1) := by decide +kernel
theorem dX9_drawn_43 : decode cX9_drawn 43 = .ok (.i2l, 1) := by decide +kernel
theorem dX9_drawn_44 : decode cX9_drawn 44 = .ok (.lstore 4, 2) := by decide +kernel
theorem dX9_drawn_46 : decode cX9_drawn 46 = .ok (.iconst 0, 1) := by decide +kernel
theorem dX9_drawn_47 : decode cX9_drawn 47 = .ok (.istore 6, 2) := by decide +kernel
theorem dX9_drawn_49 : decode cX9_drawn 49 = .ok (.iconst 0, 1) := by decide +kernel
theorem dX9_drawn_50 : decode cX9_drawn 50 = .ok (.istore 7, 2) := by decide +kernel
theorem dX9_drawn_52 : decode cX9_drawn 52 = .ok (.iconst 0, 1) := by decide +kernel
theorem dX9_drawn_53 : decode cX9_drawn 53 = .ok (.istore 8, 2) := by decide +kernel
theorem dX9_drawn_55 : decode cX9_drawn 55 = .ok (.iload 8, 2) := by decide +kernel
theorem dX9_drawn_57 : decode cX9_drawn 57 = .ok (.iload_n 1, 1) := by decide +kernel
theorem dX9_drawn_58 : decode cX9_drawn 58 = .ok (.if_icmp .ge 135, 3) := by decide +kernel
theorem dX9_drawn_61 : decode cX9_drawn 61 = .ok (.lload 4, 2) := by decide +kernel
theorem dX9_drawn_63 : decode cX9_drawn 63 = .ok (.ldc2_w 213, 3) := by decide +kernel
theorem dX9_drawn_66 : decode cX9_drawn 66 = .ok (.lmul, 1) := by decide +kernel
theorem dX9_drawn_67 : decode cX9_drawn 67 = .ok (.ldc2_w 215, 3) := by decide +kernel
theorem dX9_drawn_70 : decode cX9_drawn 70 = .ok (.lrem, 1) := by decide +kernel
theorem dX9_drawn_71 : decode cX9_drawn 71 = .ok (.lstore 4, 2) := by decide +kernel
theorem dX9_drawn_73 : decode cX9_drawn 73 = .ok (.aload_n 0, 1) := by decide +kernel
theorem dX9_drawn_74 : decode cX9_drawn 74 = .ok (.invokevirtual 196, 3) := by decide +kernel
theorem dX9_drawn_77 : decode cX9_drawn 77 = .ok (.aload_n 0, 1) := by decide +kernel
theorem dX9_drawn_78 : decode cX9_drawn 78 = .ok (.getfield 25, 3) := by decide +kernel
theorem dX9_drawn_81 : decode cX9_drawn 81 = .ok (.iconst 5, 1) := by decide +kernel
theorem dX9_drawn_82 : decode cX9_drawn 82 = .ok (.iaload, 1) := by decide +kernel
theorem dX9_drawn_83 : decode cX9_drawn 83 = .ok (.ifCond .le 73, 3) := by decide +kernel
theorem dX9_drawn_86 : decode cX9_drawn 86 = .ok (.lload 4, 2) := by decide +kernel
theorem dX9_drawn_88 : decode cX9_drawn 88 = .ok (.aload_n 0, 1) := by decide +kernel
theorem dX9_drawn_89 : decode cX9_drawn 89 = .ok (.getfield 25, 3) := by decide +kernel
theorem dX9_drawn_92 : decode cX9_drawn 92 = .ok (.iconst 5, 1) := by decide +kernel
theorem dX9_drawn_93 : decode cX9_drawn 93 = .ok (.iaload, 1) := by decide +kernel
theorem dX9_drawn_94 : decode cX9_drawn 94 = .ok (.i2l, 1) := by decide +kernel
theorem dX9_drawn_95 : decode cX9_drawn 95 = .ok (.lrem, 1) := by decide +kernel
theorem dX9_drawn_96 : decode cX9_drawn 96 = .ok (.l2i, 1) := by decide +kernel
theorem dX9_drawn_97 : decode cX9_drawn 97 = .ok (.istore 9, 2) := by decide +kernel
theorem dX9_drawn_99 : decode cX9_drawn 99 = .ok (.lload 4, 2) := by decide +kernel
theorem dX9_drawn_101 : decode cX9_drawn 101 = .ok (.ldc2_w 217, 3) := by decide +kernel
theorem dX9_drawn_104 : decode cX9_drawn 104 = .ok (.lrem, 1) := by decide +kernel
theorem dX9_drawn_105 : decode cX9_drawn 105 = .ok (.lconst 0, 1) := by decide +kernel
theorem dX9_drawn_106 : decode cX9_drawn 106 = .ok (.lcmp, 1) := by decide +kernel
theorem dX9_drawn_107 : decode cX9_drawn 107 = .ok (.ifCond .ne 29, 3) := by decide +kernel
theorem dX9_drawn_110 : decode cX9_drawn 110 = .ok (.aload_n 0, 1) := by decide +kernel
theorem dX9_drawn_111 : decode cX9_drawn 111 = .ok (.getfield 31, 3) := by decide +kernel
theorem dX9_drawn_114 : decode cX9_drawn 114 = .ok (.iload 9, 2) := by decide +kernel
theorem dX9_drawn_116 : decode cX9_drawn 116 = .ok (.invokestatic 144, 3) := by decide +kernel
theorem dX9_drawn_119 : decode cX9_drawn 119 = .ok (.ifCond .eq 17, 3) := by decide +kernel
theorem dX9_drawn_122 : decode cX9_drawn 122 = .ok (.aload_n 0, 1) := by decide +kernel
theorem dX9_drawn_123 : decode cX9_drawn 123 = .ok (.getfield 31, 3) := by decide +kernel
theorem dX9_drawn_126 : decode cX9_drawn 126 = .ok (.iconst 1, 1) := by decide +kernel
theorem dX9_drawn_127 : decode cX9_drawn 127 = .ok (.iload 9, 2) := by decide +kernel
theorem dX9_drawn_129 : decode cX9_drawn 129 = .ok (.ishl, 1) := by decide +kernel
theorem dX9_drawn_130 : decode cX9_drawn 130 = .ok (.invokestatic 162, 3) := by decide +kernel
theorem dX9_drawn_133 : decode cX9_drawn 133 = .ok (.goto 23, 3) := by decide +kernel
theorem dX9_drawn_136 : decode cX9_drawn 136 = .ok (.lload 4, 2) := by decide +kernel
theorem dX9_drawn_138 : decode cX9_drawn 138 = .ok (.ldc2_w 217, 3) := by decide +kernel
theorem dX9_drawn_141 : decode cX9_drawn 141 = .ok (.lrem, 1) := by decide +kernel
theorem dX9_drawn_142 : decode cX9_drawn 142 = .ok (.lconst 1, 1) := by decide +kernel
theorem dX9_drawn_143 : decode cX9_drawn 143 = .ok (.lcmp, 1) := by decide +kernel
theorem dX9_drawn_144 : decode cX9_drawn 144 = .ok (.ifCond .ne 12, 3) := by decide +kernel
theorem dX9_drawn_147 : decode cX9_drawn 147 = .ok (.aload_n 0, 1) := by decide +kernel
theorem dX9_drawn_148 : decode cX9_drawn 148 = .ok (.getfield 31, 3) := by decide +kernel
theorem dX9_drawn_151 : decode cX9_drawn 151 = .ok (.iload 9, 2) := by decide +kernel
theorem dX9_drawn_153 : decode cX9_drawn 153 = .ok (.invokestatic 190, 3) := by decide +kernel
theorem dX9_drawn_156 : decode cX9_drawn 156 = .ok (.aload_n 0, 1) := by decide +kernel
theorem dX9_drawn_157 : decode cX9_drawn 157 = .ok (.invokevirtual 199, 3) := by decide +kernel
theorem dX9_drawn_160 : decode cX9_drawn 160 = .ok (.invokestatic 152, 3) := by decide +kernel
theorem dX9_drawn_163 : decode cX9_drawn 163 = .ok (.istore 9, 2) := by decide +kernel
theorem dX9_drawn_165 : decode cX9_drawn 165 = .ok (.iload 6, 2) := by decide +kernel
theorem dX9_drawn_167 : decode cX9_drawn 167 = .ok (.iload 9, 2) := by decide +kernel
theorem dX9_drawn_169 : decode cX9_drawn 169 = .ok (.iadd, 1) := by decide +kernel
theorem dX9_drawn_170 : decode cX9_drawn 170 = .ok (.istore 6, 2) := by decide +kernel
theorem dX9_drawn_172 : decode cX9_drawn 172 = .ok (.iload 7, 2) := by decide +kernel
theorem dX9_drawn_174 : decode cX9_drawn 174 = .ok (.iload 9, 2) := by decide +kernel
theorem dX9_drawn_176 : decode cX9_drawn 176 = .ok (.ifCond .le 7, 3) := by decide +kernel
theorem dX9_drawn_179 : decode cX9_drawn 179 = .ok (.iconst 1, 1) := by decide +kernel
theorem dX9_drawn_180 : decode cX9_drawn 180 = .ok (.goto 4, 3) := by decide +kernel
theorem dX9_drawn_183 : decode cX9_drawn 183 = .ok (.iconst 0, 1) := by decide +kernel
theorem dX9_drawn_184 : decode cX9_drawn 184 = .ok (.iadd, 1) := by decide +kernel
theorem dX9_drawn_185 : decode cX9_drawn 185 = .ok (.istore 7, 2) := by decide +kernel
theorem dX9_drawn_187 : decode cX9_drawn 187 = .ok (.iinc 8 1, 3) := by decide +kernel
theorem dX9_drawn_190 : decode cX9_drawn 190 = .ok (.goto (-135), 3) := by decide +kernel
theorem dX9_drawn_193 : decode cX9_drawn 193 = .ok (.iload_n 3, 1) := by decide +kernel
theorem dX9_drawn_194 : decode cX9_drawn 194 = .ok (.ifCond .ne 8, 3) := by decide +kernel
theorem dX9_drawn_197 : decode cX9_drawn 197 = .ok (.iload 6, 2) := by decide +kernel
theorem dX9_drawn_199 : decode cX9_drawn 199 = .ok (.goto 5, 3) := by decide +kernel
theorem dX9_drawn_202 : decode cX9_drawn 202 = .ok (.iload 7, 2) := by decide +kernel
theorem dX9_drawn_204 : decode cX9_drawn 204 = .ok (.ireturn, 1) := by decide +kernel
theorem dX9_image_0 : decode cX9_image 0 = .ok (.iload_n 1, 1) := by decide +kernel
theorem dX9_image_1 : decode cX9_image 1 = .ok (.iconst 0, 1) := by decide +kernel
theorem dX9_image_2 : decode cX9_image 2 = .ok (.iconst 1, 1) := by decide +kernel
theorem dX9_image_3 : decode cX9_image 3 = .ok (.invokestatic 59, 3) := by decide +kernel
theorem dX9_image_6 : decode cX9_image 6 = .ok (.ifCond .ne 6, 3) := by decide +kernel
theorem dX9_image_9 : decode cX9_image 9 = .ok (.ldc 67, 2) := by decide +kernel
theorem dX9_image_11 : decode cX9_image 11 = .ok (.ireturn, 1) := by decide +kernel
theorem dX9_image_12 : decode cX9_image 12 = .ok (.aload_n 0, 1) := by decide +kernel
theorem dX9_image_13 : decode cX9_image 13 = .ok (.invokevirtual 180, 3) := by decide +kernel
theorem dX9_image_16 : decode cX9_image 16 = .ok (.ifCond .ne 6, 3) := by decide +kernel
theorem dX9_image_19 : decode cX9_image 19 = .ok (.ldc 183, 2) := by decide +kernel
theorem dX9_image_21 : decode cX9_image 21 = .ok (.ireturn, 1) := by decide +kernel
theorem dX9_image_22 : decode cX9_image 22 = .ok (.aload_n 0, 1) := by decide +kernel
theorem dX9_image_23 : decode cX9_image 23 = .ok (.getfield 25, 3) := by decide +kernel
theorem dX9_image_26 : decode cX9_image 26 = .ok (.iconst 0, 1) := by decide +kernel
theorem dX9_image_27 : decode cX9_image 27 = .ok (.aload_n 0, 1) := by decide +kernel
theorem dX9_image_28 : decode cX9_image 28 = .ok (.getfield 37, 3) := by decide +kernel
theorem dX9_image_31 : decode cX9_image 31 = .ok (.bipush 57, 2) := by decide +kernel
theorem dX9_image_33 : decode cX9_image 33 = .ok (.iload_n 1, 1) := by decide +kernel
theorem dX9_image_34 : decode cX9_image 34 = .ok (.imul, 1) := by decide +kernel
theorem dX9_image_35 : decode cX9_image 35 = .ok (.invokestatic 137, 3) := by decide +kernel
theorem dX9_image_38 : decode cX9_image 38 = .ok (.aload_n 0, 1) := by decide +kernel
theorem dX9_image_39 : decode cX9_image 39 = .ok (.getfield 40, 3) := by decide +kernel
theorem dX9_image_42 : decode cX9_image 42 = .ok (.iload_n 1, 1) := by decide +kernel
theorem dX9_image_43 : decode cX9_image 43 = .ok (.iconst 1, 1) := by decide +kernel
theorem dX9_image_44 : decode cX9_image 44 = .ok (.bastore, 1) := by decide +kernel
theorem dX9_image_45 : decode cX9_image 45 = .ok (.iconst 1, 1) := by decide +kernel
theorem dX9_image_46 : decode cX9_image 46 = .ok (.ireturn, 1) := by decide +kernel
theorem dX9_restore_0 : decode cX9_restore 0 = .ok (.iload_n 1, 1) := by decide +kernel
theorem dX9_restore_1 : decode cX9_restore 1 = .ok (.iconst 0, 1) := by decide +kernel
theorem dX9_restore_2 : decode cX9_restore 2 = .ok (.iconst 1, 1) := by decide +kernel
theorem dX9_restore_3 : decode cX9_restore 3 = .ok (.invokestatic 59, 3) := by decide +kernel
theorem dX9_restore_6 : decode cX9_restore 6 = .ok (.ifCond .ne 6, 3) := by decide +kernel
theorem dX9_restore_9 : decode cX9_restore 9 = .ok (.ldc 67, 2) := by decide +kernel
theorem dX9_restore_11 : decode cX9_restore 11 = .ok (.ireturn, 1) := by decide +kernel
theorem dX9_restore_12 : decode cX9_restore 12 = .ok (.aload_n 0, 1) := by decide +kernel
theorem dX9_restore_13 : decode cX9_restore 13 = .ok (.getfield 40, 3) := by decide +kernel
theorem dX9_restore_16 : decode cX9_restore 16 = .ok (.iload_n 1, 1) := by decide +kernel
theorem dX9_restore_17 : decode cX9_restore 17 = .ok (.baload, 1) := by decide +kernel
theorem dX9_restore_18 : decode cX9_restore 18 = .ok (.ifCond .ne 6, 3) := by decide +kernel
theorem dX9_restore_21 : decode cX9_restore 21 = .ok (.ldc 183, 2) := by decide +kernel
theorem dX9_restore_23 : decode cX9_restore 23 = .ok (.ireturn, 1) := by decide +kernel
theorem dX9_restore_24 : decode cX9_restore 24 = .ok (.aload_n 0, 1) := by decide +kernel
theorem dX9_restore_25 : decode cX9_restore 25 = .ok (.getfield 37, 3) := by decide +kernel
theorem dX9_restore_28 : decode cX9_restore 28 = .ok (.bipush 57, 2) := by decide +kernel
theorem dX9_restore_30 : decode cX9_restore 30 = .ok (.iload_n 1, 1) := by decide +kernel
theorem dX9_restore_31 : decode cX9_restore 31 = .ok (.imul, 1) := by decide +kernel
theorem dX9_restore_32 : decode cX9_restore 32 = .ok (.aload_n 0, 1) := by decide +kernel
theorem dX9_restore_33 : decode cX9_restore 33 = .ok (.getfield 25, 3) := by decide +kernel
theorem dX9_restore_36 : decode cX9_restore 36 = .ok (.iconst 0, 1) := by decide +kernel
theorem dX9_restore_37 : decode cX9_restore 37 = .ok (.invokestatic 137, 3) := by decide +kernel
theorem dX9_restore_40 : decode cX9_restore 40 = .ok (.aload_n 0, 1) := by decide +kernel
theorem dX9_restore_41 : decode cX9_restore 41 = .ok (.iconst 0, 1) := by decide +kernel
theorem dX9_restore_42 : decode cX9_restore 42 = .ok (.putfield 141, 3) := by decide +kernel
theorem dX9_restore_45 : decode cX9_restore 45 = .ok (.iconst 1, 1) := by decide +kernel
theorem dX9_restore_46 : decode cX9_restore 46 = .ok (.ireturn, 1) := by decide +kernel
theorem dX9_kindIn_0 : decode cX9_kindIn 0 = .ok (.aload_n 0, 1) := by decide +kernel
theorem dX9_kindIn_1 : decode cX9_kindIn 1 = .ok (.getfield 25, 3) := by decide +kernel
theorem dX9_kindIn_4 : decode cX9_kindIn 4 = .ok (.bipush 21, 2) := by decide +kernel
theorem dX9_kindIn_6 : decode cX9_kindIn 6 = .ok (.bipush 6, 2) := by decide +kernel
theorem dX9_kindIn_8 : decode cX9_kindIn 8 = .ok (.iload_n 1, 1) := by decide +kernel
theorem dX9_kindIn_9 : decode cX9_kindIn 9 = .ok (.imul, 1) := by decide +kernel
theorem dX9_kindIn_10 : decode cX9_kindIn 10 = .ok (.iadd, 1) := by decide +kernel
theorem dX9_kindIn_11 : decode cX9_kindIn 11 = .ok (.iaload, 1) := by decide +kernel
theorem dX9_kindIn_12 : decode cX9_kindIn 12 = .ok (.ireturn, 1) := by decide +kernel
theorem dX9_kind_0 : decode cX9_kind 0 = .ok (.aload_n 0, 1) := by decide +kernel
theorem dX9_kind_1 : decode cX9_kind 1 = .ok (.iload_n 1, 1) := by decide +kernel
theorem dX9_kind_2 : decode cX9_kind 2 = .ok (.invokevirtual 187, 3) := by decide +kernel
theorem dX9_kind_5 : decode cX9_kind 5 = .ok (.ifCond .eq 11, 3) := by decide +kernel
theorem dX9_kind_8 : decode cX9_kind 8 = .ok (.aload_n 0, 1) := by decide +kernel
theorem dX9_kind_9 : decode cX9_kind 9 = .ok (.iload_n 1, 1) := by decide +kernel
theorem dX9_kind_10 : decode cX9_kind 10 = .ok (.invokevirtual 219, 3) := by decide +kernel
theorem dX9_kind_13 : decode cX9_kind 13 = .ok (.goto 5, 3) := by decide +kernel
theorem dX9_kind_16 : decode cX9_kind 16 = .ok (.ldc 67, 2) := by decide +kernel
theorem dX9_kind_18 : decode cX9_kind 18 = .ok (.ireturn, 1) := by decide +kernel
theorem dX9_as_0 : decode cX9_as 0 = .ok (.aload_n 0, 1) := by decide +kernel
theorem dX9_as_1 : decode cX9_as 1 = .ok (.iload_n 1, 1) := by decide +kernel
theorem dX9_as_2 : decode cX9_as 2 = .ok (.invokevirtual 187, 3) := by decide +kernel
theorem dX9_as_5 : decode cX9_as 5 = .ok (.ifCond .eq 12, 3) := by decide +kernel
theorem dX9_as_8 : decode cX9_as 8 = .ok (.iload_n 2, 1) := by decide +kernel
theorem dX9_as_9 : decode cX9_as 9 = .ok (.iconst 0, 1) := by decide +kernel
theorem dX9_as_10 : decode cX9_as 10 = .ok (.iconst 5, 1) := by decide +kernel
theorem dX9_as_11 : decode cX9_as 11 = .ok (.invokestatic 59, 3) := by decide +kernel
theorem dX9_as_14 : decode cX9_as 14 = .ok (.ifCond .ne 6, 3) := by decide +kernel
theorem dX9_as_17 : decode cX9_as 17 = .ok (.ldc 67, 2) := by decide +kernel
theorem dX9_as_19 : decode cX9_as 19 = .ok (.ireturn, 1) := by decide +kernel
theorem dX9_as_20 : decode cX9_as 20 = .ok (.aload_n 0, 1) := by decide +kernel
theorem dX9_as_21 : decode cX9_as 21 = .ok (.iload_n 1, 1) := by decide +kernel
theorem dX9_as_22 : decode cX9_as 22 = .ok (.invokevirtual 219, 3) := by decide +kernel
theorem dX9_as_25 : decode cX9_as 25 = .ok (.istore_n 3, 1) := by decide +kernel
theorem dX9_as_26 : decode cX9_as 26 = .ok (.iload_n 2, 1) := by decide +kernel
theorem dX9_as_27 : decode cX9_as 27 = .ok (.ifCond .eq 28, 3) := by decide +kernel
theorem dX9_as_30 : decode cX9_as 30 = .ok (.iload_n 2, 1) := by decide +kernel
theorem dX9_as_31 : decode cX9_as 31 = .ok (.iload_n 3, 1) := by decide +kernel
theorem dX9_as_32 : decode cX9_as 32 = .ok (.if_icmp .eq 23, 3) := by decide +kernel
theorem dX9_as_35 : decode cX9_as 35 = .ok (.iload_n 2, 1) := by decide +kernel
theorem dX9_as_36 : decode cX9_as 36 = .ok (.iconst 1, 1) := by decide +kernel
theorem dX9_as_37 : decode cX9_as 37 = .ok (.if_icmp .ne 8, 3) := by decide +kernel
theorem dX9_as_40 : decode cX9_as 40 = .ok (.iload_n 3, 1) := by decide +kernel
theorem dX9_as_41 : decode cX9_as 41 = .ok (.iconst 4, 1) := by decide +kernel
theorem dX9_as_42 : decode cX9_as 42 = .ok (.if_icmp .lt 13, 3) := by decide +kernel
theorem dX9_as_45 : decode cX9_as 45 = .ok (.iload_n 2, 1) := by decide +kernel
theorem dX9_as_46 : decode cX9_as 46 = .ok (.iconst 4, 1) := by decide +kernel
theorem dX9_as_47 : decode cX9_as 47 = .ok (.if_icmp .ne 12, 3) := by decide +kernel
theorem dX9_as_50 : decode cX9_as 50 = .ok (.iload_n 3, 1) := by decide +kernel
theorem dX9_as_51 : decode cX9_as 51 = .ok (.iconst 5, 1) := by decide +kernel
theorem dX9_as_52 : decode cX9_as 52 = .ok (.if_icmp .ne 7, 3) := by decide +kernel
theorem dX9_as_55 : decode cX9_as 55 = .ok (.iconst 1, 1) := by decide +kernel
theorem dX9_as_56 : decode cX9_as 56 = .ok (.goto 4, 3) := by decide +kernel
theorem dX9_as_59 : decode cX9_as 59 = .ok (.iconst 0, 1) := by decide +kernel
theorem dX9_as_60 : decode cX9_as 60 = .ok (.istore 4, 2) := by decide +kernel
theorem dX9_as_62 : decode cX9_as 62 = .ok (.iload 4, 2) := by decide +kernel
theorem dX9_as_64 : decode cX9_as 64 = .ok (.ifCond .eq 11, 3) := by decide +kernel
theorem dX9_as_67 : decode cX9_as 67 = .ok (.aload_n 0, 1) := by decide +kernel
theorem dX9_as_68 : decode cX9_as 68 = .ok (.iload_n 1, 1) := by decide +kernel
theorem dX9_as_69 : decode cX9_as 69 = .ok (.invokevirtual 72, 3) := by decide +kernel
theorem dX9_as_72 : decode cX9_as 72 = .ok (.goto 8, 3) := by decide +kernel
theorem dX9_as_75 : decode cX9_as 75 = .ok (.aload_n 0, 1) := by decide +kernel
theorem dX9_as_76 : decode cX9_as 76 = .ok (.iconst 3, 1) := by decide +kernel
theorem dX9_as_77 : decode cX9_as 77 = .ok (.invokevirtual 68, 3) := by decide +kernel
theorem dX9_as_80 : decode cX9_as 80 = .ok (.ireturn, 1) := by decide +kernel
theorem dX9_begins_0 : decode cX9_begins 0 = .ok (.aload_n 0, 1) := by decide +kernel
theorem dX9_begins_1 : decode cX9_begins 1 = .ok (.getfield 222, 3) := by decide +kernel
theorem dX9_begins_4 : decode cX9_begins 4 = .ok (.bipush 16, 2) := by decide +kernel
theorem dX9_begins_6 : decode cX9_begins 6 = .ok (.if_icmp .ge 23, 3) := by decide +kernel
theorem dX9_begins_9 : decode cX9_begins 9 = .ok (.aload_n 0, 1) := by decide +kernel
theorem dX9_begins_10 : decode cX9_begins 10 = .ok (.getfield 50, 3) := by decide +kernel
theorem dX9_begins_13 : decode cX9_begins 13 = .ok (.aload_n 0, 1) := by decide +kernel
theorem dX9_begins_14 : decode cX9_begins 14 = .ok (.getfield 222, 3) := by decide +kernel
theorem dX9_begins_17 : decode cX9_begins 17 = .ok (.iload_n 1, 1) := by decide +kernel
theorem dX9_begins_18 : decode cX9_begins 18 = .ok (.iastore, 1) := by decide +kernel
theorem dX9_begins_19 : decode cX9_begins 19 = .ok (.aload_n 0, 1) := by decide +kernel
theorem dX9_begins_20 : decode cX9_begins 20 = .ok (.dup, 1) := by decide +kernel
theorem dX9_begins_21 : decode cX9_begins 21 = .ok (.getfield 222, 3) := by decide +kernel
theorem dX9_begins_24 : decode cX9_begins 24 = .ok (.iconst 1, 1) := by decide +kernel
theorem dX9_begins_25 : decode cX9_begins 25 = .ok (.iadd, 1) := by decide +kernel
theorem dX9_begins_26 : decode cX9_begins 26 = .ok (.putfield 222, 3) := by decide +kernel
theorem dX9_begins_29 : decode cX9_begins 29 = .ok (.return_, 1) := by decide +kernel
theorem dX9_hawkMark_0 : decode cX9_hawkMark 0 = .ok (.aload_n 0, 1) := by decide +kernel
theorem dX9_hawkMark_1 : decode cX9_hawkMark 1 = .ok (.iload_n 1, 1) := by decide +kernel
theorem dX9_hawkMark_2 : decode cX9_hawkMark 2 = .ok (.invokevirtual 219, 3) := by decide +kernel
theorem dX9_hawkMark_5 : decode cX9_hawkMark 5 = .ok (.istore_n 2, 1) := by decide +kernel
theorem dX9_hawkMark_6 : decode cX9_hawkMark 6 = .ok (.iload_n 2, 1) := by decide +kernel
theorem dX9_hawkMark_7 : decode cX9_hawkMark 7 = .ok (.iconst 1, 1) := by decide +kernel
theorem dX9_hawkMark_8 : decode cX9_hawkMark 8 = .ok (.if_icmp .eq 19, 3) := by decide +kernel
theorem dX9_hawkMark_11 : decode cX9_hawkMark 11 = .ok (.aload_n 0, 1) := by decide +kernel
theorem dX9_hawkMark_12 : decode cX9_hawkMark 12 = .ok (.iload_n 2, 1) := by decide +kernel
theorem dX9_hawkMark_13 : decode cX9_hawkMark 13 = .ok (.iconst 2, 1) := by decide +kernel
theorem dX9_hawkMark_14 : decode cX9_hawkMark 14 = .ok (.if_icmp .ne 8, 3) := by decide +kernel
theorem dX9_hawkMark_17 : decode cX9_hawkMark 17 = .ok (.bipush 24, 2) := by decide +kernel
theorem dX9_hawkMark_19 : decode cX9_hawkMark 19 = .ok (.goto 5, 3) := by decide +kernel
theorem dX9_hawkMark_22 : decode cX9_hawkMark 22 = .ok (.bipush 22, 2) := by decide +kernel
theorem dX9_hawkMark_24 : decode cX9_hawkMark 24 = .ok (.invokevirtual 225, 3) := by decide +kernel
theorem dX9_hawkMark_27 : decode cX9_hawkMark 27 = .ok (.aload_n 0, 1) := by decide +kernel
theorem dX9_hawkMark_28 : decode cX9_hawkMark 28 = .ok (.bipush 21, 2) := by decide +kernel
theorem dX9_hawkMark_30 : decode cX9_hawkMark 30 = .ok (.invokevirtual 225, 3) := by decide +kernel
theorem dX9_hawkMark_33 : decode cX9_hawkMark 33 = .ok (.aload_n 0, 1) := by decide +kernel
theorem dX9_hawkMark_34 : decode cX9_hawkMark 34 = .ok (.bipush 20, 2) := by decide +kernel
theorem dX9_hawkMark_36 : decode cX9_hawkMark 36 = .ok (.invokevirtual 225, 3) := by decide +kernel
theorem dX9_hawkMark_39 : decode cX9_hawkMark 39 = .ok (.iload_n 1, 1) := by decide +kernel
theorem dX9_hawkMark_40 : decode cX9_hawkMark 40 = .ok (.aload_n 0, 1) := by decide +kernel
theorem dX9_hawkMark_41 : decode cX9_hawkMark 41 = .ok (.getfield 25, 3) := by decide +kernel
theorem dX9_hawkMark_44 : decode cX9_hawkMark 44 = .ok (.bipush 21, 2) := by decide +kernel
theorem dX9_hawkMark_46 : decode cX9_hawkMark 46 = .ok (.bipush 6, 2) := by decide +kernel
theorem dX9_hawkMark_48 : decode cX9_hawkMark 48 = .ok (.iload_n 1, 1) := by decide +kernel
theorem dX9_hawkMark_49 : decode cX9_hawkMark 49 = .ok (.imul, 1) := by decide +kernel
theorem dX9_hawkMark_50 : decode cX9_hawkMark 50 = .ok (.iadd, 1) := by decide +kernel
theorem dX9_hawkMark_51 : decode cX9_hawkMark 51 = .ok (.iconst 2, 1) := by decide +kernel
theorem dX9_hawkMark_52 : decode cX9_hawkMark 52 = .ok (.iadd, 1) := by decide +kernel
theorem dX9_hawkMark_53 : decode cX9_hawkMark 53 = .ok (.iaload, 1) := by decide +kernel
theorem dX9_hawkMark_54 : decode cX9_hawkMark 54 = .ok (.iadd, 1) := by decide +kernel
theorem dX9_hawkMark_55 : decode cX9_hawkMark 55 = .ok (.istore_n 3, 1) := by decide +kernel
theorem dX9_hawkMark_56 : decode cX9_hawkMark 56 = .ok (.iload_n 2, 1) := by decide +kernel
theorem dX9_hawkMark_57 : decode cX9_hawkMark 57 = .ok (.iconst 2, 1) := by decide +kernel
theorem dX9_hawkMark_58 : decode cX9_hawkMark 58 = .ok (.if_icmp .ne 9, 3) := by decide +kernel
theorem dX9_hawkMark_61 : decode cX9_hawkMark 61 = .ok (.iconst 2, 1) := by decide +kernel
theorem dX9_hawkMark_62 : decode cX9_hawkMark 62 = .ok (.iload_n 3, 1) := by decide +kernel
theorem dX9_hawkMark_63 : decode cX9_hawkMark 63 = .ok (.imul, 1) := by decide +kernel
theorem dX9_hawkMark_64 : decode cX9_hawkMark 64 = .ok (.goto 17, 3) := by decide +kernel
theorem dX9_hawkMark_67 : decode cX9_hawkMark 67 = .ok (.iload_n 2, 1) := by decide +kernel
theorem dX9_hawkMark_68 : decode cX9_hawkMark 68 = .ok (.iconst 3, 1) := by decide +kernel
theorem dX9_hawkMark_69 : decode cX9_hawkMark 69 = .ok (.if_icmp .ne 11, 3) := by decide +kernel
theorem dX9_hawkMark_72 : decode cX9_hawkMark 72 = .ok (.iload_n 3, 1) := by decide +kernel
theorem dX9_hawkMark_73 : decode cX9_hawkMark 73 = .ok (.sipush 1000, 3) := by decide +kernel
theorem dX9_hawkMark_76 : decode cX9_hawkMark 76 = .ok (.isub, 1) := by decide +kernel
theorem dX9_hawkMark_77 : decode cX9_hawkMark 77 = .ok (.goto 4, 3) := by decide +kernel
theorem dX9_hawkMark_80 : decode cX9_hawkMark 80 = .ok (.iload_n 3, 1) := by decide +kernel
theorem dX9_hawkMark_81 : decode cX9_hawkMark 81 = .ok (.ireturn, 1) := by decide +kernel
theorem dX9_nightSize_0 : decode cX9_nightSize 0 = .ok (.aload_n 0, 1) := by decide +kernel
theorem dX9_nightSize_1 : decode cX9_nightSize 1 = .ok (.iload_n 1, 1) := by decide +kernel
theorem dX9_nightSize_2 : decode cX9_nightSize 2 = .ok (.invokevirtual 219, 3) := by decide +kernel
theorem dX9_nightSize_5 : decode cX9_nightSize 5 = .ok (.iconst 5, 1) := by decide +kernel
theorem dX9_nightSize_6 : decode cX9_nightSize 6 = .ok (.if_icmp .ne 7, 3) := by decide +kernel
theorem dX9_nightSize_9 : decode cX9_nightSize 9 = .ok (.iconst 1, 1) := by decide +kernel
theorem dX9_nightSize_10 : decode cX9_nightSize 10 = .ok (.goto 4, 3) := by decide +kernel
theorem dX9_nightSize_13 : decode cX9_nightSize 13 = .ok (.iconst 0, 1) := by decide +kernel
theorem dX9_nightSize_14 : decode cX9_nightSize 14 = .ok (.istore_n 2, 1) := by decide +kernel
theorem dX9_nightSize_15 : decode cX9_nightSize 15 = .ok (.iload_n 2, 1) := by decide +kernel
theorem dX9_nightSize_16 : decode cX9_nightSize 16 = .ok (.ifCond .eq 9, 3) := by decide +kernel
theorem dX9_nightSize_19 : decode cX9_nightSize 19 = .ok (.aload_n 0, 1) := by decide +kernel
theorem dX9_nightSize_20 : decode cX9_nightSize 20 = .ok (.bipush 14, 2) := by decide +kernel
theorem dX9_nightSize_22 : decode cX9_nightSize 22 = .ok (.invokevirtual 225, 3) := by decide +kernel
theorem dX9_nightSize_25 : decode cX9_nightSize 25 = .ok (.aload_n 0, 1) := by decide +kernel
theorem dX9_nightSize_26 : decode cX9_nightSize 26 = .ok (.bipush 13, 2) := by decide +kernel
theorem dX9_nightSize_28 : decode cX9_nightSize 28 = .ok (.invokevirtual 225, 3) := by decide +kernel
theorem dX9_nightSize_31 : decode cX9_nightSize 31 = .ok (.aload_n 0, 1) := by decide +kernel
theorem dX9_nightSize_32 : decode cX9_nightSize 32 = .ok (.bipush 10, 2) := by decide +kernel
theorem dX9_nightSize_34 : decode cX9_nightSize 34 = .ok (.invokevirtual 225, 3) := by decide +kernel
theorem dX9_nightSize_37 : decode cX9_nightSize 37 = .ok (.aload_n 0, 1) := by decide +kernel
theorem dX9_nightSize_38 : decode cX9_nightSize 38 = .ok (.getfield 25, 3) := by decide +kernel
theorem dX9_nightSize_41 : decode cX9_nightSize 41 = .ok (.bipush 21, 2) := by decide +kernel
theorem dX9_nightSize_43 : decode cX9_nightSize 43 = .ok (.bipush 6, 2) := by decide +kernel
theorem dX9_nightSize_45 : decode cX9_nightSize 45 = .ok (.iload_n 1, 1) := by decide +kernel
theorem dX9_nightSize_46 : decode cX9_nightSize 46 = .ok (.imul, 1) := by decide +kernel
theorem dX9_nightSize_47 : decode cX9_nightSize 47 = .ok (.iadd, 1) := by decide +kernel
theorem dX9_nightSize_48 : decode cX9_nightSize 48 = .ok (.iconst 1, 1) := by decide +kernel
theorem dX9_nightSize_49 : decode cX9_nightSize 49 = .ok (.iadd, 1) := by decide +kernel
theorem dX9_nightSize_50 : decode cX9_nightSize 50 = .ok (.iaload, 1) := by decide +kernel
theorem dX9_nightSize_51 : decode cX9_nightSize 51 = .ok (.bipush 100, 2) := by decide +kernel
theorem dX9_nightSize_53 : decode cX9_nightSize 53 = .ok (.isub, 1) := by decide +kernel
theorem dX9_nightSize_54 : decode cX9_nightSize 54 = .ok (.istore_n 3, 1) := by decide +kernel
theorem dX9_nightSize_55 : decode cX9_nightSize 55 = .ok (.iload_n 2, 1) := by decide +kernel
theorem dX9_nightSize_56 : decode cX9_nightSize 56 = .ok (.ifCond .eq 9, 3) := by decide +kernel
theorem dX9_nightSize_59 : decode cX9_nightSize 59 = .ok (.iconst 2, 1) := by decide +kernel
theorem dX9_nightSize_60 : decode cX9_nightSize 60 = .ok (.iload_n 3, 1) := by decide +kernel
theorem dX9_nightSize_61 : decode cX9_nightSize 61 = .ok (.imul, 1) := by decide +kernel
theorem dX9_nightSize_62 : decode cX9_nightSize 62 = .ok (.goto 4, 3) := by decide +kernel
theorem dX9_nightSize_65 : decode cX9_nightSize 65 = .ok (.iload_n 3, 1) := by decide +kernel
theorem dX9_nightSize_66 : decode cX9_nightSize 66 = .ok (.ireturn, 1) := by decide +kernel
theorem dX9_hawkSize_0 : decode cX9_hawkSize 0 = .ok (.aload_n 0, 1) := by decide +kernel
theorem dX9_hawkSize_1 : decode cX9_hawkSize 1 = .ok (.iload_n 1, 1) := by decide +kernel
theorem dX9_hawkSize_2 : decode cX9_hawkSize 2 = .ok (.invokevirtual 219, 3) := by decide +kernel
theorem dX9_hawkSize_5 : decode cX9_hawkSize 5 = .ok (.iconst 2, 1) := by decide +kernel
theorem dX9_hawkSize_6 : decode cX9_hawkSize 6 = .ok (.if_icmp .ne 7, 3) := by decide +kernel
theorem dX9_hawkSize_9 : decode cX9_hawkSize 9 = .ok (.iconst 1, 1) := by decide +kernel
theorem dX9_hawkSize_10 : decode cX9_hawkSize 10 = .ok (.goto 4, 3) := by decide +kernel
theorem dX9_hawkSize_13 : decode cX9_hawkSize 13 = .ok (.iconst 0, 1) := by decide +kernel
theorem dX9_hawkSize_14 : decode cX9_hawkSize 14 = .ok (.istore_n 2, 1) := by decide +kernel
theorem dX9_hawkSize_15 : decode cX9_hawkSize 15 = .ok (.iload_n 2, 1) := by decide +kernel
theorem dX9_hawkSize_16 : decode cX9_hawkSize 16 = .ok (.ifCond .eq 9, 3) := by decide +kernel
theorem dX9_hawkSize_19 : decode cX9_hawkSize 19 = .ok (.aload_n 0, 1) := by decide +kernel
theorem dX9_hawkSize_20 : decode cX9_hawkSize 20 = .ok (.bipush 12, 2) := by decide +kernel
theorem dX9_hawkSize_22 : decode cX9_hawkSize 22 = .ok (.invokevirtual 225, 3) := by decide +kernel
theorem dX9_hawkSize_25 : decode cX9_hawkSize 25 = .ok (.aload_n 0, 1) := by decide +kernel
theorem dX9_hawkSize_26 : decode cX9_hawkSize 26 = .ok (.bipush 11, 2) := by decide +kernel
theorem dX9_hawkSize_28 : decode cX9_hawkSize 28 = .ok (.invokevirtual 225, 3) := by decide +kernel
theorem dX9_hawkSize_31 : decode cX9_hawkSize 31 = .ok (.aload_n 0, 1) := by decide +kernel
theorem dX9_hawkSize_32 : decode cX9_hawkSize 32 = .ok (.bipush 10, 2) := by decide +kernel
theorem dX9_hawkSize_34 : decode cX9_hawkSize 34 = .ok (.invokevirtual 225, 3) := by decide +kernel
theorem dX9_hawkSize_37 : decode cX9_hawkSize 37 = .ok (.aload_n 0, 1) := by decide +kernel
theorem dX9_hawkSize_38 : decode cX9_hawkSize 38 = .ok (.getfield 25, 3) := by decide +kernel
theorem dX9_hawkSize_41 : decode cX9_hawkSize 41 = .ok (.bipush 21, 2) := by decide +kernel
theorem dX9_hawkSize_43 : decode cX9_hawkSize 43 = .ok (.bipush 6, 2) := by decide +kernel
theorem dX9_hawkSize_45 : decode cX9_hawkSize 45 = .ok (.iload_n 1, 1) := by decide +kernel
theorem dX9_hawkSize_46 : decode cX9_hawkSize 46 = .ok (.imul, 1) := by decide +kernel
theorem dX9_hawkSize_47 : decode cX9_hawkSize 47 = .ok (.iadd, 1) := by decide +kernel
theorem dX9_hawkSize_48 : decode cX9_hawkSize 48 = .ok (.iconst 1, 1) := by decide +kernel
theorem dX9_hawkSize_49 : decode cX9_hawkSize 49 = .ok (.iadd, 1) := by decide +kernel
theorem dX9_hawkSize_50 : decode cX9_hawkSize 50 = .ok (.iaload, 1) := by decide +kernel
theorem dX9_hawkSize_51 : decode cX9_hawkSize 51 = .ok (.aload_n 0, 1) := by decide +kernel
theorem dX9_hawkSize_52 : decode cX9_hawkSize 52 = .ok (.iload_n 1, 1) := by decide +kernel
theorem dX9_hawkSize_53 : decode cX9_hawkSize 53 = .ok (.invokevirtual 229, 3) := by decide +kernel
theorem dX9_hawkSize_56 : decode cX9_hawkSize 56 = .ok (.iadd, 1) := by decide +kernel
theorem dX9_hawkSize_57 : decode cX9_hawkSize 57 = .ok (.istore_n 3, 1) := by decide +kernel
theorem dX9_hawkSize_58 : decode cX9_hawkSize 58 = .ok (.iload_n 2, 1) := by decide +kernel
theorem dX9_hawkSize_59 : decode cX9_hawkSize 59 = .ok (.ifCond .eq 8, 3) := by decide +kernel
theorem dX9_hawkSize_62 : decode cX9_hawkSize 62 = .ok (.iload_n 3, 1) := by decide +kernel
theorem dX9_hawkSize_63 : decode cX9_hawkSize 63 = .ok (.ineg, 1) := by decide +kernel
theorem dX9_hawkSize_64 : decode cX9_hawkSize 64 = .ok (.goto 4, 3) := by decide +kernel
theorem dX9_hawkSize_67 : decode cX9_hawkSize 67 = .ok (.iload_n 3, 1) := by decide +kernel
theorem dX9_hawkSize_68 : decode cX9_hawkSize 68 = .ok (.ireturn, 1) := by decide +kernel
theorem dX9_nightMark_0 : decode cX9_nightMark 0 = .ok (.aload_n 0, 1) := by decide +kernel
theorem dX9_nightMark_1 : decode cX9_nightMark 1 = .ok (.bipush 23, 2) := by decide +kernel
theorem dX9_nightMark_3 : decode cX9_nightMark 3 = .ok (.invokevirtual 225, 3) := by decide +kernel
theorem dX9_nightMark_6 : decode cX9_nightMark 6 = .ok (.aload_n 0, 1) := by decide +kernel
theorem dX9_nightMark_7 : decode cX9_nightMark 7 = .ok (.bipush 20, 2) := by decide +kernel
theorem dX9_nightMark_9 : decode cX9_nightMark 9 = .ok (.invokevirtual 225, 3) := by decide +kernel
theorem dX9_nightMark_12 : decode cX9_nightMark 12 = .ok (.iload_n 1, 1) := by decide +kernel
theorem dX9_nightMark_13 : decode cX9_nightMark 13 = .ok (.aload_n 0, 1) := by decide +kernel
theorem dX9_nightMark_14 : decode cX9_nightMark 14 = .ok (.iload_n 1, 1) := by decide +kernel
theorem dX9_nightMark_15 : decode cX9_nightMark 15 = .ok (.invokevirtual 232, 3) := by decide +kernel
theorem dX9_nightMark_18 : decode cX9_nightMark 18 = .ok (.isub, 1) := by decide +kernel
theorem dX9_nightMark_19 : decode cX9_nightMark 19 = .ok (.ireturn, 1) := by decide +kernel
theorem dX9_ask_0 : decode cX9_ask 0 = .ok (.aload_n 0, 1) := by decide +kernel
theorem dX9_ask_1 : decode cX9_ask 1 = .ok (.iload_n 1, 1) := by decide +kernel
theorem dX9_ask_2 : decode cX9_ask 2 = .ok (.invokevirtual 187, 3) := by decide +kernel
theorem dX9_ask_5 : decode cX9_ask 5 = .ok (.ifCond .eq 12, 3) := by decide +kernel
theorem dX9_ask_8 : decode cX9_ask 8 = .ok (.iload_n 2, 1) := by decide +kernel
theorem dX9_ask_9 : decode cX9_ask 9 = .ok (.iconst 0, 1) := by decide +kernel
theorem dX9_ask_10 : decode cX9_ask 10 = .ok (.iconst 1, 1) := by decide +kernel
theorem dX9_ask_11 : decode cX9_ask 11 = .ok (.invokestatic 59, 3) := by decide +kernel
theorem dX9_ask_14 : decode cX9_ask 14 = .ok (.ifCond .ne 6, 3) := by decide +kernel
theorem dX9_ask_17 : decode cX9_ask 17 = .ok (.ldc 67, 2) := by decide +kernel
theorem dX9_ask_19 : decode cX9_ask 19 = .ok (.ireturn, 1) := by decide +kernel
theorem dX9_ask_20 : decode cX9_ask 20 = .ok (.aload_n 0, 1) := by decide +kernel
theorem dX9_ask_21 : decode cX9_ask 21 = .ok (.iconst 0, 1) := by decide +kernel
theorem dX9_ask_22 : decode cX9_ask 22 = .ok (.putfield 222, 3) := by decide +kernel
theorem dX9_ask_25 : decode cX9_ask 25 = .ok (.aload_n 0, 1) := by decide +kernel
theorem dX9_ask_26 : decode cX9_ask 26 = .ok (.iload_n 1, 1) := by decide +kernel
theorem dX9_ask_27 : decode cX9_ask 27 = .ok (.invokevirtual 219, 3) := by decide +kernel
theorem dX9_ask_30 : decode cX9_ask 30 = .ok (.iconst 4, 1) := by decide +kernel
theorem dX9_ask_31 : decode cX9_ask 31 = .ok (.if_icmp .lt 7, 3) := by decide +kernel
theorem dX9_ask_34 : decode cX9_ask 34 = .ok (.iconst 1, 1) := by decide +kernel
theorem dX9_ask_35 : decode cX9_ask 35 = .ok (.goto 4, 3) := by decide +kernel
theorem dX9_ask_38 : decode cX9_ask 38 = .ok (.iconst 0, 1) := by decide +kernel
theorem dX9_ask_39 : decode cX9_ask 39 = .ok (.istore_n 3, 1) := by decide +kernel
theorem dX9_ask_40 : decode cX9_ask 40 = .ok (.iload_n 2, 1) := by decide +kernel
theorem dX9_ask_41 : decode cX9_ask 41 = .ok (.ifCond .ne 21, 3) := by decide +kernel
theorem dX9_ask_44 : decode cX9_ask 44 = .ok (.iload_n 3, 1) := by decide +kernel
theorem dX9_ask_45 : decode cX9_ask 45 = .ok (.ifCond .eq 11, 3) := by decide +kernel
theorem dX9_ask_48 : decode cX9_ask 48 = .ok (.aload_n 0, 1) := by decide +kernel
theorem dX9_ask_49 : decode cX9_ask 49 = .ok (.iload_n 1, 1) := by decide +kernel
theorem dX9_ask_50 : decode cX9_ask 50 = .ok (.invokevirtual 232, 3) := by decide +kernel
theorem dX9_ask_53 : decode cX9_ask 53 = .ok (.goto 8, 3) := by decide +kernel
theorem dX9_ask_56 : decode cX9_ask 56 = .ok (.aload_n 0, 1) := by decide +kernel
theorem dX9_ask_57 : decode cX9_ask 57 = .ok (.iload_n 1, 1) := by decide +kernel
theorem dX9_ask_58 : decode cX9_ask 58 = .ok (.invokevirtual 235, 3) := by decide +kernel
theorem dX9_ask_61 : decode cX9_ask 61 = .ok (.ireturn, 1) := by decide +kernel
theorem dX9_ask_62 : decode cX9_ask 62 = .ok (.iload_n 3, 1) := by decide +kernel
theorem dX9_ask_63 : decode cX9_ask 63 = .ok (.ifCond .eq 11, 3) := by decide +kernel
theorem dX9_ask_66 : decode cX9_ask 66 = .ok (.aload_n 0, 1) := by decide +kernel
theorem dX9_ask_67 : decode cX9_ask 67 = .ok (.iload_n 1, 1) := by decide +kernel
theorem dX9_ask_68 : decode cX9_ask 68 = .ok (.invokevirtual 238, 3) := by decide +kernel
theorem dX9_ask_71 : decode cX9_ask 71 = .ok (.goto 8, 3) := by decide +kernel
theorem dX9_ask_74 : decode cX9_ask 74 = .ok (.aload_n 0, 1) := by decide +kernel
theorem dX9_ask_75 : decode cX9_ask 75 = .ok (.iload_n 1, 1) := by decide +kernel
theorem dX9_ask_76 : decode cX9_ask 76 = .ok (.invokevirtual 229, 3) := by decide +kernel
theorem dX9_ask_79 : decode cX9_ask 79 = .ok (.ireturn, 1) := by decide +kernel
theorem dX9_trace_0 : decode cX9_trace 0 = .ok (.iload_n 1, 1) := by decide +kernel
theorem dX9_trace_1 : decode cX9_trace 1 = .ok (.iconst 0, 1) := by decide +kernel
theorem dX9_trace_2 : decode cX9_trace 2 = .ok (.aload_n 0, 1) := by decide +kernel
theorem dX9_trace_3 : decode cX9_trace 3 = .ok (.getfield 222, 3) := by decide +kernel
theorem dX9_trace_6 : decode cX9_trace 6 = .ok (.iconst 1, 1) := by decide +kernel
theorem dX9_trace_7 : decode cX9_trace 7 = .ok (.isub, 1) := by decide +kernel
theorem dX9_trace_8 : decode cX9_trace 8 = .ok (.invokestatic 59, 3) := by decide +kernel
theorem dX9_trace_11 : decode cX9_trace 11 = .ok (.ifCond .eq 12, 3) := by decide +kernel
theorem dX9_trace_14 : decode cX9_trace 14 = .ok (.aload_n 0, 1) := by decide +kernel
theorem dX9_trace_15 : decode cX9_trace 15 = .ok (.getfield 50, 3) := by decide +kernel
theorem dX9_trace_18 : decode cX9_trace 18 = .ok (.iload_n 1, 1) := by decide +kernel
theorem dX9_trace_19 : decode cX9_trace 19 = .ok (.iaload, 1) := by decide +kernel
theorem dX9_trace_20 : decode cX9_trace 20 = .ok (.goto 5, 3) := by decide +kernel
theorem dX9_trace_23 : decode cX9_trace 23 = .ok (.ldc 53, 2) := by decide +kernel
theorem dX9_trace_25 : decode cX9_trace 25 = .ok (.ireturn, 1) := by decide +kernel
theorem dX9_count_0 : decode cX9_count 0 = .ok (.iconst 0, 1) := by decide +kernel
theorem dX9_count_1 : decode cX9_count 1 = .ok (.istore_n 2, 1) := by decide +kernel
theorem dX9_count_2 : decode cX9_count 2 = .ok (.iload_n 1, 1) := by decide +kernel
theorem dX9_count_3 : decode cX9_count 3 = .ok (.tableswitch 123 0 7 #[45, 77, 84, 91, 98, 106, 113, 118], 45) := by decide +kernel
theorem dX9_count_48 : decode cX9_count 48 = .ok (.iconst 0, 1) := by decide +kernel
theorem dX9_count_49 : decode cX9_count 49 = .ok (.istore_n 3, 1) := by decide +kernel
theorem dX9_count_50 : decode cX9_count 50 = .ok (.iload_n 3, 1) := by decide +kernel
theorem dX9_count_51 : decode cX9_count 51 = .ok (.bipush 8, 2) := by decide +kernel
theorem dX9_count_53 : decode cX9_count 53 = .ok (.if_icmp .ge 25, 3) := by decide +kernel
theorem dX9_count_56 : decode cX9_count 56 = .ok (.iload_n 2, 1) := by decide +kernel
theorem dX9_count_57 : decode cX9_count 57 = .ok (.aload_n 0, 1) := by decide +kernel
theorem dX9_count_58 : decode cX9_count 58 = .ok (.iload_n 3, 1) := by decide +kernel
theorem dX9_count_59 : decode cX9_count 59 = .ok (.invokevirtual 75, 3) := by decide +kernel
theorem dX9_count_62 : decode cX9_count 62 = .ok (.ifCond .eq 7, 3) := by decide +kernel
theorem dX9_count_65 : decode cX9_count 65 = .ok (.iconst 0, 1) := by decide +kernel
theorem dX9_count_66 : decode cX9_count 66 = .ok (.goto 4, 3) := by decide +kernel
theorem dX9_count_69 : decode cX9_count 69 = .ok (.iconst 1, 1) := by decide +kernel
theorem dX9_count_70 : decode cX9_count 70 = .ok (.iadd, 1) := by decide +kernel
theorem dX9_count_71 : decode cX9_count 71 = .ok (.istore_n 2, 1) := by decide +kernel
theorem dX9_count_72 : decode cX9_count 72 = .ok (.iinc 3 1, 3) := by decide +kernel
theorem dX9_count_75 : decode cX9_count 75 = .ok (.goto (-25), 3) := by decide +kernel
theorem dX9_count_78 : decode cX9_count 78 = .ok (.iload_n 2, 1) := by decide +kernel
theorem dX9_count_79 : decode cX9_count 79 = .ok (.ireturn, 1) := by decide +kernel
theorem dX9_count_80 : decode cX9_count 80 = .ok (.aload_n 0, 1) := by decide +kernel
theorem dX9_count_81 : decode cX9_count 81 = .ok (.getfield 25, 3) := by decide +kernel
theorem dX9_count_84 : decode cX9_count 84 = .ok (.iconst 2, 1) := by decide +kernel
theorem dX9_count_85 : decode cX9_count 85 = .ok (.iaload, 1) := by decide +kernel
theorem dX9_count_86 : decode cX9_count 86 = .ok (.ireturn, 1) := by decide +kernel
theorem dX9_count_87 : decode cX9_count 87 = .ok (.aload_n 0, 1) := by decide +kernel
theorem dX9_count_88 : decode cX9_count 88 = .ok (.getfield 25, 3) := by decide +kernel
theorem dX9_count_91 : decode cX9_count 91 = .ok (.iconst 5, 1) := by decide +kernel
theorem dX9_count_92 : decode cX9_count 92 = .ok (.iaload, 1) := by decide +kernel
theorem dX9_count_93 : decode cX9_count 93 = .ok (.ireturn, 1) := by decide +kernel
theorem dX9_count_94 : decode cX9_count 94 = .ok (.aload_n 0, 1) := by decide +kernel
theorem dX9_count_95 : decode cX9_count 95 = .ok (.getfield 25, 3) := by decide +kernel
theorem dX9_count_98 : decode cX9_count 98 = .ok (.iconst 3, 1) := by decide +kernel
theorem dX9_count_99 : decode cX9_count 99 = .ok (.iaload, 1) := by decide +kernel
theorem dX9_count_100 : decode cX9_count 100 = .ok (.ireturn, 1) := by decide +kernel
theorem dX9_count_101 : decode cX9_count 101 = .ok (.aload_n 0, 1) := by decide +kernel
theorem dX9_count_102 : decode cX9_count 102 = .ok (.getfield 25, 3) := by decide +kernel
theorem dX9_count_105 : decode cX9_count 105 = .ok (.invokestatic 177, 3) := by decide +kernel
theorem dX9_count_108 : decode cX9_count 108 = .ok (.ireturn, 1) := by decide +kernel
theorem dX9_count_109 : decode cX9_count 109 = .ok (.aload_n 0, 1) := by decide +kernel
theorem dX9_count_110 : decode cX9_count 110 = .ok (.getfield 25, 3) := by decide +kernel
theorem dX9_count_113 : decode cX9_count 113 = .ok (.iconst 4, 1) := by decide +kernel
theorem dX9_count_114 : decode cX9_count 114 = .ok (.iaload, 1) := by decide +kernel
theorem dX9_count_115 : decode cX9_count 115 = .ok (.ireturn, 1) := by decide +kernel
theorem dX9_count_116 : decode cX9_count 116 = .ok (.aload_n 0, 1) := by decide +kernel
theorem dX9_count_117 : decode cX9_count 117 = .ok (.getfield 141, 3) := by decide +kernel
theorem dX9_count_120 : decode cX9_count 120 = .ok (.ireturn, 1) := by decide +kernel
theorem dX9_count_121 : decode cX9_count 121 = .ok (.aload_n 0, 1) := by decide +kernel
theorem dX9_count_122 : decode cX9_count 122 = .ok (.getfield 85, 3) := by decide +kernel
theorem dX9_count_125 : decode cX9_count 125 = .ok (.ireturn, 1) := by decide +kernel
theorem dX9_count_126 : decode cX9_count 126 = .ok (.ldc 67, 2) := by decide +kernel
theorem dX9_count_128 : decode cX9_count 128 = .ok (.ireturn, 1) := by decide +kernel
theorem dX9_status_0 : decode cX9_status 0 = .ok (.aload_n 0, 1) := by decide +kernel
theorem dX9_status_1 : decode cX9_status 1 = .ok (.getfield 54, 3) := by decide +kernel
theorem dX9_status_4 : decode cX9_status 4 = .ok (.ireturn, 1) := by decide +kernel
