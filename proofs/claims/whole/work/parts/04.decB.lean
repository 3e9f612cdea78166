theorem dX8_init_0 : decode cX8_init 0 = .ok (.aload_n 0, 1) := by decide +kernel
theorem dX8_init_1 : decode cX8_init 1 = .ok (.invokespecial 1, 3) := by decide +kernel
theorem dX8_init_4 : decode cX8_init 4 = .ok (.aload_n 0, 1) := by decide +kernel
theorem dX8_init_5 : decode cX8_init 5 = .ok (.bipush 8, 2) := by decide +kernel
theorem dX8_init_7 : decode cX8_init 7 = .ok (.anewarray 9, 3) := by decide +kernel
theorem dX8_init_10 : decode cX8_init 10 = .ok (.putfield 11, 3) := by decide +kernel
theorem dX8_init_13 : decode cX8_init 13 = .ok (.aload_n 0, 1) := by decide +kernel
theorem dX8_init_14 : decode cX8_init 14 = .ok (.new 15, 3) := by decide +kernel
theorem dX8_init_17 : decode cX8_init 17 = .ok (.dup, 1) := by decide +kernel
theorem dX8_init_18 : decode cX8_init 18 = .ok (.invokespecial 17, 3) := by decide +kernel
theorem dX8_init_21 : decode cX8_init 21 = .ok (.putfield 18, 3) := by decide +kernel
theorem dX8_init_24 : decode cX8_init 24 = .ok (.aload_n 0, 1) := by decide +kernel
theorem dX8_init_25 : decode cX8_init 25 = .ok (.new 22, 3) := by decide +kernel
theorem dX8_init_28 : decode cX8_init 28 = .ok (.dup, 1) := by decide +kernel
theorem dX8_init_29 : decode cX8_init 29 = .ok (.invokespecial 24, 3) := by decide +kernel
theorem dX8_init_32 : decode cX8_init 32 = .ok (.putfield 25, 3) := by decide +kernel
theorem dX8_init_35 : decode cX8_init 35 = .ok (.aload_n 0, 1) := by decide +kernel
theorem dX8_init_36 : decode cX8_init 36 = .ok (.new 22, 3) := by decide +kernel
theorem dX8_init_39 : decode cX8_init 39 = .ok (.dup, 1) := by decide +kernel
theorem dX8_init_40 : decode cX8_init 40 = .ok (.invokespecial 24, 3) := by decide +kernel
theorem dX8_init_43 : decode cX8_init 43 = .ok (.putfield 29, 3) := by decide +kernel
theorem dX8_init_46 : decode cX8_init 46 = .ok (.aload_n 0, 1) := by decide +kernel
theorem dX8_init_47 : decode cX8_init 47 = .ok (.iconst 2, 1) := by decide +kernel
theorem dX8_init_48 : decode cX8_init 48 = .ok (.anewarray 22, 3) := by decide +kernel
theorem dX8_init_51 : decode cX8_init 51 = .ok (.putfield 32, 3) := by decide +kernel
theorem dX8_init_54 : decode cX8_init 54 = .ok (.aload_n 0, 1) := by decide +kernel
theorem dX8_init_55 : decode cX8_init 55 = .ok (.new 36, 3) := by decide +kernel
theorem dX8_init_58 : decode cX8_init 58 = .ok (.dup, 1) := by decide +kernel
theorem dX8_init_59 : decode cX8_init 59 = .ok (.invokespecial 38, 3) := by decide +kernel
theorem dX8_init_62 : decode cX8_init 62 = .ok (.putfield 39, 3) := by decide +kernel
theorem dX8_init_65 : decode cX8_init 65 = .ok (.aload_n 0, 1) := by decide +kernel
theorem dX8_init_66 : decode cX8_init 66 = .ok (.new 43, 3) := by decide +kernel
theorem dX8_init_69 : decode cX8_init 69 = .ok (.dup, 1) := by decide +kernel
theorem dX8_init_70 : decode cX8_init 70 = .ok (.invokespecial 45, 3) := by decide +kernel
theorem dX8_init_73 : decode cX8_init 73 = .ok (.putfield 46, 3) := by decide +kernel
theorem dX8_init_76 : decode cX8_init 76 = .ok (.aload_n 0, 1) := by decide +kernel
theorem dX8_init_77 : decode cX8_init 77 = .ok (.new 50, 3) := by decide +kernel
theorem dX8_init_80 : decode cX8_init 80 = .ok (.dup, 1) := by decide +kernel
theorem dX8_init_81 : decode cX8_init 81 = .ok (.invokespecial 52, 3) := by decide +kernel
theorem dX8_init_84 : decode cX8_init 84 = .ok (.putfield 53, 3) := by decide +kernel
theorem dX8_init_87 : decode cX8_init 87 = .ok (.aload_n 0, 1) := by decide +kernel
theorem dX8_init_88 : decode cX8_init 88 = .ok (.iconst 0, 1) := by decide +kernel
theorem dX8_init_89 : decode cX8_init 89 = .ok (.putfield 57, 3) := by decide +kernel
theorem dX8_init_92 : decode cX8_init 92 = .ok (.iconst 0, 1) := by decide +kernel
theorem dX8_init_93 : decode cX8_init 93 = .ok (.istore_n 1, 1) := by decide +kernel
theorem dX8_init_94 : decode cX8_init 94 = .ok (.iload_n 1, 1) := by decide +kernel
theorem dX8_init_95 : decode cX8_init 95 = .ok (.bipush 8, 2) := by decide +kernel
theorem dX8_init_97 : decode cX8_init 97 = .ok (.if_icmp .ge 22, 3) := by decide +kernel
theorem dX8_init_100 : decode cX8_init 100 = .ok (.aload_n 0, 1) := by decide +kernel
theorem dX8_init_101 : decode cX8_init 101 = .ok (.getfield 11, 3) := by decide +kernel
theorem dX8_init_104 : decode cX8_init 104 = .ok (.iload_n 1, 1) := by decide +kernel
theorem dX8_init_105 : decode cX8_init 105 = .ok (.new 9, 3) := by decide +kernel
theorem dX8_init_108 : decode cX8_init 108 = .ok (.dup, 1) := by decide +kernel
theorem dX8_init_109 : decode cX8_init 109 = .ok (.invokespecial 61, 3) := by decide +kernel
theorem dX8_init_112 : decode cX8_init 112 = .ok (.aastore, 1) := by decide +kernel
theorem dX8_init_113 : decode cX8_init 113 = .ok (.iinc 1 1, 3) := by decide +kernel
theorem dX8_init_116 : decode cX8_init 116 = .ok (.goto (-22), 3) := by decide +kernel
theorem dX8_init_119 : decode cX8_init 119 = .ok (.iconst 0, 1) := by decide +kernel
theorem dX8_init_120 : decode cX8_init 120 = .ok (.istore_n 1, 1) := by decide +kernel
theorem dX8_init_121 : decode cX8_init 121 = .ok (.iload_n 1, 1) := by decide +kernel
theorem dX8_init_122 : decode cX8_init 122 = .ok (.iconst 2, 1) := by decide +kernel
theorem dX8_init_123 : decode cX8_init 123 = .ok (.if_icmp .ge 22, 3) := by decide +kernel
theorem dX8_init_126 : decode cX8_init 126 = .ok (.aload_n 0, 1) := by decide +kernel
theorem dX8_init_127 : decode cX8_init 127 = .ok (.getfield 32, 3) := by decide +kernel
theorem dX8_init_130 : decode cX8_init 130 = .ok (.iload_n 1, 1) := by decide +kernel
theorem dX8_init_131 : decode cX8_init 131 = .ok (.new 22, 3) := by decide +kernel
theorem dX8_init_134 : decode cX8_init 134 = .ok (.dup, 1) := by decide +kernel
theorem dX8_init_135 : decode cX8_init 135 = .ok (.invokespecial 24, 3) := by decide +kernel
theorem dX8_init_138 : decode cX8_init 138 = .ok (.aastore, 1) := by decide +kernel
theorem dX8_init_139 : decode cX8_init 139 = .ok (.iinc 1 1, 3) := by decide +kernel
theorem dX8_init_142 : decode cX8_init 142 = .ok (.goto (-21), 3) := by decide +kernel
theorem dX8_init_145 : decode cX8_init 145 = .ok (.return_, 1) := by decide +kernel
theorem dX8_row_0 : decode cX8_row 0 = .ok (.iload_n 1, 1) := by decide +kernel
theorem dX8_row_1 : decode cX8_row 1 = .ok (.invokestatic 62, 3) := by decide +kernel
theorem dX8_row_4 : decode cX8_row 4 = .ok (.ifCond .eq 17, 3) := by decide +kernel
theorem dX8_row_7 : decode cX8_row 7 = .ok (.iload_n 2, 1) := by decide +kernel
theorem dX8_row_8 : decode cX8_row 8 = .ok (.iconst 2, 1) := by decide +kernel
theorem dX8_row_9 : decode cX8_row 9 = .ok (.invokestatic 66, 3) := by decide +kernel
theorem dX8_row_12 : decode cX8_row 12 = .ok (.ifCond .eq 9, 3) := by decide +kernel
theorem dX8_row_15 : decode cX8_row 15 = .ok (.iload_n 3, 1) := by decide +kernel
theorem dX8_row_16 : decode cX8_row 16 = .ok (.bipush 40, 2) := by decide +kernel
theorem dX8_row_18 : decode cX8_row 18 = .ok (.if_icmp .le 6, 3) := by decide +kernel
theorem dX8_row_21 : decode cX8_row 21 = .ok (.ldc 70, 2) := by decide +kernel
theorem dX8_row_23 : decode cX8_row 23 = .ok (.ireturn, 1) := by decide +kernel
theorem dX8_row_24 : decode cX8_row 24 = .ok (.iload_n 3, 1) := by decide +kernel
theorem dX8_row_25 : decode cX8_row 25 = .ok (.ifCond .ge 9, 3) := by decide +kernel
theorem dX8_row_28 : decode cX8_row 28 = .ok (.aload_n 0, 1) := by decide +kernel
theorem dX8_row_29 : decode cX8_row 29 = .ok (.iconst 4, 1) := by decide +kernel
theorem dX8_row_30 : decode cX8_row 30 = .ok (.invokevirtual 71, 3) := by decide +kernel
theorem dX8_row_33 : decode cX8_row 33 = .ok (.ireturn, 1) := by decide +kernel
theorem dX8_row_34 : decode cX8_row 34 = .ok (.aload_n 0, 1) := by decide +kernel
theorem dX8_row_35 : decode cX8_row 35 = .ok (.getfield 11, 3) := by decide +kernel
theorem dX8_row_38 : decode cX8_row 38 = .ok (.iload_n 1, 1) := by decide +kernel
theorem dX8_row_39 : decode cX8_row 39 = .ok (.aaload, 1) := by decide +kernel
theorem dX8_row_40 : decode cX8_row 40 = .ok (.iload_n 2, 1) := by decide +kernel
theorem dX8_row_41 : decode cX8_row 41 = .ok (.iload_n 3, 1) := by decide +kernel
theorem dX8_row_42 : decode cX8_row 42 = .ok (.invokevirtual 75, 3) := by decide +kernel
theorem dX8_row_45 : decode cX8_row 45 = .ok (.aload_n 0, 1) := by decide +kernel
theorem dX8_row_46 : decode cX8_row 46 = .ok (.iload_n 3, 1) := by decide +kernel
theorem dX8_row_47 : decode cX8_row 47 = .ok (.invokevirtual 79, 3) := by decide +kernel
theorem dX8_row_50 : decode cX8_row 50 = .ok (.ireturn, 1) := by decide +kernel
theorem dX8_set_0 : decode cX8_set 0 = .ok (.iload_n 1, 1) := by decide +kernel
theorem dX8_set_1 : decode cX8_set 1 = .ok (.invokestatic 62, 3) := by decide +kernel
theorem dX8_set_4 : decode cX8_set 4 = .ok (.ifCond .ne 6, 3) := by decide +kernel
theorem dX8_set_7 : decode cX8_set 7 = .ok (.ldc 70, 2) := by decide +kernel
theorem dX8_set_9 : decode cX8_set 9 = .ok (.ireturn, 1) := by decide +kernel
theorem dX8_set_10 : decode cX8_set 10 = .ok (.aload_n 0, 1) := by decide +kernel
theorem dX8_set_11 : decode cX8_set 11 = .ok (.getfield 11, 3) := by decide +kernel
theorem dX8_set_14 : decode cX8_set 14 = .ok (.iload_n 1, 1) := by decide +kernel
theorem dX8_set_15 : decode cX8_set 15 = .ok (.aaload, 1) := by decide +kernel
theorem dX8_set_16 : decode cX8_set 16 = .ok (.astore 4, 2) := by decide +kernel
theorem dX8_set_18 : decode cX8_set 18 = .ok (.aload 4, 2) := by decide +kernel
theorem dX8_set_20 : decode cX8_set 20 = .ok (.getfield 82, 3) := by decide +kernel
theorem dX8_set_23 : decode cX8_set 23 = .ok (.ifCond .ne 9, 3) := by decide +kernel
theorem dX8_set_26 : decode cX8_set 26 = .ok (.aload_n 0, 1) := by decide +kernel
theorem dX8_set_27 : decode cX8_set 27 = .ok (.iconst 1, 1) := by decide +kernel
theorem dX8_set_28 : decode cX8_set 28 = .ok (.invokevirtual 71, 3) := by decide +kernel
theorem dX8_set_31 : decode cX8_set 31 = .ok (.ireturn, 1) := by decide +kernel
theorem dX8_set_32 : decode cX8_set 32 = .ok (.aload 4, 2) := by decide +kernel
theorem dX8_set_34 : decode cX8_set 34 = .ok (.iload_n 2, 1) := by decide +kernel
theorem dX8_set_35 : decode cX8_set 35 = .ok (.iconst 1, 1) := by decide +kernel
theorem dX8_set_36 : decode cX8_set 36 = .ok (.invokevirtual 86, 3) := by decide +kernel
theorem dX8_set_39 : decode cX8_set 39 = .ok (.ifCond .ne 9, 3) := by decide +kernel
theorem dX8_set_42 : decode cX8_set 42 = .ok (.aload_n 0, 1) := by decide +kernel
theorem dX8_set_43 : decode cX8_set 43 = .ok (.iconst 2, 1) := by decide +kernel
theorem dX8_set_44 : decode cX8_set 44 = .ok (.invokevirtual 71, 3) := by decide +kernel
theorem dX8_set_47 : decode cX8_set 47 = .ok (.ireturn, 1) := by decide +kernel
theorem dX8_set_48 : decode cX8_set 48 = .ok (.aload_n 0, 1) := by decide +kernel
theorem dX8_set_49 : decode cX8_set 49 = .ok (.aload 4, 2) := by decide +kernel
theorem dX8_set_51 : decode cX8_set 51 = .ok (.iload_n 2, 1) := by decide +kernel
theorem dX8_set_52 : decode cX8_set 52 = .ok (.iload_n 3, 1) := by decide +kernel
theorem dX8_set_53 : decode cX8_set 53 = .ok (.invokevirtual 89, 3) := by decide +kernel
theorem dX8_set_56 : decode cX8_set 56 = .ok (.invokevirtual 79, 3) := by decide +kernel
theorem dX8_set_59 : decode cX8_set 59 = .ok (.ireturn, 1) := by decide +kernel
theorem dX8_copy_0 : decode cX8_copy 0 = .ok (.iload_n 1, 1) := by decide +kernel
theorem dX8_copy_1 : decode cX8_copy 1 = .ok (.invokestatic 62, 3) := by decide +kernel
theorem dX8_copy_4 : decode cX8_copy 4 = .ok (.ifCond .eq 10, 3) := by decide +kernel
theorem dX8_copy_7 : decode cX8_copy 7 = .ok (.iload_n 3, 1) := by decide +kernel
theorem dX8_copy_8 : decode cX8_copy 8 = .ok (.invokestatic 62, 3) := by decide +kernel
theorem dX8_copy_11 : decode cX8_copy 11 = .ok (.ifCond .ne 6, 3) := by decide +kernel
theorem dX8_copy_14 : decode cX8_copy 14 = .ok (.ldc 70, 2) := by decide +kernel
theorem dX8_copy_16 : decode cX8_copy 16 = .ok (.ireturn, 1) := by decide +kernel
theorem dX8_copy_17 : decode cX8_copy 17 = .ok (.aload_n 0, 1) := by decide +kernel
theorem dX8_copy_18 : decode cX8_copy 18 = .ok (.getfield 11, 3) := by decide +kernel
theorem dX8_copy_21 : decode cX8_copy 21 = .ok (.iload_n 1, 1) := by decide +kernel
theorem dX8_copy_22 : decode cX8_copy 22 = .ok (.aaload, 1) := by decide +kernel
theorem dX8_copy_23 : decode cX8_copy 23 = .ok (.astore 6, 2) := by decide +kernel
theorem dX8_copy_25 : decode cX8_copy 25 = .ok (.aload_n 0, 1) := by decide +kernel
theorem dX8_copy_26 : decode cX8_copy 26 = .ok (.getfield 11, 3) := by decide +kernel
theorem dX8_copy_29 : decode cX8_copy 29 = .ok (.iload_n 3, 1) := by decide +kernel
theorem dX8_copy_30 : decode cX8_copy 30 = .ok (.aaload, 1) := by decide +kernel
theorem dX8_copy_31 : decode cX8_copy 31 = .ok (.astore 7, 2) := by decide +kernel
theorem dX8_copy_33 : decode cX8_copy 33 = .ok (.aload 6, 2) := by decide +kernel
theorem dX8_copy_35 : decode cX8_copy 35 = .ok (.getfield 82, 3) := by decide +kernel
theorem dX8_copy_38 : decode cX8_copy 38 = .ok (.ifCond .eq 11, 3) := by decide +kernel
theorem dX8_copy_41 : decode cX8_copy 41 = .ok (.aload 7, 2) := by decide +kernel
theorem dX8_copy_43 : decode cX8_copy 43 = .ok (.getfield 82, 3) := by decide +kernel
theorem dX8_copy_46 : decode cX8_copy 46 = .ok (.ifCond .ne 9, 3) := by decide +kernel
theorem dX8_copy_49 : decode cX8_copy 49 = .ok (.aload_n 0, 1) := by decide +kernel
theorem dX8_copy_50 : decode cX8_copy 50 = .ok (.iconst 1, 1) := by decide +kernel
theorem dX8_copy_51 : decode cX8_copy 51 = .ok (.invokevirtual 71, 3) := by decide +kernel
theorem dX8_copy_54 : decode cX8_copy 54 = .ok (.ireturn, 1) := by decide +kernel
theorem dX8_copy_55 : decode cX8_copy 55 = .ok (.aload 6, 2) := by decide +kernel
theorem dX8_copy_57 : decode cX8_copy 57 = .ok (.getfield 93, 3) := by decide +kernel
theorem dX8_copy_60 : decode cX8_copy 60 = .ok (.aload 7, 2) := by decide +kernel
theorem dX8_copy_62 : decode cX8_copy 62 = .ok (.getfield 93, 3) := by decide +kernel
theorem dX8_copy_65 : decode cX8_copy 65 = .ok (.if_icmp .eq 9, 3) := by decide +kernel
theorem dX8_copy_68 : decode cX8_copy 68 = .ok (.aload_n 0, 1) := by decide +kernel
theorem dX8_copy_69 : decode cX8_copy 69 = .ok (.iconst 5, 1) := by decide +kernel
theorem dX8_copy_70 : decode cX8_copy 70 = .ok (.invokevirtual 71, 3) := by decide +kernel
theorem dX8_copy_73 : decode cX8_copy 73 = .ok (.ireturn, 1) := by decide +kernel
theorem dX8_copy_74 : decode cX8_copy 74 = .ok (.aload 6, 2) := by decide +kernel
theorem dX8_copy_76 : decode cX8_copy 76 = .ok (.iload_n 2, 1) := by decide +kernel
theorem dX8_copy_77 : decode cX8_copy 77 = .ok (.iload 5, 2) := by decide +kernel
theorem dX8_copy_79 : decode cX8_copy 79 = .ok (.invokevirtual 86, 3) := by decide +kernel
theorem dX8_copy_82 : decode cX8_copy 82 = .ok (.ifCond .eq 15, 3) := by decide +kernel
theorem dX8_copy_85 : decode cX8_copy 85 = .ok (.aload 7, 2) := by decide +kernel
theorem dX8_copy_87 : decode cX8_copy 87 = .ok (.iload 4, 2) := by decide +kernel
theorem dX8_copy_89 : decode cX8_copy 89 = .ok (.iload 5, 2) := by decide +kernel
theorem dX8_copy_91 : decode cX8_copy 91 = .ok (.invokevirtual 86, 3) := by decide +kernel
theorem dX8_copy_94 : decode cX8_copy 94 = .ok (.ifCond .ne 9, 3) := by decide +kernel
theorem dX8_copy_97 : decode cX8_copy 97 = .ok (.aload_n 0, 1) := by decide +kernel
theorem dX8_copy_98 : decode cX8_copy 98 = .ok (.iconst 2, 1) := by decide +kernel
theorem dX8_copy_99 : decode cX8_copy 99 = .ok (.invokevirtual 71, 3) := by decide +kernel
theorem dX8_copy_102 : decode cX8_copy 102 = .ok (.ireturn, 1) := by decide +kernel
theorem dX8_copy_103 : decode cX8_copy 103 = .ok (.aload 6, 2) := by decide +kernel
theorem dX8_copy_105 : decode cX8_copy 105 = .ok (.getfield 96, 3) := by decide +kernel
theorem dX8_copy_108 : decode cX8_copy 108 = .ok (.iload_n 2, 1) := by decide +kernel
theorem dX8_copy_109 : decode cX8_copy 109 = .ok (.aload 7, 2) := by decide +kernel
theorem dX8_copy_111 : decode cX8_copy 111 = .ok (.getfield 96, 3) := by decide +kernel
theorem dX8_copy_114 : decode cX8_copy 114 = .ok (.iload 4, 2) := by decide +kernel
theorem dX8_copy_116 : decode cX8_copy 116 = .ok (.iload 5, 2) := by decide +kernel
theorem dX8_copy_118 : decode cX8_copy 118 = .ok (.invokestatic 100, 3) := by decide +kernel
theorem dX8_copy_121 : decode cX8_copy 121 = .ok (.aload_n 0, 1) := by decide +kernel
theorem dX8_copy_122 : decode cX8_copy 122 = .ok (.iload 5, 2) := by decide +kernel
theorem dX8_copy_124 : decode cX8_copy 124 = .ok (.invokevirtual 79, 3) := by decide +kernel
theorem dX8_copy_127 : decode cX8_copy 127 = .ok (.ireturn, 1) := by decide +kernel
theorem dX8_drop_0 : decode cX8_drop 0 = .ok (.iload_n 1, 1) := by decide +kernel
theorem dX8_drop_1 : decode cX8_drop 1 = .ok (.invokestatic 62, 3) := by decide +kernel
theorem dX8_drop_4 : decode cX8_drop 4 = .ok (.ifCond .ne 6, 3) := by decide +kernel
theorem dX8_drop_7 : decode cX8_drop 7 = .ok (.ldc 70, 2) := by decide +kernel
theorem dX8_drop_9 : decode cX8_drop 9 = .ok (.ireturn, 1) := by decide +kernel
theorem dX8_drop_10 : decode cX8_drop 10 = .ok (.aload_n 0, 1) := by decide +kernel
theorem dX8_drop_11 : decode cX8_drop 11 = .ok (.getfield 11, 3) := by decide +kernel
theorem dX8_drop_14 : decode cX8_drop 14 = .ok (.iload_n 1, 1) := by decide +kernel
theorem dX8_drop_15 : decode cX8_drop 15 = .ok (.aaload, 1) := by decide +kernel
theorem dX8_drop_16 : decode cX8_drop 16 = .ok (.astore_n 2, 1) := by decide +kernel
theorem dX8_drop_17 : decode cX8_drop 17 = .ok (.aload_n 2, 1) := by decide +kernel
theorem dX8_drop_18 : decode cX8_drop 18 = .ok (.getfield 82, 3) := by decide +kernel
theorem dX8_drop_21 : decode cX8_drop 21 = .ok (.ifCond .ne 9, 3) := by decide +kernel
theorem dX8_drop_24 : decode cX8_drop 24 = .ok (.aload_n 0, 1) := by decide +kernel
theorem dX8_drop_25 : decode cX8_drop 25 = .ok (.iconst 1, 1) := by decide +kernel
theorem dX8_drop_26 : decode cX8_drop 26 = .ok (.invokevirtual 71, 3) := by decide +kernel
theorem dX8_drop_29 : decode cX8_drop 29 = .ok (.ireturn, 1) := by decide +kernel
theorem dX8_drop_30 : decode cX8_drop 30 = .ok (.aload_n 2, 1) := by decide +kernel
theorem dX8_drop_31 : decode cX8_drop 31 = .ok (.iconst 0, 1) := by decide +kernel
theorem dX8_drop_32 : decode cX8_drop 32 = .ok (.putfield 82, 3) := by decide +kernel
theorem dX8_drop_35 : decode cX8_drop 35 = .ok (.aload_n 0, 1) := by decide +kernel
theorem dX8_drop_36 : decode cX8_drop 36 = .ok (.aload_n 2, 1) := by decide +kernel
theorem dX8_drop_37 : decode cX8_drop 37 = .ok (.getfield 106, 3) := by decide +kernel
theorem dX8_drop_40 : decode cX8_drop 40 = .ok (.invokevirtual 79, 3) := by decide +kernel
theorem dX8_drop_43 : decode cX8_drop 43 = .ok (.ireturn, 1) := by decide +kernel
theorem dX8_feed_0 : decode cX8_feed 0 = .ok (.iload_n 1, 1) := by decide +kernel
theorem dX8_feed_1 : decode cX8_feed 1 = .ok (.sipush 255, 3) := by decide +kernel
theorem dX8_feed_4 : decode cX8_feed 4 = .ok (.invokestatic 66, 3) := by decide +kernel
theorem dX8_feed_7 : decode cX8_feed 7 = .ok (.ifCond .ne 6, 3) := by decide +kernel
theorem dX8_feed_10 : decode cX8_feed 10 = .ok (.ldc 70, 2) := by decide +kernel
theorem dX8_feed_12 : decode cX8_feed 12 = .ok (.ireturn, 1) := by decide +kernel
theorem dX8_feed_13 : decode cX8_feed 13 = .ok (.aload_n 0, 1) := by decide +kernel
theorem dX8_feed_14 : decode cX8_feed 14 = .ok (.getfield 18, 3) := by decide +kernel
theorem dX8_feed_17 : decode cX8_feed 17 = .ok (.iload_n 1, 1) := by decide +kernel
theorem dX8_feed_18 : decode cX8_feed 18 = .ok (.invokevirtual 109, 3) := by decide +kernel
theorem dX8_feed_21 : decode cX8_feed 21 = .ok (.ifCond .eq 13, 3) := by decide +kernel
theorem dX8_feed_24 : decode cX8_feed 24 = .ok (.aload_n 0, 1) := by decide +kernel
theorem dX8_feed_25 : decode cX8_feed 25 = .ok (.getfield 18, 3) := by decide +kernel
theorem dX8_feed_28 : decode cX8_feed 28 = .ok (.getfield 112, 3) := by decide +kernel
theorem dX8_feed_31 : decode cX8_feed 31 = .ok (.goto 5, 3) := by decide +kernel
theorem dX8_feed_34 : decode cX8_feed 34 = .ok (.ldc 113, 2) := by decide +kernel
theorem dX8_feed_36 : decode cX8_feed 36 = .ok (.ireturn, 1) := by decide +kernel
theorem dX8_flight_0 : decode cX8_flight 0 = .ok (.aload_n 0, 1) := by decide +kernel
theorem dX8_flight_1 : decode cX8_flight 1 = .ok (.getfield 18, 3) := by decide +kernel
theorem dX8_flight_4 : decode cX8_flight 4 = .ok (.aload_n 0, 1) := by decide +kernel
theorem dX8_flight_5 : decode cX8_flight 5 = .ok (.getfield 29, 3) := by decide +kernel
theorem dX8_flight_8 : decode cX8_flight 8 = .ok (.invokevirtual 114, 3) := by decide +kernel
theorem dX8_flight_11 : decode cX8_flight 11 = .ok (.istore_n 1, 1) := by decide +kernel
theorem dX8_flight_12 : decode cX8_flight 12 = .ok (.aload_n 0, 1) := by decide +kernel
theorem dX8_flight_13 : decode cX8_flight 13 = .ok (.getfield 18, 3) := by decide +kernel
theorem dX8_flight_16 : decode cX8_flight 16 = .ok (.iconst 0, 1) := by decide +kernel
theorem dX8_flight_17 : decode cX8_flight 17 = .ok (.putfield 112, 3) := by decide +kernel
theorem dX8_flight_20 : decode cX8_flight 20 = .ok (.iload_n 1, 1) := by decide +kernel
theorem dX8_flight_21 : decode cX8_flight 21 = .ok (.ifCond .ne 14, 3) := by decide +kernel
theorem dX8_flight_24 : decode cX8_flight 24 = .ok (.ldc 118, 2) := by decide +kernel
theorem dX8_flight_26 : decode cX8_flight 26 = .ok (.aload_n 0, 1) := by decide +kernel
theorem dX8_flight_27 : decode cX8_flight 27 = .ok (.getfield 18, 3) := by decide +kernel
theorem dX8_flight_30 : decode cX8_flight 30 = .ok (.getfield 119, 3) := by decide +kernel
theorem dX8_flight_33 : decode cX8_flight 33 = .ok (.isub, 1) := by decide +kernel
theorem dX8_flight_34 : decode cX8_flight 34 = .ok (.ireturn, 1) := by decide +kernel
theorem dX8_flight_35 : decode cX8_flight 35 = .ok (.aload_n 0, 1) := by decide +kernel
theorem dX8_flight_36 : decode cX8_flight 36 = .ok (.getfield 25, 3) := by decide +kernel
theorem dX8_flight_39 : decode cX8_flight 39 = .ok (.aload_n 0, 1) := by decide +kernel
theorem dX8_flight_40 : decode cX8_flight 40 = .ok (.getfield 29, 3) := by decide +kernel
theorem dX8_flight_43 : decode cX8_flight 43 = .ok (.invokevirtual 122, 3) := by decide +kernel
theorem dX8_flight_46 : decode cX8_flight 46 = .ok (.aload_n 0, 1) := by decide +kernel
theorem dX8_flight_47 : decode cX8_flight 47 = .ok (.getfield 39, 3) := by decide +kernel
theorem dX8_flight_50 : decode cX8_flight 50 = .ok (.invokevirtual 126, 3) := by decide +kernel
theorem dX8_flight_53 : decode cX8_flight 53 = .ok (.aload_n 0, 1) := by decide +kernel
theorem dX8_flight_54 : decode cX8_flight 54 = .ok (.getfield 25, 3) := by decide +kernel
theorem dX8_flight_57 : decode cX8_flight 57 = .ok (.getfield 129, 3) := by decide +kernel
theorem dX8_flight_60 : decode cX8_flight 60 = .ok (.getfield 133, 3) := by decide +kernel
theorem dX8_flight_63 : decode cX8_flight 63 = .ok (.ireturn, 1) := by decide +kernel
theorem dX8_fault_0 : decode cX8_fault 0 = .ok (.aload_n 0, 1) := by decide +kernel
theorem dX8_fault_1 : decode cX8_fault 1 = .ok (.getfield 18, 3) := by decide +kernel
theorem dX8_fault_4 : decode cX8_fault 4 = .ok (.getfield 138, 3) := by decide +kernel
theorem dX8_fault_7 : decode cX8_fault 7 = .ok (.ireturn, 1) := by decide +kernel
theorem dX8_fly_0 : decode cX8_fly 0 = .ok (.aload_n 0, 1) := by decide +kernel
theorem dX8_fly_1 : decode cX8_fly 1 = .ok (.getfield 25, 3) := by decide +kernel
theorem dX8_fly_4 : decode cX8_fly 4 = .ok (.invokevirtual 141, 3) := by decide +kernel
theorem dX8_fly_7 : decode cX8_fly 7 = .ok (.iconst 1, 1) := by decide +kernel
theorem dX8_fly_8 : decode cX8_fly 8 = .ok (.if_icmp .ge 6, 3) := by decide +kernel
theorem dX8_fly_11 : decode cX8_fly 11 = .ok (.ldc 145, 2) := by decide +kernel
theorem dX8_fly_13 : decode cX8_fly 13 = .ok (.ireturn, 1) := by decide +kernel
theorem dX8_fly_14 : decode cX8_fly 14 = .ok (.aload_n 0, 1) := by decide +kernel
theorem dX8_fly_15 : decode cX8_fly 15 = .ok (.getfield 39, 3) := by decide +kernel
theorem dX8_fly_18 : decode cX8_fly 18 = .ok (.aload_n 0, 1) := by decide +kernel
theorem dX8_fly_19 : decode cX8_fly 19 = .ok (.getfield 25, 3) := by decide +kernel
theorem dX8_fly_22 : decode cX8_fly 22 = .ok (.getfield 146, 3) := by decide +kernel
theorem dX8_fly_25 : decode cX8_fly 25 = .ok (.invokevirtual 150, 3) := by decide +kernel
theorem dX8_fly_28 : decode cX8_fly 28 = .ok (.aload_n 0, 1) := by decide +kernel
theorem dX8_fly_29 : decode cX8_fly 29 = .ok (.getfield 25, 3) := by decide +kernel
theorem dX8_fly_32 : decode cX8_fly 32 = .ok (.invokevirtual 154, 3) := by decide +kernel
theorem dX8_fly_35 : decode cX8_fly 35 = .ok (.aload_n 0, 1) := by decide +kernel
theorem dX8_fly_36 : decode cX8_fly 36 = .ok (.getfield 25, 3) := by decide +kernel
theorem dX8_fly_39 : decode cX8_fly 39 = .ok (.getfield 146, 3) := by decide +kernel
theorem dX8_fly_42 : decode cX8_fly 42 = .ok (.getfield 157, 3) := by decide +kernel
theorem dX8_fly_45 : decode cX8_fly 45 = .ok (.ireturn, 1) := by decide +kernel
theorem dX8_eat_0 : decode cX8_eat 0 = .ok (.aload_n 0, 1) := by decide +kernel
theorem dX8_eat_1 : decode cX8_eat 1 = .ok (.iload_n 1, 1) := by decide +kernel
theorem dX8_eat_2 : decode cX8_eat 2 = .ok (.invokevirtual 162, 3) := by decide +kernel
theorem dX8_eat_5 : decode cX8_eat 5 = .ok (.ifCond .ne 6, 3) := by decide +kernel
theorem dX8_eat_8 : decode cX8_eat 8 = .ok (.ldc 70, 2) := by decide +kernel
theorem dX8_eat_10 : decode cX8_eat 10 = .ok (.ireturn, 1) := by decide +kernel
theorem dX8_eat_11 : decode cX8_eat 11 = .ok (.aload_n 0, 1) := by decide +kernel
theorem dX8_eat_12 : decode cX8_eat 12 = .ok (.getfield 39, 3) := by decide +kernel
theorem dX8_eat_15 : decode cX8_eat 15 = .ok (.aload_n 0, 1) := by decide +kernel
theorem dX8_eat_16 : decode cX8_eat 16 = .ok (.getfield 25, 3) := by decide +kernel
theorem dX8_eat_19 : decode cX8_eat 19 = .ok (.getfield 146, 3) := by decide +kernel
theorem dX8_eat_22 : decode cX8_eat 22 = .ok (.invokevirtual 150, 3) := by decide +kernel
theorem dX8_eat_25 : decode cX8_eat 25 = .ok (.aload_n 0, 1) := by decide +kernel
theorem dX8_eat_26 : decode cX8_eat 26 = .ok (.getfield 25, 3) := by decide +kernel
theorem dX8_eat_29 : decode cX8_eat 29 = .ok (.iload_n 1, 1) := by decide +kernel
theorem dX8_eat_30 : decode cX8_eat 30 = .ok (.invokevirtual 165, 3) := by decide +kernel
theorem dX8_eat_33 : decode cX8_eat 33 = .ok (.aload_n 0, 1) := by decide +kernel
theorem dX8_eat_34 : decode cX8_eat 34 = .ok (.getfield 25, 3) := by decide +kernel
theorem dX8_eat_37 : decode cX8_eat 37 = .ok (.getfield 146, 3) := by decide +kernel
theorem dX8_eat_40 : decode cX8_eat 40 = .ok (.getfield 169, 3) := by decide +kernel
theorem dX8_eat_43 : decode cX8_eat 43 = .ok (.iload_n 1, 1) := by decide +kernel
theorem dX8_eat_44 : decode cX8_eat 44 = .ok (.iaload, 1) := by decide +kernel
theorem dX8_eat_45 : decode cX8_eat 45 = .ok (.ireturn, 1) := by decide +kernel
theorem dX8_keep_0 : decode cX8_keep 0 = .ok (.aload_n 0, 1) := by decide +kernel
theorem dX8_keep_1 : decode cX8_keep 1 = .ok (.iload_n 1, 1) := by decide +kernel
theorem dX8_keep_2 : decode cX8_keep 2 = .ok (.invokevirtual 162, 3) := by decide +kernel
theorem dX8_keep_5 : decode cX8_keep 5 = .ok (.ifCond .eq 11, 3) := by decide +kernel
theorem dX8_keep_8 : decode cX8_keep 8 = .ok (.iload_n 2, 1) := by decide +kernel
theorem dX8_keep_9 : decode cX8_keep 9 = .ok (.iconst 1, 1) := by decide +kernel
theorem dX8_keep_10 : decode cX8_keep 10 = .ok (.invokestatic 66, 3) := by decide +kernel
theorem dX8_keep_13 : decode cX8_keep 13 = .ok (.ifCond .ne 6, 3) := by decide +kernel
theorem dX8_keep_16 : decode cX8_keep 16 = .ok (.ldc 70, 2) := by decide +kernel
theorem dX8_keep_18 : decode cX8_keep 18 = .ok (.ireturn, 1) := by decide +kernel
theorem dX8_keep_19 : decode cX8_keep 19 = .ok (.aload_n 0, 1) := by decide +kernel
theorem dX8_keep_20 : decode cX8_keep 20 = .ok (.getfield 25, 3) := by decide +kernel
theorem dX8_keep_23 : decode cX8_keep 23 = .ok (.getfield 146, 3) := by decide +kernel
theorem dX8_keep_26 : decode cX8_keep 26 = .ok (.astore_n 3, 1) := by decide +kernel
theorem dX8_keep_27 : decode cX8_keep 27 = .ok (.aload_n 3, 1) := by decide +kernel
theorem dX8_keep_28 : decode cX8_keep 28 = .ok (.getfield 172, 3) := by decide +kernel
theorem dX8_keep_31 : decode cX8_keep 31 = .ok (.iload_n 1, 1) := by decide +kernel
theorem dX8_keep_32 : decode cX8_keep 32 = .ok (.invokestatic 175, 3) := by decide +kernel
theorem dX8_keep_35 : decode cX8_keep 35 = .ok (.iload_n 2, 1) := by decide +kernel
theorem dX8_keep_36 : decode cX8_keep 36 = .ok (.if_icmp .ne 6, 3) := by decide +kernel
theorem dX8_keep_39 : decode cX8_keep 39 = .ok (.ldc 145, 2) := by decide +kernel
theorem dX8_keep_41 : decode cX8_keep 41 = .ok (.ireturn, 1) := by decide +kernel
theorem dX8_keep_42 : decode cX8_keep 42 = .ok (.aload_n 0, 1) := by decide +kernel
theorem dX8_keep_43 : decode cX8_keep 43 = .ok (.getfield 39, 3) := by decide +kernel
theorem dX8_keep_46 : decode cX8_keep 46 = .ok (.aload_n 3, 1) := by decide +kernel
theorem dX8_keep_47 : decode cX8_keep 47 = .ok (.invokevirtual 150, 3) := by decide +kernel
theorem dX8_keep_50 : decode cX8_keep 50 = .ok (.aload_n 3, 1) := by decide +kernel
theorem dX8_keep_51 : decode cX8_keep 51 = .ok (.dup, 1) := by decide +kernel
theorem dX8_keep_52 : decode cX8_keep 52 = .ok (.getfield 172, 3) := by decide +kernel
theorem dX8_keep_55 : decode cX8_keep 55 = .ok (.iconst 1, 1) := by decide +kernel
theorem dX8_keep_56 : decode cX8_keep 56 = .ok (.iload_n 1, 1) := by decide +kernel
theorem dX8_keep_57 : decode cX8_keep 57 = .ok (.ishl, 1) := by decide +kernel
theorem dX8_keep_58 : decode cX8_keep 58 = .ok (.ixor, 1) := by decide +kernel
theorem dX8_keep_59 : decode cX8_keep 59 = .ok (.putfield 172, 3) := by decide +kernel
theorem dX8_keep_62 : decode cX8_keep 62 = .ok (.aload_n 3, 1) := by decide +kernel
theorem dX8_keep_63 : decode cX8_keep 63 = .ok (.getfield 172, 3) := by decide +kernel
theorem dX8_keep_66 : decode cX8_keep 66 = .ok (.ireturn, 1) := by decide +kernel
theorem dX8_call_0 : decode cX8_call 0 = .ok (.aload_n 0, 1) := by decide +kernel
theorem dX8_call_1 : decode cX8_call 1 = .ok (.iload_n 1, 1) := by decide +kernel
theorem dX8_call_2 : decode cX8_call 2 = .ok (.invokevirtual 162, 3) := by decide +kernel
theorem dX8_call_5 : decode cX8_call 5 = .ok (.ifCond .ne 6, 3) := by decide +kernel
theorem dX8_call_8 : decode cX8_call 8 = .ok (.ldc 70, 2) := by decide +kernel
theorem dX8_call_10 : decode cX8_call 10 = .ok (.ireturn, 1) := by decide +kernel
theorem dX8_call_11 : decode cX8_call 11 = .ok (.aload_n 0, 1) := by decide +kernel
theorem dX8_call_12 : decode cX8_call 12 = .ok (.getfield 25, 3) := by decide +kernel
theorem dX8_call_15 : decode cX8_call 15 = .ok (.getfield 146, 3) := by decide +kernel
theorem dX8_call_18 : decode cX8_call 18 = .ok (.astore_n 2, 1) := by decide +kernel
theorem dX8_call_19 : decode cX8_call 19 = .ok (.aload_n 2, 1) := by decide +kernel
theorem dX8_call_20 : decode cX8_call 20 = .ok (.iload_n 1, 1) := by decide +kernel
theorem dX8_call_21 : decode cX8_call 21 = .ok (.invokevirtual 178, 3) := by decide +kernel
theorem dX8_call_24 : decode cX8_call 24 = .ok (.ifCond .eq 6, 3) := by decide +kernel
theorem dX8_call_27 : decode cX8_call 27 = .ok (.ldc 145, 2) := by decide +kernel
theorem dX8_call_29 : decode cX8_call 29 = .ok (.ireturn, 1) := by decide +kernel
theorem dX8_call_30 : decode cX8_call 30 = .ok (.aload_n 0, 1) := by decide +kernel
theorem dX8_call_31 : decode cX8_call 31 = .ok (.getfield 39, 3) := by decide +kernel
theorem dX8_call_34 : decode cX8_call 34 = .ok (.aload_n 2, 1) := by decide +kernel
theorem dX8_call_35 : decode cX8_call 35 = .ok (.invokevirtual 150, 3) := by decide +kernel
theorem dX8_call_38 : decode cX8_call 38 = .ok (.aload_n 2, 1) := by decide +kernel
theorem dX8_call_39 : decode cX8_call 39 = .ok (.dup, 1) := by decide +kernel
theorem dX8_call_40 : decode cX8_call 40 = .ok (.getfield 157, 3) := by decide +kernel
theorem dX8_call_43 : decode cX8_call 43 = .ok (.iconst 1, 1) := by decide +kernel
theorem dX8_call_44 : decode cX8_call 44 = .ok (.iload_n 1, 1) := by decide +kernel
theorem dX8_call_45 : decode cX8_call 45 = .ok (.ishl, 1) := by decide +kernel
theorem dX8_call_46 : decode cX8_call 46 = .ok (.ior, 1) := by decide +kernel
theorem dX8_call_47 : decode cX8_call 47 = .ok (.putfield 157, 3) := by decide +kernel
theorem dX8_call_50 : decode cX8_call 50 = .ok (.aload_n 2, 1) := by decide +kernel
theorem dX8_call_51 : decode cX8_call 51 = .ok (.getfield 157, 3) := by decide +kernel
theorem dX8_call_54 : decode cX8_call 54 = .ok (.ireturn, 1) := by decide +kernel
theorem dX8_swap_0 : decode cX8_swap 0 = .ok (.aload_n 0, 1) := by decide +kernel
theorem dX8_swap_1 : decode cX8_swap 1 = .ok (.getfield 25, 3) := by decide +kernel
theorem dX8_swap_4 : decode cX8_swap 4 = .ok (.invokevirtual 141, 3) := by decide +kernel
theorem dX8_swap_7 : decode cX8_swap 7 = .ok (.iconst 2, 1) := by decide +kernel
theorem dX8_swap_8 : decode cX8_swap 8 = .ok (.if_icmp .ge 6, 3) := by decide +kernel
theorem dX8_swap_11 : decode cX8_swap 11 = .ok (.ldc 145, 2) := by decide +kernel
theorem dX8_swap_13 : decode cX8_swap 13 = .ok (.ireturn, 1) := by decide +kernel
theorem dX8_swap_14 : decode cX8_swap 14 = .ok (.aload_n 0, 1) := by decide +kernel
theorem dX8_swap_15 : decode cX8_swap 15 = .ok (.getfield 25, 3) := by decide +kernel
theorem dX8_swap_18 : decode cX8_swap 18 = .ok (.getfield 146, 3) := by decide +kernel
theorem dX8_swap_21 : decode cX8_swap 21 = .ok (.astore_n 1, 1) := by decide +kernel
theorem dX8_swap_22 : decode cX8_swap 22 = .ok (.aload_n 0, 1) := by decide +kernel
theorem dX8_swap_23 : decode cX8_swap 23 = .ok (.getfield 39, 3) := by decide +kernel
theorem dX8_swap_26 : decode cX8_swap 26 = .ok (.aload_n 1, 1) := by decide +kernel
theorem dX8_swap_27 : decode cX8_swap 27 = .ok (.invokevirtual 150, 3) := by decide +kernel
theorem dX8_swap_30 : decode cX8_swap 30 = .ok (.aload_n 1, 1) := by decide +kernel
theorem dX8_swap_31 : decode cX8_swap 31 = .ok (.getfield 181, 3) := by decide +kernel
theorem dX8_swap_34 : decode cX8_swap 34 = .ok (.aload_n 1, 1) := by decide +kernel
theorem dX8_swap_35 : decode cX8_swap 35 = .ok (.getfield 184, 3) := by decide +kernel
theorem dX8_swap_38 : decode cX8_swap 38 = .ok (.aload_n 1, 1) := by decide +kernel
theorem dX8_swap_39 : decode cX8_swap 39 = .ok (.getfield 184, 3) := by decide +kernel
theorem dX8_swap_42 : decode cX8_swap 42 = .ok (.iconst 1, 1) := by decide +kernel
theorem dX8_swap_43 : decode cX8_swap 43 = .ok (.iadd, 1) := by decide +kernel
theorem dX8_swap_44 : decode cX8_swap 44 = .ok (.invokestatic 187, 3) := by decide +kernel
theorem dX8_swap_47 : decode cX8_swap 47 = .ok (.aload_n 1, 1) := by decide +kernel
theorem dX8_swap_48 : decode cX8_swap 48 = .ok (.getfield 181, 3) := by decide +kernel
theorem dX8_swap_51 : decode cX8_swap 51 = .ok (.aload_n 1, 1) := by decide +kernel
theorem dX8_swap_52 : decode cX8_swap 52 = .ok (.getfield 184, 3) := by decide +kernel
theorem dX8_swap_55 : decode cX8_swap 55 = .ok (.iaload, 1) := by decide +kernel
theorem dX8_swap_56 : decode cX8_swap 56 = .ok (.ireturn, 1) := by decide +kernel
theorem dX8_undo_0 : decode cX8_undo 0 = .ok (.aload_n 0, 1) := by decide +kernel
theorem dX8_undo_1 : decode cX8_undo 1 = .ok (.getfield 39, 3) := by decide +kernel
theorem dX8_undo_4 : decode cX8_undo 4 = .ok (.getfield 191, 3) := by decide +kernel
theorem dX8_undo_7 : decode cX8_undo 7 = .ok (.iconst 1, 1) := by decide +kernel
theorem dX8_undo_8 : decode cX8_undo 8 = .ok (.if_icmp .ge 6, 3) := by decide +kernel
theorem dX8_undo_11 : decode cX8_undo 11 = .ok (.ldc 145, 2) := by decide +kernel
theorem dX8_undo_13 : decode cX8_undo 13 = .ok (.ireturn, 1) := by decide +kernel
theorem dX8_undo_14 : decode cX8_undo 14 = .ok (.aload_n 0, 1) := by decide +kernel
theorem dX8_undo_15 : decode cX8_undo 15 = .ok (.getfield 39, 3) := by decide +kernel
theorem dX8_undo_18 : decode cX8_undo 18 = .ok (.aload_n 0, 1) := by decide +kernel
theorem dX8_undo_19 : decode cX8_undo 19 = .ok (.getfield 25, 3) := by decide +kernel
theorem dX8_undo_22 : decode cX8_undo 22 = .ok (.getfield 146, 3) := by decide +kernel
theorem dX8_undo_25 : decode cX8_undo 25 = .ok (.invokevirtual 192, 3) := by decide +kernel
theorem dX8_undo_28 : decode cX8_undo 28 = .ok (.aload_n 0, 1) := by decide +kernel
theorem dX8_undo_29 : decode cX8_undo 29 = .ok (.getfield 39, 3) := by decide +kernel
theorem dX8_undo_32 : decode cX8_undo 32 = .ok (.getfield 191, 3) := by decide +kernel
theorem dX8_undo_35 : decode cX8_undo 35 = .ok (.ireturn, 1) := by decide +kernel
theorem dX8_bird_0 : decode cX8_bird 0 = .ok (.aload_n 0, 1) := by decide +kernel
theorem dX8_bird_1 : decode cX8_bird 1 = .ok (.iload_n 1, 1) := by decide +kernel
theorem dX8_bird_2 : decode cX8_bird 2 = .ok (.invokevirtual 162, 3) := by decide +kernel
theorem dX8_bird_5 : decode cX8_bird 5 = .ok (.ifCond .ne 6, 3) := by decide +kernel
theorem dX8_bird_8 : decode cX8_bird 8 = .ok (.ldc 70, 2) := by decide +kernel
theorem dX8_bird_10 : decode cX8_bird 10 = .ok (.ireturn, 1) := by decide +kernel
theorem dX8_bird_11 : decode cX8_bird 11 = .ok (.aload_n 0, 1) := by decide +kernel
theorem dX8_bird_12 : decode cX8_bird 12 = .ok (.getfield 25, 3) := by decide +kernel
theorem dX8_bird_15 : decode cX8_bird 15 = .ok (.getfield 146, 3) := by decide +kernel
theorem dX8_bird_18 : decode cX8_bird 18 = .ok (.astore_n 3, 1) := by decide +kernel
theorem dX8_bird_19 : decode cX8_bird 19 = .ok (.iload_n 2, 1) := by decide +kernel
theorem dX8_bird_20 : decode cX8_bird 20 = .ok (.tableswitch 122 0 5 #[40, 47, 60, 73, 82, 91], 40) := by decide +kernel
theorem dX8_bird_60 : decode cX8_bird 60 = .ok (.aload_n 3, 1) := by decide +kernel
theorem dX8_bird_61 : decode cX8_bird 61 = .ok (.getfield 169, 3) := by decide +kernel
theorem dX8_bird_64 : decode cX8_bird 64 = .ok (.iload_n 1, 1) := by decide +kernel
theorem dX8_bird_65 : decode cX8_bird 65 = .ok (.iaload, 1) := by decide +kernel
theorem dX8_bird_66 : decode cX8_bird 66 = .ok (.ireturn, 1) := by decide +kernel
theorem dX8_bird_67 : decode cX8_bird 67 = .ok (.aload_n 0, 1) := by decide +kernel
theorem dX8_bird_68 : decode cX8_bird 68 = .ok (.getfield 25, 3) := by decide +kernel
theorem dX8_bird_71 : decode cX8_bird 71 = .ok (.getfield 129, 3) := by decide +kernel
theorem dX8_bird_74 : decode cX8_bird 74 = .ok (.getfield 195, 3) := by decide +kernel
theorem dX8_bird_77 : decode cX8_bird 77 = .ok (.iload_n 1, 1) := by decide +kernel
theorem dX8_bird_78 : decode cX8_bird 78 = .ok (.iaload, 1) := by decide +kernel
theorem dX8_bird_79 : decode cX8_bird 79 = .ok (.ireturn, 1) := by decide +kernel
theorem dX8_bird_80 : decode cX8_bird 80 = .ok (.aload_n 0, 1) := by decide +kernel
theorem dX8_bird_81 : decode cX8_bird 81 = .ok (.getfield 25, 3) := by decide +kernel
theorem dX8_bird_84 : decode cX8_bird 84 = .ok (.getfield 129, 3) := by decide +kernel
theorem dX8_bird_87 : decode cX8_bird 87 = .ok (.getfield 198, 3) := by decide +kernel
theorem dX8_bird_90 : decode cX8_bird 90 = .ok (.iload_n 1, 1) := by decide +kernel
theorem dX8_bird_91 : decode cX8_bird 91 = .ok (.iaload, 1) := by decide +kernel
theorem dX8_bird_92 : decode cX8_bird 92 = .ok (.ireturn, 1) := by decide +kernel
theorem dX8_bird_93 : decode cX8_bird 93 = .ok (.aload_n 3, 1) := by decide +kernel
theorem dX8_bird_94 : decode cX8_bird 94 = .ok (.getfield 157, 3) := by decide +kernel
theorem dX8_bird_97 : decode cX8_bird 97 = .ok (.iload_n 1, 1) := by decide +kernel
theorem dX8_bird_98 : decode cX8_bird 98 = .ok (.invokestatic 175, 3) := by decide +kernel
theorem dX8_bird_101 : decode cX8_bird 101 = .ok (.ireturn, 1) := by decide +kernel
theorem dX8_bird_102 : decode cX8_bird 102 = .ok (.aload_n 3, 1) := by decide +kernel
theorem dX8_bird_103 : decode cX8_bird 103 = .ok (.getfield 172, 3) := by decide +kernel
theorem dX8_bird_106 : decode cX8_bird 106 = .ok (.iload_n 1, 1) := by decide +kernel
theorem dX8_bird_107 : decode cX8_bird 107 = .ok (.invokestatic 175, 3) := by decide +kernel
theorem dX8_bird_110 : decode cX8_bird 110 = .ok (.ireturn, 1) := by decide +kernel
theorem dX8_bird_111 : decode cX8_bird 111 = .ok (.aload_n 0, 1) := by decide +kernel
theorem dX8_bird_112 : decode cX8_bird 112 = .ok (.getfield 25, 3) := by decide +kernel
theorem dX8_bird_115 : decode cX8_bird 115 = .ok (.invokevirtual 141, 3) := by decide +kernel
theorem dX8_bird_118 : decode cX8_bird 118 = .ok (.ifCond .le 22, 3) := by decide +kernel
theorem dX8_bird_121 : decode cX8_bird 121 = .ok (.aload_n 3, 1) := by decide +kernel
theorem dX8_bird_122 : decode cX8_bird 122 = .ok (.iload_n 1, 1) := by decide +kernel
theorem dX8_bird_123 : decode cX8_bird 123 = .ok (.invokevirtual 178, 3) := by decide +kernel
theorem dX8_bird_126 : decode cX8_bird 126 = .ok (.ifCond .eq 14, 3) := by decide +kernel
theorem dX8_bird_129 : decode cX8_bird 129 = .ok (.aload_n 0, 1) := by decide +kernel
theorem dX8_bird_130 : decode cX8_bird 130 = .ok (.getfield 25, 3) := by decide +kernel
theorem dX8_bird_133 : decode cX8_bird 133 = .ok (.iload_n 1, 1) := by decide +kernel
theorem dX8_bird_134 : decode cX8_bird 134 = .ok (.invokevirtual 201, 3) := by decide +kernel
theorem dX8_bird_137 : decode cX8_bird 137 = .ok (.goto 4, 3) := by decide +kernel
theorem dX8_bird_140 : decode cX8_bird 140 = .ok (.iconst 0, 1) := by decide +kernel
theorem dX8_bird_141 : decode cX8_bird 141 = .ok (.ireturn, 1) := by decide +kernel
theorem dX8_bird_142 : decode cX8_bird 142 = .ok (.ldc 70, 2) := by decide +kernel
theorem dX8_bird_144 : decode cX8_bird 144 = .ok (.ireturn, 1) := by decide +kernel
theorem dX8_valley_0 : decode cX8_valley 0 = .ok (.iload_n 1, 1) := by decide +kernel
theorem dX8_valley_1 : decode cX8_valley 1 = .ok (.ifCond .lt 17, 3) := by decide +kernel
theorem dX8_valley_4 : decode cX8_valley 4 = .ok (.iload_n 1, 1) := by decide +kernel
theorem dX8_valley_5 : decode cX8_valley 5 = .ok (.aload_n 0, 1) := by decide +kernel
theorem dX8_valley_6 : decode cX8_valley 6 = .ok (.getfield 25, 3) := by decide +kernel
theorem dX8_valley_9 : decode cX8_valley 9 = .ok (.getfield 129, 3) := by decide +kernel
theorem dX8_valley_12 : decode cX8_valley 12 = .ok (.getfield 204, 3) := by decide +kernel
theorem dX8_valley_15 : decode cX8_valley 15 = .ok (.if_icmp .lt 6, 3) := by decide +kernel
theorem dX8_valley_18 : decode cX8_valley 18 = .ok (.ldc 70, 2) := by decide +kernel
theorem dX8_valley_20 : decode cX8_valley 20 = .ok (.ireturn, 1) := by decide +kernel
theorem dX8_valley_21 : decode cX8_valley 21 = .ok (.iload_n 2, 1) := by decide +kernel
theorem dX8_valley_22 : decode cX8_valley 22 = .ok (.tableswitch 61 0 2 #[26, 39, 52], 26) := by decide +kernel
theorem dX8_valley_48 : decode cX8_valley 48 = .ok (.aload_n 0, 1) := by decide +kernel
theorem dX8_valley_49 : decode cX8_valley 49 = .ok (.getfield 25, 3) := by decide +kernel
theorem dX8_valley_52 : decode cX8_valley 52 = .ok (.getfield 129, 3) := by decide +kernel
theorem dX8_valley_55 : decode cX8_valley 55 = .ok (.getfield 207, 3) := by decide +kernel
theorem dX8_valley_58 : decode cX8_valley 58 = .ok (.iload_n 1, 1) := by decide +kernel
theorem dX8_valley_59 : decode cX8_valley 59 = .ok (.iaload, 1) := by decide +kernel
theorem dX8_valley_60 : decode cX8_valley 60 = .ok (.ireturn, 1) := by decide +kernel
theorem dX8_valley_61 : decode cX8_valley 61 = .ok (.aload_n 0, 1) := by decide +kernel
theorem dX8_valley_62 : decode cX8_valley 62 = .ok (.getfield 25, 3) := by decide +kernel
theorem dX8_valley_65 : decode cX8_valley 65 = .ok (.getfield 129, 3) := by decide +kernel
theorem dX8_valley_68 : decode cX8_valley 68 = .ok (.getfield 209, 3) := by decide +kernel
theorem dX8_valley_71 : decode cX8_valley 71 = .ok (.iload_n 1, 1) := by decide +kernel
theorem dX8_valley_72 : decode cX8_valley 72 = .ok (.iaload, 1) := by decide +kernel
theorem dX8_valley_73 : decode cX8_valley 73 = .ok (.ireturn, 1) := by decide +kernel
theorem dX8_valley_74 : decode cX8_valley 74 = .ok (.aload_n 0, 1) := by decide +kernel
theorem dX8_valley_75 : decode cX8_valley 75 = .ok (.getfield 25, 3) := by decide +kernel
theorem dX8_valley_78 : decode cX8_valley 78 = .ok (.iload_n 1, 1) := by decide +kernel
theorem dX8_valley_79 : decode cX8_valley 79 = .ok (.invokevirtual 212, 3) := by decide +kernel
theorem dX8_valley_82 : decode cX8_valley 82 = .ok (.ireturn, 1) := by decide +kernel
theorem dX8_valley_83 : decode cX8_valley 83 = .ok (.ldc 70, 2) := by decide +kernel
theorem dX8_valley_85 : decode cX8_valley 85 = .ok (.ireturn, 1) := by decide +kernel
theorem dX8_arrive_0 : decode cX8_arrive 0 = .ok (.aload_n 0, 1) := by decide +kernel
theorem dX8_arrive_1 : decode cX8_arrive 1 = .ok (.getfield 25, 3) := by decide +kernel
theorem dX8_arrive_4 : decode cX8_arrive 4 = .ok (.invokevirtual 215, 3) := by decide +kernel
theorem dX8_arrive_7 : decode cX8_arrive 7 = .ok (.ifCond .ne 6, 3) := by decide +kernel
theorem dX8_arrive_10 : decode cX8_arrive 10 = .ok (.ldc 145, 2) := by decide +kernel
theorem dX8_arrive_12 : decode cX8_arrive 12 = .ok (.ireturn, 1) := by decide +kernel
theorem dX8_arrive_13 : decode cX8_arrive 13 = .ok (.aload_n 0, 1) := by decide +kernel
theorem dX8_arrive_14 : decode cX8_arrive 14 = .ok (.getfield 29, 3) := by decide +kernel
theorem dX8_arrive_17 : decode cX8_arrive 17 = .ok (.aload_n 0, 1) := by decide +kernel
theorem dX8_arrive_18 : decode cX8_arrive 18 = .ok (.getfield 25, 3) := by decide +kernel
theorem dX8_arrive_21 : decode cX8_arrive 21 = .ok (.invokevirtual 122, 3) := by decide +kernel
theorem dX8_arrive_24 : decode cX8_arrive 24 = .ok (.aload_n 0, 1) := by decide +kernel
theorem dX8_arrive_25 : decode cX8_arrive 25 = .ok (.getfield 29, 3) := by decide +kernel
theorem dX8_arrive_28 : decode cX8_arrive 28 = .ok (.invokevirtual 219, 3) := by decide +kernel
theorem dX8_arrive_31 : decode cX8_arrive 31 = .ok (.ireturn, 1) := by decide +kernel
theorem dX8_where_0 : decode cX8_where 0 = .ok (.aload_n 0, 1) := by decide +kernel
theorem dX8_where_1 : decode cX8_where 1 = .ok (.iload_n 1, 1) := by decide +kernel
theorem dX8_where_2 : decode cX8_where 2 = .ok (.invokevirtual 162, 3) := by decide +kernel
theorem dX8_where_5 : decode cX8_where 5 = .ok (.ifCond .ne 6, 3) := by decide +kernel
theorem dX8_where_8 : decode cX8_where 8 = .ok (.ldc 70, 2) := by decide +kernel
theorem dX8_where_10 : decode cX8_where 10 = .ok (.ireturn, 1) := by decide +kernel
theorem dX8_where_11 : decode cX8_where 11 = .ok (.aload_n 0, 1) := by decide +kernel
theorem dX8_where_12 : decode cX8_where 12 = .ok (.getfield 25, 3) := by decide +kernel
theorem dX8_where_15 : decode cX8_where 15 = .ok (.getfield 146, 3) := by decide +kernel
theorem dX8_where_18 : decode cX8_where 18 = .ok (.iload_n 1, 1) := by decide +kernel
theorem dX8_where_19 : decode cX8_where 19 = .ok (.invokevirtual 178, 3) := by decide +kernel
theorem dX8_where_22 : decode cX8_where 22 = .ok (.ifCond .ne 5, 3) := by decide +kernel
theorem dX8_where_25 : decode cX8_where 25 = .ok (.iconst (-1), 1) := by decide +kernel
theorem dX8_where_26 : decode cX8_where 26 = .ok (.ireturn, 1) := by decide +kernel
theorem dX8_where_27 : decode cX8_where 27 = .ok (.aload_n 0, 1) := by decide +kernel
theorem dX8_where_28 : decode cX8_where 28 = .ok (.getfield 29, 3) := by decide +kernel
theorem dX8_where_31 : decode cX8_where 31 = .ok (.aload_n 0, 1) := by decide +kernel
theorem dX8_where_32 : decode cX8_where 32 = .ok (.getfield 25, 3) := by decide +kernel
theorem dX8_where_35 : decode cX8_where 35 = .ok (.invokevirtual 122, 3) := by decide +kernel
theorem dX8_where_38 : decode cX8_where 38 = .ok (.aload_n 0, 1) := by decide +kernel
theorem dX8_where_39 : decode cX8_where 39 = .ok (.getfield 25, 3) := by decide +kernel
theorem dX8_where_42 : decode cX8_where 42 = .ok (.getfield 146, 3) := by decide +kernel
theorem dX8_where_45 : decode cX8_where 45 = .ok (.getfield 184, 3) := by decide +kernel
theorem dX8_where_48 : decode cX8_where 48 = .ok (.istore_n 2, 1) := by decide +kernel
theorem dX8_where_49 : decode cX8_where 49 = .ok (.iload_n 2, 1) := by decide +kernel
theorem dX8_where_50 : decode cX8_where 50 = .ok (.aload_n 0, 1) := by decide +kernel
theorem dX8_where_51 : decode cX8_where 51 = .ok (.getfield 25, 3) := by decide +kernel
theorem dX8_where_54 : decode cX8_where 54 = .ok (.getfield 129, 3) := by decide +kernel
theorem dX8_where_57 : decode cX8_where 57 = .ok (.getfield 204, 3) := by decide +kernel
theorem dX8_where_60 : decode cX8_where 60 = .ok (.if_icmp .ge 32, 3) := by decide +kernel
theorem dX8_where_63 : decode cX8_where 63 = .ok (.aload_n 0, 1) := by decide +kernel
theorem dX8_where_64 : decode cX8_where 64 = .ok (.getfield 29, 3) := by decide +kernel
theorem dX8_where_67 : decode cX8_where 67 = .ok (.invokevirtual 154, 3) := by decide +kernel
theorem dX8_where_70 : decode cX8_where 70 = .ok (.aload_n 0, 1) := by decide +kernel
theorem dX8_where_71 : decode cX8_where 71 = .ok (.getfield 29, 3) := by decide +kernel
theorem dX8_where_74 : decode cX8_where 74 = .ok (.getfield 146, 3) := by decide +kernel
theorem dX8_where_77 : decode cX8_where 77 = .ok (.iload_n 1, 1) := by decide +kernel
theorem dX8_where_78 : decode cX8_where 78 = .ok (.invokevirtual 178, 3) := by decide +kernel
theorem dX8_where_81 : decode cX8_where 81 = .ok (.ifCond .ne 5, 3) := by decide +kernel
theorem dX8_where_84 : decode cX8_where 84 = .ok (.iload_n 2, 1) := by decide +kernel
theorem dX8_where_85 : decode cX8_where 85 = .ok (.ireturn, 1) := by decide +kernel
theorem dX8_where_86 : decode cX8_where 86 = .ok (.iinc 2 1, 3) := by decide +kernel
theorem dX8_where_89 : decode cX8_where 89 = .ok (.goto (-40), 3) := by decide +kernel
theorem dX8_where_92 : decode cX8_where 92 = .ok (.ldc 222, 2) := by decide +kernel
theorem dX8_where_94 : decode cX8_where 94 = .ok (.ireturn, 1) := by decide +kernel
theorem dX8_strength_0 : decode cX8_strength 0 = .ok (.aload_n 0, 1) := by decide +kernel
theorem dX8_strength_1 : decode cX8_strength 1 = .ok (.iload_n 1, 1) := by decide +kernel
theorem dX8_strength_2 : decode cX8_strength 2 = .ok (.invokevirtual 162, 3) := by decide +kernel
theorem dX8_strength_5 : decode cX8_strength 5 = .ok (.ifCond .eq 11, 3) := by decide +kernel
theorem dX8_strength_8 : decode cX8_strength 8 = .ok (.iload_n 2, 1) := by decide +kernel
theorem dX8_strength_9 : decode cX8_strength 9 = .ok (.iconst 5, 1) := by decide +kernel
theorem dX8_strength_10 : decode cX8_strength 10 = .ok (.invokestatic 66, 3) := by decide +kernel
theorem dX8_strength_13 : decode cX8_strength 13 = .ok (.ifCond .ne 6, 3) := by decide +kernel
theorem dX8_strength_16 : decode cX8_strength 16 = .ok (.ldc 70, 2) := by decide +kernel
theorem dX8_strength_18 : decode cX8_strength 18 = .ok (.ireturn, 1) := by decide +kernel
theorem dX8_strength_19 : decode cX8_strength 19 = .ok (.aload_n 0, 1) := by decide +kernel
theorem dX8_strength_20 : decode cX8_strength 20 = .ok (.getfield 29, 3) := by decide +kernel
theorem dX8_strength_23 : decode cX8_strength 23 = .ok (.aload_n 0, 1) := by decide +kernel
theorem dX8_strength_24 : decode cX8_strength 24 = .ok (.getfield 25, 3) := by decide +kernel
theorem dX8_strength_27 : decode cX8_strength 27 = .ok (.invokevirtual 122, 3) := by decide +kernel
theorem dX8_strength_30 : decode cX8_strength 30 = .ok (.iload_n 2, 1) := by decide +kernel
theorem dX8_strength_31 : decode cX8_strength 31 = .ok (.aload_n 0, 1) := by decide +kernel
theorem dX8_strength_32 : decode cX8_strength 32 = .ok (.getfield 25, 3) := by decide +kernel
theorem dX8_strength_35 : decode cX8_strength 35 = .ok (.invokevirtual 141, 3) := by decide +kernel
theorem dX8_strength_38 : decode cX8_strength 38 = .ok (.invokestatic 223, 3) := by decide +kernel
theorem dX8_strength_41 : decode cX8_strength 41 = .ok (.istore_n 3, 1) := by decide +kernel
theorem dX8_strength_42 : decode cX8_strength 42 = .ok (.iconst 0, 1) := by decide +kernel
theorem dX8_strength_43 : decode cX8_strength 43 = .ok (.istore 4, 2) := by decide +kernel
theorem dX8_strength_45 : decode cX8_strength 45 = .ok (.iload 4, 2) := by decide +kernel
theorem dX8_strength_47 : decode cX8_strength 47 = .ok (.iload_n 3, 1) := by decide +kernel
theorem dX8_strength_48 : decode cX8_strength 48 = .ok (.if_icmp .ge 16, 3) := by decide +kernel
theorem dX8_strength_51 : decode cX8_strength 51 = .ok (.aload_n 0, 1) := by decide +kernel
theorem dX8_strength_52 : decode cX8_strength 52 = .ok (.getfield 29, 3) := by decide +kernel
theorem dX8_strength_55 : decode cX8_strength 55 = .ok (.invokevirtual 154, 3) := by decide +kernel
theorem dX8_strength_58 : decode cX8_strength 58 = .ok (.iinc 4 1, 3) := by decide +kernel
theorem dX8_strength_61 : decode cX8_strength 61 = .ok (.goto (-16), 3) := by decide +kernel
theorem dX8_strength_64 : decode cX8_strength 64 = .ok (.aload_n 0, 1) := by decide +kernel
theorem dX8_strength_65 : decode cX8_strength 65 = .ok (.getfield 29, 3) := by decide +kernel
theorem dX8_strength_68 : decode cX8_strength 68 = .ok (.getfield 146, 3) := by decide +kernel
theorem dX8_strength_71 : decode cX8_strength 71 = .ok (.getfield 169, 3) := by decide +kernel
theorem dX8_strength_74 : decode cX8_strength 74 = .ok (.iload_n 1, 1) := by decide +kernel
theorem dX8_strength_75 : decode cX8_strength 75 = .ok (.iaload, 1) := by decide +kernel
theorem dX8_strength_76 : decode cX8_strength 76 = .ok (.ireturn, 1) := by decide +kernel
theorem dX8_order_0 : decode cX8_order 0 = .ok (.aload_n 0, 1) := by decide +kernel
theorem dX8_order_1 : decode cX8_order 1 = .ok (.getfield 25, 3) := by decide +kernel
theorem dX8_order_4 : decode cX8_order 4 = .ok (.invokevirtual 215, 3) := by decide +kernel
theorem dX8_order_7 : decode cX8_order 7 = .ok (.ifCond .ne 6, 3) := by decide +kernel
theorem dX8_order_10 : decode cX8_order 10 = .ok (.ldc 145, 2) := by decide +kernel
theorem dX8_order_12 : decode cX8_order 12 = .ok (.ireturn, 1) := by decide +kernel
theorem dX8_order_13 : decode cX8_order 13 = .ok (.iload_n 1, 1) := by decide +kernel
theorem dX8_order_14 : decode cX8_order 14 = .ok (.iconst (-1), 1) := by decide +kernel
theorem dX8_order_15 : decode cX8_order 15 = .ok (.if_icmp .lt 8, 3) := by decide +kernel
theorem dX8_order_18 : decode cX8_order 18 = .ok (.iload_n 1, 1) := by decide +kernel
theorem dX8_order_19 : decode cX8_order 19 = .ok (.iconst 5, 1) := by decide +kernel
theorem dX8_order_20 : decode cX8_order 20 = .ok (.if_icmp .lt 6, 3) := by decide +kernel
theorem dX8_order_23 : decode cX8_order 23 = .ok (.ldc 70, 2) := by decide +kernel
theorem dX8_order_25 : decode cX8_order 25 = .ok (.ireturn, 1) := by decide +kernel
theorem dX8_order_26 : decode cX8_order 26 = .ok (.iload_n 1, 1) := by decide +kernel
theorem dX8_order_27 : decode cX8_order 27 = .ok (.aload_n 0, 1) := by decide +kernel
theorem dX8_order_28 : decode cX8_order 28 = .ok (.getfield 25, 3) := by decide +kernel
theorem dX8_order_31 : decode cX8_order 31 = .ok (.invokevirtual 141, 3) := by decide +kernel
theorem dX8_order_34 : decode cX8_order 34 = .ok (.if_icmp .lt 6, 3) := by decide +kernel
theorem dX8_order_37 : decode cX8_order 37 = .ok (.ldc 222, 2) := by decide +kernel
theorem dX8_order_39 : decode cX8_order 39 = .ok (.ireturn, 1) := by decide +kernel
theorem dX8_order_40 : decode cX8_order 40 = .ok (.aload_n 0, 1) := by decide +kernel
theorem dX8_order_41 : decode cX8_order 41 = .ok (.invokevirtual 228, 3) := by decide +kernel
theorem dX8_order_44 : decode cX8_order 44 = .ok (.iload_n 1, 1) := by decide +kernel
theorem dX8_order_45 : decode cX8_order 45 = .ok (.ifCond .ge 13, 3) := by decide +kernel
theorem dX8_order_48 : decode cX8_order 48 = .ok (.aload_n 0, 1) := by decide +kernel
theorem dX8_order_49 : decode cX8_order 49 = .ok (.getfield 46, 3) := by decide +kernel
theorem dX8_order_52 : decode cX8_order 52 = .ok (.getfield 231, 3) := by decide +kernel
theorem dX8_order_55 : decode cX8_order 55 = .ok (.goto 12, 3) := by decide +kernel
theorem dX8_order_58 : decode cX8_order 58 = .ok (.aload_n 0, 1) := by decide +kernel
theorem dX8_order_59 : decode cX8_order 59 = .ok (.getfield 46, 3) := by decide +kernel
theorem dX8_order_62 : decode cX8_order 62 = .ok (.getfield 234, 3) := by decide +kernel
theorem dX8_order_65 : decode cX8_order 65 = .ok (.iload_n 1, 1) := by decide +kernel
theorem dX8_order_66 : decode cX8_order 66 = .ok (.iaload, 1) := by decide +kernel
theorem dX8_order_67 : decode cX8_order 67 = .ok (.ireturn, 1) := by decide +kernel
theorem dX8_toKeep_0 : decode cX8_toKeep 0 = .ok (.aload_n 0, 1) := by decide +kernel
theorem dX8_toKeep_1 : decode cX8_toKeep 1 = .ok (.getfield 25, 3) := by decide +kernel
theorem dX8_toKeep_4 : decode cX8_toKeep 4 = .ok (.invokevirtual 215, 3) := by decide +kernel
theorem dX8_toKeep_7 : decode cX8_toKeep 7 = .ok (.ifCond .ne 6, 3) := by decide +kernel
theorem dX8_toKeep_10 : decode cX8_toKeep 10 = .ok (.ldc 145, 2) := by decide +kernel
theorem dX8_toKeep_12 : decode cX8_toKeep 12 = .ok (.ireturn, 1) := by decide +kernel
theorem dX8_toKeep_13 : decode cX8_toKeep 13 = .ok (.iload_n 1, 1) := by decide +kernel
theorem dX8_toKeep_14 : decode cX8_toKeep 14 = .ok (.iconst 1, 1) := by decide +kernel
theorem dX8_toKeep_15 : decode cX8_toKeep 15 = .ok (.invokestatic 66, 3) := by decide +kernel
theorem dX8_toKeep_18 : decode cX8_toKeep 18 = .ok (.ifCond .ne 6, 3) := by decide +kernel
theorem dX8_toKeep_21 : decode cX8_toKeep 21 = .ok (.ldc 70, 2) := by decide +kernel
theorem dX8_toKeep_23 : decode cX8_toKeep 23 = .ok (.ireturn, 1) := by decide +kernel
theorem dX8_toKeep_24 : decode cX8_toKeep 24 = .ok (.aload_n 0, 1) := by decide +kernel
theorem dX8_toKeep_25 : decode cX8_toKeep 25 = .ok (.getfield 25, 3) := by decide +kernel
theorem dX8_toKeep_28 : decode cX8_toKeep 28 = .ok (.getfield 146, 3) := by decide +kernel
theorem dX8_toKeep_31 : decode cX8_toKeep 31 = .ok (.getfield 157, 3) := by decide +kernel
theorem dX8_toKeep_34 : decode cX8_toKeep 34 = .ok (.invokestatic 237, 3) := by decide +kernel
theorem dX8_toKeep_37 : decode cX8_toKeep 37 = .ok (.istore_n 2, 1) := by decide +kernel
theorem dX8_toKeep_38 : decode cX8_toKeep 38 = .ok (.aload_n 0, 1) := by decide +kernel
theorem dX8_toKeep_39 : decode cX8_toKeep 39 = .ok (.iload_n 2, 1) := by decide +kernel
theorem dX8_toKeep_40 : decode cX8_toKeep 40 = .ok (.invokevirtual 242, 3) := by decide +kernel
theorem dX8_toKeep_43 : decode cX8_toKeep 43 = .ok (.iload_n 1, 1) := by decide +kernel
theorem dX8_toKeep_44 : decode cX8_toKeep 44 = .ok (.invokestatic 245, 3) := by decide +kernel
theorem dX8_toKeep_47 : decode cX8_toKeep 47 = .ok (.ireturn, 1) := by decide +kernel
theorem dX8_whole_0 : decode cX8_whole 0 = .ok (.aload_n 0, 1) := by decide +kernel
theorem dX8_whole_1 : decode cX8_whole 1 = .ok (.getfield 25, 3) := by decide +kernel
theorem dX8_whole_4 : decode cX8_whole 4 = .ok (.invokevirtual 215, 3) := by decide +kernel
theorem dX8_whole_7 : decode cX8_whole 7 = .ok (.ifCond .ne 6, 3) := by decide +kernel
theorem dX8_whole_10 : decode cX8_whole 10 = .ok (.ldc 145, 2) := by decide +kernel
theorem dX8_whole_12 : decode cX8_whole 12 = .ok (.ireturn, 1) := by decide +kernel
theorem dX8_whole_13 : decode cX8_whole 13 = .ok (.iload_n 1, 1) := by decide +kernel
theorem dX8_whole_14 : decode cX8_whole 14 = .ok (.bipush 6, 2) := by decide +kernel
theorem dX8_whole_16 : decode cX8_whole 16 = .ok (.invokestatic 66, 3) := by decide +kernel
theorem dX8_whole_19 : decode cX8_whole 19 = .ok (.ifCond .eq 11, 3) := by decide +kernel
theorem dX8_whole_22 : decode cX8_whole 22 = .ok (.iload_n 2, 1) := by decide +kernel
theorem dX8_whole_23 : decode cX8_whole 23 = .ok (.iconst 1, 1) := by decide +kernel
theorem dX8_whole_24 : decode cX8_whole 24 = .ok (.invokestatic 66, 3) := by decide +kernel
theorem dX8_whole_27 : decode cX8_whole 27 = .ok (.ifCond .ne 6, 3) := by decide +kernel
theorem dX8_whole_30 : decode cX8_whole 30 = .ok (.ldc 70, 2) := by decide +kernel
theorem dX8_whole_32 : decode cX8_whole 32 = .ok (.ireturn, 1) := by decide +kernel
theorem dX8_whole_33 : decode cX8_whole 33 = .ok (.aload_n 0, 1) := by decide +kernel
theorem dX8_whole_34 : decode cX8_whole 34 = .ok (.iload_n 1, 1) := by decide +kernel
theorem dX8_whole_35 : decode cX8_whole 35 = .ok (.invokevirtual 242, 3) := by decide +kernel
theorem dX8_whole_38 : decode cX8_whole 38 = .ok (.iload_n 2, 1) := by decide +kernel
theorem dX8_whole_39 : decode cX8_whole 39 = .ok (.invokestatic 245, 3) := by decide +kernel
theorem dX8_whole_42 : decode cX8_whole 42 = .ok (.ireturn, 1) := by decide +kernel
theorem dX8_meal_0 : decode cX8_meal 0 = .ok (.aload_n 0, 1) := by decide +kernel
theorem dX8_meal_1 : decode cX8_meal 1 = .ok (.getfield 25, 3) := by decide +kernel
theorem dX8_meal_4 : decode cX8_meal 4 = .ok (.invokevirtual 215, 3) := by decide +kernel
theorem dX8_meal_7 : decode cX8_meal 7 = .ok (.ifCond .ne 6, 3) := by decide +kernel
theorem dX8_meal_10 : decode cX8_meal 10 = .ok (.ldc 145, 2) := by decide +kernel
theorem dX8_meal_12 : decode cX8_meal 12 = .ok (.ireturn, 1) := by decide +kernel
theorem dX8_meal_13 : decode cX8_meal 13 = .ok (.iload_n 1, 1) := by decide +kernel
theorem dX8_meal_14 : decode cX8_meal 14 = .ok (.iconst 1, 1) := by decide +kernel
theorem dX8_meal_15 : decode cX8_meal 15 = .ok (.invokestatic 66, 3) := by decide +kernel
theorem dX8_meal_18 : decode cX8_meal 18 = .ok (.ifCond .ne 6, 3) := by decide +kernel
theorem dX8_meal_21 : decode cX8_meal 21 = .ok (.ldc 70, 2) := by decide +kernel
theorem dX8_meal_23 : decode cX8_meal 23 = .ok (.ireturn, 1) := by decide +kernel
theorem dX8_meal_24 : decode cX8_meal 24 = .ok (.ldc 222, 2) := by decide +kernel
theorem dX8_meal_26 : decode cX8_meal 26 = .ok (.istore_n 2, 1) := by decide +kernel
theorem dX8_meal_27 : decode cX8_meal 27 = .ok (.ldc 222, 2) := by decide +kernel
theorem dX8_meal_29 : decode cX8_meal 29 = .ok (.istore_n 3, 1) := by decide +kernel
theorem dX8_meal_30 : decode cX8_meal 30 = .ok (.iconst 0, 1) := by decide +kernel
theorem dX8_meal_31 : decode cX8_meal 31 = .ok (.istore 4, 2) := by decide +kernel
theorem dX8_meal_33 : decode cX8_meal 33 = .ok (.iload 4, 2) := by decide +kernel
theorem dX8_meal_35 : decode cX8_meal 35 = .ok (.aload_n 0, 1) := by decide +kernel
theorem dX8_meal_36 : decode cX8_meal 36 = .ok (.getfield 25, 3) := by decide +kernel
theorem dX8_meal_39 : decode cX8_meal 39 = .ok (.getfield 129, 3) := by decide +kernel
theorem dX8_meal_42 : decode cX8_meal 42 = .ok (.getfield 133, 3) := by decide +kernel
theorem dX8_meal_45 : decode cX8_meal 45 = .ok (.if_icmp .ge 68, 3) := by decide +kernel
theorem dX8_meal_48 : decode cX8_meal 48 = .ok (.aload_n 0, 1) := by decide +kernel
theorem dX8_meal_49 : decode cX8_meal 49 = .ok (.getfield 25, 3) := by decide +kernel
theorem dX8_meal_52 : decode cX8_meal 52 = .ok (.getfield 146, 3) := by decide +kernel
theorem dX8_meal_55 : decode cX8_meal 55 = .ok (.iload 4, 2) := by decide +kernel
theorem dX8_meal_57 : decode cX8_meal 57 = .ok (.invokevirtual 178, 3) := by decide +kernel
theorem dX8_meal_60 : decode cX8_meal 60 = .ok (.ifCond .eq 47, 3) := by decide +kernel
theorem dX8_meal_63 : decode cX8_meal 63 = .ok (.aload_n 0, 1) := by decide +kernel
theorem dX8_meal_64 : decode cX8_meal 64 = .ok (.getfield 29, 3) := by decide +kernel
theorem dX8_meal_67 : decode cX8_meal 67 = .ok (.aload_n 0, 1) := by decide +kernel
theorem dX8_meal_68 : decode cX8_meal 68 = .ok (.getfield 25, 3) := by decide +kernel
theorem dX8_meal_71 : decode cX8_meal 71 = .ok (.invokevirtual 122, 3) := by decide +kernel
theorem dX8_meal_74 : decode cX8_meal 74 = .ok (.aload_n 0, 1) := by decide +kernel
theorem dX8_meal_75 : decode cX8_meal 75 = .ok (.getfield 29, 3) := by decide +kernel
theorem dX8_meal_78 : decode cX8_meal 78 = .ok (.iload 4, 2) := by decide +kernel
theorem dX8_meal_80 : decode cX8_meal 80 = .ok (.invokevirtual 165, 3) := by decide +kernel
theorem dX8_meal_83 : decode cX8_meal 83 = .ok (.aload_n 0, 1) := by decide +kernel
theorem dX8_meal_84 : decode cX8_meal 84 = .ok (.getfield 29, 3) := by decide +kernel
theorem dX8_meal_87 : decode cX8_meal 87 = .ok (.invokevirtual 219, 3) := by decide +kernel
theorem dX8_meal_90 : decode cX8_meal 90 = .ok (.invokestatic 237, 3) := by decide +kernel
theorem dX8_meal_93 : decode cX8_meal 93 = .ok (.istore 5, 2) := by decide +kernel
theorem dX8_meal_95 : decode cX8_meal 95 = .ok (.iload 5, 2) := by decide +kernel
theorem dX8_meal_97 : decode cX8_meal 97 = .ok (.iload_n 3, 1) := by decide +kernel
theorem dX8_meal_98 : decode cX8_meal 98 = .ok (.if_icmp .le 9, 3) := by decide +kernel
theorem dX8_meal_101 : decode cX8_meal 101 = .ok (.iload 5, 2) := by decide +kernel
theorem dX8_meal_103 : decode cX8_meal 103 = .ok (.istore_n 3, 1) := by decide +kernel
theorem dX8_meal_104 : decode cX8_meal 104 = .ok (.iload 4, 2) := by decide +kernel
theorem dX8_meal_106 : decode cX8_meal 106 = .ok (.istore_n 2, 1) := by decide +kernel
theorem dX8_meal_107 : decode cX8_meal 107 = .ok (.iinc 4 1, 3) := by decide +kernel
theorem dX8_meal_110 : decode cX8_meal 110 = .ok (.goto (-77), 3) := by decide +kernel
theorem dX8_meal_113 : decode cX8_meal 113 = .ok (.iload_n 1, 1) := by decide +kernel
theorem dX8_meal_114 : decode cX8_meal 114 = .ok (.ifCond .ne 7, 3) := by decide +kernel
theorem dX8_meal_117 : decode cX8_meal 117 = .ok (.iload_n 2, 1) := by decide +kernel
theorem dX8_meal_118 : decode cX8_meal 118 = .ok (.goto 4, 3) := by decide +kernel
theorem dX8_meal_121 : decode cX8_meal 121 = .ok (.iload_n 3, 1) := by decide +kernel
theorem dX8_meal_122 : decode cX8_meal 122 = .ok (.ireturn, 1) := by decide +kernel
theorem dX8_catches_0 : decode cX8_catches 0 = .ok (.aload_n 0, 1) := by decide +kernel
theorem dX8_catches_1 : decode cX8_catches 1 = .ok (.iload_n 1, 1) := by decide +kernel
theorem dX8_catches_2 : decode cX8_catches 2 = .ok (.invokevirtual 162, 3) := by decide +kernel
theorem dX8_catches_5 : decode cX8_catches 5 = .ok (.ifCond .ne 6, 3) := by decide +kernel
theorem dX8_catches_8 : decode cX8_catches 8 = .ok (.ldc 70, 2) := by decide +kernel
theorem dX8_catches_10 : decode cX8_catches 10 = .ok (.ireturn, 1) := by decide +kernel
theorem dX8_catches_11 : decode cX8_catches 11 = .ok (.aload_n 0, 1) := by decide +kernel
theorem dX8_catches_12 : decode cX8_catches 12 = .ok (.getfield 25, 3) := by decide +kernel
theorem dX8_catches_15 : decode cX8_catches 15 = .ok (.getfield 146, 3) := by decide +kernel
theorem dX8_catches_18 : decode cX8_catches 18 = .ok (.iload_n 1, 1) := by decide +kernel
theorem dX8_catches_19 : decode cX8_catches 19 = .ok (.invokevirtual 178, 3) := by decide +kernel
theorem dX8_catches_22 : decode cX8_catches 22 = .ok (.ifCond .ne 6, 3) := by decide +kernel
theorem dX8_catches_25 : decode cX8_catches 25 = .ok (.ldc 145, 2) := by decide +kernel
theorem dX8_catches_27 : decode cX8_catches 27 = .ok (.ireturn, 1) := by decide +kernel
theorem dX8_catches_28 : decode cX8_catches 28 = .ok (.iconst 1, 1) := by decide +kernel
theorem dX8_catches_29 : decode cX8_catches 29 = .ok (.iload_n 1, 1) := by decide +kernel
theorem dX8_catches_30 : decode cX8_catches 30 = .ok (.ishl, 1) := by decide +kernel
theorem dX8_catches_31 : decode cX8_catches 31 = .ok (.iconst (-1), 1) := by decide +kernel
theorem dX8_catches_32 : decode cX8_catches 32 = .ok (.ixor, 1) := by decide +kernel
theorem dX8_catches_33 : decode cX8_catches 33 = .ok (.istore_n 2, 1) := by decide +kernel
theorem dX8_catches_34 : decode cX8_catches 34 = .ok (.aload_n 0, 1) := by decide +kernel
theorem dX8_catches_35 : decode cX8_catches 35 = .ok (.getfield 29, 3) := by decide +kernel
theorem dX8_catches_38 : decode cX8_catches 38 = .ok (.aload_n 0, 1) := by decide +kernel
theorem dX8_catches_39 : decode cX8_catches 39 = .ok (.getfield 25, 3) := by decide +kernel
theorem dX8_catches_42 : decode cX8_catches 42 = .ok (.invokevirtual 122, 3) := by decide +kernel
theorem dX8_catches_45 : decode cX8_catches 45 = .ok (.aload_n 0, 1) := by decide +kernel
theorem dX8_catches_46 : decode cX8_catches 46 = .ok (.getfield 29, 3) := by decide +kernel
theorem dX8_catches_49 : decode cX8_catches 49 = .ok (.invokevirtual 219, 3) := by decide +kernel
theorem dX8_catches_52 : decode cX8_catches 52 = .ok (.iload_n 2, 1) := by decide +kernel
theorem dX8_catches_53 : decode cX8_catches 53 = .ok (.iand, 1) := by decide +kernel
theorem dX8_catches_54 : decode cX8_catches 54 = .ok (.invokestatic 237, 3) := by decide +kernel
theorem dX8_catches_57 : decode cX8_catches 57 = .ok (.istore_n 3, 1) := by decide +kernel
theorem dX8_catches_58 : decode cX8_catches 58 = .ok (.aload_n 0, 1) := by decide +kernel
theorem dX8_catches_59 : decode cX8_catches 59 = .ok (.getfield 29, 3) := by decide +kernel
theorem dX8_catches_62 : decode cX8_catches 62 = .ok (.aload_n 0, 1) := by decide +kernel
theorem dX8_catches_63 : decode cX8_catches 63 = .ok (.getfield 25, 3) := by decide +kernel
theorem dX8_catches_66 : decode cX8_catches 66 = .ok (.invokevirtual 122, 3) := by decide +kernel
theorem dX8_catches_69 : decode cX8_catches 69 = .ok (.aload_n 0, 1) := by decide +kernel
theorem dX8_catches_70 : decode cX8_catches 70 = .ok (.getfield 29, 3) := by decide +kernel
theorem dX8_catches_73 : decode cX8_catches 73 = .ok (.getfield 146, 3) := by decide +kernel
theorem dX8_catches_76 : decode cX8_catches 76 = .ok (.iconst 1, 1) := by decide +kernel
theorem dX8_catches_77 : decode cX8_catches 77 = .ok (.iload_n 1, 1) := by decide +kernel
theorem dX8_catches_78 : decode cX8_catches 78 = .ok (.ishl, 1) := by decide +kernel
theorem dX8_catches_79 : decode cX8_catches 79 = .ok (.invokevirtual 248, 3) := by decide +kernel
theorem dX8_catches_82 : decode cX8_catches 82 = .ok (.iload_n 3, 1) := by decide +kernel
theorem dX8_catches_83 : decode cX8_catches 83 = .ok (.aload_n 0, 1) := by decide +kernel
theorem dX8_catches_84 : decode cX8_catches 84 = .ok (.getfield 29, 3) := by decide +kernel
theorem dX8_catches_87 : decode cX8_catches 87 = .ok (.invokevirtual 219, 3) := by decide +kernel
theorem dX8_catches_90 : decode cX8_catches 90 = .ok (.iload_n 2, 1) := by decide +kernel
theorem dX8_catches_91 : decode cX8_catches 91 = .ok (.iand, 1) := by decide +kernel
theorem dX8_catches_92 : decode cX8_catches 92 = .ok (.invokestatic 237, 3) := by decide +kernel
theorem dX8_catches_95 : decode cX8_catches 95 = .ok (.isub, 1) := by decide +kernel
theorem dX8_catches_96 : decode cX8_catches 96 = .ok (.ireturn, 1) := by decide +kernel
theorem dX8_beloved_0 : decode cX8_beloved 0 = .ok (.aload_n 0, 1) := by decide +kernel
theorem dX8_beloved_1 : decode cX8_beloved 1 = .ok (.getfield 25, 3) := by decide +kernel
theorem dX8_beloved_4 : decode cX8_beloved 4 = .ok (.invokevirtual 215, 3) := by decide +kernel
theorem dX8_beloved_7 : decode cX8_beloved 7 = .ok (.ifCond .ne 6, 3) := by decide +kernel
theorem dX8_beloved_10 : decode cX8_beloved 10 = .ok (.ldc 145, 2) := by decide +kernel
theorem dX8_beloved_12 : decode cX8_beloved 12 = .ok (.ireturn, 1) := by decide +kernel
theorem dX8_beloved_13 : decode cX8_beloved 13 = .ok (.iload_n 1, 1) := by decide +kernel
theorem dX8_beloved_14 : decode cX8_beloved 14 = .ok (.iconst 1, 1) := by decide +kernel
theorem dX8_beloved_15 : decode cX8_beloved 15 = .ok (.invokestatic 66, 3) := by decide +kernel
theorem dX8_beloved_18 : decode cX8_beloved 18 = .ok (.ifCond .ne 6, 3) := by decide +kernel
theorem dX8_beloved_21 : decode cX8_beloved 21 = .ok (.ldc 70, 2) := by decide +kernel
theorem dX8_beloved_23 : decode cX8_beloved 23 = .ok (.ireturn, 1) := by decide +kernel
theorem dX8_beloved_24 : decode cX8_beloved 24 = .ok (.ldc 222, 2) := by decide +kernel
theorem dX8_beloved_26 : decode cX8_beloved 26 = .ok (.istore_n 2, 1) := by decide +kernel
theorem dX8_beloved_27 : decode cX8_beloved 27 = .ok (.iconst 0, 1) := by decide +kernel
theorem dX8_beloved_28 : decode cX8_beloved 28 = .ok (.istore_n 3, 1) := by decide +kernel
theorem dX8_beloved_29 : decode cX8_beloved 29 = .ok (.iconst 0, 1) := by decide +kernel
theorem dX8_beloved_30 : decode cX8_beloved 30 = .ok (.istore 4, 2) := by decide +kernel
theorem dX8_beloved_32 : decode cX8_beloved 32 = .ok (.iload 4, 2) := by decide +kernel
theorem dX8_beloved_34 : decode cX8_beloved 34 = .ok (.aload_n 0, 1) := by decide +kernel
theorem dX8_beloved_35 : decode cX8_beloved 35 = .ok (.getfield 25, 3) := by decide +kernel
theorem dX8_beloved_38 : decode cX8_beloved 38 = .ok (.getfield 129, 3) := by decide +kernel
theorem dX8_beloved_41 : decode cX8_beloved 41 = .ok (.getfield 133, 3) := by decide +kernel
theorem dX8_beloved_44 : decode cX8_beloved 44 = .ok (.if_icmp .ge 32, 3) := by decide +kernel
theorem dX8_beloved_47 : decode cX8_beloved 47 = .ok (.aload_n 0, 1) := by decide +kernel
theorem dX8_beloved_48 : decode cX8_beloved 48 = .ok (.getfield 25, 3) := by decide +kernel
theorem dX8_beloved_51 : decode cX8_beloved 51 = .ok (.iload 4, 2) := by decide +kernel
theorem dX8_beloved_53 : decode cX8_beloved 53 = .ok (.invokevirtual 251, 3) := by decide +kernel
theorem dX8_beloved_56 : decode cX8_beloved 56 = .ok (.istore 5, 2) := by decide +kernel
theorem dX8_beloved_58 : decode cX8_beloved 58 = .ok (.iload 5, 2) := by decide +kernel
theorem dX8_beloved_60 : decode cX8_beloved 60 = .ok (.iload_n 3, 1) := by decide +kernel
theorem dX8_beloved_61 : decode cX8_beloved 61 = .ok (.if_icmp .le 9, 3) := by decide +kernel
theorem dX8_beloved_64 : decode cX8_beloved 64 = .ok (.iload 5, 2) := by decide +kernel
theorem dX8_beloved_66 : decode cX8_beloved 66 = .ok (.istore_n 3, 1) := by decide +kernel
theorem dX8_beloved_67 : decode cX8_beloved 67 = .ok (.iload 4, 2) := by decide +kernel
theorem dX8_beloved_69 : decode cX8_beloved 69 = .ok (.istore_n 2, 1) := by decide +kernel
theorem dX8_beloved_70 : decode cX8_beloved 70 = .ok (.iinc 4 1, 3) := by decide +kernel
theorem dX8_beloved_73 : decode cX8_beloved 73 = .ok (.goto (-41), 3) := by decide +kernel
theorem dX8_beloved_76 : decode cX8_beloved 76 = .ok (.iload_n 1, 1) := by decide +kernel
theorem dX8_beloved_77 : decode cX8_beloved 77 = .ok (.ifCond .eq 9, 3) := by decide +kernel
theorem dX8_beloved_80 : decode cX8_beloved 80 = .ok (.iload_n 2, 1) := by decide +kernel
theorem dX8_beloved_81 : decode cX8_beloved 81 = .ok (.ldc 222, 2) := by decide +kernel
theorem dX8_beloved_83 : decode cX8_beloved 83 = .ok (.if_icmp .ne 7, 3) := by decide +kernel
theorem dX8_beloved_86 : decode cX8_beloved 86 = .ok (.iload_n 2, 1) := by decide +kernel
theorem dX8_beloved_87 : decode cX8_beloved 87 = .ok (.goto 4, 3) := by decide +kernel
theorem dX8_beloved_90 : decode cX8_beloved 90 = .ok (.iload_n 3, 1) := by decide +kernel
theorem dX8_beloved_91 : decode cX8_beloved 91 = .ok (.ireturn, 1) := by decide +kernel
theorem dX8_fits_0 : decode cX8_fits 0 = .ok (.aload_n 0, 1) := by decide +kernel
theorem dX8_fits_1 : decode cX8_fits 1 = .ok (.iload_n 1, 1) := by decide +kernel
theorem dX8_fits_2 : decode cX8_fits 2 = .ok (.invokevirtual 162, 3) := by decide +kernel
theorem dX8_fits_5 : decode cX8_fits 5 = .ok (.ifCond .eq 28, 3) := by decide +kernel
theorem dX8_fits_8 : decode cX8_fits 8 = .ok (.iload_n 2, 1) := by decide +kernel
theorem dX8_fits_9 : decode cX8_fits 9 = .ok (.invokestatic 62, 3) := by decide +kernel
theorem dX8_fits_12 : decode cX8_fits 12 = .ok (.ifCond .eq 21, 3) := by decide +kernel
theorem dX8_fits_15 : decode cX8_fits 15 = .ok (.aload_n 0, 1) := by decide +kernel
theorem dX8_fits_16 : decode cX8_fits 16 = .ok (.iload 4, 2) := by decide +kernel
theorem dX8_fits_18 : decode cX8_fits 18 = .ok (.invokevirtual 254, 3) := by decide +kernel
theorem dX8_fits_21 : decode cX8_fits 21 = .ok (.ifCond .eq 12, 3) := by decide +kernel
theorem dX8_fits_24 : decode cX8_fits 24 = .ok (.iload 5, 2) := by decide +kernel
theorem dX8_fits_26 : decode cX8_fits 26 = .ok (.iconst 1, 1) := by decide +kernel
theorem dX8_fits_27 : decode cX8_fits 27 = .ok (.invokestatic 66, 3) := by decide +kernel
theorem dX8_fits_30 : decode cX8_fits 30 = .ok (.ifCond .ne 6, 3) := by decide +kernel
theorem dX8_fits_33 : decode cX8_fits 33 = .ok (.ldc 70, 2) := by decide +kernel
theorem dX8_fits_35 : decode cX8_fits 35 = .ok (.ireturn, 1) := by decide +kernel
theorem dX8_fits_36 : decode cX8_fits 36 = .ok (.aload_n 0, 1) := by decide +kernel
theorem dX8_fits_37 : decode cX8_fits 37 = .ok (.getfield 11, 3) := by decide +kernel
theorem dX8_fits_40 : decode cX8_fits 40 = .ok (.iload_n 2, 1) := by decide +kernel
theorem dX8_fits_41 : decode cX8_fits 41 = .ok (.aaload, 1) := by decide +kernel
theorem dX8_fits_42 : decode cX8_fits 42 = .ok (.astore 6, 2) := by decide +kernel
theorem dX8_fits_44 : decode cX8_fits 44 = .ok (.aload 6, 2) := by decide +kernel
theorem dX8_fits_46 : decode cX8_fits 46 = .ok (.getfield 82, 3) := by decide +kernel
theorem dX8_fits_49 : decode cX8_fits 49 = .ok (.ifCond .ne 9, 3) := by decide +kernel
theorem dX8_fits_52 : decode cX8_fits 52 = .ok (.aload_n 0, 1) := by decide +kernel
theorem dX8_fits_53 : decode cX8_fits 53 = .ok (.iconst 1, 1) := by decide +kernel
theorem dX8_fits_54 : decode cX8_fits 54 = .ok (.invokevirtual 71, 3) := by decide +kernel
theorem dX8_fits_57 : decode cX8_fits 57 = .ok (.ireturn, 1) := by decide +kernel
theorem dX8_fits_58 : decode cX8_fits 58 = .ok (.aload 6, 2) := by decide +kernel
theorem dX8_fits_60 : decode cX8_fits 60 = .ok (.iload_n 3, 1) := by decide +kernel
theorem dX8_fits_61 : decode cX8_fits 61 = .ok (.iload 4, 2) := by decide +kernel
theorem dX8_fits_63 : decode cX8_fits 63 = .ok (.invokevirtual 86, 3) := by decide +kernel
theorem dX8_fits_66 : decode cX8_fits 66 = .ok (.ifCond .ne 9, 3) := by decide +kernel
theorem dX8_fits_69 : decode cX8_fits 69 = .ok (.aload_n 0, 1) := by decide +kernel
theorem dX8_fits_70 : decode cX8_fits 70 = .ok (.iconst 2, 1) := by decide +kernel
theorem dX8_fits_71 : decode cX8_fits 71 = .ok (.invokevirtual 71, 3) := by decide +kernel
theorem dX8_fits_74 : decode cX8_fits 74 = .ok (.ireturn, 1) := by decide +kernel
theorem dX8_fits_75 : decode cX8_fits 75 = .ok (.aload_n 0, 1) := by decide +kernel
theorem dX8_fits_76 : decode cX8_fits 76 = .ok (.iload 5, 2) := by decide +kernel
theorem dX8_fits_78 : decode cX8_fits 78 = .ok (.ifCond .ne 16, 3) := by decide +kernel
theorem dX8_fits_81 : decode cX8_fits 81 = .ok (.aload_n 0, 1) := by decide +kernel
theorem dX8_fits_82 : decode cX8_fits 82 = .ok (.iload_n 1, 1) := by decide +kernel
theorem dX8_fits_83 : decode cX8_fits 83 = .ok (.aload 6, 2) := by decide +kernel
theorem dX8_fits_85 : decode cX8_fits 85 = .ok (.iload_n 3, 1) := by decide +kernel
theorem dX8_fits_86 : decode cX8_fits 86 = .ok (.iload 4, 2) := by decide +kernel
theorem dX8_fits_88 : decode cX8_fits 88 = .ok (.invokevirtual 257, 3) := by decide +kernel
theorem dX8_fits_91 : decode cX8_fits 91 = .ok (.goto 13, 3) := by decide +kernel
theorem dX8_fits_94 : decode cX8_fits 94 = .ok (.aload_n 0, 1) := by decide +kernel
theorem dX8_fits_95 : decode cX8_fits 95 = .ok (.iload_n 1, 1) := by decide +kernel
theorem dX8_fits_96 : decode cX8_fits 96 = .ok (.aload 6, 2) := by decide +kernel
theorem dX8_fits_98 : decode cX8_fits 98 = .ok (.iload_n 3, 1) := by decide +kernel
theorem dX8_fits_99 : decode cX8_fits 99 = .ok (.iload 4, 2) := by decide +kernel
theorem dX8_fits_101 : decode cX8_fits 101 = .ok (.invokevirtual 261, 3) := by decide +kernel
theorem dX8_fits_104 : decode cX8_fits 104 = .ok (.invokevirtual 79, 3) := by decide +kernel
theorem dX8_fits_107 : decode cX8_fits 107 = .ok (.ireturn, 1) := by decide +kernel
theorem dX8_asked_0 : decode cX8_asked 0 = .ok (.aload_n 0, 1) := by decide +kernel
theorem dX8_asked_1 : decode cX8_asked 1 = .ok (.getfield 25, 3) := by decide +kernel
theorem dX8_asked_4 : decode cX8_asked 4 = .ok (.invokevirtual 141, 3) := by decide +kernel
theorem dX8_asked_7 : decode cX8_asked 7 = .ok (.iconst 1, 1) := by decide +kernel
theorem dX8_asked_8 : decode cX8_asked 8 = .ok (.if_icmp .ge 6, 3) := by decide +kernel
theorem dX8_asked_11 : decode cX8_asked 11 = .ok (.ldc 145, 2) := by decide +kernel
theorem dX8_asked_13 : decode cX8_asked 13 = .ok (.ireturn, 1) := by decide +kernel
theorem dX8_asked_14 : decode cX8_asked 14 = .ok (.iload_n 1, 1) := by decide +kernel
theorem dX8_asked_15 : decode cX8_asked 15 = .ok (.invokestatic 62, 3) := by decide +kernel
theorem dX8_asked_18 : decode cX8_asked 18 = .ok (.ifCond .eq 11, 3) := by decide +kernel
theorem dX8_asked_21 : decode cX8_asked 21 = .ok (.aload_n 0, 1) := by decide +kernel
theorem dX8_asked_22 : decode cX8_asked 22 = .ok (.iload_n 3, 1) := by decide +kernel
theorem dX8_asked_23 : decode cX8_asked 23 = .ok (.invokevirtual 254, 3) := by decide +kernel
theorem dX8_asked_26 : decode cX8_asked 26 = .ok (.ifCond .ne 6, 3) := by decide +kernel
theorem dX8_asked_29 : decode cX8_asked 29 = .ok (.ldc 70, 2) := by decide +kernel
theorem dX8_asked_31 : decode cX8_asked 31 = .ok (.ireturn, 1) := by decide +kernel
theorem dX8_asked_32 : decode cX8_asked 32 = .ok (.aload_n 0, 1) := by decide +kernel
theorem dX8_asked_33 : decode cX8_asked 33 = .ok (.getfield 11, 3) := by decide +kernel
theorem dX8_asked_36 : decode cX8_asked 36 = .ok (.iload_n 1, 1) := by decide +kernel
theorem dX8_asked_37 : decode cX8_asked 37 = .ok (.aaload, 1) := by decide +kernel
theorem dX8_asked_38 : decode cX8_asked 38 = .ok (.astore 4, 2) := by decide +kernel
theorem dX8_asked_40 : decode cX8_asked 40 = .ok (.aload 4, 2) := by decide +kernel
theorem dX8_asked_42 : decode cX8_asked 42 = .ok (.getfield 82, 3) := by decide +kernel
theorem dX8_asked_45 : decode cX8_asked 45 = .ok (.ifCond .ne 9, 3) := by decide +kernel
theorem dX8_asked_48 : decode cX8_asked 48 = .ok (.aload_n 0, 1) := by decide +kernel
theorem dX8_asked_49 : decode cX8_asked 49 = .ok (.iconst 1, 1) := by decide +kernel
theorem dX8_asked_50 : decode cX8_asked 50 = .ok (.invokevirtual 71, 3) := by decide +kernel
theorem dX8_asked_53 : decode cX8_asked 53 = .ok (.ireturn, 1) := by decide +kernel
theorem dX8_asked_54 : decode cX8_asked 54 = .ok (.aload 4, 2) := by decide +kernel
theorem dX8_asked_56 : decode cX8_asked 56 = .ok (.iload_n 2, 1) := by decide +kernel
theorem dX8_asked_57 : decode cX8_asked 57 = .ok (.iload_n 3, 1) := by decide +kernel
theorem dX8_asked_58 : decode cX8_asked 58 = .ok (.invokevirtual 86, 3) := by decide +kernel
theorem dX8_asked_61 : decode cX8_asked 61 = .ok (.ifCond .ne 9, 3) := by decide +kernel
theorem dX8_asked_64 : decode cX8_asked 64 = .ok (.aload_n 0, 1) := by decide +kernel
theorem dX8_asked_65 : decode cX8_asked 65 = .ok (.iconst 2, 1) := by decide +kernel
theorem dX8_asked_66 : decode cX8_asked 66 = .ok (.invokevirtual 71, 3) := by decide +kernel
theorem dX8_asked_69 : decode cX8_asked 69 = .ok (.ireturn, 1) := by decide +kernel
theorem dX8_asked_70 : decode cX8_asked 70 = .ok (.aload_n 0, 1) := by decide +kernel
theorem dX8_asked_71 : decode cX8_asked 71 = .ok (.aload_n 0, 1) := by decide +kernel
theorem dX8_asked_72 : decode cX8_asked 72 = .ok (.aload 4, 2) := by decide +kernel
theorem dX8_asked_74 : decode cX8_asked 74 = .ok (.iload_n 2, 1) := by decide +kernel
theorem dX8_asked_75 : decode cX8_asked 75 = .ok (.iload_n 3, 1) := by decide +kernel
theorem dX8_asked_76 : decode cX8_asked 76 = .ok (.invokevirtual 264, 3) := by decide +kernel
theorem dX8_asked_79 : decode cX8_asked 79 = .ok (.invokevirtual 79, 3) := by decide +kernel
theorem dX8_asked_82 : decode cX8_asked 82 = .ok (.ireturn, 1) := by decide +kernel
theorem dX8_storm_0 : decode cX8_storm 0 = .ok (.aload_n 0, 1) := by decide +kernel
theorem dX8_storm_1 : decode cX8_storm 1 = .ok (.getfield 25, 3) := by decide +kernel
theorem dX8_storm_4 : decode cX8_storm 4 = .ok (.invokevirtual 215, 3) := by decide +kernel
theorem dX8_storm_7 : decode cX8_storm 7 = .ok (.ifCond .ne 6, 3) := by decide +kernel
theorem dX8_storm_10 : decode cX8_storm 10 = .ok (.ldc 145, 2) := by decide +kernel
theorem dX8_storm_12 : decode cX8_storm 12 = .ok (.ireturn, 1) := by decide +kernel
theorem dX8_storm_13 : decode cX8_storm 13 = .ok (.iload_n 1, 1) := by decide +kernel
theorem dX8_storm_14 : decode cX8_storm 14 = .ok (.bipush 6, 2) := by decide +kernel
theorem dX8_storm_16 : decode cX8_storm 16 = .ok (.invokestatic 66, 3) := by decide +kernel
theorem dX8_storm_19 : decode cX8_storm 19 = .ok (.ifCond .eq 20, 3) := by decide +kernel
theorem dX8_storm_22 : decode cX8_storm 22 = .ok (.iload_n 2, 1) := by decide +kernel
theorem dX8_storm_23 : decode cX8_storm 23 = .ok (.bipush 10, 2) := by decide +kernel
theorem dX8_storm_25 : decode cX8_storm 25 = .ok (.invokestatic 66, 3) := by decide +kernel
theorem dX8_storm_28 : decode cX8_storm 28 = .ok (.ifCond .eq 11, 3) := by decide +kernel
theorem dX8_storm_31 : decode cX8_storm 31 = .ok (.iload_n 3, 1) := by decide +kernel
theorem dX8_storm_32 : decode cX8_storm 32 = .ok (.iconst 1, 1) := by decide +kernel
theorem dX8_storm_33 : decode cX8_storm 33 = .ok (.invokestatic 66, 3) := by decide +kernel
theorem dX8_storm_36 : decode cX8_storm 36 = .ok (.ifCond .ne 6, 3) := by decide +kernel
theorem dX8_storm_39 : decode cX8_storm 39 = .ok (.ldc 70, 2) := by decide +kernel
theorem dX8_storm_41 : decode cX8_storm 41 = .ok (.ireturn, 1) := by decide +kernel
theorem dX8_storm_42 : decode cX8_storm 42 = .ok (.aload_n 0, 1) := by decide +kernel
theorem dX8_storm_43 : decode cX8_storm 43 = .ok (.iload_n 1, 1) := by decide +kernel
theorem dX8_storm_44 : decode cX8_storm 44 = .ok (.iload_n 2, 1) := by decide +kernel
theorem dX8_storm_45 : decode cX8_storm 45 = .ok (.invokevirtual 268, 3) := by decide +kernel
theorem dX8_storm_48 : decode cX8_storm 48 = .ok (.istore 4, 2) := by decide +kernel
theorem dX8_storm_50 : decode cX8_storm 50 = .ok (.bipush 10, 2) := by decide +kernel
theorem dX8_storm_52 : decode cX8_storm 52 = .ok (.aload_n 0, 1) := by decide +kernel
theorem dX8_storm_53 : decode cX8_storm 53 = .ok (.getfield 25, 3) := by decide +kernel
theorem dX8_storm_56 : decode cX8_storm 56 = .ok (.getfield 146, 3) := by decide +kernel
theorem dX8_storm_59 : decode cX8_storm 59 = .ok (.getfield 157, 3) := by decide +kernel
theorem dX8_storm_62 : decode cX8_storm 62 = .ok (.invokestatic 237, 3) := by decide +kernel
theorem dX8_storm_65 : decode cX8_storm 65 = .ok (.invokestatic 271, 3) := by decide +kernel
theorem dX8_storm_68 : decode cX8_storm 68 = .ok (.istore 5, 2) := by decide +kernel
theorem dX8_storm_70 : decode cX8_storm 70 = .ok (.iload 4, 2) := by decide +kernel
theorem dX8_storm_72 : decode cX8_storm 72 = .ok (.iload 5, 2) := by decide +kernel
theorem dX8_storm_74 : decode cX8_storm 74 = .ok (.invokestatic 274, 3) := by decide +kernel
theorem dX8_storm_77 : decode cX8_storm 77 = .ok (.istore 6, 2) := by decide +kernel
theorem dX8_storm_79 : decode cX8_storm 79 = .ok (.iload 6, 2) := by decide +kernel
theorem dX8_storm_81 : decode cX8_storm 81 = .ok (.iconst 1, 1) := by decide +kernel
theorem dX8_storm_82 : decode cX8_storm 82 = .ok (.if_icmp .ge 6, 3) := by decide +kernel
theorem dX8_storm_85 : decode cX8_storm 85 = .ok (.ldc 222, 2) := by decide +kernel
theorem dX8_storm_87 : decode cX8_storm 87 = .ok (.ireturn, 1) := by decide +kernel
theorem dX8_storm_88 : decode cX8_storm 88 = .ok (.iload_n 3, 1) := by decide +kernel
theorem dX8_storm_89 : decode cX8_storm 89 = .ok (.ifCond .ne 11, 3) := by decide +kernel
theorem dX8_storm_92 : decode cX8_storm 92 = .ok (.iload 4, 2) := by decide +kernel
theorem dX8_storm_94 : decode cX8_storm 94 = .ok (.iload 6, 2) := by decide +kernel
theorem dX8_storm_96 : decode cX8_storm 96 = .ok (.idiv, 1) := by decide +kernel
theorem dX8_storm_97 : decode cX8_storm 97 = .ok (.goto 8, 3) := by decide +kernel
theorem dX8_storm_100 : decode cX8_storm 100 = .ok (.iload 5, 2) := by decide +kernel
theorem dX8_storm_102 : decode cX8_storm 102 = .ok (.iload 6, 2) := by decide +kernel
theorem dX8_storm_104 : decode cX8_storm 104 = .ok (.idiv, 1) := by decide +kernel
theorem dX8_storm_105 : decode cX8_storm 105 = .ok (.ireturn, 1) := by decide +kernel
theorem dX8_drawn_0 : decode cX8_drawn 0 = .ok (.aload_n 0, 1) := by decide +kernel
theorem dX8_drawn_1 : decode cX8_drawn 1 = .ok (.getfield 25, 3) := by decide +kernel
theorem dX8_drawn_4 : decode cX8_drawn 4 = .ok (.invokevirtual 215, 3) := by decide +kernel
theorem dX8_drawn_7 : decode cX8_drawn 7 = .ok (.ifCond .ne 6, 3) := by decide +kernel
theorem dX8_drawn_10 : decode cX8_drawn 10 = .ok (.ldc 145, 2) := by decide +kernel
theorem dX8_drawn_12 : decode cX8_drawn 12 = .ok (.ireturn, 1) := by decide +kernel
theorem dX8_drawn_13 : decode cX8_drawn 13 = .ok (.iload_n 1, 1) := by decide +kernel
theorem dX8_drawn_14 : decode cX8_drawn 14 = .ok (.bipush 40, 2) := by decide +kernel
theorem dX8_drawn_16 : decode cX8_drawn 16 = .ok (.invokestatic 66, 3) := by decide +kernel
theorem dX8_drawn_19 : decode cX8_drawn 19 = .ok (.ifCond .eq 23, 3) := by decide +kernel
theorem dX8_drawn_22 : decode cX8_drawn 22 = .ok (.iload_n 2, 1) := by decide +kernel
theorem dX8_drawn_23 : decode cX8_drawn 23 = .ok (.iconst 1, 1) := by decide +kernel
theorem dX8_drawn_24 : decode cX8_drawn 24 = .ok (.if_icmp .lt 18, 3) := by decide +kernel
theorem dX8_drawn_27 : decode cX8_drawn 27 = .ok (.iload_n 2, 1) := by decide +kernel
theorem dX8_drawn_28 : decode cX8_drawn 28 = .ok (.ldc_w 277, 3) := by decide +kernel
theorem dX8_drawn_31 : decode cX8_drawn 31 = .ok (.if_icmp .gt 11, 3) := by decide +kernel
theorem dX8_drawn_34 : decode cX8_drawn 34 = .ok (.iload_n 3, 1) := by decide +kernel
theorem dX8_drawn_35 : decode cX8_drawn 35 = .ok (.iconst 1, 1) := by decide +kernel
theorem dX8_drawn_36 : decode cX8_drawn 36 = .ok (.invokestatic 66, 3) := by decide +kernel
theorem dX8_drawn_39 : decode cX8_drawn 39 = .ok (.ifCond .ne 6, 3) := by decide +kernel
theorem dX8_drawn_42 : decode cX8_drawn 42 = .ok (.ldc 70, 2) := by decide +kernel
theorem dX8_drawn_44 : decode cX8_drawn 44 = .ok (.ireturn, 1) := by decide +kernel
theorem dX8_drawn_45 : decode cX8_drawn 45 = .ok (.iload_n 2, 1) := by decide +kernel
theorem dX8_drawn_46 : decode cX8_drawn 46 = .ok (.i2l, 1) := by decide +kernel
theorem dX8_drawn_47 : decode cX8_drawn 47 = .ok (.lstore 4, 2) := by decide +kernel
theorem dX8_drawn_49 : decode cX8_drawn 49 = .ok (.iconst 0, 1) := by decide +kernel
theorem dX8_drawn_50 : decode cX8_drawn 50 = .ok (.istore 6, 2) := by decide +kernel
theorem dX8_drawn_52 : decode cX8_drawn 52 = .ok (.iconst 0, 1) := by decide +kernel
theorem dX8_drawn_53 : decode cX8_drawn 53 = .ok (.istore 7, 2) := by decide +kernel
theorem dX8_drawn_55 : decode cX8_drawn 55 = .ok (.iconst 0, 1) := by decide +kernel
theorem dX8_drawn_56 : decode cX8_drawn 56 = .ok (.istore 8, 2) := by decide +kernel
theorem dX8_drawn_58 : decode cX8_drawn 58 = .ok (.iload 8, 2) := by decide +kernel
theorem dX8_drawn_60 : decode cX8_drawn 60 = .ok (.iload_n 1, 1) := by decide +kernel
theorem dX8_drawn_61 : decode cX8_drawn 61 = .ok (.if_icmp .ge 75, 3) := by decide +kernel
theorem dX8_drawn_64 : decode cX8_drawn 64 = .ok (.lload 4, 2) := by decide +kernel
theorem dX8_drawn_66 : decode cX8_drawn 66 = .ok (.ldc2_w 278, 3) := by decide +kernel
theorem dX8_drawn_69 : decode cX8_drawn 69 = .ok (.lmul, 1) := by decide +kernel
theorem dX8_drawn_70 : decode cX8_drawn 70 = .ok (.ldc2_w 280, 3) := by decide +kernel
theorem dX8_drawn_73 : decode cX8_drawn 73 = .ok (.lrem, 1) := by decide +kernel
theorem dX8_drawn_74 : decode cX8_drawn 74 = .ok (.lstore 4, 2) := by decide +kernel
theorem dX8_drawn_76 : decode cX8_drawn 76 = .ok (.aload_n 0, 1) := by decide +kernel
theorem dX8_drawn_77 : decode cX8_drawn 77 = .ok (.getfield 29, 3) := by decide +kernel
theorem dX8_drawn_80 : decode cX8_drawn 80 = .ok (.aload_n 0, 1) := by decide +kernel
theorem dX8_drawn_81 : decode cX8_drawn 81 = .ok (.getfield 25, 3) := by decide +kernel
theorem dX8_drawn_84 : decode cX8_drawn 84 = .ok (.invokevirtual 122, 3) := by decide +kernel
theorem dX8_drawn_87 : decode cX8_drawn 87 = .ok (.aload_n 0, 1) := by decide +kernel
theorem dX8_drawn_88 : decode cX8_drawn 88 = .ok (.getfield 29, 3) := by decide +kernel
theorem dX8_drawn_91 : decode cX8_drawn 91 = .ok (.lload 4, 2) := by decide +kernel
theorem dX8_drawn_93 : decode cX8_drawn 93 = .ok (.invokevirtual 282, 3) := by decide +kernel
theorem dX8_drawn_96 : decode cX8_drawn 96 = .ok (.aload_n 0, 1) := by decide +kernel
theorem dX8_drawn_97 : decode cX8_drawn 97 = .ok (.getfield 29, 3) := by decide +kernel
theorem dX8_drawn_100 : decode cX8_drawn 100 = .ok (.invokevirtual 219, 3) := by decide +kernel
theorem dX8_drawn_103 : decode cX8_drawn 103 = .ok (.invokestatic 237, 3) := by decide +kernel
theorem dX8_drawn_106 : decode cX8_drawn 106 = .ok (.istore 9, 2) := by decide +kernel
theorem dX8_drawn_108 : decode cX8_drawn 108 = .ok (.iload 6, 2) := by decide +kernel
theorem dX8_drawn_110 : decode cX8_drawn 110 = .ok (.iload 9, 2) := by decide +kernel
theorem dX8_drawn_112 : decode cX8_drawn 112 = .ok (.iadd, 1) := by decide +kernel
theorem dX8_drawn_113 : decode cX8_drawn 113 = .ok (.istore 6, 2) := by decide +kernel
theorem dX8_drawn_115 : decode cX8_drawn 115 = .ok (.iload 7, 2) := by decide +kernel
theorem dX8_drawn_117 : decode cX8_drawn 117 = .ok (.iload 9, 2) := by decide +kernel
theorem dX8_drawn_119 : decode cX8_drawn 119 = .ok (.ifCond .le 7, 3) := by decide +kernel
theorem dX8_drawn_122 : decode cX8_drawn 122 = .ok (.iconst 1, 1) := by decide +kernel
theorem dX8_drawn_123 : decode cX8_drawn 123 = .ok (.goto 4, 3) := by decide +kernel
theorem dX8_drawn_126 : decode cX8_drawn 126 = .ok (.iconst 0, 1) := by decide +kernel
theorem dX8_drawn_127 : decode cX8_drawn 127 = .ok (.iadd, 1) := by decide +kernel
theorem dX8_drawn_128 : decode cX8_drawn 128 = .ok (.istore 7, 2) := by decide +kernel
theorem dX8_drawn_130 : decode cX8_drawn 130 = .ok (.iinc 8 1, 3) := by decide +kernel
theorem dX8_drawn_133 : decode cX8_drawn 133 = .ok (.goto (-75), 3) := by decide +kernel
theorem dX8_drawn_136 : decode cX8_drawn 136 = .ok (.iload_n 3, 1) := by decide +kernel
theorem dX8_drawn_137 : decode cX8_drawn 137 = .ok (.ifCond .ne 8, 3) := by decide +kernel
theorem dX8_drawn_140 : decode cX8_drawn 140 = .ok (.iload 6, 2) := by decide +kernel
theorem dX8_drawn_142 : decode cX8_drawn 142 = .ok (.goto 5, 3) := by decide +kernel
theorem dX8_drawn_145 : decode cX8_drawn 145 = .ok (.iload 7, 2) := by decide +kernel
theorem dX8_drawn_147 : decode cX8_drawn 147 = .ok (.ireturn, 1) := by decide +kernel
theorem dX8_image_0 : decode cX8_image 0 = .ok (.iload_n 1, 1) := by decide +kernel
theorem dX8_image_1 : decode cX8_image 1 = .ok (.iconst 1, 1) := by decide +kernel
theorem dX8_image_2 : decode cX8_image 2 = .ok (.invokestatic 66, 3) := by decide +kernel
theorem dX8_image_5 : decode cX8_image 5 = .ok (.ifCond .ne 6, 3) := by decide +kernel
theorem dX8_image_8 : decode cX8_image 8 = .ok (.ldc 70, 2) := by decide +kernel
theorem dX8_image_10 : decode cX8_image 10 = .ok (.ireturn, 1) := by decide +kernel
theorem dX8_image_11 : decode cX8_image 11 = .ok (.aload_n 0, 1) := by decide +kernel
theorem dX8_image_12 : decode cX8_image 12 = .ok (.getfield 25, 3) := by decide +kernel
theorem dX8_image_15 : decode cX8_image 15 = .ok (.invokevirtual 215, 3) := by decide +kernel
theorem dX8_image_18 : decode cX8_image 18 = .ok (.ifCond .ne 6, 3) := by decide +kernel
theorem dX8_image_21 : decode cX8_image 21 = .ok (.ldc 145, 2) := by decide +kernel
theorem dX8_image_23 : decode cX8_image 23 = .ok (.ireturn, 1) := by decide +kernel
theorem dX8_image_24 : decode cX8_image 24 = .ok (.aload_n 0, 1) := by decide +kernel
theorem dX8_image_25 : decode cX8_image 25 = .ok (.getfield 32, 3) := by decide +kernel
theorem dX8_image_28 : decode cX8_image 28 = .ok (.iload_n 1, 1) := by decide +kernel
theorem dX8_image_29 : decode cX8_image 29 = .ok (.aaload, 1) := by decide +kernel
theorem dX8_image_30 : decode cX8_image 30 = .ok (.aload_n 0, 1) := by decide +kernel
theorem dX8_image_31 : decode cX8_image 31 = .ok (.getfield 25, 3) := by decide +kernel
theorem dX8_image_34 : decode cX8_image 34 = .ok (.invokevirtual 122, 3) := by decide +kernel
theorem dX8_image_37 : decode cX8_image 37 = .ok (.iconst 1, 1) := by decide +kernel
theorem dX8_image_38 : decode cX8_image 38 = .ok (.ireturn, 1) := by decide +kernel
theorem dX8_restore_0 : decode cX8_restore 0 = .ok (.iload_n 1, 1) := by decide +kernel
theorem dX8_restore_1 : decode cX8_restore 1 = .ok (.iconst 1, 1) := by decide +kernel
theorem dX8_restore_2 : decode cX8_restore 2 = .ok (.invokestatic 66, 3) := by decide +kernel
theorem dX8_restore_5 : decode cX8_restore 5 = .ok (.ifCond .ne 6, 3) := by decide +kernel
theorem dX8_restore_8 : decode cX8_restore 8 = .ok (.ldc 70, 2) := by decide +kernel
theorem dX8_restore_10 : decode cX8_restore 10 = .ok (.ireturn, 1) := by decide +kernel
theorem dX8_restore_11 : decode cX8_restore 11 = .ok (.aload_n 0, 1) := by decide +kernel
theorem dX8_restore_12 : decode cX8_restore 12 = .ok (.getfield 32, 3) := by decide +kernel
theorem dX8_restore_15 : decode cX8_restore 15 = .ok (.iload_n 1, 1) := by decide +kernel
theorem dX8_restore_16 : decode cX8_restore 16 = .ok (.aaload, 1) := by decide +kernel
theorem dX8_restore_17 : decode cX8_restore 17 = .ok (.invokevirtual 215, 3) := by decide +kernel
theorem dX8_restore_20 : decode cX8_restore 20 = .ok (.ifCond .ne 6, 3) := by decide +kernel
theorem dX8_restore_23 : decode cX8_restore 23 = .ok (.ldc 145, 2) := by decide +kernel
theorem dX8_restore_25 : decode cX8_restore 25 = .ok (.ireturn, 1) := by decide +kernel
theorem dX8_restore_26 : decode cX8_restore 26 = .ok (.aload_n 0, 1) := by decide +kernel
theorem dX8_restore_27 : decode cX8_restore 27 = .ok (.getfield 25, 3) := by decide +kernel
theorem dX8_restore_30 : decode cX8_restore 30 = .ok (.aload_n 0, 1) := by decide +kernel
theorem dX8_restore_31 : decode cX8_restore 31 = .ok (.getfield 32, 3) := by decide +kernel
theorem dX8_restore_34 : decode cX8_restore 34 = .ok (.iload_n 1, 1) := by decide +kernel
theorem dX8_restore_35 : decode cX8_restore 35 = .ok (.aaload, 1) := by decide +kernel
theorem dX8_restore_36 : decode cX8_restore 36 = .ok (.invokevirtual 122, 3) := by decide +kernel
theorem dX8_restore_39 : decode cX8_restore 39 = .ok (.aload_n 0, 1) := by decide +kernel
theorem dX8_restore_40 : decode cX8_restore 40 = .ok (.getfield 39, 3) := by decide +kernel
theorem dX8_restore_43 : decode cX8_restore 43 = .ok (.invokevirtual 126, 3) := by decide +kernel
theorem dX8_restore_46 : decode cX8_restore 46 = .ok (.iconst 1, 1) := by decide +kernel
theorem dX8_restore_47 : decode cX8_restore 47 = .ok (.ireturn, 1) := by decide +kernel
theorem dX8_kind_0 : decode cX8_kind 0 = .ok (.aload_n 0, 1) := by decide +kernel
theorem dX8_kind_1 : decode cX8_kind 1 = .ok (.iload_n 1, 1) := by decide +kernel
theorem dX8_kind_2 : decode cX8_kind 2 = .ok (.invokevirtual 162, 3) := by decide +kernel
theorem dX8_kind_5 : decode cX8_kind 5 = .ok (.ifCond .eq 18, 3) := by decide +kernel
theorem dX8_kind_8 : decode cX8_kind 8 = .ok (.aload_n 0, 1) := by decide +kernel
theorem dX8_kind_9 : decode cX8_kind 9 = .ok (.getfield 25, 3) := by decide +kernel
theorem dX8_kind_12 : decode cX8_kind 12 = .ok (.getfield 129, 3) := by decide +kernel
theorem dX8_kind_15 : decode cX8_kind 15 = .ok (.getfield 286, 3) := by decide +kernel
theorem dX8_kind_18 : decode cX8_kind 18 = .ok (.iload_n 1, 1) := by decide +kernel
theorem dX8_kind_19 : decode cX8_kind 19 = .ok (.iaload, 1) := by decide +kernel
theorem dX8_kind_20 : decode cX8_kind 20 = .ok (.goto 5, 3) := by decide +kernel
theorem dX8_kind_23 : decode cX8_kind 23 = .ok (.ldc 70, 2) := by decide +kernel
theorem dX8_kind_25 : decode cX8_kind 25 = .ok (.ireturn, 1) := by decide +kernel
theorem dX8_as_0 : decode cX8_as 0 = .ok (.aload_n 0, 1) := by decide +kernel
theorem dX8_as_1 : decode cX8_as 1 = .ok (.iload_n 1, 1) := by decide +kernel
theorem dX8_as_2 : decode cX8_as 2 = .ok (.invokevirtual 162, 3) := by decide +kernel
theorem dX8_as_5 : decode cX8_as 5 = .ok (.ifCond .eq 11, 3) := by decide +kernel
theorem dX8_as_8 : decode cX8_as 8 = .ok (.iload_n 2, 1) := by decide +kernel
theorem dX8_as_9 : decode cX8_as 9 = .ok (.iconst 5, 1) := by decide +kernel
theorem dX8_as_10 : decode cX8_as 10 = .ok (.invokestatic 66, 3) := by decide +kernel
theorem dX8_as_13 : decode cX8_as 13 = .ok (.ifCond .ne 6, 3) := by decide +kernel
theorem dX8_as_16 : decode cX8_as 16 = .ok (.ldc 70, 2) := by decide +kernel
theorem dX8_as_18 : decode cX8_as 18 = .ok (.ireturn, 1) := by decide +kernel
theorem dX8_as_19 : decode cX8_as 19 = .ok (.aload_n 0, 1) := by decide +kernel
theorem dX8_as_20 : decode cX8_as 20 = .ok (.getfield 25, 3) := by decide +kernel
theorem dX8_as_23 : decode cX8_as 23 = .ok (.getfield 129, 3) := by decide +kernel
theorem dX8_as_26 : decode cX8_as 26 = .ok (.getfield 286, 3) := by decide +kernel
theorem dX8_as_29 : decode cX8_as 29 = .ok (.iload_n 1, 1) := by decide +kernel
theorem dX8_as_30 : decode cX8_as 30 = .ok (.iaload, 1) := by decide +kernel
theorem dX8_as_31 : decode cX8_as 31 = .ok (.iload_n 2, 1) := by decide +kernel
theorem dX8_as_32 : decode cX8_as 32 = .ok (.invokestatic 289, 3) := by decide +kernel
theorem dX8_as_35 : decode cX8_as 35 = .ok (.ifCond .eq 11, 3) := by decide +kernel
theorem dX8_as_38 : decode cX8_as 38 = .ok (.aload_n 0, 1) := by decide +kernel
theorem dX8_as_39 : decode cX8_as 39 = .ok (.iload_n 1, 1) := by decide +kernel
theorem dX8_as_40 : decode cX8_as 40 = .ok (.invokevirtual 79, 3) := by decide +kernel
theorem dX8_as_43 : decode cX8_as 43 = .ok (.goto 8, 3) := by decide +kernel
theorem dX8_as_46 : decode cX8_as 46 = .ok (.aload_n 0, 1) := by decide +kernel
theorem dX8_as_47 : decode cX8_as 47 = .ok (.iconst 3, 1) := by decide +kernel
theorem dX8_as_48 : decode cX8_as 48 = .ok (.invokevirtual 71, 3) := by decide +kernel
theorem dX8_as_51 : decode cX8_as 51 = .ok (.ireturn, 1) := by decide +kernel
theorem dX8_ask_0 : decode cX8_ask 0 = .ok (.aload_n 0, 1) := by decide +kernel
theorem dX8_ask_1 : decode cX8_ask 1 = .ok (.iload_n 1, 1) := by decide +kernel
theorem dX8_ask_2 : decode cX8_ask 2 = .ok (.invokevirtual 162, 3) := by decide +kernel
theorem dX8_ask_5 : decode cX8_ask 5 = .ok (.ifCond .eq 11, 3) := by decide +kernel
theorem dX8_ask_8 : decode cX8_ask 8 = .ok (.iload_n 2, 1) := by decide +kernel
theorem dX8_ask_9 : decode cX8_ask 9 = .ok (.iconst 1, 1) := by decide +kernel
theorem dX8_ask_10 : decode cX8_ask 10 = .ok (.invokestatic 66, 3) := by decide +kernel
theorem dX8_ask_13 : decode cX8_ask 13 = .ok (.ifCond .ne 6, 3) := by decide +kernel
theorem dX8_ask_16 : decode cX8_ask 16 = .ok (.ldc 70, 2) := by decide +kernel
theorem dX8_ask_18 : decode cX8_ask 18 = .ok (.ireturn, 1) := by decide +kernel
theorem dX8_ask_19 : decode cX8_ask 19 = .ok (.aload_n 0, 1) := by decide +kernel
theorem dX8_ask_20 : decode cX8_ask 20 = .ok (.getfield 53, 3) := by decide +kernel
theorem dX8_ask_23 : decode cX8_ask 23 = .ok (.aload_n 0, 1) := by decide +kernel
theorem dX8_ask_24 : decode cX8_ask 24 = .ok (.getfield 25, 3) := by decide +kernel
theorem dX8_ask_27 : decode cX8_ask 27 = .ok (.iload_n 1, 1) := by decide +kernel
theorem dX8_ask_28 : decode cX8_ask 28 = .ok (.invokevirtual 292, 3) := by decide +kernel
theorem dX8_ask_31 : decode cX8_ask 31 = .ok (.aload_n 0, 1) := by decide +kernel
theorem dX8_ask_32 : decode cX8_ask 32 = .ok (.getfield 25, 3) := by decide +kernel
theorem dX8_ask_35 : decode cX8_ask 35 = .ok (.getfield 129, 3) := by decide +kernel
theorem dX8_ask_38 : decode cX8_ask 38 = .ok (.getfield 286, 3) := by decide +kernel
theorem dX8_ask_41 : decode cX8_ask 41 = .ok (.iload_n 1, 1) := by decide +kernel
theorem dX8_ask_42 : decode cX8_ask 42 = .ok (.iaload, 1) := by decide +kernel
theorem dX8_ask_43 : decode cX8_ask 43 = .ok (.istore_n 3, 1) := by decide +kernel
theorem dX8_ask_44 : decode cX8_ask 44 = .ok (.iload_n 2, 1) := by decide +kernel
theorem dX8_ask_45 : decode cX8_ask 45 = .ok (.ifCond .ne 15, 3) := by decide +kernel
theorem dX8_ask_48 : decode cX8_ask 48 = .ok (.aload_n 0, 1) := by decide +kernel
theorem dX8_ask_49 : decode cX8_ask 49 = .ok (.getfield 53, 3) := by decide +kernel
theorem dX8_ask_52 : decode cX8_ask 52 = .ok (.iload_n 3, 1) := by decide +kernel
theorem dX8_ask_53 : decode cX8_ask 53 = .ok (.iconst 0, 1) := by decide +kernel
theorem dX8_ask_54 : decode cX8_ask 54 = .ok (.invokevirtual 295, 3) := by decide +kernel
theorem dX8_ask_57 : decode cX8_ask 57 = .ok (.goto 12, 3) := by decide +kernel
theorem dX8_ask_60 : decode cX8_ask 60 = .ok (.aload_n 0, 1) := by decide +kernel
theorem dX8_ask_61 : decode cX8_ask 61 = .ok (.getfield 53, 3) := by decide +kernel
theorem dX8_ask_64 : decode cX8_ask 64 = .ok (.iload_n 3, 1) := by decide +kernel
theorem dX8_ask_65 : decode cX8_ask 65 = .ok (.iconst 0, 1) := by decide +kernel
theorem dX8_ask_66 : decode cX8_ask 66 = .ok (.invokevirtual 298, 3) := by decide +kernel
theorem dX8_ask_69 : decode cX8_ask 69 = .ok (.ireturn, 1) := by decide +kernel
theorem dX8_trace_0 : decode cX8_trace 0 = .ok (.iload_n 1, 1) := by decide +kernel
theorem dX8_trace_1 : decode cX8_trace 1 = .ok (.ifCond .lt 26, 3) := by decide +kernel
theorem dX8_trace_4 : decode cX8_trace 4 = .ok (.iload_n 1, 1) := by decide +kernel
theorem dX8_trace_5 : decode cX8_trace 5 = .ok (.aload_n 0, 1) := by decide +kernel
theorem dX8_trace_6 : decode cX8_trace 6 = .ok (.getfield 53, 3) := by decide +kernel
theorem dX8_trace_9 : decode cX8_trace 9 = .ok (.getfield 301, 3) := by decide +kernel
theorem dX8_trace_12 : decode cX8_trace 12 = .ok (.if_icmp .ge 15, 3) := by decide +kernel
theorem dX8_trace_15 : decode cX8_trace 15 = .ok (.aload_n 0, 1) := by decide +kernel
theorem dX8_trace_16 : decode cX8_trace 16 = .ok (.getfield 53, 3) := by decide +kernel
theorem dX8_trace_19 : decode cX8_trace 19 = .ok (.getfield 302, 3) := by decide +kernel
theorem dX8_trace_22 : decode cX8_trace 22 = .ok (.iload_n 1, 1) := by decide +kernel
theorem dX8_trace_23 : decode cX8_trace 23 = .ok (.iaload, 1) := by decide +kernel
theorem dX8_trace_24 : decode cX8_trace 24 = .ok (.goto 5, 3) := by decide +kernel
theorem dX8_trace_27 : decode cX8_trace 27 = .ok (.ldc 222, 2) := by decide +kernel
theorem dX8_trace_29 : decode cX8_trace 29 = .ok (.ireturn, 1) := by decide +kernel
theorem dX8_count_0 : decode cX8_count 0 = .ok (.iload_n 1, 1) := by decide +kernel
theorem dX8_count_1 : decode cX8_count 1 = .ok (.tableswitch 123 0 7 #[47, 52, 63, 74, 85, 96, 107, 115], 47) := by decide +kernel
theorem dX8_count_48 : decode cX8_count 48 = .ok (.aload_n 0, 1) := by decide +kernel
theorem dX8_count_49 : decode cX8_count 49 = .ok (.invokevirtual 305, 3) := by decide +kernel
theorem dX8_count_52 : decode cX8_count 52 = .ok (.ireturn, 1) := by decide +kernel
theorem dX8_count_53 : decode cX8_count 53 = .ok (.aload_n 0, 1) := by decide +kernel
theorem dX8_count_54 : decode cX8_count 54 = .ok (.getfield 25, 3) := by decide +kernel
theorem dX8_count_57 : decode cX8_count 57 = .ok (.getfield 129, 3) := by decide +kernel
theorem dX8_count_60 : decode cX8_count 60 = .ok (.getfield 204, 3) := by decide +kernel
theorem dX8_count_63 : decode cX8_count 63 = .ok (.ireturn, 1) := by decide +kernel
theorem dX8_count_64 : decode cX8_count 64 = .ok (.aload_n 0, 1) := by decide +kernel
theorem dX8_count_65 : decode cX8_count 65 = .ok (.getfield 25, 3) := by decide +kernel
theorem dX8_count_68 : decode cX8_count 68 = .ok (.getfield 129, 3) := by decide +kernel
theorem dX8_count_71 : decode cX8_count 71 = .ok (.getfield 133, 3) := by decide +kernel
theorem dX8_count_74 : decode cX8_count 74 = .ok (.ireturn, 1) := by decide +kernel
theorem dX8_count_75 : decode cX8_count 75 = .ok (.aload_n 0, 1) := by decide +kernel
theorem dX8_count_76 : decode cX8_count 76 = .ok (.getfield 25, 3) := by decide +kernel
theorem dX8_count_79 : decode cX8_count 79 = .ok (.getfield 146, 3) := by decide +kernel
theorem dX8_count_82 : decode cX8_count 82 = .ok (.getfield 184, 3) := by decide +kernel
theorem dX8_count_85 : decode cX8_count 85 = .ok (.ireturn, 1) := by decide +kernel
theorem dX8_count_86 : decode cX8_count 86 = .ok (.aload_n 0, 1) := by decide +kernel
theorem dX8_count_87 : decode cX8_count 87 = .ok (.getfield 25, 3) := by decide +kernel
theorem dX8_count_90 : decode cX8_count 90 = .ok (.getfield 146, 3) := by decide +kernel
theorem dX8_count_93 : decode cX8_count 93 = .ok (.getfield 157, 3) := by decide +kernel
theorem dX8_count_96 : decode cX8_count 96 = .ok (.ireturn, 1) := by decide +kernel
theorem dX8_count_97 : decode cX8_count 97 = .ok (.aload_n 0, 1) := by decide +kernel
theorem dX8_count_98 : decode cX8_count 98 = .ok (.getfield 25, 3) := by decide +kernel
theorem dX8_count_101 : decode cX8_count 101 = .ok (.getfield 146, 3) := by decide +kernel
theorem dX8_count_104 : decode cX8_count 104 = .ok (.getfield 308, 3) := by decide +kernel
theorem dX8_count_107 : decode cX8_count 107 = .ok (.ireturn, 1) := by decide +kernel
theorem dX8_count_108 : decode cX8_count 108 = .ok (.aload_n 0, 1) := by decide +kernel
theorem dX8_count_109 : decode cX8_count 109 = .ok (.getfield 39, 3) := by decide +kernel
theorem dX8_count_112 : decode cX8_count 112 = .ok (.getfield 191, 3) := by decide +kernel
theorem dX8_count_115 : decode cX8_count 115 = .ok (.ireturn, 1) := by decide +kernel
theorem dX8_count_116 : decode cX8_count 116 = .ok (.aload_n 0, 1) := by decide +kernel
theorem dX8_count_117 : decode cX8_count 117 = .ok (.getfield 18, 3) := by decide +kernel
theorem dX8_count_120 : decode cX8_count 120 = .ok (.getfield 112, 3) := by decide +kernel
theorem dX8_count_123 : decode cX8_count 123 = .ok (.ireturn, 1) := by decide +kernel
theorem dX8_count_124 : decode cX8_count 124 = .ok (.ldc 70, 2) := by decide +kernel
theorem dX8_count_126 : decode cX8_count 126 = .ok (.ireturn, 1) := by decide +kernel
theorem dX8_status_0 : decode cX8_status 0 = .ok (.aload_n 0, 1) := by decide +kernel
theorem dX8_status_1 : decode cX8_status 1 = .ok (.getfield 57, 3) := by decide +kernel
theorem dX8_status_4 : decode cX8_status 4 = .ok (.ireturn, 1) := by decide +kernel
theorem dX8_found_0 : decode cX8_found 0 = .ok (.aload_n 0, 1) := by decide +kernel
theorem dX8_found_1 : decode cX8_found 1 = .ok (.iload_n 1, 1) := by decide +kernel
theorem dX8_found_2 : decode cX8_found 2 = .ok (.putfield 57, 3) := by decide +kernel
theorem dX8_found_5 : decode cX8_found 5 = .ok (.ldc_w 311, 3) := by decide +kernel
theorem dX8_found_8 : decode cX8_found 8 = .ok (.iload_n 1, 1) := by decide +kernel
theorem dX8_found_9 : decode cX8_found 9 = .ok (.isub, 1) := by decide +kernel
theorem dX8_found_10 : decode cX8_found 10 = .ok (.ireturn, 1) := by decide +kernel
theorem dX8_well_0 : decode cX8_well 0 = .ok (.aload_n 0, 1) := by decide +kernel
theorem dX8_well_1 : decode cX8_well 1 = .ok (.iconst 0, 1) := by decide +kernel
theorem dX8_well_2 : decode cX8_well 2 = .ok (.putfield 57, 3) := by decide +kernel
theorem dX8_well_5 : decode cX8_well 5 = .ok (.iload_n 1, 1) := by decide +kernel
theorem dX8_well_6 : decode cX8_well 6 = .ok (.ireturn, 1) := by decide +kernel
theorem dX8_isWithin_0 : decode cX8_isWithin 0 = .ok (.iload_n 0, 1) := by decide +kernel
theorem dX8_isWithin_1 : decode cX8_isWithin 1 = .ok (.ifCond .lt 12, 3) := by decide +kernel
theorem dX8_isWithin_4 : decode cX8_isWithin 4 = .ok (.iload_n 0, 1) := by decide +kernel
theorem dX8_isWithin_5 : decode cX8_isWithin 5 = .ok (.iload_n 1, 1) := by decide +kernel
theorem dX8_isWithin_6 : decode cX8_isWithin 6 = .ok (.if_icmp .gt 7, 3) := by decide +kernel
theorem dX8_isWithin_9 : decode cX8_isWithin 9 = .ok (.iconst 1, 1) := by decide +kernel
theorem dX8_isWithin_10 : decode cX8_isWithin 10 = .ok (.goto 4, 3) := by decide +kernel
theorem dX8_isWithin_13 : decode cX8_isWithin 13 = .ok (.iconst 0, 1) := by decide +kernel
theorem dX8_isWithin_14 : decode cX8_isWithin 14 = .ok (.ireturn, 1) := by decide +kernel
theorem dX8_isRow_0 : decode cX8_isRow 0 = .ok (.iload_n 0, 1) := by decide +kernel
theorem dX8_isRow_1 : decode cX8_isRow 1 = .ok (.bipush 7, 2) := by decide +kernel
theorem dX8_isRow_3 : decode cX8_isRow 3 = .ok (.invokestatic 66, 3) := by decide +kernel
theorem dX8_isRow_6 : decode cX8_isRow 6 = .ok (.ireturn, 1) := by decide +kernel
theorem dX8_isBird_0 : decode cX8_isBird 0 = .ok (.iload_n 1, 1) := by decide +kernel
theorem dX8_isBird_1 : decode cX8_isBird 1 = .ok (.ifCond .lt 21, 3) := by decide +kernel
theorem dX8_isBird_4 : decode cX8_isBird 4 = .ok (.iload_n 1, 1) := by decide +kernel
theorem dX8_isBird_5 : decode cX8_isBird 5 = .ok (.aload_n 0, 1) := by decide +kernel
theorem dX8_isBird_6 : decode cX8_isBird 6 = .ok (.getfield 25, 3) := by decide +kernel
theorem dX8_isBird_9 : decode cX8_isBird 9 = .ok (.getfield 129, 3) := by decide +kernel
theorem dX8_isBird_12 : decode cX8_isBird 12 = .ok (.getfield 133, 3) := by decide +kernel
theorem dX8_isBird_15 : decode cX8_isBird 15 = .ok (.if_icmp .ge 7, 3) := by decide +kernel
theorem dX8_isBird_18 : decode cX8_isBird 18 = .ok (.iconst 1, 1) := by decide +kernel
theorem dX8_isBird_19 : decode cX8_isBird 19 = .ok (.goto 4, 3) := by decide +kernel
theorem dX8_isBird_22 : decode cX8_isBird 22 = .ok (.iconst 0, 1) := by decide +kernel
theorem dX8_isBird_23 : decode cX8_isBird 23 = .ok (.ireturn, 1) := by decide +kernel
theorem dX8_mayCome_0 : decode cX8_mayCome 0 = .ok (.iload_n 1, 1) := by decide +kernel
theorem dX8_mayCome_1 : decode cX8_mayCome 1 = .ok (.iconst 1, 1) := by decide +kernel
theorem dX8_mayCome_2 : decode cX8_mayCome 2 = .ok (.if_icmp .lt 18, 3) := by decide +kernel
theorem dX8_mayCome_5 : decode cX8_mayCome 5 = .ok (.iload_n 1, 1) := by decide +kernel
theorem dX8_mayCome_6 : decode cX8_mayCome 6 = .ok (.aload_n 0, 1) := by decide +kernel
theorem dX8_mayCome_7 : decode cX8_mayCome 7 = .ok (.getfield 25, 3) := by decide +kernel
theorem dX8_mayCome_10 : decode cX8_mayCome 10 = .ok (.invokevirtual 141, 3) := by decide +kernel
theorem dX8_mayCome_13 : decode cX8_mayCome 13 = .ok (.if_icmp .gt 7, 3) := by decide +kernel
theorem dX8_mayCome_16 : decode cX8_mayCome 16 = .ok (.iconst 1, 1) := by decide +kernel
theorem dX8_mayCome_17 : decode cX8_mayCome 17 = .ok (.goto 4, 3) := by decide +kernel
theorem dX8_mayCome_20 : decode cX8_mayCome 20 = .ok (.iconst 0, 1) := by decide +kernel
theorem dX8_mayCome_21 : decode cX8_mayCome 21 = .ok (.ireturn, 1) := by decide +kernel
theorem dX8_bitOf_0 : decode cX8_bitOf 0 = .ok (.iload_n 0, 1) := by decide +kernel
theorem dX8_bitOf_1 : decode cX8_bitOf 1 = .ok (.iload_n 1, 1) := by decide +kernel
theorem dX8_bitOf_2 : decode cX8_bitOf 2 = .ok (.ishr, 1) := by decide +kernel
theorem dX8_bitOf_3 : decode cX8_bitOf 3 = .ok (.iconst 1, 1) := by decide +kernel
theorem dX8_bitOf_4 : decode cX8_bitOf 4 = .ok (.iand, 1) := by decide +kernel
theorem dX8_bitOf_5 : decode cX8_bitOf 5 = .ok (.ireturn, 1) := by decide +kernel
theorem dX8_exchange_0 : decode cX8_exchange 0 = .ok (.aload_n 0, 1) := by decide +kernel
theorem dX8_exchange_1 : decode cX8_exchange 1 = .ok (.iload_n 1, 1) := by decide +kernel
theorem dX8_exchange_2 : decode cX8_exchange 2 = .ok (.iaload, 1) := by decide +kernel
theorem dX8_exchange_3 : decode cX8_exchange 3 = .ok (.istore_n 3, 1) := by decide +kernel
theorem dX8_exchange_4 : decode cX8_exchange 4 = .ok (.aload_n 0, 1) := by decide +kernel
theorem dX8_exchange_5 : decode cX8_exchange 5 = .ok (.iload_n 1, 1) := by decide +kernel
theorem dX8_exchange_6 : decode cX8_exchange 6 = .ok (.aload_n 0, 1) := by decide +kernel
theorem dX8_exchange_7 : decode cX8_exchange 7 = .ok (.iload_n 2, 1) := by decide +kernel
theorem dX8_exchange_8 : decode cX8_exchange 8 = .ok (.iaload, 1) := by decide +kernel
theorem dX8_exchange_9 : decode cX8_exchange 9 = .ok (.iastore, 1) := by decide +kernel
theorem dX8_exchange_10 : decode cX8_exchange 10 = .ok (.aload_n 0, 1) := by decide +kernel
theorem dX8_exchange_11 : decode cX8_exchange 11 = .ok (.iload_n 2, 1) := by decide +kernel
theorem dX8_exchange_12 : decode cX8_exchange 12 = .ok (.iload_n 3, 1) := by decide +kernel
theorem dX8_exchange_13 : decode cX8_exchange 13 = .ok (.iastore, 1) := by decide +kernel
theorem dX8_exchange_14 : decode cX8_exchange 14 = .ok (.return_, 1) := by decide +kernel
theorem dX8_rowsThere_0 : decode cX8_rowsThere 0 = .ok (.iconst 0, 1) := by decide +kernel
theorem dX8_rowsThere_1 : decode cX8_rowsThere 1 = .ok (.istore_n 1, 1) := by decide +kernel
theorem dX8_rowsThere_2 : decode cX8_rowsThere 2 = .ok (.iconst 0, 1) := by decide +kernel
theorem dX8_rowsThere_3 : decode cX8_rowsThere 3 = .ok (.istore_n 2, 1) := by decide +kernel
theorem dX8_rowsThere_4 : decode cX8_rowsThere 4 = .ok (.iload_n 2, 1) := by decide +kernel
theorem dX8_rowsThere_5 : decode cX8_rowsThere 5 = .ok (.bipush 8, 2) := by decide +kernel
theorem dX8_rowsThere_7 : decode cX8_rowsThere 7 = .ok (.if_icmp .ge 29, 3) := by decide +kernel
theorem dX8_rowsThere_10 : decode cX8_rowsThere 10 = .ok (.iload_n 1, 1) := by decide +kernel
theorem dX8_rowsThere_11 : decode cX8_rowsThere 11 = .ok (.aload_n 0, 1) := by decide +kernel
theorem dX8_rowsThere_12 : decode cX8_rowsThere 12 = .ok (.getfield 11, 3) := by decide +kernel
theorem dX8_rowsThere_15 : decode cX8_rowsThere 15 = .ok (.iload_n 2, 1) := by decide +kernel
theorem dX8_rowsThere_16 : decode cX8_rowsThere 16 = .ok (.aaload, 1) := by decide +kernel
theorem dX8_rowsThere_17 : decode cX8_rowsThere 17 = .ok (.getfield 82, 3) := by decide +kernel
theorem dX8_rowsThere_20 : decode cX8_rowsThere 20 = .ok (.ifCond .eq 7, 3) := by decide +kernel
theorem dX8_rowsThere_23 : decode cX8_rowsThere 23 = .ok (.iconst 1, 1) := by decide +kernel
theorem dX8_rowsThere_24 : decode cX8_rowsThere 24 = .ok (.goto 4, 3) := by decide +kernel
theorem dX8_rowsThere_27 : decode cX8_rowsThere 27 = .ok (.iconst 0, 1) := by decide +kernel
theorem dX8_rowsThere_28 : decode cX8_rowsThere 28 = .ok (.iadd, 1) := by decide +kernel
theorem dX8_rowsThere_29 : decode cX8_rowsThere 29 = .ok (.istore_n 1, 1) := by decide +kernel
theorem dX8_rowsThere_30 : decode cX8_rowsThere 30 = .ok (.iinc 2 1, 3) := by decide +kernel
theorem dX8_rowsThere_33 : decode cX8_rowsThere 33 = .ok (.goto (-29), 3) := by decide +kernel
theorem dX8_rowsThere_36 : decode cX8_rowsThere 36 = .ok (.iload_n 1, 1) := by decide +kernel
theorem dX8_rowsThere_37 : decode cX8_rowsThere 37 = .ok (.ireturn, 1) := by decide +kernel
theorem dX8_isOfKind_0 : decode cX8_isOfKind 0 = .ok (.iload_n 0, 1) := by decide +kernel
theorem dX8_isOfKind_1 : decode cX8_isOfKind 1 = .ok (.istore_n 2, 1) := by decide +kernel
theorem dX8_isOfKind_2 : decode cX8_isOfKind 2 = .ok (.iconst 0, 1) := by decide +kernel
theorem dX8_isOfKind_3 : decode cX8_isOfKind 3 = .ok (.istore_n 3, 1) := by decide +kernel
theorem dX8_isOfKind_4 : decode cX8_isOfKind 4 = .ok (.iload_n 3, 1) := by decide +kernel
theorem dX8_isOfKind_5 : decode cX8_isOfKind 5 = .ok (.getstatic 312, 3) := by decide +kernel
theorem dX8_isOfKind_8 : decode cX8_isOfKind 8 = .ok (.arraylength, 1) := by decide +kernel
theorem dX8_isOfKind_9 : decode cX8_isOfKind 9 = .ok (.if_icmp .ge 22, 3) := by decide +kernel
theorem dX8_isOfKind_12 : decode cX8_isOfKind 12 = .ok (.iload_n 2, 1) := by decide +kernel
theorem dX8_isOfKind_13 : decode cX8_isOfKind 13 = .ok (.iload_n 1, 1) := by decide +kernel
theorem dX8_isOfKind_14 : decode cX8_isOfKind 14 = .ok (.if_icmp .ne 5, 3) := by decide +kernel
theorem dX8_isOfKind_17 : decode cX8_isOfKind 17 = .ok (.iconst 1, 1) := by decide +kernel
theorem dX8_isOfKind_18 : decode cX8_isOfKind 18 = .ok (.ireturn, 1) := by decide +kernel
theorem dX8_isOfKind_19 : decode cX8_isOfKind 19 = .ok (.getstatic 312, 3) := by decide +kernel
theorem dX8_isOfKind_22 : decode cX8_isOfKind 22 = .ok (.iload_n 2, 1) := by decide +kernel
theorem dX8_isOfKind_23 : decode cX8_isOfKind 23 = .ok (.iaload, 1) := by decide +kernel
theorem dX8_isOfKind_24 : decode cX8_isOfKind 24 = .ok (.istore_n 2, 1) := by decide +kernel
theorem dX8_isOfKind_25 : decode cX8_isOfKind 25 = .ok (.iinc 3 1, 3) := by decide +kernel
theorem dX8_isOfKind_28 : decode cX8_isOfKind 28 = .ok (.goto (-24), 3) := by decide +kernel
theorem dX8_isOfKind_31 : decode cX8_isOfKind 31 = .ok (.iconst 0, 1) := by decide +kernel
theorem dX8_isOfKind_32 : decode cX8_isOfKind 32 = .ok (.ireturn, 1) := by decide +kernel
theorem dX8_seekOrder_0 : decode cX8_seekOrder 0 = .ok (.aload_n 0, 1) := by decide +kernel
theorem dX8_seekOrder_1 : decode cX8_seekOrder 1 = .ok (.getfield 46, 3) := by decide +kernel
theorem dX8_seekOrder_4 : decode cX8_seekOrder 4 = .ok (.aload_n 0, 1) := by decide +kernel
theorem dX8_seekOrder_5 : decode cX8_seekOrder 5 = .ok (.getfield 25, 3) := by decide +kernel
theorem dX8_seekOrder_8 : decode cX8_seekOrder 8 = .ok (.getfield 146, 3) := by decide +kernel
theorem dX8_seekOrder_11 : decode cX8_seekOrder 11 = .ok (.getfield 181, 3) := by decide +kernel
theorem dX8_seekOrder_14 : decode cX8_seekOrder 14 = .ok (.aload_n 0, 1) := by decide +kernel
theorem dX8_seekOrder_15 : decode cX8_seekOrder 15 = .ok (.getfield 25, 3) := by decide +kernel
theorem dX8_seekOrder_18 : decode cX8_seekOrder 18 = .ok (.getfield 146, 3) := by decide +kernel
theorem dX8_seekOrder_21 : decode cX8_seekOrder 21 = .ok (.getfield 184, 3) := by decide +kernel
theorem dX8_seekOrder_24 : decode cX8_seekOrder 24 = .ok (.aload_n 0, 1) := by decide +kernel
theorem dX8_seekOrder_25 : decode cX8_seekOrder 25 = .ok (.getfield 25, 3) := by decide +kernel
theorem dX8_seekOrder_28 : decode cX8_seekOrder 28 = .ok (.invokevirtual 141, 3) := by decide +kernel
theorem dX8_seekOrder_31 : decode cX8_seekOrder 31 = .ok (.invokevirtual 315, 3) := by decide +kernel
theorem dX8_seekOrder_34 : decode cX8_seekOrder 34 = .ok (.iconst 0, 1) := by decide +kernel
theorem dX8_seekOrder_35 : decode cX8_seekOrder 35 = .ok (.istore_n 1, 1) := by decide +kernel
theorem dX8_seekOrder_36 : decode cX8_seekOrder 36 = .ok (.iload_n 1, 1) := by decide +kernel
theorem dX8_seekOrder_37 : decode cX8_seekOrder 37 = .ok (.bipush 120, 2) := by decide +kernel
theorem dX8_seekOrder_39 : decode cX8_seekOrder 39 = .ok (.if_icmp .ge 75, 3) := by decide +kernel
theorem dX8_seekOrder_42 : decode cX8_seekOrder 42 = .ok (.aload_n 0, 1) := by decide +kernel
theorem dX8_seekOrder_43 : decode cX8_seekOrder 43 = .ok (.getfield 29, 3) := by decide +kernel
theorem dX8_seekOrder_46 : decode cX8_seekOrder 46 = .ok (.aload_n 0, 1) := by decide +kernel
theorem dX8_seekOrder_47 : decode cX8_seekOrder 47 = .ok (.getfield 25, 3) := by decide +kernel
theorem dX8_seekOrder_50 : decode cX8_seekOrder 50 = .ok (.invokevirtual 122, 3) := by decide +kernel
theorem dX8_seekOrder_53 : decode cX8_seekOrder 53 = .ok (.aload_n 0, 1) := by decide +kernel
theorem dX8_seekOrder_54 : decode cX8_seekOrder 54 = .ok (.getfield 46, 3) := by decide +kernel
theorem dX8_seekOrder_57 : decode cX8_seekOrder 57 = .ok (.aload_n 0, 1) := by decide +kernel
theorem dX8_seekOrder_58 : decode cX8_seekOrder 58 = .ok (.getfield 29, 3) := by decide +kernel
theorem dX8_seekOrder_61 : decode cX8_seekOrder 61 = .ok (.getfield 146, 3) := by decide +kernel
theorem dX8_seekOrder_64 : decode cX8_seekOrder 64 = .ok (.getfield 181, 3) := by decide +kernel
theorem dX8_seekOrder_67 : decode cX8_seekOrder 67 = .ok (.aload_n 0, 1) := by decide +kernel
theorem dX8_seekOrder_68 : decode cX8_seekOrder 68 = .ok (.getfield 25, 3) := by decide +kernel
theorem dX8_seekOrder_71 : decode cX8_seekOrder 71 = .ok (.getfield 146, 3) := by decide +kernel
theorem dX8_seekOrder_74 : decode cX8_seekOrder 74 = .ok (.getfield 184, 3) := by decide +kernel
theorem dX8_seekOrder_77 : decode cX8_seekOrder 77 = .ok (.invokevirtual 317, 3) := by decide +kernel
theorem dX8_seekOrder_80 : decode cX8_seekOrder 80 = .ok (.aload_n 0, 1) := by decide +kernel
theorem dX8_seekOrder_81 : decode cX8_seekOrder 81 = .ok (.getfield 46, 3) := by decide +kernel
theorem dX8_seekOrder_84 : decode cX8_seekOrder 84 = .ok (.aload_n 0, 1) := by decide +kernel
theorem dX8_seekOrder_85 : decode cX8_seekOrder 85 = .ok (.getfield 29, 3) := by decide +kernel
theorem dX8_seekOrder_88 : decode cX8_seekOrder 88 = .ok (.invokevirtual 219, 3) := by decide +kernel
theorem dX8_seekOrder_91 : decode cX8_seekOrder 91 = .ok (.invokestatic 237, 3) := by decide +kernel
theorem dX8_seekOrder_94 : decode cX8_seekOrder 94 = .ok (.invokevirtual 321, 3) := by decide +kernel
theorem dX8_seekOrder_97 : decode cX8_seekOrder 97 = .ok (.aload_n 0, 1) := by decide +kernel
theorem dX8_seekOrder_98 : decode cX8_seekOrder 98 = .ok (.getfield 46, 3) := by decide +kernel
theorem dX8_seekOrder_101 : decode cX8_seekOrder 101 = .ok (.invokevirtual 324, 3) := by decide +kernel
theorem dX8_seekOrder_104 : decode cX8_seekOrder 104 = .ok (.ifCond .ne 4, 3) := by decide +kernel
theorem dX8_seekOrder_107 : decode cX8_seekOrder 107 = .ok (.return_, 1) := by decide +kernel
theorem dX8_seekOrder_108 : decode cX8_seekOrder 108 = .ok (.iinc 1 1, 3) := by decide +kernel
theorem dX8_seekOrder_111 : decode cX8_seekOrder 111 = .ok (.goto (-75), 3) := by decide +kernel
theorem dX8_seekOrder_114 : decode cX8_seekOrder 114 = .ok (.return_, 1) := by decide +kernel
theorem dX8_fewestToKeep_0 : decode cX8_fewestToKeep 0 = .ok (.aload_n 0, 1) := by decide +kernel
theorem dX8_fewestToKeep_1 : decode cX8_fewestToKeep 1 = .ok (.getfield 25, 3) := by decide +kernel
theorem dX8_fewestToKeep_4 : decode cX8_fewestToKeep 4 = .ok (.getfield 146, 3) := by decide +kernel
theorem dX8_fewestToKeep_7 : decode cX8_fewestToKeep 7 = .ok (.getfield 157, 3) := by decide +kernel
theorem dX8_fewestToKeep_10 : decode cX8_fewestToKeep 10 = .ok (.aload_n 0, 1) := by decide +kernel
theorem dX8_fewestToKeep_11 : decode cX8_fewestToKeep 11 = .ok (.getfield 25, 3) := by decide +kernel
theorem dX8_fewestToKeep_14 : decode cX8_fewestToKeep 14 = .ok (.getfield 146, 3) := by decide +kernel
theorem dX8_fewestToKeep_17 : decode cX8_fewestToKeep 17 = .ok (.getfield 172, 3) := by decide +kernel
theorem dX8_fewestToKeep_20 : decode cX8_fewestToKeep 20 = .ok (.iconst (-1), 1) := by decide +kernel
theorem dX8_fewestToKeep_21 : decode cX8_fewestToKeep 21 = .ok (.ixor, 1) := by decide +kernel
theorem dX8_fewestToKeep_22 : decode cX8_fewestToKeep 22 = .ok (.iand, 1) := by decide +kernel
theorem dX8_fewestToKeep_23 : decode cX8_fewestToKeep 23 = .ok (.istore_n 2, 1) := by decide +kernel
theorem dX8_fewestToKeep_24 : decode cX8_fewestToKeep 24 = .ok (.ldc 222, 2) := by decide +kernel
theorem dX8_fewestToKeep_26 : decode cX8_fewestToKeep 26 = .ok (.istore_n 3, 1) := by decide +kernel
theorem dX8_fewestToKeep_27 : decode cX8_fewestToKeep 27 = .ok (.bipush 7, 2) := by decide +kernel
theorem dX8_fewestToKeep_29 : decode cX8_fewestToKeep 29 = .ok (.istore 4, 2) := by decide +kernel
theorem dX8_fewestToKeep_31 : decode cX8_fewestToKeep 31 = .ok (.iconst 0, 1) := by decide +kernel
theorem dX8_fewestToKeep_32 : decode cX8_fewestToKeep 32 = .ok (.istore 5, 2) := by decide +kernel
theorem dX8_fewestToKeep_34 : decode cX8_fewestToKeep 34 = .ok (.iload 5, 2) := by decide +kernel
theorem dX8_fewestToKeep_36 : decode cX8_fewestToKeep 36 = .ok (.iload_n 2, 1) := by decide +kernel
theorem dX8_fewestToKeep_37 : decode cX8_fewestToKeep 37 = .ok (.if_icmp .gt 80, 3) := by decide +kernel
theorem dX8_fewestToKeep_40 : decode cX8_fewestToKeep 40 = .ok (.iload 5, 2) := by decide +kernel
theorem dX8_fewestToKeep_42 : decode cX8_fewestToKeep 42 = .ok (.iload_n 2, 1) := by decide +kernel
theorem dX8_fewestToKeep_43 : decode cX8_fewestToKeep 43 = .ok (.iconst (-1), 1) := by decide +kernel
theorem dX8_fewestToKeep_44 : decode cX8_fewestToKeep 44 = .ok (.ixor, 1) := by decide +kernel
theorem dX8_fewestToKeep_45 : decode cX8_fewestToKeep 45 = .ok (.iand, 1) := by decide +kernel
theorem dX8_fewestToKeep_46 : decode cX8_fewestToKeep 46 = .ok (.ifCond .ne 65, 3) := by decide +kernel
theorem dX8_fewestToKeep_49 : decode cX8_fewestToKeep 49 = .ok (.iload 5, 2) := by decide +kernel
theorem dX8_fewestToKeep_51 : decode cX8_fewestToKeep 51 = .ok (.invokestatic 237, 3) := by decide +kernel
theorem dX8_fewestToKeep_54 : decode cX8_fewestToKeep 54 = .ok (.iload 4, 2) := by decide +kernel
theorem dX8_fewestToKeep_56 : decode cX8_fewestToKeep 56 = .ok (.if_icmp .ge 55, 3) := by decide +kernel
theorem dX8_fewestToKeep_59 : decode cX8_fewestToKeep 59 = .ok (.aload_n 0, 1) := by decide +kernel
theorem dX8_fewestToKeep_60 : decode cX8_fewestToKeep 60 = .ok (.getfield 29, 3) := by decide +kernel
theorem dX8_fewestToKeep_63 : decode cX8_fewestToKeep 63 = .ok (.aload_n 0, 1) := by decide +kernel
theorem dX8_fewestToKeep_64 : decode cX8_fewestToKeep 64 = .ok (.getfield 25, 3) := by decide +kernel
theorem dX8_fewestToKeep_67 : decode cX8_fewestToKeep 67 = .ok (.invokevirtual 122, 3) := by decide +kernel
theorem dX8_fewestToKeep_70 : decode cX8_fewestToKeep 70 = .ok (.aload_n 0, 1) := by decide +kernel
theorem dX8_fewestToKeep_71 : decode cX8_fewestToKeep 71 = .ok (.getfield 29, 3) := by decide +kernel
theorem dX8_fewestToKeep_74 : decode cX8_fewestToKeep 74 = .ok (.getfield 146, 3) := by decide +kernel
theorem dX8_fewestToKeep_77 : decode cX8_fewestToKeep 77 = .ok (.dup, 1) := by decide +kernel
theorem dX8_fewestToKeep_78 : decode cX8_fewestToKeep 78 = .ok (.getfield 172, 3) := by decide +kernel
theorem dX8_fewestToKeep_81 : decode cX8_fewestToKeep 81 = .ok (.iload 5, 2) := by decide +kernel
theorem dX8_fewestToKeep_83 : decode cX8_fewestToKeep 83 = .ok (.ior, 1) := by decide +kernel
theorem dX8_fewestToKeep_84 : decode cX8_fewestToKeep 84 = .ok (.putfield 172, 3) := by decide +kernel
theorem dX8_fewestToKeep_87 : decode cX8_fewestToKeep 87 = .ok (.aload_n 0, 1) := by decide +kernel
theorem dX8_fewestToKeep_88 : decode cX8_fewestToKeep 88 = .ok (.getfield 29, 3) := by decide +kernel
theorem dX8_fewestToKeep_91 : decode cX8_fewestToKeep 91 = .ok (.invokevirtual 219, 3) := by decide +kernel
theorem dX8_fewestToKeep_94 : decode cX8_fewestToKeep 94 = .ok (.invokestatic 237, 3) := by decide +kernel
theorem dX8_fewestToKeep_97 : decode cX8_fewestToKeep 97 = .ok (.iload_n 1, 1) := by decide +kernel
theorem dX8_fewestToKeep_98 : decode cX8_fewestToKeep 98 = .ok (.if_icmp .lt 13, 3) := by decide +kernel
theorem dX8_fewestToKeep_101 : decode cX8_fewestToKeep 101 = .ok (.iload 5, 2) := by decide +kernel
theorem dX8_fewestToKeep_103 : decode cX8_fewestToKeep 103 = .ok (.istore_n 3, 1) := by decide +kernel
theorem dX8_fewestToKeep_104 : decode cX8_fewestToKeep 104 = .ok (.iload 5, 2) := by decide +kernel
theorem dX8_fewestToKeep_106 : decode cX8_fewestToKeep 106 = .ok (.invokestatic 237, 3) := by decide +kernel
theorem dX8_fewestToKeep_109 : decode cX8_fewestToKeep 109 = .ok (.istore 4, 2) := by decide +kernel
theorem dX8_fewestToKeep_111 : decode cX8_fewestToKeep 111 = .ok (.iinc 5 1, 3) := by decide +kernel
theorem dX8_fewestToKeep_114 : decode cX8_fewestToKeep 114 = .ok (.goto (-80), 3) := by decide +kernel
theorem dX8_fewestToKeep_117 : decode cX8_fewestToKeep 117 = .ok (.iload_n 3, 1) := by decide +kernel
theorem dX8_fewestToKeep_118 : decode cX8_fewestToKeep 118 = .ok (.ireturn, 1) := by decide +kernel
theorem dX8_toldOfSet_0 : decode cX8_toldOfSet 0 = .ok (.iload_n 0, 1) := by decide +kernel
theorem dX8_toldOfSet_1 : decode cX8_toldOfSet 1 = .ok (.ldc 222, 2) := by decide +kernel
theorem dX8_toldOfSet_3 : decode cX8_toldOfSet 3 = .ok (.if_icmp .eq 8, 3) := by decide +kernel
theorem dX8_toldOfSet_6 : decode cX8_toldOfSet 6 = .ok (.iload_n 1, 1) := by decide +kernel
theorem dX8_toldOfSet_7 : decode cX8_toldOfSet 7 = .ok (.iconst 1, 1) := by decide +kernel
theorem dX8_toldOfSet_8 : decode cX8_toldOfSet 8 = .ok (.if_icmp .ne 7, 3) := by decide +kernel
theorem dX8_toldOfSet_11 : decode cX8_toldOfSet 11 = .ok (.iload_n 0, 1) := by decide +kernel
theorem dX8_toldOfSet_12 : decode cX8_toldOfSet 12 = .ok (.goto 7, 3) := by decide +kernel
theorem dX8_toldOfSet_15 : decode cX8_toldOfSet 15 = .ok (.iload_n 0, 1) := by decide +kernel
theorem dX8_toldOfSet_16 : decode cX8_toldOfSet 16 = .ok (.invokestatic 237, 3) := by decide +kernel
theorem dX8_toldOfSet_19 : decode cX8_toldOfSet 19 = .ok (.ireturn, 1) := by decide +kernel
theorem dX8_sortsSeen_0 : decode cX8_sortsSeen 0 = .ok (.iconst 0, 1) := by decide +kernel
theorem dX8_sortsSeen_1 : decode cX8_sortsSeen 1 = .ok (.istore 5, 2) := by decide +kernel
theorem dX8_sortsSeen_3 : decode cX8_sortsSeen 3 = .ok (.iconst 1, 1) := by decide +kernel
theorem dX8_sortsSeen_4 : decode cX8_sortsSeen 4 = .ok (.istore 6, 2) := by decide +kernel
theorem dX8_sortsSeen_6 : decode cX8_sortsSeen 6 = .ok (.iload 6, 2) := by decide +kernel
theorem dX8_sortsSeen_8 : decode cX8_sortsSeen 8 = .ok (.iconst 5, 1) := by decide +kernel
theorem dX8_sortsSeen_9 : decode cX8_sortsSeen 9 = .ok (.if_icmp .gt 58, 3) := by decide +kernel
theorem dX8_sortsSeen_12 : decode cX8_sortsSeen 12 = .ok (.aload_n 0, 1) := by decide +kernel
theorem dX8_sortsSeen_13 : decode cX8_sortsSeen 13 = .ok (.getfield 29, 3) := by decide +kernel
theorem dX8_sortsSeen_16 : decode cX8_sortsSeen 16 = .ok (.aload_n 0, 1) := by decide +kernel
theorem dX8_sortsSeen_17 : decode cX8_sortsSeen 17 = .ok (.getfield 25, 3) := by decide +kernel
theorem dX8_sortsSeen_20 : decode cX8_sortsSeen 20 = .ok (.invokevirtual 122, 3) := by decide +kernel
theorem dX8_sortsSeen_23 : decode cX8_sortsSeen 23 = .ok (.aload_n 0, 1) := by decide +kernel
theorem dX8_sortsSeen_24 : decode cX8_sortsSeen 24 = .ok (.getfield 29, 3) := by decide +kernel
theorem dX8_sortsSeen_27 : decode cX8_sortsSeen 27 = .ok (.getfield 129, 3) := by decide +kernel
theorem dX8_sortsSeen_30 : decode cX8_sortsSeen 30 = .ok (.getfield 286, 3) := by decide +kernel
theorem dX8_sortsSeen_33 : decode cX8_sortsSeen 33 = .ok (.iload_n 1, 1) := by decide +kernel
theorem dX8_sortsSeen_34 : decode cX8_sortsSeen 34 = .ok (.iload 6, 2) := by decide +kernel
theorem dX8_sortsSeen_36 : decode cX8_sortsSeen 36 = .ok (.iastore, 1) := by decide +kernel
theorem dX8_sortsSeen_37 : decode cX8_sortsSeen 37 = .ok (.iload 5, 2) := by decide +kernel
theorem dX8_sortsSeen_39 : decode cX8_sortsSeen 39 = .ok (.aload_n 0, 1) := by decide +kernel
theorem dX8_sortsSeen_40 : decode cX8_sortsSeen 40 = .ok (.aload_n 2, 1) := by decide +kernel
theorem dX8_sortsSeen_41 : decode cX8_sortsSeen 41 = .ok (.iload_n 3, 1) := by decide +kernel
theorem dX8_sortsSeen_42 : decode cX8_sortsSeen 42 = .ok (.iload 4, 2) := by decide +kernel
theorem dX8_sortsSeen_44 : decode cX8_sortsSeen 44 = .ok (.invokevirtual 327, 3) := by decide +kernel
theorem dX8_sortsSeen_47 : decode cX8_sortsSeen 47 = .ok (.ifCond .eq 10, 3) := by decide +kernel
theorem dX8_sortsSeen_50 : decode cX8_sortsSeen 50 = .ok (.iconst 1, 1) := by decide +kernel
theorem dX8_sortsSeen_51 : decode cX8_sortsSeen 51 = .ok (.iload 6, 2) := by decide +kernel
theorem dX8_sortsSeen_53 : decode cX8_sortsSeen 53 = .ok (.ishl, 1) := by decide +kernel
theorem dX8_sortsSeen_54 : decode cX8_sortsSeen 54 = .ok (.goto 4, 3) := by decide +kernel
theorem dX8_sortsSeen_57 : decode cX8_sortsSeen 57 = .ok (.iconst 0, 1) := by decide +kernel
theorem dX8_sortsSeen_58 : decode cX8_sortsSeen 58 = .ok (.ior, 1) := by decide +kernel
theorem dX8_sortsSeen_59 : decode cX8_sortsSeen 59 = .ok (.istore 5, 2) := by decide +kernel
theorem dX8_sortsSeen_61 : decode cX8_sortsSeen 61 = .ok (.iinc 6 1, 3) := by decide +kernel
theorem dX8_sortsSeen_64 : decode cX8_sortsSeen 64 = .ok (.goto (-58), 3) := by decide +kernel
theorem dX8_sortsSeen_67 : decode cX8_sortsSeen 67 = .ok (.iload 5, 2) := by decide +kernel
theorem dX8_sortsSeen_69 : decode cX8_sortsSeen 69 = .ok (.ireturn, 1) := by decide +kernel
theorem dX8_leavesSeen_0 : decode cX8_leavesSeen 0 = .ok (.iconst 0, 1) := by decide +kernel
theorem dX8_leavesSeen_1 : decode cX8_leavesSeen 1 = .ok (.istore 5, 2) := by decide +kernel
theorem dX8_leavesSeen_3 : decode cX8_leavesSeen 3 = .ok (.iconst 0, 1) := by decide +kernel
theorem dX8_leavesSeen_4 : decode cX8_leavesSeen 4 = .ok (.istore 6, 2) := by decide +kernel
theorem dX8_leavesSeen_6 : decode cX8_leavesSeen 6 = .ok (.iload 6, 2) := by decide +kernel
theorem dX8_leavesSeen_8 : decode cX8_leavesSeen 8 = .ok (.bipush 6, 2) := by decide +kernel
theorem dX8_leavesSeen_10 : decode cX8_leavesSeen 10 = .ok (.if_icmp .gt 58, 3) := by decide +kernel
theorem dX8_leavesSeen_13 : decode cX8_leavesSeen 13 = .ok (.aload_n 0, 1) := by decide +kernel
theorem dX8_leavesSeen_14 : decode cX8_leavesSeen 14 = .ok (.getfield 29, 3) := by decide +kernel
theorem dX8_leavesSeen_17 : decode cX8_leavesSeen 17 = .ok (.aload_n 0, 1) := by decide +kernel
theorem dX8_leavesSeen_18 : decode cX8_leavesSeen 18 = .ok (.getfield 25, 3) := by decide +kernel
theorem dX8_leavesSeen_21 : decode cX8_leavesSeen 21 = .ok (.invokevirtual 122, 3) := by decide +kernel
theorem dX8_leavesSeen_24 : decode cX8_leavesSeen 24 = .ok (.aload_n 0, 1) := by decide +kernel
theorem dX8_leavesSeen_25 : decode cX8_leavesSeen 25 = .ok (.getfield 29, 3) := by decide +kernel
theorem dX8_leavesSeen_28 : decode cX8_leavesSeen 28 = .ok (.getfield 129, 3) := by decide +kernel
theorem dX8_leavesSeen_31 : decode cX8_leavesSeen 31 = .ok (.getfield 195, 3) := by decide +kernel
theorem dX8_leavesSeen_34 : decode cX8_leavesSeen 34 = .ok (.iload_n 1, 1) := by decide +kernel
theorem dX8_leavesSeen_35 : decode cX8_leavesSeen 35 = .ok (.iload 6, 2) := by decide +kernel
theorem dX8_leavesSeen_37 : decode cX8_leavesSeen 37 = .ok (.iastore, 1) := by decide +kernel
theorem dX8_leavesSeen_38 : decode cX8_leavesSeen 38 = .ok (.iload 5, 2) := by decide +kernel
theorem dX8_leavesSeen_40 : decode cX8_leavesSeen 40 = .ok (.aload_n 0, 1) := by decide +kernel
theorem dX8_leavesSeen_41 : decode cX8_leavesSeen 41 = .ok (.aload_n 2, 1) := by decide +kernel
theorem dX8_leavesSeen_42 : decode cX8_leavesSeen 42 = .ok (.iload_n 3, 1) := by decide +kernel
theorem dX8_leavesSeen_43 : decode cX8_leavesSeen 43 = .ok (.iload 4, 2) := by decide +kernel
theorem dX8_leavesSeen_45 : decode cX8_leavesSeen 45 = .ok (.invokevirtual 327, 3) := by decide +kernel
theorem dX8_leavesSeen_48 : decode cX8_leavesSeen 48 = .ok (.ifCond .eq 10, 3) := by decide +kernel
theorem dX8_leavesSeen_51 : decode cX8_leavesSeen 51 = .ok (.iconst 1, 1) := by decide +kernel
theorem dX8_leavesSeen_52 : decode cX8_leavesSeen 52 = .ok (.iload 6, 2) := by decide +kernel
theorem dX8_leavesSeen_54 : decode cX8_leavesSeen 54 = .ok (.ishl, 1) := by decide +kernel
theorem dX8_leavesSeen_55 : decode cX8_leavesSeen 55 = .ok (.goto 4, 3) := by decide +kernel
theorem dX8_leavesSeen_58 : decode cX8_leavesSeen 58 = .ok (.iconst 0, 1) := by decide +kernel
theorem dX8_leavesSeen_59 : decode cX8_leavesSeen 59 = .ok (.ior, 1) := by decide +kernel
theorem dX8_leavesSeen_60 : decode cX8_leavesSeen 60 = .ok (.istore 5, 2) := by decide +kernel
theorem dX8_leavesSeen_62 : decode cX8_leavesSeen 62 = .ok (.iinc 6 1, 3) := by decide +kernel
theorem dX8_leavesSeen_65 : decode cX8_leavesSeen 65 = .ok (.goto (-59), 3) := by decide +kernel
theorem dX8_leavesSeen_68 : decode cX8_leavesSeen 68 = .ok (.iload 5, 2) := by decide +kernel
theorem dX8_leavesSeen_70 : decode cX8_leavesSeen 70 = .ok (.ireturn, 1) := by decide +kernel
theorem dX8_asksSeen_0 : decode cX8_asksSeen 0 = .ok (.aload_n 0, 1) := by decide +kernel
theorem dX8_asksSeen_1 : decode cX8_asksSeen 1 = .ok (.getfield 25, 3) := by decide +kernel
theorem dX8_asksSeen_4 : decode cX8_asksSeen 4 = .ok (.invokevirtual 331, 3) := by decide +kernel
theorem dX8_asksSeen_7 : decode cX8_asksSeen 7 = .ok (.istore 4, 2) := by decide +kernel
theorem dX8_asksSeen_9 : decode cX8_asksSeen 9 = .ok (.iconst 0, 1) := by decide +kernel
theorem dX8_asksSeen_10 : decode cX8_asksSeen 10 = .ok (.istore 5, 2) := by decide +kernel
theorem dX8_asksSeen_12 : decode cX8_asksSeen 12 = .ok (.iconst 0, 1) := by decide +kernel
theorem dX8_asksSeen_13 : decode cX8_asksSeen 13 = .ok (.istore 6, 2) := by decide +kernel
theorem dX8_asksSeen_15 : decode cX8_asksSeen 15 = .ok (.iload 6, 2) := by decide +kernel
theorem dX8_asksSeen_17 : decode cX8_asksSeen 17 = .ok (.bipush 20, 2) := by decide +kernel
theorem dX8_asksSeen_19 : decode cX8_asksSeen 19 = .ok (.if_icmp .gt 58, 3) := by decide +kernel
theorem dX8_asksSeen_22 : decode cX8_asksSeen 22 = .ok (.aload_n 0, 1) := by decide +kernel
theorem dX8_asksSeen_23 : decode cX8_asksSeen 23 = .ok (.getfield 29, 3) := by decide +kernel
theorem dX8_asksSeen_26 : decode cX8_asksSeen 26 = .ok (.aload_n 0, 1) := by decide +kernel
theorem dX8_asksSeen_27 : decode cX8_asksSeen 27 = .ok (.getfield 25, 3) := by decide +kernel
theorem dX8_asksSeen_30 : decode cX8_asksSeen 30 = .ok (.invokevirtual 122, 3) := by decide +kernel
theorem dX8_asksSeen_33 : decode cX8_asksSeen 33 = .ok (.aload_n 0, 1) := by decide +kernel
theorem dX8_asksSeen_34 : decode cX8_asksSeen 34 = .ok (.getfield 29, 3) := by decide +kernel
theorem dX8_asksSeen_37 : decode cX8_asksSeen 37 = .ok (.getfield 129, 3) := by decide +kernel
theorem dX8_asksSeen_40 : decode cX8_asksSeen 40 = .ok (.getfield 207, 3) := by decide +kernel
theorem dX8_asksSeen_43 : decode cX8_asksSeen 43 = .ok (.iload 4, 2) := by decide +kernel
theorem dX8_asksSeen_45 : decode cX8_asksSeen 45 = .ok (.iload 6, 2) := by decide +kernel
theorem dX8_asksSeen_47 : decode cX8_asksSeen 47 = .ok (.iastore, 1) := by decide +kernel
theorem dX8_asksSeen_48 : decode cX8_asksSeen 48 = .ok (.iload 5, 2) := by decide +kernel
theorem dX8_asksSeen_50 : decode cX8_asksSeen 50 = .ok (.aload_n 0, 1) := by decide +kernel
theorem dX8_asksSeen_51 : decode cX8_asksSeen 51 = .ok (.aload_n 1, 1) := by decide +kernel
theorem dX8_asksSeen_52 : decode cX8_asksSeen 52 = .ok (.iload_n 2, 1) := by decide +kernel
theorem dX8_asksSeen_53 : decode cX8_asksSeen 53 = .ok (.iload_n 3, 1) := by decide +kernel
theorem dX8_asksSeen_54 : decode cX8_asksSeen 54 = .ok (.invokevirtual 327, 3) := by decide +kernel
theorem dX8_asksSeen_57 : decode cX8_asksSeen 57 = .ok (.ifCond .eq 10, 3) := by decide +kernel
theorem dX8_asksSeen_60 : decode cX8_asksSeen 60 = .ok (.iconst 1, 1) := by decide +kernel
theorem dX8_asksSeen_61 : decode cX8_asksSeen 61 = .ok (.iload 6, 2) := by decide +kernel
theorem dX8_asksSeen_63 : decode cX8_asksSeen 63 = .ok (.ishl, 1) := by decide +kernel
theorem dX8_asksSeen_64 : decode cX8_asksSeen 64 = .ok (.goto 4, 3) := by decide +kernel
theorem dX8_asksSeen_67 : decode cX8_asksSeen 67 = .ok (.iconst 0, 1) := by decide +kernel
theorem dX8_asksSeen_68 : decode cX8_asksSeen 68 = .ok (.ior, 1) := by decide +kernel
theorem dX8_asksSeen_69 : decode cX8_asksSeen 69 = .ok (.istore 5, 2) := by decide +kernel
theorem dX8_asksSeen_71 : decode cX8_asksSeen 71 = .ok (.iinc 6 1, 3) := by decide +kernel
theorem dX8_asksSeen_74 : decode cX8_asksSeen 74 = .ok (.goto (-59), 3) := by decide +kernel
theorem dX8_asksSeen_77 : decode cX8_asksSeen 77 = .ok (.iload 5, 2) := by decide +kernel
theorem dX8_asksSeen_79 : decode cX8_asksSeen 79 = .ok (.ireturn, 1) := by decide +kernel
theorem dX8_isSeen_0 : decode cX8_isSeen 0 = .ok (.iconst 0, 1) := by decide +kernel
theorem dX8_isSeen_1 : decode cX8_isSeen 1 = .ok (.istore 4, 2) := by decide +kernel
theorem dX8_isSeen_3 : decode cX8_isSeen 3 = .ok (.iload 4, 2) := by decide +kernel
theorem dX8_isSeen_5 : decode cX8_isSeen 5 = .ok (.iload_n 3, 1) := by decide +kernel
theorem dX8_isSeen_6 : decode cX8_isSeen 6 = .ok (.if_icmp .ge 40, 3) := by decide +kernel
theorem dX8_isSeen_9 : decode cX8_isSeen 9 = .ok (.aload_n 0, 1) := by decide +kernel
theorem dX8_isSeen_10 : decode cX8_isSeen 10 = .ok (.getfield 29, 3) := by decide +kernel
theorem dX8_isSeen_13 : decode cX8_isSeen 13 = .ok (.invokevirtual 154, 3) := by decide +kernel
theorem dX8_isSeen_16 : decode cX8_isSeen 16 = .ok (.aload_n 0, 1) := by decide +kernel
theorem dX8_isSeen_17 : decode cX8_isSeen 17 = .ok (.getfield 29, 3) := by decide +kernel
theorem dX8_isSeen_20 : decode cX8_isSeen 20 = .ok (.getfield 146, 3) := by decide +kernel
theorem dX8_isSeen_23 : decode cX8_isSeen 23 = .ok (.getfield 157, 3) := by decide +kernel
theorem dX8_isSeen_26 : decode cX8_isSeen 26 = .ok (.aload_n 1, 1) := by decide +kernel
theorem dX8_isSeen_27 : decode cX8_isSeen 27 = .ok (.getfield 96, 3) := by decide +kernel
theorem dX8_isSeen_30 : decode cX8_isSeen 30 = .ok (.iload_n 2, 1) := by decide +kernel
theorem dX8_isSeen_31 : decode cX8_isSeen 31 = .ok (.iload 4, 2) := by decide +kernel
theorem dX8_isSeen_33 : decode cX8_isSeen 33 = .ok (.iadd, 1) := by decide +kernel
theorem dX8_isSeen_34 : decode cX8_isSeen 34 = .ok (.iaload, 1) := by decide +kernel
theorem dX8_isSeen_35 : decode cX8_isSeen 35 = .ok (.if_icmp .eq 5, 3) := by decide +kernel
theorem dX8_isSeen_38 : decode cX8_isSeen 38 = .ok (.iconst 0, 1) := by decide +kernel
theorem dX8_isSeen_39 : decode cX8_isSeen 39 = .ok (.ireturn, 1) := by decide +kernel
theorem dX8_isSeen_40 : decode cX8_isSeen 40 = .ok (.iinc 4 1, 3) := by decide +kernel
theorem dX8_isSeen_43 : decode cX8_isSeen 43 = .ok (.goto (-40), 3) := by decide +kernel
theorem dX8_isSeen_46 : decode cX8_isSeen 46 = .ok (.iconst 1, 1) := by decide +kernel
theorem dX8_isSeen_47 : decode cX8_isSeen 47 = .ok (.ireturn, 1) := by decide +kernel
theorem dX8_stormWeight_0 : decode cX8_stormWeight 0 = .ok (.aload_n 0, 1) := by decide +kernel
theorem dX8_stormWeight_1 : decode cX8_stormWeight 1 = .ok (.getfield 25, 3) := by decide +kernel
theorem dX8_stormWeight_4 : decode cX8_stormWeight 4 = .ok (.getfield 146, 3) := by decide +kernel
theorem dX8_stormWeight_7 : decode cX8_stormWeight 7 = .ok (.getfield 157, 3) := by decide +kernel
theorem dX8_stormWeight_10 : decode cX8_stormWeight 10 = .ok (.istore_n 3, 1) := by decide +kernel
theorem dX8_stormWeight_11 : decode cX8_stormWeight 11 = .ok (.iconst 0, 1) := by decide +kernel
theorem dX8_stormWeight_12 : decode cX8_stormWeight 12 = .ok (.istore 4, 2) := by decide +kernel
theorem dX8_stormWeight_14 : decode cX8_stormWeight 14 = .ok (.iconst 0, 1) := by decide +kernel
theorem dX8_stormWeight_15 : decode cX8_stormWeight 15 = .ok (.istore 5, 2) := by decide +kernel
theorem dX8_stormWeight_17 : decode cX8_stormWeight 17 = .ok (.iload 5, 2) := by decide +kernel
theorem dX8_stormWeight_19 : decode cX8_stormWeight 19 = .ok (.iload_n 3, 1) := by decide +kernel
theorem dX8_stormWeight_20 : decode cX8_stormWeight 20 = .ok (.if_icmp .gt 87, 3) := by decide +kernel
theorem dX8_stormWeight_23 : decode cX8_stormWeight 23 = .ok (.iload 5, 2) := by decide +kernel
theorem dX8_stormWeight_25 : decode cX8_stormWeight 25 = .ok (.iload_n 3, 1) := by decide +kernel
theorem dX8_stormWeight_26 : decode cX8_stormWeight 26 = .ok (.iconst (-1), 1) := by decide +kernel
theorem dX8_stormWeight_27 : decode cX8_stormWeight 27 = .ok (.ixor, 1) := by decide +kernel
theorem dX8_stormWeight_28 : decode cX8_stormWeight 28 = .ok (.iand, 1) := by decide +kernel
theorem dX8_stormWeight_29 : decode cX8_stormWeight 29 = .ok (.ifCond .ne 72, 3) := by decide +kernel
theorem dX8_stormWeight_32 : decode cX8_stormWeight 32 = .ok (.aload_n 0, 1) := by decide +kernel
theorem dX8_stormWeight_33 : decode cX8_stormWeight 33 = .ok (.getfield 29, 3) := by decide +kernel
theorem dX8_stormWeight_36 : decode cX8_stormWeight 36 = .ok (.aload_n 0, 1) := by decide +kernel
theorem dX8_stormWeight_37 : decode cX8_stormWeight 37 = .ok (.getfield 25, 3) := by decide +kernel
theorem dX8_stormWeight_40 : decode cX8_stormWeight 40 = .ok (.invokevirtual 122, 3) := by decide +kernel
theorem dX8_stormWeight_43 : decode cX8_stormWeight 43 = .ok (.aload_n 0, 1) := by decide +kernel
theorem dX8_stormWeight_44 : decode cX8_stormWeight 44 = .ok (.getfield 29, 3) := by decide +kernel
theorem dX8_stormWeight_47 : decode cX8_stormWeight 47 = .ok (.iload 5, 2) := by decide +kernel
theorem dX8_stormWeight_49 : decode cX8_stormWeight 49 = .ok (.invokevirtual 334, 3) := by decide +kernel
theorem dX8_stormWeight_52 : decode cX8_stormWeight 52 = .ok (.aload_n 0, 1) := by decide +kernel
theorem dX8_stormWeight_53 : decode cX8_stormWeight 53 = .ok (.getfield 29, 3) := by decide +kernel
theorem dX8_stormWeight_56 : decode cX8_stormWeight 56 = .ok (.invokevirtual 219, 3) := by decide +kernel
theorem dX8_stormWeight_59 : decode cX8_stormWeight 59 = .ok (.invokestatic 237, 3) := by decide +kernel
theorem dX8_stormWeight_62 : decode cX8_stormWeight 62 = .ok (.iload_n 1, 1) := by decide +kernel
theorem dX8_stormWeight_63 : decode cX8_stormWeight 63 = .ok (.if_icmp .lt 38, 3) := by decide +kernel
theorem dX8_stormWeight_66 : decode cX8_stormWeight 66 = .ok (.iload_n 3, 1) := by decide +kernel
theorem dX8_stormWeight_67 : decode cX8_stormWeight 67 = .ok (.iload 5, 2) := by decide +kernel
theorem dX8_stormWeight_69 : decode cX8_stormWeight 69 = .ok (.iconst (-1), 1) := by decide +kernel
theorem dX8_stormWeight_70 : decode cX8_stormWeight 70 = .ok (.ixor, 1) := by decide +kernel
theorem dX8_stormWeight_71 : decode cX8_stormWeight 71 = .ok (.iand, 1) := by decide +kernel
theorem dX8_stormWeight_72 : decode cX8_stormWeight 72 = .ok (.invokestatic 237, 3) := by decide +kernel
theorem dX8_stormWeight_75 : decode cX8_stormWeight 75 = .ok (.istore 6, 2) := by decide +kernel
theorem dX8_stormWeight_77 : decode cX8_stormWeight 77 = .ok (.iload 4, 2) := by decide +kernel
theorem dX8_stormWeight_79 : decode cX8_stormWeight 79 = .ok (.iload_n 2, 1) := by decide +kernel
theorem dX8_stormWeight_80 : decode cX8_stormWeight 80 = .ok (.iload 5, 2) := by decide +kernel
theorem dX8_stormWeight_82 : decode cX8_stormWeight 82 = .ok (.invokestatic 237, 3) := by decide +kernel
theorem dX8_stormWeight_85 : decode cX8_stormWeight 85 = .ok (.invokestatic 271, 3) := by decide +kernel
theorem dX8_stormWeight_88 : decode cX8_stormWeight 88 = .ok (.bipush 10, 2) := by decide +kernel
theorem dX8_stormWeight_90 : decode cX8_stormWeight 90 = .ok (.iload_n 2, 1) := by decide +kernel
theorem dX8_stormWeight_91 : decode cX8_stormWeight 91 = .ok (.isub, 1) := by decide +kernel
theorem dX8_stormWeight_92 : decode cX8_stormWeight 92 = .ok (.iload 6, 2) := by decide +kernel
theorem dX8_stormWeight_94 : decode cX8_stormWeight 94 = .ok (.invokestatic 271, 3) := by decide +kernel
theorem dX8_stormWeight_97 : decode cX8_stormWeight 97 = .ok (.imul, 1) := by decide +kernel
theorem dX8_stormWeight_98 : decode cX8_stormWeight 98 = .ok (.iadd, 1) := by decide +kernel
theorem dX8_stormWeight_99 : decode cX8_stormWeight 99 = .ok (.istore 4, 2) := by decide +kernel
theorem dX8_stormWeight_101 : decode cX8_stormWeight 101 = .ok (.iinc 5 1, 3) := by decide +kernel
theorem dX8_stormWeight_104 : decode cX8_stormWeight 104 = .ok (.goto (-87), 3) := by decide +kernel
theorem dX8_stormWeight_107 : decode cX8_stormWeight 107 = .ok (.iload 4, 2) := by decide +kernel
theorem dX8_stormWeight_109 : decode cX8_stormWeight 109 = .ok (.ireturn, 1) := by decide +kernel
theorem dX8_power_0 : decode cX8_power 0 = .ok (.iconst 1, 1) := by decide +kernel
theorem dX8_power_1 : decode cX8_power 1 = .ok (.istore_n 2, 1) := by decide +kernel
theorem dX8_power_2 : decode cX8_power 2 = .ok (.iconst 0, 1) := by decide +kernel
theorem dX8_power_3 : decode cX8_power 3 = .ok (.istore_n 3, 1) := by decide +kernel
theorem dX8_power_4 : decode cX8_power 4 = .ok (.iload_n 3, 1) := by decide +kernel
theorem dX8_power_5 : decode cX8_power 5 = .ok (.iload_n 1, 1) := by decide +kernel
theorem dX8_power_6 : decode cX8_power 6 = .ok (.if_icmp .ge 13, 3) := by decide +kernel
theorem dX8_power_9 : decode cX8_power 9 = .ok (.iload_n 2, 1) := by decide +kernel
theorem dX8_power_10 : decode cX8_power 10 = .ok (.iload_n 0, 1) := by decide +kernel
theorem dX8_power_11 : decode cX8_power 11 = .ok (.imul, 1) := by decide +kernel
theorem dX8_power_12 : decode cX8_power 12 = .ok (.istore_n 2, 1) := by decide +kernel
theorem dX8_power_13 : decode cX8_power 13 = .ok (.iinc 3 1, 3) := by decide +kernel
theorem dX8_power_16 : decode cX8_power 16 = .ok (.goto (-12), 3) := by decide +kernel
theorem dX8_power_19 : decode cX8_power 19 = .ok (.iload_n 2, 1) := by decide +kernel
theorem dX8_power_20 : decode cX8_power 20 = .ok (.ireturn, 1) := by decide +kernel
theorem dX8_commonDivisor_0 : decode cX8_commonDivisor 0 = .ok (.iload_n 0, 1) := by decide +kernel
theorem dX8_commonDivisor_1 : decode cX8_commonDivisor 1 = .ok (.istore_n 2, 1) := by decide +kernel
theorem dX8_commonDivisor_2 : decode cX8_commonDivisor 2 = .ok (.iload_n 1, 1) := by decide +kernel
theorem dX8_commonDivisor_3 : decode cX8_commonDivisor 3 = .ok (.istore_n 3, 1) := by decide +kernel
theorem dX8_commonDivisor_4 : decode cX8_commonDivisor 4 = .ok (.iconst 0, 1) := by decide +kernel
theorem dX8_commonDivisor_5 : decode cX8_commonDivisor 5 = .ok (.istore 4, 2) := by decide +kernel
theorem dX8_commonDivisor_7 : decode cX8_commonDivisor 7 = .ok (.iload 4, 2) := by decide +kernel
theorem dX8_commonDivisor_9 : decode cX8_commonDivisor 9 = .ok (.bipush 100, 2) := by decide +kernel
theorem dX8_commonDivisor_11 : decode cX8_commonDivisor 11 = .ok (.if_icmp .ge 23, 3) := by decide +kernel
theorem dX8_commonDivisor_14 : decode cX8_commonDivisor 14 = .ok (.iload_n 3, 1) := by decide +kernel
theorem dX8_commonDivisor_15 : decode cX8_commonDivisor 15 = .ok (.ifCond .eq 19, 3) := by decide +kernel
theorem dX8_commonDivisor_18 : decode cX8_commonDivisor 18 = .ok (.iload_n 2, 1) := by decide +kernel
theorem dX8_commonDivisor_19 : decode cX8_commonDivisor 19 = .ok (.iload_n 3, 1) := by decide +kernel
theorem dX8_commonDivisor_20 : decode cX8_commonDivisor 20 = .ok (.irem, 1) := by decide +kernel
theorem dX8_commonDivisor_21 : decode cX8_commonDivisor 21 = .ok (.istore 5, 2) := by decide +kernel
theorem dX8_commonDivisor_23 : decode cX8_commonDivisor 23 = .ok (.iload_n 3, 1) := by decide +kernel
theorem dX8_commonDivisor_24 : decode cX8_commonDivisor 24 = .ok (.istore_n 2, 1) := by decide +kernel
theorem dX8_commonDivisor_25 : decode cX8_commonDivisor 25 = .ok (.iload 5, 2) := by decide +kernel
theorem dX8_commonDivisor_27 : decode cX8_commonDivisor 27 = .ok (.istore_n 3, 1) := by decide +kernel
theorem dX8_commonDivisor_28 : decode cX8_commonDivisor 28 = .ok (.iinc 4 1, 3) := by decide +kernel
theorem dX8_commonDivisor_31 : decode cX8_commonDivisor 31 = .ok (.goto (-24), 3) := by decide +kernel
theorem dX8_commonDivisor_34 : decode cX8_commonDivisor 34 = .ok (.iload_n 2, 1) := by decide +kernel
theorem dX8_commonDivisor_35 : decode cX8_commonDivisor 35 = .ok (.ireturn, 1) := by decide +kernel
