theorem dX0_init_0 : decode cX0_init 0 = .ok (.aload_n 0, 1) := by decide +kernel
theorem dX0_init_1 : decode cX0_init 1 = .ok (.invokespecial 3, 3) := by decide +kernel
theorem dX0_init_4 : decode cX0_init 4 = .ok (.aload_n 0, 1) := by decide +kernel
theorem dX0_init_5 : decode cX0_init 5 = .ok (.bipush 24, 2) := by decide +kernel
theorem dX0_init_7 : decode cX0_init 7 = .ok (.anewarray 9, 3) := by decide +kernel
theorem dX0_init_10 : decode cX0_init 10 = .ok (.putfield 11, 3) := by decide +kernel
theorem dX0_init_13 : decode cX0_init 13 = .ok (.aload_n 0, 1) := by decide +kernel
theorem dX0_init_14 : decode cX0_init 14 = .ok (.iconst 0, 1) := by decide +kernel
theorem dX0_init_15 : decode cX0_init 15 = .ok (.putfield 17, 3) := by decide +kernel
theorem dX0_init_18 : decode cX0_init 18 = .ok (.aload_n 0, 1) := by decide +kernel
theorem dX0_init_19 : decode cX0_init 19 = .ok (.iconst 0, 1) := by decide +kernel
theorem dX0_init_20 : decode cX0_init 20 = .ok (.putfield 21, 3) := by decide +kernel
theorem dX0_init_23 : decode cX0_init 23 = .ok (.iconst 0, 1) := by decide +kernel
theorem dX0_init_24 : decode cX0_init 24 = .ok (.istore_n 1, 1) := by decide +kernel
theorem dX0_init_25 : decode cX0_init 25 = .ok (.iload_n 1, 1) := by decide +kernel
theorem dX0_init_26 : decode cX0_init 26 = .ok (.bipush 24, 2) := by decide +kernel
theorem dX0_init_28 : decode cX0_init 28 = .ok (.if_icmp .ge 22, 3) := by decide +kernel
theorem dX0_init_31 : decode cX0_init 31 = .ok (.aload_n 0, 1) := by decide +kernel
theorem dX0_init_32 : decode cX0_init 32 = .ok (.getfield 11, 3) := by decide +kernel
theorem dX0_init_35 : decode cX0_init 35 = .ok (.iload_n 1, 1) := by decide +kernel
theorem dX0_init_36 : decode cX0_init 36 = .ok (.new 9, 3) := by decide +kernel
theorem dX0_init_39 : decode cX0_init 39 = .ok (.dup, 1) := by decide +kernel
theorem dX0_init_40 : decode cX0_init 40 = .ok (.invokespecial 24, 3) := by decide +kernel
theorem dX0_init_43 : decode cX0_init 43 = .ok (.aastore, 1) := by decide +kernel
theorem dX0_init_44 : decode cX0_init 44 = .ok (.iinc 1 1, 3) := by decide +kernel
theorem dX0_init_47 : decode cX0_init 47 = .ok (.goto (-22), 3) := by decide +kernel
theorem dX0_init_50 : decode cX0_init 50 = .ok (.return_, 1) := by decide +kernel
theorem dX0_forgetAll_0 : decode cX0_forgetAll 0 = .ok (.aload_n 0, 1) := by decide +kernel
theorem dX0_forgetAll_1 : decode cX0_forgetAll 1 = .ok (.iconst 0, 1) := by decide +kernel
theorem dX0_forgetAll_2 : decode cX0_forgetAll 2 = .ok (.putfield 21, 3) := by decide +kernel
theorem dX0_forgetAll_5 : decode cX0_forgetAll 5 = .ok (.return_, 1) := by decide +kernel
theorem dX0_remember_0 : decode cX0_remember 0 = .ok (.aload_n 0, 1) := by decide +kernel
theorem dX0_remember_1 : decode cX0_remember 1 = .ok (.getfield 11, 3) := by decide +kernel
theorem dX0_remember_4 : decode cX0_remember 4 = .ok (.aload_n 0, 1) := by decide +kernel
theorem dX0_remember_5 : decode cX0_remember 5 = .ok (.getfield 17, 3) := by decide +kernel
theorem dX0_remember_8 : decode cX0_remember 8 = .ok (.aaload, 1) := by decide +kernel
theorem dX0_remember_9 : decode cX0_remember 9 = .ok (.aload_n 1, 1) := by decide +kernel
theorem dX0_remember_10 : decode cX0_remember 10 = .ok (.invokevirtual 25, 3) := by decide +kernel
theorem dX0_remember_13 : decode cX0_remember 13 = .ok (.aload_n 0, 1) := by decide +kernel
theorem dX0_remember_14 : decode cX0_remember 14 = .ok (.aload_n 0, 1) := by decide +kernel
theorem dX0_remember_15 : decode cX0_remember 15 = .ok (.getfield 17, 3) := by decide +kernel
theorem dX0_remember_18 : decode cX0_remember 18 = .ok (.bipush 23, 2) := by decide +kernel
theorem dX0_remember_20 : decode cX0_remember 20 = .ok (.if_icmp .ge 12, 3) := by decide +kernel
theorem dX0_remember_23 : decode cX0_remember 23 = .ok (.aload_n 0, 1) := by decide +kernel
theorem dX0_remember_24 : decode cX0_remember 24 = .ok (.getfield 17, 3) := by decide +kernel
theorem dX0_remember_27 : decode cX0_remember 27 = .ok (.iconst 1, 1) := by decide +kernel
theorem dX0_remember_28 : decode cX0_remember 28 = .ok (.iadd, 1) := by decide +kernel
theorem dX0_remember_29 : decode cX0_remember 29 = .ok (.goto 4, 3) := by decide +kernel
theorem dX0_remember_32 : decode cX0_remember 32 = .ok (.iconst 0, 1) := by decide +kernel
theorem dX0_remember_33 : decode cX0_remember 33 = .ok (.putfield 17, 3) := by decide +kernel
theorem dX0_remember_36 : decode cX0_remember 36 = .ok (.aload_n 0, 1) := by decide +kernel
theorem dX0_remember_37 : decode cX0_remember 37 = .ok (.bipush 24, 2) := by decide +kernel
theorem dX0_remember_39 : decode cX0_remember 39 = .ok (.aload_n 0, 1) := by decide +kernel
theorem dX0_remember_40 : decode cX0_remember 40 = .ok (.getfield 21, 3) := by decide +kernel
theorem dX0_remember_43 : decode cX0_remember 43 = .ok (.iconst 1, 1) := by decide +kernel
theorem dX0_remember_44 : decode cX0_remember 44 = .ok (.iadd, 1) := by decide +kernel
theorem dX0_remember_45 : decode cX0_remember 45 = .ok (.invokestatic 29, 3) := by decide +kernel
theorem dX0_remember_48 : decode cX0_remember 48 = .ok (.putfield 21, 3) := by decide +kernel
theorem dX0_remember_51 : decode cX0_remember 51 = .ok (.return_, 1) := by decide +kernel
theorem dX0_takeBack_0 : decode cX0_takeBack 0 = .ok (.aload_n 0, 1) := by decide +kernel
theorem dX0_takeBack_1 : decode cX0_takeBack 1 = .ok (.aload_n 0, 1) := by decide +kernel
theorem dX0_takeBack_2 : decode cX0_takeBack 2 = .ok (.getfield 17, 3) := by decide +kernel
theorem dX0_takeBack_5 : decode cX0_takeBack 5 = .ok (.ifCond .le 12, 3) := by decide +kernel
theorem dX0_takeBack_8 : decode cX0_takeBack 8 = .ok (.aload_n 0, 1) := by decide +kernel
theorem dX0_takeBack_9 : decode cX0_takeBack 9 = .ok (.getfield 17, 3) := by decide +kernel
theorem dX0_takeBack_12 : decode cX0_takeBack 12 = .ok (.iconst 1, 1) := by decide +kernel
theorem dX0_takeBack_13 : decode cX0_takeBack 13 = .ok (.isub, 1) := by decide +kernel
theorem dX0_takeBack_14 : decode cX0_takeBack 14 = .ok (.goto 5, 3) := by decide +kernel
theorem dX0_takeBack_17 : decode cX0_takeBack 17 = .ok (.bipush 23, 2) := by decide +kernel
theorem dX0_takeBack_19 : decode cX0_takeBack 19 = .ok (.putfield 17, 3) := by decide +kernel
theorem dX0_takeBack_22 : decode cX0_takeBack 22 = .ok (.aload_n 1, 1) := by decide +kernel
theorem dX0_takeBack_23 : decode cX0_takeBack 23 = .ok (.aload_n 0, 1) := by decide +kernel
theorem dX0_takeBack_24 : decode cX0_takeBack 24 = .ok (.getfield 11, 3) := by decide +kernel
theorem dX0_takeBack_27 : decode cX0_takeBack 27 = .ok (.aload_n 0, 1) := by decide +kernel
theorem dX0_takeBack_28 : decode cX0_takeBack 28 = .ok (.getfield 17, 3) := by decide +kernel
theorem dX0_takeBack_31 : decode cX0_takeBack 31 = .ok (.aaload, 1) := by decide +kernel
theorem dX0_takeBack_32 : decode cX0_takeBack 32 = .ok (.invokevirtual 25, 3) := by decide +kernel
theorem dX0_takeBack_35 : decode cX0_takeBack 35 = .ok (.aload_n 0, 1) := by decide +kernel
theorem dX0_takeBack_36 : decode cX0_takeBack 36 = .ok (.dup, 1) := by decide +kernel
theorem dX0_takeBack_37 : decode cX0_takeBack 37 = .ok (.getfield 21, 3) := by decide +kernel
theorem dX0_takeBack_40 : decode cX0_takeBack 40 = .ok (.iconst 1, 1) := by decide +kernel
theorem dX0_takeBack_41 : decode cX0_takeBack 41 = .ok (.isub, 1) := by decide +kernel
theorem dX0_takeBack_42 : decode cX0_takeBack 42 = .ok (.putfield 21, 3) := by decide +kernel
theorem dX0_takeBack_45 : decode cX0_takeBack 45 = .ok (.return_, 1) := by decide +kernel
theorem dX1_init_0 : decode cX1_init 0 = .ok (.aload_n 0, 1) := by decide +kernel
theorem dX1_init_1 : decode cX1_init 1 = .ok (.invokespecial 3, 3) := by decide +kernel
theorem dX1_init_4 : decode cX1_init 4 = .ok (.aload_n 0, 1) := by decide +kernel
theorem dX1_init_5 : decode cX1_init 5 = .ok (.bipush 16, 2) := by decide +kernel
theorem dX1_init_7 : decode cX1_init 7 = .ok (.newarray .int, 2) := by decide +kernel
theorem dX1_init_9 : decode cX1_init 9 = .ok (.putfield 9, 3) := by decide +kernel
theorem dX1_init_12 : decode cX1_init 12 = .ok (.aload_n 0, 1) := by decide +kernel
theorem dX1_init_13 : decode cX1_init 13 = .ok (.iconst 0, 1) := by decide +kernel
theorem dX1_init_14 : decode cX1_init 14 = .ok (.putfield 15, 3) := by decide +kernel
theorem dX1_init_17 : decode cX1_init 17 = .ok (.aload_n 0, 1) := by decide +kernel
theorem dX1_init_18 : decode cX1_init 18 = .ok (.iconst 0, 1) := by decide +kernel
theorem dX1_init_19 : decode cX1_init 19 = .ok (.putfield 19, 3) := by decide +kernel
theorem dX1_init_22 : decode cX1_init 22 = .ok (.aload_n 0, 1) := by decide +kernel
theorem dX1_init_23 : decode cX1_init 23 = .ok (.iconst 0, 1) := by decide +kernel
theorem dX1_init_24 : decode cX1_init 24 = .ok (.putfield 22, 3) := by decide +kernel
theorem dX1_init_27 : decode cX1_init 27 = .ok (.aload_n 0, 1) := by decide +kernel
theorem dX1_init_28 : decode cX1_init 28 = .ok (.iconst 0, 1) := by decide +kernel
theorem dX1_init_29 : decode cX1_init 29 = .ok (.putfield 25, 3) := by decide +kernel
theorem dX1_init_32 : decode cX1_init 32 = .ok (.aload_n 0, 1) := by decide +kernel
theorem dX1_init_33 : decode cX1_init 33 = .ok (.iconst 0, 1) := by decide +kernel
theorem dX1_init_34 : decode cX1_init 34 = .ok (.putfield 28, 3) := by decide +kernel
theorem dX1_init_37 : decode cX1_init 37 = .ok (.return_, 1) := by decide +kernel
theorem dX1_begin_0 : decode cX1_begin 0 = .ok (.aload_n 0, 1) := by decide +kernel
theorem dX1_begin_1 : decode cX1_begin 1 = .ok (.iconst 0, 1) := by decide +kernel
theorem dX1_begin_2 : decode cX1_begin 2 = .ok (.putfield 15, 3) := by decide +kernel
theorem dX1_begin_5 : decode cX1_begin 5 = .ok (.aload_n 0, 1) := by decide +kernel
theorem dX1_begin_6 : decode cX1_begin 6 = .ok (.iload_n 2, 1) := by decide +kernel
theorem dX1_begin_7 : decode cX1_begin 7 = .ok (.putfield 19, 3) := by decide +kernel
theorem dX1_begin_10 : decode cX1_begin 10 = .ok (.aload_n 0, 1) := by decide +kernel
theorem dX1_begin_11 : decode cX1_begin 11 = .ok (.aload_n 1, 1) := by decide +kernel
theorem dX1_begin_12 : decode cX1_begin 12 = .ok (.getfield 31, 3) := by decide +kernel
theorem dX1_begin_15 : decode cX1_begin 15 = .ok (.getfield 37, 3) := by decide +kernel
theorem dX1_begin_18 : decode cX1_begin 18 = .ok (.iload_n 2, 1) := by decide +kernel
theorem dX1_begin_19 : decode cX1_begin 19 = .ok (.iaload, 1) := by decide +kernel
theorem dX1_begin_20 : decode cX1_begin 20 = .ok (.putfield 22, 3) := by decide +kernel
theorem dX1_begin_23 : decode cX1_begin 23 = .ok (.aload_n 0, 1) := by decide +kernel
theorem dX1_begin_24 : decode cX1_begin 24 = .ok (.aload_n 1, 1) := by decide +kernel
theorem dX1_begin_25 : decode cX1_begin 25 = .ok (.getfield 42, 3) := by decide +kernel
theorem dX1_begin_28 : decode cX1_begin 28 = .ok (.getfield 46, 3) := by decide +kernel
theorem dX1_begin_31 : decode cX1_begin 31 = .ok (.iload_n 2, 1) := by decide +kernel
theorem dX1_begin_32 : decode cX1_begin 32 = .ok (.iaload, 1) := by decide +kernel
theorem dX1_begin_33 : decode cX1_begin 33 = .ok (.putfield 25, 3) := by decide +kernel
theorem dX1_begin_36 : decode cX1_begin 36 = .ok (.aload_n 0, 1) := by decide +kernel
theorem dX1_begin_37 : decode cX1_begin 37 = .ok (.aload_n 1, 1) := by decide +kernel
theorem dX1_begin_38 : decode cX1_begin 38 = .ok (.getfield 31, 3) := by decide +kernel
theorem dX1_begin_41 : decode cX1_begin 41 = .ok (.getfield 50, 3) := by decide +kernel
theorem dX1_begin_44 : decode cX1_begin 44 = .ok (.iload_n 2, 1) := by decide +kernel
theorem dX1_begin_45 : decode cX1_begin 45 = .ok (.iaload, 1) := by decide +kernel
theorem dX1_begin_46 : decode cX1_begin 46 = .ok (.putfield 28, 3) := by decide +kernel
theorem dX1_begin_49 : decode cX1_begin 49 = .ok (.return_, 1) := by decide +kernel
theorem dX1_note_0 : decode cX1_note 0 = .ok (.aload_n 0, 1) := by decide +kernel
theorem dX1_note_1 : decode cX1_note 1 = .ok (.getfield 15, 3) := by decide +kernel
theorem dX1_note_4 : decode cX1_note 4 = .ok (.bipush 16, 2) := by decide +kernel
theorem dX1_note_6 : decode cX1_note 6 = .ok (.if_icmp .ge 23, 3) := by decide +kernel
theorem dX1_note_9 : decode cX1_note 9 = .ok (.aload_n 0, 1) := by decide +kernel
theorem dX1_note_10 : decode cX1_note 10 = .ok (.getfield 9, 3) := by decide +kernel
theorem dX1_note_13 : decode cX1_note 13 = .ok (.aload_n 0, 1) := by decide +kernel
theorem dX1_note_14 : decode cX1_note 14 = .ok (.getfield 15, 3) := by decide +kernel
theorem dX1_note_17 : decode cX1_note 17 = .ok (.iload_n 1, 1) := by decide +kernel
theorem dX1_note_18 : decode cX1_note 18 = .ok (.iastore, 1) := by decide +kernel
theorem dX1_note_19 : decode cX1_note 19 = .ok (.aload_n 0, 1) := by decide +kernel
theorem dX1_note_20 : decode cX1_note 20 = .ok (.dup, 1) := by decide +kernel
theorem dX1_note_21 : decode cX1_note 21 = .ok (.getfield 15, 3) := by decide +kernel
theorem dX1_note_24 : decode cX1_note 24 = .ok (.iconst 1, 1) := by decide +kernel
theorem dX1_note_25 : decode cX1_note 25 = .ok (.iadd, 1) := by decide +kernel
theorem dX1_note_26 : decode cX1_note 26 = .ok (.putfield 15, 3) := by decide +kernel
theorem dX1_note_29 : decode cX1_note 29 = .ok (.return_, 1) := by decide +kernel
theorem dX1_size_0 : decode cX1_size 0 = .ok (.iload_n 2, 1) := by decide +kernel
theorem dX1_size_1 : decode cX1_size 1 = .ok (.bipush 20, 2) := by decide +kernel
theorem dX1_size_3 : decode cX1_size 3 = .ok (.if_icmp .le 5, 3) := by decide +kernel
theorem dX1_size_6 : decode cX1_size 6 = .ok (.iconst 0, 1) := by decide +kernel
theorem dX1_size_7 : decode cX1_size 7 = .ok (.ireturn, 1) := by decide +kernel
theorem dX1_size_8 : decode cX1_size 8 = .ok (.iload_n 1, 1) := by decide +kernel
theorem dX1_size_9 : decode cX1_size 9 = .ok (.tableswitch 124 1 5 #[35, 64, 80, 89, 107], 35) := by decide +kernel
theorem dX1_size_44 : decode cX1_size 44 = .ok (.aload_n 0, 1) := by decide +kernel
theorem dX1_size_45 : decode cX1_size 45 = .ok (.bipush 11, 2) := by decide +kernel
theorem dX1_size_47 : decode cX1_size 47 = .ok (.invokevirtual 52, 3) := by decide +kernel
theorem dX1_size_50 : decode cX1_size 50 = .ok (.aload_n 0, 1) := by decide +kernel
theorem dX1_size_51 : decode cX1_size 51 = .ok (.iconst 0, 1) := by decide +kernel
theorem dX1_size_52 : decode cX1_size 52 = .ok (.iload_n 2, 1) := by decide +kernel
theorem dX1_size_53 : decode cX1_size 53 = .ok (.iconst 1, 1) := by decide +kernel
theorem dX1_size_54 : decode cX1_size 54 = .ok (.iadd, 1) := by decide +kernel
theorem dX1_size_55 : decode cX1_size 55 = .ok (.invokevirtual 56, 3) := by decide +kernel
theorem dX1_size_58 : decode cX1_size 58 = .ok (.istore_n 3, 1) := by decide +kernel
theorem dX1_size_59 : decode cX1_size 59 = .ok (.iload_n 3, 1) := by decide +kernel
theorem dX1_size_60 : decode cX1_size 60 = .ok (.aload_n 0, 1) := by decide +kernel
theorem dX1_size_61 : decode cX1_size 61 = .ok (.aload_n 0, 1) := by decide +kernel
theorem dX1_size_62 : decode cX1_size 62 = .ok (.getfield 22, 3) := by decide +kernel
theorem dX1_size_65 : decode cX1_size 65 = .ok (.iload_n 2, 1) := by decide +kernel
theorem dX1_size_66 : decode cX1_size 66 = .ok (.iconst 1, 1) := by decide +kernel
theorem dX1_size_67 : decode cX1_size 67 = .ok (.iadd, 1) := by decide +kernel
theorem dX1_size_68 : decode cX1_size 68 = .ok (.invokevirtual 60, 3) := by decide +kernel
theorem dX1_size_71 : decode cX1_size 71 = .ok (.iadd, 1) := by decide +kernel
theorem dX1_size_72 : decode cX1_size 72 = .ok (.ireturn, 1) := by decide +kernel
theorem dX1_size_73 : decode cX1_size 73 = .ok (.aload_n 0, 1) := by decide +kernel
theorem dX1_size_74 : decode cX1_size 74 = .ok (.bipush 12, 2) := by decide +kernel
theorem dX1_size_76 : decode cX1_size 76 = .ok (.invokevirtual 52, 3) := by decide +kernel
theorem dX1_size_79 : decode cX1_size 79 = .ok (.aload_n 0, 1) := by decide +kernel
theorem dX1_size_80 : decode cX1_size 80 = .ok (.iconst 1, 1) := by decide +kernel
theorem dX1_size_81 : decode cX1_size 81 = .ok (.iload_n 2, 1) := by decide +kernel
theorem dX1_size_82 : decode cX1_size 82 = .ok (.iconst 1, 1) := by decide +kernel
theorem dX1_size_83 : decode cX1_size 83 = .ok (.iadd, 1) := by decide +kernel
theorem dX1_size_84 : decode cX1_size 84 = .ok (.invokevirtual 56, 3) := by decide +kernel
theorem dX1_size_87 : decode cX1_size 87 = .ok (.ineg, 1) := by decide +kernel
theorem dX1_size_88 : decode cX1_size 88 = .ok (.ireturn, 1) := by decide +kernel
theorem dX1_size_89 : decode cX1_size 89 = .ok (.aload_n 0, 1) := by decide +kernel
theorem dX1_size_90 : decode cX1_size 90 = .ok (.iconst 1, 1) := by decide +kernel
theorem dX1_size_91 : decode cX1_size 91 = .ok (.iload_n 2, 1) := by decide +kernel
theorem dX1_size_92 : decode cX1_size 92 = .ok (.iconst 1, 1) := by decide +kernel
theorem dX1_size_93 : decode cX1_size 93 = .ok (.iadd, 1) := by decide +kernel
theorem dX1_size_94 : decode cX1_size 94 = .ok (.invokevirtual 56, 3) := by decide +kernel
theorem dX1_size_97 : decode cX1_size 97 = .ok (.ireturn, 1) := by decide +kernel
theorem dX1_size_98 : decode cX1_size 98 = .ok (.aload_n 0, 1) := by decide +kernel
theorem dX1_size_99 : decode cX1_size 99 = .ok (.bipush 13, 2) := by decide +kernel
theorem dX1_size_101 : decode cX1_size 101 = .ok (.invokevirtual 52, 3) := by decide +kernel
theorem dX1_size_104 : decode cX1_size 104 = .ok (.aload_n 0, 1) := by decide +kernel
theorem dX1_size_105 : decode cX1_size 105 = .ok (.iconst 0, 1) := by decide +kernel
theorem dX1_size_106 : decode cX1_size 106 = .ok (.iload_n 2, 1) := by decide +kernel
theorem dX1_size_107 : decode cX1_size 107 = .ok (.iconst 1, 1) := by decide +kernel
theorem dX1_size_108 : decode cX1_size 108 = .ok (.iadd, 1) := by decide +kernel
theorem dX1_size_109 : decode cX1_size 109 = .ok (.invokevirtual 56, 3) := by decide +kernel
theorem dX1_size_112 : decode cX1_size 112 = .ok (.bipush 100, 2) := by decide +kernel
theorem dX1_size_114 : decode cX1_size 114 = .ok (.isub, 1) := by decide +kernel
theorem dX1_size_115 : decode cX1_size 115 = .ok (.ireturn, 1) := by decide +kernel
theorem dX1_size_116 : decode cX1_size 116 = .ok (.aload_n 0, 1) := by decide +kernel
theorem dX1_size_117 : decode cX1_size 117 = .ok (.bipush 14, 2) := by decide +kernel
theorem dX1_size_119 : decode cX1_size 119 = .ok (.invokevirtual 52, 3) := by decide +kernel
theorem dX1_size_122 : decode cX1_size 122 = .ok (.iconst 2, 1) := by decide +kernel
theorem dX1_size_123 : decode cX1_size 123 = .ok (.aload_n 0, 1) := by decide +kernel
theorem dX1_size_124 : decode cX1_size 124 = .ok (.iconst 4, 1) := by decide +kernel
theorem dX1_size_125 : decode cX1_size 125 = .ok (.iload_n 2, 1) := by decide +kernel
theorem dX1_size_126 : decode cX1_size 126 = .ok (.iconst 1, 1) := by decide +kernel
theorem dX1_size_127 : decode cX1_size 127 = .ok (.iadd, 1) := by decide +kernel
theorem dX1_size_128 : decode cX1_size 128 = .ok (.invokevirtual 56, 3) := by decide +kernel
theorem dX1_size_131 : decode cX1_size 131 = .ok (.imul, 1) := by decide +kernel
theorem dX1_size_132 : decode cX1_size 132 = .ok (.ireturn, 1) := by decide +kernel
theorem dX1_size_133 : decode cX1_size 133 = .ok (.aload_n 0, 1) := by decide +kernel
theorem dX1_size_134 : decode cX1_size 134 = .ok (.bipush 10, 2) := by decide +kernel
theorem dX1_size_136 : decode cX1_size 136 = .ok (.invokevirtual 52, 3) := by decide +kernel
theorem dX1_size_139 : decode cX1_size 139 = .ok (.aload_n 0, 1) := by decide +kernel
theorem dX1_size_140 : decode cX1_size 140 = .ok (.getfield 25, 3) := by decide +kernel
theorem dX1_size_143 : decode cX1_size 143 = .ok (.ireturn, 1) := by decide +kernel
theorem dX1_mark_0 : decode cX1_mark 0 = .ok (.iload_n 2, 1) := by decide +kernel
theorem dX1_mark_1 : decode cX1_mark 1 = .ok (.bipush 20, 2) := by decide +kernel
theorem dX1_mark_3 : decode cX1_mark 3 = .ok (.if_icmp .le 5, 3) := by decide +kernel
theorem dX1_mark_6 : decode cX1_mark 6 = .ok (.iconst 0, 1) := by decide +kernel
theorem dX1_mark_7 : decode cX1_mark 7 = .ok (.ireturn, 1) := by decide +kernel
theorem dX1_mark_8 : decode cX1_mark 8 = .ok (.iload_n 1, 1) := by decide +kernel
theorem dX1_mark_9 : decode cX1_mark 9 = .ok (.tableswitch 129 1 5 #[35, 55, 72, 91, 120], 35) := by decide +kernel
theorem dX1_mark_44 : decode cX1_mark 44 = .ok (.aload_n 0, 1) := by decide +kernel
theorem dX1_mark_45 : decode cX1_mark 45 = .ok (.bipush 21, 2) := by decide +kernel
theorem dX1_mark_47 : decode cX1_mark 47 = .ok (.invokevirtual 52, 3) := by decide +kernel
theorem dX1_mark_50 : decode cX1_mark 50 = .ok (.aload_n 0, 1) := by decide +kernel
theorem dX1_mark_51 : decode cX1_mark 51 = .ok (.iconst 0, 1) := by decide +kernel
theorem dX1_mark_52 : decode cX1_mark 52 = .ok (.iload_n 2, 1) := by decide +kernel
theorem dX1_mark_53 : decode cX1_mark 53 = .ok (.iconst 1, 1) := by decide +kernel
theorem dX1_mark_54 : decode cX1_mark 54 = .ok (.iadd, 1) := by decide +kernel
theorem dX1_mark_55 : decode cX1_mark 55 = .ok (.invokevirtual 60, 3) := by decide +kernel
theorem dX1_mark_58 : decode cX1_mark 58 = .ok (.aload_n 0, 1) := by decide +kernel
theorem dX1_mark_59 : decode cX1_mark 59 = .ok (.getfield 28, 3) := by decide +kernel
theorem dX1_mark_62 : decode cX1_mark 62 = .ok (.iadd, 1) := by decide +kernel
theorem dX1_mark_63 : decode cX1_mark 63 = .ok (.ireturn, 1) := by decide +kernel
theorem dX1_mark_64 : decode cX1_mark 64 = .ok (.aload_n 0, 1) := by decide +kernel
theorem dX1_mark_65 : decode cX1_mark 65 = .ok (.bipush 24, 2) := by decide +kernel
theorem dX1_mark_67 : decode cX1_mark 67 = .ok (.invokevirtual 52, 3) := by decide +kernel
theorem dX1_mark_70 : decode cX1_mark 70 = .ok (.iconst 2, 1) := by decide +kernel
theorem dX1_mark_71 : decode cX1_mark 71 = .ok (.aload_n 0, 1) := by decide +kernel
theorem dX1_mark_72 : decode cX1_mark 72 = .ok (.iconst 1, 1) := by decide +kernel
theorem dX1_mark_73 : decode cX1_mark 73 = .ok (.iload_n 2, 1) := by decide +kernel
theorem dX1_mark_74 : decode cX1_mark 74 = .ok (.iconst 1, 1) := by decide +kernel
theorem dX1_mark_75 : decode cX1_mark 75 = .ok (.iadd, 1) := by decide +kernel
theorem dX1_mark_76 : decode cX1_mark 76 = .ok (.invokevirtual 60, 3) := by decide +kernel
theorem dX1_mark_79 : decode cX1_mark 79 = .ok (.imul, 1) := by decide +kernel
theorem dX1_mark_80 : decode cX1_mark 80 = .ok (.ireturn, 1) := by decide +kernel
theorem dX1_mark_81 : decode cX1_mark 81 = .ok (.aload_n 0, 1) := by decide +kernel
theorem dX1_mark_82 : decode cX1_mark 82 = .ok (.bipush 22, 2) := by decide +kernel
theorem dX1_mark_84 : decode cX1_mark 84 = .ok (.invokevirtual 52, 3) := by decide +kernel
theorem dX1_mark_87 : decode cX1_mark 87 = .ok (.aload_n 0, 1) := by decide +kernel
theorem dX1_mark_88 : decode cX1_mark 88 = .ok (.iconst 1, 1) := by decide +kernel
theorem dX1_mark_89 : decode cX1_mark 89 = .ok (.iload_n 2, 1) := by decide +kernel
theorem dX1_mark_90 : decode cX1_mark 90 = .ok (.iconst 1, 1) := by decide +kernel
theorem dX1_mark_91 : decode cX1_mark 91 = .ok (.iadd, 1) := by decide +kernel
theorem dX1_mark_92 : decode cX1_mark 92 = .ok (.invokevirtual 60, 3) := by decide +kernel
theorem dX1_mark_95 : decode cX1_mark 95 = .ok (.sipush 1000, 3) := by decide +kernel
theorem dX1_mark_98 : decode cX1_mark 98 = .ok (.isub, 1) := by decide +kernel
theorem dX1_mark_99 : decode cX1_mark 99 = .ok (.ireturn, 1) := by decide +kernel
theorem dX1_mark_100 : decode cX1_mark 100 = .ok (.aload_n 0, 1) := by decide +kernel
theorem dX1_mark_101 : decode cX1_mark 101 = .ok (.bipush 23, 2) := by decide +kernel
theorem dX1_mark_103 : decode cX1_mark 103 = .ok (.invokevirtual 52, 3) := by decide +kernel
theorem dX1_mark_106 : decode cX1_mark 106 = .ok (.aload_n 0, 1) := by decide +kernel
theorem dX1_mark_107 : decode cX1_mark 107 = .ok (.iconst 0, 1) := by decide +kernel
theorem dX1_mark_108 : decode cX1_mark 108 = .ok (.iload_n 2, 1) := by decide +kernel
theorem dX1_mark_109 : decode cX1_mark 109 = .ok (.iconst 1, 1) := by decide +kernel
theorem dX1_mark_110 : decode cX1_mark 110 = .ok (.iadd, 1) := by decide +kernel
theorem dX1_mark_111 : decode cX1_mark 111 = .ok (.invokevirtual 60, 3) := by decide +kernel
theorem dX1_mark_114 : decode cX1_mark 114 = .ok (.istore_n 3, 1) := by decide +kernel
theorem dX1_mark_115 : decode cX1_mark 115 = .ok (.iload_n 3, 1) := by decide +kernel
theorem dX1_mark_116 : decode cX1_mark 116 = .ok (.aload_n 0, 1) := by decide +kernel
theorem dX1_mark_117 : decode cX1_mark 117 = .ok (.aload_n 0, 1) := by decide +kernel
theorem dX1_mark_118 : decode cX1_mark 118 = .ok (.getfield 22, 3) := by decide +kernel
theorem dX1_mark_121 : decode cX1_mark 121 = .ok (.iload_n 2, 1) := by decide +kernel
theorem dX1_mark_122 : decode cX1_mark 122 = .ok (.iconst 1, 1) := by decide +kernel
theorem dX1_mark_123 : decode cX1_mark 123 = .ok (.iadd, 1) := by decide +kernel
theorem dX1_mark_124 : decode cX1_mark 124 = .ok (.invokevirtual 56, 3) := by decide +kernel
theorem dX1_mark_127 : decode cX1_mark 127 = .ok (.isub, 1) := by decide +kernel
theorem dX1_mark_128 : decode cX1_mark 128 = .ok (.ireturn, 1) := by decide +kernel
theorem dX1_mark_129 : decode cX1_mark 129 = .ok (.aload_n 0, 1) := by decide +kernel
theorem dX1_mark_130 : decode cX1_mark 130 = .ok (.iconst 4, 1) := by decide +kernel
theorem dX1_mark_131 : decode cX1_mark 131 = .ok (.iload_n 2, 1) := by decide +kernel
theorem dX1_mark_132 : decode cX1_mark 132 = .ok (.iconst 1, 1) := by decide +kernel
theorem dX1_mark_133 : decode cX1_mark 133 = .ok (.iadd, 1) := by decide +kernel
theorem dX1_mark_134 : decode cX1_mark 134 = .ok (.invokevirtual 60, 3) := by decide +kernel
theorem dX1_mark_137 : decode cX1_mark 137 = .ok (.ireturn, 1) := by decide +kernel
theorem dX1_mark_138 : decode cX1_mark 138 = .ok (.aload_n 0, 1) := by decide +kernel
theorem dX1_mark_139 : decode cX1_mark 139 = .ok (.bipush 20, 2) := by decide +kernel
theorem dX1_mark_141 : decode cX1_mark 141 = .ok (.invokevirtual 52, 3) := by decide +kernel
theorem dX1_mark_144 : decode cX1_mark 144 = .ok (.aload_n 0, 1) := by decide +kernel
theorem dX1_mark_145 : decode cX1_mark 145 = .ok (.getfield 19, 3) := by decide +kernel
theorem dX1_mark_148 : decode cX1_mark 148 = .ok (.ireturn, 1) := by decide +kernel
theorem dX2_init_0 : decode cX2_init 0 = .ok (.aload_n 0, 1) := by decide +kernel
theorem dX2_init_1 : decode cX2_init 1 = .ok (.invokespecial 3, 3) := by decide +kernel
theorem dX2_init_4 : decode cX2_init 4 = .ok (.aload_n 0, 1) := by decide +kernel
theorem dX2_init_5 : decode cX2_init 5 = .ok (.new 9, 3) := by decide +kernel
theorem dX2_init_8 : decode cX2_init 8 = .ok (.dup, 1) := by decide +kernel
theorem dX2_init_9 : decode cX2_init 9 = .ok (.invokespecial 11, 3) := by decide +kernel
theorem dX2_init_12 : decode cX2_init 12 = .ok (.putfield 12, 3) := by decide +kernel
theorem dX2_init_15 : decode cX2_init 15 = .ok (.aload_n 0, 1) := by decide +kernel
theorem dX2_init_16 : decode cX2_init 16 = .ok (.new 18, 3) := by decide +kernel
theorem dX2_init_19 : decode cX2_init 19 = .ok (.dup, 1) := by decide +kernel
theorem dX2_init_20 : decode cX2_init 20 = .ok (.invokespecial 20, 3) := by decide +kernel
theorem dX2_init_23 : decode cX2_init 23 = .ok (.putfield 21, 3) := by decide +kernel
theorem dX2_init_26 : decode cX2_init 26 = .ok (.return_, 1) := by decide +kernel
theorem dX2_become_0 : decode cX2_become 0 = .ok (.aload_n 0, 1) := by decide +kernel
theorem dX2_become_1 : decode cX2_become 1 = .ok (.getfield 12, 3) := by decide +kernel
theorem dX2_become_4 : decode cX2_become 4 = .ok (.aload_n 1, 1) := by decide +kernel
theorem dX2_become_5 : decode cX2_become 5 = .ok (.getfield 12, 3) := by decide +kernel
theorem dX2_become_8 : decode cX2_become 8 = .ok (.invokevirtual 25, 3) := by decide +kernel
theorem dX2_become_11 : decode cX2_become 11 = .ok (.aload_n 0, 1) := by decide +kernel
theorem dX2_become_12 : decode cX2_become 12 = .ok (.getfield 21, 3) := by decide +kernel
theorem dX2_become_15 : decode cX2_become 15 = .ok (.aload_n 1, 1) := by decide +kernel
theorem dX2_become_16 : decode cX2_become 16 = .ok (.getfield 21, 3) := by decide +kernel
theorem dX2_become_19 : decode cX2_become 19 = .ok (.invokevirtual 29, 3) := by decide +kernel
theorem dX2_become_22 : decode cX2_become 22 = .ok (.return_, 1) := by decide +kernel
theorem dX2_clear_0 : decode cX2_clear 0 = .ok (.aload_n 0, 1) := by decide +kernel
theorem dX2_clear_1 : decode cX2_clear 1 = .ok (.getfield 12, 3) := by decide +kernel
theorem dX2_clear_4 : decode cX2_clear 4 = .ok (.iconst 0, 1) := by decide +kernel
theorem dX2_clear_5 : decode cX2_clear 5 = .ok (.putfield 32, 3) := by decide +kernel
theorem dX2_clear_8 : decode cX2_clear 8 = .ok (.aload_n 0, 1) := by decide +kernel
theorem dX2_clear_9 : decode cX2_clear 9 = .ok (.getfield 12, 3) := by decide +kernel
theorem dX2_clear_12 : decode cX2_clear 12 = .ok (.iconst 0, 1) := by decide +kernel
theorem dX2_clear_13 : decode cX2_clear 13 = .ok (.putfield 36, 3) := by decide +kernel
theorem dX2_clear_16 : decode cX2_clear 16 = .ok (.aload_n 0, 1) := by decide +kernel
theorem dX2_clear_17 : decode cX2_clear 17 = .ok (.getfield 21, 3) := by decide +kernel
theorem dX2_clear_20 : decode cX2_clear 20 = .ok (.iconst 0, 1) := by decide +kernel
theorem dX2_clear_21 : decode cX2_clear 21 = .ok (.putfield 39, 3) := by decide +kernel
theorem dX2_clear_24 : decode cX2_clear 24 = .ok (.aload_n 0, 1) := by decide +kernel
theorem dX2_clear_25 : decode cX2_clear 25 = .ok (.getfield 21, 3) := by decide +kernel
theorem dX2_clear_28 : decode cX2_clear 28 = .ok (.iconst 0, 1) := by decide +kernel
theorem dX2_clear_29 : decode cX2_clear 29 = .ok (.putfield 42, 3) := by decide +kernel
theorem dX2_clear_32 : decode cX2_clear 32 = .ok (.aload_n 0, 1) := by decide +kernel
theorem dX2_clear_33 : decode cX2_clear 33 = .ok (.getfield 21, 3) := by decide +kernel
theorem dX2_clear_36 : decode cX2_clear 36 = .ok (.iconst 0, 1) := by decide +kernel
theorem dX2_clear_37 : decode cX2_clear 37 = .ok (.putfield 45, 3) := by decide +kernel
theorem dX2_clear_40 : decode cX2_clear 40 = .ok (.aload_n 0, 1) := by decide +kernel
theorem dX2_clear_41 : decode cX2_clear 41 = .ok (.getfield 21, 3) := by decide +kernel
theorem dX2_clear_44 : decode cX2_clear 44 = .ok (.iconst 0, 1) := by decide +kernel
theorem dX2_clear_45 : decode cX2_clear 45 = .ok (.putfield 48, 3) := by decide +kernel
theorem dX2_clear_48 : decode cX2_clear 48 = .ok (.return_, 1) := by decide +kernel
theorem dX2_addValley_0 : decode cX2_addValley 0 = .ok (.aload_n 0, 1) := by decide +kernel
theorem dX2_addValley_1 : decode cX2_addValley 1 = .ok (.getfield 12, 3) := by decide +kernel
theorem dX2_addValley_4 : decode cX2_addValley 4 = .ok (.getfield 32, 3) := by decide +kernel
theorem dX2_addValley_7 : decode cX2_addValley 7 = .ok (.istore_n 3, 1) := by decide +kernel
theorem dX2_addValley_8 : decode cX2_addValley 8 = .ok (.iload_n 3, 1) := by decide +kernel
theorem dX2_addValley_9 : decode cX2_addValley 9 = .ok (.iconst 5, 1) := by decide +kernel
theorem dX2_addValley_10 : decode cX2_addValley 10 = .ok (.if_icmp .ge 43, 3) := by decide +kernel
theorem dX2_addValley_13 : decode cX2_addValley 13 = .ok (.aload_n 0, 1) := by decide +kernel
theorem dX2_addValley_14 : decode cX2_addValley 14 = .ok (.getfield 12, 3) := by decide +kernel
theorem dX2_addValley_17 : decode cX2_addValley 17 = .ok (.getfield 51, 3) := by decide +kernel
theorem dX2_addValley_20 : decode cX2_addValley 20 = .ok (.iload_n 3, 1) := by decide +kernel
theorem dX2_addValley_21 : decode cX2_addValley 21 = .ok (.iload_n 1, 1) := by decide +kernel
theorem dX2_addValley_22 : decode cX2_addValley 22 = .ok (.iastore, 1) := by decide +kernel
theorem dX2_addValley_23 : decode cX2_addValley 23 = .ok (.aload_n 0, 1) := by decide +kernel
theorem dX2_addValley_24 : decode cX2_addValley 24 = .ok (.getfield 12, 3) := by decide +kernel
theorem dX2_addValley_27 : decode cX2_addValley 27 = .ok (.getfield 55, 3) := by decide +kernel
theorem dX2_addValley_30 : decode cX2_addValley 30 = .ok (.iload_n 3, 1) := by decide +kernel
theorem dX2_addValley_31 : decode cX2_addValley 31 = .ok (.iload_n 2, 1) := by decide +kernel
theorem dX2_addValley_32 : decode cX2_addValley 32 = .ok (.iastore, 1) := by decide +kernel
theorem dX2_addValley_33 : decode cX2_addValley 33 = .ok (.aload_n 0, 1) := by decide +kernel
theorem dX2_addValley_34 : decode cX2_addValley 34 = .ok (.getfield 21, 3) := by decide +kernel
theorem dX2_addValley_37 : decode cX2_addValley 37 = .ok (.getfield 58, 3) := by decide +kernel
theorem dX2_addValley_40 : decode cX2_addValley 40 = .ok (.iload_n 3, 1) := by decide +kernel
theorem dX2_addValley_41 : decode cX2_addValley 41 = .ok (.iload_n 3, 1) := by decide +kernel
theorem dX2_addValley_42 : decode cX2_addValley 42 = .ok (.iastore, 1) := by decide +kernel
theorem dX2_addValley_43 : decode cX2_addValley 43 = .ok (.aload_n 0, 1) := by decide +kernel
theorem dX2_addValley_44 : decode cX2_addValley 44 = .ok (.getfield 12, 3) := by decide +kernel
theorem dX2_addValley_47 : decode cX2_addValley 47 = .ok (.iload_n 3, 1) := by decide +kernel
theorem dX2_addValley_48 : decode cX2_addValley 48 = .ok (.iconst 1, 1) := by decide +kernel
theorem dX2_addValley_49 : decode cX2_addValley 49 = .ok (.iadd, 1) := by decide +kernel
theorem dX2_addValley_50 : decode cX2_addValley 50 = .ok (.putfield 32, 3) := by decide +kernel
theorem dX2_addValley_53 : decode cX2_addValley 53 = .ok (.return_, 1) := by decide +kernel
theorem dX2_addBird_0 : decode cX2_addBird 0 = .ok (.aload_n 0, 1) := by decide +kernel
theorem dX2_addBird_1 : decode cX2_addBird 1 = .ok (.getfield 12, 3) := by decide +kernel
theorem dX2_addBird_4 : decode cX2_addBird 4 = .ok (.getfield 36, 3) := by decide +kernel
theorem dX2_addBird_7 : decode cX2_addBird 7 = .ok (.istore 5, 2) := by decide +kernel
theorem dX2_addBird_9 : decode cX2_addBird 9 = .ok (.iload 5, 2) := by decide +kernel
theorem dX2_addBird_11 : decode cX2_addBird 11 = .ok (.bipush 6, 2) := by decide +kernel
theorem dX2_addBird_13 : decode cX2_addBird 13 = .ok (.if_icmp .ge 75, 3) := by decide +kernel
theorem dX2_addBird_16 : decode cX2_addBird 16 = .ok (.aload_n 0, 1) := by decide +kernel
theorem dX2_addBird_17 : decode cX2_addBird 17 = .ok (.getfield 12, 3) := by decide +kernel
theorem dX2_addBird_20 : decode cX2_addBird 20 = .ok (.getfield 61, 3) := by decide +kernel
theorem dX2_addBird_23 : decode cX2_addBird 23 = .ok (.iload 5, 2) := by decide +kernel
theorem dX2_addBird_25 : decode cX2_addBird 25 = .ok (.iload_n 1, 1) := by decide +kernel
theorem dX2_addBird_26 : decode cX2_addBird 26 = .ok (.iastore, 1) := by decide +kernel
theorem dX2_addBird_27 : decode cX2_addBird 27 = .ok (.aload_n 0, 1) := by decide +kernel
theorem dX2_addBird_28 : decode cX2_addBird 28 = .ok (.getfield 12, 3) := by decide +kernel
theorem dX2_addBird_31 : decode cX2_addBird 31 = .ok (.getfield 64, 3) := by decide +kernel
theorem dX2_addBird_34 : decode cX2_addBird 34 = .ok (.iload 5, 2) := by decide +kernel
theorem dX2_addBird_36 : decode cX2_addBird 36 = .ok (.iload_n 3, 1) := by decide +kernel
theorem dX2_addBird_37 : decode cX2_addBird 37 = .ok (.iastore, 1) := by decide +kernel
theorem dX2_addBird_38 : decode cX2_addBird 38 = .ok (.aload_n 0, 1) := by decide +kernel
theorem dX2_addBird_39 : decode cX2_addBird 39 = .ok (.getfield 12, 3) := by decide +kernel
theorem dX2_addBird_42 : decode cX2_addBird 42 = .ok (.getfield 67, 3) := by decide +kernel
theorem dX2_addBird_45 : decode cX2_addBird 45 = .ok (.iload 5, 2) := by decide +kernel
theorem dX2_addBird_47 : decode cX2_addBird 47 = .ok (.iload 4, 2) := by decide +kernel
theorem dX2_addBird_49 : decode cX2_addBird 49 = .ok (.iastore, 1) := by decide +kernel
theorem dX2_addBird_50 : decode cX2_addBird 50 = .ok (.aload_n 0, 1) := by decide +kernel
theorem dX2_addBird_51 : decode cX2_addBird 51 = .ok (.getfield 21, 3) := by decide +kernel
theorem dX2_addBird_54 : decode cX2_addBird 54 = .ok (.getfield 70, 3) := by decide +kernel
theorem dX2_addBird_57 : decode cX2_addBird 57 = .ok (.iload 5, 2) := by decide +kernel
theorem dX2_addBird_59 : decode cX2_addBird 59 = .ok (.iload_n 2, 1) := by decide +kernel
theorem dX2_addBird_60 : decode cX2_addBird 60 = .ok (.iastore, 1) := by decide +kernel
theorem dX2_addBird_61 : decode cX2_addBird 61 = .ok (.aload_n 0, 1) := by decide +kernel
theorem dX2_addBird_62 : decode cX2_addBird 62 = .ok (.getfield 21, 3) := by decide +kernel
theorem dX2_addBird_65 : decode cX2_addBird 65 = .ok (.dup, 1) := by decide +kernel
theorem dX2_addBird_66 : decode cX2_addBird 66 = .ok (.getfield 39, 3) := by decide +kernel
theorem dX2_addBird_69 : decode cX2_addBird 69 = .ok (.iconst 1, 1) := by decide +kernel
theorem dX2_addBird_70 : decode cX2_addBird 70 = .ok (.iload 5, 2) := by decide +kernel
theorem dX2_addBird_72 : decode cX2_addBird 72 = .ok (.ishl, 1) := by decide +kernel
theorem dX2_addBird_73 : decode cX2_addBird 73 = .ok (.ior, 1) := by decide +kernel
theorem dX2_addBird_74 : decode cX2_addBird 74 = .ok (.putfield 39, 3) := by decide +kernel
theorem dX2_addBird_77 : decode cX2_addBird 77 = .ok (.aload_n 0, 1) := by decide +kernel
theorem dX2_addBird_78 : decode cX2_addBird 78 = .ok (.getfield 12, 3) := by decide +kernel
theorem dX2_addBird_81 : decode cX2_addBird 81 = .ok (.iload 5, 2) := by decide +kernel
theorem dX2_addBird_83 : decode cX2_addBird 83 = .ok (.iconst 1, 1) := by decide +kernel
theorem dX2_addBird_84 : decode cX2_addBird 84 = .ok (.iadd, 1) := by decide +kernel
theorem dX2_addBird_85 : decode cX2_addBird 85 = .ok (.putfield 36, 3) := by decide +kernel
theorem dX2_addBird_88 : decode cX2_addBird 88 = .ok (.return_, 1) := by decide +kernel
theorem dX2_isThere_0 : decode cX2_isThere 0 = .ok (.aload_n 0, 1) := by decide +kernel
theorem dX2_isThere_1 : decode cX2_isThere 1 = .ok (.getfield 12, 3) := by decide +kernel
theorem dX2_isThere_4 : decode cX2_isThere 4 = .ok (.getfield 32, 3) := by decide +kernel
theorem dX2_isThere_7 : decode cX2_isThere 7 = .ok (.ifCond .le 7, 3) := by decide +kernel
theorem dX2_isThere_10 : decode cX2_isThere 10 = .ok (.iconst 1, 1) := by decide +kernel
theorem dX2_isThere_11 : decode cX2_isThere 11 = .ok (.goto 4, 3) := by decide +kernel
theorem dX2_isThere_14 : decode cX2_isThere 14 = .ok (.iconst 0, 1) := by decide +kernel
theorem dX2_isThere_15 : decode cX2_isThere 15 = .ok (.ireturn, 1) := by decide +kernel
theorem dX2_coming_0 : decode cX2_coming 0 = .ok (.aload_n 0, 1) := by decide +kernel
theorem dX2_coming_1 : decode cX2_coming 1 = .ok (.getfield 12, 3) := by decide +kernel
theorem dX2_coming_4 : decode cX2_coming 4 = .ok (.getfield 32, 3) := by decide +kernel
theorem dX2_coming_7 : decode cX2_coming 7 = .ok (.aload_n 0, 1) := by decide +kernel
theorem dX2_coming_8 : decode cX2_coming 8 = .ok (.getfield 21, 3) := by decide +kernel
theorem dX2_coming_11 : decode cX2_coming 11 = .ok (.getfield 48, 3) := by decide +kernel
theorem dX2_coming_14 : decode cX2_coming 14 = .ok (.isub, 1) := by decide +kernel
theorem dX2_coming_15 : decode cX2_coming 15 = .ok (.ireturn, 1) := by decide +kernel
theorem dX2_nextValley_0 : decode cX2_nextValley 0 = .ok (.aload_n 0, 1) := by decide +kernel
theorem dX2_nextValley_1 : decode cX2_nextValley 1 = .ok (.getfield 21, 3) := by decide +kernel
theorem dX2_nextValley_4 : decode cX2_nextValley 4 = .ok (.getfield 58, 3) := by decide +kernel
theorem dX2_nextValley_7 : decode cX2_nextValley 7 = .ok (.aload_n 0, 1) := by decide +kernel
theorem dX2_nextValley_8 : decode cX2_nextValley 8 = .ok (.getfield 21, 3) := by decide +kernel
theorem dX2_nextValley_11 : decode cX2_nextValley 11 = .ok (.getfield 48, 3) := by decide +kernel
theorem dX2_nextValley_14 : decode cX2_nextValley 14 = .ok (.iaload, 1) := by decide +kernel
theorem dX2_nextValley_15 : decode cX2_nextValley 15 = .ok (.ireturn, 1) := by decide +kernel
theorem dX2_placeOf_0 : decode cX2_placeOf 0 = .ok (.iconst 0, 1) := by decide +kernel
theorem dX2_placeOf_1 : decode cX2_placeOf 1 = .ok (.istore_n 2, 1) := by decide +kernel
theorem dX2_placeOf_2 : decode cX2_placeOf 2 = .ok (.iload_n 2, 1) := by decide +kernel
theorem dX2_placeOf_3 : decode cX2_placeOf 3 = .ok (.aload_n 0, 1) := by decide +kernel
theorem dX2_placeOf_4 : decode cX2_placeOf 4 = .ok (.getfield 12, 3) := by decide +kernel
theorem dX2_placeOf_7 : decode cX2_placeOf 7 = .ok (.getfield 32, 3) := by decide +kernel
theorem dX2_placeOf_10 : decode cX2_placeOf 10 = .ok (.if_icmp .ge 24, 3) := by decide +kernel
theorem dX2_placeOf_13 : decode cX2_placeOf 13 = .ok (.aload_n 0, 1) := by decide +kernel
theorem dX2_placeOf_14 : decode cX2_placeOf 14 = .ok (.getfield 21, 3) := by decide +kernel
theorem dX2_placeOf_17 : decode cX2_placeOf 17 = .ok (.getfield 58, 3) := by decide +kernel
theorem dX2_placeOf_20 : decode cX2_placeOf 20 = .ok (.iload_n 2, 1) := by decide +kernel
theorem dX2_placeOf_21 : decode cX2_placeOf 21 = .ok (.iaload, 1) := by decide +kernel
theorem dX2_placeOf_22 : decode cX2_placeOf 22 = .ok (.iload_n 1, 1) := by decide +kernel
theorem dX2_placeOf_23 : decode cX2_placeOf 23 = .ok (.if_icmp .ne 5, 3) := by decide +kernel
theorem dX2_placeOf_26 : decode cX2_placeOf 26 = .ok (.iload_n 2, 1) := by decide +kernel
theorem dX2_placeOf_27 : decode cX2_placeOf 27 = .ok (.ireturn, 1) := by decide +kernel
theorem dX2_placeOf_28 : decode cX2_placeOf 28 = .ok (.iinc 2 1, 3) := by decide +kernel
theorem dX2_placeOf_31 : decode cX2_placeOf 31 = .ok (.goto (-29), 3) := by decide +kernel
theorem dX2_placeOf_34 : decode cX2_placeOf 34 = .ok (.ldc 73, 2) := by decide +kernel
theorem dX2_placeOf_36 : decode cX2_placeOf 36 = .ok (.ireturn, 1) := by decide +kernel
theorem dX2_strengthen_0 : decode cX2_strengthen 0 = .ok (.aload_n 0, 1) := by decide +kernel
theorem dX2_strengthen_1 : decode cX2_strengthen 1 = .ok (.getfield 21, 3) := by decide +kernel
theorem dX2_strengthen_4 : decode cX2_strengthen 4 = .ok (.getfield 70, 3) := by decide +kernel
theorem dX2_strengthen_7 : decode cX2_strengthen 7 = .ok (.iload_n 1, 1) := by decide +kernel
theorem dX2_strengthen_8 : decode cX2_strengthen 8 = .ok (.bipush 30, 2) := by decide +kernel
theorem dX2_strengthen_10 : decode cX2_strengthen 10 = .ok (.aload_n 0, 1) := by decide +kernel
theorem dX2_strengthen_11 : decode cX2_strengthen 11 = .ok (.getfield 21, 3) := by decide +kernel
theorem dX2_strengthen_14 : decode cX2_strengthen 14 = .ok (.getfield 70, 3) := by decide +kernel
theorem dX2_strengthen_17 : decode cX2_strengthen 17 = .ok (.iload_n 1, 1) := by decide +kernel
theorem dX2_strengthen_18 : decode cX2_strengthen 18 = .ok (.iaload, 1) := by decide +kernel
theorem dX2_strengthen_19 : decode cX2_strengthen 19 = .ok (.aload_n 0, 1) := by decide +kernel
theorem dX2_strengthen_20 : decode cX2_strengthen 20 = .ok (.getfield 12, 3) := by decide +kernel
theorem dX2_strengthen_23 : decode cX2_strengthen 23 = .ok (.getfield 74, 3) := by decide +kernel
theorem dX2_strengthen_26 : decode cX2_strengthen 26 = .ok (.iadd, 1) := by decide +kernel
theorem dX2_strengthen_27 : decode cX2_strengthen 27 = .ok (.invokestatic 77, 3) := by decide +kernel
theorem dX2_strengthen_30 : decode cX2_strengthen 30 = .ok (.iastore, 1) := by decide +kernel
theorem dX2_strengthen_31 : decode cX2_strengthen 31 = .ok (.return_, 1) := by decide +kernel
theorem dX2_weaken_0 : decode cX2_weaken 0 = .ok (.iconst 0, 1) := by decide +kernel
theorem dX2_weaken_1 : decode cX2_weaken 1 = .ok (.istore_n 2, 1) := by decide +kernel
theorem dX2_weaken_2 : decode cX2_weaken 2 = .ok (.iload_n 2, 1) := by decide +kernel
theorem dX2_weaken_3 : decode cX2_weaken 3 = .ok (.aload_n 0, 1) := by decide +kernel
theorem dX2_weaken_4 : decode cX2_weaken 4 = .ok (.getfield 12, 3) := by decide +kernel
theorem dX2_weaken_7 : decode cX2_weaken 7 = .ok (.getfield 36, 3) := by decide +kernel
theorem dX2_weaken_10 : decode cX2_weaken 10 = .ok (.if_icmp .ge 42, 3) := by decide +kernel
theorem dX2_weaken_13 : decode cX2_weaken 13 = .ok (.iload_n 1, 1) := by decide +kernel
theorem dX2_weaken_14 : decode cX2_weaken 14 = .ok (.iload_n 2, 1) := by decide +kernel
theorem dX2_weaken_15 : decode cX2_weaken 15 = .ok (.invokestatic 83, 3) := by decide +kernel
theorem dX2_weaken_18 : decode cX2_weaken 18 = .ok (.iconst 1, 1) := by decide +kernel
theorem dX2_weaken_19 : decode cX2_weaken 19 = .ok (.if_icmp .ne 27, 3) := by decide +kernel
theorem dX2_weaken_22 : decode cX2_weaken 22 = .ok (.aload_n 0, 1) := by decide +kernel
theorem dX2_weaken_23 : decode cX2_weaken 23 = .ok (.getfield 21, 3) := by decide +kernel
theorem dX2_weaken_26 : decode cX2_weaken 26 = .ok (.getfield 70, 3) := by decide +kernel
theorem dX2_weaken_29 : decode cX2_weaken 29 = .ok (.iload_n 2, 1) := by decide +kernel
theorem dX2_weaken_30 : decode cX2_weaken 30 = .ok (.iconst 0, 1) := by decide +kernel
theorem dX2_weaken_31 : decode cX2_weaken 31 = .ok (.aload_n 0, 1) := by decide +kernel
theorem dX2_weaken_32 : decode cX2_weaken 32 = .ok (.getfield 21, 3) := by decide +kernel
theorem dX2_weaken_35 : decode cX2_weaken 35 = .ok (.getfield 70, 3) := by decide +kernel
theorem dX2_weaken_38 : decode cX2_weaken 38 = .ok (.iload_n 2, 1) := by decide +kernel
theorem dX2_weaken_39 : decode cX2_weaken 39 = .ok (.iaload, 1) := by decide +kernel
theorem dX2_weaken_40 : decode cX2_weaken 40 = .ok (.iconst 5, 1) := by decide +kernel
theorem dX2_weaken_41 : decode cX2_weaken 41 = .ok (.isub, 1) := by decide +kernel
theorem dX2_weaken_42 : decode cX2_weaken 42 = .ok (.invokestatic 86, 3) := by decide +kernel
theorem dX2_weaken_45 : decode cX2_weaken 45 = .ok (.iastore, 1) := by decide +kernel
theorem dX2_weaken_46 : decode cX2_weaken 46 = .ok (.iinc 2 1, 3) := by decide +kernel
theorem dX2_weaken_49 : decode cX2_weaken 49 = .ok (.goto (-47), 3) := by decide +kernel
theorem dX2_weaken_52 : decode cX2_weaken 52 = .ok (.return_, 1) := by decide +kernel
theorem dX2_strike_0 : decode cX2_strike 0 = .ok (.aload_n 0, 1) := by decide +kernel
theorem dX2_strike_1 : decode cX2_strike 1 = .ok (.getfield 12, 3) := by decide +kernel
theorem dX2_strike_4 : decode cX2_strike 4 = .ok (.getfield 36, 3) := by decide +kernel
theorem dX2_strike_7 : decode cX2_strike 7 = .ok (.iconst 1, 1) := by decide +kernel
theorem dX2_strike_8 : decode cX2_strike 8 = .ok (.if_icmp .ge 4, 3) := by decide +kernel
theorem dX2_strike_11 : decode cX2_strike 11 = .ok (.return_, 1) := by decide +kernel
theorem dX2_strike_12 : decode cX2_strike 12 = .ok (.lload_n 1, 1) := by decide +kernel
theorem dX2_strike_13 : decode cX2_strike 13 = .ok (.aload_n 0, 1) := by decide +kernel
theorem dX2_strike_14 : decode cX2_strike 14 = .ok (.getfield 12, 3) := by decide +kernel
theorem dX2_strike_17 : decode cX2_strike 17 = .ok (.getfield 36, 3) := by decide +kernel
theorem dX2_strike_20 : decode cX2_strike 20 = .ok (.i2l, 1) := by decide +kernel
theorem dX2_strike_21 : decode cX2_strike 21 = .ok (.lrem, 1) := by decide +kernel
theorem dX2_strike_22 : decode cX2_strike 22 = .ok (.l2i, 1) := by decide +kernel
theorem dX2_strike_23 : decode cX2_strike 23 = .ok (.istore_n 3, 1) := by decide +kernel
theorem dX2_strike_24 : decode cX2_strike 24 = .ok (.lload_n 1, 1) := by decide +kernel
theorem dX2_strike_25 : decode cX2_strike 25 = .ok (.ldc2_w 89, 3) := by decide +kernel
theorem dX2_strike_28 : decode cX2_strike 28 = .ok (.lrem, 1) := by decide +kernel
theorem dX2_strike_29 : decode cX2_strike 29 = .ok (.lstore 4, 2) := by decide +kernel
theorem dX2_strike_31 : decode cX2_strike 31 = .ok (.lload 4, 2) := by decide +kernel
theorem dX2_strike_33 : decode cX2_strike 33 = .ok (.lconst 0, 1) := by decide +kernel
theorem dX2_strike_34 : decode cX2_strike 34 = .ok (.lcmp, 1) := by decide +kernel
theorem dX2_strike_35 : decode cX2_strike 35 = .ok (.ifCond .ne 27, 3) := by decide +kernel
theorem dX2_strike_38 : decode cX2_strike 38 = .ok (.aload_n 0, 1) := by decide +kernel
theorem dX2_strike_39 : decode cX2_strike 39 = .ok (.getfield 21, 3) := by decide +kernel
theorem dX2_strike_42 : decode cX2_strike 42 = .ok (.iload_n 3, 1) := by decide +kernel
theorem dX2_strike_43 : decode cX2_strike 43 = .ok (.invokevirtual 91, 3) := by decide +kernel
theorem dX2_strike_46 : decode cX2_strike 46 = .ok (.ifCond .eq 16, 3) := by decide +kernel
theorem dX2_strike_49 : decode cX2_strike 49 = .ok (.aload_n 0, 1) := by decide +kernel
theorem dX2_strike_50 : decode cX2_strike 50 = .ok (.getfield 21, 3) := by decide +kernel
theorem dX2_strike_53 : decode cX2_strike 53 = .ok (.iconst 1, 1) := by decide +kernel
theorem dX2_strike_54 : decode cX2_strike 54 = .ok (.iload_n 3, 1) := by decide +kernel
theorem dX2_strike_55 : decode cX2_strike 55 = .ok (.ishl, 1) := by decide +kernel
theorem dX2_strike_56 : decode cX2_strike 56 = .ok (.invokevirtual 95, 3) := by decide +kernel
theorem dX2_strike_59 : decode cX2_strike 59 = .ok (.goto 15, 3) := by decide +kernel
theorem dX2_strike_62 : decode cX2_strike 62 = .ok (.lload 4, 2) := by decide +kernel
theorem dX2_strike_64 : decode cX2_strike 64 = .ok (.lconst 1, 1) := by decide +kernel
theorem dX2_strike_65 : decode cX2_strike 65 = .ok (.lcmp, 1) := by decide +kernel
theorem dX2_strike_66 : decode cX2_strike 66 = .ok (.ifCond .ne 8, 3) := by decide +kernel
theorem dX2_strike_69 : decode cX2_strike 69 = .ok (.aload_n 0, 1) := by decide +kernel
theorem dX2_strike_70 : decode cX2_strike 70 = .ok (.iload_n 3, 1) := by decide +kernel
theorem dX2_strike_71 : decode cX2_strike 71 = .ok (.invokevirtual 99, 3) := by decide +kernel
theorem dX2_strike_74 : decode cX2_strike 74 = .ok (.return_, 1) := by decide +kernel
theorem dX2_loversOf_0 : decode cX2_loversOf 0 = .ok (.iconst 0, 1) := by decide +kernel
theorem dX2_loversOf_1 : decode cX2_loversOf 1 = .ok (.istore_n 2, 1) := by decide +kernel
theorem dX2_loversOf_2 : decode cX2_loversOf 2 = .ok (.iconst 0, 1) := by decide +kernel
theorem dX2_loversOf_3 : decode cX2_loversOf 3 = .ok (.istore_n 3, 1) := by decide +kernel
theorem dX2_loversOf_4 : decode cX2_loversOf 4 = .ok (.iload_n 3, 1) := by decide +kernel
theorem dX2_loversOf_5 : decode cX2_loversOf 5 = .ok (.aload_n 0, 1) := by decide +kernel
theorem dX2_loversOf_6 : decode cX2_loversOf 6 = .ok (.getfield 12, 3) := by decide +kernel
theorem dX2_loversOf_9 : decode cX2_loversOf 9 = .ok (.getfield 36, 3) := by decide +kernel
theorem dX2_loversOf_12 : decode cX2_loversOf 12 = .ok (.if_icmp .ge 41, 3) := by decide +kernel
theorem dX2_loversOf_15 : decode cX2_loversOf 15 = .ok (.iload_n 3, 1) := by decide +kernel
theorem dX2_loversOf_16 : decode cX2_loversOf 16 = .ok (.iload_n 1, 1) := by decide +kernel
theorem dX2_loversOf_17 : decode cX2_loversOf 17 = .ok (.if_icmp .eq 30, 3) := by decide +kernel
theorem dX2_loversOf_20 : decode cX2_loversOf 20 = .ok (.aload_n 0, 1) := by decide +kernel
theorem dX2_loversOf_21 : decode cX2_loversOf 21 = .ok (.getfield 21, 3) := by decide +kernel
theorem dX2_loversOf_24 : decode cX2_loversOf 24 = .ok (.iload_n 3, 1) := by decide +kernel
theorem dX2_loversOf_25 : decode cX2_loversOf 25 = .ok (.invokevirtual 91, 3) := by decide +kernel
theorem dX2_loversOf_28 : decode cX2_loversOf 28 = .ok (.ifCond .eq 19, 3) := by decide +kernel
theorem dX2_loversOf_31 : decode cX2_loversOf 31 = .ok (.aload_n 0, 1) := by decide +kernel
theorem dX2_loversOf_32 : decode cX2_loversOf 32 = .ok (.getfield 12, 3) := by decide +kernel
theorem dX2_loversOf_35 : decode cX2_loversOf 35 = .ok (.getfield 67, 3) := by decide +kernel
theorem dX2_loversOf_38 : decode cX2_loversOf 38 = .ok (.iload_n 3, 1) := by decide +kernel
theorem dX2_loversOf_39 : decode cX2_loversOf 39 = .ok (.iaload, 1) := by decide +kernel
theorem dX2_loversOf_40 : decode cX2_loversOf 40 = .ok (.iload_n 1, 1) := by decide +kernel
theorem dX2_loversOf_41 : decode cX2_loversOf 41 = .ok (.if_icmp .ne 6, 3) := by decide +kernel
theorem dX2_loversOf_44 : decode cX2_loversOf 44 = .ok (.iinc 2 1, 3) := by decide +kernel
theorem dX2_loversOf_47 : decode cX2_loversOf 47 = .ok (.iinc 3 1, 3) := by decide +kernel
theorem dX2_loversOf_50 : decode cX2_loversOf 50 = .ok (.goto (-46), 3) := by decide +kernel
theorem dX2_loversOf_53 : decode cX2_loversOf 53 = .ok (.iload_n 2, 1) := by decide +kernel
theorem dX2_loversOf_54 : decode cX2_loversOf 54 = .ok (.ireturn, 1) := by decide +kernel
theorem dX2_lossOf_0 : decode cX2_lossOf 0 = .ok (.aload_n 0, 1) := by decide +kernel
theorem dX2_lossOf_1 : decode cX2_lossOf 1 = .ok (.getfield 12, 3) := by decide +kernel
theorem dX2_lossOf_4 : decode cX2_lossOf 4 = .ok (.getfield 55, 3) := by decide +kernel
theorem dX2_lossOf_7 : decode cX2_lossOf 7 = .ok (.aload_n 0, 1) := by decide +kernel
theorem dX2_lossOf_8 : decode cX2_lossOf 8 = .ok (.invokevirtual 102, 3) := by decide +kernel
theorem dX2_lossOf_11 : decode cX2_lossOf 11 = .ok (.iaload, 1) := by decide +kernel
theorem dX2_lossOf_12 : decode cX2_lossOf 12 = .ok (.istore_n 2, 1) := by decide +kernel
theorem dX2_lossOf_13 : decode cX2_lossOf 13 = .ok (.aload_n 0, 1) := by decide +kernel
theorem dX2_lossOf_14 : decode cX2_lossOf 14 = .ok (.getfield 21, 3) := by decide +kernel
theorem dX2_lossOf_17 : decode cX2_lossOf 17 = .ok (.aload_n 0, 1) := by decide +kernel
theorem dX2_lossOf_18 : decode cX2_lossOf 18 = .ok (.getfield 12, 3) := by decide +kernel
theorem dX2_lossOf_21 : decode cX2_lossOf 21 = .ok (.getfield 67, 3) := by decide +kernel
theorem dX2_lossOf_24 : decode cX2_lossOf 24 = .ok (.iload_n 1, 1) := by decide +kernel
theorem dX2_lossOf_25 : decode cX2_lossOf 25 = .ok (.iaload, 1) := by decide +kernel
theorem dX2_lossOf_26 : decode cX2_lossOf 26 = .ok (.invokevirtual 91, 3) := by decide +kernel
theorem dX2_lossOf_29 : decode cX2_lossOf 29 = .ok (.istore_n 3, 1) := by decide +kernel
theorem dX2_lossOf_30 : decode cX2_lossOf 30 = .ok (.aload_n 0, 1) := by decide +kernel
theorem dX2_lossOf_31 : decode cX2_lossOf 31 = .ok (.getfield 12, 3) := by decide +kernel
theorem dX2_lossOf_34 : decode cX2_lossOf 34 = .ok (.getfield 61, 3) := by decide +kernel
theorem dX2_lossOf_37 : decode cX2_lossOf 37 = .ok (.iload_n 1, 1) := by decide +kernel
theorem dX2_lossOf_38 : decode cX2_lossOf 38 = .ok (.iaload, 1) := by decide +kernel
theorem dX2_lossOf_39 : decode cX2_lossOf 39 = .ok (.tableswitch 63 2 5 #[29, 39, 43, 53], 29) := by decide +kernel
theorem dX2_lossOf_68 : decode cX2_lossOf 68 = .ok (.iload_n 2, 1) := by decide +kernel
theorem dX2_lossOf_69 : decode cX2_lossOf 69 = .ok (.aload_n 0, 1) := by decide +kernel
theorem dX2_lossOf_70 : decode cX2_lossOf 70 = .ok (.getfield 21, 3) := by decide +kernel
theorem dX2_lossOf_73 : decode cX2_lossOf 73 = .ok (.getfield 45, 3) := by decide +kernel
theorem dX2_lossOf_76 : decode cX2_lossOf 76 = .ok (.iadd, 1) := by decide +kernel
theorem dX2_lossOf_77 : decode cX2_lossOf 77 = .ok (.ireturn, 1) := by decide +kernel
theorem dX2_lossOf_78 : decode cX2_lossOf 78 = .ok (.iconst 2, 1) := by decide +kernel
theorem dX2_lossOf_79 : decode cX2_lossOf 79 = .ok (.iload_n 2, 1) := by decide +kernel
theorem dX2_lossOf_80 : decode cX2_lossOf 80 = .ok (.imul, 1) := by decide +kernel
theorem dX2_lossOf_81 : decode cX2_lossOf 81 = .ok (.ireturn, 1) := by decide +kernel
theorem dX2_lossOf_82 : decode cX2_lossOf 82 = .ok (.iload_n 3, 1) := by decide +kernel
theorem dX2_lossOf_83 : decode cX2_lossOf 83 = .ok (.ifCond .eq 7, 3) := by decide +kernel
theorem dX2_lossOf_86 : decode cX2_lossOf 86 = .ok (.iconst 0, 1) := by decide +kernel
theorem dX2_lossOf_87 : decode cX2_lossOf 87 = .ok (.goto 4, 3) := by decide +kernel
theorem dX2_lossOf_90 : decode cX2_lossOf 90 = .ok (.iload_n 2, 1) := by decide +kernel
theorem dX2_lossOf_91 : decode cX2_lossOf 91 = .ok (.ireturn, 1) := by decide +kernel
theorem dX2_lossOf_92 : decode cX2_lossOf 92 = .ok (.iload_n 3, 1) := by decide +kernel
theorem dX2_lossOf_93 : decode cX2_lossOf 93 = .ok (.ifCond .eq 7, 3) := by decide +kernel
theorem dX2_lossOf_96 : decode cX2_lossOf 96 = .ok (.iconst 0, 1) := by decide +kernel
theorem dX2_lossOf_97 : decode cX2_lossOf 97 = .ok (.goto 4, 3) := by decide +kernel
theorem dX2_lossOf_100 : decode cX2_lossOf 100 = .ok (.iconst 3, 1) := by decide +kernel
theorem dX2_lossOf_101 : decode cX2_lossOf 101 = .ok (.ireturn, 1) := by decide +kernel
theorem dX2_lossOf_102 : decode cX2_lossOf 102 = .ok (.iload_n 2, 1) := by decide +kernel
theorem dX2_lossOf_103 : decode cX2_lossOf 103 = .ok (.ireturn, 1) := by decide +kernel
theorem dX2_flyNext_0 : decode cX2_flyNext 0 = .ok (.aload_n 0, 1) := by decide +kernel
theorem dX2_flyNext_1 : decode cX2_flyNext 1 = .ok (.invokevirtual 106, 3) := by decide +kernel
theorem dX2_flyNext_4 : decode cX2_flyNext 4 = .ok (.iconst 1, 1) := by decide +kernel
theorem dX2_flyNext_5 : decode cX2_flyNext 5 = .ok (.if_icmp .ge 4, 3) := by decide +kernel
theorem dX2_flyNext_8 : decode cX2_flyNext 8 = .ok (.return_, 1) := by decide +kernel
theorem dX2_flyNext_9 : decode cX2_flyNext 9 = .ok (.aload_n 0, 1) := by decide +kernel
theorem dX2_flyNext_10 : decode cX2_flyNext 10 = .ok (.invokevirtual 109, 3) := by decide +kernel
theorem dX2_flyNext_13 : decode cX2_flyNext 13 = .ok (.aload_n 0, 1) := by decide +kernel
theorem dX2_flyNext_14 : decode cX2_flyNext 14 = .ok (.getfield 21, 3) := by decide +kernel
theorem dX2_flyNext_17 : decode cX2_flyNext 17 = .ok (.aload_n 0, 1) := by decide +kernel
theorem dX2_flyNext_18 : decode cX2_flyNext 18 = .ok (.aload_n 0, 1) := by decide +kernel
theorem dX2_flyNext_19 : decode cX2_flyNext 19 = .ok (.getfield 12, 3) := by decide +kernel
theorem dX2_flyNext_22 : decode cX2_flyNext 22 = .ok (.getfield 51, 3) := by decide +kernel
theorem dX2_flyNext_25 : decode cX2_flyNext 25 = .ok (.aload_n 0, 1) := by decide +kernel
theorem dX2_flyNext_26 : decode cX2_flyNext 26 = .ok (.invokevirtual 102, 3) := by decide +kernel
theorem dX2_flyNext_29 : decode cX2_flyNext 29 = .ok (.iaload, 1) := by decide +kernel
theorem dX2_flyNext_30 : decode cX2_flyNext 30 = .ok (.invokevirtual 112, 3) := by decide +kernel
theorem dX2_flyNext_33 : decode cX2_flyNext 33 = .ok (.invokevirtual 95, 3) := by decide +kernel
theorem dX2_flyNext_36 : decode cX2_flyNext 36 = .ok (.iconst 0, 1) := by decide +kernel
theorem dX2_flyNext_37 : decode cX2_flyNext 37 = .ok (.istore_n 1, 1) := by decide +kernel
theorem dX2_flyNext_38 : decode cX2_flyNext 38 = .ok (.iload_n 1, 1) := by decide +kernel
theorem dX2_flyNext_39 : decode cX2_flyNext 39 = .ok (.bipush 6, 2) := by decide +kernel
theorem dX2_flyNext_41 : decode cX2_flyNext 41 = .ok (.if_icmp .ge 20, 3) := by decide +kernel
theorem dX2_flyNext_44 : decode cX2_flyNext 44 = .ok (.aload_n 0, 1) := by decide +kernel
theorem dX2_flyNext_45 : decode cX2_flyNext 45 = .ok (.getfield 21, 3) := by decide +kernel
theorem dX2_flyNext_48 : decode cX2_flyNext 48 = .ok (.aload_n 0, 1) := by decide +kernel
theorem dX2_flyNext_49 : decode cX2_flyNext 49 = .ok (.invokevirtual 116, 3) := by decide +kernel
theorem dX2_flyNext_52 : decode cX2_flyNext 52 = .ok (.invokevirtual 95, 3) := by decide +kernel
theorem dX2_flyNext_55 : decode cX2_flyNext 55 = .ok (.iinc 1 1, 3) := by decide +kernel
theorem dX2_flyNext_58 : decode cX2_flyNext 58 = .ok (.goto (-20), 3) := by decide +kernel
theorem dX2_flyNext_61 : decode cX2_flyNext 61 = .ok (.aload_n 0, 1) := by decide +kernel
theorem dX2_flyNext_62 : decode cX2_flyNext 62 = .ok (.getfield 21, 3) := by decide +kernel
theorem dX2_flyNext_65 : decode cX2_flyNext 65 = .ok (.dup, 1) := by decide +kernel
theorem dX2_flyNext_66 : decode cX2_flyNext 66 = .ok (.getfield 48, 3) := by decide +kernel
theorem dX2_flyNext_69 : decode cX2_flyNext 69 = .ok (.iconst 1, 1) := by decide +kernel
theorem dX2_flyNext_70 : decode cX2_flyNext 70 = .ok (.iadd, 1) := by decide +kernel
theorem dX2_flyNext_71 : decode cX2_flyNext 71 = .ok (.putfield 48, 3) := by decide +kernel
theorem dX2_flyNext_74 : decode cX2_flyNext 74 = .ok (.return_, 1) := by decide +kernel
theorem dX2_takeStrength_0 : decode cX2_takeStrength 0 = .ok (.iconst 0, 1) := by decide +kernel
theorem dX2_takeStrength_1 : decode cX2_takeStrength 1 = .ok (.istore_n 1, 1) := by decide +kernel
theorem dX2_takeStrength_2 : decode cX2_takeStrength 2 = .ok (.iload_n 1, 1) := by decide +kernel
theorem dX2_takeStrength_3 : decode cX2_takeStrength 3 = .ok (.aload_n 0, 1) := by decide +kernel
theorem dX2_takeStrength_4 : decode cX2_takeStrength 4 = .ok (.getfield 12, 3) := by decide +kernel
theorem dX2_takeStrength_7 : decode cX2_takeStrength 7 = .ok (.getfield 36, 3) := by decide +kernel
theorem dX2_takeStrength_10 : decode cX2_takeStrength 10 = .ok (.if_icmp .ge 48, 3) := by decide +kernel
theorem dX2_takeStrength_13 : decode cX2_takeStrength 13 = .ok (.aload_n 0, 1) := by decide +kernel
theorem dX2_takeStrength_14 : decode cX2_takeStrength 14 = .ok (.getfield 21, 3) := by decide +kernel
theorem dX2_takeStrength_17 : decode cX2_takeStrength 17 = .ok (.iload_n 1, 1) := by decide +kernel
theorem dX2_takeStrength_18 : decode cX2_takeStrength 18 = .ok (.invokevirtual 91, 3) := by decide +kernel
theorem dX2_takeStrength_21 : decode cX2_takeStrength 21 = .ok (.ifCond .eq 31, 3) := by decide +kernel
theorem dX2_takeStrength_24 : decode cX2_takeStrength 24 = .ok (.aload_n 0, 1) := by decide +kernel
theorem dX2_takeStrength_25 : decode cX2_takeStrength 25 = .ok (.getfield 21, 3) := by decide +kernel
theorem dX2_takeStrength_28 : decode cX2_takeStrength 28 = .ok (.getfield 70, 3) := by decide +kernel
theorem dX2_takeStrength_31 : decode cX2_takeStrength 31 = .ok (.iload_n 1, 1) := by decide +kernel
theorem dX2_takeStrength_32 : decode cX2_takeStrength 32 = .ok (.iconst 0, 1) := by decide +kernel
theorem dX2_takeStrength_33 : decode cX2_takeStrength 33 = .ok (.aload_n 0, 1) := by decide +kernel
theorem dX2_takeStrength_34 : decode cX2_takeStrength 34 = .ok (.getfield 21, 3) := by decide +kernel
theorem dX2_takeStrength_37 : decode cX2_takeStrength 37 = .ok (.getfield 70, 3) := by decide +kernel
theorem dX2_takeStrength_40 : decode cX2_takeStrength 40 = .ok (.iload_n 1, 1) := by decide +kernel
theorem dX2_takeStrength_41 : decode cX2_takeStrength 41 = .ok (.iaload, 1) := by decide +kernel
theorem dX2_takeStrength_42 : decode cX2_takeStrength 42 = .ok (.aload_n 0, 1) := by decide +kernel
theorem dX2_takeStrength_43 : decode cX2_takeStrength 43 = .ok (.iload_n 1, 1) := by decide +kernel
theorem dX2_takeStrength_44 : decode cX2_takeStrength 44 = .ok (.invokevirtual 119, 3) := by decide +kernel
theorem dX2_takeStrength_47 : decode cX2_takeStrength 47 = .ok (.isub, 1) := by decide +kernel
theorem dX2_takeStrength_48 : decode cX2_takeStrength 48 = .ok (.invokestatic 86, 3) := by decide +kernel
theorem dX2_takeStrength_51 : decode cX2_takeStrength 51 = .ok (.iastore, 1) := by decide +kernel
theorem dX2_takeStrength_52 : decode cX2_takeStrength 52 = .ok (.iinc 1 1, 3) := by decide +kernel
theorem dX2_takeStrength_55 : decode cX2_takeStrength 55 = .ok (.goto (-53), 3) := by decide +kernel
theorem dX2_takeStrength_58 : decode cX2_takeStrength 58 = .ok (.return_, 1) := by decide +kernel
theorem dX2_tooWeak_0 : decode cX2_tooWeak 0 = .ok (.iconst 0, 1) := by decide +kernel
theorem dX2_tooWeak_1 : decode cX2_tooWeak 1 = .ok (.istore_n 2, 1) := by decide +kernel
theorem dX2_tooWeak_2 : decode cX2_tooWeak 2 = .ok (.iconst 0, 1) := by decide +kernel
theorem dX2_tooWeak_3 : decode cX2_tooWeak 3 = .ok (.istore_n 3, 1) := by decide +kernel
theorem dX2_tooWeak_4 : decode cX2_tooWeak 4 = .ok (.iload_n 3, 1) := by decide +kernel
theorem dX2_tooWeak_5 : decode cX2_tooWeak 5 = .ok (.aload_n 0, 1) := by decide +kernel
theorem dX2_tooWeak_6 : decode cX2_tooWeak 6 = .ok (.getfield 12, 3) := by decide +kernel
theorem dX2_tooWeak_9 : decode cX2_tooWeak 9 = .ok (.getfield 36, 3) := by decide +kernel
theorem dX2_tooWeak_12 : decode cX2_tooWeak 12 = .ok (.if_icmp .ge 32, 3) := by decide +kernel
theorem dX2_tooWeak_15 : decode cX2_tooWeak 15 = .ok (.iload_n 2, 1) := by decide +kernel
theorem dX2_tooWeak_16 : decode cX2_tooWeak 16 = .ok (.aload_n 0, 1) := by decide +kernel
theorem dX2_tooWeak_17 : decode cX2_tooWeak 17 = .ok (.getfield 21, 3) := by decide +kernel
theorem dX2_tooWeak_20 : decode cX2_tooWeak 20 = .ok (.getfield 70, 3) := by decide +kernel
theorem dX2_tooWeak_23 : decode cX2_tooWeak 23 = .ok (.iload_n 3, 1) := by decide +kernel
theorem dX2_tooWeak_24 : decode cX2_tooWeak 24 = .ok (.iaload, 1) := by decide +kernel
theorem dX2_tooWeak_25 : decode cX2_tooWeak 25 = .ok (.iload_n 1, 1) := by decide +kernel
theorem dX2_tooWeak_26 : decode cX2_tooWeak 26 = .ok (.if_icmp .ge 9, 3) := by decide +kernel
theorem dX2_tooWeak_29 : decode cX2_tooWeak 29 = .ok (.iconst 1, 1) := by decide +kernel
theorem dX2_tooWeak_30 : decode cX2_tooWeak 30 = .ok (.iload_n 3, 1) := by decide +kernel
theorem dX2_tooWeak_31 : decode cX2_tooWeak 31 = .ok (.ishl, 1) := by decide +kernel
theorem dX2_tooWeak_32 : decode cX2_tooWeak 32 = .ok (.goto 4, 3) := by decide +kernel
theorem dX2_tooWeak_35 : decode cX2_tooWeak 35 = .ok (.iconst 0, 1) := by decide +kernel
theorem dX2_tooWeak_36 : decode cX2_tooWeak 36 = .ok (.ior, 1) := by decide +kernel
theorem dX2_tooWeak_37 : decode cX2_tooWeak 37 = .ok (.istore_n 2, 1) := by decide +kernel
theorem dX2_tooWeak_38 : decode cX2_tooWeak 38 = .ok (.iinc 3 1, 3) := by decide +kernel
theorem dX2_tooWeak_41 : decode cX2_tooWeak 41 = .ok (.goto (-37), 3) := by decide +kernel
theorem dX2_tooWeak_44 : decode cX2_tooWeak 44 = .ok (.iload_n 2, 1) := by decide +kernel
theorem dX2_tooWeak_45 : decode cX2_tooWeak 45 = .ok (.aload_n 0, 1) := by decide +kernel
theorem dX2_tooWeak_46 : decode cX2_tooWeak 46 = .ok (.getfield 21, 3) := by decide +kernel
theorem dX2_tooWeak_49 : decode cX2_tooWeak 49 = .ok (.getfield 39, 3) := by decide +kernel
theorem dX2_tooWeak_52 : decode cX2_tooWeak 52 = .ok (.iand, 1) := by decide +kernel
theorem dX2_tooWeak_53 : decode cX2_tooWeak 53 = .ok (.aload_n 0, 1) := by decide +kernel
theorem dX2_tooWeak_54 : decode cX2_tooWeak 54 = .ok (.getfield 21, 3) := by decide +kernel
theorem dX2_tooWeak_57 : decode cX2_tooWeak 57 = .ok (.getfield 42, 3) := by decide +kernel
theorem dX2_tooWeak_60 : decode cX2_tooWeak 60 = .ok (.iconst (-1), 1) := by decide +kernel
theorem dX2_tooWeak_61 : decode cX2_tooWeak 61 = .ok (.ixor, 1) := by decide +kernel
theorem dX2_tooWeak_62 : decode cX2_tooWeak 62 = .ok (.iand, 1) := by decide +kernel
theorem dX2_tooWeak_63 : decode cX2_tooWeak 63 = .ok (.ireturn, 1) := by decide +kernel
theorem dX2_leavingByOthers_0 : decode cX2_leavingByOthers 0 = .ok (.iconst 0, 1) := by decide +kernel
theorem dX2_leavingByOthers_1 : decode cX2_leavingByOthers 1 = .ok (.istore_n 1, 1) := by decide +kernel
theorem dX2_leavingByOthers_2 : decode cX2_leavingByOthers 2 = .ok (.iconst 0, 1) := by decide +kernel
theorem dX2_leavingByOthers_3 : decode cX2_leavingByOthers 3 = .ok (.istore_n 2, 1) := by decide +kernel
theorem dX2_leavingByOthers_4 : decode cX2_leavingByOthers 4 = .ok (.iload_n 2, 1) := by decide +kernel
theorem dX2_leavingByOthers_5 : decode cX2_leavingByOthers 5 = .ok (.aload_n 0, 1) := by decide +kernel
theorem dX2_leavingByOthers_6 : decode cX2_leavingByOthers 6 = .ok (.getfield 12, 3) := by decide +kernel
theorem dX2_leavingByOthers_9 : decode cX2_leavingByOthers 9 = .ok (.getfield 36, 3) := by decide +kernel
theorem dX2_leavingByOthers_12 : decode cX2_leavingByOthers 12 = .ok (.if_icmp .ge 44, 3) := by decide +kernel
theorem dX2_leavingByOthers_15 : decode cX2_leavingByOthers 15 = .ok (.aload_n 0, 1) := by decide +kernel
theorem dX2_leavingByOthers_16 : decode cX2_leavingByOthers 16 = .ok (.getfield 12, 3) := by decide +kernel
theorem dX2_leavingByOthers_19 : decode cX2_leavingByOthers 19 = .ok (.getfield 64, 3) := by decide +kernel
theorem dX2_leavingByOthers_22 : decode cX2_leavingByOthers 22 = .ok (.iload_n 2, 1) := by decide +kernel
theorem dX2_leavingByOthers_23 : decode cX2_leavingByOthers 23 = .ok (.iaload, 1) := by decide +kernel
theorem dX2_leavingByOthers_24 : decode cX2_leavingByOthers 24 = .ok (.istore_n 3, 1) := by decide +kernel
theorem dX2_leavingByOthers_25 : decode cX2_leavingByOthers 25 = .ok (.iload_n 1, 1) := by decide +kernel
theorem dX2_leavingByOthers_26 : decode cX2_leavingByOthers 26 = .ok (.iload_n 3, 1) := by decide +kernel
theorem dX2_leavingByOthers_27 : decode cX2_leavingByOthers 27 = .ok (.ifCond .le 20, 3) := by decide +kernel
theorem dX2_leavingByOthers_30 : decode cX2_leavingByOthers 30 = .ok (.iload_n 3, 1) := by decide +kernel
theorem dX2_leavingByOthers_31 : decode cX2_leavingByOthers 31 = .ok (.aload_n 0, 1) := by decide +kernel
theorem dX2_leavingByOthers_32 : decode cX2_leavingByOthers 32 = .ok (.getfield 21, 3) := by decide +kernel
theorem dX2_leavingByOthers_35 : decode cX2_leavingByOthers 35 = .ok (.getfield 45, 3) := by decide +kernel
theorem dX2_leavingByOthers_38 : decode cX2_leavingByOthers 38 = .ok (.if_icmp .gt 9, 3) := by decide +kernel
theorem dX2_leavingByOthers_41 : decode cX2_leavingByOthers 41 = .ok (.iconst 1, 1) := by decide +kernel
theorem dX2_leavingByOthers_42 : decode cX2_leavingByOthers 42 = .ok (.iload_n 2, 1) := by decide +kernel
theorem dX2_leavingByOthers_43 : decode cX2_leavingByOthers 43 = .ok (.ishl, 1) := by decide +kernel
theorem dX2_leavingByOthers_44 : decode cX2_leavingByOthers 44 = .ok (.goto 4, 3) := by decide +kernel
theorem dX2_leavingByOthers_47 : decode cX2_leavingByOthers 47 = .ok (.iconst 0, 1) := by decide +kernel
theorem dX2_leavingByOthers_48 : decode cX2_leavingByOthers 48 = .ok (.ior, 1) := by decide +kernel
theorem dX2_leavingByOthers_49 : decode cX2_leavingByOthers 49 = .ok (.istore_n 1, 1) := by decide +kernel
theorem dX2_leavingByOthers_50 : decode cX2_leavingByOthers 50 = .ok (.iinc 2 1, 3) := by decide +kernel
theorem dX2_leavingByOthers_53 : decode cX2_leavingByOthers 53 = .ok (.goto (-49), 3) := by decide +kernel
theorem dX2_leavingByOthers_56 : decode cX2_leavingByOthers 56 = .ok (.iload_n 1, 1) := by decide +kernel
theorem dX2_leavingByOthers_57 : decode cX2_leavingByOthers 57 = .ok (.aload_n 0, 1) := by decide +kernel
theorem dX2_leavingByOthers_58 : decode cX2_leavingByOthers 58 = .ok (.getfield 21, 3) := by decide +kernel
theorem dX2_leavingByOthers_61 : decode cX2_leavingByOthers 61 = .ok (.getfield 39, 3) := by decide +kernel
theorem dX2_leavingByOthers_64 : decode cX2_leavingByOthers 64 = .ok (.iand, 1) := by decide +kernel
theorem dX2_leavingByOthers_65 : decode cX2_leavingByOthers 65 = .ok (.aload_n 0, 1) := by decide +kernel
theorem dX2_leavingByOthers_66 : decode cX2_leavingByOthers 66 = .ok (.getfield 21, 3) := by decide +kernel
theorem dX2_leavingByOthers_69 : decode cX2_leavingByOthers 69 = .ok (.getfield 42, 3) := by decide +kernel
theorem dX2_leavingByOthers_72 : decode cX2_leavingByOthers 72 = .ok (.iconst (-1), 1) := by decide +kernel
theorem dX2_leavingByOthers_73 : decode cX2_leavingByOthers 73 = .ok (.ixor, 1) := by decide +kernel
theorem dX2_leavingByOthers_74 : decode cX2_leavingByOthers 74 = .ok (.iand, 1) := by decide +kernel
theorem dX2_leavingByOthers_75 : decode cX2_leavingByOthers 75 = .ok (.ireturn, 1) := by decide +kernel
theorem dX2_arriving_0 : decode cX2_arriving 0 = .ok (.iconst 0, 1) := by decide +kernel
theorem dX2_arriving_1 : decode cX2_arriving 1 = .ok (.istore_n 1, 1) := by decide +kernel
theorem dX2_arriving_2 : decode cX2_arriving 2 = .ok (.iload_n 1, 1) := by decide +kernel
theorem dX2_arriving_3 : decode cX2_arriving 3 = .ok (.iconst 5, 1) := by decide +kernel
theorem dX2_arriving_4 : decode cX2_arriving 4 = .ok (.if_icmp .ge 13, 3) := by decide +kernel
theorem dX2_arriving_7 : decode cX2_arriving 7 = .ok (.aload_n 0, 1) := by decide +kernel
theorem dX2_arriving_8 : decode cX2_arriving 8 = .ok (.invokevirtual 122, 3) := by decide +kernel
theorem dX2_arriving_11 : decode cX2_arriving 11 = .ok (.iinc 1 1, 3) := by decide +kernel
theorem dX2_arriving_14 : decode cX2_arriving 14 = .ok (.goto (-12), 3) := by decide +kernel
theorem dX2_arriving_17 : decode cX2_arriving 17 = .ok (.aload_n 0, 1) := by decide +kernel
theorem dX2_arriving_18 : decode cX2_arriving 18 = .ok (.getfield 21, 3) := by decide +kernel
theorem dX2_arriving_21 : decode cX2_arriving 21 = .ok (.getfield 39, 3) := by decide +kernel
theorem dX2_arriving_24 : decode cX2_arriving 24 = .ok (.ireturn, 1) := by decide +kernel
theorem dX3_init_0 : decode cX3_init 0 = .ok (.aload_n 0, 1) := by decide +kernel
theorem dX3_init_1 : decode cX3_init 1 = .ok (.invokespecial 3, 3) := by decide +kernel
theorem dX3_init_4 : decode cX3_init 4 = .ok (.aload_n 0, 1) := by decide +kernel
theorem dX3_init_5 : decode cX3_init 5 = .ok (.iconst 0, 1) := by decide +kernel
theorem dX3_init_6 : decode cX3_init 6 = .ok (.putfield 9, 3) := by decide +kernel
theorem dX3_init_9 : decode cX3_init 9 = .ok (.aload_n 0, 1) := by decide +kernel
theorem dX3_init_10 : decode cX3_init 10 = .ok (.iconst 0, 1) := by decide +kernel
theorem dX3_init_11 : decode cX3_init 11 = .ok (.putfield 15, 3) := by decide +kernel
theorem dX3_init_14 : decode cX3_init 14 = .ok (.aload_n 0, 1) := by decide +kernel
theorem dX3_init_15 : decode cX3_init 15 = .ok (.iconst 0, 1) := by decide +kernel
theorem dX3_init_16 : decode cX3_init 16 = .ok (.putfield 18, 3) := by decide +kernel
theorem dX3_init_19 : decode cX3_init 19 = .ok (.aload_n 0, 1) := by decide +kernel
theorem dX3_init_20 : decode cX3_init 20 = .ok (.iconst 0, 1) := by decide +kernel
theorem dX3_init_21 : decode cX3_init 21 = .ok (.putfield 21, 3) := by decide +kernel
theorem dX3_init_24 : decode cX3_init 24 = .ok (.aload_n 0, 1) := by decide +kernel
theorem dX3_init_25 : decode cX3_init 25 = .ok (.bipush 6, 2) := by decide +kernel
theorem dX3_init_27 : decode cX3_init 27 = .ok (.newarray .int, 2) := by decide +kernel
theorem dX3_init_29 : decode cX3_init 29 = .ok (.putfield 24, 3) := by decide +kernel
theorem dX3_init_32 : decode cX3_init 32 = .ok (.aload_n 0, 1) := by decide +kernel
theorem dX3_init_33 : decode cX3_init 33 = .ok (.iconst 5, 1) := by decide +kernel
theorem dX3_init_34 : decode cX3_init 34 = .ok (.newarray .int, 2) := by decide +kernel
theorem dX3_init_36 : decode cX3_init 36 = .ok (.putfield 28, 3) := by decide +kernel
theorem dX3_init_39 : decode cX3_init 39 = .ok (.return_, 1) := by decide +kernel
theorem dX3_become_0 : decode cX3_become 0 = .ok (.aload_n 0, 1) := by decide +kernel
theorem dX3_become_1 : decode cX3_become 1 = .ok (.aload_n 1, 1) := by decide +kernel
theorem dX3_become_2 : decode cX3_become 2 = .ok (.getfield 9, 3) := by decide +kernel
theorem dX3_become_5 : decode cX3_become 5 = .ok (.putfield 9, 3) := by decide +kernel
theorem dX3_become_8 : decode cX3_become 8 = .ok (.aload_n 0, 1) := by decide +kernel
theorem dX3_become_9 : decode cX3_become 9 = .ok (.aload_n 1, 1) := by decide +kernel
theorem dX3_become_10 : decode cX3_become 10 = .ok (.getfield 15, 3) := by decide +kernel
theorem dX3_become_13 : decode cX3_become 13 = .ok (.putfield 15, 3) := by decide +kernel
theorem dX3_become_16 : decode cX3_become 16 = .ok (.aload_n 0, 1) := by decide +kernel
theorem dX3_become_17 : decode cX3_become 17 = .ok (.aload_n 1, 1) := by decide +kernel
theorem dX3_become_18 : decode cX3_become 18 = .ok (.getfield 18, 3) := by decide +kernel
theorem dX3_become_21 : decode cX3_become 21 = .ok (.putfield 18, 3) := by decide +kernel
theorem dX3_become_24 : decode cX3_become 24 = .ok (.aload_n 0, 1) := by decide +kernel
theorem dX3_become_25 : decode cX3_become 25 = .ok (.aload_n 1, 1) := by decide +kernel
theorem dX3_become_26 : decode cX3_become 26 = .ok (.getfield 21, 3) := by decide +kernel
theorem dX3_become_29 : decode cX3_become 29 = .ok (.putfield 21, 3) := by decide +kernel
theorem dX3_become_32 : decode cX3_become 32 = .ok (.aload_n 1, 1) := by decide +kernel
theorem dX3_become_33 : decode cX3_become 33 = .ok (.getfield 24, 3) := by decide +kernel
theorem dX3_become_36 : decode cX3_become 36 = .ok (.iconst 0, 1) := by decide +kernel
theorem dX3_become_37 : decode cX3_become 37 = .ok (.aload_n 0, 1) := by decide +kernel
theorem dX3_become_38 : decode cX3_become 38 = .ok (.getfield 24, 3) := by decide +kernel
theorem dX3_become_41 : decode cX3_become 41 = .ok (.iconst 0, 1) := by decide +kernel
theorem dX3_become_42 : decode cX3_become 42 = .ok (.bipush 6, 2) := by decide +kernel
theorem dX3_become_44 : decode cX3_become 44 = .ok (.invokestatic 31, 3) := by decide +kernel
theorem dX3_become_47 : decode cX3_become 47 = .ok (.aload_n 1, 1) := by decide +kernel
theorem dX3_become_48 : decode cX3_become 48 = .ok (.getfield 28, 3) := by decide +kernel
theorem dX3_become_51 : decode cX3_become 51 = .ok (.iconst 0, 1) := by decide +kernel
theorem dX3_become_52 : decode cX3_become 52 = .ok (.aload_n 0, 1) := by decide +kernel
theorem dX3_become_53 : decode cX3_become 53 = .ok (.getfield 28, 3) := by decide +kernel
theorem dX3_become_56 : decode cX3_become 56 = .ok (.iconst 0, 1) := by decide +kernel
theorem dX3_become_57 : decode cX3_become 57 = .ok (.iconst 5, 1) := by decide +kernel
theorem dX3_become_58 : decode cX3_become 58 = .ok (.invokestatic 31, 3) := by decide +kernel
theorem dX3_become_61 : decode cX3_become 61 = .ok (.return_, 1) := by decide +kernel
theorem dX3_flies_0 : decode cX3_flies 0 = .ok (.aload_n 0, 1) := by decide +kernel
theorem dX3_flies_1 : decode cX3_flies 1 = .ok (.getfield 9, 3) := by decide +kernel
theorem dX3_flies_4 : decode cX3_flies 4 = .ok (.iload_n 1, 1) := by decide +kernel
theorem dX3_flies_5 : decode cX3_flies 5 = .ok (.ishr, 1) := by decide +kernel
theorem dX3_flies_6 : decode cX3_flies 6 = .ok (.iconst 1, 1) := by decide +kernel
theorem dX3_flies_7 : decode cX3_flies 7 = .ok (.iand, 1) := by decide +kernel
theorem dX3_flies_8 : decode cX3_flies 8 = .ok (.iconst 1, 1) := by decide +kernel
theorem dX3_flies_9 : decode cX3_flies 9 = .ok (.if_icmp .ne 7, 3) := by decide +kernel
theorem dX3_flies_12 : decode cX3_flies 12 = .ok (.iconst 1, 1) := by decide +kernel
theorem dX3_flies_13 : decode cX3_flies 13 = .ok (.goto 4, 3) := by decide +kernel
theorem dX3_flies_16 : decode cX3_flies 16 = .ok (.iconst 0, 1) := by decide +kernel
theorem dX3_flies_17 : decode cX3_flies 17 = .ok (.ireturn, 1) := by decide +kernel
theorem dX3_turnBack_0 : decode cX3_turnBack 0 = .ok (.aload_n 0, 1) := by decide +kernel
theorem dX3_turnBack_1 : decode cX3_turnBack 1 = .ok (.dup, 1) := by decide +kernel
theorem dX3_turnBack_2 : decode cX3_turnBack 2 = .ok (.getfield 9, 3) := by decide +kernel
theorem dX3_turnBack_5 : decode cX3_turnBack 5 = .ok (.iload_n 1, 1) := by decide +kernel
theorem dX3_turnBack_6 : decode cX3_turnBack 6 = .ok (.iconst (-1), 1) := by decide +kernel
theorem dX3_turnBack_7 : decode cX3_turnBack 7 = .ok (.ixor, 1) := by decide +kernel
theorem dX3_turnBack_8 : decode cX3_turnBack 8 = .ok (.iand, 1) := by decide +kernel
theorem dX3_turnBack_9 : decode cX3_turnBack 9 = .ok (.putfield 9, 3) := by decide +kernel
theorem dX3_turnBack_12 : decode cX3_turnBack 12 = .ok (.aload_n 0, 1) := by decide +kernel
theorem dX3_turnBack_13 : decode cX3_turnBack 13 = .ok (.dup, 1) := by decide +kernel
theorem dX3_turnBack_14 : decode cX3_turnBack 14 = .ok (.getfield 18, 3) := by decide +kernel
theorem dX3_turnBack_17 : decode cX3_turnBack 17 = .ok (.iload_n 1, 1) := by decide +kernel
theorem dX3_turnBack_18 : decode cX3_turnBack 18 = .ok (.invokestatic 37, 3) := by decide +kernel
theorem dX3_turnBack_21 : decode cX3_turnBack 21 = .ok (.iadd, 1) := by decide +kernel
theorem dX3_turnBack_22 : decode cX3_turnBack 22 = .ok (.putfield 18, 3) := by decide +kernel
theorem dX3_turnBack_25 : decode cX3_turnBack 25 = .ok (.return_, 1) := by decide +kernel
theorem dX4_init_0 : decode cX4_init 0 = .ok (.aload_n 0, 1) := by decide +kernel
theorem dX4_init_1 : decode cX4_init 1 = .ok (.invokespecial 3, 3) := by decide +kernel
theorem dX4_init_4 : decode cX4_init 4 = .ok (.aload_n 0, 1) := by decide +kernel
theorem dX4_init_5 : decode cX4_init 5 = .ok (.iconst 5, 1) := by decide +kernel
theorem dX4_init_6 : decode cX4_init 6 = .ok (.newarray .int, 2) := by decide +kernel
theorem dX4_init_8 : decode cX4_init 8 = .ok (.putfield 9, 3) := by decide +kernel
theorem dX4_init_11 : decode cX4_init 11 = .ok (.aload_n 0, 1) := by decide +kernel
theorem dX4_init_12 : decode cX4_init 12 = .ok (.iconst 5, 1) := by decide +kernel
theorem dX4_init_13 : decode cX4_init 13 = .ok (.newarray .int, 2) := by decide +kernel
theorem dX4_init_15 : decode cX4_init 15 = .ok (.putfield 15, 3) := by decide +kernel
theorem dX4_init_18 : decode cX4_init 18 = .ok (.aload_n 0, 1) := by decide +kernel
theorem dX4_init_19 : decode cX4_init 19 = .ok (.iconst 0, 1) := by decide +kernel
theorem dX4_init_20 : decode cX4_init 20 = .ok (.putfield 18, 3) := by decide +kernel
theorem dX4_init_23 : decode cX4_init 23 = .ok (.aload_n 0, 1) := by decide +kernel
theorem dX4_init_24 : decode cX4_init 24 = .ok (.iconst 0, 1) := by decide +kernel
theorem dX4_init_25 : decode cX4_init 25 = .ok (.putfield 22, 3) := by decide +kernel
theorem dX4_init_28 : decode cX4_init 28 = .ok (.return_, 1) := by decide +kernel
theorem dX4_begin_0 : decode cX4_begin 0 = .ok (.aload_n 0, 1) := by decide +kernel
theorem dX4_begin_1 : decode cX4_begin 1 = .ok (.iload_n 3, 1) := by decide +kernel
theorem dX4_begin_2 : decode cX4_begin 2 = .ok (.putfield 18, 3) := by decide +kernel
theorem dX4_begin_5 : decode cX4_begin 5 = .ok (.aload_n 0, 1) := by decide +kernel
theorem dX4_begin_6 : decode cX4_begin 6 = .ok (.iconst (-1), 1) := by decide +kernel
theorem dX4_begin_7 : decode cX4_begin 7 = .ok (.putfield 22, 3) := by decide +kernel
theorem dX4_begin_10 : decode cX4_begin 10 = .ok (.aload_n 1, 1) := by decide +kernel
theorem dX4_begin_11 : decode cX4_begin 11 = .ok (.iload_n 2, 1) := by decide +kernel
theorem dX4_begin_12 : decode cX4_begin 12 = .ok (.aload_n 0, 1) := by decide +kernel
theorem dX4_begin_13 : decode cX4_begin 13 = .ok (.getfield 9, 3) := by decide +kernel
theorem dX4_begin_16 : decode cX4_begin 16 = .ok (.iconst 0, 1) := by decide +kernel
theorem dX4_begin_17 : decode cX4_begin 17 = .ok (.iload_n 3, 1) := by decide +kernel
theorem dX4_begin_18 : decode cX4_begin 18 = .ok (.invokestatic 25, 3) := by decide +kernel
theorem dX4_begin_21 : decode cX4_begin 21 = .ok (.aload_n 0, 1) := by decide +kernel
theorem dX4_begin_22 : decode cX4_begin 22 = .ok (.iconst 0, 1) := by decide +kernel
theorem dX4_begin_23 : decode cX4_begin 23 = .ok (.invokevirtual 31, 3) := by decide +kernel
theorem dX4_begin_26 : decode cX4_begin 26 = .ok (.return_, 1) := by decide +kernel
theorem dX4_layInto_0 : decode cX4_layInto 0 = .ok (.aload_n 0, 1) := by decide +kernel
theorem dX4_layInto_1 : decode cX4_layInto 1 = .ok (.getfield 9, 3) := by decide +kernel
theorem dX4_layInto_4 : decode cX4_layInto 4 = .ok (.iconst 0, 1) := by decide +kernel
theorem dX4_layInto_5 : decode cX4_layInto 5 = .ok (.aload_n 1, 1) := by decide +kernel
theorem dX4_layInto_6 : decode cX4_layInto 6 = .ok (.iload_n 2, 1) := by decide +kernel
theorem dX4_layInto_7 : decode cX4_layInto 7 = .ok (.aload_n 0, 1) := by decide +kernel
theorem dX4_layInto_8 : decode cX4_layInto 8 = .ok (.getfield 18, 3) := by decide +kernel
theorem dX4_layInto_11 : decode cX4_layInto 11 = .ok (.invokestatic 25, 3) := by decide +kernel
theorem dX4_layInto_14 : decode cX4_layInto 14 = .ok (.return_, 1) := by decide +kernel
theorem dX4_weigh_0 : decode cX4_weigh 0 = .ok (.iload_n 1, 1) := by decide +kernel
theorem dX4_weigh_1 : decode cX4_weigh 1 = .ok (.aload_n 0, 1) := by decide +kernel
theorem dX4_weigh_2 : decode cX4_weigh 2 = .ok (.getfield 22, 3) := by decide +kernel
theorem dX4_weigh_5 : decode cX4_weigh 5 = .ok (.if_icmp .le 25, 3) := by decide +kernel
theorem dX4_weigh_8 : decode cX4_weigh 8 = .ok (.aload_n 0, 1) := by decide +kernel
theorem dX4_weigh_9 : decode cX4_weigh 9 = .ok (.iload_n 1, 1) := by decide +kernel
theorem dX4_weigh_10 : decode cX4_weigh 10 = .ok (.putfield 22, 3) := by decide +kernel
theorem dX4_weigh_13 : decode cX4_weigh 13 = .ok (.aload_n 0, 1) := by decide +kernel
theorem dX4_weigh_14 : decode cX4_weigh 14 = .ok (.getfield 9, 3) := by decide +kernel
theorem dX4_weigh_17 : decode cX4_weigh 17 = .ok (.iconst 0, 1) := by decide +kernel
theorem dX4_weigh_18 : decode cX4_weigh 18 = .ok (.aload_n 0, 1) := by decide +kernel
theorem dX4_weigh_19 : decode cX4_weigh 19 = .ok (.getfield 15, 3) := by decide +kernel
theorem dX4_weigh_22 : decode cX4_weigh 22 = .ok (.iconst 0, 1) := by decide +kernel
theorem dX4_weigh_23 : decode cX4_weigh 23 = .ok (.aload_n 0, 1) := by decide +kernel
theorem dX4_weigh_24 : decode cX4_weigh 24 = .ok (.getfield 18, 3) := by decide +kernel
theorem dX4_weigh_27 : decode cX4_weigh 27 = .ok (.invokestatic 25, 3) := by decide +kernel
theorem dX4_weigh_30 : decode cX4_weigh 30 = .ok (.return_, 1) := by decide +kernel
theorem dX4_stepOn_0 : decode cX4_stepOn 0 = .ok (.aload_n 0, 1) := by decide +kernel
theorem dX4_stepOn_1 : decode cX4_stepOn 1 = .ok (.getfield 18, 3) := by decide +kernel
theorem dX4_stepOn_4 : decode cX4_stepOn 4 = .ok (.iconst 2, 1) := by decide +kernel
theorem dX4_stepOn_5 : decode cX4_stepOn 5 = .ok (.isub, 1) := by decide +kernel
theorem dX4_stepOn_6 : decode cX4_stepOn 6 = .ok (.istore_n 1, 1) := by decide +kernel
theorem dX4_stepOn_7 : decode cX4_stepOn 7 = .ok (.iload_n 1, 1) := by decide +kernel
theorem dX4_stepOn_8 : decode cX4_stepOn 8 = .ok (.ifCond .lt 26, 3) := by decide +kernel
theorem dX4_stepOn_11 : decode cX4_stepOn 11 = .ok (.aload_n 0, 1) := by decide +kernel
theorem dX4_stepOn_12 : decode cX4_stepOn 12 = .ok (.getfield 9, 3) := by decide +kernel
theorem dX4_stepOn_15 : decode cX4_stepOn 15 = .ok (.iload_n 1, 1) := by decide +kernel
theorem dX4_stepOn_16 : decode cX4_stepOn 16 = .ok (.iaload, 1) := by decide +kernel
theorem dX4_stepOn_17 : decode cX4_stepOn 17 = .ok (.aload_n 0, 1) := by decide +kernel
theorem dX4_stepOn_18 : decode cX4_stepOn 18 = .ok (.getfield 9, 3) := by decide +kernel
theorem dX4_stepOn_21 : decode cX4_stepOn 21 = .ok (.iload_n 1, 1) := by decide +kernel
theorem dX4_stepOn_22 : decode cX4_stepOn 22 = .ok (.iconst 1, 1) := by decide +kernel
theorem dX4_stepOn_23 : decode cX4_stepOn 23 = .ok (.iadd, 1) := by decide +kernel
theorem dX4_stepOn_24 : decode cX4_stepOn 24 = .ok (.iaload, 1) := by decide +kernel
theorem dX4_stepOn_25 : decode cX4_stepOn 25 = .ok (.if_icmp .le 9, 3) := by decide +kernel
theorem dX4_stepOn_28 : decode cX4_stepOn 28 = .ok (.iinc 1 (-1), 3) := by decide +kernel
theorem dX4_stepOn_31 : decode cX4_stepOn 31 = .ok (.goto (-24), 3) := by decide +kernel
theorem dX4_stepOn_34 : decode cX4_stepOn 34 = .ok (.iload_n 1, 1) := by decide +kernel
theorem dX4_stepOn_35 : decode cX4_stepOn 35 = .ok (.ifCond .ge 5, 3) := by decide +kernel
theorem dX4_stepOn_38 : decode cX4_stepOn 38 = .ok (.iconst 0, 1) := by decide +kernel
theorem dX4_stepOn_39 : decode cX4_stepOn 39 = .ok (.ireturn, 1) := by decide +kernel
theorem dX4_stepOn_40 : decode cX4_stepOn 40 = .ok (.aload_n 0, 1) := by decide +kernel
theorem dX4_stepOn_41 : decode cX4_stepOn 41 = .ok (.getfield 18, 3) := by decide +kernel
theorem dX4_stepOn_44 : decode cX4_stepOn 44 = .ok (.iconst 1, 1) := by decide +kernel
theorem dX4_stepOn_45 : decode cX4_stepOn 45 = .ok (.isub, 1) := by decide +kernel
theorem dX4_stepOn_46 : decode cX4_stepOn 46 = .ok (.istore_n 2, 1) := by decide +kernel
theorem dX4_stepOn_47 : decode cX4_stepOn 47 = .ok (.iload_n 2, 1) := by decide +kernel
theorem dX4_stepOn_48 : decode cX4_stepOn 48 = .ok (.iload_n 1, 1) := by decide +kernel
theorem dX4_stepOn_49 : decode cX4_stepOn 49 = .ok (.iconst 1, 1) := by decide +kernel
theorem dX4_stepOn_50 : decode cX4_stepOn 50 = .ok (.iadd, 1) := by decide +kernel
theorem dX4_stepOn_51 : decode cX4_stepOn 51 = .ok (.if_icmp .le 24, 3) := by decide +kernel
theorem dX4_stepOn_54 : decode cX4_stepOn 54 = .ok (.aload_n 0, 1) := by decide +kernel
theorem dX4_stepOn_55 : decode cX4_stepOn 55 = .ok (.getfield 9, 3) := by decide +kernel
theorem dX4_stepOn_58 : decode cX4_stepOn 58 = .ok (.iload_n 2, 1) := by decide +kernel
theorem dX4_stepOn_59 : decode cX4_stepOn 59 = .ok (.iaload, 1) := by decide +kernel
theorem dX4_stepOn_60 : decode cX4_stepOn 60 = .ok (.aload_n 0, 1) := by decide +kernel
theorem dX4_stepOn_61 : decode cX4_stepOn 61 = .ok (.getfield 9, 3) := by decide +kernel
theorem dX4_stepOn_64 : decode cX4_stepOn 64 = .ok (.iload_n 1, 1) := by decide +kernel
theorem dX4_stepOn_65 : decode cX4_stepOn 65 = .ok (.iaload, 1) := by decide +kernel
theorem dX4_stepOn_66 : decode cX4_stepOn 66 = .ok (.if_icmp .ge 9, 3) := by decide +kernel
theorem dX4_stepOn_69 : decode cX4_stepOn 69 = .ok (.iinc 2 (-1), 3) := by decide +kernel
theorem dX4_stepOn_72 : decode cX4_stepOn 72 = .ok (.goto (-25), 3) := by decide +kernel
theorem dX4_stepOn_75 : decode cX4_stepOn 75 = .ok (.aload_n 0, 1) := by decide +kernel
theorem dX4_stepOn_76 : decode cX4_stepOn 76 = .ok (.getfield 9, 3) := by decide +kernel
theorem dX4_stepOn_79 : decode cX4_stepOn 79 = .ok (.iload_n 1, 1) := by decide +kernel
theorem dX4_stepOn_80 : decode cX4_stepOn 80 = .ok (.iload_n 2, 1) := by decide +kernel
theorem dX4_stepOn_81 : decode cX4_stepOn 81 = .ok (.invokestatic 35, 3) := by decide +kernel
theorem dX4_stepOn_84 : decode cX4_stepOn 84 = .ok (.aload_n 0, 1) := by decide +kernel
theorem dX4_stepOn_85 : decode cX4_stepOn 85 = .ok (.iload_n 1, 1) := by decide +kernel
theorem dX4_stepOn_86 : decode cX4_stepOn 86 = .ok (.iconst 1, 1) := by decide +kernel
theorem dX4_stepOn_87 : decode cX4_stepOn 87 = .ok (.iadd, 1) := by decide +kernel
theorem dX4_stepOn_88 : decode cX4_stepOn 88 = .ok (.invokevirtual 31, 3) := by decide +kernel
theorem dX4_stepOn_91 : decode cX4_stepOn 91 = .ok (.iconst 1, 1) := by decide +kernel
theorem dX4_stepOn_92 : decode cX4_stepOn 92 = .ok (.ireturn, 1) := by decide +kernel
theorem dX4_putInOrder_0 : decode cX4_putInOrder 0 = .ok (.iload_n 1, 1) := by decide +kernel
theorem dX4_putInOrder_1 : decode cX4_putInOrder 1 = .ok (.istore_n 2, 1) := by decide +kernel
theorem dX4_putInOrder_2 : decode cX4_putInOrder 2 = .ok (.iload_n 2, 1) := by decide +kernel
theorem dX4_putInOrder_3 : decode cX4_putInOrder 3 = .ok (.aload_n 0, 1) := by decide +kernel
theorem dX4_putInOrder_4 : decode cX4_putInOrder 4 = .ok (.getfield 18, 3) := by decide +kernel
theorem dX4_putInOrder_7 : decode cX4_putInOrder 7 = .ok (.if_icmp .ge 51, 3) := by decide +kernel
theorem dX4_putInOrder_10 : decode cX4_putInOrder 10 = .ok (.iload_n 2, 1) := by decide +kernel
theorem dX4_putInOrder_11 : decode cX4_putInOrder 11 = .ok (.iconst 1, 1) := by decide +kernel
theorem dX4_putInOrder_12 : decode cX4_putInOrder 12 = .ok (.iadd, 1) := by decide +kernel
theorem dX4_putInOrder_13 : decode cX4_putInOrder 13 = .ok (.istore_n 3, 1) := by decide +kernel
theorem dX4_putInOrder_14 : decode cX4_putInOrder 14 = .ok (.iload_n 3, 1) := by decide +kernel
theorem dX4_putInOrder_15 : decode cX4_putInOrder 15 = .ok (.aload_n 0, 1) := by decide +kernel
theorem dX4_putInOrder_16 : decode cX4_putInOrder 16 = .ok (.getfield 18, 3) := by decide +kernel
theorem dX4_putInOrder_19 : decode cX4_putInOrder 19 = .ok (.if_icmp .ge 33, 3) := by decide +kernel
theorem dX4_putInOrder_22 : decode cX4_putInOrder 22 = .ok (.aload_n 0, 1) := by decide +kernel
theorem dX4_putInOrder_23 : decode cX4_putInOrder 23 = .ok (.getfield 9, 3) := by decide +kernel
theorem dX4_putInOrder_26 : decode cX4_putInOrder 26 = .ok (.iload_n 3, 1) := by decide +kernel
theorem dX4_putInOrder_27 : decode cX4_putInOrder 27 = .ok (.iaload, 1) := by decide +kernel
theorem dX4_putInOrder_28 : decode cX4_putInOrder 28 = .ok (.aload_n 0, 1) := by decide +kernel
theorem dX4_putInOrder_29 : decode cX4_putInOrder 29 = .ok (.getfield 9, 3) := by decide +kernel
theorem dX4_putInOrder_32 : decode cX4_putInOrder 32 = .ok (.iload_n 2, 1) := by decide +kernel
theorem dX4_putInOrder_33 : decode cX4_putInOrder 33 = .ok (.iaload, 1) := by decide +kernel
theorem dX4_putInOrder_34 : decode cX4_putInOrder 34 = .ok (.if_icmp .ge 12, 3) := by decide +kernel
theorem dX4_putInOrder_37 : decode cX4_putInOrder 37 = .ok (.aload_n 0, 1) := by decide +kernel
theorem dX4_putInOrder_38 : decode cX4_putInOrder 38 = .ok (.getfield 9, 3) := by decide +kernel
theorem dX4_putInOrder_41 : decode cX4_putInOrder 41 = .ok (.iload_n 2, 1) := by decide +kernel
theorem dX4_putInOrder_42 : decode cX4_putInOrder 42 = .ok (.iload_n 3, 1) := by decide +kernel
theorem dX4_putInOrder_43 : decode cX4_putInOrder 43 = .ok (.invokestatic 35, 3) := by decide +kernel
theorem dX4_putInOrder_46 : decode cX4_putInOrder 46 = .ok (.iinc 3 1, 3) := by decide +kernel
theorem dX4_putInOrder_49 : decode cX4_putInOrder 49 = .ok (.goto (-35), 3) := by decide +kernel
theorem dX4_putInOrder_52 : decode cX4_putInOrder 52 = .ok (.iinc 2 1, 3) := by decide +kernel
theorem dX4_putInOrder_55 : decode cX4_putInOrder 55 = .ok (.goto (-53), 3) := by decide +kernel
theorem dX4_putInOrder_58 : decode cX4_putInOrder 58 = .ok (.return_, 1) := by decide +kernel
theorem dX5_init_0 : decode cX5_init 0 = .ok (.aload_n 0, 1) := by decide +kernel
theorem dX5_init_1 : decode cX5_init 1 = .ok (.invokespecial 3, 3) := by decide +kernel
theorem dX5_init_4 : decode cX5_init 4 = .ok (.aload_n 0, 1) := by decide +kernel
theorem dX5_init_5 : decode cX5_init 5 = .ok (.iconst 0, 1) := by decide +kernel
theorem dX5_init_6 : decode cX5_init 6 = .ok (.putfield 9, 3) := by decide +kernel
theorem dX5_init_9 : decode cX5_init 9 = .ok (.aload_n 0, 1) := by decide +kernel
theorem dX5_init_10 : decode cX5_init 10 = .ok (.iconst 0, 1) := by decide +kernel
theorem dX5_init_11 : decode cX5_init 11 = .ok (.putfield 15, 3) := by decide +kernel
theorem dX5_init_14 : decode cX5_init 14 = .ok (.aload_n 0, 1) := by decide +kernel
theorem dX5_init_15 : decode cX5_init 15 = .ok (.iconst 0, 1) := by decide +kernel
theorem dX5_init_16 : decode cX5_init 16 = .ok (.putfield 19, 3) := by decide +kernel
theorem dX5_init_19 : decode cX5_init 19 = .ok (.aload_n 0, 1) := by decide +kernel
theorem dX5_init_20 : decode cX5_init 20 = .ok (.bipush 40, 2) := by decide +kernel
theorem dX5_init_22 : decode cX5_init 22 = .ok (.newarray .int, 2) := by decide +kernel
theorem dX5_init_24 : decode cX5_init 24 = .ok (.putfield 22, 3) := by decide +kernel
theorem dX5_init_27 : decode cX5_init 27 = .ok (.return_, 1) := by decide +kernel
theorem dX5_begin_0 : decode cX5_begin 0 = .ok (.aload_n 0, 1) := by decide +kernel
theorem dX5_begin_1 : decode cX5_begin 1 = .ok (.iconst 1, 1) := by decide +kernel
theorem dX5_begin_2 : decode cX5_begin 2 = .ok (.putfield 9, 3) := by decide +kernel
theorem dX5_begin_5 : decode cX5_begin 5 = .ok (.aload_n 0, 1) := by decide +kernel
theorem dX5_begin_6 : decode cX5_begin 6 = .ok (.iload_n 1, 1) := by decide +kernel
theorem dX5_begin_7 : decode cX5_begin 7 = .ok (.putfield 15, 3) := by decide +kernel
theorem dX5_begin_10 : decode cX5_begin 10 = .ok (.aload_n 0, 1) := by decide +kernel
theorem dX5_begin_11 : decode cX5_begin 11 = .ok (.iload_n 2, 1) := by decide +kernel
theorem dX5_begin_12 : decode cX5_begin 12 = .ok (.putfield 19, 3) := by decide +kernel
theorem dX5_begin_15 : decode cX5_begin 15 = .ok (.iconst 0, 1) := by decide +kernel
theorem dX5_begin_16 : decode cX5_begin 16 = .ok (.istore_n 3, 1) := by decide +kernel
theorem dX5_begin_17 : decode cX5_begin 17 = .ok (.iload_n 3, 1) := by decide +kernel
theorem dX5_begin_18 : decode cX5_begin 18 = .ok (.iload_n 2, 1) := by decide +kernel
theorem dX5_begin_19 : decode cX5_begin 19 = .ok (.if_icmp .ge 22, 3) := by decide +kernel
theorem dX5_begin_22 : decode cX5_begin 22 = .ok (.iload_n 3, 1) := by decide +kernel
theorem dX5_begin_23 : decode cX5_begin 23 = .ok (.bipush 40, 2) := by decide +kernel
theorem dX5_begin_25 : decode cX5_begin 25 = .ok (.if_icmp .ge 16, 3) := by decide +kernel
theorem dX5_begin_28 : decode cX5_begin 28 = .ok (.aload_n 0, 1) := by decide +kernel
theorem dX5_begin_29 : decode cX5_begin 29 = .ok (.getfield 22, 3) := by decide +kernel
theorem dX5_begin_32 : decode cX5_begin 32 = .ok (.iload_n 3, 1) := by decide +kernel
theorem dX5_begin_33 : decode cX5_begin 33 = .ok (.iconst 0, 1) := by decide +kernel
theorem dX5_begin_34 : decode cX5_begin 34 = .ok (.iastore, 1) := by decide +kernel
theorem dX5_begin_35 : decode cX5_begin 35 = .ok (.iinc 3 1, 3) := by decide +kernel
theorem dX5_begin_38 : decode cX5_begin 38 = .ok (.goto (-21), 3) := by decide +kernel
theorem dX5_begin_41 : decode cX5_begin 41 = .ok (.return_, 1) := by decide +kernel
theorem dX5_has_0 : decode cX5_has 0 = .ok (.iload_n 1, 1) := by decide +kernel
theorem dX5_has_1 : decode cX5_has 1 = .ok (.ifCond .lt 29, 3) := by decide +kernel
theorem dX5_has_4 : decode cX5_has 4 = .ok (.iload_n 2, 1) := by decide +kernel
theorem dX5_has_5 : decode cX5_has 5 = .ok (.ifCond .lt 25, 3) := by decide +kernel
theorem dX5_has_8 : decode cX5_has 8 = .ok (.iload_n 2, 1) := by decide +kernel
theorem dX5_has_9 : decode cX5_has 9 = .ok (.aload_n 0, 1) := by decide +kernel
theorem dX5_has_10 : decode cX5_has 10 = .ok (.getfield 19, 3) := by decide +kernel
theorem dX5_has_13 : decode cX5_has 13 = .ok (.if_icmp .gt 17, 3) := by decide +kernel
theorem dX5_has_16 : decode cX5_has 16 = .ok (.iload_n 1, 1) := by decide +kernel
theorem dX5_has_17 : decode cX5_has 17 = .ok (.aload_n 0, 1) := by decide +kernel
theorem dX5_has_18 : decode cX5_has 18 = .ok (.getfield 19, 3) := by decide +kernel
theorem dX5_has_21 : decode cX5_has 21 = .ok (.iload_n 2, 1) := by decide +kernel
theorem dX5_has_22 : decode cX5_has 22 = .ok (.isub, 1) := by decide +kernel
theorem dX5_has_23 : decode cX5_has 23 = .ok (.if_icmp .gt 7, 3) := by decide +kernel
theorem dX5_has_26 : decode cX5_has 26 = .ok (.iconst 1, 1) := by decide +kernel
theorem dX5_has_27 : decode cX5_has 27 = .ok (.goto 4, 3) := by decide +kernel
theorem dX5_has_30 : decode cX5_has 30 = .ok (.iconst 0, 1) := by decide +kernel
theorem dX5_has_31 : decode cX5_has 31 = .ok (.ireturn, 1) := by decide +kernel
theorem dX5_put_0 : decode cX5_put 0 = .ok (.aload_n 0, 1) := by decide +kernel
theorem dX5_put_1 : decode cX5_put 1 = .ok (.getfield 22, 3) := by decide +kernel
theorem dX5_put_4 : decode cX5_put 4 = .ok (.iload_n 1, 1) := by decide +kernel
theorem dX5_put_5 : decode cX5_put 5 = .ok (.aload_n 0, 1) := by decide +kernel
theorem dX5_put_6 : decode cX5_put 6 = .ok (.getfield 15, 3) := by decide +kernel
theorem dX5_put_9 : decode cX5_put 9 = .ok (.ifCond .ne 8, 3) := by decide +kernel
theorem dX5_put_12 : decode cX5_put 12 = .ok (.iload_n 2, 1) := by decide +kernel
theorem dX5_put_13 : decode cX5_put 13 = .ok (.i2b, 1) := by decide +kernel
theorem dX5_put_14 : decode cX5_put 14 = .ok (.goto 17, 3) := by decide +kernel
theorem dX5_put_17 : decode cX5_put 17 = .ok (.aload_n 0, 1) := by decide +kernel
theorem dX5_put_18 : decode cX5_put 18 = .ok (.getfield 15, 3) := by decide +kernel
theorem dX5_put_21 : decode cX5_put 21 = .ok (.iconst 1, 1) := by decide +kernel
theorem dX5_put_22 : decode cX5_put 22 = .ok (.if_icmp .ne 8, 3) := by decide +kernel
theorem dX5_put_25 : decode cX5_put 25 = .ok (.iload_n 2, 1) := by decide +kernel
theorem dX5_put_26 : decode cX5_put 26 = .ok (.i2s, 1) := by decide +kernel
theorem dX5_put_27 : decode cX5_put 27 = .ok (.goto 4, 3) := by decide +kernel
theorem dX5_put_30 : decode cX5_put 30 = .ok (.iload_n 2, 1) := by decide +kernel
theorem dX5_put_31 : decode cX5_put 31 = .ok (.iastore, 1) := by decide +kernel
theorem dX5_put_32 : decode cX5_put 32 = .ok (.aload_n 0, 1) := by decide +kernel
theorem dX5_put_33 : decode cX5_put 33 = .ok (.getfield 22, 3) := by decide +kernel
theorem dX5_put_36 : decode cX5_put 36 = .ok (.iload_n 1, 1) := by decide +kernel
theorem dX5_put_37 : decode cX5_put 37 = .ok (.iaload, 1) := by decide +kernel
theorem dX5_put_38 : decode cX5_put 38 = .ok (.ireturn, 1) := by decide +kernel
theorem dX6_init_0 : decode cX6_init 0 = .ok (.aload_n 0, 1) := by decide +kernel
theorem dX6_init_1 : decode cX6_init 1 = .ok (.invokespecial 3, 3) := by decide +kernel
theorem dX6_init_4 : decode cX6_init 4 = .ok (.aload_n 0, 1) := by decide +kernel
theorem dX6_init_5 : decode cX6_init 5 = .ok (.bipush 120, 2) := by decide +kernel
theorem dX6_init_7 : decode cX6_init 7 = .ok (.newarray .int, 2) := by decide +kernel
theorem dX6_init_9 : decode cX6_init 9 = .ok (.putfield 9, 3) := by decide +kernel
theorem dX6_init_12 : decode cX6_init 12 = .ok (.aload_n 0, 1) := by decide +kernel
theorem dX6_init_13 : decode cX6_init 13 = .ok (.iconst 0, 1) := by decide +kernel
theorem dX6_init_14 : decode cX6_init 14 = .ok (.putfield 15, 3) := by decide +kernel
theorem dX6_init_17 : decode cX6_init 17 = .ok (.aload_n 0, 1) := by decide +kernel
theorem dX6_init_18 : decode cX6_init 18 = .ok (.iconst 0, 1) := by decide +kernel
theorem dX6_init_19 : decode cX6_init 19 = .ok (.putfield 19, 3) := by decide +kernel
theorem dX6_init_22 : decode cX6_init 22 = .ok (.aload_n 0, 1) := by decide +kernel
theorem dX6_init_23 : decode cX6_init 23 = .ok (.iconst 0, 1) := by decide +kernel
theorem dX6_init_24 : decode cX6_init 24 = .ok (.putfield 22, 3) := by decide +kernel
theorem dX6_init_27 : decode cX6_init 27 = .ok (.aload_n 0, 1) := by decide +kernel
theorem dX6_init_28 : decode cX6_init 28 = .ok (.iconst 0, 1) := by decide +kernel
theorem dX6_init_29 : decode cX6_init 29 = .ok (.putfield 25, 3) := by decide +kernel
theorem dX6_init_32 : decode cX6_init 32 = .ok (.aload_n 0, 1) := by decide +kernel
theorem dX6_init_33 : decode cX6_init 33 = .ok (.iconst 0, 1) := by decide +kernel
theorem dX6_init_34 : decode cX6_init 34 = .ok (.putfield 28, 3) := by decide +kernel
theorem dX6_init_37 : decode cX6_init 37 = .ok (.return_, 1) := by decide +kernel
theorem dX6_add_0 : decode cX6_add 0 = .ok (.aload_n 0, 1) := by decide +kernel
theorem dX6_add_1 : decode cX6_add 1 = .ok (.getfield 15, 3) := by decide +kernel
theorem dX6_add_4 : decode cX6_add 4 = .ok (.bipush 120, 2) := by decide +kernel
theorem dX6_add_6 : decode cX6_add 6 = .ok (.if_icmp .lt 5, 3) := by decide +kernel
theorem dX6_add_9 : decode cX6_add 9 = .ok (.iconst 0, 1) := by decide +kernel
theorem dX6_add_10 : decode cX6_add 10 = .ok (.ireturn, 1) := by decide +kernel
theorem dX6_add_11 : decode cX6_add 11 = .ok (.aload_n 0, 1) := by decide +kernel
theorem dX6_add_12 : decode cX6_add 12 = .ok (.getfield 9, 3) := by decide +kernel
theorem dX6_add_15 : decode cX6_add 15 = .ok (.aload_n 0, 1) := by decide +kernel
theorem dX6_add_16 : decode cX6_add 16 = .ok (.getfield 15, 3) := by decide +kernel
theorem dX6_add_19 : decode cX6_add 19 = .ok (.iload_n 1, 1) := by decide +kernel
theorem dX6_add_20 : decode cX6_add 20 = .ok (.iastore, 1) := by decide +kernel
theorem dX6_add_21 : decode cX6_add 21 = .ok (.aload_n 0, 1) := by decide +kernel
theorem dX6_add_22 : decode cX6_add 22 = .ok (.dup, 1) := by decide +kernel
theorem dX6_add_23 : decode cX6_add 23 = .ok (.getfield 15, 3) := by decide +kernel
theorem dX6_add_26 : decode cX6_add 26 = .ok (.iconst 1, 1) := by decide +kernel
theorem dX6_add_27 : decode cX6_add 27 = .ok (.iadd, 1) := by decide +kernel
theorem dX6_add_28 : decode cX6_add 28 = .ok (.putfield 15, 3) := by decide +kernel
theorem dX6_add_31 : decode cX6_add 31 = .ok (.iconst 1, 1) := by decide +kernel
theorem dX6_add_32 : decode cX6_add 32 = .ok (.ireturn, 1) := by decide +kernel
theorem dX6_letterAt_0 : decode cX6_letterAt 0 = .ok (.iload_n 1, 1) := by decide +kernel
theorem dX6_letterAt_1 : decode cX6_letterAt 1 = .ok (.ifCond .lt 20, 3) := by decide +kernel
theorem dX6_letterAt_4 : decode cX6_letterAt 4 = .ok (.iload_n 1, 1) := by decide +kernel
theorem dX6_letterAt_5 : decode cX6_letterAt 5 = .ok (.aload_n 0, 1) := by decide +kernel
theorem dX6_letterAt_6 : decode cX6_letterAt 6 = .ok (.getfield 15, 3) := by decide +kernel
theorem dX6_letterAt_9 : decode cX6_letterAt 9 = .ok (.if_icmp .ge 12, 3) := by decide +kernel
theorem dX6_letterAt_12 : decode cX6_letterAt 12 = .ok (.aload_n 0, 1) := by decide +kernel
theorem dX6_letterAt_13 : decode cX6_letterAt 13 = .ok (.getfield 9, 3) := by decide +kernel
theorem dX6_letterAt_16 : decode cX6_letterAt 16 = .ok (.iload_n 1, 1) := by decide +kernel
theorem dX6_letterAt_17 : decode cX6_letterAt 17 = .ok (.iaload, 1) := by decide +kernel
theorem dX6_letterAt_18 : decode cX6_letterAt 18 = .ok (.goto 4, 3) := by decide +kernel
theorem dX6_letterAt_21 : decode cX6_letterAt 21 = .ok (.iconst (-1), 1) := by decide +kernel
theorem dX6_letterAt_22 : decode cX6_letterAt 22 = .ok (.ireturn, 1) := by decide +kernel
theorem dX6_fail_0 : decode cX6_fail 0 = .ok (.aload_n 0, 1) := by decide +kernel
theorem dX6_fail_1 : decode cX6_fail 1 = .ok (.iconst 1, 1) := by decide +kernel
theorem dX6_fail_2 : decode cX6_fail 2 = .ok (.putfield 28, 3) := by decide +kernel
theorem dX6_fail_5 : decode cX6_fail 5 = .ok (.aload_n 0, 1) := by decide +kernel
theorem dX6_fail_6 : decode cX6_fail 6 = .ok (.iload_n 1, 1) := by decide +kernel
theorem dX6_fail_7 : decode cX6_fail 7 = .ok (.putfield 19, 3) := by decide +kernel
theorem dX6_fail_10 : decode cX6_fail 10 = .ok (.aload_n 0, 1) := by decide +kernel
theorem dX6_fail_11 : decode cX6_fail 11 = .ok (.iload_n 2, 1) := by decide +kernel
theorem dX6_fail_12 : decode cX6_fail 12 = .ok (.putfield 22, 3) := by decide +kernel
theorem dX6_fail_15 : decode cX6_fail 15 = .ok (.iconst 0, 1) := by decide +kernel
theorem dX6_fail_16 : decode cX6_fail 16 = .ok (.ireturn, 1) := by decide +kernel
theorem dX6_readInto_0 : decode cX6_readInto 0 = .ok (.aload_n 0, 1) := by decide +kernel
theorem dX6_readInto_1 : decode cX6_readInto 1 = .ok (.iconst 0, 1) := by decide +kernel
theorem dX6_readInto_2 : decode cX6_readInto 2 = .ok (.putfield 25, 3) := by decide +kernel
theorem dX6_readInto_5 : decode cX6_readInto 5 = .ok (.aload_n 0, 1) := by decide +kernel
theorem dX6_readInto_6 : decode cX6_readInto 6 = .ok (.iconst 0, 1) := by decide +kernel
theorem dX6_readInto_7 : decode cX6_readInto 7 = .ok (.putfield 28, 3) := by decide +kernel
theorem dX6_readInto_10 : decode cX6_readInto 10 = .ok (.aload_n 1, 1) := by decide +kernel
theorem dX6_readInto_11 : decode cX6_readInto 11 = .ok (.invokevirtual 32, 3) := by decide +kernel
theorem dX6_readInto_14 : decode cX6_readInto 14 = .ok (.aload_n 0, 1) := by decide +kernel
theorem dX6_readInto_15 : decode cX6_readInto 15 = .ok (.aload_n 1, 1) := by decide +kernel
theorem dX6_readInto_16 : decode cX6_readInto 16 = .ok (.invokevirtual 37, 3) := by decide +kernel
theorem dX6_readInto_19 : decode cX6_readInto 19 = .ok (.ifCond .eq 23, 3) := by decide +kernel
theorem dX6_readInto_22 : decode cX6_readInto 22 = .ok (.aload_n 0, 1) := by decide +kernel
theorem dX6_readInto_23 : decode cX6_readInto 23 = .ok (.aload_n 1, 1) := by decide +kernel
theorem dX6_readInto_24 : decode cX6_readInto 24 = .ok (.invokevirtual 41, 3) := by decide +kernel
theorem dX6_readInto_27 : decode cX6_readInto 27 = .ok (.ifCond .eq 15, 3) := by decide +kernel
theorem dX6_readInto_30 : decode cX6_readInto 30 = .ok (.aload_n 0, 1) := by decide +kernel
theorem dX6_readInto_31 : decode cX6_readInto 31 = .ok (.aload_n 1, 1) := by decide +kernel
theorem dX6_readInto_32 : decode cX6_readInto 32 = .ok (.invokevirtual 44, 3) := by decide +kernel
theorem dX6_readInto_35 : decode cX6_readInto 35 = .ok (.ifCond .eq 7, 3) := by decide +kernel
theorem dX6_readInto_38 : decode cX6_readInto 38 = .ok (.iconst 1, 1) := by decide +kernel
theorem dX6_readInto_39 : decode cX6_readInto 39 = .ok (.goto 4, 3) := by decide +kernel
theorem dX6_readInto_42 : decode cX6_readInto 42 = .ok (.iconst 0, 1) := by decide +kernel
theorem dX6_readInto_43 : decode cX6_readInto 43 = .ok (.ireturn, 1) := by decide +kernel
theorem dX6_readLaw_0 : decode cX6_readLaw 0 = .ok (.aload_n 0, 1) := by decide +kernel
theorem dX6_readLaw_1 : decode cX6_readLaw 1 = .ok (.bipush 102, 2) := by decide +kernel
theorem dX6_readLaw_3 : decode cX6_readLaw 3 = .ok (.invokevirtual 47, 3) := by decide +kernel
theorem dX6_readLaw_6 : decode cX6_readLaw 6 = .ok (.pop, 1) := by decide +kernel
theorem dX6_readLaw_7 : decode cX6_readLaw 7 = .ok (.aload_n 1, 1) := by decide +kernel
theorem dX6_readLaw_8 : decode cX6_readLaw 8 = .ok (.getfield 51, 3) := by decide +kernel
theorem dX6_readLaw_11 : decode cX6_readLaw 11 = .ok (.aload_n 0, 1) := by decide +kernel
theorem dX6_readLaw_12 : decode cX6_readLaw 12 = .ok (.bipush 9, 2) := by decide +kernel
theorem dX6_readLaw_14 : decode cX6_readLaw 14 = .ok (.invokevirtual 55, 3) := by decide +kernel
theorem dX6_readLaw_17 : decode cX6_readLaw 17 = .ok (.putfield 59, 3) := by decide +kernel
theorem dX6_readLaw_20 : decode cX6_readLaw 20 = .ok (.aload_n 0, 1) := by decide +kernel
theorem dX6_readLaw_21 : decode cX6_readLaw 21 = .ok (.bipush 59, 2) := by decide +kernel
theorem dX6_readLaw_23 : decode cX6_readLaw 23 = .ok (.invokevirtual 47, 3) := by decide +kernel
theorem dX6_readLaw_26 : decode cX6_readLaw 26 = .ok (.ireturn, 1) := by decide +kernel
theorem dX6_readValleys_0 : decode cX6_readValleys 0 = .ok (.iconst 0, 1) := by decide +kernel
theorem dX6_readValleys_1 : decode cX6_readValleys 1 = .ok (.istore_n 2, 1) := by decide +kernel
theorem dX6_readValleys_2 : decode cX6_readValleys 2 = .ok (.iload_n 2, 1) := by decide +kernel
theorem dX6_readValleys_3 : decode cX6_readValleys 3 = .ok (.iconst 5, 1) := by decide +kernel
theorem dX6_readValleys_4 : decode cX6_readValleys 4 = .ok (.if_icmp .ge 34, 3) := by decide +kernel
theorem dX6_readValleys_7 : decode cX6_readValleys 7 = .ok (.aload_n 0, 1) := by decide +kernel
theorem dX6_readValleys_8 : decode cX6_readValleys 8 = .ok (.aload_n 1, 1) := by decide +kernel
theorem dX6_readValleys_9 : decode cX6_readValleys 9 = .ok (.invokevirtual 64, 3) := by decide +kernel
theorem dX6_readValleys_12 : decode cX6_readValleys 12 = .ok (.ifCond .ne 5, 3) := by decide +kernel
theorem dX6_readValleys_15 : decode cX6_readValleys 15 = .ok (.iconst 0, 1) := by decide +kernel
theorem dX6_readValleys_16 : decode cX6_readValleys 16 = .ok (.ireturn, 1) := by decide +kernel
theorem dX6_readValleys_17 : decode cX6_readValleys 17 = .ok (.aload_n 0, 1) := by decide +kernel
theorem dX6_readValleys_18 : decode cX6_readValleys 18 = .ok (.aload_n 0, 1) := by decide +kernel
theorem dX6_readValleys_19 : decode cX6_readValleys 19 = .ok (.getfield 25, 3) := by decide +kernel
theorem dX6_readValleys_22 : decode cX6_readValleys 22 = .ok (.invokevirtual 67, 3) := by decide +kernel
theorem dX6_readValleys_25 : decode cX6_readValleys 25 = .ok (.bipush 118, 2) := by decide +kernel
theorem dX6_readValleys_27 : decode cX6_readValleys 27 = .ok (.if_icmp .eq 5, 3) := by decide +kernel
theorem dX6_readValleys_30 : decode cX6_readValleys 30 = .ok (.iconst 1, 1) := by decide +kernel
theorem dX6_readValleys_31 : decode cX6_readValleys 31 = .ok (.ireturn, 1) := by decide +kernel
theorem dX6_readValleys_32 : decode cX6_readValleys 32 = .ok (.iinc 2 1, 3) := by decide +kernel
theorem dX6_readValleys_35 : decode cX6_readValleys 35 = .ok (.goto (-33), 3) := by decide +kernel
theorem dX6_readValleys_38 : decode cX6_readValleys 38 = .ok (.aload_n 0, 1) := by decide +kernel
theorem dX6_readValleys_39 : decode cX6_readValleys 39 = .ok (.iconst 3, 1) := by decide +kernel
theorem dX6_readValleys_40 : decode cX6_readValleys 40 = .ok (.aload_n 0, 1) := by decide +kernel
theorem dX6_readValleys_41 : decode cX6_readValleys 41 = .ok (.getfield 25, 3) := by decide +kernel
theorem dX6_readValleys_44 : decode cX6_readValleys 44 = .ok (.invokevirtual 70, 3) := by decide +kernel
theorem dX6_readValleys_47 : decode cX6_readValleys 47 = .ok (.ireturn, 1) := by decide +kernel
theorem dX6_readValley_0 : decode cX6_readValley 0 = .ok (.aload_n 0, 1) := by decide +kernel
theorem dX6_readValley_1 : decode cX6_readValley 1 = .ok (.bipush 118, 2) := by decide +kernel
theorem dX6_readValley_3 : decode cX6_readValley 3 = .ok (.invokevirtual 47, 3) := by decide +kernel
theorem dX6_readValley_6 : decode cX6_readValley 6 = .ok (.pop, 1) := by decide +kernel
theorem dX6_readValley_7 : decode cX6_readValley 7 = .ok (.aload_n 0, 1) := by decide +kernel
theorem dX6_readValley_8 : decode cX6_readValley 8 = .ok (.bipush 20, 2) := by decide +kernel
theorem dX6_readValley_10 : decode cX6_readValley 10 = .ok (.invokevirtual 55, 3) := by decide +kernel
theorem dX6_readValley_13 : decode cX6_readValley 13 = .ok (.istore_n 2, 1) := by decide +kernel
theorem dX6_readValley_14 : decode cX6_readValley 14 = .ok (.aload_n 0, 1) := by decide +kernel
theorem dX6_readValley_15 : decode cX6_readValley 15 = .ok (.bipush 44, 2) := by decide +kernel
theorem dX6_readValley_17 : decode cX6_readValley 17 = .ok (.invokevirtual 47, 3) := by decide +kernel
theorem dX6_readValley_20 : decode cX6_readValley 20 = .ok (.pop, 1) := by decide +kernel
theorem dX6_readValley_21 : decode cX6_readValley 21 = .ok (.aload_n 0, 1) := by decide +kernel
theorem dX6_readValley_22 : decode cX6_readValley 22 = .ok (.bipush 9, 2) := by decide +kernel
theorem dX6_readValley_24 : decode cX6_readValley 24 = .ok (.invokevirtual 55, 3) := by decide +kernel
theorem dX6_readValley_27 : decode cX6_readValley 27 = .ok (.istore_n 3, 1) := by decide +kernel
theorem dX6_readValley_28 : decode cX6_readValley 28 = .ok (.aload_n 0, 1) := by decide +kernel
theorem dX6_readValley_29 : decode cX6_readValley 29 = .ok (.bipush 59, 2) := by decide +kernel
theorem dX6_readValley_31 : decode cX6_readValley 31 = .ok (.invokevirtual 47, 3) := by decide +kernel
theorem dX6_readValley_34 : decode cX6_readValley 34 = .ok (.ifCond .ne 5, 3) := by decide +kernel
theorem dX6_readValley_37 : decode cX6_readValley 37 = .ok (.iconst 0, 1) := by decide +kernel
theorem dX6_readValley_38 : decode cX6_readValley 38 = .ok (.ireturn, 1) := by decide +kernel
theorem dX6_readValley_39 : decode cX6_readValley 39 = .ok (.aload_n 1, 1) := by decide +kernel
theorem dX6_readValley_40 : decode cX6_readValley 40 = .ok (.iload_n 2, 1) := by decide +kernel
theorem dX6_readValley_41 : decode cX6_readValley 41 = .ok (.iload_n 3, 1) := by decide +kernel
theorem dX6_readValley_42 : decode cX6_readValley 42 = .ok (.invokevirtual 74, 3) := by decide +kernel
theorem dX6_readValley_45 : decode cX6_readValley 45 = .ok (.iconst 1, 1) := by decide +kernel
theorem dX6_readValley_46 : decode cX6_readValley 46 = .ok (.ireturn, 1) := by decide +kernel
theorem dX6_readBirds_0 : decode cX6_readBirds 0 = .ok (.iconst 0, 1) := by decide +kernel
theorem dX6_readBirds_1 : decode cX6_readBirds 1 = .ok (.istore_n 2, 1) := by decide +kernel
theorem dX6_readBirds_2 : decode cX6_readBirds 2 = .ok (.iload_n 2, 1) := by decide +kernel
theorem dX6_readBirds_3 : decode cX6_readBirds 3 = .ok (.bipush 6, 2) := by decide +kernel
theorem dX6_readBirds_5 : decode cX6_readBirds 5 = .ok (.if_icmp .ge 30, 3) := by decide +kernel
theorem dX6_readBirds_8 : decode cX6_readBirds 8 = .ok (.aload_n 0, 1) := by decide +kernel
theorem dX6_readBirds_9 : decode cX6_readBirds 9 = .ok (.getfield 25, 3) := by decide +kernel
theorem dX6_readBirds_12 : decode cX6_readBirds 12 = .ok (.aload_n 0, 1) := by decide +kernel
theorem dX6_readBirds_13 : decode cX6_readBirds 13 = .ok (.getfield 15, 3) := by decide +kernel
theorem dX6_readBirds_16 : decode cX6_readBirds 16 = .ok (.if_icmp .ge 19, 3) := by decide +kernel
theorem dX6_readBirds_19 : decode cX6_readBirds 19 = .ok (.aload_n 0, 1) := by decide +kernel
theorem dX6_readBirds_20 : decode cX6_readBirds 20 = .ok (.aload_n 1, 1) := by decide +kernel
theorem dX6_readBirds_21 : decode cX6_readBirds 21 = .ok (.invokevirtual 78, 3) := by decide +kernel
theorem dX6_readBirds_24 : decode cX6_readBirds 24 = .ok (.ifCond .ne 5, 3) := by decide +kernel
theorem dX6_readBirds_27 : decode cX6_readBirds 27 = .ok (.iconst 0, 1) := by decide +kernel
theorem dX6_readBirds_28 : decode cX6_readBirds 28 = .ok (.ireturn, 1) := by decide +kernel
theorem dX6_readBirds_29 : decode cX6_readBirds 29 = .ok (.iinc 2 1, 3) := by decide +kernel
theorem dX6_readBirds_32 : decode cX6_readBirds 32 = .ok (.goto (-30), 3) := by decide +kernel
theorem dX6_readBirds_35 : decode cX6_readBirds 35 = .ok (.aload_n 0, 1) := by decide +kernel
theorem dX6_readBirds_36 : decode cX6_readBirds 36 = .ok (.getfield 25, 3) := by decide +kernel
theorem dX6_readBirds_39 : decode cX6_readBirds 39 = .ok (.aload_n 0, 1) := by decide +kernel
theorem dX6_readBirds_40 : decode cX6_readBirds 40 = .ok (.getfield 15, 3) := by decide +kernel
theorem dX6_readBirds_43 : decode cX6_readBirds 43 = .ok (.if_icmp .ge 31, 3) := by decide +kernel
theorem dX6_readBirds_46 : decode cX6_readBirds 46 = .ok (.aload_n 0, 1) := by decide +kernel
theorem dX6_readBirds_47 : decode cX6_readBirds 47 = .ok (.aload_n 0, 1) := by decide +kernel
theorem dX6_readBirds_48 : decode cX6_readBirds 48 = .ok (.aload_n 0, 1) := by decide +kernel
theorem dX6_readBirds_49 : decode cX6_readBirds 49 = .ok (.getfield 25, 3) := by decide +kernel
theorem dX6_readBirds_52 : decode cX6_readBirds 52 = .ok (.invokevirtual 67, 3) := by decide +kernel
theorem dX6_readBirds_55 : decode cX6_readBirds 55 = .ok (.invokestatic 81, 3) := by decide +kernel
theorem dX6_readBirds_58 : decode cX6_readBirds 58 = .ok (.ifCond .ne 7, 3) := by decide +kernel
theorem dX6_readBirds_61 : decode cX6_readBirds 61 = .ok (.iconst 1, 1) := by decide +kernel
theorem dX6_readBirds_62 : decode cX6_readBirds 62 = .ok (.goto 4, 3) := by decide +kernel
theorem dX6_readBirds_65 : decode cX6_readBirds 65 = .ok (.iconst 3, 1) := by decide +kernel
theorem dX6_readBirds_66 : decode cX6_readBirds 66 = .ok (.aload_n 0, 1) := by decide +kernel
theorem dX6_readBirds_67 : decode cX6_readBirds 67 = .ok (.getfield 25, 3) := by decide +kernel
theorem dX6_readBirds_70 : decode cX6_readBirds 70 = .ok (.invokevirtual 70, 3) := by decide +kernel
theorem dX6_readBirds_73 : decode cX6_readBirds 73 = .ok (.ireturn, 1) := by decide +kernel
theorem dX6_readBirds_74 : decode cX6_readBirds 74 = .ok (.iconst 1, 1) := by decide +kernel
theorem dX6_readBirds_75 : decode cX6_readBirds 75 = .ok (.ireturn, 1) := by decide +kernel
theorem dX6_readBird_0 : decode cX6_readBird 0 = .ok (.aload_n 0, 1) := by decide +kernel
theorem dX6_readBird_1 : decode cX6_readBird 1 = .ok (.aload_n 0, 1) := by decide +kernel
theorem dX6_readBird_2 : decode cX6_readBird 2 = .ok (.getfield 25, 3) := by decide +kernel
theorem dX6_readBird_5 : decode cX6_readBird 5 = .ok (.invokevirtual 67, 3) := by decide +kernel
theorem dX6_readBird_8 : decode cX6_readBird 8 = .ok (.invokestatic 81, 3) := by decide +kernel
theorem dX6_readBird_11 : decode cX6_readBird 11 = .ok (.istore_n 2, 1) := by decide +kernel
theorem dX6_readBird_12 : decode cX6_readBird 12 = .ok (.iload_n 2, 1) := by decide +kernel
theorem dX6_readBird_13 : decode cX6_readBird 13 = .ok (.ifCond .ne 13, 3) := by decide +kernel
theorem dX6_readBird_16 : decode cX6_readBird 16 = .ok (.aload_n 0, 1) := by decide +kernel
theorem dX6_readBird_17 : decode cX6_readBird 17 = .ok (.iconst 1, 1) := by decide +kernel
theorem dX6_readBird_18 : decode cX6_readBird 18 = .ok (.aload_n 0, 1) := by decide +kernel
theorem dX6_readBird_19 : decode cX6_readBird 19 = .ok (.getfield 25, 3) := by decide +kernel
theorem dX6_readBird_22 : decode cX6_readBird 22 = .ok (.invokevirtual 70, 3) := by decide +kernel
theorem dX6_readBird_25 : decode cX6_readBird 25 = .ok (.ireturn, 1) := by decide +kernel
theorem dX6_readBird_26 : decode cX6_readBird 26 = .ok (.aload_n 0, 1) := by decide +kernel
theorem dX6_readBird_27 : decode cX6_readBird 27 = .ok (.dup, 1) := by decide +kernel
theorem dX6_readBird_28 : decode cX6_readBird 28 = .ok (.getfield 25, 3) := by decide +kernel
theorem dX6_readBird_31 : decode cX6_readBird 31 = .ok (.iconst 1, 1) := by decide +kernel
theorem dX6_readBird_32 : decode cX6_readBird 32 = .ok (.iadd, 1) := by decide +kernel
theorem dX6_readBird_33 : decode cX6_readBird 33 = .ok (.putfield 25, 3) := by decide +kernel
theorem dX6_readBird_36 : decode cX6_readBird 36 = .ok (.aload_n 0, 1) := by decide +kernel
theorem dX6_readBird_37 : decode cX6_readBird 37 = .ok (.bipush 30, 2) := by decide +kernel
theorem dX6_readBird_39 : decode cX6_readBird 39 = .ok (.invokevirtual 55, 3) := by decide +kernel
theorem dX6_readBird_42 : decode cX6_readBird 42 = .ok (.istore_n 3, 1) := by decide +kernel
theorem dX6_readBird_43 : decode cX6_readBird 43 = .ok (.aload_n 0, 1) := by decide +kernel
theorem dX6_readBird_44 : decode cX6_readBird 44 = .ok (.bipush 44, 2) := by decide +kernel
theorem dX6_readBird_46 : decode cX6_readBird 46 = .ok (.invokevirtual 47, 3) := by decide +kernel
theorem dX6_readBird_49 : decode cX6_readBird 49 = .ok (.pop, 1) := by decide +kernel
theorem dX6_readBird_50 : decode cX6_readBird 50 = .ok (.aload_n 0, 1) := by decide +kernel
theorem dX6_readBird_51 : decode cX6_readBird 51 = .ok (.bipush 6, 2) := by decide +kernel
theorem dX6_readBird_53 : decode cX6_readBird 53 = .ok (.invokevirtual 55, 3) := by decide +kernel
theorem dX6_readBird_56 : decode cX6_readBird 56 = .ok (.istore 4, 2) := by decide +kernel
theorem dX6_readBird_58 : decode cX6_readBird 58 = .ok (.aload_n 0, 1) := by decide +kernel
theorem dX6_readBird_59 : decode cX6_readBird 59 = .ok (.bipush 44, 2) := by decide +kernel
theorem dX6_readBird_61 : decode cX6_readBird 61 = .ok (.invokevirtual 47, 3) := by decide +kernel
theorem dX6_readBird_64 : decode cX6_readBird 64 = .ok (.pop, 1) := by decide +kernel
theorem dX6_readBird_65 : decode cX6_readBird 65 = .ok (.aload_n 0, 1) := by decide +kernel
theorem dX6_readBird_66 : decode cX6_readBird 66 = .ok (.iconst 5, 1) := by decide +kernel
theorem dX6_readBird_67 : decode cX6_readBird 67 = .ok (.invokevirtual 55, 3) := by decide +kernel
theorem dX6_readBird_70 : decode cX6_readBird 70 = .ok (.istore 5, 2) := by decide +kernel
theorem dX6_readBird_72 : decode cX6_readBird 72 = .ok (.aload_n 0, 1) := by decide +kernel
theorem dX6_readBird_73 : decode cX6_readBird 73 = .ok (.bipush 59, 2) := by decide +kernel
theorem dX6_readBird_75 : decode cX6_readBird 75 = .ok (.invokevirtual 47, 3) := by decide +kernel
theorem dX6_readBird_78 : decode cX6_readBird 78 = .ok (.ifCond .ne 5, 3) := by decide +kernel
theorem dX6_readBird_81 : decode cX6_readBird 81 = .ok (.iconst 0, 1) := by decide +kernel
theorem dX6_readBird_82 : decode cX6_readBird 82 = .ok (.ireturn, 1) := by decide +kernel
theorem dX6_readBird_83 : decode cX6_readBird 83 = .ok (.aload_n 1, 1) := by decide +kernel
theorem dX6_readBird_84 : decode cX6_readBird 84 = .ok (.iload_n 2, 1) := by decide +kernel
theorem dX6_readBird_85 : decode cX6_readBird 85 = .ok (.iload_n 3, 1) := by decide +kernel
theorem dX6_readBird_86 : decode cX6_readBird 86 = .ok (.iload 4, 2) := by decide +kernel
theorem dX6_readBird_88 : decode cX6_readBird 88 = .ok (.iload 5, 2) := by decide +kernel
theorem dX6_readBird_90 : decode cX6_readBird 90 = .ok (.invokevirtual 84, 3) := by decide +kernel
theorem dX6_readBird_93 : decode cX6_readBird 93 = .ok (.iconst 1, 1) := by decide +kernel
theorem dX6_readBird_94 : decode cX6_readBird 94 = .ok (.ireturn, 1) := by decide +kernel
theorem dX6_kindTold_0 : decode cX6_kindTold 0 = .ok (.iload_n 0, 1) := by decide +kernel
theorem dX6_kindTold_1 : decode cX6_kindTold 1 = .ok (.tableswitch 77 100 112 #[69, 77, 77, 77, 67, 77, 77, 77, 77, 77, 73, 71, 75], 67) := by decide +kernel
theorem dX6_kindTold_68 : decode cX6_kindTold 68 = .ok (.iconst 1, 1) := by decide +kernel
theorem dX6_kindTold_69 : decode cX6_kindTold 69 = .ok (.ireturn, 1) := by decide +kernel
theorem dX6_kindTold_70 : decode cX6_kindTold 70 = .ok (.iconst 2, 1) := by decide +kernel
theorem dX6_kindTold_71 : decode cX6_kindTold 71 = .ok (.ireturn, 1) := by decide +kernel
theorem dX6_kindTold_72 : decode cX6_kindTold 72 = .ok (.iconst 3, 1) := by decide +kernel
theorem dX6_kindTold_73 : decode cX6_kindTold 73 = .ok (.ireturn, 1) := by decide +kernel
theorem dX6_kindTold_74 : decode cX6_kindTold 74 = .ok (.iconst 4, 1) := by decide +kernel
theorem dX6_kindTold_75 : decode cX6_kindTold 75 = .ok (.ireturn, 1) := by decide +kernel
theorem dX6_kindTold_76 : decode cX6_kindTold 76 = .ok (.iconst 5, 1) := by decide +kernel
theorem dX6_kindTold_77 : decode cX6_kindTold 77 = .ok (.ireturn, 1) := by decide +kernel
theorem dX6_kindTold_78 : decode cX6_kindTold 78 = .ok (.iconst 0, 1) := by decide +kernel
theorem dX6_kindTold_79 : decode cX6_kindTold 79 = .ok (.ireturn, 1) := by decide +kernel
theorem dX6_passes_0 : decode cX6_passes 0 = .ok (.aload_n 0, 1) := by decide +kernel
theorem dX6_passes_1 : decode cX6_passes 1 = .ok (.getfield 28, 3) := by decide +kernel
theorem dX6_passes_4 : decode cX6_passes 4 = .ok (.ifCond .eq 5, 3) := by decide +kernel
theorem dX6_passes_7 : decode cX6_passes 7 = .ok (.iconst 0, 1) := by decide +kernel
theorem dX6_passes_8 : decode cX6_passes 8 = .ok (.ireturn, 1) := by decide +kernel
theorem dX6_passes_9 : decode cX6_passes 9 = .ok (.aload_n 0, 1) := by decide +kernel
theorem dX6_passes_10 : decode cX6_passes 10 = .ok (.aload_n 0, 1) := by decide +kernel
theorem dX6_passes_11 : decode cX6_passes 11 = .ok (.getfield 25, 3) := by decide +kernel
theorem dX6_passes_14 : decode cX6_passes 14 = .ok (.invokevirtual 67, 3) := by decide +kernel
theorem dX6_passes_17 : decode cX6_passes 17 = .ok (.iload_n 1, 1) := by decide +kernel
theorem dX6_passes_18 : decode cX6_passes 18 = .ok (.if_icmp .eq 13, 3) := by decide +kernel
theorem dX6_passes_21 : decode cX6_passes 21 = .ok (.aload_n 0, 1) := by decide +kernel
theorem dX6_passes_22 : decode cX6_passes 22 = .ok (.iconst 1, 1) := by decide +kernel
theorem dX6_passes_23 : decode cX6_passes 23 = .ok (.aload_n 0, 1) := by decide +kernel
theorem dX6_passes_24 : decode cX6_passes 24 = .ok (.getfield 25, 3) := by decide +kernel
theorem dX6_passes_27 : decode cX6_passes 27 = .ok (.invokevirtual 70, 3) := by decide +kernel
theorem dX6_passes_30 : decode cX6_passes 30 = .ok (.ireturn, 1) := by decide +kernel
theorem dX6_passes_31 : decode cX6_passes 31 = .ok (.aload_n 0, 1) := by decide +kernel
theorem dX6_passes_32 : decode cX6_passes 32 = .ok (.dup, 1) := by decide +kernel
theorem dX6_passes_33 : decode cX6_passes 33 = .ok (.getfield 25, 3) := by decide +kernel
theorem dX6_passes_36 : decode cX6_passes 36 = .ok (.iconst 1, 1) := by decide +kernel
theorem dX6_passes_37 : decode cX6_passes 37 = .ok (.iadd, 1) := by decide +kernel
theorem dX6_passes_38 : decode cX6_passes 38 = .ok (.putfield 25, 3) := by decide +kernel
theorem dX6_passes_41 : decode cX6_passes 41 = .ok (.iconst 1, 1) := by decide +kernel
theorem dX6_passes_42 : decode cX6_passes 42 = .ok (.ireturn, 1) := by decide +kernel
theorem dX6_number_0 : decode cX6_number 0 = .ok (.aload_n 0, 1) := by decide +kernel
theorem dX6_number_1 : decode cX6_number 1 = .ok (.getfield 28, 3) := by decide +kernel
theorem dX6_number_4 : decode cX6_number 4 = .ok (.ifCond .eq 5, 3) := by decide +kernel
theorem dX6_number_7 : decode cX6_number 7 = .ok (.iconst 0, 1) := by decide +kernel
theorem dX6_number_8 : decode cX6_number 8 = .ok (.ireturn, 1) := by decide +kernel
theorem dX6_number_9 : decode cX6_number 9 = .ok (.iconst 0, 1) := by decide +kernel
theorem dX6_number_10 : decode cX6_number 10 = .ok (.istore_n 2, 1) := by decide +kernel
theorem dX6_number_11 : decode cX6_number 11 = .ok (.aload_n 0, 1) := by decide +kernel
theorem dX6_number_12 : decode cX6_number 12 = .ok (.getfield 25, 3) := by decide +kernel
theorem dX6_number_15 : decode cX6_number 15 = .ok (.istore_n 3, 1) := by decide +kernel
theorem dX6_number_16 : decode cX6_number 16 = .ok (.iload_n 3, 1) := by decide +kernel
theorem dX6_number_17 : decode cX6_number 17 = .ok (.aload_n 0, 1) := by decide +kernel
theorem dX6_number_18 : decode cX6_number 18 = .ok (.getfield 15, 3) := by decide +kernel
theorem dX6_number_21 : decode cX6_number 21 = .ok (.if_icmp .ge 44, 3) := by decide +kernel
theorem dX6_number_24 : decode cX6_number 24 = .ok (.aload_n 0, 1) := by decide +kernel
theorem dX6_number_25 : decode cX6_number 25 = .ok (.iload_n 3, 1) := by decide +kernel
theorem dX6_number_26 : decode cX6_number 26 = .ok (.invokevirtual 67, 3) := by decide +kernel
theorem dX6_number_29 : decode cX6_number 29 = .ok (.invokestatic 88, 3) := by decide +kernel
theorem dX6_number_32 : decode cX6_number 32 = .ok (.ifCond .eq 33, 3) := by decide +kernel
theorem dX6_number_35 : decode cX6_number 35 = .ok (.iload_n 3, 1) := by decide +kernel
theorem dX6_number_36 : decode cX6_number 36 = .ok (.aload_n 0, 1) := by decide +kernel
theorem dX6_number_37 : decode cX6_number 37 = .ok (.getfield 25, 3) := by decide +kernel
theorem dX6_number_40 : decode cX6_number 40 = .ok (.iconst 3, 1) := by decide +kernel
theorem dX6_number_41 : decode cX6_number 41 = .ok (.iadd, 1) := by decide +kernel
theorem dX6_number_42 : decode cX6_number 42 = .ok (.if_icmp .ge 23, 3) := by decide +kernel
theorem dX6_number_45 : decode cX6_number 45 = .ok (.iload_n 2, 1) := by decide +kernel
theorem dX6_number_46 : decode cX6_number 46 = .ok (.bipush 10, 2) := by decide +kernel
theorem dX6_number_48 : decode cX6_number 48 = .ok (.imul, 1) := by decide +kernel
theorem dX6_number_49 : decode cX6_number 49 = .ok (.aload_n 0, 1) := by decide +kernel
theorem dX6_number_50 : decode cX6_number 50 = .ok (.iload_n 3, 1) := by decide +kernel
theorem dX6_number_51 : decode cX6_number 51 = .ok (.invokevirtual 67, 3) := by decide +kernel
theorem dX6_number_54 : decode cX6_number 54 = .ok (.iadd, 1) := by decide +kernel
theorem dX6_number_55 : decode cX6_number 55 = .ok (.bipush 48, 2) := by decide +kernel
theorem dX6_number_57 : decode cX6_number 57 = .ok (.isub, 1) := by decide +kernel
theorem dX6_number_58 : decode cX6_number 58 = .ok (.istore_n 2, 1) := by decide +kernel
theorem dX6_number_59 : decode cX6_number 59 = .ok (.iinc 3 1, 3) := by decide +kernel
theorem dX6_number_62 : decode cX6_number 62 = .ok (.goto (-46), 3) := by decide +kernel
theorem dX6_number_65 : decode cX6_number 65 = .ok (.iload_n 3, 1) := by decide +kernel
theorem dX6_number_66 : decode cX6_number 66 = .ok (.aload_n 0, 1) := by decide +kernel
theorem dX6_number_67 : decode cX6_number 67 = .ok (.getfield 25, 3) := by decide +kernel
theorem dX6_number_70 : decode cX6_number 70 = .ok (.isub, 1) := by decide +kernel
theorem dX6_number_71 : decode cX6_number 71 = .ok (.istore 4, 2) := by decide +kernel
theorem dX6_number_73 : decode cX6_number 73 = .ok (.iload 4, 2) := by decide +kernel
theorem dX6_number_75 : decode cX6_number 75 = .ok (.iconst 1, 1) := by decide +kernel
theorem dX6_number_76 : decode cX6_number 76 = .ok (.if_icmp .lt 9, 3) := by decide +kernel
theorem dX6_number_79 : decode cX6_number 79 = .ok (.iload 4, 2) := by decide +kernel
theorem dX6_number_81 : decode cX6_number 81 = .ok (.iconst 2, 1) := by decide +kernel
theorem dX6_number_82 : decode cX6_number 82 = .ok (.if_icmp .le 15, 3) := by decide +kernel
theorem dX6_number_85 : decode cX6_number 85 = .ok (.aload_n 0, 1) := by decide +kernel
theorem dX6_number_86 : decode cX6_number 86 = .ok (.iconst 1, 1) := by decide +kernel
theorem dX6_number_87 : decode cX6_number 87 = .ok (.aload_n 0, 1) := by decide +kernel
theorem dX6_number_88 : decode cX6_number 88 = .ok (.getfield 25, 3) := by decide +kernel
theorem dX6_number_91 : decode cX6_number 91 = .ok (.invokevirtual 70, 3) := by decide +kernel
theorem dX6_number_94 : decode cX6_number 94 = .ok (.pop, 1) := by decide +kernel
theorem dX6_number_95 : decode cX6_number 95 = .ok (.iconst 0, 1) := by decide +kernel
theorem dX6_number_96 : decode cX6_number 96 = .ok (.ireturn, 1) := by decide +kernel
theorem dX6_number_97 : decode cX6_number 97 = .ok (.iload_n 2, 1) := by decide +kernel
theorem dX6_number_98 : decode cX6_number 98 = .ok (.iload_n 1, 1) := by decide +kernel
theorem dX6_number_99 : decode cX6_number 99 = .ok (.if_icmp .le 15, 3) := by decide +kernel
theorem dX6_number_102 : decode cX6_number 102 = .ok (.aload_n 0, 1) := by decide +kernel
theorem dX6_number_103 : decode cX6_number 103 = .ok (.iconst 2, 1) := by decide +kernel
theorem dX6_number_104 : decode cX6_number 104 = .ok (.aload_n 0, 1) := by decide +kernel
theorem dX6_number_105 : decode cX6_number 105 = .ok (.getfield 25, 3) := by decide +kernel
theorem dX6_number_108 : decode cX6_number 108 = .ok (.invokevirtual 70, 3) := by decide +kernel
theorem dX6_number_111 : decode cX6_number 111 = .ok (.pop, 1) := by decide +kernel
theorem dX6_number_112 : decode cX6_number 112 = .ok (.iconst 0, 1) := by decide +kernel
theorem dX6_number_113 : decode cX6_number 113 = .ok (.ireturn, 1) := by decide +kernel
theorem dX6_number_114 : decode cX6_number 114 = .ok (.aload_n 0, 1) := by decide +kernel
theorem dX6_number_115 : decode cX6_number 115 = .ok (.iload_n 3, 1) := by decide +kernel
theorem dX6_number_116 : decode cX6_number 116 = .ok (.putfield 25, 3) := by decide +kernel
theorem dX6_number_119 : decode cX6_number 119 = .ok (.iload_n 2, 1) := by decide +kernel
theorem dX6_number_120 : decode cX6_number 120 = .ok (.ireturn, 1) := by decide +kernel
theorem dX6_isFigure_0 : decode cX6_isFigure 0 = .ok (.iload_n 0, 1) := by decide +kernel
theorem dX6_isFigure_1 : decode cX6_isFigure 1 = .ok (.bipush 48, 2) := by decide +kernel
theorem dX6_isFigure_3 : decode cX6_isFigure 3 = .ok (.if_icmp .lt 13, 3) := by decide +kernel
theorem dX6_isFigure_6 : decode cX6_isFigure 6 = .ok (.iload_n 0, 1) := by decide +kernel
theorem dX6_isFigure_7 : decode cX6_isFigure 7 = .ok (.bipush 57, 2) := by decide +kernel
theorem dX6_isFigure_9 : decode cX6_isFigure 9 = .ok (.if_icmp .gt 7, 3) := by decide +kernel
theorem dX6_isFigure_12 : decode cX6_isFigure 12 = .ok (.iconst 1, 1) := by decide +kernel
theorem dX6_isFigure_13 : decode cX6_isFigure 13 = .ok (.goto 4, 3) := by decide +kernel
theorem dX6_isFigure_16 : decode cX6_isFigure 16 = .ok (.iconst 0, 1) := by decide +kernel
theorem dX6_isFigure_17 : decode cX6_isFigure 17 = .ok (.ireturn, 1) := by decide +kernel
theorem dX7_init_0 : decode cX7_init 0 = .ok (.aload_n 0, 1) := by decide +kernel
theorem dX7_init_1 : decode cX7_init 1 = .ok (.invokespecial 3, 3) := by decide +kernel
theorem dX7_init_4 : decode cX7_init 4 = .ok (.aload_n 0, 1) := by decide +kernel
theorem dX7_init_5 : decode cX7_init 5 = .ok (.iconst 0, 1) := by decide +kernel
theorem dX7_init_6 : decode cX7_init 6 = .ok (.putfield 9, 3) := by decide +kernel
theorem dX7_init_9 : decode cX7_init 9 = .ok (.aload_n 0, 1) := by decide +kernel
theorem dX7_init_10 : decode cX7_init 10 = .ok (.iconst 0, 1) := by decide +kernel
theorem dX7_init_11 : decode cX7_init 11 = .ok (.putfield 15, 3) := by decide +kernel
theorem dX7_init_14 : decode cX7_init 14 = .ok (.aload_n 0, 1) := by decide +kernel
theorem dX7_init_15 : decode cX7_init 15 = .ok (.iconst 0, 1) := by decide +kernel
theorem dX7_init_16 : decode cX7_init 16 = .ok (.putfield 18, 3) := by decide +kernel
theorem dX7_init_19 : decode cX7_init 19 = .ok (.aload_n 0, 1) := by decide +kernel
theorem dX7_init_20 : decode cX7_init 20 = .ok (.iconst 5, 1) := by decide +kernel
theorem dX7_init_21 : decode cX7_init 21 = .ok (.newarray .int, 2) := by decide +kernel
theorem dX7_init_23 : decode cX7_init 23 = .ok (.putfield 21, 3) := by decide +kernel
theorem dX7_init_26 : decode cX7_init 26 = .ok (.aload_n 0, 1) := by decide +kernel
theorem dX7_init_27 : decode cX7_init 27 = .ok (.iconst 5, 1) := by decide +kernel
theorem dX7_init_28 : decode cX7_init 28 = .ok (.newarray .int, 2) := by decide +kernel
theorem dX7_init_30 : decode cX7_init 30 = .ok (.putfield 25, 3) := by decide +kernel
theorem dX7_init_33 : decode cX7_init 33 = .ok (.aload_n 0, 1) := by decide +kernel
theorem dX7_init_34 : decode cX7_init 34 = .ok (.bipush 6, 2) := by decide +kernel
theorem dX7_init_36 : decode cX7_init 36 = .ok (.newarray .int, 2) := by decide +kernel
theorem dX7_init_38 : decode cX7_init 38 = .ok (.putfield 28, 3) := by decide +kernel
theorem dX7_init_41 : decode cX7_init 41 = .ok (.aload_n 0, 1) := by decide +kernel
theorem dX7_init_42 : decode cX7_init 42 = .ok (.bipush 6, 2) := by decide +kernel
theorem dX7_init_44 : decode cX7_init 44 = .ok (.newarray .int, 2) := by decide +kernel
theorem dX7_init_46 : decode cX7_init 46 = .ok (.putfield 31, 3) := by decide +kernel
theorem dX7_init_49 : decode cX7_init 49 = .ok (.aload_n 0, 1) := by decide +kernel
theorem dX7_init_50 : decode cX7_init 50 = .ok (.bipush 6, 2) := by decide +kernel
theorem dX7_init_52 : decode cX7_init 52 = .ok (.newarray .int, 2) := by decide +kernel
theorem dX7_init_54 : decode cX7_init 54 = .ok (.putfield 34, 3) := by decide +kernel
theorem dX7_init_57 : decode cX7_init 57 = .ok (.return_, 1) := by decide +kernel
theorem dX7_become_0 : decode cX7_become 0 = .ok (.aload_n 0, 1) := by decide +kernel
theorem dX7_become_1 : decode cX7_become 1 = .ok (.aload_n 1, 1) := by decide +kernel
theorem dX7_become_2 : decode cX7_become 2 = .ok (.getfield 9, 3) := by decide +kernel
theorem dX7_become_5 : decode cX7_become 5 = .ok (.putfield 9, 3) := by decide +kernel
theorem dX7_become_8 : decode cX7_become 8 = .ok (.aload_n 0, 1) := by decide +kernel
theorem dX7_become_9 : decode cX7_become 9 = .ok (.aload_n 1, 1) := by decide +kernel
theorem dX7_become_10 : decode cX7_become 10 = .ok (.getfield 15, 3) := by decide +kernel
theorem dX7_become_13 : decode cX7_become 13 = .ok (.putfield 15, 3) := by decide +kernel
theorem dX7_become_16 : decode cX7_become 16 = .ok (.aload_n 0, 1) := by decide +kernel
theorem dX7_become_17 : decode cX7_become 17 = .ok (.aload_n 1, 1) := by decide +kernel
theorem dX7_become_18 : decode cX7_become 18 = .ok (.getfield 18, 3) := by decide +kernel
theorem dX7_become_21 : decode cX7_become 21 = .ok (.putfield 18, 3) := by decide +kernel
theorem dX7_become_24 : decode cX7_become 24 = .ok (.aload_n 1, 1) := by decide +kernel
theorem dX7_become_25 : decode cX7_become 25 = .ok (.getfield 21, 3) := by decide +kernel
theorem dX7_become_28 : decode cX7_become 28 = .ok (.iconst 0, 1) := by decide +kernel
theorem dX7_become_29 : decode cX7_become 29 = .ok (.aload_n 0, 1) := by decide +kernel
theorem dX7_become_30 : decode cX7_become 30 = .ok (.getfield 21, 3) := by decide +kernel
theorem dX7_become_33 : decode cX7_become 33 = .ok (.iconst 0, 1) := by decide +kernel
theorem dX7_become_34 : decode cX7_become 34 = .ok (.iconst 5, 1) := by decide +kernel
theorem dX7_become_35 : decode cX7_become 35 = .ok (.invokestatic 37, 3) := by decide +kernel
theorem dX7_become_38 : decode cX7_become 38 = .ok (.aload_n 1, 1) := by decide +kernel
theorem dX7_become_39 : decode cX7_become 39 = .ok (.getfield 25, 3) := by decide +kernel
theorem dX7_become_42 : decode cX7_become 42 = .ok (.iconst 0, 1) := by decide +kernel
theorem dX7_become_43 : decode cX7_become 43 = .ok (.aload_n 0, 1) := by decide +kernel
theorem dX7_become_44 : decode cX7_become 44 = .ok (.getfield 25, 3) := by decide +kernel
theorem dX7_become_47 : decode cX7_become 47 = .ok (.iconst 0, 1) := by decide +kernel
theorem dX7_become_48 : decode cX7_become 48 = .ok (.iconst 5, 1) := by decide +kernel
theorem dX7_become_49 : decode cX7_become 49 = .ok (.invokestatic 37, 3) := by decide +kernel
theorem dX7_become_52 : decode cX7_become 52 = .ok (.aload_n 1, 1) := by decide +kernel
theorem dX7_become_53 : decode cX7_become 53 = .ok (.getfield 28, 3) := by decide +kernel
theorem dX7_become_56 : decode cX7_become 56 = .ok (.iconst 0, 1) := by decide +kernel
theorem dX7_become_57 : decode cX7_become 57 = .ok (.aload_n 0, 1) := by decide +kernel
theorem dX7_become_58 : decode cX7_become 58 = .ok (.getfield 28, 3) := by decide +kernel
theorem dX7_become_61 : decode cX7_become 61 = .ok (.iconst 0, 1) := by decide +kernel
theorem dX7_become_62 : decode cX7_become 62 = .ok (.bipush 6, 2) := by decide +kernel
theorem dX7_become_64 : decode cX7_become 64 = .ok (.invokestatic 37, 3) := by decide +kernel
theorem dX7_become_67 : decode cX7_become 67 = .ok (.aload_n 1, 1) := by decide +kernel
theorem dX7_become_68 : decode cX7_become 68 = .ok (.getfield 31, 3) := by decide +kernel
theorem dX7_become_71 : decode cX7_become 71 = .ok (.iconst 0, 1) := by decide +kernel
theorem dX7_become_72 : decode cX7_become 72 = .ok (.aload_n 0, 1) := by decide +kernel
theorem dX7_become_73 : decode cX7_become 73 = .ok (.getfield 31, 3) := by decide +kernel
theorem dX7_become_76 : decode cX7_become 76 = .ok (.iconst 0, 1) := by decide +kernel
theorem dX7_become_77 : decode cX7_become 77 = .ok (.bipush 6, 2) := by decide +kernel
theorem dX7_become_79 : decode cX7_become 79 = .ok (.invokestatic 37, 3) := by decide +kernel
theorem dX7_become_82 : decode cX7_become 82 = .ok (.aload_n 1, 1) := by decide +kernel
theorem dX7_become_83 : decode cX7_become 83 = .ok (.getfield 34, 3) := by decide +kernel
theorem dX7_become_86 : decode cX7_become 86 = .ok (.iconst 0, 1) := by decide +kernel
theorem dX7_become_87 : decode cX7_become 87 = .ok (.aload_n 0, 1) := by decide +kernel
theorem dX7_become_88 : decode cX7_become 88 = .ok (.getfield 34, 3) := by decide +kernel
theorem dX7_become_91 : decode cX7_become 91 = .ok (.iconst 0, 1) := by decide +kernel
theorem dX7_become_92 : decode cX7_become 92 = .ok (.bipush 6, 2) := by decide +kernel
theorem dX7_become_94 : decode cX7_become 94 = .ok (.invokestatic 37, 3) := by decide +kernel
theorem dX7_become_97 : decode cX7_become 97 = .ok (.return_, 1) := by decide +kernel
theorem dJ6_bitCount_0f7a4_0 : decode cJ6_bitCount_0f7a4 0 = .ok (.iload_n 0, 1) := by decide +kernel
theorem dJ6_bitCount_0f7a4_1 : decode cJ6_bitCount_0f7a4 1 = .ok (.iload_n 0, 1) := by decide +kernel
theorem dJ6_bitCount_0f7a4_2 : decode cJ6_bitCount_0f7a4 2 = .ok (.iconst 1, 1) := by decide +kernel
theorem dJ6_bitCount_0f7a4_3 : decode cJ6_bitCount_0f7a4 3 = .ok (.iushr, 1) := by decide +kernel
theorem dJ6_bitCount_0f7a4_4 : decode cJ6_bitCount_0f7a4 4 = .ok (.ldc_w 265, 3) := by decide +kernel
theorem dJ6_bitCount_0f7a4_7 : decode cJ6_bitCount_0f7a4 7 = .ok (.iand, 1) := by decide +kernel
theorem dJ6_bitCount_0f7a4_8 : decode cJ6_bitCount_0f7a4 8 = .ok (.isub, 1) := by decide +kernel
theorem dJ6_bitCount_0f7a4_9 : decode cJ6_bitCount_0f7a4 9 = .ok (.istore_n 0, 1) := by decide +kernel
theorem dJ6_bitCount_0f7a4_10 : decode cJ6_bitCount_0f7a4 10 = .ok (.iload_n 0, 1) := by decide +kernel
theorem dJ6_bitCount_0f7a4_11 : decode cJ6_bitCount_0f7a4 11 = .ok (.ldc_w 266, 3) := by decide +kernel
theorem dJ6_bitCount_0f7a4_14 : decode cJ6_bitCount_0f7a4 14 = .ok (.iand, 1) := by decide +kernel
theorem dJ6_bitCount_0f7a4_15 : decode cJ6_bitCount_0f7a4 15 = .ok (.iload_n 0, 1) := by decide +kernel
theorem dJ6_bitCount_0f7a4_16 : decode cJ6_bitCount_0f7a4 16 = .ok (.iconst 2, 1) := by decide +kernel
theorem dJ6_bitCount_0f7a4_17 : decode cJ6_bitCount_0f7a4 17 = .ok (.iushr, 1) := by decide +kernel
theorem dJ6_bitCount_0f7a4_18 : decode cJ6_bitCount_0f7a4 18 = .ok (.ldc_w 266, 3) := by decide +kernel
theorem dJ6_bitCount_0f7a4_21 : decode cJ6_bitCount_0f7a4 21 = .ok (.iand, 1) := by decide +kernel
theorem dJ6_bitCount_0f7a4_22 : decode cJ6_bitCount_0f7a4 22 = .ok (.iadd, 1) := by decide +kernel
theorem dJ6_bitCount_0f7a4_23 : decode cJ6_bitCount_0f7a4 23 = .ok (.istore_n 0, 1) := by decide +kernel
theorem dJ6_bitCount_0f7a4_24 : decode cJ6_bitCount_0f7a4 24 = .ok (.iload_n 0, 1) := by decide +kernel
theorem dJ6_bitCount_0f7a4_25 : decode cJ6_bitCount_0f7a4 25 = .ok (.iload_n 0, 1) := by decide +kernel
theorem dJ6_bitCount_0f7a4_26 : decode cJ6_bitCount_0f7a4 26 = .ok (.iconst 4, 1) := by decide +kernel
theorem dJ6_bitCount_0f7a4_27 : decode cJ6_bitCount_0f7a4 27 = .ok (.iushr, 1) := by decide +kernel
theorem dJ6_bitCount_0f7a4_28 : decode cJ6_bitCount_0f7a4 28 = .ok (.iadd, 1) := by decide +kernel
theorem dJ6_bitCount_0f7a4_29 : decode cJ6_bitCount_0f7a4 29 = .ok (.ldc_w 267, 3) := by decide +kernel
theorem dJ6_bitCount_0f7a4_32 : decode cJ6_bitCount_0f7a4 32 = .ok (.iand, 1) := by decide +kernel
theorem dJ6_bitCount_0f7a4_33 : decode cJ6_bitCount_0f7a4 33 = .ok (.istore_n 0, 1) := by decide +kernel
theorem dJ6_bitCount_0f7a4_34 : decode cJ6_bitCount_0f7a4 34 = .ok (.iload_n 0, 1) := by decide +kernel
theorem dJ6_bitCount_0f7a4_35 : decode cJ6_bitCount_0f7a4 35 = .ok (.iload_n 0, 1) := by decide +kernel
theorem dJ6_bitCount_0f7a4_36 : decode cJ6_bitCount_0f7a4 36 = .ok (.bipush 8, 2) := by decide +kernel
theorem dJ6_bitCount_0f7a4_38 : decode cJ6_bitCount_0f7a4 38 = .ok (.iushr, 1) := by decide +kernel
theorem dJ6_bitCount_0f7a4_39 : decode cJ6_bitCount_0f7a4 39 = .ok (.iadd, 1) := by decide +kernel
theorem dJ6_bitCount_0f7a4_40 : decode cJ6_bitCount_0f7a4 40 = .ok (.istore_n 0, 1) := by decide +kernel
theorem dJ6_bitCount_0f7a4_41 : decode cJ6_bitCount_0f7a4 41 = .ok (.iload_n 0, 1) := by decide +kernel
theorem dJ6_bitCount_0f7a4_42 : decode cJ6_bitCount_0f7a4 42 = .ok (.iload_n 0, 1) := by decide +kernel
theorem dJ6_bitCount_0f7a4_43 : decode cJ6_bitCount_0f7a4 43 = .ok (.bipush 16, 2) := by decide +kernel
theorem dJ6_bitCount_0f7a4_45 : decode cJ6_bitCount_0f7a4 45 = .ok (.iushr, 1) := by decide +kernel
theorem dJ6_bitCount_0f7a4_46 : decode cJ6_bitCount_0f7a4 46 = .ok (.iadd, 1) := by decide +kernel
theorem dJ6_bitCount_0f7a4_47 : decode cJ6_bitCount_0f7a4 47 = .ok (.istore_n 0, 1) := by decide +kernel
theorem dJ6_bitCount_0f7a4_48 : decode cJ6_bitCount_0f7a4 48 = .ok (.iload_n 0, 1) := by decide +kernel
theorem dJ6_bitCount_0f7a4_49 : decode cJ6_bitCount_0f7a4 49 = .ok (.bipush 63, 2) := by decide +kernel
theorem dJ6_bitCount_0f7a4_51 : decode cJ6_bitCount_0f7a4 51 = .ok (.iand, 1) := by decide +kernel
theorem dJ6_bitCount_0f7a4_52 : decode cJ6_bitCount_0f7a4 52 = .ok (.ireturn, 1) := by decide +kernel
theorem dJ9_max_7cf53_0 : decode cJ9_max_7cf53 0 = .ok (.iload_n 0, 1) := by decide +kernel
theorem dJ9_max_7cf53_1 : decode cJ9_max_7cf53 1 = .ok (.iload_n 1, 1) := by decide +kernel
theorem dJ9_max_7cf53_2 : decode cJ9_max_7cf53 2 = .ok (.if_icmp .lt 7, 3) := by decide +kernel
theorem dJ9_max_7cf53_5 : decode cJ9_max_7cf53 5 = .ok (.iload_n 0, 1) := by decide +kernel
theorem dJ9_max_7cf53_6 : decode cJ9_max_7cf53 6 = .ok (.goto 4, 3) := by decide +kernel
theorem dJ9_max_7cf53_9 : decode cJ9_max_7cf53 9 = .ok (.iload_n 1, 1) := by decide +kernel
theorem dJ9_max_7cf53_10 : decode cJ9_max_7cf53 10 = .ok (.ireturn, 1) := by decide +kernel
theorem dJ9_min_7cf53_0 : decode cJ9_min_7cf53 0 = .ok (.iload_n 0, 1) := by decide +kernel
theorem dJ9_min_7cf53_1 : decode cJ9_min_7cf53 1 = .ok (.iload_n 1, 1) := by decide +kernel
theorem dJ9_min_7cf53_2 : decode cJ9_min_7cf53 2 = .ok (.if_icmp .gt 7, 3) := by decide +kernel
theorem dJ9_min_7cf53_5 : decode cJ9_min_7cf53 5 = .ok (.iload_n 0, 1) := by decide +kernel
theorem dJ9_min_7cf53_6 : decode cJ9_min_7cf53 6 = .ok (.goto 4, 3) := by decide +kernel
theorem dJ9_min_7cf53_9 : decode cJ9_min_7cf53 9 = .ok (.iload_n 1, 1) := by decide +kernel
theorem dJ9_min_7cf53_10 : decode cJ9_min_7cf53 10 = .ok (.ireturn, 1) := by decide +kernel
