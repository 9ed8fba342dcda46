theorem dX0_init_0 : decode cX0_init 0 = .ok (.aload_n 0, 1) := by decide +kernel
theorem dX0_init_1 : decode cX0_init 1 = .ok (.invokespecial 3, 3) := by decide +kernel
theorem dX0_init_4 : decode cX0_init 4 = .ok (.aload_n 0, 1) := by decide +kernel
theorem dX0_init_5 : decode cX0_init 5 = .ok (.aload_n 1, 1) := by decide +kernel
theorem dX0_init_6 : decode cX0_init 6 = .ok (.putfield 9, 3) := by decide +kernel
theorem dX0_init_9 : decode cX0_init 9 = .ok (.return_, 1) := by decide +kernel
theorem dX0_begin_0 : decode cX0_begin 0 = .ok (.aload_n 0, 1) := by decide +kernel
theorem dX0_begin_1 : decode cX0_begin 1 = .ok (.iload_n 1, 1) := by decide +kernel
theorem dX0_begin_2 : decode cX0_begin 2 = .ok (.iconst 1, 1) := by decide +kernel
theorem dX0_begin_3 : decode cX0_begin 3 = .ok (.iadd, 1) := by decide +kernel
theorem dX0_begin_4 : decode cX0_begin 4 = .ok (.i2l, 1) := by decide +kernel
theorem dX0_begin_5 : decode cX0_begin 5 = .ok (.putfield 15, 3) := by decide +kernel
theorem dX0_begin_8 : decode cX0_begin 8 = .ok (.aload_n 0, 1) := by decide +kernel
theorem dX0_begin_9 : decode cX0_begin 9 = .ok (.aload_n 0, 1) := by decide +kernel
theorem dX0_begin_10 : decode cX0_begin 10 = .ok (.getfield 9, 3) := by decide +kernel
theorem dX0_begin_13 : decode cX0_begin 13 = .ok (.getfield 19, 3) := by decide +kernel
theorem dX0_begin_16 : decode cX0_begin 16 = .ok (.getfield 25, 3) := by decide +kernel
theorem dX0_begin_19 : decode cX0_begin 19 = .ok (.putfield 31, 3) := by decide +kernel
theorem dX0_begin_22 : decode cX0_begin 22 = .ok (.aload_n 0, 1) := by decide +kernel
theorem dX0_begin_23 : decode cX0_begin 23 = .ok (.iconst 0, 1) := by decide +kernel
theorem dX0_begin_24 : decode cX0_begin 24 = .ok (.putfield 32, 3) := by decide +kernel
theorem dX0_begin_27 : decode cX0_begin 27 = .ok (.aload_n 0, 1) := by decide +kernel
theorem dX0_begin_28 : decode cX0_begin 28 = .ok (.iconst 0, 1) := by decide +kernel
theorem dX0_begin_29 : decode cX0_begin 29 = .ok (.putfield 35, 3) := by decide +kernel
theorem dX0_begin_32 : decode cX0_begin 32 = .ok (.return_, 1) := by decide +kernel
theorem dX0_drawRow_0 : decode cX0_drawRow 0 = .ok (.aload_n 0, 1) := by decide +kernel
theorem dX0_drawRow_1 : decode cX0_drawRow 1 = .ok (.iload_n 1, 1) := by decide +kernel
theorem dX0_drawRow_2 : decode cX0_drawRow 2 = .ok (.invokevirtual 38, 3) := by decide +kernel
theorem dX0_drawRow_5 : decode cX0_drawRow 5 = .ok (.iconst 0, 1) := by decide +kernel
theorem dX0_drawRow_6 : decode cX0_drawRow 6 = .ok (.istore 4, 2) := by decide +kernel
theorem dX0_drawRow_8 : decode cX0_drawRow 8 = .ok (.iload 4, 2) := by decide +kernel
theorem dX0_drawRow_10 : decode cX0_drawRow 10 = .ok (.iload_n 2, 1) := by decide +kernel
theorem dX0_drawRow_11 : decode cX0_drawRow 11 = .ok (.if_icmp .ge 28, 3) := by decide +kernel
theorem dX0_drawRow_14 : decode cX0_drawRow 14 = .ok (.aload_n 0, 1) := by decide +kernel
theorem dX0_drawRow_15 : decode cX0_drawRow 15 = .ok (.getfield 31, 3) := by decide +kernel
theorem dX0_drawRow_18 : decode cX0_drawRow 18 = .ok (.ldc 42, 2) := by decide +kernel
theorem dX0_drawRow_20 : decode cX0_drawRow 20 = .ok (.if_icmp .eq 19, 3) := by decide +kernel
theorem dX0_drawRow_23 : decode cX0_drawRow 23 = .ok (.aload_n 0, 1) := by decide +kernel
theorem dX0_drawRow_24 : decode cX0_drawRow 24 = .ok (.aload_n 0, 1) := by decide +kernel
theorem dX0_drawRow_25 : decode cX0_drawRow 25 = .ok (.aload_n 3, 1) := by decide +kernel
theorem dX0_drawRow_26 : decode cX0_drawRow 26 = .ok (.invokevirtual 43, 3) := by decide +kernel
theorem dX0_drawRow_29 : decode cX0_drawRow 29 = .ok (.invokevirtual 47, 3) := by decide +kernel
theorem dX0_drawRow_32 : decode cX0_drawRow 32 = .ok (.pop, 1) := by decide +kernel
theorem dX0_drawRow_33 : decode cX0_drawRow 33 = .ok (.iinc 4 1, 3) := by decide +kernel
theorem dX0_drawRow_36 : decode cX0_drawRow 36 = .ok (.goto (-28), 3) := by decide +kernel
theorem dX0_drawRow_39 : decode cX0_drawRow 39 = .ok (.return_, 1) := by decide +kernel
theorem dX0_firstEmpty_0 : decode cX0_firstEmpty 0 = .ok (.iconst 0, 1) := by decide +kernel
theorem dX0_firstEmpty_1 : decode cX0_firstEmpty 1 = .ok (.istore_n 2, 1) := by decide +kernel
theorem dX0_firstEmpty_2 : decode cX0_firstEmpty 2 = .ok (.iload_n 2, 1) := by decide +kernel
theorem dX0_firstEmpty_3 : decode cX0_firstEmpty 3 = .ok (.bipush 16, 2) := by decide +kernel
theorem dX0_firstEmpty_5 : decode cX0_firstEmpty 5 = .ok (.if_icmp .ge 26, 3) := by decide +kernel
theorem dX0_firstEmpty_8 : decode cX0_firstEmpty 8 = .ok (.aload_n 0, 1) := by decide +kernel
theorem dX0_firstEmpty_9 : decode cX0_firstEmpty 9 = .ok (.getfield 31, 3) := by decide +kernel
theorem dX0_firstEmpty_12 : decode cX0_firstEmpty 12 = .ok (.aload_n 1, 1) := by decide +kernel
theorem dX0_firstEmpty_13 : decode cX0_firstEmpty 13 = .ok (.iload_n 2, 1) := by decide +kernel
theorem dX0_firstEmpty_14 : decode cX0_firstEmpty 14 = .ok (.iaload, 1) := by decide +kernel
theorem dX0_firstEmpty_15 : decode cX0_firstEmpty 15 = .ok (.invokestatic 51, 3) := by decide +kernel
theorem dX0_firstEmpty_18 : decode cX0_firstEmpty 18 = .ok (.ifCond .ne 7, 3) := by decide +kernel
theorem dX0_firstEmpty_21 : decode cX0_firstEmpty 21 = .ok (.aload_n 1, 1) := by decide +kernel
theorem dX0_firstEmpty_22 : decode cX0_firstEmpty 22 = .ok (.iload_n 2, 1) := by decide +kernel
theorem dX0_firstEmpty_23 : decode cX0_firstEmpty 23 = .ok (.iaload, 1) := by decide +kernel
theorem dX0_firstEmpty_24 : decode cX0_firstEmpty 24 = .ok (.ireturn, 1) := by decide +kernel
theorem dX0_firstEmpty_25 : decode cX0_firstEmpty 25 = .ok (.iinc 2 1, 3) := by decide +kernel
theorem dX0_firstEmpty_28 : decode cX0_firstEmpty 28 = .ok (.goto (-26), 3) := by decide +kernel
theorem dX0_firstEmpty_31 : decode cX0_firstEmpty 31 = .ok (.iconst 0, 1) := by decide +kernel
theorem dX0_firstEmpty_32 : decode cX0_firstEmpty 32 = .ok (.ireturn, 1) := by decide +kernel
theorem dX0_putUp_0 : decode cX0_putUp 0 = .ok (.aload_n 0, 1) := by decide +kernel
theorem dX0_putUp_1 : decode cX0_putUp 1 = .ok (.aload_n 0, 1) := by decide +kernel
theorem dX0_putUp_2 : decode cX0_putUp 2 = .ok (.getfield 15, 3) := by decide +kernel
theorem dX0_putUp_5 : decode cX0_putUp 5 = .ok (.ldc2_w 55, 3) := by decide +kernel
theorem dX0_putUp_8 : decode cX0_putUp 8 = .ok (.lmul, 1) := by decide +kernel
theorem dX0_putUp_9 : decode cX0_putUp 9 = .ok (.ldc2_w 57, 3) := by decide +kernel
theorem dX0_putUp_12 : decode cX0_putUp 12 = .ok (.lrem, 1) := by decide +kernel
theorem dX0_putUp_13 : decode cX0_putUp 13 = .ok (.putfield 15, 3) := by decide +kernel
theorem dX0_putUp_16 : decode cX0_putUp 16 = .ok (.aload_n 0, 1) := by decide +kernel
theorem dX0_putUp_17 : decode cX0_putUp 17 = .ok (.dup, 1) := by decide +kernel
theorem dX0_putUp_18 : decode cX0_putUp 18 = .ok (.getfield 32, 3) := by decide +kernel
theorem dX0_putUp_21 : decode cX0_putUp 21 = .ok (.iconst 1, 1) := by decide +kernel
theorem dX0_putUp_22 : decode cX0_putUp 22 = .ok (.iadd, 1) := by decide +kernel
theorem dX0_putUp_23 : decode cX0_putUp 23 = .ok (.putfield 32, 3) := by decide +kernel
theorem dX0_putUp_26 : decode cX0_putUp 26 = .ok (.aload_n 0, 1) := by decide +kernel
theorem dX0_putUp_27 : decode cX0_putUp 27 = .ok (.getfield 9, 3) := by decide +kernel
theorem dX0_putUp_30 : decode cX0_putUp 30 = .ok (.getfield 19, 3) := by decide +kernel
theorem dX0_putUp_33 : decode cX0_putUp 33 = .ok (.getfield 59, 3) := by decide +kernel
theorem dX0_putUp_36 : decode cX0_putUp 36 = .ok (.istore_n 2, 1) := by decide +kernel
theorem dX0_putUp_37 : decode cX0_putUp 37 = .ok (.aload_n 0, 1) := by decide +kernel
theorem dX0_putUp_38 : decode cX0_putUp 38 = .ok (.getfield 9, 3) := by decide +kernel
theorem dX0_putUp_41 : decode cX0_putUp 41 = .ok (.iload_n 1, 1) := by decide +kernel
theorem dX0_putUp_42 : decode cX0_putUp 42 = .ok (.iconst 1, 1) := by decide +kernel
theorem dX0_putUp_43 : decode cX0_putUp 43 = .ok (.aload_n 0, 1) := by decide +kernel
theorem dX0_putUp_44 : decode cX0_putUp 44 = .ok (.getfield 31, 3) := by decide +kernel
theorem dX0_putUp_47 : decode cX0_putUp 47 = .ok (.iload_n 2, 1) := by decide +kernel
theorem dX0_putUp_48 : decode cX0_putUp 48 = .ok (.invokevirtual 62, 3) := by decide +kernel
theorem dX0_putUp_51 : decode cX0_putUp 51 = .ok (.aload_n 0, 1) := by decide +kernel
theorem dX0_putUp_52 : decode cX0_putUp 52 = .ok (.getfield 9, 3) := by decide +kernel
theorem dX0_putUp_55 : decode cX0_putUp 55 = .ok (.iload_n 1, 1) := by decide +kernel
theorem dX0_putUp_56 : decode cX0_putUp 56 = .ok (.iconst (-1), 1) := by decide +kernel
theorem dX0_putUp_57 : decode cX0_putUp 57 = .ok (.aload_n 0, 1) := by decide +kernel
theorem dX0_putUp_58 : decode cX0_putUp 58 = .ok (.getfield 31, 3) := by decide +kernel
theorem dX0_putUp_61 : decode cX0_putUp 61 = .ok (.iload_n 2, 1) := by decide +kernel
theorem dX0_putUp_62 : decode cX0_putUp 62 = .ok (.invokevirtual 62, 3) := by decide +kernel
theorem dX0_putUp_65 : decode cX0_putUp 65 = .ok (.ior, 1) := by decide +kernel
theorem dX0_putUp_66 : decode cX0_putUp 66 = .ok (.istore_n 3, 1) := by decide +kernel
theorem dX0_putUp_67 : decode cX0_putUp 67 = .ok (.iload_n 3, 1) := by decide +kernel
theorem dX0_putUp_68 : decode cX0_putUp 68 = .ok (.invokestatic 66, 3) := by decide +kernel
theorem dX0_putUp_71 : decode cX0_putUp 71 = .ok (.istore 4, 2) := by decide +kernel
theorem dX0_putUp_73 : decode cX0_putUp 73 = .ok (.aload_n 0, 1) := by decide +kernel
theorem dX0_putUp_74 : decode cX0_putUp 74 = .ok (.getfield 15, 3) := by decide +kernel
theorem dX0_putUp_77 : decode cX0_putUp 77 = .ok (.ldc2_w 71, 3) := by decide +kernel
theorem dX0_putUp_80 : decode cX0_putUp 80 = .ok (.lrem, 1) := by decide +kernel
theorem dX0_putUp_81 : decode cX0_putUp 81 = .ok (.aload_n 0, 1) := by decide +kernel
theorem dX0_putUp_82 : decode cX0_putUp 82 = .ok (.getfield 9, 3) := by decide +kernel
theorem dX0_putUp_85 : decode cX0_putUp 85 = .ok (.iload_n 1, 1) := by decide +kernel
theorem dX0_putUp_86 : decode cX0_putUp 86 = .ok (.iload 4, 2) := by decide +kernel
theorem dX0_putUp_88 : decode cX0_putUp 88 = .ok (.invokevirtual 73, 3) := by decide +kernel
theorem dX0_putUp_91 : decode cX0_putUp 91 = .ok (.i2l, 1) := by decide +kernel
theorem dX0_putUp_92 : decode cX0_putUp 92 = .ok (.lcmp, 1) := by decide +kernel
theorem dX0_putUp_93 : decode cX0_putUp 93 = .ok (.ifCond .ge 28, 3) := by decide +kernel
theorem dX0_putUp_96 : decode cX0_putUp 96 = .ok (.aload_n 0, 1) := by decide +kernel
theorem dX0_putUp_97 : decode cX0_putUp 97 = .ok (.dup, 1) := by decide +kernel
theorem dX0_putUp_98 : decode cX0_putUp 98 = .ok (.getfield 31, 3) := by decide +kernel
theorem dX0_putUp_101 : decode cX0_putUp 101 = .ok (.iload_n 3, 1) := by decide +kernel
theorem dX0_putUp_102 : decode cX0_putUp 102 = .ok (.iconst (-1), 1) := by decide +kernel
theorem dX0_putUp_103 : decode cX0_putUp 103 = .ok (.ixor, 1) := by decide +kernel
theorem dX0_putUp_104 : decode cX0_putUp 104 = .ok (.iand, 1) := by decide +kernel
theorem dX0_putUp_105 : decode cX0_putUp 105 = .ok (.putfield 31, 3) := by decide +kernel
theorem dX0_putUp_108 : decode cX0_putUp 108 = .ok (.aload_n 0, 1) := by decide +kernel
theorem dX0_putUp_109 : decode cX0_putUp 109 = .ok (.dup, 1) := by decide +kernel
theorem dX0_putUp_110 : decode cX0_putUp 110 = .ok (.getfield 35, 3) := by decide +kernel
theorem dX0_putUp_113 : decode cX0_putUp 113 = .ok (.iconst 1, 1) := by decide +kernel
theorem dX0_putUp_114 : decode cX0_putUp 114 = .ok (.iadd, 1) := by decide +kernel
theorem dX0_putUp_115 : decode cX0_putUp 115 = .ok (.putfield 35, 3) := by decide +kernel
theorem dX0_putUp_118 : decode cX0_putUp 118 = .ok (.iload 4, 2) := by decide +kernel
theorem dX0_putUp_120 : decode cX0_putUp 120 = .ok (.ireturn, 1) := by decide +kernel
theorem dX0_putUp_121 : decode cX0_putUp 121 = .ok (.aload_n 0, 1) := by decide +kernel
theorem dX0_putUp_122 : decode cX0_putUp 122 = .ok (.dup, 1) := by decide +kernel
theorem dX0_putUp_123 : decode cX0_putUp 123 = .ok (.getfield 31, 3) := by decide +kernel
theorem dX0_putUp_126 : decode cX0_putUp 126 = .ok (.iconst 1, 1) := by decide +kernel
theorem dX0_putUp_127 : decode cX0_putUp 127 = .ok (.iload_n 1, 1) := by decide +kernel
theorem dX0_putUp_128 : decode cX0_putUp 128 = .ok (.ishl, 1) := by decide +kernel
theorem dX0_putUp_129 : decode cX0_putUp 129 = .ok (.ior, 1) := by decide +kernel
theorem dX0_putUp_130 : decode cX0_putUp 130 = .ok (.putfield 31, 3) := by decide +kernel
theorem dX0_putUp_133 : decode cX0_putUp 133 = .ok (.iconst (-1), 1) := by decide +kernel
theorem dX0_putUp_134 : decode cX0_putUp 134 = .ok (.ireturn, 1) := by decide +kernel
theorem dX1_init_0 : decode cX1_init 0 = .ok (.aload_n 0, 1) := by decide +kernel
theorem dX1_init_1 : decode cX1_init 1 = .ok (.invokespecial 3, 3) := by decide +kernel
theorem dX1_init_4 : decode cX1_init 4 = .ok (.aload_n 0, 1) := by decide +kernel
theorem dX1_init_5 : decode cX1_init 5 = .ok (.aload_n 1, 1) := by decide +kernel
theorem dX1_init_6 : decode cX1_init 6 = .ok (.putfield 9, 3) := by decide +kernel
theorem dX1_init_9 : decode cX1_init 9 = .ok (.return_, 1) := by decide +kernel
theorem dX1_begin_0 : decode cX1_begin 0 = .ok (.aload_n 0, 1) := by decide +kernel
theorem dX1_begin_1 : decode cX1_begin 1 = .ok (.iconst 0, 1) := by decide +kernel
theorem dX1_begin_2 : decode cX1_begin 2 = .ok (.putfield 15, 3) := by decide +kernel
theorem dX1_begin_5 : decode cX1_begin 5 = .ok (.aload_n 0, 1) := by decide +kernel
theorem dX1_begin_6 : decode cX1_begin 6 = .ok (.ldc2_w 19, 3) := by decide +kernel
theorem dX1_begin_9 : decode cX1_begin 9 = .ok (.putfield 21, 3) := by decide +kernel
theorem dX1_begin_12 : decode cX1_begin 12 = .ok (.aload_n 0, 1) := by decide +kernel
theorem dX1_begin_13 : decode cX1_begin 13 = .ok (.ldc2_w 19, 3) := by decide +kernel
theorem dX1_begin_16 : decode cX1_begin 16 = .ok (.putfield 25, 3) := by decide +kernel
theorem dX1_begin_19 : decode cX1_begin 19 = .ok (.return_, 1) := by decide +kernel
theorem dX1_consider_0 : decode cX1_consider 0 = .ok (.aload_n 0, 1) := by decide +kernel
theorem dX1_consider_1 : decode cX1_consider 1 = .ok (.getfield 15, 3) := by decide +kernel
theorem dX1_consider_4 : decode cX1_consider 4 = .ok (.ifCond .eq 12, 3) := by decide +kernel
theorem dX1_consider_7 : decode cX1_consider 7 = .ok (.lload_n 2, 1) := by decide +kernel
theorem dX1_consider_8 : decode cX1_consider 8 = .ok (.aload_n 0, 1) := by decide +kernel
theorem dX1_consider_9 : decode cX1_consider 9 = .ok (.getfield 25, 3) := by decide +kernel
theorem dX1_consider_12 : decode cX1_consider 12 = .ok (.lcmp, 1) := by decide +kernel
theorem dX1_consider_13 : decode cX1_consider 13 = .ok (.ifCond .ge 19, 3) := by decide +kernel
theorem dX1_consider_16 : decode cX1_consider 16 = .ok (.aload_n 0, 1) := by decide +kernel
theorem dX1_consider_17 : decode cX1_consider 17 = .ok (.iconst 1, 1) := by decide +kernel
theorem dX1_consider_18 : decode cX1_consider 18 = .ok (.putfield 15, 3) := by decide +kernel
theorem dX1_consider_21 : decode cX1_consider 21 = .ok (.aload_n 0, 1) := by decide +kernel
theorem dX1_consider_22 : decode cX1_consider 22 = .ok (.iload_n 1, 1) := by decide +kernel
theorem dX1_consider_23 : decode cX1_consider 23 = .ok (.i2l, 1) := by decide +kernel
theorem dX1_consider_24 : decode cX1_consider 24 = .ok (.putfield 21, 3) := by decide +kernel
theorem dX1_consider_27 : decode cX1_consider 27 = .ok (.aload_n 0, 1) := by decide +kernel
theorem dX1_consider_28 : decode cX1_consider 28 = .ok (.lload_n 2, 1) := by decide +kernel
theorem dX1_consider_29 : decode cX1_consider 29 = .ok (.putfield 25, 3) := by decide +kernel
theorem dX1_consider_32 : decode cX1_consider 32 = .ok (.return_, 1) := by decide +kernel
theorem dX1_answer_0 : decode cX1_answer 0 = .ok (.iload_n 1, 1) := by decide +kernel
theorem dX1_answer_1 : decode cX1_answer 1 = .ok (.ifCond .ne 10, 3) := by decide +kernel
theorem dX1_answer_4 : decode cX1_answer 4 = .ok (.aload_n 0, 1) := by decide +kernel
theorem dX1_answer_5 : decode cX1_answer 5 = .ok (.getfield 21, 3) := by decide +kernel
theorem dX1_answer_8 : decode cX1_answer 8 = .ok (.goto 7, 3) := by decide +kernel
theorem dX1_answer_11 : decode cX1_answer 11 = .ok (.aload_n 0, 1) := by decide +kernel
theorem dX1_answer_12 : decode cX1_answer 12 = .ok (.getfield 25, 3) := by decide +kernel
theorem dX1_answer_15 : decode cX1_answer 15 = .ok (.lreturn, 1) := by decide +kernel
theorem dX1_trySizes_0 : decode cX1_trySizes 0 = .ok (.iconst 0, 1) := by decide +kernel
theorem dX1_trySizes_1 : decode cX1_trySizes 1 = .ok (.istore_n 2, 1) := by decide +kernel
theorem dX1_trySizes_2 : decode cX1_trySizes 2 = .ok (.iload_n 2, 1) := by decide +kernel
theorem dX1_trySizes_3 : decode cX1_trySizes 3 = .ok (.iload_n 1, 1) := by decide +kernel
theorem dX1_trySizes_4 : decode cX1_trySizes 4 = .ok (.if_icmp .gt 16, 3) := by decide +kernel
theorem dX1_trySizes_7 : decode cX1_trySizes 7 = .ok (.aload_n 0, 1) := by decide +kernel
theorem dX1_trySizes_8 : decode cX1_trySizes 8 = .ok (.iconst 0, 1) := by decide +kernel
theorem dX1_trySizes_9 : decode cX1_trySizes 9 = .ok (.iconst 0, 1) := by decide +kernel
theorem dX1_trySizes_10 : decode cX1_trySizes 10 = .ok (.iload_n 2, 1) := by decide +kernel
theorem dX1_trySizes_11 : decode cX1_trySizes 11 = .ok (.invokevirtual 28, 3) := by decide +kernel
theorem dX1_trySizes_14 : decode cX1_trySizes 14 = .ok (.iinc 2 1, 3) := by decide +kernel
theorem dX1_trySizes_17 : decode cX1_trySizes 17 = .ok (.goto (-15), 3) := by decide +kernel
theorem dX1_trySizes_20 : decode cX1_trySizes 20 = .ok (.return_, 1) := by decide +kernel
theorem dX1_trySets_0 : decode cX1_trySets 0 = .ok (.iload_n 3, 1) := by decide +kernel
theorem dX1_trySets_1 : decode cX1_trySets 1 = .ok (.ifCond .gt 19, 3) := by decide +kernel
theorem dX1_trySets_4 : decode cX1_trySets 4 = .ok (.aload_n 0, 1) := by decide +kernel
theorem dX1_trySets_5 : decode cX1_trySets 5 = .ok (.iload_n 1, 1) := by decide +kernel
theorem dX1_trySets_6 : decode cX1_trySets 6 = .ok (.aload_n 0, 1) := by decide +kernel
theorem dX1_trySets_7 : decode cX1_trySets 7 = .ok (.getfield 9, 3) := by decide +kernel
theorem dX1_trySets_10 : decode cX1_trySets 10 = .ok (.iload_n 1, 1) := by decide +kernel
theorem dX1_trySets_11 : decode cX1_trySets 11 = .ok (.invokevirtual 32, 3) := by decide +kernel
theorem dX1_trySets_14 : decode cX1_trySets 14 = .ok (.invokevirtual 38, 3) := by decide +kernel
theorem dX1_trySets_17 : decode cX1_trySets 17 = .ok (.goto 36, 3) := by decide +kernel
theorem dX1_trySets_20 : decode cX1_trySets 20 = .ok (.iload_n 2, 1) := by decide +kernel
theorem dX1_trySets_21 : decode cX1_trySets 21 = .ok (.istore 4, 2) := by decide +kernel
theorem dX1_trySets_23 : decode cX1_trySets 23 = .ok (.iload 4, 2) := by decide +kernel
theorem dX1_trySets_25 : decode cX1_trySets 25 = .ok (.bipush 16, 2) := by decide +kernel
theorem dX1_trySets_27 : decode cX1_trySets 27 = .ok (.if_icmp .ge 26, 3) := by decide +kernel
theorem dX1_trySets_30 : decode cX1_trySets 30 = .ok (.aload_n 0, 1) := by decide +kernel
theorem dX1_trySets_31 : decode cX1_trySets 31 = .ok (.iload_n 1, 1) := by decide +kernel
theorem dX1_trySets_32 : decode cX1_trySets 32 = .ok (.iconst 1, 1) := by decide +kernel
theorem dX1_trySets_33 : decode cX1_trySets 33 = .ok (.iload 4, 2) := by decide +kernel
theorem dX1_trySets_35 : decode cX1_trySets 35 = .ok (.ishl, 1) := by decide +kernel
theorem dX1_trySets_36 : decode cX1_trySets 36 = .ok (.ior, 1) := by decide +kernel
theorem dX1_trySets_37 : decode cX1_trySets 37 = .ok (.iload 4, 2) := by decide +kernel
theorem dX1_trySets_39 : decode cX1_trySets 39 = .ok (.iconst 1, 1) := by decide +kernel
theorem dX1_trySets_40 : decode cX1_trySets 40 = .ok (.iadd, 1) := by decide +kernel
theorem dX1_trySets_41 : decode cX1_trySets 41 = .ok (.iload_n 3, 1) := by decide +kernel
theorem dX1_trySets_42 : decode cX1_trySets 42 = .ok (.iconst 1, 1) := by decide +kernel
theorem dX1_trySets_43 : decode cX1_trySets 43 = .ok (.isub, 1) := by decide +kernel
theorem dX1_trySets_44 : decode cX1_trySets 44 = .ok (.invokevirtual 28, 3) := by decide +kernel
theorem dX1_trySets_47 : decode cX1_trySets 47 = .ok (.iinc 4 1, 3) := by decide +kernel
theorem dX1_trySets_50 : decode cX1_trySets 50 = .ok (.goto (-27), 3) := by decide +kernel
theorem dX1_trySets_53 : decode cX1_trySets 53 = .ok (.return_, 1) := by decide +kernel
theorem dX2_init_0 : decode cX2_init 0 = .ok (.aload_n 0, 1) := by decide +kernel
theorem dX2_init_1 : decode cX2_init 1 = .ok (.invokespecial 3, 3) := by decide +kernel
theorem dX2_init_4 : decode cX2_init 4 = .ok (.aload_n 0, 1) := by decide +kernel
theorem dX2_init_5 : decode cX2_init 5 = .ok (.sipush 256, 3) := by decide +kernel
theorem dX2_init_8 : decode cX2_init 8 = .ok (.newarray .long, 2) := by decide +kernel
theorem dX2_init_10 : decode cX2_init 10 = .ok (.putfield 9, 3) := by decide +kernel
theorem dX2_init_13 : decode cX2_init 13 = .ok (.aload_n 0, 1) := by decide +kernel
theorem dX2_init_14 : decode cX2_init 14 = .ok (.bipush 16, 2) := by decide +kernel
theorem dX2_init_16 : decode cX2_init 16 = .ok (.newarray .int, 2) := by decide +kernel
theorem dX2_init_18 : decode cX2_init 18 = .ok (.putfield 15, 3) := by decide +kernel
theorem dX2_init_21 : decode cX2_init 21 = .ok (.aload_n 0, 1) := by decide +kernel
theorem dX2_init_22 : decode cX2_init 22 = .ok (.bipush 16, 2) := by decide +kernel
theorem dX2_init_24 : decode cX2_init 24 = .ok (.newarray .int, 2) := by decide +kernel
theorem dX2_init_26 : decode cX2_init 26 = .ok (.putfield 19, 3) := by decide +kernel
theorem dX2_init_29 : decode cX2_init 29 = .ok (.aload_n 0, 1) := by decide +kernel
theorem dX2_init_30 : decode cX2_init 30 = .ok (.aload_n 1, 1) := by decide +kernel
theorem dX2_init_31 : decode cX2_init 31 = .ok (.putfield 22, 3) := by decide +kernel
theorem dX2_init_34 : decode cX2_init 34 = .ok (.return_, 1) := by decide +kernel
theorem dX2_from_0 : decode cX2_from 0 = .ok (.aload_n 0, 1) := by decide +kernel
theorem dX2_from_1 : decode cX2_from 1 = .ok (.iload_n 1, 1) := by decide +kernel
theorem dX2_from_2 : decode cX2_from 2 = .ok (.putfield 26, 3) := by decide +kernel
theorem dX2_from_5 : decode cX2_from 5 = .ok (.aload_n 0, 1) := by decide +kernel
theorem dX2_from_6 : decode cX2_from 6 = .ok (.getfield 9, 3) := by decide +kernel
theorem dX2_from_9 : decode cX2_from 9 = .ok (.ldc2_w 30, 3) := by decide +kernel
theorem dX2_from_12 : decode cX2_from 12 = .ok (.invokestatic 32, 3) := by decide +kernel
theorem dX2_from_15 : decode cX2_from 15 = .ok (.return_, 1) := by decide +kernel
theorem dX2_measure_0 : decode cX2_measure 0 = .ok (.aload_n 0, 1) := by decide +kernel
theorem dX2_measure_1 : decode cX2_measure 1 = .ok (.iconst 0, 1) := by decide +kernel
theorem dX2_measure_2 : decode cX2_measure 2 = .ok (.putfield 38, 3) := by decide +kernel
theorem dX2_measure_5 : decode cX2_measure 5 = .ok (.aload_n 0, 1) := by decide +kernel
theorem dX2_measure_6 : decode cX2_measure 6 = .ok (.iconst (-1), 1) := by decide +kernel
theorem dX2_measure_7 : decode cX2_measure 7 = .ok (.putfield 41, 3) := by decide +kernel
theorem dX2_measure_10 : decode cX2_measure 10 = .ok (.aload_n 0, 1) := by decide +kernel
theorem dX2_measure_11 : decode cX2_measure 11 = .ok (.iconst 0, 1) := by decide +kernel
theorem dX2_measure_12 : decode cX2_measure 12 = .ok (.putfield 44, 3) := by decide +kernel
theorem dX2_measure_15 : decode cX2_measure 15 = .ok (.iconst 0, 1) := by decide +kernel
theorem dX2_measure_16 : decode cX2_measure 16 = .ok (.istore_n 2, 1) := by decide +kernel
theorem dX2_measure_17 : decode cX2_measure 17 = .ok (.iload_n 2, 1) := by decide +kernel
theorem dX2_measure_18 : decode cX2_measure 18 = .ok (.bipush 16, 2) := by decide +kernel
theorem dX2_measure_20 : decode cX2_measure 20 = .ok (.if_icmp .ge 57, 3) := by decide +kernel
theorem dX2_measure_23 : decode cX2_measure 23 = .ok (.aload_n 0, 1) := by decide +kernel
theorem dX2_measure_24 : decode cX2_measure 24 = .ok (.iload_n 2, 1) := by decide +kernel
theorem dX2_measure_25 : decode cX2_measure 25 = .ok (.iload_n 1, 1) := by decide +kernel
theorem dX2_measure_26 : decode cX2_measure 26 = .ok (.invokevirtual 47, 3) := by decide +kernel
theorem dX2_measure_29 : decode cX2_measure 29 = .ok (.ifCond .eq 42, 3) := by decide +kernel
theorem dX2_measure_32 : decode cX2_measure 32 = .ok (.aload_n 0, 1) := by decide +kernel
theorem dX2_measure_33 : decode cX2_measure 33 = .ok (.iload_n 2, 1) := by decide +kernel
theorem dX2_measure_34 : decode cX2_measure 34 = .ok (.iload_n 1, 1) := by decide +kernel
theorem dX2_measure_35 : decode cX2_measure 35 = .ok (.invokevirtual 51, 3) := by decide +kernel
theorem dX2_measure_38 : decode cX2_measure 38 = .ok (.iload_n 2, 1) := by decide +kernel
theorem dX2_measure_39 : decode cX2_measure 39 = .ok (.isub, 1) := by decide +kernel
theorem dX2_measure_40 : decode cX2_measure 40 = .ok (.iconst 1, 1) := by decide +kernel
theorem dX2_measure_41 : decode cX2_measure 41 = .ok (.iadd, 1) := by decide +kernel
theorem dX2_measure_42 : decode cX2_measure 42 = .ok (.istore_n 3, 1) := by decide +kernel
theorem dX2_measure_43 : decode cX2_measure 43 = .ok (.aload_n 0, 1) := by decide +kernel
theorem dX2_measure_44 : decode cX2_measure 44 = .ok (.dup, 1) := by decide +kernel
theorem dX2_measure_45 : decode cX2_measure 45 = .ok (.getfield 44, 3) := by decide +kernel
theorem dX2_measure_48 : decode cX2_measure 48 = .ok (.iconst 1, 1) := by decide +kernel
theorem dX2_measure_49 : decode cX2_measure 49 = .ok (.iadd, 1) := by decide +kernel
theorem dX2_measure_50 : decode cX2_measure 50 = .ok (.putfield 44, 3) := by decide +kernel
theorem dX2_measure_53 : decode cX2_measure 53 = .ok (.iload_n 3, 1) := by decide +kernel
theorem dX2_measure_54 : decode cX2_measure 54 = .ok (.aload_n 0, 1) := by decide +kernel
theorem dX2_measure_55 : decode cX2_measure 55 = .ok (.getfield 38, 3) := by decide +kernel
theorem dX2_measure_58 : decode cX2_measure 58 = .ok (.if_icmp .le 13, 3) := by decide +kernel
theorem dX2_measure_61 : decode cX2_measure 61 = .ok (.aload_n 0, 1) := by decide +kernel
theorem dX2_measure_62 : decode cX2_measure 62 = .ok (.iload_n 3, 1) := by decide +kernel
theorem dX2_measure_63 : decode cX2_measure 63 = .ok (.putfield 38, 3) := by decide +kernel
theorem dX2_measure_66 : decode cX2_measure 66 = .ok (.aload_n 0, 1) := by decide +kernel
theorem dX2_measure_67 : decode cX2_measure 67 = .ok (.iload_n 2, 1) := by decide +kernel
theorem dX2_measure_68 : decode cX2_measure 68 = .ok (.putfield 41, 3) := by decide +kernel
theorem dX2_measure_71 : decode cX2_measure 71 = .ok (.iinc 2 1, 3) := by decide +kernel
theorem dX2_measure_74 : decode cX2_measure 74 = .ok (.goto (-57), 3) := by decide +kernel
theorem dX2_measure_77 : decode cX2_measure 77 = .ok (.return_, 1) := by decide +kernel
theorem dX2_begins_0 : decode cX2_begins 0 = .ok (.iload_n 2, 1) := by decide +kernel
theorem dX2_begins_1 : decode cX2_begins 1 = .ok (.iload_n 1, 1) := by decide +kernel
theorem dX2_begins_2 : decode cX2_begins 2 = .ok (.invokestatic 55, 3) := by decide +kernel
theorem dX2_begins_5 : decode cX2_begins 5 = .ok (.ifCond .ne 45, 3) := by decide +kernel
theorem dX2_begins_8 : decode cX2_begins 8 = .ok (.iload_n 1, 1) := by decide +kernel
theorem dX2_begins_9 : decode cX2_begins 9 = .ok (.ifCond .eq 37, 3) := by decide +kernel
theorem dX2_begins_12 : decode cX2_begins 12 = .ok (.iload_n 2, 1) := by decide +kernel
theorem dX2_begins_13 : decode cX2_begins 13 = .ok (.iload_n 1, 1) := by decide +kernel
theorem dX2_begins_14 : decode cX2_begins 14 = .ok (.iconst 1, 1) := by decide +kernel
theorem dX2_begins_15 : decode cX2_begins 15 = .ok (.isub, 1) := by decide +kernel
theorem dX2_begins_16 : decode cX2_begins 16 = .ok (.invokestatic 55, 3) := by decide +kernel
theorem dX2_begins_19 : decode cX2_begins 19 = .ok (.ifCond .ne 27, 3) := by decide +kernel
theorem dX2_begins_22 : decode cX2_begins 22 = .ok (.aload_n 0, 1) := by decide +kernel
theorem dX2_begins_23 : decode cX2_begins 23 = .ok (.getfield 22, 3) := by decide +kernel
theorem dX2_begins_26 : decode cX2_begins 26 = .ok (.iload_n 1, 1) := by decide +kernel
theorem dX2_begins_27 : decode cX2_begins 27 = .ok (.iconst 1, 1) := by decide +kernel
theorem dX2_begins_28 : decode cX2_begins 28 = .ok (.isub, 1) := by decide +kernel
theorem dX2_begins_29 : decode cX2_begins 29 = .ok (.invokevirtual 58, 3) := by decide +kernel
theorem dX2_begins_32 : decode cX2_begins 32 = .ok (.ifCond .ne 14, 3) := by decide +kernel
theorem dX2_begins_35 : decode cX2_begins 35 = .ok (.aload_n 0, 1) := by decide +kernel
theorem dX2_begins_36 : decode cX2_begins 36 = .ok (.getfield 22, 3) := by decide +kernel
theorem dX2_begins_39 : decode cX2_begins 39 = .ok (.iload_n 1, 1) := by decide +kernel
theorem dX2_begins_40 : decode cX2_begins 40 = .ok (.invokevirtual 58, 3) := by decide +kernel
theorem dX2_begins_43 : decode cX2_begins 43 = .ok (.ifCond .eq 7, 3) := by decide +kernel
theorem dX2_begins_46 : decode cX2_begins 46 = .ok (.iconst 1, 1) := by decide +kernel
theorem dX2_begins_47 : decode cX2_begins 47 = .ok (.goto 4, 3) := by decide +kernel
theorem dX2_begins_50 : decode cX2_begins 50 = .ok (.iconst 0, 1) := by decide +kernel
theorem dX2_begins_51 : decode cX2_begins 51 = .ok (.ireturn, 1) := by decide +kernel
theorem dX2_lastOf_0 : decode cX2_lastOf 0 = .ok (.iload_n 1, 1) := by decide +kernel
theorem dX2_lastOf_1 : decode cX2_lastOf 1 = .ok (.istore_n 3, 1) := by decide +kernel
theorem dX2_lastOf_2 : decode cX2_lastOf 2 = .ok (.aload_n 0, 1) := by decide +kernel
theorem dX2_lastOf_3 : decode cX2_lastOf 3 = .ok (.getfield 22, 3) := by decide +kernel
theorem dX2_lastOf_6 : decode cX2_lastOf 6 = .ok (.iload_n 1, 1) := by decide +kernel
theorem dX2_lastOf_7 : decode cX2_lastOf 7 = .ok (.invokevirtual 58, 3) := by decide +kernel
theorem dX2_lastOf_10 : decode cX2_lastOf 10 = .ok (.ifCond .ne 40, 3) := by decide +kernel
theorem dX2_lastOf_13 : decode cX2_lastOf 13 = .ok (.iload_n 3, 1) := by decide +kernel
theorem dX2_lastOf_14 : decode cX2_lastOf 14 = .ok (.iconst 1, 1) := by decide +kernel
theorem dX2_lastOf_15 : decode cX2_lastOf 15 = .ok (.iadd, 1) := by decide +kernel
theorem dX2_lastOf_16 : decode cX2_lastOf 16 = .ok (.bipush 16, 2) := by decide +kernel
theorem dX2_lastOf_18 : decode cX2_lastOf 18 = .ok (.if_icmp .ge 32, 3) := by decide +kernel
theorem dX2_lastOf_21 : decode cX2_lastOf 21 = .ok (.iload_n 2, 1) := by decide +kernel
theorem dX2_lastOf_22 : decode cX2_lastOf 22 = .ok (.iload_n 3, 1) := by decide +kernel
theorem dX2_lastOf_23 : decode cX2_lastOf 23 = .ok (.iconst 1, 1) := by decide +kernel
theorem dX2_lastOf_24 : decode cX2_lastOf 24 = .ok (.iadd, 1) := by decide +kernel
theorem dX2_lastOf_25 : decode cX2_lastOf 25 = .ok (.invokestatic 55, 3) := by decide +kernel
theorem dX2_lastOf_28 : decode cX2_lastOf 28 = .ok (.ifCond .ne 22, 3) := by decide +kernel
theorem dX2_lastOf_31 : decode cX2_lastOf 31 = .ok (.aload_n 0, 1) := by decide +kernel
theorem dX2_lastOf_32 : decode cX2_lastOf 32 = .ok (.getfield 22, 3) := by decide +kernel
theorem dX2_lastOf_35 : decode cX2_lastOf 35 = .ok (.iload_n 3, 1) := by decide +kernel
theorem dX2_lastOf_36 : decode cX2_lastOf 36 = .ok (.iconst 1, 1) := by decide +kernel
theorem dX2_lastOf_37 : decode cX2_lastOf 37 = .ok (.iadd, 1) := by decide +kernel
theorem dX2_lastOf_38 : decode cX2_lastOf 38 = .ok (.invokevirtual 58, 3) := by decide +kernel
theorem dX2_lastOf_41 : decode cX2_lastOf 41 = .ok (.ifCond .ne 9, 3) := by decide +kernel
theorem dX2_lastOf_44 : decode cX2_lastOf 44 = .ok (.iinc 3 1, 3) := by decide +kernel
theorem dX2_lastOf_47 : decode cX2_lastOf 47 = .ok (.goto (-34), 3) := by decide +kernel
theorem dX2_lastOf_50 : decode cX2_lastOf 50 = .ok (.iload_n 3, 1) := by decide +kernel
theorem dX2_lastOf_51 : decode cX2_lastOf 51 = .ok (.ireturn, 1) := by decide +kernel
theorem dX2_upAfter_0 : decode cX2_upAfter 0 = .ok (.aload_n 0, 1) := by decide +kernel
theorem dX2_upAfter_1 : decode cX2_upAfter 1 = .ok (.getfield 26, 3) := by decide +kernel
theorem dX2_upAfter_4 : decode cX2_upAfter 4 = .ok (.lookupswitch 36 #[(0, 28), (1, 32)], 28) := by decide +kernel
theorem dX2_upAfter_32 : decode cX2_upAfter 32 = .ok (.iload_n 1, 1) := by decide +kernel
theorem dX2_upAfter_33 : decode cX2_upAfter 33 = .ok (.iload_n 3, 1) := by decide +kernel
theorem dX2_upAfter_34 : decode cX2_upAfter 34 = .ok (.iadd, 1) := by decide +kernel
theorem dX2_upAfter_35 : decode cX2_upAfter 35 = .ok (.ireturn, 1) := by decide +kernel
theorem dX2_upAfter_36 : decode cX2_upAfter 36 = .ok (.iload_n 2, 1) := by decide +kernel
theorem dX2_upAfter_37 : decode cX2_upAfter 37 = .ok (.iload_n 3, 1) := by decide +kernel
theorem dX2_upAfter_38 : decode cX2_upAfter 38 = .ok (.isub, 1) := by decide +kernel
theorem dX2_upAfter_39 : decode cX2_upAfter 39 = .ok (.ireturn, 1) := by decide +kernel
theorem dX2_upAfter_40 : decode cX2_upAfter 40 = .ok (.iload_n 1, 1) := by decide +kernel
theorem dX2_upAfter_41 : decode cX2_upAfter 41 = .ok (.iload_n 2, 1) := by decide +kernel
theorem dX2_upAfter_42 : decode cX2_upAfter 42 = .ok (.iadd, 1) := by decide +kernel
theorem dX2_upAfter_43 : decode cX2_upAfter 43 = .ok (.iconst 2, 1) := by decide +kernel
theorem dX2_upAfter_44 : decode cX2_upAfter 44 = .ok (.idiv, 1) := by decide +kernel
theorem dX2_upAfter_45 : decode cX2_upAfter 45 = .ok (.istore 4, 2) := by decide +kernel
theorem dX2_upAfter_47 : decode cX2_upAfter 47 = .ok (.iload_n 3, 1) := by decide +kernel
theorem dX2_upAfter_48 : decode cX2_upAfter 48 = .ok (.iconst 2, 1) := by decide +kernel
theorem dX2_upAfter_49 : decode cX2_upAfter 49 = .ok (.irem, 1) := by decide +kernel
theorem dX2_upAfter_50 : decode cX2_upAfter 50 = .ok (.iconst 1, 1) := by decide +kernel
theorem dX2_upAfter_51 : decode cX2_upAfter 51 = .ok (.if_icmp .ne 14, 3) := by decide +kernel
theorem dX2_upAfter_54 : decode cX2_upAfter 54 = .ok (.iload 4, 2) := by decide +kernel
theorem dX2_upAfter_56 : decode cX2_upAfter 56 = .ok (.iload_n 3, 1) := by decide +kernel
theorem dX2_upAfter_57 : decode cX2_upAfter 57 = .ok (.iconst 1, 1) := by decide +kernel
theorem dX2_upAfter_58 : decode cX2_upAfter 58 = .ok (.iadd, 1) := by decide +kernel
theorem dX2_upAfter_59 : decode cX2_upAfter 59 = .ok (.iconst 2, 1) := by decide +kernel
theorem dX2_upAfter_60 : decode cX2_upAfter 60 = .ok (.idiv, 1) := by decide +kernel
theorem dX2_upAfter_61 : decode cX2_upAfter 61 = .ok (.iadd, 1) := by decide +kernel
theorem dX2_upAfter_62 : decode cX2_upAfter 62 = .ok (.goto 9, 3) := by decide +kernel
theorem dX2_upAfter_65 : decode cX2_upAfter 65 = .ok (.iload 4, 2) := by decide +kernel
theorem dX2_upAfter_67 : decode cX2_upAfter 67 = .ok (.iload_n 3, 1) := by decide +kernel
theorem dX2_upAfter_68 : decode cX2_upAfter 68 = .ok (.iconst 2, 1) := by decide +kernel
theorem dX2_upAfter_69 : decode cX2_upAfter 69 = .ok (.idiv, 1) := by decide +kernel
theorem dX2_upAfter_70 : decode cX2_upAfter 70 = .ok (.isub, 1) := by decide +kernel
theorem dX2_upAfter_71 : decode cX2_upAfter 71 = .ok (.ireturn, 1) := by decide +kernel
theorem dX2_arrange_0 : decode cX2_arrange 0 = .ok (.iconst 0, 1) := by decide +kernel
theorem dX2_arrange_1 : decode cX2_arrange 1 = .ok (.istore_n 2, 1) := by decide +kernel
theorem dX2_arrange_2 : decode cX2_arrange 2 = .ok (.iconst 0, 1) := by decide +kernel
theorem dX2_arrange_3 : decode cX2_arrange 3 = .ok (.istore_n 3, 1) := by decide +kernel
theorem dX2_arrange_4 : decode cX2_arrange 4 = .ok (.iload_n 3, 1) := by decide +kernel
theorem dX2_arrange_5 : decode cX2_arrange 5 = .ok (.bipush 16, 2) := by decide +kernel
theorem dX2_arrange_7 : decode cX2_arrange 7 = .ok (.if_icmp .ge 70, 3) := by decide +kernel
theorem dX2_arrange_10 : decode cX2_arrange 10 = .ok (.aload_n 0, 1) := by decide +kernel
theorem dX2_arrange_11 : decode cX2_arrange 11 = .ok (.iload_n 3, 1) := by decide +kernel
theorem dX2_arrange_12 : decode cX2_arrange 12 = .ok (.iload_n 1, 1) := by decide +kernel
theorem dX2_arrange_13 : decode cX2_arrange 13 = .ok (.invokevirtual 47, 3) := by decide +kernel
theorem dX2_arrange_16 : decode cX2_arrange 16 = .ok (.ifCond .eq 55, 3) := by decide +kernel
theorem dX2_arrange_19 : decode cX2_arrange 19 = .ok (.aload_n 0, 1) := by decide +kernel
theorem dX2_arrange_20 : decode cX2_arrange 20 = .ok (.iload_n 3, 1) := by decide +kernel
theorem dX2_arrange_21 : decode cX2_arrange 21 = .ok (.iload_n 1, 1) := by decide +kernel
theorem dX2_arrange_22 : decode cX2_arrange 22 = .ok (.invokevirtual 51, 3) := by decide +kernel
theorem dX2_arrange_25 : decode cX2_arrange 25 = .ok (.istore 4, 2) := by decide +kernel
theorem dX2_arrange_27 : decode cX2_arrange 27 = .ok (.iconst 0, 1) := by decide +kernel
theorem dX2_arrange_28 : decode cX2_arrange 28 = .ok (.istore 5, 2) := by decide +kernel
theorem dX2_arrange_30 : decode cX2_arrange 30 = .ok (.iload 5, 2) := by decide +kernel
theorem dX2_arrange_32 : decode cX2_arrange 32 = .ok (.iload 4, 2) := by decide +kernel
theorem dX2_arrange_34 : decode cX2_arrange 34 = .ok (.iload_n 3, 1) := by decide +kernel
theorem dX2_arrange_35 : decode cX2_arrange 35 = .ok (.isub, 1) := by decide +kernel
theorem dX2_arrange_36 : decode cX2_arrange 36 = .ok (.if_icmp .gt 35, 3) := by decide +kernel
theorem dX2_arrange_39 : decode cX2_arrange 39 = .ok (.aload_n 0, 1) := by decide +kernel
theorem dX2_arrange_40 : decode cX2_arrange 40 = .ok (.getfield 15, 3) := by decide +kernel
theorem dX2_arrange_43 : decode cX2_arrange 43 = .ok (.iload_n 2, 1) := by decide +kernel
theorem dX2_arrange_44 : decode cX2_arrange 44 = .ok (.aload_n 0, 1) := by decide +kernel
theorem dX2_arrange_45 : decode cX2_arrange 45 = .ok (.iload_n 3, 1) := by decide +kernel
theorem dX2_arrange_46 : decode cX2_arrange 46 = .ok (.iload 4, 2) := by decide +kernel
theorem dX2_arrange_48 : decode cX2_arrange 48 = .ok (.iload 5, 2) := by decide +kernel
theorem dX2_arrange_50 : decode cX2_arrange 50 = .ok (.invokevirtual 64, 3) := by decide +kernel
theorem dX2_arrange_53 : decode cX2_arrange 53 = .ok (.iastore, 1) := by decide +kernel
theorem dX2_arrange_54 : decode cX2_arrange 54 = .ok (.aload_n 0, 1) := by decide +kernel
theorem dX2_arrange_55 : decode cX2_arrange 55 = .ok (.getfield 19, 3) := by decide +kernel
theorem dX2_arrange_58 : decode cX2_arrange 58 = .ok (.iload_n 2, 1) := by decide +kernel
theorem dX2_arrange_59 : decode cX2_arrange 59 = .ok (.iload 5, 2) := by decide +kernel
theorem dX2_arrange_61 : decode cX2_arrange 61 = .ok (.iastore, 1) := by decide +kernel
theorem dX2_arrange_62 : decode cX2_arrange 62 = .ok (.iinc 2 1, 3) := by decide +kernel
theorem dX2_arrange_65 : decode cX2_arrange 65 = .ok (.iinc 5 1, 3) := by decide +kernel
theorem dX2_arrange_68 : decode cX2_arrange 68 = .ok (.goto (-38), 3) := by decide +kernel
theorem dX2_arrange_71 : decode cX2_arrange 71 = .ok (.iinc 3 1, 3) := by decide +kernel
theorem dX2_arrange_74 : decode cX2_arrange 74 = .ok (.goto (-70), 3) := by decide +kernel
theorem dX2_arrange_77 : decode cX2_arrange 77 = .ok (.iconst 0, 1) := by decide +kernel
theorem dX2_arrange_78 : decode cX2_arrange 78 = .ok (.istore_n 3, 1) := by decide +kernel
theorem dX2_arrange_79 : decode cX2_arrange 79 = .ok (.iload_n 3, 1) := by decide +kernel
theorem dX2_arrange_80 : decode cX2_arrange 80 = .ok (.bipush 16, 2) := by decide +kernel
theorem dX2_arrange_82 : decode cX2_arrange 82 = .ok (.if_icmp .ge 34, 3) := by decide +kernel
theorem dX2_arrange_85 : decode cX2_arrange 85 = .ok (.iload_n 1, 1) := by decide +kernel
theorem dX2_arrange_86 : decode cX2_arrange 86 = .ok (.iload_n 3, 1) := by decide +kernel
theorem dX2_arrange_87 : decode cX2_arrange 87 = .ok (.invokestatic 55, 3) := by decide +kernel
theorem dX2_arrange_90 : decode cX2_arrange 90 = .ok (.ifCond .eq 20, 3) := by decide +kernel
theorem dX2_arrange_93 : decode cX2_arrange 93 = .ok (.aload_n 0, 1) := by decide +kernel
theorem dX2_arrange_94 : decode cX2_arrange 94 = .ok (.getfield 15, 3) := by decide +kernel
theorem dX2_arrange_97 : decode cX2_arrange 97 = .ok (.iload_n 2, 1) := by decide +kernel
theorem dX2_arrange_98 : decode cX2_arrange 98 = .ok (.iload_n 3, 1) := by decide +kernel
theorem dX2_arrange_99 : decode cX2_arrange 99 = .ok (.iastore, 1) := by decide +kernel
theorem dX2_arrange_100 : decode cX2_arrange 100 = .ok (.aload_n 0, 1) := by decide +kernel
theorem dX2_arrange_101 : decode cX2_arrange 101 = .ok (.getfield 19, 3) := by decide +kernel
theorem dX2_arrange_104 : decode cX2_arrange 104 = .ok (.iload_n 2, 1) := by decide +kernel
theorem dX2_arrange_105 : decode cX2_arrange 105 = .ok (.iconst 0, 1) := by decide +kernel
theorem dX2_arrange_106 : decode cX2_arrange 106 = .ok (.iastore, 1) := by decide +kernel
theorem dX2_arrange_107 : decode cX2_arrange 107 = .ok (.iinc 2 1, 3) := by decide +kernel
theorem dX2_arrange_110 : decode cX2_arrange 110 = .ok (.iinc 3 1, 3) := by decide +kernel
theorem dX2_arrange_113 : decode cX2_arrange 113 = .ok (.goto (-34), 3) := by decide +kernel
theorem dX2_arrange_116 : decode cX2_arrange 116 = .ok (.return_, 1) := by decide +kernel
theorem dX2_atOnce_0 : decode cX2_atOnce 0 = .ok (.aload_n 0, 1) := by decide +kernel
theorem dX2_atOnce_1 : decode cX2_atOnce 1 = .ok (.iload_n 1, 1) := by decide +kernel
theorem dX2_atOnce_2 : decode cX2_atOnce 2 = .ok (.invokevirtual 68, 3) := by decide +kernel
theorem dX2_atOnce_5 : decode cX2_atOnce 5 = .ok (.ldc2_w 72, 3) := by decide +kernel
theorem dX2_atOnce_8 : decode cX2_atOnce 8 = .ok (.lstore_n 2, 1) := by decide +kernel
theorem dX2_atOnce_9 : decode cX2_atOnce 9 = .ok (.iconst 0, 1) := by decide +kernel
theorem dX2_atOnce_10 : decode cX2_atOnce 10 = .ok (.istore 4, 2) := by decide +kernel
theorem dX2_atOnce_12 : decode cX2_atOnce 12 = .ok (.iload 4, 2) := by decide +kernel
theorem dX2_atOnce_14 : decode cX2_atOnce 14 = .ok (.bipush 16, 2) := by decide +kernel
theorem dX2_atOnce_16 : decode cX2_atOnce 16 = .ok (.if_icmp .ge 41, 3) := by decide +kernel
theorem dX2_atOnce_19 : decode cX2_atOnce 19 = .ok (.lload_n 2, 1) := by decide +kernel
theorem dX2_atOnce_20 : decode cX2_atOnce 20 = .ok (.bipush 100, 2) := by decide +kernel
theorem dX2_atOnce_22 : decode cX2_atOnce 22 = .ok (.aload_n 0, 1) := by decide +kernel
theorem dX2_atOnce_23 : decode cX2_atOnce 23 = .ok (.getfield 22, 3) := by decide +kernel
theorem dX2_atOnce_26 : decode cX2_atOnce 26 = .ok (.aload_n 0, 1) := by decide +kernel
theorem dX2_atOnce_27 : decode cX2_atOnce 27 = .ok (.getfield 15, 3) := by decide +kernel
theorem dX2_atOnce_30 : decode cX2_atOnce 30 = .ok (.iload 4, 2) := by decide +kernel
theorem dX2_atOnce_32 : decode cX2_atOnce 32 = .ok (.iaload, 1) := by decide +kernel
theorem dX2_atOnce_33 : decode cX2_atOnce 33 = .ok (.aload_n 0, 1) := by decide +kernel
theorem dX2_atOnce_34 : decode cX2_atOnce 34 = .ok (.getfield 19, 3) := by decide +kernel
theorem dX2_atOnce_37 : decode cX2_atOnce 37 = .ok (.iload 4, 2) := by decide +kernel
theorem dX2_atOnce_39 : decode cX2_atOnce 39 = .ok (.iaload, 1) := by decide +kernel
theorem dX2_atOnce_40 : decode cX2_atOnce 40 = .ok (.invokevirtual 74, 3) := by decide +kernel
theorem dX2_atOnce_43 : decode cX2_atOnce 43 = .ok (.isub, 1) := by decide +kernel
theorem dX2_atOnce_44 : decode cX2_atOnce 44 = .ok (.i2l, 1) := by decide +kernel
theorem dX2_atOnce_45 : decode cX2_atOnce 45 = .ok (.lmul, 1) := by decide +kernel
theorem dX2_atOnce_46 : decode cX2_atOnce 46 = .ok (.ldc2_w 77, 3) := by decide +kernel
theorem dX2_atOnce_49 : decode cX2_atOnce 49 = .ok (.ldiv, 1) := by decide +kernel
theorem dX2_atOnce_50 : decode cX2_atOnce 50 = .ok (.lstore_n 2, 1) := by decide +kernel
theorem dX2_atOnce_51 : decode cX2_atOnce 51 = .ok (.iinc 4 1, 3) := by decide +kernel
theorem dX2_atOnce_54 : decode cX2_atOnce 54 = .ok (.goto (-42), 3) := by decide +kernel
theorem dX2_atOnce_57 : decode cX2_atOnce 57 = .ok (.lload_n 2, 1) := by decide +kernel
theorem dX2_atOnce_58 : decode cX2_atOnce 58 = .ok (.lreturn, 1) := by decide +kernel
theorem dX2_meanBy_0 : decode cX2_meanBy 0 = .ok (.lconst 0, 1) := by decide +kernel
theorem dX2_meanBy_1 : decode cX2_meanBy 1 = .ok (.lstore_n 2, 1) := by decide +kernel
theorem dX2_meanBy_2 : decode cX2_meanBy 2 = .ok (.lconst 0, 1) := by decide +kernel
theorem dX2_meanBy_3 : decode cX2_meanBy 3 = .ok (.lstore 4, 2) := by decide +kernel
theorem dX2_meanBy_5 : decode cX2_meanBy 5 = .ok (.iconst 0, 1) := by decide +kernel
theorem dX2_meanBy_6 : decode cX2_meanBy 6 = .ok (.istore 6, 2) := by decide +kernel
theorem dX2_meanBy_8 : decode cX2_meanBy 8 = .ok (.iconst 0, 1) := by decide +kernel
theorem dX2_meanBy_9 : decode cX2_meanBy 9 = .ok (.istore 7, 2) := by decide +kernel
theorem dX2_meanBy_11 : decode cX2_meanBy 11 = .ok (.iload 7, 2) := by decide +kernel
theorem dX2_meanBy_13 : decode cX2_meanBy 13 = .ok (.bipush 16, 2) := by decide +kernel
theorem dX2_meanBy_15 : decode cX2_meanBy 15 = .ok (.if_icmp .ge 261, 3) := by decide +kernel
theorem dX2_meanBy_18 : decode cX2_meanBy 18 = .ok (.aload_n 0, 1) := by decide +kernel
theorem dX2_meanBy_19 : decode cX2_meanBy 19 = .ok (.getfield 22, 3) := by decide +kernel
theorem dX2_meanBy_22 : decode cX2_meanBy 22 = .ok (.iload 7, 2) := by decide +kernel
theorem dX2_meanBy_24 : decode cX2_meanBy 24 = .ok (.invokevirtual 58, 3) := by decide +kernel
theorem dX2_meanBy_27 : decode cX2_meanBy 27 = .ok (.ifCond .eq 46, 3) := by decide +kernel
theorem dX2_meanBy_30 : decode cX2_meanBy 30 = .ok (.lload_n 2, 1) := by decide +kernel
theorem dX2_meanBy_31 : decode cX2_meanBy 31 = .ok (.iload_n 1, 1) := by decide +kernel
theorem dX2_meanBy_32 : decode cX2_meanBy 32 = .ok (.iload 7, 2) := by decide +kernel
theorem dX2_meanBy_34 : decode cX2_meanBy 34 = .ok (.invokestatic 55, 3) := by decide +kernel
theorem dX2_meanBy_37 : decode cX2_meanBy 37 = .ok (.ifCond .eq 14, 3) := by decide +kernel
theorem dX2_meanBy_40 : decode cX2_meanBy 40 = .ok (.aload_n 0, 1) := by decide +kernel
theorem dX2_meanBy_41 : decode cX2_meanBy 41 = .ok (.iload 7, 2) := by decide +kernel
theorem dX2_meanBy_43 : decode cX2_meanBy 43 = .ok (.lconst 0, 1) := by decide +kernel
theorem dX2_meanBy_44 : decode cX2_meanBy 44 = .ok (.iconst 0, 1) := by decide +kernel
theorem dX2_meanBy_45 : decode cX2_meanBy 45 = .ok (.invokevirtual 79, 3) := by decide +kernel
theorem dX2_meanBy_48 : decode cX2_meanBy 48 = .ok (.goto 11, 3) := by decide +kernel
theorem dX2_meanBy_51 : decode cX2_meanBy 51 = .ok (.aload_n 0, 1) := by decide +kernel
theorem dX2_meanBy_52 : decode cX2_meanBy 52 = .ok (.iload 7, 2) := by decide +kernel
theorem dX2_meanBy_54 : decode cX2_meanBy 54 = .ok (.iload 7, 2) := by decide +kernel
theorem dX2_meanBy_56 : decode cX2_meanBy 56 = .ok (.invokevirtual 83, 3) := by decide +kernel
theorem dX2_meanBy_59 : decode cX2_meanBy 59 = .ok (.ladd, 1) := by decide +kernel
theorem dX2_meanBy_60 : decode cX2_meanBy 60 = .ok (.invokestatic 87, 3) := by decide +kernel
theorem dX2_meanBy_63 : decode cX2_meanBy 63 = .ok (.lstore_n 2, 1) := by decide +kernel
theorem dX2_meanBy_64 : decode cX2_meanBy 64 = .ok (.lconst 0, 1) := by decide +kernel
theorem dX2_meanBy_65 : decode cX2_meanBy 65 = .ok (.lstore 4, 2) := by decide +kernel
theorem dX2_meanBy_67 : decode cX2_meanBy 67 = .ok (.iconst 0, 1) := by decide +kernel
theorem dX2_meanBy_68 : decode cX2_meanBy 68 = .ok (.istore 6, 2) := by decide +kernel
theorem dX2_meanBy_70 : decode cX2_meanBy 70 = .ok (.goto 200, 3) := by decide +kernel
theorem dX2_meanBy_73 : decode cX2_meanBy 73 = .ok (.iload_n 1, 1) := by decide +kernel
theorem dX2_meanBy_74 : decode cX2_meanBy 74 = .ok (.iload 7, 2) := by decide +kernel
theorem dX2_meanBy_76 : decode cX2_meanBy 76 = .ok (.invokestatic 55, 3) := by decide +kernel
theorem dX2_meanBy_79 : decode cX2_meanBy 79 = .ok (.ifCond .eq 122, 3) := by decide +kernel
theorem dX2_meanBy_82 : decode cX2_meanBy 82 = .ok (.iload 7, 2) := by decide +kernel
theorem dX2_meanBy_84 : decode cX2_meanBy 84 = .ok (.iconst 1, 1) := by decide +kernel
theorem dX2_meanBy_85 : decode cX2_meanBy 85 = .ok (.iadd, 1) := by decide +kernel
theorem dX2_meanBy_86 : decode cX2_meanBy 86 = .ok (.bipush 16, 2) := by decide +kernel
theorem dX2_meanBy_88 : decode cX2_meanBy 88 = .ok (.if_icmp .ge 40, 3) := by decide +kernel
theorem dX2_meanBy_91 : decode cX2_meanBy 91 = .ok (.iload_n 1, 1) := by decide +kernel
theorem dX2_meanBy_92 : decode cX2_meanBy 92 = .ok (.iload 7, 2) := by decide +kernel
theorem dX2_meanBy_94 : decode cX2_meanBy 94 = .ok (.iconst 1, 1) := by decide +kernel
theorem dX2_meanBy_95 : decode cX2_meanBy 95 = .ok (.iadd, 1) := by decide +kernel
theorem dX2_meanBy_96 : decode cX2_meanBy 96 = .ok (.invokestatic 55, 3) := by decide +kernel
theorem dX2_meanBy_99 : decode cX2_meanBy 99 = .ok (.ifCond .ne 29, 3) := by decide +kernel
theorem dX2_meanBy_102 : decode cX2_meanBy 102 = .ok (.aload_n 0, 1) := by decide +kernel
theorem dX2_meanBy_103 : decode cX2_meanBy 103 = .ok (.getfield 22, 3) := by decide +kernel
theorem dX2_meanBy_106 : decode cX2_meanBy 106 = .ok (.iload 7, 2) := by decide +kernel
theorem dX2_meanBy_108 : decode cX2_meanBy 108 = .ok (.iconst 1, 1) := by decide +kernel
theorem dX2_meanBy_109 : decode cX2_meanBy 109 = .ok (.iadd, 1) := by decide +kernel
theorem dX2_meanBy_110 : decode cX2_meanBy 110 = .ok (.invokevirtual 58, 3) := by decide +kernel
theorem dX2_meanBy_113 : decode cX2_meanBy 113 = .ok (.ifCond .ne 15, 3) := by decide +kernel
theorem dX2_meanBy_116 : decode cX2_meanBy 116 = .ok (.aload_n 0, 1) := by decide +kernel
theorem dX2_meanBy_117 : decode cX2_meanBy 117 = .ok (.iload 7, 2) := by decide +kernel
theorem dX2_meanBy_119 : decode cX2_meanBy 119 = .ok (.iconst 1, 1) := by decide +kernel
theorem dX2_meanBy_120 : decode cX2_meanBy 120 = .ok (.iadd, 1) := by decide +kernel
theorem dX2_meanBy_121 : decode cX2_meanBy 121 = .ok (.iload_n 1, 1) := by decide +kernel
theorem dX2_meanBy_122 : decode cX2_meanBy 122 = .ok (.invokevirtual 51, 3) := by decide +kernel
theorem dX2_meanBy_125 : decode cX2_meanBy 125 = .ok (.goto 5, 3) := by decide +kernel
theorem dX2_meanBy_128 : decode cX2_meanBy 128 = .ok (.iload 7, 2) := by decide +kernel
theorem dX2_meanBy_130 : decode cX2_meanBy 130 = .ok (.istore 8, 2) := by decide +kernel
theorem dX2_meanBy_132 : decode cX2_meanBy 132 = .ok (.lload 4, 2) := by decide +kernel
theorem dX2_meanBy_134 : decode cX2_meanBy 134 = .ok (.aload_n 0, 1) := by decide +kernel
theorem dX2_meanBy_135 : decode cX2_meanBy 135 = .ok (.iload 7, 2) := by decide +kernel
theorem dX2_meanBy_137 : decode cX2_meanBy 137 = .ok (.iconst 1, 1) := by decide +kernel
theorem dX2_meanBy_138 : decode cX2_meanBy 138 = .ok (.iadd, 1) := by decide +kernel
theorem dX2_meanBy_139 : decode cX2_meanBy 139 = .ok (.iload 8, 2) := by decide +kernel
theorem dX2_meanBy_141 : decode cX2_meanBy 141 = .ok (.invokevirtual 83, 3) := by decide +kernel
theorem dX2_meanBy_144 : decode cX2_meanBy 144 = .ok (.ladd, 1) := by decide +kernel
theorem dX2_meanBy_145 : decode cX2_meanBy 145 = .ok (.invokestatic 87, 3) := by decide +kernel
theorem dX2_meanBy_148 : decode cX2_meanBy 148 = .ok (.lstore 9, 2) := by decide +kernel
theorem dX2_meanBy_150 : decode cX2_meanBy 150 = .ok (.aload_n 0, 1) := by decide +kernel
theorem dX2_meanBy_151 : decode cX2_meanBy 151 = .ok (.iload 7, 2) := by decide +kernel
theorem dX2_meanBy_153 : decode cX2_meanBy 153 = .ok (.lload 9, 2) := by decide +kernel
theorem dX2_meanBy_155 : decode cX2_meanBy 155 = .ok (.iload 6, 2) := by decide +kernel
theorem dX2_meanBy_157 : decode cX2_meanBy 157 = .ok (.iload 8, 2) := by decide +kernel
theorem dX2_meanBy_159 : decode cX2_meanBy 159 = .ok (.iadd, 1) := by decide +kernel
theorem dX2_meanBy_160 : decode cX2_meanBy 160 = .ok (.iload 7, 2) := by decide +kernel
theorem dX2_meanBy_162 : decode cX2_meanBy 162 = .ok (.isub, 1) := by decide +kernel
theorem dX2_meanBy_163 : decode cX2_meanBy 163 = .ok (.invokevirtual 79, 3) := by decide +kernel
theorem dX2_meanBy_166 : decode cX2_meanBy 166 = .ok (.lstore 11, 2) := by decide +kernel
theorem dX2_meanBy_168 : decode cX2_meanBy 168 = .ok (.lload_n 2, 1) := by decide +kernel
theorem dX2_meanBy_169 : decode cX2_meanBy 169 = .ok (.lload 11, 2) := by decide +kernel
theorem dX2_meanBy_171 : decode cX2_meanBy 171 = .ok (.ladd, 1) := by decide +kernel
theorem dX2_meanBy_172 : decode cX2_meanBy 172 = .ok (.invokestatic 87, 3) := by decide +kernel
theorem dX2_meanBy_175 : decode cX2_meanBy 175 = .ok (.lstore_n 2, 1) := by decide +kernel
theorem dX2_meanBy_176 : decode cX2_meanBy 176 = .ok (.lload 9, 2) := by decide +kernel
theorem dX2_meanBy_178 : decode cX2_meanBy 178 = .ok (.lload 11, 2) := by decide +kernel
theorem dX2_meanBy_180 : decode cX2_meanBy 180 = .ok (.ladd, 1) := by decide +kernel
theorem dX2_meanBy_181 : decode cX2_meanBy 181 = .ok (.invokestatic 87, 3) := by decide +kernel
theorem dX2_meanBy_184 : decode cX2_meanBy 184 = .ok (.lstore 4, 2) := by decide +kernel
theorem dX2_meanBy_186 : decode cX2_meanBy 186 = .ok (.iload 6, 2) := by decide +kernel
theorem dX2_meanBy_188 : decode cX2_meanBy 188 = .ok (.iload 8, 2) := by decide +kernel
theorem dX2_meanBy_190 : decode cX2_meanBy 190 = .ok (.iload 7, 2) := by decide +kernel
theorem dX2_meanBy_192 : decode cX2_meanBy 192 = .ok (.isub, 1) := by decide +kernel
theorem dX2_meanBy_193 : decode cX2_meanBy 193 = .ok (.iconst 1, 1) := by decide +kernel
theorem dX2_meanBy_194 : decode cX2_meanBy 194 = .ok (.iadd, 1) := by decide +kernel
theorem dX2_meanBy_195 : decode cX2_meanBy 195 = .ok (.iadd, 1) := by decide +kernel
theorem dX2_meanBy_196 : decode cX2_meanBy 196 = .ok (.istore 6, 2) := by decide +kernel
theorem dX2_meanBy_198 : decode cX2_meanBy 198 = .ok (.goto 72, 3) := by decide +kernel
theorem dX2_meanBy_201 : decode cX2_meanBy 201 = .ok (.aload_n 0, 1) := by decide +kernel
theorem dX2_meanBy_202 : decode cX2_meanBy 202 = .ok (.iload 7, 2) := by decide +kernel
theorem dX2_meanBy_204 : decode cX2_meanBy 204 = .ok (.iload_n 1, 1) := by decide +kernel
theorem dX2_meanBy_205 : decode cX2_meanBy 205 = .ok (.invokevirtual 47, 3) := by decide +kernel
theorem dX2_meanBy_208 : decode cX2_meanBy 208 = .ok (.ifCond .eq 62, 3) := by decide +kernel
theorem dX2_meanBy_211 : decode cX2_meanBy 211 = .ok (.aload_n 0, 1) := by decide +kernel
theorem dX2_meanBy_212 : decode cX2_meanBy 212 = .ok (.iload 7, 2) := by decide +kernel
theorem dX2_meanBy_214 : decode cX2_meanBy 214 = .ok (.iload_n 1, 1) := by decide +kernel
theorem dX2_meanBy_215 : decode cX2_meanBy 215 = .ok (.invokevirtual 51, 3) := by decide +kernel
theorem dX2_meanBy_218 : decode cX2_meanBy 218 = .ok (.istore 8, 2) := by decide +kernel
theorem dX2_meanBy_220 : decode cX2_meanBy 220 = .ok (.aload_n 0, 1) := by decide +kernel
theorem dX2_meanBy_221 : decode cX2_meanBy 221 = .ok (.iload 7, 2) := by decide +kernel
theorem dX2_meanBy_223 : decode cX2_meanBy 223 = .ok (.iload 8, 2) := by decide +kernel
theorem dX2_meanBy_225 : decode cX2_meanBy 225 = .ok (.invokevirtual 83, 3) := by decide +kernel
theorem dX2_meanBy_228 : decode cX2_meanBy 228 = .ok (.lstore 9, 2) := by decide +kernel
theorem dX2_meanBy_230 : decode cX2_meanBy 230 = .ok (.lload_n 2, 1) := by decide +kernel
theorem dX2_meanBy_231 : decode cX2_meanBy 231 = .ok (.lload 9, 2) := by decide +kernel
theorem dX2_meanBy_233 : decode cX2_meanBy 233 = .ok (.ladd, 1) := by decide +kernel
theorem dX2_meanBy_234 : decode cX2_meanBy 234 = .ok (.invokestatic 87, 3) := by decide +kernel
theorem dX2_meanBy_237 : decode cX2_meanBy 237 = .ok (.lstore_n 2, 1) := by decide +kernel
theorem dX2_meanBy_238 : decode cX2_meanBy 238 = .ok (.iload 7, 2) := by decide +kernel
theorem dX2_meanBy_240 : decode cX2_meanBy 240 = .ok (.ifCond .eq 17, 3) := by decide +kernel
theorem dX2_meanBy_243 : decode cX2_meanBy 243 = .ok (.aload_n 0, 1) := by decide +kernel
theorem dX2_meanBy_244 : decode cX2_meanBy 244 = .ok (.getfield 22, 3) := by decide +kernel
theorem dX2_meanBy_247 : decode cX2_meanBy 247 = .ok (.iload 7, 2) := by decide +kernel
theorem dX2_meanBy_249 : decode cX2_meanBy 249 = .ok (.iconst 1, 1) := by decide +kernel
theorem dX2_meanBy_250 : decode cX2_meanBy 250 = .ok (.isub, 1) := by decide +kernel
theorem dX2_meanBy_251 : decode cX2_meanBy 251 = .ok (.invokevirtual 58, 3) := by decide +kernel
theorem dX2_meanBy_254 : decode cX2_meanBy 254 = .ok (.ifCond .eq 16, 3) := by decide +kernel
theorem dX2_meanBy_257 : decode cX2_meanBy 257 = .ok (.lload 9, 2) := by decide +kernel
theorem dX2_meanBy_259 : decode cX2_meanBy 259 = .ok (.lstore 4, 2) := by decide +kernel
theorem dX2_meanBy_261 : decode cX2_meanBy 261 = .ok (.iload 8, 2) := by decide +kernel
theorem dX2_meanBy_263 : decode cX2_meanBy 263 = .ok (.iload 7, 2) := by decide +kernel
theorem dX2_meanBy_265 : decode cX2_meanBy 265 = .ok (.isub, 1) := by decide +kernel
theorem dX2_meanBy_266 : decode cX2_meanBy 266 = .ok (.iconst 1, 1) := by decide +kernel
theorem dX2_meanBy_267 : decode cX2_meanBy 267 = .ok (.iadd, 1) := by decide +kernel
theorem dX2_meanBy_268 : decode cX2_meanBy 268 = .ok (.istore 6, 2) := by decide +kernel
theorem dX2_meanBy_270 : decode cX2_meanBy 270 = .ok (.iinc 7 1, 3) := by decide +kernel
theorem dX2_meanBy_273 : decode cX2_meanBy 273 = .ok (.goto (-262), 3) := by decide +kernel
theorem dX2_meanBy_276 : decode cX2_meanBy 276 = .ok (.lload_n 2, 1) := by decide +kernel
theorem dX2_meanBy_277 : decode cX2_meanBy 277 = .ok (.lreturn, 1) := by decide +kernel
theorem dX2_stretchMean_0 : decode cX2_stretchMean 0 = .ok (.iload_n 2, 1) := by decide +kernel
theorem dX2_stretchMean_1 : decode cX2_stretchMean 1 = .ok (.iload_n 1, 1) := by decide +kernel
theorem dX2_stretchMean_2 : decode cX2_stretchMean 2 = .ok (.if_icmp .ge 5, 3) := by decide +kernel
theorem dX2_stretchMean_5 : decode cX2_stretchMean 5 = .ok (.lconst 0, 1) := by decide +kernel
theorem dX2_stretchMean_6 : decode cX2_stretchMean 6 = .ok (.lreturn, 1) := by decide +kernel
theorem dX2_stretchMean_7 : decode cX2_stretchMean 7 = .ok (.iload_n 1, 1) := by decide +kernel
theorem dX2_stretchMean_8 : decode cX2_stretchMean 8 = .ok (.bipush 16, 2) := by decide +kernel
theorem dX2_stretchMean_10 : decode cX2_stretchMean 10 = .ok (.imul, 1) := by decide +kernel
theorem dX2_stretchMean_11 : decode cX2_stretchMean 11 = .ok (.iload_n 2, 1) := by decide +kernel
theorem dX2_stretchMean_12 : decode cX2_stretchMean 12 = .ok (.iadd, 1) := by decide +kernel
theorem dX2_stretchMean_13 : decode cX2_stretchMean 13 = .ok (.istore_n 3, 1) := by decide +kernel
theorem dX2_stretchMean_14 : decode cX2_stretchMean 14 = .ok (.aload_n 0, 1) := by decide +kernel
theorem dX2_stretchMean_15 : decode cX2_stretchMean 15 = .ok (.getfield 9, 3) := by decide +kernel
theorem dX2_stretchMean_18 : decode cX2_stretchMean 18 = .ok (.iload_n 3, 1) := by decide +kernel
theorem dX2_stretchMean_19 : decode cX2_stretchMean 19 = .ok (.laload, 1) := by decide +kernel
theorem dX2_stretchMean_20 : decode cX2_stretchMean 20 = .ok (.lconst 0, 1) := by decide +kernel
theorem dX2_stretchMean_21 : decode cX2_stretchMean 21 = .ok (.lcmp, 1) := by decide +kernel
theorem dX2_stretchMean_22 : decode cX2_stretchMean 22 = .ok (.ifCond .ge 83, 3) := by decide +kernel
theorem dX2_stretchMean_25 : decode cX2_stretchMean 25 = .ok (.lconst 0, 1) := by decide +kernel
theorem dX2_stretchMean_26 : decode cX2_stretchMean 26 = .ok (.lstore 4, 2) := by decide +kernel
theorem dX2_stretchMean_28 : decode cX2_stretchMean 28 = .ok (.iconst 0, 1) := by decide +kernel
theorem dX2_stretchMean_29 : decode cX2_stretchMean 29 = .ok (.istore 6, 2) := by decide +kernel
theorem dX2_stretchMean_31 : decode cX2_stretchMean 31 = .ok (.iload 6, 2) := by decide +kernel
theorem dX2_stretchMean_33 : decode cX2_stretchMean 33 = .ok (.iload_n 2, 1) := by decide +kernel
theorem dX2_stretchMean_34 : decode cX2_stretchMean 34 = .ok (.iload_n 1, 1) := by decide +kernel
theorem dX2_stretchMean_35 : decode cX2_stretchMean 35 = .ok (.isub, 1) := by decide +kernel
theorem dX2_stretchMean_36 : decode cX2_stretchMean 36 = .ok (.if_icmp .gt 61, 3) := by decide +kernel
theorem dX2_stretchMean_39 : decode cX2_stretchMean 39 = .ok (.aload_n 0, 1) := by decide +kernel
theorem dX2_stretchMean_40 : decode cX2_stretchMean 40 = .ok (.iload_n 1, 1) := by decide +kernel
theorem dX2_stretchMean_41 : decode cX2_stretchMean 41 = .ok (.iload_n 2, 1) := by decide +kernel
theorem dX2_stretchMean_42 : decode cX2_stretchMean 42 = .ok (.iload 6, 2) := by decide +kernel
theorem dX2_stretchMean_44 : decode cX2_stretchMean 44 = .ok (.invokevirtual 64, 3) := by decide +kernel
theorem dX2_stretchMean_47 : decode cX2_stretchMean 47 = .ok (.istore 7, 2) := by decide +kernel
theorem dX2_stretchMean_49 : decode cX2_stretchMean 49 = .ok (.lload 4, 2) := by decide +kernel
theorem dX2_stretchMean_51 : decode cX2_stretchMean 51 = .ok (.ldc2_w 91, 3) := by decide +kernel
theorem dX2_stretchMean_54 : decode cX2_stretchMean 54 = .ok (.aload_n 0, 1) := by decide +kernel
theorem dX2_stretchMean_55 : decode cX2_stretchMean 55 = .ok (.getfield 22, 3) := by decide +kernel
theorem dX2_stretchMean_58 : decode cX2_stretchMean 58 = .ok (.iload 7, 2) := by decide +kernel
theorem dX2_stretchMean_60 : decode cX2_stretchMean 60 = .ok (.invokevirtual 93, 3) := by decide +kernel
theorem dX2_stretchMean_63 : decode cX2_stretchMean 63 = .ok (.i2l, 1) := by decide +kernel
theorem dX2_stretchMean_64 : decode cX2_stretchMean 64 = .ok (.lmul, 1) := by decide +kernel
theorem dX2_stretchMean_65 : decode cX2_stretchMean 65 = .ok (.ladd, 1) := by decide +kernel
theorem dX2_stretchMean_66 : decode cX2_stretchMean 66 = .ok (.ldc2_w 77, 3) := by decide +kernel
theorem dX2_stretchMean_69 : decode cX2_stretchMean 69 = .ok (.lmul, 1) := by decide +kernel
theorem dX2_stretchMean_70 : decode cX2_stretchMean 70 = .ok (.bipush 100, 2) := by decide +kernel
theorem dX2_stretchMean_72 : decode cX2_stretchMean 72 = .ok (.aload_n 0, 1) := by decide +kernel
theorem dX2_stretchMean_73 : decode cX2_stretchMean 73 = .ok (.getfield 22, 3) := by decide +kernel
theorem dX2_stretchMean_76 : decode cX2_stretchMean 76 = .ok (.iload 7, 2) := by decide +kernel
theorem dX2_stretchMean_78 : decode cX2_stretchMean 78 = .ok (.iload 6, 2) := by decide +kernel
theorem dX2_stretchMean_80 : decode cX2_stretchMean 80 = .ok (.invokevirtual 74, 3) := by decide +kernel
theorem dX2_stretchMean_83 : decode cX2_stretchMean 83 = .ok (.isub, 1) := by decide +kernel
theorem dX2_stretchMean_84 : decode cX2_stretchMean 84 = .ok (.i2l, 1) := by decide +kernel
theorem dX2_stretchMean_85 : decode cX2_stretchMean 85 = .ok (.ldiv, 1) := by decide +kernel
theorem dX2_stretchMean_86 : decode cX2_stretchMean 86 = .ok (.invokestatic 87, 3) := by decide +kernel
theorem dX2_stretchMean_89 : decode cX2_stretchMean 89 = .ok (.lstore 4, 2) := by decide +kernel
theorem dX2_stretchMean_91 : decode cX2_stretchMean 91 = .ok (.iinc 6 1, 3) := by decide +kernel
theorem dX2_stretchMean_94 : decode cX2_stretchMean 94 = .ok (.goto (-63), 3) := by decide +kernel
theorem dX2_stretchMean_97 : decode cX2_stretchMean 97 = .ok (.aload_n 0, 1) := by decide +kernel
theorem dX2_stretchMean_98 : decode cX2_stretchMean 98 = .ok (.getfield 9, 3) := by decide +kernel
theorem dX2_stretchMean_101 : decode cX2_stretchMean 101 = .ok (.iload_n 3, 1) := by decide +kernel
theorem dX2_stretchMean_102 : decode cX2_stretchMean 102 = .ok (.lload 4, 2) := by decide +kernel
theorem dX2_stretchMean_104 : decode cX2_stretchMean 104 = .ok (.lastore, 1) := by decide +kernel
theorem dX2_stretchMean_105 : decode cX2_stretchMean 105 = .ok (.aload_n 0, 1) := by decide +kernel
theorem dX2_stretchMean_106 : decode cX2_stretchMean 106 = .ok (.getfield 9, 3) := by decide +kernel
theorem dX2_stretchMean_109 : decode cX2_stretchMean 109 = .ok (.iload_n 3, 1) := by decide +kernel
theorem dX2_stretchMean_110 : decode cX2_stretchMean 110 = .ok (.laload, 1) := by decide +kernel
theorem dX2_stretchMean_111 : decode cX2_stretchMean 111 = .ok (.lreturn, 1) := by decide +kernel
theorem dX2_closing_0 : decode cX2_closing 0 = .ok (.aload_n 0, 1) := by decide +kernel
theorem dX2_closing_1 : decode cX2_closing 1 = .ok (.getfield 22, 3) := by decide +kernel
theorem dX2_closing_4 : decode cX2_closing 4 = .ok (.iload_n 1, 1) := by decide +kernel
theorem dX2_closing_5 : decode cX2_closing 5 = .ok (.iload 4, 2) := by decide +kernel
theorem dX2_closing_7 : decode cX2_closing 7 = .ok (.invokevirtual 74, 3) := by decide +kernel
theorem dX2_closing_10 : decode cX2_closing 10 = .ok (.istore 5, 2) := by decide +kernel
theorem dX2_closing_12 : decode cX2_closing 12 = .ok (.ldc2_w 91, 3) := by decide +kernel
theorem dX2_closing_15 : decode cX2_closing 15 = .ok (.aload_n 0, 1) := by decide +kernel
theorem dX2_closing_16 : decode cX2_closing 16 = .ok (.getfield 22, 3) := by decide +kernel
theorem dX2_closing_19 : decode cX2_closing 19 = .ok (.iload_n 1, 1) := by decide +kernel
theorem dX2_closing_20 : decode cX2_closing 20 = .ok (.invokevirtual 93, 3) := by decide +kernel
theorem dX2_closing_23 : decode cX2_closing 23 = .ok (.aload_n 0, 1) := by decide +kernel
theorem dX2_closing_24 : decode cX2_closing 24 = .ok (.getfield 22, 3) := by decide +kernel
theorem dX2_closing_27 : decode cX2_closing 27 = .ok (.iload_n 1, 1) := by decide +kernel
theorem dX2_closing_28 : decode cX2_closing 28 = .ok (.iload 4, 2) := by decide +kernel
theorem dX2_closing_30 : decode cX2_closing 30 = .ok (.invokevirtual 97, 3) := by decide +kernel
theorem dX2_closing_33 : decode cX2_closing 33 = .ok (.iadd, 1) := by decide +kernel
theorem dX2_closing_34 : decode cX2_closing 34 = .ok (.i2l, 1) := by decide +kernel
theorem dX2_closing_35 : decode cX2_closing 35 = .ok (.lmul, 1) := by decide +kernel
theorem dX2_closing_36 : decode cX2_closing 36 = .ok (.ldc2_w 77, 3) := by decide +kernel
theorem dX2_closing_39 : decode cX2_closing 39 = .ok (.lmul, 1) := by decide +kernel
theorem dX2_closing_40 : decode cX2_closing 40 = .ok (.lstore 6, 2) := by decide +kernel
theorem dX2_closing_42 : decode cX2_closing 42 = .ok (.lload 6, 2) := by decide +kernel
theorem dX2_closing_44 : decode cX2_closing 44 = .ok (.lload_n 2, 1) := by decide +kernel
theorem dX2_closing_45 : decode cX2_closing 45 = .ok (.iload 5, 2) := by decide +kernel
theorem dX2_closing_47 : decode cX2_closing 47 = .ok (.i2l, 1) := by decide +kernel
theorem dX2_closing_48 : decode cX2_closing 48 = .ok (.lmul, 1) := by decide +kernel
theorem dX2_closing_49 : decode cX2_closing 49 = .ok (.ladd, 1) := by decide +kernel
theorem dX2_closing_50 : decode cX2_closing 50 = .ok (.bipush 100, 2) := by decide +kernel
theorem dX2_closing_52 : decode cX2_closing 52 = .ok (.iload 5, 2) := by decide +kernel
theorem dX2_closing_54 : decode cX2_closing 54 = .ok (.isub, 1) := by decide +kernel
theorem dX2_closing_55 : decode cX2_closing 55 = .ok (.i2l, 1) := by decide +kernel
theorem dX2_closing_56 : decode cX2_closing 56 = .ok (.ldiv, 1) := by decide +kernel
theorem dX2_closing_57 : decode cX2_closing 57 = .ok (.invokestatic 87, 3) := by decide +kernel
theorem dX2_closing_60 : decode cX2_closing 60 = .ok (.lreturn, 1) := by decide +kernel
theorem dX2_capped_0 : decode cX2_capped 0 = .ok (.lload_n 0, 1) := by decide +kernel
theorem dX2_capped_1 : decode cX2_capped 1 = .ok (.ldc2_w 100, 3) := by decide +kernel
theorem dX2_capped_4 : decode cX2_capped 4 = .ok (.invokestatic 102, 3) := by decide +kernel
theorem dX2_capped_7 : decode cX2_capped 7 = .ok (.lreturn, 1) := by decide +kernel
theorem dX3_init_0 : decode cX3_init 0 = .ok (.aload_n 0, 1) := by decide +kernel
theorem dX3_init_1 : decode cX3_init 1 = .ok (.invokespecial 3, 3) := by decide +kernel
theorem dX3_init_4 : decode cX3_init 4 = .ok (.aload_n 0, 1) := by decide +kernel
theorem dX3_init_5 : decode cX3_init 5 = .ok (.sipush 160, 3) := by decide +kernel
theorem dX3_init_8 : decode cX3_init 8 = .ok (.newarray .int, 2) := by decide +kernel
theorem dX3_init_10 : decode cX3_init 10 = .ok (.putfield 9, 3) := by decide +kernel
theorem dX3_init_13 : decode cX3_init 13 = .ok (.aload_n 0, 1) := by decide +kernel
theorem dX3_init_14 : decode cX3_init 14 = .ok (.sipush 160, 3) := by decide +kernel
theorem dX3_init_17 : decode cX3_init 17 = .ok (.newarray .int, 2) := by decide +kernel
theorem dX3_init_19 : decode cX3_init 19 = .ok (.putfield 15, 3) := by decide +kernel
theorem dX3_init_22 : decode cX3_init 22 = .ok (.aload_n 0, 1) := by decide +kernel
theorem dX3_init_23 : decode cX3_init 23 = .ok (.iconst 4, 1) := by decide +kernel
theorem dX3_init_24 : decode cX3_init 24 = .ok (.newarray .int, 2) := by decide +kernel
theorem dX3_init_26 : decode cX3_init 26 = .ok (.putfield 18, 3) := by decide +kernel
theorem dX3_init_29 : decode cX3_init 29 = .ok (.return_, 1) := by decide +kernel
theorem dX3_append_0 : decode cX3_append 0 = .ok (.aload_n 0, 1) := by decide +kernel
theorem dX3_append_1 : decode cX3_append 1 = .ok (.getfield 21, 3) := by decide +kernel
theorem dX3_append_4 : decode cX3_append 4 = .ok (.sipush 160, 3) := by decide +kernel
theorem dX3_append_7 : decode cX3_append 7 = .ok (.if_icmp .ge 23, 3) := by decide +kernel
theorem dX3_append_10 : decode cX3_append 10 = .ok (.aload_n 0, 1) := by decide +kernel
theorem dX3_append_11 : decode cX3_append 11 = .ok (.getfield 9, 3) := by decide +kernel
theorem dX3_append_14 : decode cX3_append 14 = .ok (.aload_n 0, 1) := by decide +kernel
theorem dX3_append_15 : decode cX3_append 15 = .ok (.getfield 21, 3) := by decide +kernel
theorem dX3_append_18 : decode cX3_append 18 = .ok (.iload_n 1, 1) := by decide +kernel
theorem dX3_append_19 : decode cX3_append 19 = .ok (.iastore, 1) := by decide +kernel
theorem dX3_append_20 : decode cX3_append 20 = .ok (.aload_n 0, 1) := by decide +kernel
theorem dX3_append_21 : decode cX3_append 21 = .ok (.dup, 1) := by decide +kernel
theorem dX3_append_22 : decode cX3_append 22 = .ok (.getfield 21, 3) := by decide +kernel
theorem dX3_append_25 : decode cX3_append 25 = .ok (.iconst 1, 1) := by decide +kernel
theorem dX3_append_26 : decode cX3_append 26 = .ok (.iadd, 1) := by decide +kernel
theorem dX3_append_27 : decode cX3_append 27 = .ok (.putfield 21, 3) := by decide +kernel
theorem dX3_append_30 : decode cX3_append 30 = .ok (.return_, 1) := by decide +kernel
theorem dX3_readText_0 : decode cX3_readText 0 = .ok (.aload_n 0, 1) := by decide +kernel
theorem dX3_readText_1 : decode cX3_readText 1 = .ok (.iconst 0, 1) := by decide +kernel
theorem dX3_readText_2 : decode cX3_readText 2 = .ok (.putfield 25, 3) := by decide +kernel
theorem dX3_readText_5 : decode cX3_readText 5 = .ok (.aload_n 0, 1) := by decide +kernel
theorem dX3_readText_6 : decode cX3_readText 6 = .ok (.iconst 0, 1) := by decide +kernel
theorem dX3_readText_7 : decode cX3_readText 7 = .ok (.putfield 28, 3) := by decide +kernel
theorem dX3_readText_10 : decode cX3_readText 10 = .ok (.aload_n 0, 1) := by decide +kernel
theorem dX3_readText_11 : decode cX3_readText 11 = .ok (.iconst (-1), 1) := by decide +kernel
theorem dX3_readText_12 : decode cX3_readText 12 = .ok (.putfield 31, 3) := by decide +kernel
theorem dX3_readText_15 : decode cX3_readText 15 = .ok (.aload_n 0, 1) := by decide +kernel
theorem dX3_readText_16 : decode cX3_readText 16 = .ok (.invokevirtual 34, 3) := by decide +kernel
theorem dX3_readText_19 : decode cX3_readText 19 = .ok (.iconst 0, 1) := by decide +kernel
theorem dX3_readText_20 : decode cX3_readText 20 = .ok (.istore_n 1, 1) := by decide +kernel
theorem dX3_readText_21 : decode cX3_readText 21 = .ok (.iload_n 1, 1) := by decide +kernel
theorem dX3_readText_22 : decode cX3_readText 22 = .ok (.iconst 3, 1) := by decide +kernel
theorem dX3_readText_23 : decode cX3_readText 23 = .ok (.if_icmp .ge 39, 3) := by decide +kernel
theorem dX3_readText_26 : decode cX3_readText 26 = .ok (.aload_n 0, 1) := by decide +kernel
theorem dX3_readText_27 : decode cX3_readText 27 = .ok (.getfield 18, 3) := by decide +kernel
theorem dX3_readText_30 : decode cX3_readText 30 = .ok (.iload_n 1, 1) := by decide +kernel
theorem dX3_readText_31 : decode cX3_readText 31 = .ok (.aload_n 0, 1) := by decide +kernel
theorem dX3_readText_32 : decode cX3_readText 32 = .ok (.getfield 28, 3) := by decide +kernel
theorem dX3_readText_35 : decode cX3_readText 35 = .ok (.iastore, 1) := by decide +kernel
theorem dX3_readText_36 : decode cX3_readText 36 = .ok (.aload_n 0, 1) := by decide +kernel
theorem dX3_readText_37 : decode cX3_readText 37 = .ok (.sipush 256, 3) := by decide +kernel
theorem dX3_readText_40 : decode cX3_readText 40 = .ok (.iload_n 1, 1) := by decide +kernel
theorem dX3_readText_41 : decode cX3_readText 41 = .ok (.iadd, 1) := by decide +kernel
theorem dX3_readText_42 : decode cX3_readText 42 = .ok (.invokevirtual 37, 3) := by decide +kernel
theorem dX3_readText_45 : decode cX3_readText 45 = .ok (.aload_n 0, 1) := by decide +kernel
theorem dX3_readText_46 : decode cX3_readText 46 = .ok (.iconst 0, 1) := by decide +kernel
theorem dX3_readText_47 : decode cX3_readText 47 = .ok (.invokevirtual 41, 3) := by decide +kernel
theorem dX3_readText_50 : decode cX3_readText 50 = .ok (.aload_n 0, 1) := by decide +kernel
theorem dX3_readText_51 : decode cX3_readText 51 = .ok (.bipush 59, 2) := by decide +kernel
theorem dX3_readText_53 : decode cX3_readText 53 = .ok (.invokevirtual 37, 3) := by decide +kernel
theorem dX3_readText_56 : decode cX3_readText 56 = .ok (.iinc 1 1, 3) := by decide +kernel
theorem dX3_readText_59 : decode cX3_readText 59 = .ok (.goto (-38), 3) := by decide +kernel
theorem dX3_readText_62 : decode cX3_readText 62 = .ok (.aload_n 0, 1) := by decide +kernel
theorem dX3_readText_63 : decode cX3_readText 63 = .ok (.getfield 18, 3) := by decide +kernel
theorem dX3_readText_66 : decode cX3_readText 66 = .ok (.iconst 3, 1) := by decide +kernel
theorem dX3_readText_67 : decode cX3_readText 67 = .ok (.aload_n 0, 1) := by decide +kernel
theorem dX3_readText_68 : decode cX3_readText 68 = .ok (.getfield 28, 3) := by decide +kernel
theorem dX3_readText_71 : decode cX3_readText 71 = .ok (.iastore, 1) := by decide +kernel
theorem dX3_readText_72 : decode cX3_readText 72 = .ok (.aload_n 0, 1) := by decide +kernel
theorem dX3_readText_73 : decode cX3_readText 73 = .ok (.iconst 0, 1) := by decide +kernel
theorem dX3_readText_74 : decode cX3_readText 74 = .ok (.invokevirtual 37, 3) := by decide +kernel
theorem dX3_readText_77 : decode cX3_readText 77 = .ok (.aload_n 0, 1) := by decide +kernel
theorem dX3_readText_78 : decode cX3_readText 78 = .ok (.getfield 31, 3) := by decide +kernel
theorem dX3_readText_81 : decode cX3_readText 81 = .ok (.ireturn, 1) := by decide +kernel
theorem dX3_fail_0 : decode cX3_fail 0 = .ok (.aload_n 0, 1) := by decide +kernel
theorem dX3_fail_1 : decode cX3_fail 1 = .ok (.getfield 31, 3) := by decide +kernel
theorem dX3_fail_4 : decode cX3_fail 4 = .ok (.ifCond .ge 11, 3) := by decide +kernel
theorem dX3_fail_7 : decode cX3_fail 7 = .ok (.aload_n 0, 1) := by decide +kernel
theorem dX3_fail_8 : decode cX3_fail 8 = .ok (.aload_n 0, 1) := by decide +kernel
theorem dX3_fail_9 : decode cX3_fail 9 = .ok (.getfield 44, 3) := by decide +kernel
theorem dX3_fail_12 : decode cX3_fail 12 = .ok (.putfield 31, 3) := by decide +kernel
theorem dX3_fail_15 : decode cX3_fail 15 = .ok (.aload_n 0, 1) := by decide +kernel
theorem dX3_fail_16 : decode cX3_fail 16 = .ok (.iconst 1, 1) := by decide +kernel
theorem dX3_fail_17 : decode cX3_fail 17 = .ok (.putfield 47, 3) := by decide +kernel
theorem dX3_fail_20 : decode cX3_fail 20 = .ok (.return_, 1) := by decide +kernel
theorem dX3_want_0 : decode cX3_want 0 = .ok (.aload_n 0, 1) := by decide +kernel
theorem dX3_want_1 : decode cX3_want 1 = .ok (.getfield 47, 3) := by decide +kernel
theorem dX3_want_4 : decode cX3_want 4 = .ok (.iload_n 1, 1) := by decide +kernel
theorem dX3_want_5 : decode cX3_want 5 = .ok (.if_icmp .ne 10, 3) := by decide +kernel
theorem dX3_want_8 : decode cX3_want 8 = .ok (.aload_n 0, 1) := by decide +kernel
theorem dX3_want_9 : decode cX3_want 9 = .ok (.invokevirtual 34, 3) := by decide +kernel
theorem dX3_want_12 : decode cX3_want 12 = .ok (.goto 7, 3) := by decide +kernel
theorem dX3_want_15 : decode cX3_want 15 = .ok (.aload_n 0, 1) := by decide +kernel
theorem dX3_want_16 : decode cX3_want 16 = .ok (.invokevirtual 50, 3) := by decide +kernel
theorem dX3_want_19 : decode cX3_want 19 = .ok (.return_, 1) := by decide +kernel
theorem dX3_emit_0 : decode cX3_emit 0 = .ok (.aload_n 0, 1) := by decide +kernel
theorem dX3_emit_1 : decode cX3_emit 1 = .ok (.getfield 28, 3) := by decide +kernel
theorem dX3_emit_4 : decode cX3_emit 4 = .ok (.sipush 160, 3) := by decide +kernel
theorem dX3_emit_7 : decode cX3_emit 7 = .ok (.if_icmp .ge 23, 3) := by decide +kernel
theorem dX3_emit_10 : decode cX3_emit 10 = .ok (.aload_n 0, 1) := by decide +kernel
theorem dX3_emit_11 : decode cX3_emit 11 = .ok (.getfield 15, 3) := by decide +kernel
theorem dX3_emit_14 : decode cX3_emit 14 = .ok (.aload_n 0, 1) := by decide +kernel
theorem dX3_emit_15 : decode cX3_emit 15 = .ok (.getfield 28, 3) := by decide +kernel
theorem dX3_emit_18 : decode cX3_emit 18 = .ok (.iload_n 1, 1) := by decide +kernel
theorem dX3_emit_19 : decode cX3_emit 19 = .ok (.iastore, 1) := by decide +kernel
theorem dX3_emit_20 : decode cX3_emit 20 = .ok (.aload_n 0, 1) := by decide +kernel
theorem dX3_emit_21 : decode cX3_emit 21 = .ok (.dup, 1) := by decide +kernel
theorem dX3_emit_22 : decode cX3_emit 22 = .ok (.getfield 28, 3) := by decide +kernel
theorem dX3_emit_25 : decode cX3_emit 25 = .ok (.iconst 1, 1) := by decide +kernel
theorem dX3_emit_26 : decode cX3_emit 26 = .ok (.iadd, 1) := by decide +kernel
theorem dX3_emit_27 : decode cX3_emit 27 = .ok (.putfield 28, 3) := by decide +kernel
theorem dX3_emit_30 : decode cX3_emit 30 = .ok (.return_, 1) := by decide +kernel
theorem dX3_readOr_0 : decode cX3_readOr 0 = .ok (.aload_n 0, 1) := by decide +kernel
theorem dX3_readOr_1 : decode cX3_readOr 1 = .ok (.iload_n 1, 1) := by decide +kernel
theorem dX3_readOr_2 : decode cX3_readOr 2 = .ok (.invokevirtual 53, 3) := by decide +kernel
theorem dX3_readOr_5 : decode cX3_readOr 5 = .ok (.iconst 0, 1) := by decide +kernel
theorem dX3_readOr_6 : decode cX3_readOr 6 = .ok (.istore_n 2, 1) := by decide +kernel
theorem dX3_readOr_7 : decode cX3_readOr 7 = .ok (.iload_n 2, 1) := by decide +kernel
theorem dX3_readOr_8 : decode cX3_readOr 8 = .ok (.sipush 160, 3) := by decide +kernel
theorem dX3_readOr_11 : decode cX3_readOr 11 = .ok (.if_icmp .ge 34, 3) := by decide +kernel
theorem dX3_readOr_14 : decode cX3_readOr 14 = .ok (.aload_n 0, 1) := by decide +kernel
theorem dX3_readOr_15 : decode cX3_readOr 15 = .ok (.getfield 47, 3) := by decide +kernel
theorem dX3_readOr_18 : decode cX3_readOr 18 = .ok (.sipush 259, 3) := by decide +kernel
theorem dX3_readOr_21 : decode cX3_readOr 21 = .ok (.if_icmp .ne 24, 3) := by decide +kernel
theorem dX3_readOr_24 : decode cX3_readOr 24 = .ok (.aload_n 0, 1) := by decide +kernel
theorem dX3_readOr_25 : decode cX3_readOr 25 = .ok (.invokevirtual 34, 3) := by decide +kernel
theorem dX3_readOr_28 : decode cX3_readOr 28 = .ok (.aload_n 0, 1) := by decide +kernel
theorem dX3_readOr_29 : decode cX3_readOr 29 = .ok (.iload_n 1, 1) := by decide +kernel
theorem dX3_readOr_30 : decode cX3_readOr 30 = .ok (.invokevirtual 53, 3) := by decide +kernel
theorem dX3_readOr_33 : decode cX3_readOr 33 = .ok (.aload_n 0, 1) := by decide +kernel
theorem dX3_readOr_34 : decode cX3_readOr 34 = .ok (.bipush (-7), 2) := by decide +kernel
theorem dX3_readOr_36 : decode cX3_readOr 36 = .ok (.invokevirtual 58, 3) := by decide +kernel
theorem dX3_readOr_39 : decode cX3_readOr 39 = .ok (.iinc 2 1, 3) := by decide +kernel
theorem dX3_readOr_42 : decode cX3_readOr 42 = .ok (.goto (-35), 3) := by decide +kernel
theorem dX3_readOr_45 : decode cX3_readOr 45 = .ok (.return_, 1) := by decide +kernel
theorem dX3_readAnd_0 : decode cX3_readAnd 0 = .ok (.aload_n 0, 1) := by decide +kernel
theorem dX3_readAnd_1 : decode cX3_readAnd 1 = .ok (.iload_n 1, 1) := by decide +kernel
theorem dX3_readAnd_2 : decode cX3_readAnd 2 = .ok (.invokevirtual 61, 3) := by decide +kernel
theorem dX3_readAnd_5 : decode cX3_readAnd 5 = .ok (.iconst 0, 1) := by decide +kernel
theorem dX3_readAnd_6 : decode cX3_readAnd 6 = .ok (.istore_n 2, 1) := by decide +kernel
theorem dX3_readAnd_7 : decode cX3_readAnd 7 = .ok (.iload_n 2, 1) := by decide +kernel
theorem dX3_readAnd_8 : decode cX3_readAnd 8 = .ok (.sipush 160, 3) := by decide +kernel
theorem dX3_readAnd_11 : decode cX3_readAnd 11 = .ok (.if_icmp .ge 34, 3) := by decide +kernel
theorem dX3_readAnd_14 : decode cX3_readAnd 14 = .ok (.aload_n 0, 1) := by decide +kernel
theorem dX3_readAnd_15 : decode cX3_readAnd 15 = .ok (.getfield 47, 3) := by decide +kernel
theorem dX3_readAnd_18 : decode cX3_readAnd 18 = .ok (.sipush 260, 3) := by decide +kernel
theorem dX3_readAnd_21 : decode cX3_readAnd 21 = .ok (.if_icmp .ne 24, 3) := by decide +kernel
theorem dX3_readAnd_24 : decode cX3_readAnd 24 = .ok (.aload_n 0, 1) := by decide +kernel
theorem dX3_readAnd_25 : decode cX3_readAnd 25 = .ok (.invokevirtual 34, 3) := by decide +kernel
theorem dX3_readAnd_28 : decode cX3_readAnd 28 = .ok (.aload_n 0, 1) := by decide +kernel
theorem dX3_readAnd_29 : decode cX3_readAnd 29 = .ok (.iload_n 1, 1) := by decide +kernel
theorem dX3_readAnd_30 : decode cX3_readAnd 30 = .ok (.invokevirtual 61, 3) := by decide +kernel
theorem dX3_readAnd_33 : decode cX3_readAnd 33 = .ok (.aload_n 0, 1) := by decide +kernel
theorem dX3_readAnd_34 : decode cX3_readAnd 34 = .ok (.bipush (-8), 2) := by decide +kernel
theorem dX3_readAnd_36 : decode cX3_readAnd 36 = .ok (.invokevirtual 58, 3) := by decide +kernel
theorem dX3_readAnd_39 : decode cX3_readAnd 39 = .ok (.iinc 2 1, 3) := by decide +kernel
theorem dX3_readAnd_42 : decode cX3_readAnd 42 = .ok (.goto (-35), 3) := by decide +kernel
theorem dX3_readAnd_45 : decode cX3_readAnd 45 = .ok (.return_, 1) := by decide +kernel
theorem dX3_readNot_0 : decode cX3_readNot 0 = .ok (.aload_n 0, 1) := by decide +kernel
theorem dX3_readNot_1 : decode cX3_readNot 1 = .ok (.getfield 47, 3) := by decide +kernel
theorem dX3_readNot_4 : decode cX3_readNot 4 = .ok (.sipush 261, 3) := by decide +kernel
theorem dX3_readNot_7 : decode cX3_readNot 7 = .ok (.if_icmp .eq 11, 3) := by decide +kernel
theorem dX3_readNot_10 : decode cX3_readNot 10 = .ok (.aload_n 0, 1) := by decide +kernel
theorem dX3_readNot_11 : decode cX3_readNot 11 = .ok (.iload_n 1, 1) := by decide +kernel
theorem dX3_readNot_12 : decode cX3_readNot 12 = .ok (.invokevirtual 64, 3) := by decide +kernel
theorem dX3_readNot_15 : decode cX3_readNot 15 = .ok (.goto 32, 3) := by decide +kernel
theorem dX3_readNot_18 : decode cX3_readNot 18 = .ok (.iload_n 1, 1) := by decide +kernel
theorem dX3_readNot_19 : decode cX3_readNot 19 = .ok (.iconst 5, 1) := by decide +kernel
theorem dX3_readNot_20 : decode cX3_readNot 20 = .ok (.if_icmp .lt 10, 3) := by decide +kernel
theorem dX3_readNot_23 : decode cX3_readNot 23 = .ok (.aload_n 0, 1) := by decide +kernel
theorem dX3_readNot_24 : decode cX3_readNot 24 = .ok (.invokevirtual 50, 3) := by decide +kernel
theorem dX3_readNot_27 : decode cX3_readNot 27 = .ok (.goto 20, 3) := by decide +kernel
theorem dX3_readNot_30 : decode cX3_readNot 30 = .ok (.aload_n 0, 1) := by decide +kernel
theorem dX3_readNot_31 : decode cX3_readNot 31 = .ok (.invokevirtual 34, 3) := by decide +kernel
theorem dX3_readNot_34 : decode cX3_readNot 34 = .ok (.aload_n 0, 1) := by decide +kernel
theorem dX3_readNot_35 : decode cX3_readNot 35 = .ok (.iload_n 1, 1) := by decide +kernel
theorem dX3_readNot_36 : decode cX3_readNot 36 = .ok (.iconst 1, 1) := by decide +kernel
theorem dX3_readNot_37 : decode cX3_readNot 37 = .ok (.iadd, 1) := by decide +kernel
theorem dX3_readNot_38 : decode cX3_readNot 38 = .ok (.invokevirtual 61, 3) := by decide +kernel
theorem dX3_readNot_41 : decode cX3_readNot 41 = .ok (.aload_n 0, 1) := by decide +kernel
theorem dX3_readNot_42 : decode cX3_readNot 42 = .ok (.bipush (-14), 2) := by decide +kernel
theorem dX3_readNot_44 : decode cX3_readNot 44 = .ok (.invokevirtual 58, 3) := by decide +kernel
theorem dX3_readNot_47 : decode cX3_readNot 47 = .ok (.return_, 1) := by decide +kernel
theorem dX3_readCompared_0 : decode cX3_readCompared 0 = .ok (.aload_n 0, 1) := by decide +kernel
theorem dX3_readCompared_1 : decode cX3_readCompared 1 = .ok (.iload_n 1, 1) := by decide +kernel
theorem dX3_readCompared_2 : decode cX3_readCompared 2 = .ok (.invokevirtual 67, 3) := by decide +kernel
theorem dX3_readCompared_5 : decode cX3_readCompared 5 = .ok (.aload_n 0, 1) := by decide +kernel
theorem dX3_readCompared_6 : decode cX3_readCompared 6 = .ok (.getfield 47, 3) := by decide +kernel
theorem dX3_readCompared_9 : decode cX3_readCompared 9 = .ok (.bipush 60, 2) := by decide +kernel
theorem dX3_readCompared_11 : decode cX3_readCompared 11 = .ok (.if_icmp .eq 12, 3) := by decide +kernel
theorem dX3_readCompared_14 : decode cX3_readCompared 14 = .ok (.aload_n 0, 1) := by decide +kernel
theorem dX3_readCompared_15 : decode cX3_readCompared 15 = .ok (.getfield 47, 3) := by decide +kernel
theorem dX3_readCompared_18 : decode cX3_readCompared 18 = .ok (.bipush 61, 2) := by decide +kernel
theorem dX3_readCompared_20 : decode cX3_readCompared 20 = .ok (.if_icmp .ne 34, 3) := by decide +kernel
theorem dX3_readCompared_23 : decode cX3_readCompared 23 = .ok (.aload_n 0, 1) := by decide +kernel
theorem dX3_readCompared_24 : decode cX3_readCompared 24 = .ok (.getfield 47, 3) := by decide +kernel
theorem dX3_readCompared_27 : decode cX3_readCompared 27 = .ok (.bipush 60, 2) := by decide +kernel
theorem dX3_readCompared_29 : decode cX3_readCompared 29 = .ok (.if_icmp .ne 8, 3) := by decide +kernel
theorem dX3_readCompared_32 : decode cX3_readCompared 32 = .ok (.bipush (-9), 2) := by decide +kernel
theorem dX3_readCompared_34 : decode cX3_readCompared 34 = .ok (.goto 5, 3) := by decide +kernel
theorem dX3_readCompared_37 : decode cX3_readCompared 37 = .ok (.bipush (-10), 2) := by decide +kernel
theorem dX3_readCompared_39 : decode cX3_readCompared 39 = .ok (.istore_n 2, 1) := by decide +kernel
theorem dX3_readCompared_40 : decode cX3_readCompared 40 = .ok (.aload_n 0, 1) := by decide +kernel
theorem dX3_readCompared_41 : decode cX3_readCompared 41 = .ok (.invokevirtual 34, 3) := by decide +kernel
theorem dX3_readCompared_44 : decode cX3_readCompared 44 = .ok (.aload_n 0, 1) := by decide +kernel
theorem dX3_readCompared_45 : decode cX3_readCompared 45 = .ok (.iload_n 1, 1) := by decide +kernel
theorem dX3_readCompared_46 : decode cX3_readCompared 46 = .ok (.invokevirtual 67, 3) := by decide +kernel
theorem dX3_readCompared_49 : decode cX3_readCompared 49 = .ok (.aload_n 0, 1) := by decide +kernel
theorem dX3_readCompared_50 : decode cX3_readCompared 50 = .ok (.iload_n 2, 1) := by decide +kernel
theorem dX3_readCompared_51 : decode cX3_readCompared 51 = .ok (.invokevirtual 58, 3) := by decide +kernel
theorem dX3_readCompared_54 : decode cX3_readCompared 54 = .ok (.return_, 1) := by decide +kernel
theorem dX3_readSum_0 : decode cX3_readSum 0 = .ok (.aload_n 0, 1) := by decide +kernel
theorem dX3_readSum_1 : decode cX3_readSum 1 = .ok (.iload_n 1, 1) := by decide +kernel
theorem dX3_readSum_2 : decode cX3_readSum 2 = .ok (.invokevirtual 70, 3) := by decide +kernel
theorem dX3_readSum_5 : decode cX3_readSum 5 = .ok (.iconst 0, 1) := by decide +kernel
theorem dX3_readSum_6 : decode cX3_readSum 6 = .ok (.istore_n 2, 1) := by decide +kernel
theorem dX3_readSum_7 : decode cX3_readSum 7 = .ok (.iload_n 2, 1) := by decide +kernel
theorem dX3_readSum_8 : decode cX3_readSum 8 = .ok (.sipush 160, 3) := by decide +kernel
theorem dX3_readSum_11 : decode cX3_readSum 11 = .ok (.if_icmp .ge 58, 3) := by decide +kernel
theorem dX3_readSum_14 : decode cX3_readSum 14 = .ok (.aload_n 0, 1) := by decide +kernel
theorem dX3_readSum_15 : decode cX3_readSum 15 = .ok (.getfield 47, 3) := by decide +kernel
theorem dX3_readSum_18 : decode cX3_readSum 18 = .ok (.bipush 43, 2) := by decide +kernel
theorem dX3_readSum_20 : decode cX3_readSum 20 = .ok (.if_icmp .eq 12, 3) := by decide +kernel
theorem dX3_readSum_23 : decode cX3_readSum 23 = .ok (.aload_n 0, 1) := by decide +kernel
theorem dX3_readSum_24 : decode cX3_readSum 24 = .ok (.getfield 47, 3) := by decide +kernel
theorem dX3_readSum_27 : decode cX3_readSum 27 = .ok (.bipush 45, 2) := by decide +kernel
theorem dX3_readSum_29 : decode cX3_readSum 29 = .ok (.if_icmp .ne 40, 3) := by decide +kernel
theorem dX3_readSum_32 : decode cX3_readSum 32 = .ok (.aload_n 0, 1) := by decide +kernel
theorem dX3_readSum_33 : decode cX3_readSum 33 = .ok (.getfield 47, 3) := by decide +kernel
theorem dX3_readSum_36 : decode cX3_readSum 36 = .ok (.bipush 43, 2) := by decide +kernel
theorem dX3_readSum_38 : decode cX3_readSum 38 = .ok (.if_icmp .ne 8, 3) := by decide +kernel
theorem dX3_readSum_41 : decode cX3_readSum 41 = .ok (.bipush (-11), 2) := by decide +kernel
theorem dX3_readSum_43 : decode cX3_readSum 43 = .ok (.goto 5, 3) := by decide +kernel
theorem dX3_readSum_46 : decode cX3_readSum 46 = .ok (.bipush (-12), 2) := by decide +kernel
theorem dX3_readSum_48 : decode cX3_readSum 48 = .ok (.istore_n 3, 1) := by decide +kernel
theorem dX3_readSum_49 : decode cX3_readSum 49 = .ok (.aload_n 0, 1) := by decide +kernel
theorem dX3_readSum_50 : decode cX3_readSum 50 = .ok (.invokevirtual 34, 3) := by decide +kernel
theorem dX3_readSum_53 : decode cX3_readSum 53 = .ok (.aload_n 0, 1) := by decide +kernel
theorem dX3_readSum_54 : decode cX3_readSum 54 = .ok (.iload_n 1, 1) := by decide +kernel
theorem dX3_readSum_55 : decode cX3_readSum 55 = .ok (.invokevirtual 70, 3) := by decide +kernel
theorem dX3_readSum_58 : decode cX3_readSum 58 = .ok (.aload_n 0, 1) := by decide +kernel
theorem dX3_readSum_59 : decode cX3_readSum 59 = .ok (.iload_n 3, 1) := by decide +kernel
theorem dX3_readSum_60 : decode cX3_readSum 60 = .ok (.invokevirtual 58, 3) := by decide +kernel
theorem dX3_readSum_63 : decode cX3_readSum 63 = .ok (.iinc 2 1, 3) := by decide +kernel
theorem dX3_readSum_66 : decode cX3_readSum 66 = .ok (.goto (-59), 3) := by decide +kernel
theorem dX3_readSum_69 : decode cX3_readSum 69 = .ok (.return_, 1) := by decide +kernel
theorem dX3_readTerm_0 : decode cX3_readTerm 0 = .ok (.aload_n 0, 1) := by decide +kernel
theorem dX3_readTerm_1 : decode cX3_readTerm 1 = .ok (.iload_n 1, 1) := by decide +kernel
theorem dX3_readTerm_2 : decode cX3_readTerm 2 = .ok (.invokevirtual 73, 3) := by decide +kernel
theorem dX3_readTerm_5 : decode cX3_readTerm 5 = .ok (.iconst 0, 1) := by decide +kernel
theorem dX3_readTerm_6 : decode cX3_readTerm 6 = .ok (.istore_n 2, 1) := by decide +kernel
theorem dX3_readTerm_7 : decode cX3_readTerm 7 = .ok (.iload_n 2, 1) := by decide +kernel
theorem dX3_readTerm_8 : decode cX3_readTerm 8 = .ok (.sipush 160, 3) := by decide +kernel
theorem dX3_readTerm_11 : decode cX3_readTerm 11 = .ok (.if_icmp .ge 33, 3) := by decide +kernel
theorem dX3_readTerm_14 : decode cX3_readTerm 14 = .ok (.aload_n 0, 1) := by decide +kernel
theorem dX3_readTerm_15 : decode cX3_readTerm 15 = .ok (.getfield 47, 3) := by decide +kernel
theorem dX3_readTerm_18 : decode cX3_readTerm 18 = .ok (.bipush 42, 2) := by decide +kernel
theorem dX3_readTerm_20 : decode cX3_readTerm 20 = .ok (.if_icmp .ne 24, 3) := by decide +kernel
theorem dX3_readTerm_23 : decode cX3_readTerm 23 = .ok (.aload_n 0, 1) := by decide +kernel
theorem dX3_readTerm_24 : decode cX3_readTerm 24 = .ok (.invokevirtual 34, 3) := by decide +kernel
theorem dX3_readTerm_27 : decode cX3_readTerm 27 = .ok (.aload_n 0, 1) := by decide +kernel
theorem dX3_readTerm_28 : decode cX3_readTerm 28 = .ok (.iload_n 1, 1) := by decide +kernel
theorem dX3_readTerm_29 : decode cX3_readTerm 29 = .ok (.invokevirtual 73, 3) := by decide +kernel
theorem dX3_readTerm_32 : decode cX3_readTerm 32 = .ok (.aload_n 0, 1) := by decide +kernel
theorem dX3_readTerm_33 : decode cX3_readTerm 33 = .ok (.bipush (-13), 2) := by decide +kernel
theorem dX3_readTerm_35 : decode cX3_readTerm 35 = .ok (.invokevirtual 58, 3) := by decide +kernel
theorem dX3_readTerm_38 : decode cX3_readTerm 38 = .ok (.iinc 2 1, 3) := by decide +kernel
theorem dX3_readTerm_41 : decode cX3_readTerm 41 = .ok (.goto (-34), 3) := by decide +kernel
theorem dX3_readTerm_44 : decode cX3_readTerm 44 = .ok (.return_, 1) := by decide +kernel
theorem dX3_readOne_0 : decode cX3_readOne 0 = .ok (.aload_n 0, 1) := by decide +kernel
theorem dX3_readOne_1 : decode cX3_readOne 1 = .ok (.getfield 47, 3) := by decide +kernel
theorem dX3_readOne_4 : decode cX3_readOne 4 = .ok (.iconst 2, 1) := by decide +kernel
theorem dX3_readOne_5 : decode cX3_readOne 5 = .ok (.if_icmp .ne 18, 3) := by decide +kernel
theorem dX3_readOne_8 : decode cX3_readOne 8 = .ok (.aload_n 0, 1) := by decide +kernel
theorem dX3_readOne_9 : decode cX3_readOne 9 = .ok (.aload_n 0, 1) := by decide +kernel
theorem dX3_readOne_10 : decode cX3_readOne 10 = .ok (.getfield 76, 3) := by decide +kernel
theorem dX3_readOne_13 : decode cX3_readOne 13 = .ok (.invokevirtual 58, 3) := by decide +kernel
theorem dX3_readOne_16 : decode cX3_readOne 16 = .ok (.aload_n 0, 1) := by decide +kernel
theorem dX3_readOne_17 : decode cX3_readOne 17 = .ok (.invokevirtual 34, 3) := by decide +kernel
theorem dX3_readOne_20 : decode cX3_readOne 20 = .ok (.goto 110, 3) := by decide +kernel
theorem dX3_readOne_23 : decode cX3_readOne 23 = .ok (.aload_n 0, 1) := by decide +kernel
theorem dX3_readOne_24 : decode cX3_readOne 24 = .ok (.getfield 47, 3) := by decide +kernel
theorem dX3_readOne_27 : decode cX3_readOne 27 = .ok (.sipush 262, 3) := by decide +kernel
theorem dX3_readOne_30 : decode cX3_readOne 30 = .ok (.if_icmp .lt 24, 3) := by decide +kernel
theorem dX3_readOne_33 : decode cX3_readOne 33 = .ok (.aload_n 0, 1) := by decide +kernel
theorem dX3_readOne_34 : decode cX3_readOne 34 = .ok (.iconst (-1), 1) := by decide +kernel
theorem dX3_readOne_35 : decode cX3_readOne 35 = .ok (.aload_n 0, 1) := by decide +kernel
theorem dX3_readOne_36 : decode cX3_readOne 36 = .ok (.getfield 47, 3) := by decide +kernel
theorem dX3_readOne_39 : decode cX3_readOne 39 = .ok (.sipush 262, 3) := by decide +kernel
theorem dX3_readOne_42 : decode cX3_readOne 42 = .ok (.isub, 1) := by decide +kernel
theorem dX3_readOne_43 : decode cX3_readOne 43 = .ok (.isub, 1) := by decide +kernel
theorem dX3_readOne_44 : decode cX3_readOne 44 = .ok (.invokevirtual 58, 3) := by decide +kernel
theorem dX3_readOne_47 : decode cX3_readOne 47 = .ok (.aload_n 0, 1) := by decide +kernel
theorem dX3_readOne_48 : decode cX3_readOne 48 = .ok (.invokevirtual 34, 3) := by decide +kernel
theorem dX3_readOne_51 : decode cX3_readOne 51 = .ok (.goto 79, 3) := by decide +kernel
theorem dX3_readOne_54 : decode cX3_readOne 54 = .ok (.iload_n 1, 1) := by decide +kernel
theorem dX3_readOne_55 : decode cX3_readOne 55 = .ok (.iconst 5, 1) := by decide +kernel
theorem dX3_readOne_56 : decode cX3_readOne 56 = .ok (.if_icmp .ge 21, 3) := by decide +kernel
theorem dX3_readOne_59 : decode cX3_readOne 59 = .ok (.aload_n 0, 1) := by decide +kernel
theorem dX3_readOne_60 : decode cX3_readOne 60 = .ok (.getfield 47, 3) := by decide +kernel
theorem dX3_readOne_63 : decode cX3_readOne 63 = .ok (.bipush 45, 2) := by decide +kernel
theorem dX3_readOne_65 : decode cX3_readOne 65 = .ok (.if_icmp .eq 19, 3) := by decide +kernel
theorem dX3_readOne_68 : decode cX3_readOne 68 = .ok (.aload_n 0, 1) := by decide +kernel
theorem dX3_readOne_69 : decode cX3_readOne 69 = .ok (.getfield 47, 3) := by decide +kernel
theorem dX3_readOne_72 : decode cX3_readOne 72 = .ok (.bipush 40, 2) := by decide +kernel
theorem dX3_readOne_74 : decode cX3_readOne 74 = .ok (.if_icmp .eq 10, 3) := by decide +kernel
theorem dX3_readOne_77 : decode cX3_readOne 77 = .ok (.aload_n 0, 1) := by decide +kernel
theorem dX3_readOne_78 : decode cX3_readOne 78 = .ok (.invokevirtual 50, 3) := by decide +kernel
theorem dX3_readOne_81 : decode cX3_readOne 81 = .ok (.goto 49, 3) := by decide +kernel
theorem dX3_readOne_84 : decode cX3_readOne 84 = .ok (.aload_n 0, 1) := by decide +kernel
theorem dX3_readOne_85 : decode cX3_readOne 85 = .ok (.getfield 47, 3) := by decide +kernel
theorem dX3_readOne_88 : decode cX3_readOne 88 = .ok (.bipush 45, 2) := by decide +kernel
theorem dX3_readOne_90 : decode cX3_readOne 90 = .ok (.if_icmp .ne 23, 3) := by decide +kernel
theorem dX3_readOne_93 : decode cX3_readOne 93 = .ok (.aload_n 0, 1) := by decide +kernel
theorem dX3_readOne_94 : decode cX3_readOne 94 = .ok (.invokevirtual 34, 3) := by decide +kernel
theorem dX3_readOne_97 : decode cX3_readOne 97 = .ok (.aload_n 0, 1) := by decide +kernel
theorem dX3_readOne_98 : decode cX3_readOne 98 = .ok (.iload_n 1, 1) := by decide +kernel
theorem dX3_readOne_99 : decode cX3_readOne 99 = .ok (.iconst 1, 1) := by decide +kernel
theorem dX3_readOne_100 : decode cX3_readOne 100 = .ok (.iadd, 1) := by decide +kernel
theorem dX3_readOne_101 : decode cX3_readOne 101 = .ok (.invokevirtual 73, 3) := by decide +kernel
theorem dX3_readOne_104 : decode cX3_readOne 104 = .ok (.aload_n 0, 1) := by decide +kernel
theorem dX3_readOne_105 : decode cX3_readOne 105 = .ok (.bipush (-15), 2) := by decide +kernel
theorem dX3_readOne_107 : decode cX3_readOne 107 = .ok (.invokevirtual 58, 3) := by decide +kernel
theorem dX3_readOne_110 : decode cX3_readOne 110 = .ok (.goto 20, 3) := by decide +kernel
theorem dX3_readOne_113 : decode cX3_readOne 113 = .ok (.aload_n 0, 1) := by decide +kernel
theorem dX3_readOne_114 : decode cX3_readOne 114 = .ok (.invokevirtual 34, 3) := by decide +kernel
theorem dX3_readOne_117 : decode cX3_readOne 117 = .ok (.aload_n 0, 1) := by decide +kernel
theorem dX3_readOne_118 : decode cX3_readOne 118 = .ok (.iload_n 1, 1) := by decide +kernel
theorem dX3_readOne_119 : decode cX3_readOne 119 = .ok (.iconst 1, 1) := by decide +kernel
theorem dX3_readOne_120 : decode cX3_readOne 120 = .ok (.iadd, 1) := by decide +kernel
theorem dX3_readOne_121 : decode cX3_readOne 121 = .ok (.invokevirtual 41, 3) := by decide +kernel
theorem dX3_readOne_124 : decode cX3_readOne 124 = .ok (.aload_n 0, 1) := by decide +kernel
theorem dX3_readOne_125 : decode cX3_readOne 125 = .ok (.bipush 41, 2) := by decide +kernel
theorem dX3_readOne_127 : decode cX3_readOne 127 = .ok (.invokevirtual 37, 3) := by decide +kernel
theorem dX3_readOne_130 : decode cX3_readOne 130 = .ok (.return_, 1) := by decide +kernel
theorem dX3_next_0 : decode cX3_next 0 = .ok (.aload_n 0, 1) := by decide +kernel
theorem dX3_next_1 : decode cX3_next 1 = .ok (.getfield 25, 3) := by decide +kernel
theorem dX3_next_4 : decode cX3_next 4 = .ok (.aload_n 0, 1) := by decide +kernel
theorem dX3_next_5 : decode cX3_next 5 = .ok (.getfield 21, 3) := by decide +kernel
theorem dX3_next_8 : decode cX3_next 8 = .ok (.if_icmp .ge 44, 3) := by decide +kernel
theorem dX3_next_11 : decode cX3_next 11 = .ok (.aload_n 0, 1) := by decide +kernel
theorem dX3_next_12 : decode cX3_next 12 = .ok (.getfield 9, 3) := by decide +kernel
theorem dX3_next_15 : decode cX3_next 15 = .ok (.aload_n 0, 1) := by decide +kernel
theorem dX3_next_16 : decode cX3_next 16 = .ok (.getfield 25, 3) := by decide +kernel
theorem dX3_next_19 : decode cX3_next 19 = .ok (.iaload, 1) := by decide +kernel
theorem dX3_next_20 : decode cX3_next 20 = .ok (.bipush 32, 2) := by decide +kernel
theorem dX3_next_22 : decode cX3_next 22 = .ok (.if_icmp .eq 17, 3) := by decide +kernel
theorem dX3_next_25 : decode cX3_next 25 = .ok (.aload_n 0, 1) := by decide +kernel
theorem dX3_next_26 : decode cX3_next 26 = .ok (.getfield 9, 3) := by decide +kernel
theorem dX3_next_29 : decode cX3_next 29 = .ok (.aload_n 0, 1) := by decide +kernel
theorem dX3_next_30 : decode cX3_next 30 = .ok (.getfield 25, 3) := by decide +kernel
theorem dX3_next_33 : decode cX3_next 33 = .ok (.iaload, 1) := by decide +kernel
theorem dX3_next_34 : decode cX3_next 34 = .ok (.bipush 10, 2) := by decide +kernel
theorem dX3_next_36 : decode cX3_next 36 = .ok (.if_icmp .ne 16, 3) := by decide +kernel
theorem dX3_next_39 : decode cX3_next 39 = .ok (.aload_n 0, 1) := by decide +kernel
theorem dX3_next_40 : decode cX3_next 40 = .ok (.dup, 1) := by decide +kernel
theorem dX3_next_41 : decode cX3_next 41 = .ok (.getfield 25, 3) := by decide +kernel
theorem dX3_next_44 : decode cX3_next 44 = .ok (.iconst 1, 1) := by decide +kernel
theorem dX3_next_45 : decode cX3_next 45 = .ok (.iadd, 1) := by decide +kernel
theorem dX3_next_46 : decode cX3_next 46 = .ok (.putfield 25, 3) := by decide +kernel
theorem dX3_next_49 : decode cX3_next 49 = .ok (.goto (-49), 3) := by decide +kernel
theorem dX3_next_52 : decode cX3_next 52 = .ok (.aload_n 0, 1) := by decide +kernel
theorem dX3_next_53 : decode cX3_next 53 = .ok (.aload_n 0, 1) := by decide +kernel
theorem dX3_next_54 : decode cX3_next 54 = .ok (.getfield 25, 3) := by decide +kernel
theorem dX3_next_57 : decode cX3_next 57 = .ok (.putfield 44, 3) := by decide +kernel
theorem dX3_next_60 : decode cX3_next 60 = .ok (.aload_n 0, 1) := by decide +kernel
theorem dX3_next_61 : decode cX3_next 61 = .ok (.getfield 25, 3) := by decide +kernel
theorem dX3_next_64 : decode cX3_next 64 = .ok (.aload_n 0, 1) := by decide +kernel
theorem dX3_next_65 : decode cX3_next 65 = .ok (.getfield 21, 3) := by decide +kernel
theorem dX3_next_68 : decode cX3_next 68 = .ok (.if_icmp .lt 11, 3) := by decide +kernel
theorem dX3_next_71 : decode cX3_next 71 = .ok (.aload_n 0, 1) := by decide +kernel
theorem dX3_next_72 : decode cX3_next 72 = .ok (.iconst 0, 1) := by decide +kernel
theorem dX3_next_73 : decode cX3_next 73 = .ok (.putfield 47, 3) := by decide +kernel
theorem dX3_next_76 : decode cX3_next 76 = .ok (.goto 89, 3) := by decide +kernel
theorem dX3_next_79 : decode cX3_next 79 = .ok (.aload_n 0, 1) := by decide +kernel
theorem dX3_next_80 : decode cX3_next 80 = .ok (.getfield 9, 3) := by decide +kernel
theorem dX3_next_83 : decode cX3_next 83 = .ok (.aload_n 0, 1) := by decide +kernel
theorem dX3_next_84 : decode cX3_next 84 = .ok (.getfield 25, 3) := by decide +kernel
theorem dX3_next_87 : decode cX3_next 87 = .ok (.iaload, 1) := by decide +kernel
theorem dX3_next_88 : decode cX3_next 88 = .ok (.invokestatic 79, 3) := by decide +kernel
theorem dX3_next_91 : decode cX3_next 91 = .ok (.ifCond .eq 10, 3) := by decide +kernel
theorem dX3_next_94 : decode cX3_next 94 = .ok (.aload_n 0, 1) := by decide +kernel
theorem dX3_next_95 : decode cX3_next 95 = .ok (.invokevirtual 83, 3) := by decide +kernel
theorem dX3_next_98 : decode cX3_next 98 = .ok (.goto 67, 3) := by decide +kernel
theorem dX3_next_101 : decode cX3_next 101 = .ok (.aload_n 0, 1) := by decide +kernel
theorem dX3_next_102 : decode cX3_next 102 = .ok (.getfield 9, 3) := by decide +kernel
theorem dX3_next_105 : decode cX3_next 105 = .ok (.aload_n 0, 1) := by decide +kernel
theorem dX3_next_106 : decode cX3_next 106 = .ok (.getfield 25, 3) := by decide +kernel
theorem dX3_next_109 : decode cX3_next 109 = .ok (.iaload, 1) := by decide +kernel
theorem dX3_next_110 : decode cX3_next 110 = .ok (.invokestatic 86, 3) := by decide +kernel
theorem dX3_next_113 : decode cX3_next 113 = .ok (.ifCond .eq 10, 3) := by decide +kernel
theorem dX3_next_116 : decode cX3_next 116 = .ok (.aload_n 0, 1) := by decide +kernel
theorem dX3_next_117 : decode cX3_next 117 = .ok (.invokevirtual 89, 3) := by decide +kernel
theorem dX3_next_120 : decode cX3_next 120 = .ok (.goto 45, 3) := by decide +kernel
theorem dX3_next_123 : decode cX3_next 123 = .ok (.aload_n 0, 1) := by decide +kernel
theorem dX3_next_124 : decode cX3_next 124 = .ok (.aload_n 0, 1) := by decide +kernel
theorem dX3_next_125 : decode cX3_next 125 = .ok (.getfield 9, 3) := by decide +kernel
theorem dX3_next_128 : decode cX3_next 128 = .ok (.aload_n 0, 1) := by decide +kernel
theorem dX3_next_129 : decode cX3_next 129 = .ok (.getfield 25, 3) := by decide +kernel
theorem dX3_next_132 : decode cX3_next 132 = .ok (.iaload, 1) := by decide +kernel
theorem dX3_next_133 : decode cX3_next 133 = .ok (.invokestatic 92, 3) := by decide +kernel
theorem dX3_next_136 : decode cX3_next 136 = .ok (.ifCond .eq 15, 3) := by decide +kernel
theorem dX3_next_139 : decode cX3_next 139 = .ok (.aload_n 0, 1) := by decide +kernel
theorem dX3_next_140 : decode cX3_next 140 = .ok (.getfield 9, 3) := by decide +kernel
theorem dX3_next_143 : decode cX3_next 143 = .ok (.aload_n 0, 1) := by decide +kernel
theorem dX3_next_144 : decode cX3_next 144 = .ok (.getfield 25, 3) := by decide +kernel
theorem dX3_next_147 : decode cX3_next 147 = .ok (.iaload, 1) := by decide +kernel
theorem dX3_next_148 : decode cX3_next 148 = .ok (.goto 4, 3) := by decide +kernel
theorem dX3_next_151 : decode cX3_next 151 = .ok (.iconst 1, 1) := by decide +kernel
theorem dX3_next_152 : decode cX3_next 152 = .ok (.putfield 47, 3) := by decide +kernel
theorem dX3_next_155 : decode cX3_next 155 = .ok (.aload_n 0, 1) := by decide +kernel
theorem dX3_next_156 : decode cX3_next 156 = .ok (.dup, 1) := by decide +kernel
theorem dX3_next_157 : decode cX3_next 157 = .ok (.getfield 25, 3) := by decide +kernel
theorem dX3_next_160 : decode cX3_next 160 = .ok (.iconst 1, 1) := by decide +kernel
theorem dX3_next_161 : decode cX3_next 161 = .ok (.iadd, 1) := by decide +kernel
theorem dX3_next_162 : decode cX3_next 162 = .ok (.putfield 25, 3) := by decide +kernel
theorem dX3_next_165 : decode cX3_next 165 = .ok (.return_, 1) := by decide +kernel
theorem dX3_nextWord_0 : decode cX3_nextWord 0 = .ok (.aload_n 0, 1) := by decide +kernel
theorem dX3_nextWord_1 : decode cX3_nextWord 1 = .ok (.getfield 25, 3) := by decide +kernel
theorem dX3_nextWord_4 : decode cX3_nextWord 4 = .ok (.aload_n 0, 1) := by decide +kernel
theorem dX3_nextWord_5 : decode cX3_nextWord 5 = .ok (.getfield 21, 3) := by decide +kernel
theorem dX3_nextWord_8 : decode cX3_nextWord 8 = .ok (.if_icmp .ge 31, 3) := by decide +kernel
theorem dX3_nextWord_11 : decode cX3_nextWord 11 = .ok (.aload_n 0, 1) := by decide +kernel
theorem dX3_nextWord_12 : decode cX3_nextWord 12 = .ok (.getfield 9, 3) := by decide +kernel
theorem dX3_nextWord_15 : decode cX3_nextWord 15 = .ok (.aload_n 0, 1) := by decide +kernel
theorem dX3_nextWord_16 : decode cX3_nextWord 16 = .ok (.getfield 25, 3) := by decide +kernel
theorem dX3_nextWord_19 : decode cX3_nextWord 19 = .ok (.iaload, 1) := by decide +kernel
theorem dX3_nextWord_20 : decode cX3_nextWord 20 = .ok (.invokestatic 79, 3) := by decide +kernel
theorem dX3_nextWord_23 : decode cX3_nextWord 23 = .ok (.ifCond .eq 16, 3) := by decide +kernel
theorem dX3_nextWord_26 : decode cX3_nextWord 26 = .ok (.aload_n 0, 1) := by decide +kernel
theorem dX3_nextWord_27 : decode cX3_nextWord 27 = .ok (.dup, 1) := by decide +kernel
theorem dX3_nextWord_28 : decode cX3_nextWord 28 = .ok (.getfield 25, 3) := by decide +kernel
theorem dX3_nextWord_31 : decode cX3_nextWord 31 = .ok (.iconst 1, 1) := by decide +kernel
theorem dX3_nextWord_32 : decode cX3_nextWord 32 = .ok (.iadd, 1) := by decide +kernel
theorem dX3_nextWord_33 : decode cX3_nextWord 33 = .ok (.putfield 25, 3) := by decide +kernel
theorem dX3_nextWord_36 : decode cX3_nextWord 36 = .ok (.goto (-36), 3) := by decide +kernel
theorem dX3_nextWord_39 : decode cX3_nextWord 39 = .ok (.aload_n 0, 1) := by decide +kernel
theorem dX3_nextWord_40 : decode cX3_nextWord 40 = .ok (.iconst 1, 1) := by decide +kernel
theorem dX3_nextWord_41 : decode cX3_nextWord 41 = .ok (.putfield 47, 3) := by decide +kernel
theorem dX3_nextWord_44 : decode cX3_nextWord 44 = .ok (.iconst 0, 1) := by decide +kernel
theorem dX3_nextWord_45 : decode cX3_nextWord 45 = .ok (.istore_n 1, 1) := by decide +kernel
theorem dX3_nextWord_46 : decode cX3_nextWord 46 = .ok (.iload_n 1, 1) := by decide +kernel
theorem dX3_nextWord_47 : decode cX3_nextWord 47 = .ok (.bipush 12, 2) := by decide +kernel
theorem dX3_nextWord_49 : decode cX3_nextWord 49 = .ok (.if_icmp .ge 29, 3) := by decide +kernel
theorem dX3_nextWord_52 : decode cX3_nextWord 52 = .ok (.aload_n 0, 1) := by decide +kernel
theorem dX3_nextWord_53 : decode cX3_nextWord 53 = .ok (.iload_n 1, 1) := by decide +kernel
theorem dX3_nextWord_54 : decode cX3_nextWord 54 = .ok (.invokestatic 95, 3) := by decide +kernel
theorem dX3_nextWord_57 : decode cX3_nextWord 57 = .ok (.invokevirtual 99, 3) := by decide +kernel
theorem dX3_nextWord_60 : decode cX3_nextWord 60 = .ok (.ifCond .eq 12, 3) := by decide +kernel
theorem dX3_nextWord_63 : decode cX3_nextWord 63 = .ok (.aload_n 0, 1) := by decide +kernel
theorem dX3_nextWord_64 : decode cX3_nextWord 64 = .ok (.sipush 256, 3) := by decide +kernel
theorem dX3_nextWord_67 : decode cX3_nextWord 67 = .ok (.iload_n 1, 1) := by decide +kernel
theorem dX3_nextWord_68 : decode cX3_nextWord 68 = .ok (.iadd, 1) := by decide +kernel
theorem dX3_nextWord_69 : decode cX3_nextWord 69 = .ok (.putfield 47, 3) := by decide +kernel
theorem dX3_nextWord_72 : decode cX3_nextWord 72 = .ok (.iinc 1 1, 3) := by decide +kernel
theorem dX3_nextWord_75 : decode cX3_nextWord 75 = .ok (.goto (-29), 3) := by decide +kernel
theorem dX3_nextWord_78 : decode cX3_nextWord 78 = .ok (.return_, 1) := by decide +kernel
theorem dX3_nextNumber_0 : decode cX3_nextNumber 0 = .ok (.aload_n 0, 1) := by decide +kernel
theorem dX3_nextNumber_1 : decode cX3_nextNumber 1 = .ok (.iconst 0, 1) := by decide +kernel
theorem dX3_nextNumber_2 : decode cX3_nextNumber 2 = .ok (.putfield 76, 3) := by decide +kernel
theorem dX3_nextNumber_5 : decode cX3_nextNumber 5 = .ok (.aload_n 0, 1) := by decide +kernel
theorem dX3_nextNumber_6 : decode cX3_nextNumber 6 = .ok (.getfield 25, 3) := by decide +kernel
theorem dX3_nextNumber_9 : decode cX3_nextNumber 9 = .ok (.aload_n 0, 1) := by decide +kernel
theorem dX3_nextNumber_10 : decode cX3_nextNumber 10 = .ok (.getfield 21, 3) := by decide +kernel
theorem dX3_nextNumber_13 : decode cX3_nextNumber 13 = .ok (.if_icmp .ge 55, 3) := by decide +kernel
theorem dX3_nextNumber_16 : decode cX3_nextNumber 16 = .ok (.aload_n 0, 1) := by decide +kernel
theorem dX3_nextNumber_17 : decode cX3_nextNumber 17 = .ok (.getfield 9, 3) := by decide +kernel
theorem dX3_nextNumber_20 : decode cX3_nextNumber 20 = .ok (.aload_n 0, 1) := by decide +kernel
theorem dX3_nextNumber_21 : decode cX3_nextNumber 21 = .ok (.getfield 25, 3) := by decide +kernel
theorem dX3_nextNumber_24 : decode cX3_nextNumber 24 = .ok (.iaload, 1) := by decide +kernel
theorem dX3_nextNumber_25 : decode cX3_nextNumber 25 = .ok (.invokestatic 86, 3) := by decide +kernel
theorem dX3_nextNumber_28 : decode cX3_nextNumber 28 = .ok (.ifCond .eq 40, 3) := by decide +kernel
theorem dX3_nextNumber_31 : decode cX3_nextNumber 31 = .ok (.aload_n 0, 1) := by decide +kernel
theorem dX3_nextNumber_32 : decode cX3_nextNumber 32 = .ok (.aload_n 0, 1) := by decide +kernel
theorem dX3_nextNumber_33 : decode cX3_nextNumber 33 = .ok (.getfield 76, 3) := by decide +kernel
theorem dX3_nextNumber_36 : decode cX3_nextNumber 36 = .ok (.bipush 10, 2) := by decide +kernel
theorem dX3_nextNumber_38 : decode cX3_nextNumber 38 = .ok (.imul, 1) := by decide +kernel
theorem dX3_nextNumber_39 : decode cX3_nextNumber 39 = .ok (.aload_n 0, 1) := by decide +kernel
theorem dX3_nextNumber_40 : decode cX3_nextNumber 40 = .ok (.getfield 9, 3) := by decide +kernel
theorem dX3_nextNumber_43 : decode cX3_nextNumber 43 = .ok (.aload_n 0, 1) := by decide +kernel
theorem dX3_nextNumber_44 : decode cX3_nextNumber 44 = .ok (.getfield 25, 3) := by decide +kernel
theorem dX3_nextNumber_47 : decode cX3_nextNumber 47 = .ok (.iaload, 1) := by decide +kernel
theorem dX3_nextNumber_48 : decode cX3_nextNumber 48 = .ok (.bipush 48, 2) := by decide +kernel
theorem dX3_nextNumber_50 : decode cX3_nextNumber 50 = .ok (.isub, 1) := by decide +kernel
theorem dX3_nextNumber_51 : decode cX3_nextNumber 51 = .ok (.iadd, 1) := by decide +kernel
theorem dX3_nextNumber_52 : decode cX3_nextNumber 52 = .ok (.putfield 76, 3) := by decide +kernel
theorem dX3_nextNumber_55 : decode cX3_nextNumber 55 = .ok (.aload_n 0, 1) := by decide +kernel
theorem dX3_nextNumber_56 : decode cX3_nextNumber 56 = .ok (.dup, 1) := by decide +kernel
theorem dX3_nextNumber_57 : decode cX3_nextNumber 57 = .ok (.getfield 25, 3) := by decide +kernel
theorem dX3_nextNumber_60 : decode cX3_nextNumber 60 = .ok (.iconst 1, 1) := by decide +kernel
theorem dX3_nextNumber_61 : decode cX3_nextNumber 61 = .ok (.iadd, 1) := by decide +kernel
theorem dX3_nextNumber_62 : decode cX3_nextNumber 62 = .ok (.putfield 25, 3) := by decide +kernel
theorem dX3_nextNumber_65 : decode cX3_nextNumber 65 = .ok (.goto (-60), 3) := by decide +kernel
theorem dX3_nextNumber_68 : decode cX3_nextNumber 68 = .ok (.aload_n 0, 1) := by decide +kernel
theorem dX3_nextNumber_69 : decode cX3_nextNumber 69 = .ok (.aload_n 0, 1) := by decide +kernel
theorem dX3_nextNumber_70 : decode cX3_nextNumber 70 = .ok (.getfield 25, 3) := by decide +kernel
theorem dX3_nextNumber_73 : decode cX3_nextNumber 73 = .ok (.aload_n 0, 1) := by decide +kernel
theorem dX3_nextNumber_74 : decode cX3_nextNumber 74 = .ok (.getfield 44, 3) := by decide +kernel
theorem dX3_nextNumber_77 : decode cX3_nextNumber 77 = .ok (.isub, 1) := by decide +kernel
theorem dX3_nextNumber_78 : decode cX3_nextNumber 78 = .ok (.iconst 4, 1) := by decide +kernel
theorem dX3_nextNumber_79 : decode cX3_nextNumber 79 = .ok (.if_icmp .le 7, 3) := by decide +kernel
theorem dX3_nextNumber_82 : decode cX3_nextNumber 82 = .ok (.iconst 1, 1) := by decide +kernel
theorem dX3_nextNumber_83 : decode cX3_nextNumber 83 = .ok (.goto 4, 3) := by decide +kernel
theorem dX3_nextNumber_86 : decode cX3_nextNumber 86 = .ok (.iconst 2, 1) := by decide +kernel
theorem dX3_nextNumber_87 : decode cX3_nextNumber 87 = .ok (.putfield 47, 3) := by decide +kernel
theorem dX3_nextNumber_90 : decode cX3_nextNumber 90 = .ok (.return_, 1) := by decide +kernel
theorem dX3_stands_0 : decode cX3_stands 0 = .ok (.aload_n 1, 1) := by decide +kernel
theorem dX3_stands_1 : decode cX3_stands 1 = .ok (.invokevirtual 103, 3) := by decide +kernel
theorem dX3_stands_4 : decode cX3_stands 4 = .ok (.aload_n 0, 1) := by decide +kernel
theorem dX3_stands_5 : decode cX3_stands 5 = .ok (.getfield 25, 3) := by decide +kernel
theorem dX3_stands_8 : decode cX3_stands 8 = .ok (.aload_n 0, 1) := by decide +kernel
theorem dX3_stands_9 : decode cX3_stands 9 = .ok (.getfield 44, 3) := by decide +kernel
theorem dX3_stands_12 : decode cX3_stands 12 = .ok (.isub, 1) := by decide +kernel
theorem dX3_stands_13 : decode cX3_stands 13 = .ok (.if_icmp .eq 5, 3) := by decide +kernel
theorem dX3_stands_16 : decode cX3_stands 16 = .ok (.iconst 0, 1) := by decide +kernel
theorem dX3_stands_17 : decode cX3_stands 17 = .ok (.ireturn, 1) := by decide +kernel
theorem dX3_stands_18 : decode cX3_stands 18 = .ok (.iconst 0, 1) := by decide +kernel
theorem dX3_stands_19 : decode cX3_stands 19 = .ok (.istore_n 2, 1) := by decide +kernel
theorem dX3_stands_20 : decode cX3_stands 20 = .ok (.iload_n 2, 1) := by decide +kernel
theorem dX3_stands_21 : decode cX3_stands 21 = .ok (.aload_n 1, 1) := by decide +kernel
theorem dX3_stands_22 : decode cX3_stands 22 = .ok (.invokevirtual 103, 3) := by decide +kernel
theorem dX3_stands_25 : decode cX3_stands 25 = .ok (.if_icmp .ge 30, 3) := by decide +kernel
theorem dX3_stands_28 : decode cX3_stands 28 = .ok (.aload_n 0, 1) := by decide +kernel
theorem dX3_stands_29 : decode cX3_stands 29 = .ok (.getfield 9, 3) := by decide +kernel
theorem dX3_stands_32 : decode cX3_stands 32 = .ok (.aload_n 0, 1) := by decide +kernel
theorem dX3_stands_33 : decode cX3_stands 33 = .ok (.getfield 44, 3) := by decide +kernel
theorem dX3_stands_36 : decode cX3_stands 36 = .ok (.iload_n 2, 1) := by decide +kernel
theorem dX3_stands_37 : decode cX3_stands 37 = .ok (.iadd, 1) := by decide +kernel
theorem dX3_stands_38 : decode cX3_stands 38 = .ok (.iaload, 1) := by decide +kernel
theorem dX3_stands_39 : decode cX3_stands 39 = .ok (.aload_n 1, 1) := by decide +kernel
theorem dX3_stands_40 : decode cX3_stands 40 = .ok (.iload_n 2, 1) := by decide +kernel
theorem dX3_stands_41 : decode cX3_stands 41 = .ok (.invokevirtual 109, 3) := by decide +kernel
theorem dX3_stands_44 : decode cX3_stands 44 = .ok (.if_icmp .eq 5, 3) := by decide +kernel
theorem dX3_stands_47 : decode cX3_stands 47 = .ok (.iconst 0, 1) := by decide +kernel
theorem dX3_stands_48 : decode cX3_stands 48 = .ok (.ireturn, 1) := by decide +kernel
theorem dX3_stands_49 : decode cX3_stands 49 = .ok (.iinc 2 1, 3) := by decide +kernel
theorem dX3_stands_52 : decode cX3_stands 52 = .ok (.goto (-32), 3) := by decide +kernel
theorem dX3_stands_55 : decode cX3_stands 55 = .ok (.iconst 1, 1) := by decide +kernel
theorem dX3_stands_56 : decode cX3_stands 56 = .ok (.ireturn, 1) := by decide +kernel
theorem dX3_word_0 : decode cX3_word 0 = .ok (.iload_n 0, 1) := by decide +kernel
theorem dX3_word_1 : decode cX3_word 1 = .ok (.tableswitch 92 0 10 #[59, 62, 65, 68, 71, 74, 77, 80, 83, 86, 89], 59) := by decide +kernel
theorem dX3_word_60 : decode cX3_word 60 = .ok (.ldc 113, 2) := by decide +kernel
theorem dX3_word_62 : decode cX3_word 62 = .ok (.areturn, 1) := by decide +kernel
theorem dX3_word_63 : decode cX3_word 63 = .ok (.ldc 115, 2) := by decide +kernel
theorem dX3_word_65 : decode cX3_word 65 = .ok (.areturn, 1) := by decide +kernel
theorem dX3_word_66 : decode cX3_word 66 = .ok (.ldc 117, 2) := by decide +kernel
theorem dX3_word_68 : decode cX3_word 68 = .ok (.areturn, 1) := by decide +kernel
theorem dX3_word_69 : decode cX3_word 69 = .ok (.ldc 119, 2) := by decide +kernel
theorem dX3_word_71 : decode cX3_word 71 = .ok (.areturn, 1) := by decide +kernel
theorem dX3_word_72 : decode cX3_word 72 = .ok (.ldc 121, 2) := by decide +kernel
theorem dX3_word_74 : decode cX3_word 74 = .ok (.areturn, 1) := by decide +kernel
theorem dX3_word_75 : decode cX3_word 75 = .ok (.ldc 123, 2) := by decide +kernel
theorem dX3_word_77 : decode cX3_word 77 = .ok (.areturn, 1) := by decide +kernel
theorem dX3_word_78 : decode cX3_word 78 = .ok (.ldc 125, 2) := by decide +kernel
theorem dX3_word_80 : decode cX3_word 80 = .ok (.areturn, 1) := by decide +kernel
theorem dX3_word_81 : decode cX3_word 81 = .ok (.ldc 127, 2) := by decide +kernel
theorem dX3_word_83 : decode cX3_word 83 = .ok (.areturn, 1) := by decide +kernel
theorem dX3_word_84 : decode cX3_word 84 = .ok (.ldc 129, 2) := by decide +kernel
theorem dX3_word_86 : decode cX3_word 86 = .ok (.areturn, 1) := by decide +kernel
theorem dX3_word_87 : decode cX3_word 87 = .ok (.ldc 131, 2) := by decide +kernel
theorem dX3_word_89 : decode cX3_word 89 = .ok (.areturn, 1) := by decide +kernel
theorem dX3_word_90 : decode cX3_word 90 = .ok (.ldc 133, 2) := by decide +kernel
theorem dX3_word_92 : decode cX3_word 92 = .ok (.areturn, 1) := by decide +kernel
theorem dX3_word_93 : decode cX3_word 93 = .ok (.ldc 135, 2) := by decide +kernel
theorem dX3_word_95 : decode cX3_word 95 = .ok (.areturn, 1) := by decide +kernel
theorem dX3_isLetter_0 : decode cX3_isLetter 0 = .ok (.iload_n 0, 1) := by decide +kernel
theorem dX3_isLetter_1 : decode cX3_isLetter 1 = .ok (.bipush 97, 2) := by decide +kernel
theorem dX3_isLetter_3 : decode cX3_isLetter 3 = .ok (.if_icmp .lt 13, 3) := by decide +kernel
theorem dX3_isLetter_6 : decode cX3_isLetter 6 = .ok (.iload_n 0, 1) := by decide +kernel
theorem dX3_isLetter_7 : decode cX3_isLetter 7 = .ok (.bipush 122, 2) := by decide +kernel
theorem dX3_isLetter_9 : decode cX3_isLetter 9 = .ok (.if_icmp .gt 7, 3) := by decide +kernel
theorem dX3_isLetter_12 : decode cX3_isLetter 12 = .ok (.iconst 1, 1) := by decide +kernel
theorem dX3_isLetter_13 : decode cX3_isLetter 13 = .ok (.goto 4, 3) := by decide +kernel
theorem dX3_isLetter_16 : decode cX3_isLetter 16 = .ok (.iconst 0, 1) := by decide +kernel
theorem dX3_isLetter_17 : decode cX3_isLetter 17 = .ok (.ireturn, 1) := by decide +kernel
theorem dX3_isDigit_0 : decode cX3_isDigit 0 = .ok (.iload_n 0, 1) := by decide +kernel
theorem dX3_isDigit_1 : decode cX3_isDigit 1 = .ok (.bipush 48, 2) := by decide +kernel
theorem dX3_isDigit_3 : decode cX3_isDigit 3 = .ok (.if_icmp .lt 13, 3) := by decide +kernel
theorem dX3_isDigit_6 : decode cX3_isDigit 6 = .ok (.iload_n 0, 1) := by decide +kernel
theorem dX3_isDigit_7 : decode cX3_isDigit 7 = .ok (.bipush 57, 2) := by decide +kernel
theorem dX3_isDigit_9 : decode cX3_isDigit 9 = .ok (.if_icmp .gt 7, 3) := by decide +kernel
theorem dX3_isDigit_12 : decode cX3_isDigit 12 = .ok (.iconst 1, 1) := by decide +kernel
theorem dX3_isDigit_13 : decode cX3_isDigit 13 = .ok (.goto 4, 3) := by decide +kernel
theorem dX3_isDigit_16 : decode cX3_isDigit 16 = .ok (.iconst 0, 1) := by decide +kernel
theorem dX3_isDigit_17 : decode cX3_isDigit 17 = .ok (.ireturn, 1) := by decide +kernel
theorem dX3_isSign_0 : decode cX3_isSign 0 = .ok (.iload_n 0, 1) := by decide +kernel
theorem dX3_isSign_1 : decode cX3_isSign 1 = .ok (.bipush 40, 2) := by decide +kernel
theorem dX3_isSign_3 : decode cX3_isSign 3 = .ok (.if_icmp .eq 45, 3) := by decide +kernel
theorem dX3_isSign_6 : decode cX3_isSign 6 = .ok (.iload_n 0, 1) := by decide +kernel
theorem dX3_isSign_7 : decode cX3_isSign 7 = .ok (.bipush 41, 2) := by decide +kernel
theorem dX3_isSign_9 : decode cX3_isSign 9 = .ok (.if_icmp .eq 39, 3) := by decide +kernel
theorem dX3_isSign_12 : decode cX3_isSign 12 = .ok (.iload_n 0, 1) := by decide +kernel
theorem dX3_isSign_13 : decode cX3_isSign 13 = .ok (.bipush 59, 2) := by decide +kernel
theorem dX3_isSign_15 : decode cX3_isSign 15 = .ok (.if_icmp .eq 33, 3) := by decide +kernel
theorem dX3_isSign_18 : decode cX3_isSign 18 = .ok (.iload_n 0, 1) := by decide +kernel
theorem dX3_isSign_19 : decode cX3_isSign 19 = .ok (.bipush 43, 2) := by decide +kernel
theorem dX3_isSign_21 : decode cX3_isSign 21 = .ok (.if_icmp .eq 27, 3) := by decide +kernel
theorem dX3_isSign_24 : decode cX3_isSign 24 = .ok (.iload_n 0, 1) := by decide +kernel
theorem dX3_isSign_25 : decode cX3_isSign 25 = .ok (.bipush 45, 2) := by decide +kernel
theorem dX3_isSign_27 : decode cX3_isSign 27 = .ok (.if_icmp .eq 21, 3) := by decide +kernel
theorem dX3_isSign_30 : decode cX3_isSign 30 = .ok (.iload_n 0, 1) := by decide +kernel
theorem dX3_isSign_31 : decode cX3_isSign 31 = .ok (.bipush 42, 2) := by decide +kernel
theorem dX3_isSign_33 : decode cX3_isSign 33 = .ok (.if_icmp .eq 15, 3) := by decide +kernel
theorem dX3_isSign_36 : decode cX3_isSign 36 = .ok (.iload_n 0, 1) := by decide +kernel
theorem dX3_isSign_37 : decode cX3_isSign 37 = .ok (.bipush 60, 2) := by decide +kernel
theorem dX3_isSign_39 : decode cX3_isSign 39 = .ok (.if_icmp .eq 9, 3) := by decide +kernel
theorem dX3_isSign_42 : decode cX3_isSign 42 = .ok (.iload_n 0, 1) := by decide +kernel
theorem dX3_isSign_43 : decode cX3_isSign 43 = .ok (.bipush 61, 2) := by decide +kernel
theorem dX3_isSign_45 : decode cX3_isSign 45 = .ok (.if_icmp .ne 7, 3) := by decide +kernel
theorem dX3_isSign_48 : decode cX3_isSign 48 = .ok (.iconst 1, 1) := by decide +kernel
theorem dX3_isSign_49 : decode cX3_isSign 49 = .ok (.goto 4, 3) := by decide +kernel
theorem dX3_isSign_52 : decode cX3_isSign 52 = .ok (.iconst 0, 1) := by decide +kernel
theorem dX3_isSign_53 : decode cX3_isSign 53 = .ok (.ireturn, 1) := by decide +kernel
theorem dX4_init_0 : decode cX4_init 0 = .ok (.aload_n 0, 1) := by decide +kernel
theorem dX4_init_1 : decode cX4_init 1 = .ok (.invokespecial 3, 3) := by decide +kernel
theorem dX4_init_4 : decode cX4_init 4 = .ok (.aload_n 0, 1) := by decide +kernel
theorem dX4_init_5 : decode cX4_init 5 = .ok (.bipush 6, 2) := by decide +kernel
theorem dX4_init_7 : decode cX4_init 7 = .ok (.newarray .int, 2) := by decide +kernel
theorem dX4_init_9 : decode cX4_init 9 = .ok (.putfield 11, 3) := by decide +kernel
theorem dX4_init_12 : decode cX4_init 12 = .ok (.aload_n 0, 1) := by decide +kernel
theorem dX4_init_13 : decode cX4_init 13 = .ok (.sipush 272, 3) := by decide +kernel
theorem dX4_init_16 : decode cX4_init 16 = .ok (.newarray .int, 2) := by decide +kernel
theorem dX4_init_18 : decode cX4_init 18 = .ok (.putfield 17, 3) := by decide +kernel
theorem dX4_init_21 : decode cX4_init 21 = .ok (.aload_n 0, 1) := by decide +kernel
theorem dX4_init_22 : decode cX4_init 22 = .ok (.sipush 272, 3) := by decide +kernel
theorem dX4_init_25 : decode cX4_init 25 = .ok (.newarray .int, 2) := by decide +kernel
theorem dX4_init_27 : decode cX4_init 27 = .ok (.putfield 20, 3) := by decide +kernel
theorem dX4_init_30 : decode cX4_init 30 = .ok (.aload_n 0, 1) := by decide +kernel
theorem dX4_init_31 : decode cX4_init 31 = .ok (.bipush 16, 2) := by decide +kernel
theorem dX4_init_33 : decode cX4_init 33 = .ok (.newarray .int, 2) := by decide +kernel
theorem dX4_init_35 : decode cX4_init 35 = .ok (.putfield 23, 3) := by decide +kernel
theorem dX4_init_38 : decode cX4_init 38 = .ok (.aload_n 0, 1) := by decide +kernel
theorem dX4_init_39 : decode cX4_init 39 = .ok (.aload_n 1, 1) := by decide +kernel
theorem dX4_init_40 : decode cX4_init 40 = .ok (.putfield 26, 3) := by decide +kernel
theorem dX4_init_43 : decode cX4_init 43 = .ok (.aload_n 0, 1) := by decide +kernel
theorem dX4_init_44 : decode cX4_init 44 = .ok (.new 30, 3) := by decide +kernel
theorem dX4_init_47 : decode cX4_init 47 = .ok (.dup, 1) := by decide +kernel
theorem dX4_init_48 : decode cX4_init 48 = .ok (.invokespecial 32, 3) := by decide +kernel
theorem dX4_init_51 : decode cX4_init 51 = .ok (.putfield 33, 3) := by decide +kernel
theorem dX4_init_54 : decode cX4_init 54 = .ok (.aload_n 0, 1) := by decide +kernel
theorem dX4_init_55 : decode cX4_init 55 = .ok (.invokevirtual 37, 3) := by decide +kernel
theorem dX4_init_58 : decode cX4_init 58 = .ok (.return_, 1) := by decide +kernel
theorem dX4_forget_0 : decode cX4_forget 0 = .ok (.aload_n 0, 1) := by decide +kernel
theorem dX4_forget_1 : decode cX4_forget 1 = .ok (.getfield 17, 3) := by decide +kernel
theorem dX4_forget_4 : decode cX4_forget 4 = .ok (.iconst (-1), 1) := by decide +kernel
theorem dX4_forget_5 : decode cX4_forget 5 = .ok (.invokestatic 40, 3) := by decide +kernel
theorem dX4_forget_8 : decode cX4_forget 8 = .ok (.aload_n 0, 1) := by decide +kernel
theorem dX4_forget_9 : decode cX4_forget 9 = .ok (.getfield 20, 3) := by decide +kernel
theorem dX4_forget_12 : decode cX4_forget 12 = .ok (.iconst (-1), 1) := by decide +kernel
theorem dX4_forget_13 : decode cX4_forget 13 = .ok (.invokestatic 40, 3) := by decide +kernel
theorem dX4_forget_16 : decode cX4_forget 16 = .ok (.aload_n 0, 1) := by decide +kernel
theorem dX4_forget_17 : decode cX4_forget 17 = .ok (.getfield 23, 3) := by decide +kernel
theorem dX4_forget_20 : decode cX4_forget 20 = .ok (.iconst (-1), 1) := by decide +kernel
theorem dX4_forget_21 : decode cX4_forget 21 = .ok (.invokestatic 40, 3) := by decide +kernel
theorem dX4_forget_24 : decode cX4_forget 24 = .ok (.return_, 1) := by decide +kernel
theorem dX4_become_0 : decode cX4_become 0 = .ok (.aload_n 0, 1) := by decide +kernel
theorem dX4_become_1 : decode cX4_become 1 = .ok (.getfield 33, 3) := by decide +kernel
theorem dX4_become_4 : decode cX4_become 4 = .ok (.getfield 46, 3) := by decide +kernel
theorem dX4_become_7 : decode cX4_become 7 = .ok (.iload_n 1, 1) := by decide +kernel
theorem dX4_become_8 : decode cX4_become 8 = .ok (.iload_n 2, 1) := by decide +kernel
theorem dX4_become_9 : decode cX4_become 9 = .ok (.iastore, 1) := by decide +kernel
theorem dX4_become_10 : decode cX4_become 10 = .ok (.aload_n 0, 1) := by decide +kernel
theorem dX4_become_11 : decode cX4_become 11 = .ok (.getfield 33, 3) := by decide +kernel
theorem dX4_become_14 : decode cX4_become 14 = .ok (.getfield 49, 3) := by decide +kernel
theorem dX4_become_17 : decode cX4_become 17 = .ok (.iload_n 1, 1) := by decide +kernel
theorem dX4_become_18 : decode cX4_become 18 = .ok (.iload_n 3, 1) := by decide +kernel
theorem dX4_become_19 : decode cX4_become 19 = .ok (.iastore, 1) := by decide +kernel
theorem dX4_become_20 : decode cX4_become 20 = .ok (.aload_n 0, 1) := by decide +kernel
theorem dX4_become_21 : decode cX4_become 21 = .ok (.invokevirtual 37, 3) := by decide +kernel
theorem dX4_become_24 : decode cX4_become 24 = .ok (.return_, 1) := by decide +kernel
theorem dX4_obey_0 : decode cX4_obey 0 = .ok (.aload_n 0, 1) := by decide +kernel
theorem dX4_obey_1 : decode cX4_obey 1 = .ok (.getfield 33, 3) := by decide +kernel
theorem dX4_obey_4 : decode cX4_obey 4 = .ok (.iload_n 1, 1) := by decide +kernel
theorem dX4_obey_5 : decode cX4_obey 5 = .ok (.putfield 52, 3) := by decide +kernel
theorem dX4_obey_8 : decode cX4_obey 8 = .ok (.aload_n 0, 1) := by decide +kernel
theorem dX4_obey_9 : decode cX4_obey 9 = .ok (.invokevirtual 37, 3) := by decide +kernel
theorem dX4_obey_12 : decode cX4_obey 12 = .ok (.return_, 1) := by decide +kernel
theorem dX4_says_0 : decode cX4_says 0 = .ok (.aload_n 0, 1) := by decide +kernel
theorem dX4_says_1 : decode cX4_says 1 = .ok (.getfield 11, 3) := by decide +kernel
theorem dX4_says_4 : decode cX4_says 4 = .ok (.iconst 0, 1) := by decide +kernel
theorem dX4_says_5 : decode cX4_says 5 = .ok (.iload_n 2, 1) := by decide +kernel
theorem dX4_says_6 : decode cX4_says 6 = .ok (.iastore, 1) := by decide +kernel
theorem dX4_says_7 : decode cX4_says 7 = .ok (.aload_n 0, 1) := by decide +kernel
theorem dX4_says_8 : decode cX4_says 8 = .ok (.getfield 11, 3) := by decide +kernel
theorem dX4_says_11 : decode cX4_says 11 = .ok (.iconst 1, 1) := by decide +kernel
theorem dX4_says_12 : decode cX4_says 12 = .ok (.aload_n 0, 1) := by decide +kernel
theorem dX4_says_13 : decode cX4_says 13 = .ok (.getfield 33, 3) := by decide +kernel
theorem dX4_says_16 : decode cX4_says 16 = .ok (.getfield 49, 3) := by decide +kernel
theorem dX4_says_19 : decode cX4_says 19 = .ok (.iload_n 2, 1) := by decide +kernel
theorem dX4_says_20 : decode cX4_says 20 = .ok (.iaload, 1) := by decide +kernel
theorem dX4_says_21 : decode cX4_says 21 = .ok (.iastore, 1) := by decide +kernel
theorem dX4_says_22 : decode cX4_says 22 = .ok (.aload_n 0, 1) := by decide +kernel
theorem dX4_says_23 : decode cX4_says 23 = .ok (.getfield 11, 3) := by decide +kernel
theorem dX4_says_26 : decode cX4_says 26 = .ok (.iconst 2, 1) := by decide +kernel
theorem dX4_says_27 : decode cX4_says 27 = .ok (.iload_n 3, 1) := by decide +kernel
theorem dX4_says_28 : decode cX4_says 28 = .ok (.iastore, 1) := by decide +kernel
theorem dX4_says_29 : decode cX4_says 29 = .ok (.aload_n 0, 1) := by decide +kernel
theorem dX4_says_30 : decode cX4_says 30 = .ok (.getfield 11, 3) := by decide +kernel
theorem dX4_says_33 : decode cX4_says 33 = .ok (.iconst 3, 1) := by decide +kernel
theorem dX4_says_34 : decode cX4_says 34 = .ok (.aload_n 0, 1) := by decide +kernel
theorem dX4_says_35 : decode cX4_says 35 = .ok (.getfield 33, 3) := by decide +kernel
theorem dX4_says_38 : decode cX4_says 38 = .ok (.getfield 56, 3) := by decide +kernel
theorem dX4_says_41 : decode cX4_says 41 = .ok (.invokestatic 59, 3) := by decide +kernel
theorem dX4_says_44 : decode cX4_says 44 = .ok (.iastore, 1) := by decide +kernel
theorem dX4_says_45 : decode cX4_says 45 = .ok (.aload_n 0, 1) := by decide +kernel
theorem dX4_says_46 : decode cX4_says 46 = .ok (.getfield 11, 3) := by decide +kernel
theorem dX4_says_49 : decode cX4_says 49 = .ok (.iconst 4, 1) := by decide +kernel
theorem dX4_says_50 : decode cX4_says 50 = .ok (.aload_n 0, 1) := by decide +kernel
theorem dX4_says_51 : decode cX4_says 51 = .ok (.getfield 33, 3) := by decide +kernel
theorem dX4_says_54 : decode cX4_says 54 = .ok (.getfield 65, 3) := by decide +kernel
theorem dX4_says_57 : decode cX4_says 57 = .ok (.iastore, 1) := by decide +kernel
theorem dX4_says_58 : decode cX4_says 58 = .ok (.aload_n 0, 1) := by decide +kernel
theorem dX4_says_59 : decode cX4_says 59 = .ok (.getfield 11, 3) := by decide +kernel
theorem dX4_says_62 : decode cX4_says 62 = .ok (.iconst 5, 1) := by decide +kernel
theorem dX4_says_63 : decode cX4_says 63 = .ok (.aload_n 0, 1) := by decide +kernel
theorem dX4_says_64 : decode cX4_says 64 = .ok (.getfield 33, 3) := by decide +kernel
theorem dX4_says_67 : decode cX4_says 67 = .ok (.getfield 68, 3) := by decide +kernel
theorem dX4_says_70 : decode cX4_says 70 = .ok (.iastore, 1) := by decide +kernel
theorem dX4_says_71 : decode cX4_says 71 = .ok (.aload_n 0, 1) := by decide +kernel
theorem dX4_says_72 : decode cX4_says 72 = .ok (.getfield 26, 3) := by decide +kernel
theorem dX4_says_75 : decode cX4_says 75 = .ok (.aload_n 0, 1) := by decide +kernel
theorem dX4_says_76 : decode cX4_says 76 = .ok (.getfield 33, 3) := by decide +kernel
theorem dX4_says_79 : decode cX4_says 79 = .ok (.getfield 52, 3) := by decide +kernel
theorem dX4_says_82 : decode cX4_says 82 = .ok (.iload_n 1, 1) := by decide +kernel
theorem dX4_says_83 : decode cX4_says 83 = .ok (.aload_n 0, 1) := by decide +kernel
theorem dX4_says_84 : decode cX4_says 84 = .ok (.getfield 11, 3) := by decide +kernel
theorem dX4_says_87 : decode cX4_says 87 = .ok (.invokevirtual 71, 3) := by decide +kernel
theorem dX4_says_90 : decode cX4_says 90 = .ok (.iload_n 1, 1) := by decide +kernel
theorem dX4_says_91 : decode cX4_says 91 = .ok (.ifCond .ne 7, 3) := by decide +kernel
theorem dX4_says_94 : decode cX4_says 94 = .ok (.iconst 0, 1) := by decide +kernel
theorem dX4_says_95 : decode cX4_says 95 = .ok (.goto 4, 3) := by decide +kernel
theorem dX4_says_98 : decode cX4_says 98 = .ok (.iconst 1, 1) := by decide +kernel
theorem dX4_says_99 : decode cX4_says 99 = .ok (.invokestatic 75, 3) := by decide +kernel
theorem dX4_says_102 : decode cX4_says 102 = .ok (.ireturn, 1) := by decide +kernel
theorem dX4_bounded_0 : decode cX4_bounded 0 = .ok (.iload_n 0, 1) := by decide +kernel
theorem dX4_bounded_1 : decode cX4_bounded 1 = .ok (.iload_n 1, 1) := by decide +kernel
theorem dX4_bounded_2 : decode cX4_bounded 2 = .ok (.if_icmp .ge 7, 3) := by decide +kernel
theorem dX4_bounded_5 : decode cX4_bounded 5 = .ok (.iload_n 1, 1) := by decide +kernel
theorem dX4_bounded_6 : decode cX4_bounded 6 = .ok (.goto 15, 3) := by decide +kernel
theorem dX4_bounded_9 : decode cX4_bounded 9 = .ok (.iload_n 0, 1) := by decide +kernel
theorem dX4_bounded_10 : decode cX4_bounded 10 = .ok (.bipush 99, 2) := by decide +kernel
theorem dX4_bounded_12 : decode cX4_bounded 12 = .ok (.if_icmp .le 8, 3) := by decide +kernel
theorem dX4_bounded_15 : decode cX4_bounded 15 = .ok (.bipush 99, 2) := by decide +kernel
theorem dX4_bounded_17 : decode cX4_bounded 17 = .ok (.goto 4, 3) := by decide +kernel
theorem dX4_bounded_20 : decode cX4_bounded 20 = .ok (.iload_n 0, 1) := by decide +kernel
theorem dX4_bounded_21 : decode cX4_bounded 21 = .ok (.ireturn, 1) := by decide +kernel
theorem dX4_falls_0 : decode cX4_falls 0 = .ok (.iload_n 1, 1) := by decide +kernel
theorem dX4_falls_1 : decode cX4_falls 1 = .ok (.bipush 17, 2) := by decide +kernel
theorem dX4_falls_3 : decode cX4_falls 3 = .ok (.imul, 1) := by decide +kernel
theorem dX4_falls_4 : decode cX4_falls 4 = .ok (.iload_n 2, 1) := by decide +kernel
theorem dX4_falls_5 : decode cX4_falls 5 = .ok (.iadd, 1) := by decide +kernel
theorem dX4_falls_6 : decode cX4_falls 6 = .ok (.istore_n 3, 1) := by decide +kernel
theorem dX4_falls_7 : decode cX4_falls 7 = .ok (.aload_n 0, 1) := by decide +kernel
theorem dX4_falls_8 : decode cX4_falls 8 = .ok (.getfield 17, 3) := by decide +kernel
theorem dX4_falls_11 : decode cX4_falls 11 = .ok (.iload_n 3, 1) := by decide +kernel
theorem dX4_falls_12 : decode cX4_falls 12 = .ok (.iaload, 1) := by decide +kernel
theorem dX4_falls_13 : decode cX4_falls 13 = .ok (.ifCond .ge 26, 3) := by decide +kernel
theorem dX4_falls_16 : decode cX4_falls 16 = .ok (.aload_n 0, 1) := by decide +kernel
theorem dX4_falls_17 : decode cX4_falls 17 = .ok (.getfield 17, 3) := by decide +kernel
theorem dX4_falls_20 : decode cX4_falls 20 = .ok (.iload_n 3, 1) := by decide +kernel
theorem dX4_falls_21 : decode cX4_falls 21 = .ok (.aload_n 0, 1) := by decide +kernel
theorem dX4_falls_22 : decode cX4_falls 22 = .ok (.iload_n 1, 1) := by decide +kernel
theorem dX4_falls_23 : decode cX4_falls 23 = .ok (.aload_n 0, 1) := by decide +kernel
theorem dX4_falls_24 : decode cX4_falls 24 = .ok (.iconst 0, 1) := by decide +kernel
theorem dX4_falls_25 : decode cX4_falls 25 = .ok (.iload_n 1, 1) := by decide +kernel
theorem dX4_falls_26 : decode cX4_falls 26 = .ok (.iload_n 2, 1) := by decide +kernel
theorem dX4_falls_27 : decode cX4_falls 27 = .ok (.invokevirtual 79, 3) := by decide +kernel
theorem dX4_falls_30 : decode cX4_falls 30 = .ok (.iload_n 2, 1) := by decide +kernel
theorem dX4_falls_31 : decode cX4_falls 31 = .ok (.invokevirtual 83, 3) := by decide +kernel
theorem dX4_falls_34 : decode cX4_falls 34 = .ok (.iconst 0, 1) := by decide +kernel
theorem dX4_falls_35 : decode cX4_falls 35 = .ok (.invokestatic 75, 3) := by decide +kernel
theorem dX4_falls_38 : decode cX4_falls 38 = .ok (.iastore, 1) := by decide +kernel
theorem dX4_falls_39 : decode cX4_falls 39 = .ok (.aload_n 0, 1) := by decide +kernel
theorem dX4_falls_40 : decode cX4_falls 40 = .ok (.getfield 17, 3) := by decide +kernel
theorem dX4_falls_43 : decode cX4_falls 43 = .ok (.iload_n 3, 1) := by decide +kernel
theorem dX4_falls_44 : decode cX4_falls 44 = .ok (.iaload, 1) := by decide +kernel
theorem dX4_falls_45 : decode cX4_falls 45 = .ok (.ireturn, 1) := by decide +kernel
theorem dX4_fallsByKind_0 : decode cX4_fallsByKind 0 = .ok (.aload_n 0, 1) := by decide +kernel
theorem dX4_fallsByKind_1 : decode cX4_fallsByKind 1 = .ok (.getfield 33, 3) := by decide +kernel
theorem dX4_fallsByKind_4 : decode cX4_fallsByKind 4 = .ok (.getfield 46, 3) := by decide +kernel
theorem dX4_fallsByKind_7 : decode cX4_fallsByKind 7 = .ok (.iload_n 1, 1) := by decide +kernel
theorem dX4_fallsByKind_8 : decode cX4_fallsByKind 8 = .ok (.iaload, 1) := by decide +kernel
theorem dX4_fallsByKind_9 : decode cX4_fallsByKind 9 = .ok (.tableswitch 81 1 5 #[35, 47, 51, 47, 67], 35) := by decide +kernel
theorem dX4_fallsByKind_44 : decode cX4_fallsByKind 44 = .ok (.iload_n 2, 1) := by decide +kernel
theorem dX4_fallsByKind_45 : decode cX4_fallsByKind 45 = .ok (.aload_n 0, 1) := by decide +kernel
theorem dX4_fallsByKind_46 : decode cX4_fallsByKind 46 = .ok (.getfield 33, 3) := by decide +kernel
theorem dX4_fallsByKind_49 : decode cX4_fallsByKind 49 = .ok (.getfield 49, 3) := by decide +kernel
theorem dX4_fallsByKind_52 : decode cX4_fallsByKind 52 = .ok (.iload_n 1, 1) := by decide +kernel
theorem dX4_fallsByKind_53 : decode cX4_fallsByKind 53 = .ok (.iaload, 1) := by decide +kernel
theorem dX4_fallsByKind_54 : decode cX4_fallsByKind 54 = .ok (.iadd, 1) := by decide +kernel
theorem dX4_fallsByKind_55 : decode cX4_fallsByKind 55 = .ok (.ireturn, 1) := by decide +kernel
theorem dX4_fallsByKind_56 : decode cX4_fallsByKind 56 = .ok (.iconst 2, 1) := by decide +kernel
theorem dX4_fallsByKind_57 : decode cX4_fallsByKind 57 = .ok (.iload_n 2, 1) := by decide +kernel
theorem dX4_fallsByKind_58 : decode cX4_fallsByKind 58 = .ok (.imul, 1) := by decide +kernel
theorem dX4_fallsByKind_59 : decode cX4_fallsByKind 59 = .ok (.ireturn, 1) := by decide +kernel
theorem dX4_fallsByKind_60 : decode cX4_fallsByKind 60 = .ok (.iload_n 2, 1) := by decide +kernel
theorem dX4_fallsByKind_61 : decode cX4_fallsByKind 61 = .ok (.aload_n 0, 1) := by decide +kernel
theorem dX4_fallsByKind_62 : decode cX4_fallsByKind 62 = .ok (.getfield 33, 3) := by decide +kernel
theorem dX4_fallsByKind_65 : decode cX4_fallsByKind 65 = .ok (.getfield 49, 3) := by decide +kernel
theorem dX4_fallsByKind_68 : decode cX4_fallsByKind 68 = .ok (.iload_n 1, 1) := by decide +kernel
theorem dX4_fallsByKind_69 : decode cX4_fallsByKind 69 = .ok (.iaload, 1) := by decide +kernel
theorem dX4_fallsByKind_70 : decode cX4_fallsByKind 70 = .ok (.iadd, 1) := by decide +kernel
theorem dX4_fallsByKind_71 : decode cX4_fallsByKind 71 = .ok (.iload_n 3, 1) := by decide +kernel
theorem dX4_fallsByKind_72 : decode cX4_fallsByKind 72 = .ok (.iconst 3, 1) := by decide +kernel
theorem dX4_fallsByKind_73 : decode cX4_fallsByKind 73 = .ok (.idiv, 1) := by decide +kernel
theorem dX4_fallsByKind_74 : decode cX4_fallsByKind 74 = .ok (.iadd, 1) := by decide +kernel
theorem dX4_fallsByKind_75 : decode cX4_fallsByKind 75 = .ok (.ireturn, 1) := by decide +kernel
theorem dX4_fallsByKind_76 : decode cX4_fallsByKind 76 = .ok (.iload_n 2, 1) := by decide +kernel
theorem dX4_fallsByKind_77 : decode cX4_fallsByKind 77 = .ok (.aload_n 0, 1) := by decide +kernel
theorem dX4_fallsByKind_78 : decode cX4_fallsByKind 78 = .ok (.getfield 33, 3) := by decide +kernel
theorem dX4_fallsByKind_81 : decode cX4_fallsByKind 81 = .ok (.getfield 49, 3) := by decide +kernel
theorem dX4_fallsByKind_84 : decode cX4_fallsByKind 84 = .ok (.iload_n 1, 1) := by decide +kernel
theorem dX4_fallsByKind_85 : decode cX4_fallsByKind 85 = .ok (.iaload, 1) := by decide +kernel
theorem dX4_fallsByKind_86 : decode cX4_fallsByKind 86 = .ok (.iconst 2, 1) := by decide +kernel
theorem dX4_fallsByKind_87 : decode cX4_fallsByKind 87 = .ok (.iadd, 1) := by decide +kernel
theorem dX4_fallsByKind_88 : decode cX4_fallsByKind 88 = .ok (.idiv, 1) := by decide +kernel
theorem dX4_fallsByKind_89 : decode cX4_fallsByKind 89 = .ok (.ireturn, 1) := by decide +kernel
theorem dX4_fallsByKind_90 : decode cX4_fallsByKind 90 = .ok (.iload_n 2, 1) := by decide +kernel
theorem dX4_fallsByKind_91 : decode cX4_fallsByKind 91 = .ok (.ireturn, 1) := by decide +kernel
theorem dX4_takes_0 : decode cX4_takes 0 = .ok (.aload_n 0, 1) := by decide +kernel
theorem dX4_takes_1 : decode cX4_takes 1 = .ok (.getfield 23, 3) := by decide +kernel
theorem dX4_takes_4 : decode cX4_takes 4 = .ok (.iload_n 1, 1) := by decide +kernel
theorem dX4_takes_5 : decode cX4_takes 5 = .ok (.iaload, 1) := by decide +kernel
theorem dX4_takes_6 : decode cX4_takes 6 = .ok (.ifCond .ge 26, 3) := by decide +kernel
theorem dX4_takes_9 : decode cX4_takes 9 = .ok (.aload_n 0, 1) := by decide +kernel
theorem dX4_takes_10 : decode cX4_takes 10 = .ok (.getfield 23, 3) := by decide +kernel
theorem dX4_takes_13 : decode cX4_takes 13 = .ok (.iload_n 1, 1) := by decide +kernel
theorem dX4_takes_14 : decode cX4_takes 14 = .ok (.iconst 1, 1) := by decide +kernel
theorem dX4_takes_15 : decode cX4_takes 15 = .ok (.aload_n 0, 1) := by decide +kernel
theorem dX4_takes_16 : decode cX4_takes 16 = .ok (.iconst 1, 1) := by decide +kernel
theorem dX4_takes_17 : decode cX4_takes 17 = .ok (.iload_n 1, 1) := by decide +kernel
theorem dX4_takes_18 : decode cX4_takes 18 = .ok (.iconst 0, 1) := by decide +kernel
theorem dX4_takes_19 : decode cX4_takes 19 = .ok (.invokevirtual 79, 3) := by decide +kernel
theorem dX4_takes_22 : decode cX4_takes 22 = .ok (.aload_n 0, 1) := by decide +kernel
theorem dX4_takes_23 : decode cX4_takes 23 = .ok (.iload_n 1, 1) := by decide +kernel
theorem dX4_takes_24 : decode cX4_takes 24 = .ok (.invokevirtual 86, 3) := by decide +kernel
theorem dX4_takes_27 : decode cX4_takes 27 = .ok (.iadd, 1) := by decide +kernel
theorem dX4_takes_28 : decode cX4_takes 28 = .ok (.invokestatic 89, 3) := by decide +kernel
theorem dX4_takes_31 : decode cX4_takes 31 = .ok (.iastore, 1) := by decide +kernel
theorem dX4_takes_32 : decode cX4_takes 32 = .ok (.aload_n 0, 1) := by decide +kernel
theorem dX4_takes_33 : decode cX4_takes 33 = .ok (.getfield 23, 3) := by decide +kernel
theorem dX4_takes_36 : decode cX4_takes 36 = .ok (.iload_n 1, 1) := by decide +kernel
theorem dX4_takes_37 : decode cX4_takes 37 = .ok (.iaload, 1) := by decide +kernel
theorem dX4_takes_38 : decode cX4_takes 38 = .ok (.ireturn, 1) := by decide +kernel
theorem dX4_takesMore_0 : decode cX4_takesMore 0 = .ok (.aload_n 0, 1) := by decide +kernel
theorem dX4_takesMore_1 : decode cX4_takesMore 1 = .ok (.getfield 33, 3) := by decide +kernel
theorem dX4_takesMore_4 : decode cX4_takesMore 4 = .ok (.getfield 46, 3) := by decide +kernel
theorem dX4_takesMore_7 : decode cX4_takesMore 7 = .ok (.iload_n 1, 1) := by decide +kernel
theorem dX4_takesMore_8 : decode cX4_takesMore 8 = .ok (.iaload, 1) := by decide +kernel
theorem dX4_takesMore_9 : decode cX4_takesMore 9 = .ok (.tableswitch 45 1 4 #[31, 45, 31, 33], 31) := by decide +kernel
theorem dX4_takesMore_40 : decode cX4_takesMore 40 = .ok (.iconst 2, 1) := by decide +kernel
theorem dX4_takesMore_41 : decode cX4_takesMore 41 = .ok (.ireturn, 1) := by decide +kernel
theorem dX4_takesMore_42 : decode cX4_takesMore 42 = .ok (.iconst 3, 1) := by decide +kernel
theorem dX4_takesMore_43 : decode cX4_takesMore 43 = .ok (.aload_n 0, 1) := by decide +kernel
theorem dX4_takesMore_44 : decode cX4_takesMore 44 = .ok (.getfield 33, 3) := by decide +kernel
theorem dX4_takesMore_47 : decode cX4_takesMore 47 = .ok (.getfield 49, 3) := by decide +kernel
theorem dX4_takesMore_50 : decode cX4_takesMore 50 = .ok (.iload_n 1, 1) := by decide +kernel
theorem dX4_takesMore_51 : decode cX4_takesMore 51 = .ok (.iaload, 1) := by decide +kernel
theorem dX4_takesMore_52 : decode cX4_takesMore 52 = .ok (.iadd, 1) := by decide +kernel
theorem dX4_takesMore_53 : decode cX4_takesMore 53 = .ok (.ireturn, 1) := by decide +kernel
theorem dX4_takesMore_54 : decode cX4_takesMore 54 = .ok (.iconst 0, 1) := by decide +kernel
theorem dX4_takesMore_55 : decode cX4_takesMore 55 = .ok (.ireturn, 1) := by decide +kernel
theorem dX4_closes_0 : decode cX4_closes 0 = .ok (.iload_n 1, 1) := by decide +kernel
theorem dX4_closes_1 : decode cX4_closes 1 = .ok (.bipush 17, 2) := by decide +kernel
theorem dX4_closes_3 : decode cX4_closes 3 = .ok (.imul, 1) := by decide +kernel
theorem dX4_closes_4 : decode cX4_closes 4 = .ok (.iload_n 2, 1) := by decide +kernel
theorem dX4_closes_5 : decode cX4_closes 5 = .ok (.iadd, 1) := by decide +kernel
theorem dX4_closes_6 : decode cX4_closes 6 = .ok (.istore_n 3, 1) := by decide +kernel
theorem dX4_closes_7 : decode cX4_closes 7 = .ok (.aload_n 0, 1) := by decide +kernel
theorem dX4_closes_8 : decode cX4_closes 8 = .ok (.getfield 20, 3) := by decide +kernel
theorem dX4_closes_11 : decode cX4_closes 11 = .ok (.iload_n 3, 1) := by decide +kernel
theorem dX4_closes_12 : decode cX4_closes 12 = .ok (.iaload, 1) := by decide +kernel
theorem dX4_closes_13 : decode cX4_closes 13 = .ok (.ifCond .ge 16, 3) := by decide +kernel
theorem dX4_closes_16 : decode cX4_closes 16 = .ok (.aload_n 0, 1) := by decide +kernel
theorem dX4_closes_17 : decode cX4_closes 17 = .ok (.getfield 20, 3) := by decide +kernel
theorem dX4_closes_20 : decode cX4_closes 20 = .ok (.iload_n 3, 1) := by decide +kernel
theorem dX4_closes_21 : decode cX4_closes 21 = .ok (.aload_n 0, 1) := by decide +kernel
theorem dX4_closes_22 : decode cX4_closes 22 = .ok (.iconst 2, 1) := by decide +kernel
theorem dX4_closes_23 : decode cX4_closes 23 = .ok (.iload_n 1, 1) := by decide +kernel
theorem dX4_closes_24 : decode cX4_closes 24 = .ok (.iload_n 2, 1) := by decide +kernel
theorem dX4_closes_25 : decode cX4_closes 25 = .ok (.invokevirtual 79, 3) := by decide +kernel
theorem dX4_closes_28 : decode cX4_closes 28 = .ok (.iastore, 1) := by decide +kernel
theorem dX4_closes_29 : decode cX4_closes 29 = .ok (.aload_n 0, 1) := by decide +kernel
theorem dX4_closes_30 : decode cX4_closes 30 = .ok (.getfield 20, 3) := by decide +kernel
theorem dX4_closes_33 : decode cX4_closes 33 = .ok (.iload_n 3, 1) := by decide +kernel
theorem dX4_closes_34 : decode cX4_closes 34 = .ok (.iaload, 1) := by decide +kernel
theorem dX4_closes_35 : decode cX4_closes 35 = .ok (.ireturn, 1) := by decide +kernel
theorem dX4_stops_0 : decode cX4_stops 0 = .ok (.aload_n 0, 1) := by decide +kernel
theorem dX4_stops_1 : decode cX4_stops 1 = .ok (.getfield 33, 3) := by decide +kernel
theorem dX4_stops_4 : decode cX4_stops 4 = .ok (.getfield 46, 3) := by decide +kernel
theorem dX4_stops_7 : decode cX4_stops 7 = .ok (.iload_n 1, 1) := by decide +kernel
theorem dX4_stops_8 : decode cX4_stops 8 = .ok (.iaload, 1) := by decide +kernel
theorem dX4_stops_9 : decode cX4_stops 9 = .ok (.iconst 4, 1) := by decide +kernel
theorem dX4_stops_10 : decode cX4_stops 10 = .ok (.if_icmp .ne 7, 3) := by decide +kernel
theorem dX4_stops_13 : decode cX4_stops 13 = .ok (.iconst 1, 1) := by decide +kernel
theorem dX4_stops_14 : decode cX4_stops 14 = .ok (.goto 4, 3) := by decide +kernel
theorem dX4_stops_17 : decode cX4_stops 17 = .ok (.iconst 0, 1) := by decide +kernel
theorem dX4_stops_18 : decode cX4_stops 18 = .ok (.ireturn, 1) := by decide +kernel
theorem dX4_pushed_0 : decode cX4_pushed 0 = .ok (.aload_n 0, 1) := by decide +kernel
theorem dX4_pushed_1 : decode cX4_pushed 1 = .ok (.getfield 33, 3) := by decide +kernel
theorem dX4_pushed_4 : decode cX4_pushed 4 = .ok (.getfield 94, 3) := by decide +kernel
theorem dX4_pushed_7 : decode cX4_pushed 7 = .ok (.iload_n 1, 1) := by decide +kernel
theorem dX4_pushed_8 : decode cX4_pushed 8 = .ok (.invokestatic 97, 3) := by decide +kernel
theorem dX4_pushed_11 : decode cX4_pushed 11 = .ok (.ifCond .ne 5, 3) := by decide +kernel
theorem dX4_pushed_14 : decode cX4_pushed 14 = .ok (.iconst 0, 1) := by decide +kernel
theorem dX4_pushed_15 : decode cX4_pushed 15 = .ok (.ireturn, 1) := by decide +kernel
theorem dX4_pushed_16 : decode cX4_pushed 16 = .ok (.iconst 1, 1) := by decide +kernel
theorem dX4_pushed_17 : decode cX4_pushed 17 = .ok (.iload_n 1, 1) := by decide +kernel
theorem dX4_pushed_18 : decode cX4_pushed 18 = .ok (.ishl, 1) := by decide +kernel
theorem dX4_pushed_19 : decode cX4_pushed 19 = .ok (.istore 4, 2) := by decide +kernel
theorem dX4_pushed_21 : decode cX4_pushed 21 = .ok (.iload_n 2, 1) := by decide +kernel
theorem dX4_pushed_22 : decode cX4_pushed 22 = .ok (.iconst 2, 1) := by decide +kernel
theorem dX4_pushed_23 : decode cX4_pushed 23 = .ok (.if_icmp .eq 22, 3) := by decide +kernel
theorem dX4_pushed_26 : decode cX4_pushed 26 = .ok (.iload 4, 2) := by decide +kernel
theorem dX4_pushed_28 : decode cX4_pushed 28 = .ok (.aload_n 0, 1) := by decide +kernel
theorem dX4_pushed_29 : decode cX4_pushed 29 = .ok (.iload_n 1, 1) := by decide +kernel
theorem dX4_pushed_30 : decode cX4_pushed 30 = .ok (.iconst 1, 1) := by decide +kernel
theorem dX4_pushed_31 : decode cX4_pushed 31 = .ok (.aload_n 0, 1) := by decide +kernel
theorem dX4_pushed_32 : decode cX4_pushed 32 = .ok (.getfield 33, 3) := by decide +kernel
theorem dX4_pushed_35 : decode cX4_pushed 35 = .ok (.getfield 94, 3) := by decide +kernel
theorem dX4_pushed_38 : decode cX4_pushed 38 = .ok (.iload_n 3, 1) := by decide +kernel
theorem dX4_pushed_39 : decode cX4_pushed 39 = .ok (.invokevirtual 101, 3) := by decide +kernel
theorem dX4_pushed_42 : decode cX4_pushed 42 = .ok (.ior, 1) := by decide +kernel
theorem dX4_pushed_43 : decode cX4_pushed 43 = .ok (.istore 4, 2) := by decide +kernel
theorem dX4_pushed_45 : decode cX4_pushed 45 = .ok (.iload_n 2, 1) := by decide +kernel
theorem dX4_pushed_46 : decode cX4_pushed 46 = .ok (.iconst 1, 1) := by decide +kernel
theorem dX4_pushed_47 : decode cX4_pushed 47 = .ok (.if_icmp .eq 22, 3) := by decide +kernel
theorem dX4_pushed_50 : decode cX4_pushed 50 = .ok (.iload 4, 2) := by decide +kernel
theorem dX4_pushed_52 : decode cX4_pushed 52 = .ok (.aload_n 0, 1) := by decide +kernel
theorem dX4_pushed_53 : decode cX4_pushed 53 = .ok (.iload_n 1, 1) := by decide +kernel
theorem dX4_pushed_54 : decode cX4_pushed 54 = .ok (.iconst (-1), 1) := by decide +kernel
theorem dX4_pushed_55 : decode cX4_pushed 55 = .ok (.aload_n 0, 1) := by decide +kernel
theorem dX4_pushed_56 : decode cX4_pushed 56 = .ok (.getfield 33, 3) := by decide +kernel
theorem dX4_pushed_59 : decode cX4_pushed 59 = .ok (.getfield 94, 3) := by decide +kernel
theorem dX4_pushed_62 : decode cX4_pushed 62 = .ok (.iload_n 3, 1) := by decide +kernel
theorem dX4_pushed_63 : decode cX4_pushed 63 = .ok (.invokevirtual 101, 3) := by decide +kernel
theorem dX4_pushed_66 : decode cX4_pushed 66 = .ok (.ior, 1) := by decide +kernel
theorem dX4_pushed_67 : decode cX4_pushed 67 = .ok (.istore 4, 2) := by decide +kernel
theorem dX4_pushed_69 : decode cX4_pushed 69 = .ok (.iload 4, 2) := by decide +kernel
theorem dX4_pushed_71 : decode cX4_pushed 71 = .ok (.ireturn, 1) := by decide +kernel
theorem dX4_fallsOn_0 : decode cX4_fallsOn 0 = .ok (.iconst 0, 1) := by decide +kernel
theorem dX4_fallsOn_1 : decode cX4_fallsOn 1 = .ok (.istore 5, 2) := by decide +kernel
theorem dX4_fallsOn_3 : decode cX4_fallsOn 3 = .ok (.iload_n 1, 1) := by decide +kernel
theorem dX4_fallsOn_4 : decode cX4_fallsOn 4 = .ok (.istore 6, 2) := by decide +kernel
theorem dX4_fallsOn_6 : decode cX4_fallsOn 6 = .ok (.aload_n 0, 1) := by decide +kernel
theorem dX4_fallsOn_7 : decode cX4_fallsOn 7 = .ok (.iload_n 1, 1) := by decide +kernel
theorem dX4_fallsOn_8 : decode cX4_fallsOn 8 = .ok (.invokevirtual 105, 3) := by decide +kernel
theorem dX4_fallsOn_11 : decode cX4_fallsOn 11 = .ok (.ifCond .ne 7, 3) := by decide +kernel
theorem dX4_fallsOn_14 : decode cX4_fallsOn 14 = .ok (.iconst 1, 1) := by decide +kernel
theorem dX4_fallsOn_15 : decode cX4_fallsOn 15 = .ok (.goto 4, 3) := by decide +kernel
theorem dX4_fallsOn_18 : decode cX4_fallsOn 18 = .ok (.iconst 0, 1) := by decide +kernel
theorem dX4_fallsOn_19 : decode cX4_fallsOn 19 = .ok (.istore 7, 2) := by decide +kernel
theorem dX4_fallsOn_21 : decode cX4_fallsOn 21 = .ok (.iload_n 1, 1) := by decide +kernel
theorem dX4_fallsOn_22 : decode cX4_fallsOn 22 = .ok (.iload_n 2, 1) := by decide +kernel
theorem dX4_fallsOn_23 : decode cX4_fallsOn 23 = .ok (.iadd, 1) := by decide +kernel
theorem dX4_fallsOn_24 : decode cX4_fallsOn 24 = .ok (.istore 8, 2) := by decide +kernel
theorem dX4_fallsOn_26 : decode cX4_fallsOn 26 = .ok (.iload 7, 2) := by decide +kernel
theorem dX4_fallsOn_28 : decode cX4_fallsOn 28 = .ok (.ifCond .eq 84, 3) := by decide +kernel
theorem dX4_fallsOn_31 : decode cX4_fallsOn 31 = .ok (.iload 8, 2) := by decide +kernel
theorem dX4_fallsOn_33 : decode cX4_fallsOn 33 = .ok (.ifCond .lt 79, 3) := by decide +kernel
theorem dX4_fallsOn_36 : decode cX4_fallsOn 36 = .ok (.iload 8, 2) := by decide +kernel
theorem dX4_fallsOn_38 : decode cX4_fallsOn 38 = .ok (.bipush 16, 2) := by decide +kernel
theorem dX4_fallsOn_40 : decode cX4_fallsOn 40 = .ok (.if_icmp .ge 72, 3) := by decide +kernel
theorem dX4_fallsOn_43 : decode cX4_fallsOn 43 = .ok (.iload_n 3, 1) := by decide +kernel
theorem dX4_fallsOn_44 : decode cX4_fallsOn 44 = .ok (.iload 8, 2) := by decide +kernel
theorem dX4_fallsOn_46 : decode cX4_fallsOn 46 = .ok (.invokestatic 97, 3) := by decide +kernel
theorem dX4_fallsOn_49 : decode cX4_fallsOn 49 = .ok (.ifCond .ne 26, 3) := by decide +kernel
theorem dX4_fallsOn_52 : decode cX4_fallsOn 52 = .ok (.iload 8, 2) := by decide +kernel
theorem dX4_fallsOn_54 : decode cX4_fallsOn 54 = .ok (.iload 6, 2) := by decide +kernel
theorem dX4_fallsOn_56 : decode cX4_fallsOn 56 = .ok (.isub, 1) := by decide +kernel
theorem dX4_fallsOn_57 : decode cX4_fallsOn 57 = .ok (.invokestatic 109, 3) := by decide +kernel
theorem dX4_fallsOn_60 : decode cX4_fallsOn 60 = .ok (.iload 4, 2) := by decide +kernel
theorem dX4_fallsOn_62 : decode cX4_fallsOn 62 = .ok (.if_icmp .gt 7, 3) := by decide +kernel
theorem dX4_fallsOn_65 : decode cX4_fallsOn 65 = .ok (.iconst 1, 1) := by decide +kernel
theorem dX4_fallsOn_66 : decode cX4_fallsOn 66 = .ok (.goto 4, 3) := by decide +kernel
theorem dX4_fallsOn_69 : decode cX4_fallsOn 69 = .ok (.iconst 0, 1) := by decide +kernel
theorem dX4_fallsOn_70 : decode cX4_fallsOn 70 = .ok (.istore 7, 2) := by decide +kernel
theorem dX4_fallsOn_72 : decode cX4_fallsOn 72 = .ok (.goto 31, 3) := by decide +kernel
theorem dX4_fallsOn_75 : decode cX4_fallsOn 75 = .ok (.aload_n 0, 1) := by decide +kernel
theorem dX4_fallsOn_76 : decode cX4_fallsOn 76 = .ok (.iload 8, 2) := by decide +kernel
theorem dX4_fallsOn_78 : decode cX4_fallsOn 78 = .ok (.invokevirtual 105, 3) := by decide +kernel
theorem dX4_fallsOn_81 : decode cX4_fallsOn 81 = .ok (.ifCond .eq 9, 3) := by decide +kernel
theorem dX4_fallsOn_84 : decode cX4_fallsOn 84 = .ok (.iconst 0, 1) := by decide +kernel
theorem dX4_fallsOn_85 : decode cX4_fallsOn 85 = .ok (.istore 7, 2) := by decide +kernel
theorem dX4_fallsOn_87 : decode cX4_fallsOn 87 = .ok (.goto 16, 3) := by decide +kernel
theorem dX4_fallsOn_90 : decode cX4_fallsOn 90 = .ok (.iload 5, 2) := by decide +kernel
theorem dX4_fallsOn_92 : decode cX4_fallsOn 92 = .ok (.iconst 1, 1) := by decide +kernel
theorem dX4_fallsOn_93 : decode cX4_fallsOn 93 = .ok (.iload 8, 2) := by decide +kernel
theorem dX4_fallsOn_95 : decode cX4_fallsOn 95 = .ok (.ishl, 1) := by decide +kernel
theorem dX4_fallsOn_96 : decode cX4_fallsOn 96 = .ok (.ior, 1) := by decide +kernel
theorem dX4_fallsOn_97 : decode cX4_fallsOn 97 = .ok (.istore 5, 2) := by decide +kernel
theorem dX4_fallsOn_99 : decode cX4_fallsOn 99 = .ok (.iload 8, 2) := by decide +kernel
theorem dX4_fallsOn_101 : decode cX4_fallsOn 101 = .ok (.istore 6, 2) := by decide +kernel
theorem dX4_fallsOn_103 : decode cX4_fallsOn 103 = .ok (.iload 8, 2) := by decide +kernel
theorem dX4_fallsOn_105 : decode cX4_fallsOn 105 = .ok (.iload_n 2, 1) := by decide +kernel
theorem dX4_fallsOn_106 : decode cX4_fallsOn 106 = .ok (.iadd, 1) := by decide +kernel
theorem dX4_fallsOn_107 : decode cX4_fallsOn 107 = .ok (.istore 8, 2) := by decide +kernel
theorem dX4_fallsOn_109 : decode cX4_fallsOn 109 = .ok (.goto (-83), 3) := by decide +kernel
theorem dX4_fallsOn_112 : decode cX4_fallsOn 112 = .ok (.iload 5, 2) := by decide +kernel
theorem dX4_fallsOn_114 : decode cX4_fallsOn 114 = .ok (.ireturn, 1) := by decide +kernel
theorem dX5_init_0 : decode cX5_init 0 = .ok (.aload_n 0, 1) := by decide +kernel
theorem dX5_init_1 : decode cX5_init 1 = .ok (.invokespecial 3, 3) := by decide +kernel
theorem dX5_init_4 : decode cX5_init 4 = .ok (.aload_n 0, 1) := by decide +kernel
theorem dX5_init_5 : decode cX5_init 5 = .ok (.bipush 40, 2) := by decide +kernel
theorem dX5_init_7 : decode cX5_init 7 = .ok (.newarray .int, 2) := by decide +kernel
theorem dX5_init_9 : decode cX5_init 9 = .ok (.putfield 9, 3) := by decide +kernel
theorem dX5_init_12 : decode cX5_init 12 = .ok (.aload_n 0, 1) := by decide +kernel
theorem dX5_init_13 : decode cX5_init 13 = .ok (.iconst (-1), 1) := by decide +kernel
theorem dX5_init_14 : decode cX5_init 14 = .ok (.putfield 15, 3) := by decide +kernel
theorem dX5_init_17 : decode cX5_init 17 = .ok (.return_, 1) := by decide +kernel
theorem dX5_isMissing_0 : decode cX5_isMissing 0 = .ok (.aload_n 0, 1) := by decide +kernel
theorem dX5_isMissing_1 : decode cX5_isMissing 1 = .ok (.getfield 15, 3) := by decide +kernel
theorem dX5_isMissing_4 : decode cX5_isMissing 4 = .ok (.ifCond .ge 7, 3) := by decide +kernel
theorem dX5_isMissing_7 : decode cX5_isMissing 7 = .ok (.iconst 1, 1) := by decide +kernel
theorem dX5_isMissing_8 : decode cX5_isMissing 8 = .ok (.goto 4, 3) := by decide +kernel
theorem dX5_isMissing_11 : decode cX5_isMissing 11 = .ok (.iconst 0, 1) := by decide +kernel
theorem dX5_isMissing_12 : decode cX5_isMissing 12 = .ok (.ireturn, 1) := by decide +kernel
theorem dX5_renew_0 : decode cX5_renew 0 = .ok (.aload_n 0, 1) := by decide +kernel
theorem dX5_renew_1 : decode cX5_renew 1 = .ok (.getfield 9, 3) := by decide +kernel
theorem dX5_renew_4 : decode cX5_renew 4 = .ok (.iconst 0, 1) := by decide +kernel
theorem dX5_renew_5 : decode cX5_renew 5 = .ok (.invokestatic 19, 3) := by decide +kernel
theorem dX5_renew_8 : decode cX5_renew 8 = .ok (.aload_n 0, 1) := by decide +kernel
theorem dX5_renew_9 : decode cX5_renew 9 = .ok (.iload_n 1, 1) := by decide +kernel
theorem dX5_renew_10 : decode cX5_renew 10 = .ok (.putfield 15, 3) := by decide +kernel
theorem dX5_renew_13 : decode cX5_renew 13 = .ok (.aload_n 0, 1) := by decide +kernel
theorem dX5_renew_14 : decode cX5_renew 14 = .ok (.iload_n 2, 1) := by decide +kernel
theorem dX5_renew_15 : decode cX5_renew 15 = .ok (.putfield 25, 3) := by decide +kernel
theorem dX5_renew_18 : decode cX5_renew 18 = .ok (.return_, 1) := by decide +kernel
theorem dX5_write_0 : decode cX5_write 0 = .ok (.aload_n 0, 1) := by decide +kernel
theorem dX5_write_1 : decode cX5_write 1 = .ok (.getfield 9, 3) := by decide +kernel
theorem dX5_write_4 : decode cX5_write 4 = .ok (.iload_n 1, 1) := by decide +kernel
theorem dX5_write_5 : decode cX5_write 5 = .ok (.aload_n 0, 1) := by decide +kernel
theorem dX5_write_6 : decode cX5_write 6 = .ok (.getfield 15, 3) := by decide +kernel
theorem dX5_write_9 : decode cX5_write 9 = .ok (.ifCond .ne 8, 3) := by decide +kernel
theorem dX5_write_12 : decode cX5_write 12 = .ok (.iload_n 2, 1) := by decide +kernel
theorem dX5_write_13 : decode cX5_write 13 = .ok (.i2b, 1) := by decide +kernel
theorem dX5_write_14 : decode cX5_write 14 = .ok (.goto 17, 3) := by decide +kernel
theorem dX5_write_17 : decode cX5_write 17 = .ok (.aload_n 0, 1) := by decide +kernel
theorem dX5_write_18 : decode cX5_write 18 = .ok (.getfield 15, 3) := by decide +kernel
theorem dX5_write_21 : decode cX5_write 21 = .ok (.iconst 1, 1) := by decide +kernel
theorem dX5_write_22 : decode cX5_write 22 = .ok (.if_icmp .ne 8, 3) := by decide +kernel
theorem dX5_write_25 : decode cX5_write 25 = .ok (.iload_n 2, 1) := by decide +kernel
theorem dX5_write_26 : decode cX5_write 26 = .ok (.i2s, 1) := by decide +kernel
theorem dX5_write_27 : decode cX5_write 27 = .ok (.goto 4, 3) := by decide +kernel
theorem dX5_write_30 : decode cX5_write 30 = .ok (.iload_n 2, 1) := by decide +kernel
theorem dX5_write_31 : decode cX5_write 31 = .ok (.iastore, 1) := by decide +kernel
theorem dX5_write_32 : decode cX5_write 32 = .ok (.return_, 1) := by decide +kernel
theorem dX5_holds_0 : decode cX5_holds 0 = .ok (.iload_n 1, 1) := by decide +kernel
theorem dX5_holds_1 : decode cX5_holds 1 = .ok (.ifCond .lt 29, 3) := by decide +kernel
theorem dX5_holds_4 : decode cX5_holds 4 = .ok (.iload_n 2, 1) := by decide +kernel
theorem dX5_holds_5 : decode cX5_holds 5 = .ok (.ifCond .lt 25, 3) := by decide +kernel
theorem dX5_holds_8 : decode cX5_holds 8 = .ok (.iload_n 1, 1) := by decide +kernel
theorem dX5_holds_9 : decode cX5_holds 9 = .ok (.aload_n 0, 1) := by decide +kernel
theorem dX5_holds_10 : decode cX5_holds 10 = .ok (.getfield 25, 3) := by decide +kernel
theorem dX5_holds_13 : decode cX5_holds 13 = .ok (.if_icmp .gt 17, 3) := by decide +kernel
theorem dX5_holds_16 : decode cX5_holds 16 = .ok (.iload_n 2, 1) := by decide +kernel
theorem dX5_holds_17 : decode cX5_holds 17 = .ok (.aload_n 0, 1) := by decide +kernel
theorem dX5_holds_18 : decode cX5_holds 18 = .ok (.getfield 25, 3) := by decide +kernel
theorem dX5_holds_21 : decode cX5_holds 21 = .ok (.iload_n 1, 1) := by decide +kernel
theorem dX5_holds_22 : decode cX5_holds 22 = .ok (.isub, 1) := by decide +kernel
theorem dX5_holds_23 : decode cX5_holds 23 = .ok (.if_icmp .gt 7, 3) := by decide +kernel
theorem dX5_holds_26 : decode cX5_holds 26 = .ok (.iconst 1, 1) := by decide +kernel
theorem dX5_holds_27 : decode cX5_holds 27 = .ok (.goto 4, 3) := by decide +kernel
theorem dX5_holds_30 : decode cX5_holds 30 = .ok (.iconst 0, 1) := by decide +kernel
theorem dX5_holds_31 : decode cX5_holds 31 = .ok (.ireturn, 1) := by decide +kernel
theorem dX5_firstUnlike_0 : decode cX5_firstUnlike 0 = .ok (.iconst 0, 1) := by decide +kernel
theorem dX5_firstUnlike_1 : decode cX5_firstUnlike 1 = .ok (.istore_n 2, 1) := by decide +kernel
theorem dX5_firstUnlike_2 : decode cX5_firstUnlike 2 = .ok (.iload_n 2, 1) := by decide +kernel
theorem dX5_firstUnlike_3 : decode cX5_firstUnlike 3 = .ok (.bipush 16, 2) := by decide +kernel
theorem dX5_firstUnlike_5 : decode cX5_firstUnlike 5 = .ok (.if_icmp .ge 25, 3) := by decide +kernel
theorem dX5_firstUnlike_8 : decode cX5_firstUnlike 8 = .ok (.aload_n 0, 1) := by decide +kernel
theorem dX5_firstUnlike_9 : decode cX5_firstUnlike 9 = .ok (.getfield 9, 3) := by decide +kernel
theorem dX5_firstUnlike_12 : decode cX5_firstUnlike 12 = .ok (.iload_n 2, 1) := by decide +kernel
theorem dX5_firstUnlike_13 : decode cX5_firstUnlike 13 = .ok (.iaload, 1) := by decide +kernel
theorem dX5_firstUnlike_14 : decode cX5_firstUnlike 14 = .ok (.iload_n 1, 1) := by decide +kernel
theorem dX5_firstUnlike_15 : decode cX5_firstUnlike 15 = .ok (.iload_n 2, 1) := by decide +kernel
theorem dX5_firstUnlike_16 : decode cX5_firstUnlike 16 = .ok (.ishr, 1) := by decide +kernel
theorem dX5_firstUnlike_17 : decode cX5_firstUnlike 17 = .ok (.iconst 1, 1) := by decide +kernel
theorem dX5_firstUnlike_18 : decode cX5_firstUnlike 18 = .ok (.iand, 1) := by decide +kernel
theorem dX5_firstUnlike_19 : decode cX5_firstUnlike 19 = .ok (.if_icmp .eq 5, 3) := by decide +kernel
theorem dX5_firstUnlike_22 : decode cX5_firstUnlike 22 = .ok (.iload_n 2, 1) := by decide +kernel
theorem dX5_firstUnlike_23 : decode cX5_firstUnlike 23 = .ok (.ireturn, 1) := by decide +kernel
theorem dX5_firstUnlike_24 : decode cX5_firstUnlike 24 = .ok (.iinc 2 1, 3) := by decide +kernel
theorem dX5_firstUnlike_27 : decode cX5_firstUnlike 27 = .ok (.goto (-25), 3) := by decide +kernel
theorem dX5_firstUnlike_30 : decode cX5_firstUnlike 30 = .ok (.iconst (-1), 1) := by decide +kernel
theorem dX5_firstUnlike_31 : decode cX5_firstUnlike 31 = .ok (.ireturn, 1) := by decide +kernel
theorem dX6_init_0 : decode cX6_init 0 = .ok (.aload_n 0, 1) := by decide +kernel
theorem dX6_init_1 : decode cX6_init 1 = .ok (.invokespecial 3, 3) := by decide +kernel
theorem dX6_init_4 : decode cX6_init 4 = .ok (.aload_n 0, 1) := by decide +kernel
theorem dX6_init_5 : decode cX6_init 5 = .ok (.bipush 16, 2) := by decide +kernel
theorem dX6_init_7 : decode cX6_init 7 = .ok (.newarray .int, 2) := by decide +kernel
theorem dX6_init_9 : decode cX6_init 9 = .ok (.putfield 9, 3) := by decide +kernel
theorem dX6_init_12 : decode cX6_init 12 = .ok (.aload_n 0, 1) := by decide +kernel
theorem dX6_init_13 : decode cX6_init 13 = .ok (.bipush 16, 2) := by decide +kernel
theorem dX6_init_15 : decode cX6_init 15 = .ok (.newarray .int, 2) := by decide +kernel
theorem dX6_init_17 : decode cX6_init 17 = .ok (.putfield 15, 3) := by decide +kernel
theorem dX6_init_20 : decode cX6_init 20 = .ok (.return_, 1) := by decide +kernel
theorem dX6_become_0 : decode cX6_become 0 = .ok (.aload_n 1, 1) := by decide +kernel
theorem dX6_become_1 : decode cX6_become 1 = .ok (.getfield 9, 3) := by decide +kernel
theorem dX6_become_4 : decode cX6_become 4 = .ok (.iconst 0, 1) := by decide +kernel
theorem dX6_become_5 : decode cX6_become 5 = .ok (.aload_n 0, 1) := by decide +kernel
theorem dX6_become_6 : decode cX6_become 6 = .ok (.getfield 9, 3) := by decide +kernel
theorem dX6_become_9 : decode cX6_become 9 = .ok (.iconst 0, 1) := by decide +kernel
theorem dX6_become_10 : decode cX6_become 10 = .ok (.bipush 16, 2) := by decide +kernel
theorem dX6_become_12 : decode cX6_become 12 = .ok (.invokestatic 18, 3) := by decide +kernel
theorem dX6_become_15 : decode cX6_become 15 = .ok (.aload_n 1, 1) := by decide +kernel
theorem dX6_become_16 : decode cX6_become 16 = .ok (.getfield 15, 3) := by decide +kernel
theorem dX6_become_19 : decode cX6_become 19 = .ok (.iconst 0, 1) := by decide +kernel
theorem dX6_become_20 : decode cX6_become 20 = .ok (.aload_n 0, 1) := by decide +kernel
theorem dX6_become_21 : decode cX6_become 21 = .ok (.getfield 15, 3) := by decide +kernel
theorem dX6_become_24 : decode cX6_become 24 = .ok (.iconst 0, 1) := by decide +kernel
theorem dX6_become_25 : decode cX6_become 25 = .ok (.bipush 16, 2) := by decide +kernel
theorem dX6_become_27 : decode cX6_become 27 = .ok (.invokestatic 18, 3) := by decide +kernel
theorem dX6_become_30 : decode cX6_become 30 = .ok (.aload_n 0, 1) := by decide +kernel
theorem dX6_become_31 : decode cX6_become 31 = .ok (.aload_n 1, 1) := by decide +kernel
theorem dX6_become_32 : decode cX6_become 32 = .ok (.getfield 24, 3) := by decide +kernel
theorem dX6_become_35 : decode cX6_become 35 = .ok (.putfield 24, 3) := by decide +kernel
theorem dX6_become_38 : decode cX6_become 38 = .ok (.aload_n 0, 1) := by decide +kernel
theorem dX6_become_39 : decode cX6_become 39 = .ok (.aload_n 1, 1) := by decide +kernel
theorem dX6_become_40 : decode cX6_become 40 = .ok (.getfield 28, 3) := by decide +kernel
theorem dX6_become_43 : decode cX6_become 43 = .ok (.putfield 28, 3) := by decide +kernel
theorem dX6_become_46 : decode cX6_become 46 = .ok (.aload_n 0, 1) := by decide +kernel
theorem dX6_become_47 : decode cX6_become 47 = .ok (.aload_n 1, 1) := by decide +kernel
theorem dX6_become_48 : decode cX6_become 48 = .ok (.getfield 31, 3) := by decide +kernel
theorem dX6_become_51 : decode cX6_become 51 = .ok (.putfield 31, 3) := by decide +kernel
theorem dX6_become_54 : decode cX6_become 54 = .ok (.aload_n 0, 1) := by decide +kernel
theorem dX6_become_55 : decode cX6_become 55 = .ok (.aload_n 1, 1) := by decide +kernel
theorem dX6_become_56 : decode cX6_become 56 = .ok (.getfield 34, 3) := by decide +kernel
theorem dX6_become_59 : decode cX6_become 59 = .ok (.putfield 34, 3) := by decide +kernel
theorem dX6_become_62 : decode cX6_become 62 = .ok (.aload_n 0, 1) := by decide +kernel
theorem dX6_become_63 : decode cX6_become 63 = .ok (.aload_n 1, 1) := by decide +kernel
theorem dX6_become_64 : decode cX6_become 64 = .ok (.getfield 37, 3) := by decide +kernel
theorem dX6_become_67 : decode cX6_become 67 = .ok (.putfield 37, 3) := by decide +kernel
theorem dX6_become_70 : decode cX6_become 70 = .ok (.return_, 1) := by decide +kernel
theorem dX7_init_0 : decode cX7_init 0 = .ok (.aload_n 0, 1) := by decide +kernel
theorem dX7_init_1 : decode cX7_init 1 = .ok (.invokespecial 3, 3) := by decide +kernel
theorem dX7_init_4 : decode cX7_init 4 = .ok (.aload_n 0, 1) := by decide +kernel
theorem dX7_init_5 : decode cX7_init 5 = .ok (.bipush 6, 2) := by decide +kernel
theorem dX7_init_7 : decode cX7_init 7 = .ok (.sipush 160, 3) := by decide +kernel
theorem dX7_init_10 : decode cX7_init 10 = .ok (.multianewarray 9 2, 4) := by decide +kernel
theorem dX7_init_14 : decode cX7_init 14 = .ok (.putfield 11, 3) := by decide +kernel
theorem dX7_init_17 : decode cX7_init 17 = .ok (.aload_n 0, 1) := by decide +kernel
theorem dX7_init_18 : decode cX7_init 18 = .ok (.bipush 6, 2) := by decide +kernel
theorem dX7_init_20 : decode cX7_init 20 = .ok (.iconst 4, 1) := by decide +kernel
theorem dX7_init_21 : decode cX7_init 21 = .ok (.multianewarray 9 2, 4) := by decide +kernel
theorem dX7_init_25 : decode cX7_init 25 = .ok (.putfield 16, 3) := by decide +kernel
theorem dX7_init_28 : decode cX7_init 28 = .ok (.aload_n 0, 1) := by decide +kernel
theorem dX7_init_29 : decode cX7_init 29 = .ok (.sipush 161, 3) := by decide +kernel
theorem dX7_init_32 : decode cX7_init 32 = .ok (.newarray .int, 2) := by decide +kernel
theorem dX7_init_34 : decode cX7_init 34 = .ok (.putfield 19, 3) := by decide +kernel
theorem dX7_init_37 : decode cX7_init 37 = .ok (.aload_n 0, 1) := by decide +kernel
theorem dX7_init_38 : decode cX7_init 38 = .ok (.getfield 11, 3) := by decide +kernel
theorem dX7_init_41 : decode cX7_init 41 = .ok (.iconst 0, 1) := by decide +kernel
theorem dX7_init_42 : decode cX7_init 42 = .ok (.aaload, 1) := by decide +kernel
theorem dX7_init_43 : decode cX7_init 43 = .ok (.iconst 0, 1) := by decide +kernel
theorem dX7_init_44 : decode cX7_init 44 = .ok (.iconst 2, 1) := by decide +kernel
theorem dX7_init_45 : decode cX7_init 45 = .ok (.iastore, 1) := by decide +kernel
theorem dX7_init_46 : decode cX7_init 46 = .ok (.aload_n 0, 1) := by decide +kernel
theorem dX7_init_47 : decode cX7_init 47 = .ok (.getfield 11, 3) := by decide +kernel
theorem dX7_init_50 : decode cX7_init 50 = .ok (.iconst 0, 1) := by decide +kernel
theorem dX7_init_51 : decode cX7_init 51 = .ok (.aaload, 1) := by decide +kernel
theorem dX7_init_52 : decode cX7_init 52 = .ok (.iconst 1, 1) := by decide +kernel
theorem dX7_init_53 : decode cX7_init 53 = .ok (.iconst 3, 1) := by decide +kernel
theorem dX7_init_54 : decode cX7_init 54 = .ok (.iastore, 1) := by decide +kernel
theorem dX7_init_55 : decode cX7_init 55 = .ok (.aload_n 0, 1) := by decide +kernel
theorem dX7_init_56 : decode cX7_init 56 = .ok (.getfield 11, 3) := by decide +kernel
theorem dX7_init_59 : decode cX7_init 59 = .ok (.iconst 0, 1) := by decide +kernel
theorem dX7_init_60 : decode cX7_init 60 = .ok (.aaload, 1) := by decide +kernel
theorem dX7_init_61 : decode cX7_init 61 = .ok (.iconst 2, 1) := by decide +kernel
theorem dX7_init_62 : decode cX7_init 62 = .ok (.bipush 10, 2) := by decide +kernel
theorem dX7_init_64 : decode cX7_init 64 = .ok (.iastore, 1) := by decide +kernel
theorem dX7_init_65 : decode cX7_init 65 = .ok (.iconst 0, 1) := by decide +kernel
theorem dX7_init_66 : decode cX7_init 66 = .ok (.istore_n 1, 1) := by decide +kernel
theorem dX7_init_67 : decode cX7_init 67 = .ok (.iload_n 1, 1) := by decide +kernel
theorem dX7_init_68 : decode cX7_init 68 = .ok (.iconst 3, 1) := by decide +kernel
theorem dX7_init_69 : decode cX7_init 69 = .ok (.if_icmp .gt 18, 3) := by decide +kernel
theorem dX7_init_72 : decode cX7_init 72 = .ok (.aload_n 0, 1) := by decide +kernel
theorem dX7_init_73 : decode cX7_init 73 = .ok (.getfield 16, 3) := by decide +kernel
theorem dX7_init_76 : decode cX7_init 76 = .ok (.iconst 0, 1) := by decide +kernel
theorem dX7_init_77 : decode cX7_init 77 = .ok (.aaload, 1) := by decide +kernel
theorem dX7_init_78 : decode cX7_init 78 = .ok (.iload_n 1, 1) := by decide +kernel
theorem dX7_init_79 : decode cX7_init 79 = .ok (.iload_n 1, 1) := by decide +kernel
theorem dX7_init_80 : decode cX7_init 80 = .ok (.iastore, 1) := by decide +kernel
theorem dX7_init_81 : decode cX7_init 81 = .ok (.iinc 1 1, 3) := by decide +kernel
theorem dX7_init_84 : decode cX7_init 84 = .ok (.goto (-17), 3) := by decide +kernel
theorem dX7_init_87 : decode cX7_init 87 = .ok (.aload_n 0, 1) := by decide +kernel
theorem dX7_init_88 : decode cX7_init 88 = .ok (.iconst 1, 1) := by decide +kernel
theorem dX7_init_89 : decode cX7_init 89 = .ok (.putfield 23, 3) := by decide +kernel
theorem dX7_init_92 : decode cX7_init 92 = .ok (.return_, 1) := by decide +kernel
theorem dX7_add_0 : decode cX7_add 0 = .ok (.aload_n 1, 1) := by decide +kernel
theorem dX7_add_1 : decode cX7_add 1 = .ok (.iconst 0, 1) := by decide +kernel
theorem dX7_add_2 : decode cX7_add 2 = .ok (.aload_n 0, 1) := by decide +kernel
theorem dX7_add_3 : decode cX7_add 3 = .ok (.getfield 11, 3) := by decide +kernel
theorem dX7_add_6 : decode cX7_add 6 = .ok (.aload_n 0, 1) := by decide +kernel
theorem dX7_add_7 : decode cX7_add 7 = .ok (.getfield 23, 3) := by decide +kernel
theorem dX7_add_10 : decode cX7_add 10 = .ok (.aaload, 1) := by decide +kernel
theorem dX7_add_11 : decode cX7_add 11 = .ok (.iconst 0, 1) := by decide +kernel
theorem dX7_add_12 : decode cX7_add 12 = .ok (.sipush 160, 3) := by decide +kernel
theorem dX7_add_15 : decode cX7_add 15 = .ok (.invokestatic 27, 3) := by decide +kernel
theorem dX7_add_18 : decode cX7_add 18 = .ok (.aload_n 2, 1) := by decide +kernel
theorem dX7_add_19 : decode cX7_add 19 = .ok (.iconst 0, 1) := by decide +kernel
theorem dX7_add_20 : decode cX7_add 20 = .ok (.aload_n 0, 1) := by decide +kernel
theorem dX7_add_21 : decode cX7_add 21 = .ok (.getfield 16, 3) := by decide +kernel
theorem dX7_add_24 : decode cX7_add 24 = .ok (.aload_n 0, 1) := by decide +kernel
theorem dX7_add_25 : decode cX7_add 25 = .ok (.getfield 23, 3) := by decide +kernel
theorem dX7_add_28 : decode cX7_add 28 = .ok (.aaload, 1) := by decide +kernel
theorem dX7_add_29 : decode cX7_add 29 = .ok (.iconst 0, 1) := by decide +kernel
theorem dX7_add_30 : decode cX7_add 30 = .ok (.iconst 4, 1) := by decide +kernel
theorem dX7_add_31 : decode cX7_add 31 = .ok (.invokestatic 27, 3) := by decide +kernel
theorem dX7_add_34 : decode cX7_add 34 = .ok (.aload_n 0, 1) := by decide +kernel
theorem dX7_add_35 : decode cX7_add 35 = .ok (.dup, 1) := by decide +kernel
theorem dX7_add_36 : decode cX7_add 36 = .ok (.getfield 23, 3) := by decide +kernel
theorem dX7_add_39 : decode cX7_add 39 = .ok (.iconst 1, 1) := by decide +kernel
theorem dX7_add_40 : decode cX7_add 40 = .ok (.iadd, 1) := by decide +kernel
theorem dX7_add_41 : decode cX7_add 41 = .ok (.putfield 23, 3) := by decide +kernel
theorem dX7_add_44 : decode cX7_add 44 = .ok (.aload_n 0, 1) := by decide +kernel
theorem dX7_add_45 : decode cX7_add 45 = .ok (.getfield 23, 3) := by decide +kernel
theorem dX7_add_48 : decode cX7_add 48 = .ok (.iconst 1, 1) := by decide +kernel
theorem dX7_add_49 : decode cX7_add 49 = .ok (.isub, 1) := by decide +kernel
theorem dX7_add_50 : decode cX7_add 50 = .ok (.ireturn, 1) := by decide +kernel
theorem dX7_reckon_0 : decode cX7_reckon 0 = .ok (.iconst 0, 1) := by decide +kernel
theorem dX7_reckon_1 : decode cX7_reckon 1 = .ok (.istore 4, 2) := by decide +kernel
theorem dX7_reckon_3 : decode cX7_reckon 3 = .ok (.aload_n 0, 1) := by decide +kernel
theorem dX7_reckon_4 : decode cX7_reckon 4 = .ok (.getfield 16, 3) := by decide +kernel
theorem dX7_reckon_7 : decode cX7_reckon 7 = .ok (.iload_n 1, 1) := by decide +kernel
theorem dX7_reckon_8 : decode cX7_reckon 8 = .ok (.aaload, 1) := by decide +kernel
theorem dX7_reckon_9 : decode cX7_reckon 9 = .ok (.iload_n 2, 1) := by decide +kernel
theorem dX7_reckon_10 : decode cX7_reckon 10 = .ok (.iaload, 1) := by decide +kernel
theorem dX7_reckon_11 : decode cX7_reckon 11 = .ok (.istore 5, 2) := by decide +kernel
theorem dX7_reckon_13 : decode cX7_reckon 13 = .ok (.iload 5, 2) := by decide +kernel
theorem dX7_reckon_15 : decode cX7_reckon 15 = .ok (.aload_n 0, 1) := by decide +kernel
theorem dX7_reckon_16 : decode cX7_reckon 16 = .ok (.getfield 16, 3) := by decide +kernel
theorem dX7_reckon_19 : decode cX7_reckon 19 = .ok (.iload_n 1, 1) := by decide +kernel
theorem dX7_reckon_20 : decode cX7_reckon 20 = .ok (.aaload, 1) := by decide +kernel
theorem dX7_reckon_21 : decode cX7_reckon 21 = .ok (.iload_n 2, 1) := by decide +kernel
theorem dX7_reckon_22 : decode cX7_reckon 22 = .ok (.iconst 1, 1) := by decide +kernel
theorem dX7_reckon_23 : decode cX7_reckon 23 = .ok (.iadd, 1) := by decide +kernel
theorem dX7_reckon_24 : decode cX7_reckon 24 = .ok (.iaload, 1) := by decide +kernel
theorem dX7_reckon_25 : decode cX7_reckon 25 = .ok (.if_icmp .ge 297, 3) := by decide +kernel
theorem dX7_reckon_28 : decode cX7_reckon 28 = .ok (.aload_n 0, 1) := by decide +kernel
theorem dX7_reckon_29 : decode cX7_reckon 29 = .ok (.getfield 11, 3) := by decide +kernel
theorem dX7_reckon_32 : decode cX7_reckon 32 = .ok (.iload_n 1, 1) := by decide +kernel
theorem dX7_reckon_33 : decode cX7_reckon 33 = .ok (.aaload, 1) := by decide +kernel
theorem dX7_reckon_34 : decode cX7_reckon 34 = .ok (.iload 5, 2) := by decide +kernel
theorem dX7_reckon_36 : decode cX7_reckon 36 = .ok (.iaload, 1) := by decide +kernel
theorem dX7_reckon_37 : decode cX7_reckon 37 = .ok (.istore 6, 2) := by decide +kernel
theorem dX7_reckon_39 : decode cX7_reckon 39 = .ok (.iload 6, 2) := by decide +kernel
theorem dX7_reckon_41 : decode cX7_reckon 41 = .ok (.bipush (-7), 2) := by decide +kernel
theorem dX7_reckon_43 : decode cX7_reckon 43 = .ok (.if_icmp .le 9, 3) := by decide +kernel
theorem dX7_reckon_46 : decode cX7_reckon 46 = .ok (.iinc 4 1, 3) := by decide +kernel
theorem dX7_reckon_49 : decode cX7_reckon 49 = .ok (.goto 20, 3) := by decide +kernel
theorem dX7_reckon_52 : decode cX7_reckon 52 = .ok (.iload 6, 2) := by decide +kernel
theorem dX7_reckon_54 : decode cX7_reckon 54 = .ok (.bipush (-14), 2) := by decide +kernel
theorem dX7_reckon_56 : decode cX7_reckon 56 = .ok (.if_icmp .eq 13, 3) := by decide +kernel
theorem dX7_reckon_59 : decode cX7_reckon 59 = .ok (.iload 6, 2) := by decide +kernel
theorem dX7_reckon_61 : decode cX7_reckon 61 = .ok (.bipush (-15), 2) := by decide +kernel
theorem dX7_reckon_63 : decode cX7_reckon 63 = .ok (.if_icmp .eq 6, 3) := by decide +kernel
theorem dX7_reckon_66 : decode cX7_reckon 66 = .ok (.iinc 4 (-1), 3) := by decide +kernel
theorem dX7_reckon_69 : decode cX7_reckon 69 = .ok (.iload 4, 2) := by decide +kernel
theorem dX7_reckon_71 : decode cX7_reckon 71 = .ok (.iconst 1, 1) := by decide +kernel
theorem dX7_reckon_72 : decode cX7_reckon 72 = .ok (.if_icmp .lt 13, 3) := by decide +kernel
theorem dX7_reckon_75 : decode cX7_reckon 75 = .ok (.iload 4, 2) := by decide +kernel
theorem dX7_reckon_77 : decode cX7_reckon 77 = .ok (.aload_n 0, 1) := by decide +kernel
theorem dX7_reckon_78 : decode cX7_reckon 78 = .ok (.getfield 19, 3) := by decide +kernel
theorem dX7_reckon_81 : decode cX7_reckon 81 = .ok (.arraylength, 1) := by decide +kernel
theorem dX7_reckon_82 : decode cX7_reckon 82 = .ok (.if_icmp .lt 5, 3) := by decide +kernel
theorem dX7_reckon_85 : decode cX7_reckon 85 = .ok (.iconst 0, 1) := by decide +kernel
theorem dX7_reckon_86 : decode cX7_reckon 86 = .ok (.ireturn, 1) := by decide +kernel
theorem dX7_reckon_87 : decode cX7_reckon 87 = .ok (.aload_n 0, 1) := by decide +kernel
theorem dX7_reckon_88 : decode cX7_reckon 88 = .ok (.getfield 19, 3) := by decide +kernel
theorem dX7_reckon_91 : decode cX7_reckon 91 = .ok (.iload 4, 2) := by decide +kernel
theorem dX7_reckon_93 : decode cX7_reckon 93 = .ok (.iconst 1, 1) := by decide +kernel
theorem dX7_reckon_94 : decode cX7_reckon 94 = .ok (.isub, 1) := by decide +kernel
theorem dX7_reckon_95 : decode cX7_reckon 95 = .ok (.iaload, 1) := by decide +kernel
theorem dX7_reckon_96 : decode cX7_reckon 96 = .ok (.istore 7, 2) := by decide +kernel
theorem dX7_reckon_98 : decode cX7_reckon 98 = .ok (.aload_n 0, 1) := by decide +kernel
theorem dX7_reckon_99 : decode cX7_reckon 99 = .ok (.getfield 19, 3) := by decide +kernel
theorem dX7_reckon_102 : decode cX7_reckon 102 = .ok (.iload 4, 2) := by decide +kernel
theorem dX7_reckon_104 : decode cX7_reckon 104 = .ok (.iaload, 1) := by decide +kernel
theorem dX7_reckon_105 : decode cX7_reckon 105 = .ok (.istore 8, 2) := by decide +kernel
theorem dX7_reckon_107 : decode cX7_reckon 107 = .ok (.iload 6, 2) := by decide +kernel
theorem dX7_reckon_109 : decode cX7_reckon 109 = .ok (.tableswitch 178 (-15) (-7) #[170, 155, 145, 135, 125, 108, 91, 71, 51], 51) := by decide +kernel
theorem dX7_reckon_160 : decode cX7_reckon 160 = .ok (.iload 7, 2) := by decide +kernel
theorem dX7_reckon_162 : decode cX7_reckon 162 = .ok (.ifCond .ne 8, 3) := by decide +kernel
theorem dX7_reckon_165 : decode cX7_reckon 165 = .ok (.iload 8, 2) := by decide +kernel
theorem dX7_reckon_167 : decode cX7_reckon 167 = .ok (.ifCond .eq 7, 3) := by decide +kernel
theorem dX7_reckon_170 : decode cX7_reckon 170 = .ok (.iconst 1, 1) := by decide +kernel
theorem dX7_reckon_171 : decode cX7_reckon 171 = .ok (.goto 4, 3) := by decide +kernel
theorem dX7_reckon_174 : decode cX7_reckon 174 = .ok (.iconst 0, 1) := by decide +kernel
theorem dX7_reckon_175 : decode cX7_reckon 175 = .ok (.istore 7, 2) := by decide +kernel
theorem dX7_reckon_177 : decode cX7_reckon 177 = .ok (.goto 128, 3) := by decide +kernel
theorem dX7_reckon_180 : decode cX7_reckon 180 = .ok (.iload 7, 2) := by decide +kernel
theorem dX7_reckon_182 : decode cX7_reckon 182 = .ok (.ifCond .eq 12, 3) := by decide +kernel
theorem dX7_reckon_185 : decode cX7_reckon 185 = .ok (.iload 8, 2) := by decide +kernel
theorem dX7_reckon_187 : decode cX7_reckon 187 = .ok (.ifCond .eq 7, 3) := by decide +kernel
theorem dX7_reckon_190 : decode cX7_reckon 190 = .ok (.iconst 1, 1) := by decide +kernel
theorem dX7_reckon_191 : decode cX7_reckon 191 = .ok (.goto 4, 3) := by decide +kernel
theorem dX7_reckon_194 : decode cX7_reckon 194 = .ok (.iconst 0, 1) := by decide +kernel
theorem dX7_reckon_195 : decode cX7_reckon 195 = .ok (.istore 7, 2) := by decide +kernel
theorem dX7_reckon_197 : decode cX7_reckon 197 = .ok (.goto 108, 3) := by decide +kernel
theorem dX7_reckon_200 : decode cX7_reckon 200 = .ok (.iload 7, 2) := by decide +kernel
theorem dX7_reckon_202 : decode cX7_reckon 202 = .ok (.iload 8, 2) := by decide +kernel
theorem dX7_reckon_204 : decode cX7_reckon 204 = .ok (.if_icmp .ge 7, 3) := by decide +kernel
theorem dX7_reckon_207 : decode cX7_reckon 207 = .ok (.iconst 1, 1) := by decide +kernel
theorem dX7_reckon_208 : decode cX7_reckon 208 = .ok (.goto 4, 3) := by decide +kernel
theorem dX7_reckon_211 : decode cX7_reckon 211 = .ok (.iconst 0, 1) := by decide +kernel
theorem dX7_reckon_212 : decode cX7_reckon 212 = .ok (.istore 7, 2) := by decide +kernel
theorem dX7_reckon_214 : decode cX7_reckon 214 = .ok (.goto 91, 3) := by decide +kernel
theorem dX7_reckon_217 : decode cX7_reckon 217 = .ok (.iload 7, 2) := by decide +kernel
theorem dX7_reckon_219 : decode cX7_reckon 219 = .ok (.iload 8, 2) := by decide +kernel
theorem dX7_reckon_221 : decode cX7_reckon 221 = .ok (.if_icmp .ne 7, 3) := by decide +kernel
theorem dX7_reckon_224 : decode cX7_reckon 224 = .ok (.iconst 1, 1) := by decide +kernel
theorem dX7_reckon_225 : decode cX7_reckon 225 = .ok (.goto 4, 3) := by decide +kernel
theorem dX7_reckon_228 : decode cX7_reckon 228 = .ok (.iconst 0, 1) := by decide +kernel
theorem dX7_reckon_229 : decode cX7_reckon 229 = .ok (.istore 7, 2) := by decide +kernel
theorem dX7_reckon_231 : decode cX7_reckon 231 = .ok (.goto 74, 3) := by decide +kernel
theorem dX7_reckon_234 : decode cX7_reckon 234 = .ok (.iload 7, 2) := by decide +kernel
theorem dX7_reckon_236 : decode cX7_reckon 236 = .ok (.iload 8, 2) := by decide +kernel
theorem dX7_reckon_238 : decode cX7_reckon 238 = .ok (.iadd, 1) := by decide +kernel
theorem dX7_reckon_239 : decode cX7_reckon 239 = .ok (.istore 7, 2) := by decide +kernel
theorem dX7_reckon_241 : decode cX7_reckon 241 = .ok (.goto 64, 3) := by decide +kernel
theorem dX7_reckon_244 : decode cX7_reckon 244 = .ok (.iload 7, 2) := by decide +kernel
theorem dX7_reckon_246 : decode cX7_reckon 246 = .ok (.iload 8, 2) := by decide +kernel
theorem dX7_reckon_248 : decode cX7_reckon 248 = .ok (.isub, 1) := by decide +kernel
theorem dX7_reckon_249 : decode cX7_reckon 249 = .ok (.istore 7, 2) := by decide +kernel
theorem dX7_reckon_251 : decode cX7_reckon 251 = .ok (.goto 54, 3) := by decide +kernel
theorem dX7_reckon_254 : decode cX7_reckon 254 = .ok (.iload 7, 2) := by decide +kernel
theorem dX7_reckon_256 : decode cX7_reckon 256 = .ok (.iload 8, 2) := by decide +kernel
theorem dX7_reckon_258 : decode cX7_reckon 258 = .ok (.imul, 1) := by decide +kernel
theorem dX7_reckon_259 : decode cX7_reckon 259 = .ok (.istore 7, 2) := by decide +kernel
theorem dX7_reckon_261 : decode cX7_reckon 261 = .ok (.goto 44, 3) := by decide +kernel
theorem dX7_reckon_264 : decode cX7_reckon 264 = .ok (.iload 7, 2) := by decide +kernel
theorem dX7_reckon_266 : decode cX7_reckon 266 = .ok (.ifCond .ne 7, 3) := by decide +kernel
theorem dX7_reckon_269 : decode cX7_reckon 269 = .ok (.iconst 1, 1) := by decide +kernel
theorem dX7_reckon_270 : decode cX7_reckon 270 = .ok (.goto 4, 3) := by decide +kernel
theorem dX7_reckon_273 : decode cX7_reckon 273 = .ok (.iconst 0, 1) := by decide +kernel
theorem dX7_reckon_274 : decode cX7_reckon 274 = .ok (.istore 7, 2) := by decide +kernel
theorem dX7_reckon_276 : decode cX7_reckon 276 = .ok (.goto 29, 3) := by decide +kernel
theorem dX7_reckon_279 : decode cX7_reckon 279 = .ok (.iload 7, 2) := by decide +kernel
theorem dX7_reckon_281 : decode cX7_reckon 281 = .ok (.ineg, 1) := by decide +kernel
theorem dX7_reckon_282 : decode cX7_reckon 282 = .ok (.istore 7, 2) := by decide +kernel
theorem dX7_reckon_284 : decode cX7_reckon 284 = .ok (.goto 21, 3) := by decide +kernel
theorem dX7_reckon_287 : decode cX7_reckon 287 = .ok (.iload 6, 2) := by decide +kernel
theorem dX7_reckon_289 : decode cX7_reckon 289 = .ok (.ifCond .lt 8, 3) := by decide +kernel
theorem dX7_reckon_292 : decode cX7_reckon 292 = .ok (.iload 6, 2) := by decide +kernel
theorem dX7_reckon_294 : decode cX7_reckon 294 = .ok (.goto 9, 3) := by decide +kernel
theorem dX7_reckon_297 : decode cX7_reckon 297 = .ok (.aload_n 3, 1) := by decide +kernel
theorem dX7_reckon_298 : decode cX7_reckon 298 = .ok (.iconst (-1), 1) := by decide +kernel
theorem dX7_reckon_299 : decode cX7_reckon 299 = .ok (.iload 6, 2) := by decide +kernel
theorem dX7_reckon_301 : decode cX7_reckon 301 = .ok (.isub, 1) := by decide +kernel
theorem dX7_reckon_302 : decode cX7_reckon 302 = .ok (.iaload, 1) := by decide +kernel
theorem dX7_reckon_303 : decode cX7_reckon 303 = .ok (.istore 7, 2) := by decide +kernel
theorem dX7_reckon_305 : decode cX7_reckon 305 = .ok (.aload_n 0, 1) := by decide +kernel
theorem dX7_reckon_306 : decode cX7_reckon 306 = .ok (.getfield 19, 3) := by decide +kernel
theorem dX7_reckon_309 : decode cX7_reckon 309 = .ok (.iload 4, 2) := by decide +kernel
theorem dX7_reckon_311 : decode cX7_reckon 311 = .ok (.iconst 1, 1) := by decide +kernel
theorem dX7_reckon_312 : decode cX7_reckon 312 = .ok (.isub, 1) := by decide +kernel
theorem dX7_reckon_313 : decode cX7_reckon 313 = .ok (.iload 7, 2) := by decide +kernel
theorem dX7_reckon_315 : decode cX7_reckon 315 = .ok (.iastore, 1) := by decide +kernel
theorem dX7_reckon_316 : decode cX7_reckon 316 = .ok (.iinc 5 1, 3) := by decide +kernel
theorem dX7_reckon_319 : decode cX7_reckon 319 = .ok (.goto (-306), 3) := by decide +kernel
theorem dX7_reckon_322 : decode cX7_reckon 322 = .ok (.aload_n 0, 1) := by decide +kernel
theorem dX7_reckon_323 : decode cX7_reckon 323 = .ok (.getfield 19, 3) := by decide +kernel
theorem dX7_reckon_326 : decode cX7_reckon 326 = .ok (.iconst 0, 1) := by decide +kernel
theorem dX7_reckon_327 : decode cX7_reckon 327 = .ok (.iaload, 1) := by decide +kernel
theorem dX7_reckon_328 : decode cX7_reckon 328 = .ok (.ireturn, 1) := by decide +kernel
