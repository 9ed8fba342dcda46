theorem dX8_init_0 : decode cX8_init 0 = .ok (.aload_n 0, 1) := by decide +kernel
theorem dX8_init_1 : decode cX8_init 1 = .ok (.invokespecial 1, 3) := by decide +kernel
theorem dX8_init_4 : decode cX8_init 4 = .ok (.aload_n 0, 1) := by decide +kernel
theorem dX8_init_5 : decode cX8_init 5 = .ok (.new 7, 3) := by decide +kernel
theorem dX8_init_8 : decode cX8_init 8 = .ok (.dup, 1) := by decide +kernel
theorem dX8_init_9 : decode cX8_init 9 = .ok (.invokespecial 9, 3) := by decide +kernel
theorem dX8_init_12 : decode cX8_init 12 = .ok (.putfield 10, 3) := by decide +kernel
theorem dX8_init_15 : decode cX8_init 15 = .ok (.aload_n 0, 1) := by decide +kernel
theorem dX8_init_16 : decode cX8_init 16 = .ok (.new 16, 3) := by decide +kernel
theorem dX8_init_19 : decode cX8_init 19 = .ok (.dup, 1) := by decide +kernel
theorem dX8_init_20 : decode cX8_init 20 = .ok (.invokespecial 18, 3) := by decide +kernel
theorem dX8_init_23 : decode cX8_init 23 = .ok (.putfield 19, 3) := by decide +kernel
theorem dX8_init_26 : decode cX8_init 26 = .ok (.aload_n 0, 1) := by decide +kernel
theorem dX8_init_27 : decode cX8_init 27 = .ok (.new 23, 3) := by decide +kernel
theorem dX8_init_30 : decode cX8_init 30 = .ok (.dup, 1) := by decide +kernel
theorem dX8_init_31 : decode cX8_init 31 = .ok (.aload_n 0, 1) := by decide +kernel
theorem dX8_init_32 : decode cX8_init 32 = .ok (.getfield 10, 3) := by decide +kernel
theorem dX8_init_35 : decode cX8_init 35 = .ok (.invokespecial 25, 3) := by decide +kernel
theorem dX8_init_38 : decode cX8_init 38 = .ok (.putfield 28, 3) := by decide +kernel
theorem dX8_init_41 : decode cX8_init 41 = .ok (.aload_n 0, 1) := by decide +kernel
theorem dX8_init_42 : decode cX8_init 42 = .ok (.new 32, 3) := by decide +kernel
theorem dX8_init_45 : decode cX8_init 45 = .ok (.dup, 1) := by decide +kernel
theorem dX8_init_46 : decode cX8_init 46 = .ok (.aload_n 0, 1) := by decide +kernel
theorem dX8_init_47 : decode cX8_init 47 = .ok (.getfield 28, 3) := by decide +kernel
theorem dX8_init_50 : decode cX8_init 50 = .ok (.invokespecial 34, 3) := by decide +kernel
theorem dX8_init_53 : decode cX8_init 53 = .ok (.putfield 37, 3) := by decide +kernel
theorem dX8_init_56 : decode cX8_init 56 = .ok (.aload_n 0, 1) := by decide +kernel
theorem dX8_init_57 : decode cX8_init 57 = .ok (.new 41, 3) := by decide +kernel
theorem dX8_init_60 : decode cX8_init 60 = .ok (.dup, 1) := by decide +kernel
theorem dX8_init_61 : decode cX8_init 61 = .ok (.aload_n 0, 1) := by decide +kernel
theorem dX8_init_62 : decode cX8_init 62 = .ok (.getfield 37, 3) := by decide +kernel
theorem dX8_init_65 : decode cX8_init 65 = .ok (.invokespecial 43, 3) := by decide +kernel
theorem dX8_init_68 : decode cX8_init 68 = .ok (.putfield 46, 3) := by decide +kernel
theorem dX8_init_71 : decode cX8_init 71 = .ok (.aload_n 0, 1) := by decide +kernel
theorem dX8_init_72 : decode cX8_init 72 = .ok (.new 50, 3) := by decide +kernel
theorem dX8_init_75 : decode cX8_init 75 = .ok (.dup, 1) := by decide +kernel
theorem dX8_init_76 : decode cX8_init 76 = .ok (.aload_n 0, 1) := by decide +kernel
theorem dX8_init_77 : decode cX8_init 77 = .ok (.getfield 28, 3) := by decide +kernel
theorem dX8_init_80 : decode cX8_init 80 = .ok (.invokespecial 52, 3) := by decide +kernel
theorem dX8_init_83 : decode cX8_init 83 = .ok (.putfield 53, 3) := by decide +kernel
theorem dX8_init_86 : decode cX8_init 86 = .ok (.aload_n 0, 1) := by decide +kernel
theorem dX8_init_87 : decode cX8_init 87 = .ok (.new 57, 3) := by decide +kernel
theorem dX8_init_90 : decode cX8_init 90 = .ok (.dup, 1) := by decide +kernel
theorem dX8_init_91 : decode cX8_init 91 = .ok (.invokespecial 59, 3) := by decide +kernel
theorem dX8_init_94 : decode cX8_init 94 = .ok (.putfield 60, 3) := by decide +kernel
theorem dX8_init_97 : decode cX8_init 97 = .ok (.aload_n 0, 1) := by decide +kernel
theorem dX8_init_98 : decode cX8_init 98 = .ok (.iconst 4, 1) := by decide +kernel
theorem dX8_init_99 : decode cX8_init 99 = .ok (.anewarray 64, 3) := by decide +kernel
theorem dX8_init_102 : decode cX8_init 102 = .ok (.putfield 66, 3) := by decide +kernel
theorem dX8_init_105 : decode cX8_init 105 = .ok (.iconst 0, 1) := by decide +kernel
theorem dX8_init_106 : decode cX8_init 106 = .ok (.istore_n 1, 1) := by decide +kernel
theorem dX8_init_107 : decode cX8_init 107 = .ok (.iload_n 1, 1) := by decide +kernel
theorem dX8_init_108 : decode cX8_init 108 = .ok (.iconst 4, 1) := by decide +kernel
theorem dX8_init_109 : decode cX8_init 109 = .ok (.if_icmp .ge 22, 3) := by decide +kernel
theorem dX8_init_112 : decode cX8_init 112 = .ok (.aload_n 0, 1) := by decide +kernel
theorem dX8_init_113 : decode cX8_init 113 = .ok (.getfield 66, 3) := by decide +kernel
theorem dX8_init_116 : decode cX8_init 116 = .ok (.iload_n 1, 1) := by decide +kernel
theorem dX8_init_117 : decode cX8_init 117 = .ok (.new 64, 3) := by decide +kernel
theorem dX8_init_120 : decode cX8_init 120 = .ok (.dup, 1) := by decide +kernel
theorem dX8_init_121 : decode cX8_init 121 = .ok (.invokespecial 70, 3) := by decide +kernel
theorem dX8_init_124 : decode cX8_init 124 = .ok (.aastore, 1) := by decide +kernel
theorem dX8_init_125 : decode cX8_init 125 = .ok (.iinc 1 1, 3) := by decide +kernel
theorem dX8_init_128 : decode cX8_init 128 = .ok (.goto (-21), 3) := by decide +kernel
theorem dX8_init_131 : decode cX8_init 131 = .ok (.aload_n 0, 1) := by decide +kernel
theorem dX8_init_132 : decode cX8_init 132 = .ok (.iconst 0, 1) := by decide +kernel
theorem dX8_init_133 : decode cX8_init 133 = .ok (.putfield 71, 3) := by decide +kernel
theorem dX8_init_136 : decode cX8_init 136 = .ok (.return_, 1) := by decide +kernel
theorem dX8_count_0 : decode cX8_count 0 = .ok (.iload_n 1, 1) := by decide +kernel
theorem dX8_count_1 : decode cX8_count 1 = .ok (.tableswitch 114 0 6 #[43, 54, 65, 76, 87, 95, 106], 43) := by decide +kernel
theorem dX8_count_44 : decode cX8_count 44 = .ok (.aload_n 0, 1) := by decide +kernel
theorem dX8_count_45 : decode cX8_count 45 = .ok (.getfield 28, 3) := by decide +kernel
theorem dX8_count_48 : decode cX8_count 48 = .ok (.getfield 75, 3) := by decide +kernel
theorem dX8_count_51 : decode cX8_count 51 = .ok (.getfield 78, 3) := by decide +kernel
theorem dX8_count_54 : decode cX8_count 54 = .ok (.ireturn, 1) := by decide +kernel
theorem dX8_count_55 : decode cX8_count 55 = .ok (.aload_n 0, 1) := by decide +kernel
theorem dX8_count_56 : decode cX8_count 56 = .ok (.getfield 28, 3) := by decide +kernel
theorem dX8_count_59 : decode cX8_count 59 = .ok (.getfield 75, 3) := by decide +kernel
theorem dX8_count_62 : decode cX8_count 62 = .ok (.getfield 82, 3) := by decide +kernel
theorem dX8_count_65 : decode cX8_count 65 = .ok (.ireturn, 1) := by decide +kernel
theorem dX8_count_66 : decode cX8_count 66 = .ok (.aload_n 0, 1) := by decide +kernel
theorem dX8_count_67 : decode cX8_count 67 = .ok (.getfield 28, 3) := by decide +kernel
theorem dX8_count_70 : decode cX8_count 70 = .ok (.getfield 75, 3) := by decide +kernel
theorem dX8_count_73 : decode cX8_count 73 = .ok (.getfield 85, 3) := by decide +kernel
theorem dX8_count_76 : decode cX8_count 76 = .ok (.ireturn, 1) := by decide +kernel
theorem dX8_count_77 : decode cX8_count 77 = .ok (.aload_n 0, 1) := by decide +kernel
theorem dX8_count_78 : decode cX8_count 78 = .ok (.getfield 28, 3) := by decide +kernel
theorem dX8_count_81 : decode cX8_count 81 = .ok (.getfield 75, 3) := by decide +kernel
theorem dX8_count_84 : decode cX8_count 84 = .ok (.getfield 88, 3) := by decide +kernel
theorem dX8_count_87 : decode cX8_count 87 = .ok (.ireturn, 1) := by decide +kernel
theorem dX8_count_88 : decode cX8_count 88 = .ok (.aload_n 0, 1) := by decide +kernel
theorem dX8_count_89 : decode cX8_count 89 = .ok (.getfield 10, 3) := by decide +kernel
theorem dX8_count_92 : decode cX8_count 92 = .ok (.getfield 91, 3) := by decide +kernel
theorem dX8_count_95 : decode cX8_count 95 = .ok (.ireturn, 1) := by decide +kernel
theorem dX8_count_96 : decode cX8_count 96 = .ok (.aload_n 0, 1) := by decide +kernel
theorem dX8_count_97 : decode cX8_count 97 = .ok (.getfield 28, 3) := by decide +kernel
theorem dX8_count_100 : decode cX8_count 100 = .ok (.getfield 75, 3) := by decide +kernel
theorem dX8_count_103 : decode cX8_count 103 = .ok (.getfield 94, 3) := by decide +kernel
theorem dX8_count_106 : decode cX8_count 106 = .ok (.ireturn, 1) := by decide +kernel
theorem dX8_count_107 : decode cX8_count 107 = .ok (.aload_n 0, 1) := by decide +kernel
theorem dX8_count_108 : decode cX8_count 108 = .ok (.getfield 19, 3) := by decide +kernel
theorem dX8_count_111 : decode cX8_count 111 = .ok (.getfield 97, 3) := by decide +kernel
theorem dX8_count_114 : decode cX8_count 114 = .ok (.ireturn, 1) := by decide +kernel
theorem dX8_count_115 : decode cX8_count 115 = .ok (.bipush (-2), 2) := by decide +kernel
theorem dX8_count_117 : decode cX8_count 117 = .ok (.ireturn, 1) := by decide +kernel
theorem dX8_set_0 : decode cX8_set 0 = .ok (.iload_n 1, 1) := by decide +kernel
theorem dX8_set_1 : decode cX8_set 1 = .ok (.iconst 4, 1) := by decide +kernel
theorem dX8_set_2 : decode cX8_set 2 = .ok (.invokestatic 100, 3) := by decide +kernel
theorem dX8_set_5 : decode cX8_set 5 = .ok (.ifCond .eq 6, 3) := by decide +kernel
theorem dX8_set_8 : decode cX8_set 8 = .ok (.bipush (-5), 2) := by decide +kernel
theorem dX8_set_10 : decode cX8_set 10 = .ok (.ireturn, 1) := by decide +kernel
theorem dX8_set_11 : decode cX8_set 11 = .ok (.iload_n 2, 1) := by decide +kernel
theorem dX8_set_12 : decode cX8_set 12 = .ok (.iload_n 1, 1) := by decide +kernel
theorem dX8_set_13 : decode cX8_set 13 = .ok (.iconst 2, 1) := by decide +kernel
theorem dX8_set_14 : decode cX8_set 14 = .ok (.if_icmp .ge 8, 3) := by decide +kernel
theorem dX8_set_17 : decode cX8_set 17 = .ok (.ldc 104, 2) := by decide +kernel
theorem dX8_set_19 : decode cX8_set 19 = .ok (.goto 4, 3) := by decide +kernel
theorem dX8_set_22 : decode cX8_set 22 = .ok (.iconst 3, 1) := by decide +kernel
theorem dX8_set_23 : decode cX8_set 23 = .ok (.invokestatic 100, 3) := by decide +kernel
theorem dX8_set_26 : decode cX8_set 26 = .ok (.ifCond .eq 6, 3) := by decide +kernel
theorem dX8_set_29 : decode cX8_set 29 = .ok (.bipush (-7), 2) := by decide +kernel
theorem dX8_set_31 : decode cX8_set 31 = .ok (.ireturn, 1) := by decide +kernel
theorem dX8_set_32 : decode cX8_set 32 = .ok (.aload_n 0, 1) := by decide +kernel
theorem dX8_set_33 : decode cX8_set 33 = .ok (.iload_n 1, 1) := by decide +kernel
theorem dX8_set_34 : decode cX8_set 34 = .ok (.invokevirtual 105, 3) := by decide +kernel
theorem dX8_set_37 : decode cX8_set 37 = .ok (.istore_n 3, 1) := by decide +kernel
theorem dX8_set_38 : decode cX8_set 38 = .ok (.iload_n 1, 1) := by decide +kernel
theorem dX8_set_39 : decode cX8_set 39 = .ok (.tableswitch 67 0 2 #[25, 39, 53], 25) := by decide +kernel
theorem dX8_set_64 : decode cX8_set 64 = .ok (.aload_n 0, 1) := by decide +kernel
theorem dX8_set_65 : decode cX8_set 65 = .ok (.getfield 28, 3) := by decide +kernel
theorem dX8_set_68 : decode cX8_set 68 = .ok (.getfield 75, 3) := by decide +kernel
theorem dX8_set_71 : decode cX8_set 71 = .ok (.iload_n 2, 1) := by decide +kernel
theorem dX8_set_72 : decode cX8_set 72 = .ok (.putfield 78, 3) := by decide +kernel
theorem dX8_set_75 : decode cX8_set 75 = .ok (.goto 42, 3) := by decide +kernel
theorem dX8_set_78 : decode cX8_set 78 = .ok (.aload_n 0, 1) := by decide +kernel
theorem dX8_set_79 : decode cX8_set 79 = .ok (.getfield 28, 3) := by decide +kernel
theorem dX8_set_82 : decode cX8_set 82 = .ok (.getfield 75, 3) := by decide +kernel
theorem dX8_set_85 : decode cX8_set 85 = .ok (.iload_n 2, 1) := by decide +kernel
theorem dX8_set_86 : decode cX8_set 86 = .ok (.putfield 82, 3) := by decide +kernel
theorem dX8_set_89 : decode cX8_set 89 = .ok (.goto 28, 3) := by decide +kernel
theorem dX8_set_92 : decode cX8_set 92 = .ok (.aload_n 0, 1) := by decide +kernel
theorem dX8_set_93 : decode cX8_set 93 = .ok (.getfield 28, 3) := by decide +kernel
theorem dX8_set_96 : decode cX8_set 96 = .ok (.getfield 75, 3) := by decide +kernel
theorem dX8_set_99 : decode cX8_set 99 = .ok (.iload_n 2, 1) := by decide +kernel
theorem dX8_set_100 : decode cX8_set 100 = .ok (.putfield 85, 3) := by decide +kernel
theorem dX8_set_103 : decode cX8_set 103 = .ok (.goto 14, 3) := by decide +kernel
theorem dX8_set_106 : decode cX8_set 106 = .ok (.aload_n 0, 1) := by decide +kernel
theorem dX8_set_107 : decode cX8_set 107 = .ok (.getfield 28, 3) := by decide +kernel
theorem dX8_set_110 : decode cX8_set 110 = .ok (.getfield 75, 3) := by decide +kernel
theorem dX8_set_113 : decode cX8_set 113 = .ok (.iload_n 2, 1) := by decide +kernel
theorem dX8_set_114 : decode cX8_set 114 = .ok (.putfield 88, 3) := by decide +kernel
theorem dX8_set_117 : decode cX8_set 117 = .ok (.aload_n 0, 1) := by decide +kernel
theorem dX8_set_118 : decode cX8_set 118 = .ok (.getfield 28, 3) := by decide +kernel
theorem dX8_set_121 : decode cX8_set 121 = .ok (.invokevirtual 109, 3) := by decide +kernel
theorem dX8_set_124 : decode cX8_set 124 = .ok (.iload_n 3, 1) := by decide +kernel
theorem dX8_set_125 : decode cX8_set 125 = .ok (.ireturn, 1) := by decide +kernel
theorem dX8_feed_0 : decode cX8_feed 0 = .ok (.iload_n 1, 1) := by decide +kernel
theorem dX8_feed_1 : decode cX8_feed 1 = .ok (.iconst 1, 1) := by decide +kernel
theorem dX8_feed_2 : decode cX8_feed 2 = .ok (.if_icmp .lt 46, 3) := by decide +kernel
theorem dX8_feed_5 : decode cX8_feed 5 = .ok (.iload_n 1, 1) := by decide +kernel
theorem dX8_feed_6 : decode cX8_feed 6 = .ok (.iconst 5, 1) := by decide +kernel
theorem dX8_feed_7 : decode cX8_feed 7 = .ok (.if_icmp .gt 41, 3) := by decide +kernel
theorem dX8_feed_10 : decode cX8_feed 10 = .ok (.iload_n 2, 1) := by decide +kernel
theorem dX8_feed_11 : decode cX8_feed 11 = .ok (.invokestatic 112, 3) := by decide +kernel
theorem dX8_feed_14 : decode cX8_feed 14 = .ok (.ifCond .ne 34, 3) := by decide +kernel
theorem dX8_feed_17 : decode cX8_feed 17 = .ok (.iload_n 3, 1) := by decide +kernel
theorem dX8_feed_18 : decode cX8_feed 18 = .ok (.invokestatic 112, 3) := by decide +kernel
theorem dX8_feed_21 : decode cX8_feed 21 = .ok (.ifCond .ne 27, 3) := by decide +kernel
theorem dX8_feed_24 : decode cX8_feed 24 = .ok (.iload 4, 2) := by decide +kernel
theorem dX8_feed_26 : decode cX8_feed 26 = .ok (.invokestatic 112, 3) := by decide +kernel
theorem dX8_feed_29 : decode cX8_feed 29 = .ok (.ifCond .ne 19, 3) := by decide +kernel
theorem dX8_feed_32 : decode cX8_feed 32 = .ok (.iload 5, 2) := by decide +kernel
theorem dX8_feed_34 : decode cX8_feed 34 = .ok (.invokestatic 112, 3) := by decide +kernel
theorem dX8_feed_37 : decode cX8_feed 37 = .ok (.ifCond .ne 11, 3) := by decide +kernel
theorem dX8_feed_40 : decode cX8_feed 40 = .ok (.iload 6, 2) := by decide +kernel
theorem dX8_feed_42 : decode cX8_feed 42 = .ok (.invokestatic 112, 3) := by decide +kernel
theorem dX8_feed_45 : decode cX8_feed 45 = .ok (.ifCond .eq 6, 3) := by decide +kernel
theorem dX8_feed_48 : decode cX8_feed 48 = .ok (.bipush (-2), 2) := by decide +kernel
theorem dX8_feed_50 : decode cX8_feed 50 = .ok (.ireturn, 1) := by decide +kernel
theorem dX8_feed_51 : decode cX8_feed 51 = .ok (.aload_n 0, 1) := by decide +kernel
theorem dX8_feed_52 : decode cX8_feed 52 = .ok (.getfield 19, 3) := by decide +kernel
theorem dX8_feed_55 : decode cX8_feed 55 = .ok (.getfield 97, 3) := by decide +kernel
theorem dX8_feed_58 : decode cX8_feed 58 = .ok (.iload_n 1, 1) := by decide +kernel
theorem dX8_feed_59 : decode cX8_feed 59 = .ok (.iadd, 1) := by decide +kernel
theorem dX8_feed_60 : decode cX8_feed 60 = .ok (.sipush 160, 3) := by decide +kernel
theorem dX8_feed_63 : decode cX8_feed 63 = .ok (.if_icmp .le 6, 3) := by decide +kernel
theorem dX8_feed_66 : decode cX8_feed 66 = .ok (.bipush (-4), 2) := by decide +kernel
theorem dX8_feed_68 : decode cX8_feed 68 = .ok (.ireturn, 1) := by decide +kernel
theorem dX8_feed_69 : decode cX8_feed 69 = .ok (.aload_n 0, 1) := by decide +kernel
theorem dX8_feed_70 : decode cX8_feed 70 = .ok (.getfield 19, 3) := by decide +kernel
theorem dX8_feed_73 : decode cX8_feed 73 = .ok (.iload_n 2, 1) := by decide +kernel
theorem dX8_feed_74 : decode cX8_feed 74 = .ok (.invokevirtual 116, 3) := by decide +kernel
theorem dX8_feed_77 : decode cX8_feed 77 = .ok (.iload_n 1, 1) := by decide +kernel
theorem dX8_feed_78 : decode cX8_feed 78 = .ok (.iconst 1, 1) := by decide +kernel
theorem dX8_feed_79 : decode cX8_feed 79 = .ok (.if_icmp .le 11, 3) := by decide +kernel
theorem dX8_feed_82 : decode cX8_feed 82 = .ok (.aload_n 0, 1) := by decide +kernel
theorem dX8_feed_83 : decode cX8_feed 83 = .ok (.getfield 19, 3) := by decide +kernel
theorem dX8_feed_86 : decode cX8_feed 86 = .ok (.iload_n 3, 1) := by decide +kernel
theorem dX8_feed_87 : decode cX8_feed 87 = .ok (.invokevirtual 116, 3) := by decide +kernel
theorem dX8_feed_90 : decode cX8_feed 90 = .ok (.iload_n 1, 1) := by decide +kernel
theorem dX8_feed_91 : decode cX8_feed 91 = .ok (.iconst 2, 1) := by decide +kernel
theorem dX8_feed_92 : decode cX8_feed 92 = .ok (.if_icmp .le 12, 3) := by decide +kernel
theorem dX8_feed_95 : decode cX8_feed 95 = .ok (.aload_n 0, 1) := by decide +kernel
theorem dX8_feed_96 : decode cX8_feed 96 = .ok (.getfield 19, 3) := by decide +kernel
theorem dX8_feed_99 : decode cX8_feed 99 = .ok (.iload 4, 2) := by decide +kernel
theorem dX8_feed_101 : decode cX8_feed 101 = .ok (.invokevirtual 116, 3) := by decide +kernel
theorem dX8_feed_104 : decode cX8_feed 104 = .ok (.iload_n 1, 1) := by decide +kernel
theorem dX8_feed_105 : decode cX8_feed 105 = .ok (.iconst 3, 1) := by decide +kernel
theorem dX8_feed_106 : decode cX8_feed 106 = .ok (.if_icmp .le 12, 3) := by decide +kernel
theorem dX8_feed_109 : decode cX8_feed 109 = .ok (.aload_n 0, 1) := by decide +kernel
theorem dX8_feed_110 : decode cX8_feed 110 = .ok (.getfield 19, 3) := by decide +kernel
theorem dX8_feed_113 : decode cX8_feed 113 = .ok (.iload 5, 2) := by decide +kernel
theorem dX8_feed_115 : decode cX8_feed 115 = .ok (.invokevirtual 116, 3) := by decide +kernel
theorem dX8_feed_118 : decode cX8_feed 118 = .ok (.iload_n 1, 1) := by decide +kernel
theorem dX8_feed_119 : decode cX8_feed 119 = .ok (.iconst 4, 1) := by decide +kernel
theorem dX8_feed_120 : decode cX8_feed 120 = .ok (.if_icmp .le 12, 3) := by decide +kernel
theorem dX8_feed_123 : decode cX8_feed 123 = .ok (.aload_n 0, 1) := by decide +kernel
theorem dX8_feed_124 : decode cX8_feed 124 = .ok (.getfield 19, 3) := by decide +kernel
theorem dX8_feed_127 : decode cX8_feed 127 = .ok (.iload 6, 2) := by decide +kernel
theorem dX8_feed_129 : decode cX8_feed 129 = .ok (.invokevirtual 116, 3) := by decide +kernel
theorem dX8_feed_132 : decode cX8_feed 132 = .ok (.aload_n 0, 1) := by decide +kernel
theorem dX8_feed_133 : decode cX8_feed 133 = .ok (.getfield 19, 3) := by decide +kernel
theorem dX8_feed_136 : decode cX8_feed 136 = .ok (.getfield 97, 3) := by decide +kernel
theorem dX8_feed_139 : decode cX8_feed 139 = .ok (.ireturn, 1) := by decide +kernel
theorem dX8_text_0 : decode cX8_text 0 = .ok (.aload_n 0, 1) := by decide +kernel
theorem dX8_text_1 : decode cX8_text 1 = .ok (.getfield 10, 3) := by decide +kernel
theorem dX8_text_4 : decode cX8_text 4 = .ok (.getfield 91, 3) := by decide +kernel
theorem dX8_text_7 : decode cX8_text 7 = .ok (.bipush 6, 2) := by decide +kernel
theorem dX8_text_9 : decode cX8_text 9 = .ok (.if_icmp .lt 6, 3) := by decide +kernel
theorem dX8_text_12 : decode cX8_text 12 = .ok (.bipush (-4), 2) := by decide +kernel
theorem dX8_text_14 : decode cX8_text 14 = .ok (.ireturn, 1) := by decide +kernel
theorem dX8_text_15 : decode cX8_text 15 = .ok (.aload_n 0, 1) := by decide +kernel
theorem dX8_text_16 : decode cX8_text 16 = .ok (.getfield 19, 3) := by decide +kernel
theorem dX8_text_19 : decode cX8_text 19 = .ok (.invokevirtual 120, 3) := by decide +kernel
theorem dX8_text_22 : decode cX8_text 22 = .ok (.istore_n 1, 1) := by decide +kernel
theorem dX8_text_23 : decode cX8_text 23 = .ok (.aload_n 0, 1) := by decide +kernel
theorem dX8_text_24 : decode cX8_text 24 = .ok (.getfield 19, 3) := by decide +kernel
theorem dX8_text_27 : decode cX8_text 27 = .ok (.iconst 0, 1) := by decide +kernel
theorem dX8_text_28 : decode cX8_text 28 = .ok (.putfield 97, 3) := by decide +kernel
theorem dX8_text_31 : decode cX8_text 31 = .ok (.iload_n 1, 1) := by decide +kernel
theorem dX8_text_32 : decode cX8_text 32 = .ok (.ifCond .lt 10, 3) := by decide +kernel
theorem dX8_text_35 : decode cX8_text 35 = .ok (.bipush (-100), 2) := by decide +kernel
theorem dX8_text_37 : decode cX8_text 37 = .ok (.iload_n 1, 1) := by decide +kernel
theorem dX8_text_38 : decode cX8_text 38 = .ok (.isub, 1) := by decide +kernel
theorem dX8_text_39 : decode cX8_text 39 = .ok (.goto 24, 3) := by decide +kernel
theorem dX8_text_42 : decode cX8_text 42 = .ok (.aload_n 0, 1) := by decide +kernel
theorem dX8_text_43 : decode cX8_text 43 = .ok (.getfield 10, 3) := by decide +kernel
theorem dX8_text_46 : decode cX8_text 46 = .ok (.aload_n 0, 1) := by decide +kernel
theorem dX8_text_47 : decode cX8_text 47 = .ok (.getfield 19, 3) := by decide +kernel
theorem dX8_text_50 : decode cX8_text 50 = .ok (.getfield 124, 3) := by decide +kernel
theorem dX8_text_53 : decode cX8_text 53 = .ok (.aload_n 0, 1) := by decide +kernel
theorem dX8_text_54 : decode cX8_text 54 = .ok (.getfield 19, 3) := by decide +kernel
theorem dX8_text_57 : decode cX8_text 57 = .ok (.getfield 128, 3) := by decide +kernel
theorem dX8_text_60 : decode cX8_text 60 = .ok (.invokevirtual 131, 3) := by decide +kernel
theorem dX8_text_63 : decode cX8_text 63 = .ok (.ireturn, 1) := by decide +kernel
theorem dX8_force_0 : decode cX8_force 0 = .ok (.iload_n 1, 1) := by decide +kernel
theorem dX8_force_1 : decode cX8_force 1 = .ok (.aload_n 0, 1) := by decide +kernel
theorem dX8_force_2 : decode cX8_force 2 = .ok (.getfield 10, 3) := by decide +kernel
theorem dX8_force_5 : decode cX8_force 5 = .ok (.getfield 91, 3) := by decide +kernel
theorem dX8_force_8 : decode cX8_force 8 = .ok (.invokestatic 100, 3) := by decide +kernel
theorem dX8_force_11 : decode cX8_force 11 = .ok (.ifCond .eq 6, 3) := by decide +kernel
theorem dX8_force_14 : decode cX8_force 14 = .ok (.bipush (-2), 2) := by decide +kernel
theorem dX8_force_16 : decode cX8_force 16 = .ok (.ireturn, 1) := by decide +kernel
theorem dX8_force_17 : decode cX8_force 17 = .ok (.aload_n 0, 1) := by decide +kernel
theorem dX8_force_18 : decode cX8_force 18 = .ok (.getfield 28, 3) := by decide +kernel
theorem dX8_force_21 : decode cX8_force 21 = .ok (.getfield 75, 3) := by decide +kernel
theorem dX8_force_24 : decode cX8_force 24 = .ok (.getfield 94, 3) := by decide +kernel
theorem dX8_force_27 : decode cX8_force 27 = .ok (.istore_n 2, 1) := by decide +kernel
theorem dX8_force_28 : decode cX8_force 28 = .ok (.aload_n 0, 1) := by decide +kernel
theorem dX8_force_29 : decode cX8_force 29 = .ok (.getfield 28, 3) := by decide +kernel
theorem dX8_force_32 : decode cX8_force 32 = .ok (.iload_n 1, 1) := by decide +kernel
theorem dX8_force_33 : decode cX8_force 33 = .ok (.invokevirtual 135, 3) := by decide +kernel
theorem dX8_force_36 : decode cX8_force 36 = .ok (.iload_n 2, 1) := by decide +kernel
theorem dX8_force_37 : decode cX8_force 37 = .ok (.ireturn, 1) := by decide +kernel
theorem dX8_asks_0 : decode cX8_asks 0 = .ok (.iload_n 1, 1) := by decide +kernel
theorem dX8_asks_1 : decode cX8_asks 1 = .ok (.iconst 3, 1) := by decide +kernel
theorem dX8_asks_2 : decode cX8_asks 2 = .ok (.invokestatic 100, 3) := by decide +kernel
theorem dX8_asks_5 : decode cX8_asks 5 = .ok (.ifCond .ne 21, 3) := by decide +kernel
theorem dX8_asks_8 : decode cX8_asks 8 = .ok (.iload_n 2, 1) := by decide +kernel
theorem dX8_asks_9 : decode cX8_asks 9 = .ok (.bipush 16, 2) := by decide +kernel
theorem dX8_asks_11 : decode cX8_asks 11 = .ok (.invokestatic 100, 3) := by decide +kernel
theorem dX8_asks_14 : decode cX8_asks 14 = .ok (.ifCond .ne 12, 3) := by decide +kernel
theorem dX8_asks_17 : decode cX8_asks 17 = .ok (.iload_n 3, 1) := by decide +kernel
theorem dX8_asks_18 : decode cX8_asks 18 = .ok (.bipush 17, 2) := by decide +kernel
theorem dX8_asks_20 : decode cX8_asks 20 = .ok (.invokestatic 100, 3) := by decide +kernel
theorem dX8_asks_23 : decode cX8_asks 23 = .ok (.ifCond .eq 6, 3) := by decide +kernel
theorem dX8_asks_26 : decode cX8_asks 26 = .ok (.bipush (-2), 2) := by decide +kernel
theorem dX8_asks_28 : decode cX8_asks 28 = .ok (.ireturn, 1) := by decide +kernel
theorem dX8_asks_29 : decode cX8_asks 29 = .ok (.aload_n 0, 1) := by decide +kernel
theorem dX8_asks_30 : decode cX8_asks 30 = .ok (.getfield 28, 3) := by decide +kernel
theorem dX8_asks_33 : decode cX8_asks 33 = .ok (.iload_n 1, 1) := by decide +kernel
theorem dX8_asks_34 : decode cX8_asks 34 = .ok (.iload_n 2, 1) := by decide +kernel
theorem dX8_asks_35 : decode cX8_asks 35 = .ok (.iload_n 3, 1) := by decide +kernel
theorem dX8_asks_36 : decode cX8_asks 36 = .ok (.invokevirtual 138, 3) := by decide +kernel
theorem dX8_asks_39 : decode cX8_asks 39 = .ok (.ireturn, 1) := by decide +kernel
theorem dX8_lay_0 : decode cX8_lay 0 = .ok (.iload_n 1, 1) := by decide +kernel
theorem dX8_lay_1 : decode cX8_lay 1 = .ok (.bipush 16, 2) := by decide +kernel
theorem dX8_lay_3 : decode cX8_lay 3 = .ok (.invokestatic 100, 3) := by decide +kernel
theorem dX8_lay_6 : decode cX8_lay 6 = .ok (.ifCond .eq 6, 3) := by decide +kernel
theorem dX8_lay_9 : decode cX8_lay 9 = .ok (.bipush (-5), 2) := by decide +kernel
theorem dX8_lay_11 : decode cX8_lay 11 = .ok (.ireturn, 1) := by decide +kernel
theorem dX8_lay_12 : decode cX8_lay 12 = .ok (.iload_n 2, 1) := by decide +kernel
theorem dX8_lay_13 : decode cX8_lay 13 = .ok (.bipush 6, 2) := by decide +kernel
theorem dX8_lay_15 : decode cX8_lay 15 = .ok (.invokestatic 100, 3) := by decide +kernel
theorem dX8_lay_18 : decode cX8_lay 18 = .ok (.ifCond .ne 12, 3) := by decide +kernel
theorem dX8_lay_21 : decode cX8_lay 21 = .ok (.iload_n 3, 1) := by decide +kernel
theorem dX8_lay_22 : decode cX8_lay 22 = .ok (.bipush 10, 2) := by decide +kernel
theorem dX8_lay_24 : decode cX8_lay 24 = .ok (.invokestatic 100, 3) := by decide +kernel
theorem dX8_lay_27 : decode cX8_lay 27 = .ok (.ifCond .eq 6, 3) := by decide +kernel
theorem dX8_lay_30 : decode cX8_lay 30 = .ok (.bipush (-7), 2) := by decide +kernel
theorem dX8_lay_32 : decode cX8_lay 32 = .ok (.ireturn, 1) := by decide +kernel
theorem dX8_lay_33 : decode cX8_lay 33 = .ok (.bipush 10, 2) := by decide +kernel
theorem dX8_lay_35 : decode cX8_lay 35 = .ok (.aload_n 0, 1) := by decide +kernel
theorem dX8_lay_36 : decode cX8_lay 36 = .ok (.getfield 28, 3) := by decide +kernel
theorem dX8_lay_39 : decode cX8_lay 39 = .ok (.getfield 75, 3) := by decide +kernel
theorem dX8_lay_42 : decode cX8_lay 42 = .ok (.getfield 142, 3) := by decide +kernel
theorem dX8_lay_45 : decode cX8_lay 45 = .ok (.iload_n 1, 1) := by decide +kernel
theorem dX8_lay_46 : decode cX8_lay 46 = .ok (.iaload, 1) := by decide +kernel
theorem dX8_lay_47 : decode cX8_lay 47 = .ok (.imul, 1) := by decide +kernel
theorem dX8_lay_48 : decode cX8_lay 48 = .ok (.aload_n 0, 1) := by decide +kernel
theorem dX8_lay_49 : decode cX8_lay 49 = .ok (.getfield 28, 3) := by decide +kernel
theorem dX8_lay_52 : decode cX8_lay 52 = .ok (.getfield 75, 3) := by decide +kernel
theorem dX8_lay_55 : decode cX8_lay 55 = .ok (.getfield 145, 3) := by decide +kernel
theorem dX8_lay_58 : decode cX8_lay 58 = .ok (.iload_n 1, 1) := by decide +kernel
theorem dX8_lay_59 : decode cX8_lay 59 = .ok (.iaload, 1) := by decide +kernel
theorem dX8_lay_60 : decode cX8_lay 60 = .ok (.iadd, 1) := by decide +kernel
theorem dX8_lay_61 : decode cX8_lay 61 = .ok (.istore 4, 2) := by decide +kernel
theorem dX8_lay_63 : decode cX8_lay 63 = .ok (.aload_n 0, 1) := by decide +kernel
theorem dX8_lay_64 : decode cX8_lay 64 = .ok (.getfield 28, 3) := by decide +kernel
theorem dX8_lay_67 : decode cX8_lay 67 = .ok (.iload_n 1, 1) := by decide +kernel
theorem dX8_lay_68 : decode cX8_lay 68 = .ok (.iload_n 2, 1) := by decide +kernel
theorem dX8_lay_69 : decode cX8_lay 69 = .ok (.iload_n 3, 1) := by decide +kernel
theorem dX8_lay_70 : decode cX8_lay 70 = .ok (.invokevirtual 148, 3) := by decide +kernel
theorem dX8_lay_73 : decode cX8_lay 73 = .ok (.iload 4, 2) := by decide +kernel
theorem dX8_lay_75 : decode cX8_lay 75 = .ok (.ireturn, 1) := by decide +kernel
theorem dX8_told_0 : decode cX8_told 0 = .ok (.iload_n 1, 1) := by decide +kernel
theorem dX8_told_1 : decode cX8_told 1 = .ok (.bipush 16, 2) := by decide +kernel
theorem dX8_told_3 : decode cX8_told 3 = .ok (.invokestatic 100, 3) := by decide +kernel
theorem dX8_told_6 : decode cX8_told 6 = .ok (.ifCond .eq 6, 3) := by decide +kernel
theorem dX8_told_9 : decode cX8_told 9 = .ok (.bipush (-5), 2) := by decide +kernel
theorem dX8_told_11 : decode cX8_told 11 = .ok (.ireturn, 1) := by decide +kernel
theorem dX8_told_12 : decode cX8_told 12 = .ok (.iload_n 2, 1) := by decide +kernel
theorem dX8_told_13 : decode cX8_told 13 = .ok (.tableswitch 111 0 5 #[39, 52, 65, 75, 84, 101], 39) := by decide +kernel
theorem dX8_told_52 : decode cX8_told 52 = .ok (.aload_n 0, 1) := by decide +kernel
theorem dX8_told_53 : decode cX8_told 53 = .ok (.getfield 28, 3) := by decide +kernel
theorem dX8_told_56 : decode cX8_told 56 = .ok (.getfield 75, 3) := by decide +kernel
theorem dX8_told_59 : decode cX8_told 59 = .ok (.getfield 142, 3) := by decide +kernel
theorem dX8_told_62 : decode cX8_told 62 = .ok (.iload_n 1, 1) := by decide +kernel
theorem dX8_told_63 : decode cX8_told 63 = .ok (.iaload, 1) := by decide +kernel
theorem dX8_told_64 : decode cX8_told 64 = .ok (.ireturn, 1) := by decide +kernel
theorem dX8_told_65 : decode cX8_told 65 = .ok (.aload_n 0, 1) := by decide +kernel
theorem dX8_told_66 : decode cX8_told 66 = .ok (.getfield 28, 3) := by decide +kernel
theorem dX8_told_69 : decode cX8_told 69 = .ok (.getfield 75, 3) := by decide +kernel
theorem dX8_told_72 : decode cX8_told 72 = .ok (.getfield 145, 3) := by decide +kernel
theorem dX8_told_75 : decode cX8_told 75 = .ok (.iload_n 1, 1) := by decide +kernel
theorem dX8_told_76 : decode cX8_told 76 = .ok (.iaload, 1) := by decide +kernel
theorem dX8_told_77 : decode cX8_told 77 = .ok (.ireturn, 1) := by decide +kernel
theorem dX8_told_78 : decode cX8_told 78 = .ok (.aload_n 0, 1) := by decide +kernel
theorem dX8_told_79 : decode cX8_told 79 = .ok (.getfield 28, 3) := by decide +kernel
theorem dX8_told_82 : decode cX8_told 82 = .ok (.iload_n 1, 1) := by decide +kernel
theorem dX8_told_83 : decode cX8_told 83 = .ok (.iconst 0, 1) := by decide +kernel
theorem dX8_told_84 : decode cX8_told 84 = .ok (.invokevirtual 152, 3) := by decide +kernel
theorem dX8_told_87 : decode cX8_told 87 = .ok (.ireturn, 1) := by decide +kernel
theorem dX8_told_88 : decode cX8_told 88 = .ok (.aload_n 0, 1) := by decide +kernel
theorem dX8_told_89 : decode cX8_told 89 = .ok (.getfield 28, 3) := by decide +kernel
theorem dX8_told_92 : decode cX8_told 92 = .ok (.iload_n 1, 1) := by decide +kernel
theorem dX8_told_93 : decode cX8_told 93 = .ok (.invokevirtual 156, 3) := by decide +kernel
theorem dX8_told_96 : decode cX8_told 96 = .ok (.ireturn, 1) := by decide +kernel
theorem dX8_told_97 : decode cX8_told 97 = .ok (.aload_n 0, 1) := by decide +kernel
theorem dX8_told_98 : decode cX8_told 98 = .ok (.getfield 28, 3) := by decide +kernel
theorem dX8_told_101 : decode cX8_told 101 = .ok (.iload_n 1, 1) := by decide +kernel
theorem dX8_told_102 : decode cX8_told 102 = .ok (.invokevirtual 159, 3) := by decide +kernel
theorem dX8_told_105 : decode cX8_told 105 = .ok (.ifCond .eq 7, 3) := by decide +kernel
theorem dX8_told_108 : decode cX8_told 108 = .ok (.iconst 1, 1) := by decide +kernel
theorem dX8_told_109 : decode cX8_told 109 = .ok (.goto 4, 3) := by decide +kernel
theorem dX8_told_112 : decode cX8_told 112 = .ok (.iconst 0, 1) := by decide +kernel
theorem dX8_told_113 : decode cX8_told 113 = .ok (.ireturn, 1) := by decide +kernel
theorem dX8_told_114 : decode cX8_told 114 = .ok (.aload_n 0, 1) := by decide +kernel
theorem dX8_told_115 : decode cX8_told 115 = .ok (.getfield 28, 3) := by decide +kernel
theorem dX8_told_118 : decode cX8_told 118 = .ok (.iload_n 1, 1) := by decide +kernel
theorem dX8_told_119 : decode cX8_told 119 = .ok (.iconst 0, 1) := by decide +kernel
theorem dX8_told_120 : decode cX8_told 120 = .ok (.invokevirtual 162, 3) := by decide +kernel
theorem dX8_told_123 : decode cX8_told 123 = .ok (.ireturn, 1) := by decide +kernel
theorem dX8_told_124 : decode cX8_told 124 = .ok (.bipush (-7), 2) := by decide +kernel
theorem dX8_told_126 : decode cX8_told 126 = .ok (.ireturn, 1) := by decide +kernel
theorem dX8_stretch_0 : decode cX8_stretch 0 = .ok (.iload_n 1, 1) := by decide +kernel
theorem dX8_stretch_1 : decode cX8_stretch 1 = .ok (.ldc 104, 2) := by decide +kernel
theorem dX8_stretch_3 : decode cX8_stretch 3 = .ok (.invokestatic 100, 3) := by decide +kernel
theorem dX8_stretch_6 : decode cX8_stretch 6 = .ok (.ifCond .eq 6, 3) := by decide +kernel
theorem dX8_stretch_9 : decode cX8_stretch 9 = .ok (.bipush (-2), 2) := by decide +kernel
theorem dX8_stretch_11 : decode cX8_stretch 11 = .ok (.ireturn, 1) := by decide +kernel
theorem dX8_stretch_12 : decode cX8_stretch 12 = .ok (.aload_n 0, 1) := by decide +kernel
theorem dX8_stretch_13 : decode cX8_stretch 13 = .ok (.getfield 37, 3) := by decide +kernel
theorem dX8_stretch_16 : decode cX8_stretch 16 = .ok (.iload_n 1, 1) := by decide +kernel
theorem dX8_stretch_17 : decode cX8_stretch 17 = .ok (.invokevirtual 165, 3) := by decide +kernel
theorem dX8_stretch_20 : decode cX8_stretch 20 = .ok (.iload_n 2, 1) := by decide +kernel
theorem dX8_stretch_21 : decode cX8_stretch 21 = .ok (.tableswitch 51 0 2 #[27, 35, 43], 27) := by decide +kernel
theorem dX8_stretch_48 : decode cX8_stretch 48 = .ok (.aload_n 0, 1) := by decide +kernel
theorem dX8_stretch_49 : decode cX8_stretch 49 = .ok (.getfield 37, 3) := by decide +kernel
theorem dX8_stretch_52 : decode cX8_stretch 52 = .ok (.getfield 168, 3) := by decide +kernel
theorem dX8_stretch_55 : decode cX8_stretch 55 = .ok (.ireturn, 1) := by decide +kernel
theorem dX8_stretch_56 : decode cX8_stretch 56 = .ok (.aload_n 0, 1) := by decide +kernel
theorem dX8_stretch_57 : decode cX8_stretch 57 = .ok (.getfield 37, 3) := by decide +kernel
theorem dX8_stretch_60 : decode cX8_stretch 60 = .ok (.getfield 171, 3) := by decide +kernel
theorem dX8_stretch_63 : decode cX8_stretch 63 = .ok (.ireturn, 1) := by decide +kernel
theorem dX8_stretch_64 : decode cX8_stretch 64 = .ok (.aload_n 0, 1) := by decide +kernel
theorem dX8_stretch_65 : decode cX8_stretch 65 = .ok (.getfield 37, 3) := by decide +kernel
theorem dX8_stretch_68 : decode cX8_stretch 68 = .ok (.getfield 174, 3) := by decide +kernel
theorem dX8_stretch_71 : decode cX8_stretch 71 = .ok (.ireturn, 1) := by decide +kernel
theorem dX8_stretch_72 : decode cX8_stretch 72 = .ok (.bipush (-2), 2) := by decide +kernel
theorem dX8_stretch_74 : decode cX8_stretch 74 = .ok (.ireturn, 1) := by decide +kernel
theorem dX8_mean_0 : decode cX8_mean 0 = .ok (.iload_n 1, 1) := by decide +kernel
theorem dX8_mean_1 : decode cX8_mean 1 = .ok (.ldc 104, 2) := by decide +kernel
theorem dX8_mean_3 : decode cX8_mean 3 = .ok (.invokestatic 100, 3) := by decide +kernel
theorem dX8_mean_6 : decode cX8_mean 6 = .ok (.ifCond .ne 11, 3) := by decide +kernel
theorem dX8_mean_9 : decode cX8_mean 9 = .ok (.iload_n 2, 1) := by decide +kernel
theorem dX8_mean_10 : decode cX8_mean 10 = .ok (.iconst 3, 1) := by decide +kernel
theorem dX8_mean_11 : decode cX8_mean 11 = .ok (.invokestatic 100, 3) := by decide +kernel
theorem dX8_mean_14 : decode cX8_mean 14 = .ok (.ifCond .eq 7, 3) := by decide +kernel
theorem dX8_mean_17 : decode cX8_mean 17 = .ok (.ldc2_w 177, 3) := by decide +kernel
theorem dX8_mean_20 : decode cX8_mean 20 = .ok (.lreturn, 1) := by decide +kernel
theorem dX8_mean_21 : decode cX8_mean 21 = .ok (.aload_n 0, 1) := by decide +kernel
theorem dX8_mean_22 : decode cX8_mean 22 = .ok (.getfield 37, 3) := by decide +kernel
theorem dX8_mean_25 : decode cX8_mean 25 = .ok (.iload_n 2, 1) := by decide +kernel
theorem dX8_mean_26 : decode cX8_mean 26 = .ok (.invokevirtual 179, 3) := by decide +kernel
theorem dX8_mean_29 : decode cX8_mean 29 = .ok (.aload_n 0, 1) := by decide +kernel
theorem dX8_mean_30 : decode cX8_mean 30 = .ok (.getfield 37, 3) := by decide +kernel
theorem dX8_mean_33 : decode cX8_mean 33 = .ok (.iload_n 1, 1) := by decide +kernel
theorem dX8_mean_34 : decode cX8_mean 34 = .ok (.invokevirtual 182, 3) := by decide +kernel
theorem dX8_mean_37 : decode cX8_mean 37 = .ok (.lreturn, 1) := by decide +kernel
theorem dX8_plan_0 : decode cX8_plan 0 = .ok (.aload_n 0, 1) := by decide +kernel
theorem dX8_plan_1 : decode cX8_plan 1 = .ok (.getfield 37, 3) := by decide +kernel
theorem dX8_plan_4 : decode cX8_plan 4 = .ok (.aload_n 0, 1) := by decide +kernel
theorem dX8_plan_5 : decode cX8_plan 5 = .ok (.getfield 28, 3) := by decide +kernel
theorem dX8_plan_8 : decode cX8_plan 8 = .ok (.getfield 75, 3) := by decide +kernel
theorem dX8_plan_11 : decode cX8_plan 11 = .ok (.getfield 85, 3) := by decide +kernel
theorem dX8_plan_14 : decode cX8_plan 14 = .ok (.invokevirtual 179, 3) := by decide +kernel
theorem dX8_plan_17 : decode cX8_plan 17 = .ok (.aload_n 0, 1) := by decide +kernel
theorem dX8_plan_18 : decode cX8_plan 18 = .ok (.getfield 37, 3) := by decide +kernel
theorem dX8_plan_21 : decode cX8_plan 21 = .ok (.aload_n 0, 1) := by decide +kernel
theorem dX8_plan_22 : decode cX8_plan 22 = .ok (.getfield 28, 3) := by decide +kernel
theorem dX8_plan_25 : decode cX8_plan 25 = .ok (.getfield 75, 3) := by decide +kernel
theorem dX8_plan_28 : decode cX8_plan 28 = .ok (.getfield 78, 3) := by decide +kernel
theorem dX8_plan_31 : decode cX8_plan 31 = .ok (.invokevirtual 182, 3) := by decide +kernel
theorem dX8_plan_34 : decode cX8_plan 34 = .ok (.lreturn, 1) := by decide +kernel
theorem dX8_best_0 : decode cX8_best 0 = .ok (.iload_n 1, 1) := by decide +kernel
theorem dX8_best_1 : decode cX8_best 1 = .ok (.iconst 5, 1) := by decide +kernel
theorem dX8_best_2 : decode cX8_best 2 = .ok (.invokestatic 100, 3) := by decide +kernel
theorem dX8_best_5 : decode cX8_best 5 = .ok (.ifCond .ne 11, 3) := by decide +kernel
theorem dX8_best_8 : decode cX8_best 8 = .ok (.iload_n 2, 1) := by decide +kernel
theorem dX8_best_9 : decode cX8_best 9 = .ok (.iconst 2, 1) := by decide +kernel
theorem dX8_best_10 : decode cX8_best 10 = .ok (.invokestatic 100, 3) := by decide +kernel
theorem dX8_best_13 : decode cX8_best 13 = .ok (.ifCond .eq 7, 3) := by decide +kernel
theorem dX8_best_16 : decode cX8_best 16 = .ok (.ldc2_w 177, 3) := by decide +kernel
theorem dX8_best_19 : decode cX8_best 19 = .ok (.lreturn, 1) := by decide +kernel
theorem dX8_best_20 : decode cX8_best 20 = .ok (.aload_n 0, 1) := by decide +kernel
theorem dX8_best_21 : decode cX8_best 21 = .ok (.getfield 37, 3) := by decide +kernel
theorem dX8_best_24 : decode cX8_best 24 = .ok (.aload_n 0, 1) := by decide +kernel
theorem dX8_best_25 : decode cX8_best 25 = .ok (.getfield 28, 3) := by decide +kernel
theorem dX8_best_28 : decode cX8_best 28 = .ok (.getfield 75, 3) := by decide +kernel
theorem dX8_best_31 : decode cX8_best 31 = .ok (.getfield 85, 3) := by decide +kernel
theorem dX8_best_34 : decode cX8_best 34 = .ok (.invokevirtual 179, 3) := by decide +kernel
theorem dX8_best_37 : decode cX8_best 37 = .ok (.aload_n 0, 1) := by decide +kernel
theorem dX8_best_38 : decode cX8_best 38 = .ok (.getfield 46, 3) := by decide +kernel
theorem dX8_best_41 : decode cX8_best 41 = .ok (.invokevirtual 186, 3) := by decide +kernel
theorem dX8_best_44 : decode cX8_best 44 = .ok (.aload_n 0, 1) := by decide +kernel
theorem dX8_best_45 : decode cX8_best 45 = .ok (.getfield 46, 3) := by decide +kernel
theorem dX8_best_48 : decode cX8_best 48 = .ok (.iload_n 1, 1) := by decide +kernel
theorem dX8_best_49 : decode cX8_best 49 = .ok (.invokevirtual 189, 3) := by decide +kernel
theorem dX8_best_52 : decode cX8_best 52 = .ok (.aload_n 0, 1) := by decide +kernel
theorem dX8_best_53 : decode cX8_best 53 = .ok (.getfield 46, 3) := by decide +kernel
theorem dX8_best_56 : decode cX8_best 56 = .ok (.iload_n 2, 1) := by decide +kernel
theorem dX8_best_57 : decode cX8_best 57 = .ok (.invokevirtual 192, 3) := by decide +kernel
theorem dX8_best_60 : decode cX8_best 60 = .ok (.lreturn, 1) := by decide +kernel
theorem dX8_every_0 : decode cX8_every 0 = .ok (.iload_n 1, 1) := by decide +kernel
theorem dX8_every_1 : decode cX8_every 1 = .ok (.iconst 2, 1) := by decide +kernel
theorem dX8_every_2 : decode cX8_every 2 = .ok (.invokestatic 100, 3) := by decide +kernel
theorem dX8_every_5 : decode cX8_every 5 = .ok (.ifCond .eq 7, 3) := by decide +kernel
theorem dX8_every_8 : decode cX8_every 8 = .ok (.ldc2_w 177, 3) := by decide +kernel
theorem dX8_every_11 : decode cX8_every 11 = .ok (.lreturn, 1) := by decide +kernel
theorem dX8_every_12 : decode cX8_every 12 = .ok (.aload_n 0, 1) := by decide +kernel
theorem dX8_every_13 : decode cX8_every 13 = .ok (.getfield 37, 3) := by decide +kernel
theorem dX8_every_16 : decode cX8_every 16 = .ok (.aload_n 0, 1) := by decide +kernel
theorem dX8_every_17 : decode cX8_every 17 = .ok (.getfield 28, 3) := by decide +kernel
theorem dX8_every_20 : decode cX8_every 20 = .ok (.getfield 75, 3) := by decide +kernel
theorem dX8_every_23 : decode cX8_every 23 = .ok (.getfield 85, 3) := by decide +kernel
theorem dX8_every_26 : decode cX8_every 26 = .ok (.invokevirtual 179, 3) := by decide +kernel
theorem dX8_every_29 : decode cX8_every 29 = .ok (.aload_n 0, 1) := by decide +kernel
theorem dX8_every_30 : decode cX8_every 30 = .ok (.getfield 46, 3) := by decide +kernel
theorem dX8_every_33 : decode cX8_every 33 = .ok (.invokevirtual 186, 3) := by decide +kernel
theorem dX8_every_36 : decode cX8_every 36 = .ok (.iconst 2, 1) := by decide +kernel
theorem dX8_every_37 : decode cX8_every 37 = .ok (.istore_n 2, 1) := by decide +kernel
theorem dX8_every_38 : decode cX8_every 38 = .ok (.iload_n 2, 1) := by decide +kernel
theorem dX8_every_39 : decode cX8_every 39 = .ok (.bipush 16, 2) := by decide +kernel
theorem dX8_every_41 : decode cX8_every 41 = .ok (.if_icmp .gt 28, 3) := by decide +kernel
theorem dX8_every_44 : decode cX8_every 44 = .ok (.aload_n 0, 1) := by decide +kernel
theorem dX8_every_45 : decode cX8_every 45 = .ok (.getfield 46, 3) := by decide +kernel
theorem dX8_every_48 : decode cX8_every 48 = .ok (.iload_n 2, 1) := by decide +kernel
theorem dX8_every_49 : decode cX8_every 49 = .ok (.aload_n 0, 1) := by decide +kernel
theorem dX8_every_50 : decode cX8_every 50 = .ok (.getfield 37, 3) := by decide +kernel
theorem dX8_every_53 : decode cX8_every 53 = .ok (.iload_n 2, 1) := by decide +kernel
theorem dX8_every_54 : decode cX8_every 54 = .ok (.invokestatic 195, 3) := by decide +kernel
theorem dX8_every_57 : decode cX8_every 57 = .ok (.invokevirtual 182, 3) := by decide +kernel
theorem dX8_every_60 : decode cX8_every 60 = .ok (.invokevirtual 198, 3) := by decide +kernel
theorem dX8_every_63 : decode cX8_every 63 = .ok (.iinc 2 1, 3) := by decide +kernel
theorem dX8_every_66 : decode cX8_every 66 = .ok (.goto (-28), 3) := by decide +kernel
theorem dX8_every_69 : decode cX8_every 69 = .ok (.aload_n 0, 1) := by decide +kernel
theorem dX8_every_70 : decode cX8_every 70 = .ok (.getfield 46, 3) := by decide +kernel
theorem dX8_every_73 : decode cX8_every 73 = .ok (.iload_n 1, 1) := by decide +kernel
theorem dX8_every_74 : decode cX8_every 74 = .ok (.invokevirtual 192, 3) := by decide +kernel
theorem dX8_every_77 : decode cX8_every 77 = .ok (.lreturn, 1) := by decide +kernel
theorem dX8_which_0 : decode cX8_which 0 = .ok (.iload_n 1, 1) := by decide +kernel
theorem dX8_which_1 : decode cX8_which 1 = .ok (.iconst 2, 1) := by decide +kernel
theorem dX8_which_2 : decode cX8_which 2 = .ok (.invokestatic 100, 3) := by decide +kernel
theorem dX8_which_5 : decode cX8_which 5 = .ok (.ifCond .eq 7, 3) := by decide +kernel
theorem dX8_which_8 : decode cX8_which 8 = .ok (.ldc2_w 177, 3) := by decide +kernel
theorem dX8_which_11 : decode cX8_which 11 = .ok (.lreturn, 1) := by decide +kernel
theorem dX8_which_12 : decode cX8_which 12 = .ok (.aload_n 0, 1) := by decide +kernel
theorem dX8_which_13 : decode cX8_which 13 = .ok (.getfield 46, 3) := by decide +kernel
theorem dX8_which_16 : decode cX8_which 16 = .ok (.invokevirtual 186, 3) := by decide +kernel
theorem dX8_which_19 : decode cX8_which 19 = .ok (.iconst 0, 1) := by decide +kernel
theorem dX8_which_20 : decode cX8_which 20 = .ok (.istore_n 2, 1) := by decide +kernel
theorem dX8_which_21 : decode cX8_which 21 = .ok (.iload_n 2, 1) := by decide +kernel
theorem dX8_which_22 : decode cX8_which 22 = .ok (.iconst 3, 1) := by decide +kernel
theorem dX8_which_23 : decode cX8_which 23 = .ok (.if_icmp .ge 42, 3) := by decide +kernel
theorem dX8_which_26 : decode cX8_which 26 = .ok (.aload_n 0, 1) := by decide +kernel
theorem dX8_which_27 : decode cX8_which 27 = .ok (.getfield 37, 3) := by decide +kernel
theorem dX8_which_30 : decode cX8_which 30 = .ok (.iload_n 2, 1) := by decide +kernel
theorem dX8_which_31 : decode cX8_which 31 = .ok (.invokevirtual 179, 3) := by decide +kernel
theorem dX8_which_34 : decode cX8_which 34 = .ok (.aload_n 0, 1) := by decide +kernel
theorem dX8_which_35 : decode cX8_which 35 = .ok (.getfield 46, 3) := by decide +kernel
theorem dX8_which_38 : decode cX8_which 38 = .ok (.iload_n 2, 1) := by decide +kernel
theorem dX8_which_39 : decode cX8_which 39 = .ok (.aload_n 0, 1) := by decide +kernel
theorem dX8_which_40 : decode cX8_which 40 = .ok (.getfield 37, 3) := by decide +kernel
theorem dX8_which_43 : decode cX8_which 43 = .ok (.aload_n 0, 1) := by decide +kernel
theorem dX8_which_44 : decode cX8_which 44 = .ok (.getfield 28, 3) := by decide +kernel
theorem dX8_which_47 : decode cX8_which 47 = .ok (.getfield 75, 3) := by decide +kernel
theorem dX8_which_50 : decode cX8_which 50 = .ok (.getfield 78, 3) := by decide +kernel
theorem dX8_which_53 : decode cX8_which 53 = .ok (.invokevirtual 182, 3) := by decide +kernel
theorem dX8_which_56 : decode cX8_which 56 = .ok (.invokevirtual 198, 3) := by decide +kernel
theorem dX8_which_59 : decode cX8_which 59 = .ok (.iinc 2 1, 3) := by decide +kernel
theorem dX8_which_62 : decode cX8_which 62 = .ok (.goto (-41), 3) := by decide +kernel
theorem dX8_which_65 : decode cX8_which 65 = .ok (.aload_n 0, 1) := by decide +kernel
theorem dX8_which_66 : decode cX8_which 66 = .ok (.getfield 46, 3) := by decide +kernel
theorem dX8_which_69 : decode cX8_which 69 = .ok (.iload_n 1, 1) := by decide +kernel
theorem dX8_which_70 : decode cX8_which 70 = .ok (.invokevirtual 192, 3) := by decide +kernel
theorem dX8_which_73 : decode cX8_which 73 = .ok (.lreturn, 1) := by decide +kernel
theorem dX8_stop_0 : decode cX8_stop 0 = .ok (.iload_n 1, 1) := by decide +kernel
theorem dX8_stop_1 : decode cX8_stop 1 = .ok (.iconst 2, 1) := by decide +kernel
theorem dX8_stop_2 : decode cX8_stop 2 = .ok (.invokestatic 100, 3) := by decide +kernel
theorem dX8_stop_5 : decode cX8_stop 5 = .ok (.ifCond .eq 7, 3) := by decide +kernel
theorem dX8_stop_8 : decode cX8_stop 8 = .ok (.ldc2_w 177, 3) := by decide +kernel
theorem dX8_stop_11 : decode cX8_stop 11 = .ok (.lreturn, 1) := by decide +kernel
theorem dX8_stop_12 : decode cX8_stop 12 = .ok (.aload_n 0, 1) := by decide +kernel
theorem dX8_stop_13 : decode cX8_stop 13 = .ok (.invokevirtual 202, 3) := by decide +kernel
theorem dX8_stop_16 : decode cX8_stop 16 = .ok (.lstore_n 2, 1) := by decide +kernel
theorem dX8_stop_17 : decode cX8_stop 17 = .ok (.aload_n 0, 1) := by decide +kernel
theorem dX8_stop_18 : decode cX8_stop 18 = .ok (.getfield 46, 3) := by decide +kernel
theorem dX8_stop_21 : decode cX8_stop 21 = .ok (.invokevirtual 186, 3) := by decide +kernel
theorem dX8_stop_24 : decode cX8_stop 24 = .ok (.iconst 0, 1) := by decide +kernel
theorem dX8_stop_25 : decode cX8_stop 25 = .ok (.istore 4, 2) := by decide +kernel
theorem dX8_stop_27 : decode cX8_stop 27 = .ok (.iload 4, 2) := by decide +kernel
theorem dX8_stop_29 : decode cX8_stop 29 = .ok (.bipush 16, 2) := by decide +kernel
theorem dX8_stop_31 : decode cX8_stop 31 = .ok (.if_icmp .ge 84, 3) := by decide +kernel
theorem dX8_stop_34 : decode cX8_stop 34 = .ok (.aload_n 0, 1) := by decide +kernel
theorem dX8_stop_35 : decode cX8_stop 35 = .ok (.getfield 28, 3) := by decide +kernel
theorem dX8_stop_38 : decode cX8_stop 38 = .ok (.getfield 75, 3) := by decide +kernel
theorem dX8_stop_41 : decode cX8_stop 41 = .ok (.getfield 142, 3) := by decide +kernel
theorem dX8_stop_44 : decode cX8_stop 44 = .ok (.iload 4, 2) := by decide +kernel
theorem dX8_stop_46 : decode cX8_stop 46 = .ok (.iaload, 1) := by decide +kernel
theorem dX8_stop_47 : decode cX8_stop 47 = .ok (.istore 5, 2) := by decide +kernel
theorem dX8_stop_49 : decode cX8_stop 49 = .ok (.aload_n 0, 1) := by decide +kernel
theorem dX8_stop_50 : decode cX8_stop 50 = .ok (.getfield 28, 3) := by decide +kernel
theorem dX8_stop_53 : decode cX8_stop 53 = .ok (.iload 4, 2) := by decide +kernel
theorem dX8_stop_55 : decode cX8_stop 55 = .ok (.iconst 4, 1) := by decide +kernel
theorem dX8_stop_56 : decode cX8_stop 56 = .ok (.aload_n 0, 1) := by decide +kernel
theorem dX8_stop_57 : decode cX8_stop 57 = .ok (.getfield 28, 3) := by decide +kernel
theorem dX8_stop_60 : decode cX8_stop 60 = .ok (.getfield 75, 3) := by decide +kernel
theorem dX8_stop_63 : decode cX8_stop 63 = .ok (.getfield 145, 3) := by decide +kernel
theorem dX8_stop_66 : decode cX8_stop 66 = .ok (.iload 4, 2) := by decide +kernel
theorem dX8_stop_68 : decode cX8_stop 68 = .ok (.iaload, 1) := by decide +kernel
theorem dX8_stop_69 : decode cX8_stop 69 = .ok (.invokevirtual 148, 3) := by decide +kernel
theorem dX8_stop_72 : decode cX8_stop 72 = .ok (.aload_n 0, 1) := by decide +kernel
theorem dX8_stop_73 : decode cX8_stop 73 = .ok (.getfield 46, 3) := by decide +kernel
theorem dX8_stop_76 : decode cX8_stop 76 = .ok (.iload 4, 2) := by decide +kernel
theorem dX8_stop_78 : decode cX8_stop 78 = .ok (.aload_n 0, 1) := by decide +kernel
theorem dX8_stop_79 : decode cX8_stop 79 = .ok (.invokevirtual 202, 3) := by decide +kernel
theorem dX8_stop_82 : decode cX8_stop 82 = .ok (.invokevirtual 198, 3) := by decide +kernel
theorem dX8_stop_85 : decode cX8_stop 85 = .ok (.aload_n 0, 1) := by decide +kernel
theorem dX8_stop_86 : decode cX8_stop 86 = .ok (.getfield 28, 3) := by decide +kernel
theorem dX8_stop_89 : decode cX8_stop 89 = .ok (.iload 4, 2) := by decide +kernel
theorem dX8_stop_91 : decode cX8_stop 91 = .ok (.iload 5, 2) := by decide +kernel
theorem dX8_stop_93 : decode cX8_stop 93 = .ok (.aload_n 0, 1) := by decide +kernel
theorem dX8_stop_94 : decode cX8_stop 94 = .ok (.getfield 28, 3) := by decide +kernel
theorem dX8_stop_97 : decode cX8_stop 97 = .ok (.getfield 75, 3) := by decide +kernel
theorem dX8_stop_100 : decode cX8_stop 100 = .ok (.getfield 145, 3) := by decide +kernel
theorem dX8_stop_103 : decode cX8_stop 103 = .ok (.iload 4, 2) := by decide +kernel
theorem dX8_stop_105 : decode cX8_stop 105 = .ok (.iaload, 1) := by decide +kernel
theorem dX8_stop_106 : decode cX8_stop 106 = .ok (.invokevirtual 148, 3) := by decide +kernel
theorem dX8_stop_109 : decode cX8_stop 109 = .ok (.iinc 4 1, 3) := by decide +kernel
theorem dX8_stop_112 : decode cX8_stop 112 = .ok (.goto (-85), 3) := by decide +kernel
theorem dX8_stop_115 : decode cX8_stop 115 = .ok (.aload_n 0, 1) := by decide +kernel
theorem dX8_stop_116 : decode cX8_stop 116 = .ok (.getfield 46, 3) := by decide +kernel
theorem dX8_stop_119 : decode cX8_stop 119 = .ok (.getfield 206, 3) := by decide +kernel
theorem dX8_stop_122 : decode cX8_stop 122 = .ok (.lload_n 2, 1) := by decide +kernel
theorem dX8_stop_123 : decode cX8_stop 123 = .ok (.lcmp, 1) := by decide +kernel
theorem dX8_stop_124 : decode cX8_stop 124 = .ok (.ifCond .lt 15, 3) := by decide +kernel
theorem dX8_stop_127 : decode cX8_stop 127 = .ok (.iload_n 1, 1) := by decide +kernel
theorem dX8_stop_128 : decode cX8_stop 128 = .ok (.ifCond .ne 9, 3) := by decide +kernel
theorem dX8_stop_131 : decode cX8_stop 131 = .ok (.ldc2_w 210, 3) := by decide +kernel
theorem dX8_stop_134 : decode cX8_stop 134 = .ok (.goto 4, 3) := by decide +kernel
theorem dX8_stop_137 : decode cX8_stop 137 = .ok (.lconst 0, 1) := by decide +kernel
theorem dX8_stop_138 : decode cX8_stop 138 = .ok (.lreturn, 1) := by decide +kernel
theorem dX8_stop_139 : decode cX8_stop 139 = .ok (.iload_n 1, 1) := by decide +kernel
theorem dX8_stop_140 : decode cX8_stop 140 = .ok (.ifCond .ne 13, 3) := by decide +kernel
theorem dX8_stop_143 : decode cX8_stop 143 = .ok (.aload_n 0, 1) := by decide +kernel
theorem dX8_stop_144 : decode cX8_stop 144 = .ok (.getfield 46, 3) := by decide +kernel
theorem dX8_stop_147 : decode cX8_stop 147 = .ok (.getfield 212, 3) := by decide +kernel
theorem dX8_stop_150 : decode cX8_stop 150 = .ok (.goto 12, 3) := by decide +kernel
theorem dX8_stop_153 : decode cX8_stop 153 = .ok (.lload_n 2, 1) := by decide +kernel
theorem dX8_stop_154 : decode cX8_stop 154 = .ok (.aload_n 0, 1) := by decide +kernel
theorem dX8_stop_155 : decode cX8_stop 155 = .ok (.getfield 46, 3) := by decide +kernel
theorem dX8_stop_158 : decode cX8_stop 158 = .ok (.getfield 206, 3) := by decide +kernel
theorem dX8_stop_161 : decode cX8_stop 161 = .ok (.lsub, 1) := by decide +kernel
theorem dX8_stop_162 : decode cX8_stop 162 = .ok (.lreturn, 1) := by decide +kernel
theorem dX8_dear_0 : decode cX8_dear 0 = .ok (.iload_n 1, 1) := by decide +kernel
theorem dX8_dear_1 : decode cX8_dear 1 = .ok (.iconst 2, 1) := by decide +kernel
theorem dX8_dear_2 : decode cX8_dear 2 = .ok (.invokestatic 100, 3) := by decide +kernel
theorem dX8_dear_5 : decode cX8_dear 5 = .ok (.ifCond .eq 7, 3) := by decide +kernel
theorem dX8_dear_8 : decode cX8_dear 8 = .ok (.ldc2_w 177, 3) := by decide +kernel
theorem dX8_dear_11 : decode cX8_dear 11 = .ok (.lreturn, 1) := by decide +kernel
theorem dX8_dear_12 : decode cX8_dear 12 = .ok (.aload_n 0, 1) := by decide +kernel
theorem dX8_dear_13 : decode cX8_dear 13 = .ok (.getfield 28, 3) := by decide +kernel
theorem dX8_dear_16 : decode cX8_dear 16 = .ok (.getfield 75, 3) := by decide +kernel
theorem dX8_dear_19 : decode cX8_dear 19 = .ok (.getfield 78, 3) := by decide +kernel
theorem dX8_dear_22 : decode cX8_dear 22 = .ok (.istore_n 2, 1) := by decide +kernel
theorem dX8_dear_23 : decode cX8_dear 23 = .ok (.iload_n 2, 1) := by decide +kernel
theorem dX8_dear_24 : decode cX8_dear 24 = .ok (.ifCond .ne 7, 3) := by decide +kernel
theorem dX8_dear_27 : decode cX8_dear 27 = .ok (.ldc2_w 210, 3) := by decide +kernel
theorem dX8_dear_30 : decode cX8_dear 30 = .ok (.lreturn, 1) := by decide +kernel
theorem dX8_dear_31 : decode cX8_dear 31 = .ok (.aload_n 0, 1) := by decide +kernel
theorem dX8_dear_32 : decode cX8_dear 32 = .ok (.getfield 37, 3) := by decide +kernel
theorem dX8_dear_35 : decode cX8_dear 35 = .ok (.aload_n 0, 1) := by decide +kernel
theorem dX8_dear_36 : decode cX8_dear 36 = .ok (.getfield 28, 3) := by decide +kernel
theorem dX8_dear_39 : decode cX8_dear 39 = .ok (.getfield 75, 3) := by decide +kernel
theorem dX8_dear_42 : decode cX8_dear 42 = .ok (.getfield 85, 3) := by decide +kernel
theorem dX8_dear_45 : decode cX8_dear 45 = .ok (.invokevirtual 179, 3) := by decide +kernel
theorem dX8_dear_48 : decode cX8_dear 48 = .ok (.aload_n 0, 1) := by decide +kernel
theorem dX8_dear_49 : decode cX8_dear 49 = .ok (.getfield 46, 3) := by decide +kernel
theorem dX8_dear_52 : decode cX8_dear 52 = .ok (.invokevirtual 186, 3) := by decide +kernel
theorem dX8_dear_55 : decode cX8_dear 55 = .ok (.iconst 0, 1) := by decide +kernel
theorem dX8_dear_56 : decode cX8_dear 56 = .ok (.istore_n 3, 1) := by decide +kernel
theorem dX8_dear_57 : decode cX8_dear 57 = .ok (.iload_n 3, 1) := by decide +kernel
theorem dX8_dear_58 : decode cX8_dear 58 = .ok (.bipush 16, 2) := by decide +kernel
theorem dX8_dear_60 : decode cX8_dear 60 = .ok (.if_icmp .ge 39, 3) := by decide +kernel
theorem dX8_dear_63 : decode cX8_dear 63 = .ok (.iload_n 2, 1) := by decide +kernel
theorem dX8_dear_64 : decode cX8_dear 64 = .ok (.iload_n 3, 1) := by decide +kernel
theorem dX8_dear_65 : decode cX8_dear 65 = .ok (.invokestatic 215, 3) := by decide +kernel
theorem dX8_dear_68 : decode cX8_dear 68 = .ok (.ifCond .eq 25, 3) := by decide +kernel
theorem dX8_dear_71 : decode cX8_dear 71 = .ok (.aload_n 0, 1) := by decide +kernel
theorem dX8_dear_72 : decode cX8_dear 72 = .ok (.getfield 46, 3) := by decide +kernel
theorem dX8_dear_75 : decode cX8_dear 75 = .ok (.iload_n 3, 1) := by decide +kernel
theorem dX8_dear_76 : decode cX8_dear 76 = .ok (.aload_n 0, 1) := by decide +kernel
theorem dX8_dear_77 : decode cX8_dear 77 = .ok (.getfield 37, 3) := by decide +kernel
theorem dX8_dear_80 : decode cX8_dear 80 = .ok (.iload_n 2, 1) := by decide +kernel
theorem dX8_dear_81 : decode cX8_dear 81 = .ok (.iconst 1, 1) := by decide +kernel
theorem dX8_dear_82 : decode cX8_dear 82 = .ok (.iload_n 3, 1) := by decide +kernel
theorem dX8_dear_83 : decode cX8_dear 83 = .ok (.ishl, 1) := by decide +kernel
theorem dX8_dear_84 : decode cX8_dear 84 = .ok (.iconst (-1), 1) := by decide +kernel
theorem dX8_dear_85 : decode cX8_dear 85 = .ok (.ixor, 1) := by decide +kernel
theorem dX8_dear_86 : decode cX8_dear 86 = .ok (.iand, 1) := by decide +kernel
theorem dX8_dear_87 : decode cX8_dear 87 = .ok (.invokevirtual 182, 3) := by decide +kernel
theorem dX8_dear_90 : decode cX8_dear 90 = .ok (.invokevirtual 198, 3) := by decide +kernel
theorem dX8_dear_93 : decode cX8_dear 93 = .ok (.iinc 3 1, 3) := by decide +kernel
theorem dX8_dear_96 : decode cX8_dear 96 = .ok (.goto (-39), 3) := by decide +kernel
theorem dX8_dear_99 : decode cX8_dear 99 = .ok (.aload_n 0, 1) := by decide +kernel
theorem dX8_dear_100 : decode cX8_dear 100 = .ok (.getfield 46, 3) := by decide +kernel
theorem dX8_dear_103 : decode cX8_dear 103 = .ok (.iload_n 1, 1) := by decide +kernel
theorem dX8_dear_104 : decode cX8_dear 104 = .ok (.invokevirtual 192, 3) := by decide +kernel
theorem dX8_dear_107 : decode cX8_dear 107 = .ok (.lreturn, 1) := by decide +kernel
theorem dX8_likely_0 : decode cX8_likely 0 = .ok (.iload_n 1, 1) := by decide +kernel
theorem dX8_likely_1 : decode cX8_likely 1 = .ok (.ldc 104, 2) := by decide +kernel
theorem dX8_likely_3 : decode cX8_likely 3 = .ok (.invokestatic 100, 3) := by decide +kernel
theorem dX8_likely_6 : decode cX8_likely 6 = .ok (.ifCond .ne 11, 3) := by decide +kernel
theorem dX8_likely_9 : decode cX8_likely 9 = .ok (.iload_n 2, 1) := by decide +kernel
theorem dX8_likely_10 : decode cX8_likely 10 = .ok (.iconst 3, 1) := by decide +kernel
theorem dX8_likely_11 : decode cX8_likely 11 = .ok (.invokestatic 100, 3) := by decide +kernel
theorem dX8_likely_14 : decode cX8_likely 14 = .ok (.ifCond .eq 7, 3) := by decide +kernel
theorem dX8_likely_17 : decode cX8_likely 17 = .ok (.ldc2_w 177, 3) := by decide +kernel
theorem dX8_likely_20 : decode cX8_likely 20 = .ok (.lreturn, 1) := by decide +kernel
theorem dX8_likely_21 : decode cX8_likely 21 = .ok (.aload_n 0, 1) := by decide +kernel
theorem dX8_likely_22 : decode cX8_likely 22 = .ok (.getfield 37, 3) := by decide +kernel
theorem dX8_likely_25 : decode cX8_likely 25 = .ok (.iload_n 2, 1) := by decide +kernel
theorem dX8_likely_26 : decode cX8_likely 26 = .ok (.invokevirtual 179, 3) := by decide +kernel
theorem dX8_likely_29 : decode cX8_likely 29 = .ok (.aload_n 0, 1) := by decide +kernel
theorem dX8_likely_30 : decode cX8_likely 30 = .ok (.getfield 37, 3) := by decide +kernel
theorem dX8_likely_33 : decode cX8_likely 33 = .ok (.iload_n 1, 1) := by decide +kernel
theorem dX8_likely_34 : decode cX8_likely 34 = .ok (.invokevirtual 218, 3) := by decide +kernel
theorem dX8_likely_37 : decode cX8_likely 37 = .ok (.lreturn, 1) := by decide +kernel
theorem dX8_push_0 : decode cX8_push 0 = .ok (.iload_n 1, 1) := by decide +kernel
theorem dX8_push_1 : decode cX8_push 1 = .ok (.bipush 16, 2) := by decide +kernel
theorem dX8_push_3 : decode cX8_push 3 = .ok (.invokestatic 100, 3) := by decide +kernel
theorem dX8_push_6 : decode cX8_push 6 = .ok (.ifCond .eq 6, 3) := by decide +kernel
theorem dX8_push_9 : decode cX8_push 9 = .ok (.bipush (-5), 2) := by decide +kernel
theorem dX8_push_11 : decode cX8_push 11 = .ok (.ireturn, 1) := by decide +kernel
theorem dX8_push_12 : decode cX8_push 12 = .ok (.iload_n 2, 1) := by decide +kernel
theorem dX8_push_13 : decode cX8_push 13 = .ok (.iconst 3, 1) := by decide +kernel
theorem dX8_push_14 : decode cX8_push 14 = .ok (.invokestatic 100, 3) := by decide +kernel
theorem dX8_push_17 : decode cX8_push 17 = .ok (.ifCond .eq 6, 3) := by decide +kernel
theorem dX8_push_20 : decode cX8_push 20 = .ok (.bipush (-7), 2) := by decide +kernel
theorem dX8_push_22 : decode cX8_push 22 = .ok (.ireturn, 1) := by decide +kernel
theorem dX8_push_23 : decode cX8_push 23 = .ok (.aload_n 0, 1) := by decide +kernel
theorem dX8_push_24 : decode cX8_push 24 = .ok (.getfield 28, 3) := by decide +kernel
theorem dX8_push_27 : decode cX8_push 27 = .ok (.iload_n 1, 1) := by decide +kernel
theorem dX8_push_28 : decode cX8_push 28 = .ok (.iload_n 2, 1) := by decide +kernel
theorem dX8_push_29 : decode cX8_push 29 = .ok (.aload_n 0, 1) := by decide +kernel
theorem dX8_push_30 : decode cX8_push 30 = .ok (.getfield 28, 3) := by decide +kernel
theorem dX8_push_33 : decode cX8_push 33 = .ok (.getfield 75, 3) := by decide +kernel
theorem dX8_push_36 : decode cX8_push 36 = .ok (.getfield 88, 3) := by decide +kernel
theorem dX8_push_39 : decode cX8_push 39 = .ok (.invokevirtual 221, 3) := by decide +kernel
theorem dX8_push_42 : decode cX8_push 42 = .ok (.ireturn, 1) := by decide +kernel
theorem dX8_far_0 : decode cX8_far 0 = .ok (.iload_n 1, 1) := by decide +kernel
theorem dX8_far_1 : decode cX8_far 1 = .ok (.iconst 2, 1) := by decide +kernel
theorem dX8_far_2 : decode cX8_far 2 = .ok (.invokestatic 100, 3) := by decide +kernel
theorem dX8_far_5 : decode cX8_far 5 = .ok (.ifCond .eq 6, 3) := by decide +kernel
theorem dX8_far_8 : decode cX8_far 8 = .ok (.bipush (-2), 2) := by decide +kernel
theorem dX8_far_10 : decode cX8_far 10 = .ok (.ireturn, 1) := by decide +kernel
theorem dX8_far_11 : decode cX8_far 11 = .ok (.iconst (-1), 1) := by decide +kernel
theorem dX8_far_12 : decode cX8_far 12 = .ok (.istore_n 2, 1) := by decide +kernel
theorem dX8_far_13 : decode cX8_far 13 = .ok (.iconst (-1), 1) := by decide +kernel
theorem dX8_far_14 : decode cX8_far 14 = .ok (.istore_n 3, 1) := by decide +kernel
theorem dX8_far_15 : decode cX8_far 15 = .ok (.iconst 0, 1) := by decide +kernel
theorem dX8_far_16 : decode cX8_far 16 = .ok (.istore 4, 2) := by decide +kernel
theorem dX8_far_18 : decode cX8_far 18 = .ok (.iload 4, 2) := by decide +kernel
theorem dX8_far_20 : decode cX8_far 20 = .ok (.bipush 16, 2) := by decide +kernel
theorem dX8_far_22 : decode cX8_far 22 = .ok (.if_icmp .ge 64, 3) := by decide +kernel
theorem dX8_far_25 : decode cX8_far 25 = .ok (.aload_n 0, 1) := by decide +kernel
theorem dX8_far_26 : decode cX8_far 26 = .ok (.getfield 28, 3) := by decide +kernel
theorem dX8_far_29 : decode cX8_far 29 = .ok (.iload 4, 2) := by decide +kernel
theorem dX8_far_31 : decode cX8_far 31 = .ok (.iconst 1, 1) := by decide +kernel
theorem dX8_far_32 : decode cX8_far 32 = .ok (.aload_n 0, 1) := by decide +kernel
theorem dX8_far_33 : decode cX8_far 33 = .ok (.getfield 28, 3) := by decide +kernel
theorem dX8_far_36 : decode cX8_far 36 = .ok (.getfield 75, 3) := by decide +kernel
theorem dX8_far_39 : decode cX8_far 39 = .ok (.getfield 88, 3) := by decide +kernel
theorem dX8_far_42 : decode cX8_far 42 = .ok (.invokevirtual 221, 3) := by decide +kernel
theorem dX8_far_45 : decode cX8_far 45 = .ok (.invokestatic 224, 3) := by decide +kernel
theorem dX8_far_48 : decode cX8_far 48 = .ok (.istore 5, 2) := by decide +kernel
theorem dX8_far_50 : decode cX8_far 50 = .ok (.aload_n 0, 1) := by decide +kernel
theorem dX8_far_51 : decode cX8_far 51 = .ok (.getfield 28, 3) := by decide +kernel
theorem dX8_far_54 : decode cX8_far 54 = .ok (.getfield 75, 3) := by decide +kernel
theorem dX8_far_57 : decode cX8_far 57 = .ok (.getfield 82, 3) := by decide +kernel
theorem dX8_far_60 : decode cX8_far 60 = .ok (.iload 4, 2) := by decide +kernel
theorem dX8_far_62 : decode cX8_far 62 = .ok (.invokestatic 215, 3) := by decide +kernel
theorem dX8_far_65 : decode cX8_far 65 = .ok (.ifCond .eq 15, 3) := by decide +kernel
theorem dX8_far_68 : decode cX8_far 68 = .ok (.iload 5, 2) := by decide +kernel
theorem dX8_far_70 : decode cX8_far 70 = .ok (.iload_n 3, 1) := by decide +kernel
theorem dX8_far_71 : decode cX8_far 71 = .ok (.if_icmp .le 9, 3) := by decide +kernel
theorem dX8_far_74 : decode cX8_far 74 = .ok (.iload 4, 2) := by decide +kernel
theorem dX8_far_76 : decode cX8_far 76 = .ok (.istore_n 2, 1) := by decide +kernel
theorem dX8_far_77 : decode cX8_far 77 = .ok (.iload 5, 2) := by decide +kernel
theorem dX8_far_79 : decode cX8_far 79 = .ok (.istore_n 3, 1) := by decide +kernel
theorem dX8_far_80 : decode cX8_far 80 = .ok (.iinc 4 1, 3) := by decide +kernel
theorem dX8_far_83 : decode cX8_far 83 = .ok (.goto (-65), 3) := by decide +kernel
theorem dX8_far_86 : decode cX8_far 86 = .ok (.iload_n 1, 1) := by decide +kernel
theorem dX8_far_87 : decode cX8_far 87 = .ok (.ifCond .ne 7, 3) := by decide +kernel
theorem dX8_far_90 : decode cX8_far 90 = .ok (.iload_n 2, 1) := by decide +kernel
theorem dX8_far_91 : decode cX8_far 91 = .ok (.goto 4, 3) := by decide +kernel
theorem dX8_far_94 : decode cX8_far 94 = .ok (.iload_n 3, 1) := by decide +kernel
theorem dX8_far_95 : decode cX8_far 95 = .ok (.ireturn, 1) := by decide +kernel
theorem dX8_tip_0 : decode cX8_tip 0 = .ok (.aload_n 0, 1) := by decide +kernel
theorem dX8_tip_1 : decode cX8_tip 1 = .ok (.iload_n 1, 1) := by decide +kernel
theorem dX8_tip_2 : decode cX8_tip 2 = .ok (.iload_n 2, 1) := by decide +kernel
theorem dX8_tip_3 : decode cX8_tip 3 = .ok (.invokevirtual 229, 3) := by decide +kernel
theorem dX8_tip_6 : decode cX8_tip 6 = .ok (.istore_n 3, 1) := by decide +kernel
theorem dX8_tip_7 : decode cX8_tip 7 = .ok (.iload_n 3, 1) := by decide +kernel
theorem dX8_tip_8 : decode cX8_tip 8 = .ok (.ifCond .ge 5, 3) := by decide +kernel
theorem dX8_tip_11 : decode cX8_tip 11 = .ok (.iload_n 3, 1) := by decide +kernel
theorem dX8_tip_12 : decode cX8_tip 12 = .ok (.ireturn, 1) := by decide +kernel
theorem dX8_tip_13 : decode cX8_tip 13 = .ok (.aload_n 0, 1) := by decide +kernel
theorem dX8_tip_14 : decode cX8_tip 14 = .ok (.getfield 28, 3) := by decide +kernel
theorem dX8_tip_17 : decode cX8_tip 17 = .ok (.getfield 75, 3) := by decide +kernel
theorem dX8_tip_20 : decode cX8_tip 20 = .ok (.dup, 1) := by decide +kernel
theorem dX8_tip_21 : decode cX8_tip 21 = .ok (.getfield 82, 3) := by decide +kernel
theorem dX8_tip_24 : decode cX8_tip 24 = .ok (.iload_n 3, 1) := by decide +kernel
theorem dX8_tip_25 : decode cX8_tip 25 = .ok (.iconst (-1), 1) := by decide +kernel
theorem dX8_tip_26 : decode cX8_tip 26 = .ok (.ixor, 1) := by decide +kernel
theorem dX8_tip_27 : decode cX8_tip 27 = .ok (.iand, 1) := by decide +kernel
theorem dX8_tip_28 : decode cX8_tip 28 = .ok (.putfield 82, 3) := by decide +kernel
theorem dX8_tip_31 : decode cX8_tip 31 = .ok (.iload_n 3, 1) := by decide +kernel
theorem dX8_tip_32 : decode cX8_tip 32 = .ok (.invokestatic 224, 3) := by decide +kernel
theorem dX8_tip_35 : decode cX8_tip 35 = .ok (.ireturn, 1) := by decide +kernel
theorem dX8_put_0 : decode cX8_put 0 = .ok (.iload_n 1, 1) := by decide +kernel
theorem dX8_put_1 : decode cX8_put 1 = .ok (.bipush 16, 2) := by decide +kernel
theorem dX8_put_3 : decode cX8_put 3 = .ok (.invokestatic 100, 3) := by decide +kernel
theorem dX8_put_6 : decode cX8_put 6 = .ok (.ifCond .eq 6, 3) := by decide +kernel
theorem dX8_put_9 : decode cX8_put 9 = .ok (.bipush (-5), 2) := by decide +kernel
theorem dX8_put_11 : decode cX8_put 11 = .ok (.ireturn, 1) := by decide +kernel
theorem dX8_put_12 : decode cX8_put 12 = .ok (.iload_n 2, 1) := by decide +kernel
theorem dX8_put_13 : decode cX8_put 13 = .ok (.ldc 232, 2) := by decide +kernel
theorem dX8_put_15 : decode cX8_put 15 = .ok (.invokestatic 100, 3) := by decide +kernel
theorem dX8_put_18 : decode cX8_put 18 = .ok (.ifCond .eq 6, 3) := by decide +kernel
theorem dX8_put_21 : decode cX8_put 21 = .ok (.bipush (-7), 2) := by decide +kernel
theorem dX8_put_23 : decode cX8_put 23 = .ok (.ireturn, 1) := by decide +kernel
theorem dX8_put_24 : decode cX8_put 24 = .ok (.aload_n 0, 1) := by decide +kernel
theorem dX8_put_25 : decode cX8_put 25 = .ok (.getfield 28, 3) := by decide +kernel
theorem dX8_put_28 : decode cX8_put 28 = .ok (.getfield 75, 3) := by decide +kernel
theorem dX8_put_31 : decode cX8_put 31 = .ok (.getfield 82, 3) := by decide +kernel
theorem dX8_put_34 : decode cX8_put 34 = .ok (.iload_n 1, 1) := by decide +kernel
theorem dX8_put_35 : decode cX8_put 35 = .ok (.invokestatic 215, 3) := by decide +kernel
theorem dX8_put_38 : decode cX8_put 38 = .ok (.ifCond .eq 6, 3) := by decide +kernel
theorem dX8_put_41 : decode cX8_put 41 = .ok (.bipush (-3), 2) := by decide +kernel
theorem dX8_put_43 : decode cX8_put 43 = .ok (.ireturn, 1) := by decide +kernel
theorem dX8_put_44 : decode cX8_put 44 = .ok (.aload_n 0, 1) := by decide +kernel
theorem dX8_put_45 : decode cX8_put 45 = .ok (.getfield 53, 3) := by decide +kernel
theorem dX8_put_48 : decode cX8_put 48 = .ok (.iload_n 2, 1) := by decide +kernel
theorem dX8_put_49 : decode cX8_put 49 = .ok (.invokevirtual 233, 3) := by decide +kernel
theorem dX8_put_52 : decode cX8_put 52 = .ok (.aload_n 0, 1) := by decide +kernel
theorem dX8_put_53 : decode cX8_put 53 = .ok (.getfield 53, 3) := by decide +kernel
theorem dX8_put_56 : decode cX8_put 56 = .ok (.iload_n 1, 1) := by decide +kernel
theorem dX8_put_57 : decode cX8_put 57 = .ok (.invokevirtual 235, 3) := by decide +kernel
theorem dX8_put_60 : decode cX8_put 60 = .ok (.istore_n 3, 1) := by decide +kernel
theorem dX8_put_61 : decode cX8_put 61 = .ok (.aload_n 0, 1) := by decide +kernel
theorem dX8_put_62 : decode cX8_put 62 = .ok (.getfield 28, 3) := by decide +kernel
theorem dX8_put_65 : decode cX8_put 65 = .ok (.getfield 75, 3) := by decide +kernel
theorem dX8_put_68 : decode cX8_put 68 = .ok (.aload_n 0, 1) := by decide +kernel
theorem dX8_put_69 : decode cX8_put 69 = .ok (.getfield 53, 3) := by decide +kernel
theorem dX8_put_72 : decode cX8_put 72 = .ok (.getfield 238, 3) := by decide +kernel
theorem dX8_put_75 : decode cX8_put 75 = .ok (.putfield 82, 3) := by decide +kernel
theorem dX8_put_78 : decode cX8_put 78 = .ok (.iload_n 3, 1) := by decide +kernel
theorem dX8_put_79 : decode cX8_put 79 = .ok (.ireturn, 1) := by decide +kernel
theorem dX8_drawn_0 : decode cX8_drawn 0 = .ok (.iload_n 1, 1) := by decide +kernel
theorem dX8_drawn_1 : decode cX8_drawn 1 = .ok (.ldc 232, 2) := by decide +kernel
theorem dX8_drawn_3 : decode cX8_drawn 3 = .ok (.invokestatic 100, 3) := by decide +kernel
theorem dX8_drawn_6 : decode cX8_drawn 6 = .ok (.ifCond .ne 21, 3) := by decide +kernel
theorem dX8_drawn_9 : decode cX8_drawn 9 = .ok (.iload_n 2, 1) := by decide +kernel
theorem dX8_drawn_10 : decode cX8_drawn 10 = .ok (.sipush 401, 3) := by decide +kernel
theorem dX8_drawn_13 : decode cX8_drawn 13 = .ok (.invokestatic 100, 3) := by decide +kernel
theorem dX8_drawn_16 : decode cX8_drawn 16 = .ok (.ifCond .ne 11, 3) := by decide +kernel
theorem dX8_drawn_19 : decode cX8_drawn 19 = .ok (.iload_n 3, 1) := by decide +kernel
theorem dX8_drawn_20 : decode cX8_drawn 20 = .ok (.iconst 3, 1) := by decide +kernel
theorem dX8_drawn_21 : decode cX8_drawn 21 = .ok (.invokestatic 100, 3) := by decide +kernel
theorem dX8_drawn_24 : decode cX8_drawn 24 = .ok (.ifCond .eq 6, 3) := by decide +kernel
theorem dX8_drawn_27 : decode cX8_drawn 27 = .ok (.bipush (-2), 2) := by decide +kernel
theorem dX8_drawn_29 : decode cX8_drawn 29 = .ok (.ireturn, 1) := by decide +kernel
theorem dX8_drawn_30 : decode cX8_drawn 30 = .ok (.aload_n 0, 1) := by decide +kernel
theorem dX8_drawn_31 : decode cX8_drawn 31 = .ok (.getfield 37, 3) := by decide +kernel
theorem dX8_drawn_34 : decode cX8_drawn 34 = .ok (.aload_n 0, 1) := by decide +kernel
theorem dX8_drawn_35 : decode cX8_drawn 35 = .ok (.getfield 28, 3) := by decide +kernel
theorem dX8_drawn_38 : decode cX8_drawn 38 = .ok (.getfield 75, 3) := by decide +kernel
theorem dX8_drawn_41 : decode cX8_drawn 41 = .ok (.getfield 85, 3) := by decide +kernel
theorem dX8_drawn_44 : decode cX8_drawn 44 = .ok (.invokevirtual 179, 3) := by decide +kernel
theorem dX8_drawn_47 : decode cX8_drawn 47 = .ok (.aload_n 0, 1) := by decide +kernel
theorem dX8_drawn_48 : decode cX8_drawn 48 = .ok (.getfield 37, 3) := by decide +kernel
theorem dX8_drawn_51 : decode cX8_drawn 51 = .ok (.aload_n 0, 1) := by decide +kernel
theorem dX8_drawn_52 : decode cX8_drawn 52 = .ok (.getfield 28, 3) := by decide +kernel
theorem dX8_drawn_55 : decode cX8_drawn 55 = .ok (.getfield 75, 3) := by decide +kernel
theorem dX8_drawn_58 : decode cX8_drawn 58 = .ok (.getfield 78, 3) := by decide +kernel
theorem dX8_drawn_61 : decode cX8_drawn 61 = .ok (.invokevirtual 239, 3) := by decide +kernel
theorem dX8_drawn_64 : decode cX8_drawn 64 = .ok (.aload_n 0, 1) := by decide +kernel
theorem dX8_drawn_65 : decode cX8_drawn 65 = .ok (.getfield 53, 3) := by decide +kernel
theorem dX8_drawn_68 : decode cX8_drawn 68 = .ok (.iload_n 1, 1) := by decide +kernel
theorem dX8_drawn_69 : decode cX8_drawn 69 = .ok (.iload_n 2, 1) := by decide +kernel
theorem dX8_drawn_70 : decode cX8_drawn 70 = .ok (.aload_n 0, 1) := by decide +kernel
theorem dX8_drawn_71 : decode cX8_drawn 71 = .ok (.getfield 37, 3) := by decide +kernel
theorem dX8_drawn_74 : decode cX8_drawn 74 = .ok (.getfield 242, 3) := by decide +kernel
theorem dX8_drawn_77 : decode cX8_drawn 77 = .ok (.invokevirtual 245, 3) := by decide +kernel
theorem dX8_drawn_80 : decode cX8_drawn 80 = .ok (.iload_n 3, 1) := by decide +kernel
theorem dX8_drawn_81 : decode cX8_drawn 81 = .ok (.lookupswitch 43 #[(0, 27), (1, 35)], 27) := by decide +kernel
theorem dX8_drawn_108 : decode cX8_drawn 108 = .ok (.aload_n 0, 1) := by decide +kernel
theorem dX8_drawn_109 : decode cX8_drawn 109 = .ok (.getfield 53, 3) := by decide +kernel
theorem dX8_drawn_112 : decode cX8_drawn 112 = .ok (.getfield 249, 3) := by decide +kernel
theorem dX8_drawn_115 : decode cX8_drawn 115 = .ok (.ireturn, 1) := by decide +kernel
theorem dX8_drawn_116 : decode cX8_drawn 116 = .ok (.aload_n 0, 1) := by decide +kernel
theorem dX8_drawn_117 : decode cX8_drawn 117 = .ok (.getfield 53, 3) := by decide +kernel
theorem dX8_drawn_120 : decode cX8_drawn 120 = .ok (.getfield 238, 3) := by decide +kernel
theorem dX8_drawn_123 : decode cX8_drawn 123 = .ok (.ireturn, 1) := by decide +kernel
theorem dX8_drawn_124 : decode cX8_drawn 124 = .ok (.aload_n 0, 1) := by decide +kernel
theorem dX8_drawn_125 : decode cX8_drawn 125 = .ok (.getfield 53, 3) := by decide +kernel
theorem dX8_drawn_128 : decode cX8_drawn 128 = .ok (.getfield 252, 3) := by decide +kernel
theorem dX8_drawn_131 : decode cX8_drawn 131 = .ok (.ireturn, 1) := by decide +kernel
theorem dX8_odds_0 : decode cX8_odds 0 = .ok (.iload_n 1, 1) := by decide +kernel
theorem dX8_odds_1 : decode cX8_odds 1 = .ok (.ldc 232, 2) := by decide +kernel
theorem dX8_odds_3 : decode cX8_odds 3 = .ok (.invokestatic 100, 3) := by decide +kernel
theorem dX8_odds_6 : decode cX8_odds 6 = .ok (.ifCond .ne 33, 3) := by decide +kernel
theorem dX8_odds_9 : decode cX8_odds 9 = .ok (.iload_n 2, 1) := by decide +kernel
theorem dX8_odds_10 : decode cX8_odds 10 = .ok (.iconst 1, 1) := by decide +kernel
theorem dX8_odds_11 : decode cX8_odds 11 = .ok (.if_icmp .lt 28, 3) := by decide +kernel
theorem dX8_odds_14 : decode cX8_odds 14 = .ok (.iload_n 2, 1) := by decide +kernel
theorem dX8_odds_15 : decode cX8_odds 15 = .ok (.bipush 20, 2) := by decide +kernel
theorem dX8_odds_17 : decode cX8_odds 17 = .ok (.if_icmp .gt 22, 3) := by decide +kernel
theorem dX8_odds_20 : decode cX8_odds 20 = .ok (.iload_n 3, 1) := by decide +kernel
theorem dX8_odds_21 : decode cX8_odds 21 = .ok (.sipush 401, 3) := by decide +kernel
theorem dX8_odds_24 : decode cX8_odds 24 = .ok (.invokestatic 100, 3) := by decide +kernel
theorem dX8_odds_27 : decode cX8_odds 27 = .ok (.ifCond .ne 12, 3) := by decide +kernel
theorem dX8_odds_30 : decode cX8_odds 30 = .ok (.iload 4, 2) := by decide +kernel
theorem dX8_odds_32 : decode cX8_odds 32 = .ok (.iconst 2, 1) := by decide +kernel
theorem dX8_odds_33 : decode cX8_odds 33 = .ok (.invokestatic 100, 3) := by decide +kernel
theorem dX8_odds_36 : decode cX8_odds 36 = .ok (.ifCond .eq 7, 3) := by decide +kernel
theorem dX8_odds_39 : decode cX8_odds 39 = .ok (.ldc2_w 177, 3) := by decide +kernel
theorem dX8_odds_42 : decode cX8_odds 42 = .ok (.lreturn, 1) := by decide +kernel
theorem dX8_odds_43 : decode cX8_odds 43 = .ok (.aload_n 0, 1) := by decide +kernel
theorem dX8_odds_44 : decode cX8_odds 44 = .ok (.getfield 37, 3) := by decide +kernel
theorem dX8_odds_47 : decode cX8_odds 47 = .ok (.aload_n 0, 1) := by decide +kernel
theorem dX8_odds_48 : decode cX8_odds 48 = .ok (.getfield 28, 3) := by decide +kernel
theorem dX8_odds_51 : decode cX8_odds 51 = .ok (.getfield 75, 3) := by decide +kernel
theorem dX8_odds_54 : decode cX8_odds 54 = .ok (.getfield 85, 3) := by decide +kernel
theorem dX8_odds_57 : decode cX8_odds 57 = .ok (.invokevirtual 179, 3) := by decide +kernel
theorem dX8_odds_60 : decode cX8_odds 60 = .ok (.aload_n 0, 1) := by decide +kernel
theorem dX8_odds_61 : decode cX8_odds 61 = .ok (.getfield 37, 3) := by decide +kernel
theorem dX8_odds_64 : decode cX8_odds 64 = .ok (.aload_n 0, 1) := by decide +kernel
theorem dX8_odds_65 : decode cX8_odds 65 = .ok (.getfield 28, 3) := by decide +kernel
theorem dX8_odds_68 : decode cX8_odds 68 = .ok (.getfield 75, 3) := by decide +kernel
theorem dX8_odds_71 : decode cX8_odds 71 = .ok (.getfield 78, 3) := by decide +kernel
theorem dX8_odds_74 : decode cX8_odds 74 = .ok (.invokevirtual 239, 3) := by decide +kernel
theorem dX8_odds_77 : decode cX8_odds 77 = .ok (.iconst 0, 1) := by decide +kernel
theorem dX8_odds_78 : decode cX8_odds 78 = .ok (.istore 5, 2) := by decide +kernel
theorem dX8_odds_80 : decode cX8_odds 80 = .ok (.iconst 0, 1) := by decide +kernel
theorem dX8_odds_81 : decode cX8_odds 81 = .ok (.istore 6, 2) := by decide +kernel
theorem dX8_odds_83 : decode cX8_odds 83 = .ok (.iload 6, 2) := by decide +kernel
theorem dX8_odds_85 : decode cX8_odds 85 = .ok (.iload_n 2, 1) := by decide +kernel
theorem dX8_odds_86 : decode cX8_odds 86 = .ok (.if_icmp .ge 43, 3) := by decide +kernel
theorem dX8_odds_89 : decode cX8_odds 89 = .ok (.aload_n 0, 1) := by decide +kernel
theorem dX8_odds_90 : decode cX8_odds 90 = .ok (.getfield 53, 3) := by decide +kernel
theorem dX8_odds_93 : decode cX8_odds 93 = .ok (.iload_n 1, 1) := by decide +kernel
theorem dX8_odds_94 : decode cX8_odds 94 = .ok (.iload 6, 2) := by decide +kernel
theorem dX8_odds_96 : decode cX8_odds 96 = .ok (.iadd, 1) := by decide +kernel
theorem dX8_odds_97 : decode cX8_odds 97 = .ok (.iload_n 3, 1) := by decide +kernel
theorem dX8_odds_98 : decode cX8_odds 98 = .ok (.aload_n 0, 1) := by decide +kernel
theorem dX8_odds_99 : decode cX8_odds 99 = .ok (.getfield 37, 3) := by decide +kernel
theorem dX8_odds_102 : decode cX8_odds 102 = .ok (.getfield 242, 3) := by decide +kernel
theorem dX8_odds_105 : decode cX8_odds 105 = .ok (.invokevirtual 245, 3) := by decide +kernel
theorem dX8_odds_108 : decode cX8_odds 108 = .ok (.aload_n 0, 1) := by decide +kernel
theorem dX8_odds_109 : decode cX8_odds 109 = .ok (.getfield 53, 3) := by decide +kernel
theorem dX8_odds_112 : decode cX8_odds 112 = .ok (.getfield 238, 3) := by decide +kernel
theorem dX8_odds_115 : decode cX8_odds 115 = .ok (.ldc 255, 2) := by decide +kernel
theorem dX8_odds_117 : decode cX8_odds 117 = .ok (.if_icmp .ne 6, 3) := by decide +kernel
theorem dX8_odds_120 : decode cX8_odds 120 = .ok (.iinc 5 1, 3) := by decide +kernel
theorem dX8_odds_123 : decode cX8_odds 123 = .ok (.iinc 6 1, 3) := by decide +kernel
theorem dX8_odds_126 : decode cX8_odds 126 = .ok (.goto (-43), 3) := by decide +kernel
theorem dX8_odds_129 : decode cX8_odds 129 = .ok (.iload 5, 2) := by decide +kernel
theorem dX8_odds_131 : decode cX8_odds 131 = .ok (.iload_n 2, 1) := by decide +kernel
theorem dX8_odds_132 : decode cX8_odds 132 = .ok (.invokestatic 256, 3) := by decide +kernel
theorem dX8_odds_135 : decode cX8_odds 135 = .ok (.istore 6, 2) := by decide +kernel
theorem dX8_odds_137 : decode cX8_odds 137 = .ok (.iload 4, 2) := by decide +kernel
theorem dX8_odds_139 : decode cX8_odds 139 = .ok (.ifCond .ne 8, 3) := by decide +kernel
theorem dX8_odds_142 : decode cX8_odds 142 = .ok (.iload 5, 2) := by decide +kernel
theorem dX8_odds_144 : decode cX8_odds 144 = .ok (.goto 4, 3) := by decide +kernel
theorem dX8_odds_147 : decode cX8_odds 147 = .ok (.iload_n 2, 1) := by decide +kernel
theorem dX8_odds_148 : decode cX8_odds 148 = .ok (.iload 6, 2) := by decide +kernel
theorem dX8_odds_150 : decode cX8_odds 150 = .ok (.idiv, 1) := by decide +kernel
theorem dX8_odds_151 : decode cX8_odds 151 = .ok (.i2l, 1) := by decide +kernel
theorem dX8_odds_152 : decode cX8_odds 152 = .ok (.lreturn, 1) := by decide +kernel
theorem dX8_judge_0 : decode cX8_judge 0 = .ok (.aload_n 0, 1) := by decide +kernel
theorem dX8_judge_1 : decode cX8_judge 1 = .ok (.iload_n 1, 1) := by decide +kernel
theorem dX8_judge_2 : decode cX8_judge 2 = .ok (.invokevirtual 259, 3) := by decide +kernel
theorem dX8_judge_5 : decode cX8_judge 5 = .ok (.istore 4, 2) := by decide +kernel
theorem dX8_judge_7 : decode cX8_judge 7 = .ok (.iload 4, 2) := by decide +kernel
theorem dX8_judge_9 : decode cX8_judge 9 = .ok (.ifCond .eq 6, 3) := by decide +kernel
theorem dX8_judge_12 : decode cX8_judge 12 = .ok (.iload 4, 2) := by decide +kernel
theorem dX8_judge_14 : decode cX8_judge 14 = .ok (.ireturn, 1) := by decide +kernel
theorem dX8_judge_15 : decode cX8_judge 15 = .ok (.iload_n 2, 1) := by decide +kernel
theorem dX8_judge_16 : decode cX8_judge 16 = .ok (.bipush 16, 2) := by decide +kernel
theorem dX8_judge_18 : decode cX8_judge 18 = .ok (.invokestatic 100, 3) := by decide +kernel
theorem dX8_judge_21 : decode cX8_judge 21 = .ok (.ifCond .eq 6, 3) := by decide +kernel
theorem dX8_judge_24 : decode cX8_judge 24 = .ok (.bipush (-5), 2) := by decide +kernel
theorem dX8_judge_26 : decode cX8_judge 26 = .ok (.ireturn, 1) := by decide +kernel
theorem dX8_judge_27 : decode cX8_judge 27 = .ok (.iload_n 3, 1) := by decide +kernel
theorem dX8_judge_28 : decode cX8_judge 28 = .ok (.iconst 3, 1) := by decide +kernel
theorem dX8_judge_29 : decode cX8_judge 29 = .ok (.invokestatic 100, 3) := by decide +kernel
theorem dX8_judge_32 : decode cX8_judge 32 = .ok (.ifCond .eq 6, 3) := by decide +kernel
theorem dX8_judge_35 : decode cX8_judge 35 = .ok (.bipush (-7), 2) := by decide +kernel
theorem dX8_judge_37 : decode cX8_judge 37 = .ok (.ireturn, 1) := by decide +kernel
theorem dX8_judge_38 : decode cX8_judge 38 = .ok (.aload_n 0, 1) := by decide +kernel
theorem dX8_judge_39 : decode cX8_judge 39 = .ok (.getfield 66, 3) := by decide +kernel
theorem dX8_judge_42 : decode cX8_judge 42 = .ok (.iload_n 1, 1) := by decide +kernel
theorem dX8_judge_43 : decode cX8_judge 43 = .ok (.aaload, 1) := by decide +kernel
theorem dX8_judge_44 : decode cX8_judge 44 = .ok (.aload_n 0, 1) := by decide +kernel
theorem dX8_judge_45 : decode cX8_judge 45 = .ok (.getfield 28, 3) := by decide +kernel
theorem dX8_judge_48 : decode cX8_judge 48 = .ok (.iload_n 2, 1) := by decide +kernel
theorem dX8_judge_49 : decode cX8_judge 49 = .ok (.iload_n 3, 1) := by decide +kernel
theorem dX8_judge_50 : decode cX8_judge 50 = .ok (.aload_n 0, 1) := by decide +kernel
theorem dX8_judge_51 : decode cX8_judge 51 = .ok (.getfield 28, 3) := by decide +kernel
theorem dX8_judge_54 : decode cX8_judge 54 = .ok (.getfield 75, 3) := by decide +kernel
theorem dX8_judge_57 : decode cX8_judge 57 = .ok (.getfield 88, 3) := by decide +kernel
theorem dX8_judge_60 : decode cX8_judge 60 = .ok (.invokevirtual 221, 3) := by decide +kernel
theorem dX8_judge_63 : decode cX8_judge 63 = .ok (.invokevirtual 262, 3) := by decide +kernel
theorem dX8_judge_66 : decode cX8_judge 66 = .ok (.ireturn, 1) := by decide +kernel
theorem dX8_origin_0 : decode cX8_origin 0 = .ok (.aload_n 0, 1) := by decide +kernel
theorem dX8_origin_1 : decode cX8_origin 1 = .ok (.iload_n 1, 1) := by decide +kernel
theorem dX8_origin_2 : decode cX8_origin 2 = .ok (.invokevirtual 259, 3) := by decide +kernel
theorem dX8_origin_5 : decode cX8_origin 5 = .ok (.istore_n 3, 1) := by decide +kernel
theorem dX8_origin_6 : decode cX8_origin 6 = .ok (.iload_n 3, 1) := by decide +kernel
theorem dX8_origin_7 : decode cX8_origin 7 = .ok (.ifCond .eq 5, 3) := by decide +kernel
theorem dX8_origin_10 : decode cX8_origin 10 = .ok (.iload_n 3, 1) := by decide +kernel
theorem dX8_origin_11 : decode cX8_origin 11 = .ok (.ireturn, 1) := by decide +kernel
theorem dX8_origin_12 : decode cX8_origin 12 = .ok (.iload_n 2, 1) := by decide +kernel
theorem dX8_origin_13 : decode cX8_origin 13 = .ok (.iconst 3, 1) := by decide +kernel
theorem dX8_origin_14 : decode cX8_origin 14 = .ok (.invokestatic 100, 3) := by decide +kernel
theorem dX8_origin_17 : decode cX8_origin 17 = .ok (.ifCond .eq 6, 3) := by decide +kernel
theorem dX8_origin_20 : decode cX8_origin 20 = .ok (.bipush (-7), 2) := by decide +kernel
theorem dX8_origin_22 : decode cX8_origin 22 = .ok (.ireturn, 1) := by decide +kernel
theorem dX8_origin_23 : decode cX8_origin 23 = .ok (.iconst 0, 1) := by decide +kernel
theorem dX8_origin_24 : decode cX8_origin 24 = .ok (.istore 4, 2) := by decide +kernel
theorem dX8_origin_26 : decode cX8_origin 26 = .ok (.iconst 0, 1) := by decide +kernel
theorem dX8_origin_27 : decode cX8_origin 27 = .ok (.istore 5, 2) := by decide +kernel
theorem dX8_origin_29 : decode cX8_origin 29 = .ok (.iload 5, 2) := by decide +kernel
theorem dX8_origin_31 : decode cX8_origin 31 = .ok (.bipush 16, 2) := by decide +kernel
theorem dX8_origin_33 : decode cX8_origin 33 = .ok (.if_icmp .ge 68, 3) := by decide +kernel
theorem dX8_origin_36 : decode cX8_origin 36 = .ok (.aload_n 0, 1) := by decide +kernel
theorem dX8_origin_37 : decode cX8_origin 37 = .ok (.getfield 28, 3) := by decide +kernel
theorem dX8_origin_40 : decode cX8_origin 40 = .ok (.getfield 75, 3) := by decide +kernel
theorem dX8_origin_43 : decode cX8_origin 43 = .ok (.getfield 82, 3) := by decide +kernel
theorem dX8_origin_46 : decode cX8_origin 46 = .ok (.iload 5, 2) := by decide +kernel
theorem dX8_origin_48 : decode cX8_origin 48 = .ok (.invokestatic 215, 3) := by decide +kernel
theorem dX8_origin_51 : decode cX8_origin 51 = .ok (.ifCond .eq 44, 3) := by decide +kernel
theorem dX8_origin_54 : decode cX8_origin 54 = .ok (.aload_n 0, 1) := by decide +kernel
theorem dX8_origin_55 : decode cX8_origin 55 = .ok (.getfield 66, 3) := by decide +kernel
theorem dX8_origin_58 : decode cX8_origin 58 = .ok (.iload_n 1, 1) := by decide +kernel
theorem dX8_origin_59 : decode cX8_origin 59 = .ok (.aaload, 1) := by decide +kernel
theorem dX8_origin_60 : decode cX8_origin 60 = .ok (.aload_n 0, 1) := by decide +kernel
theorem dX8_origin_61 : decode cX8_origin 61 = .ok (.getfield 28, 3) := by decide +kernel
theorem dX8_origin_64 : decode cX8_origin 64 = .ok (.iload 5, 2) := by decide +kernel
theorem dX8_origin_66 : decode cX8_origin 66 = .ok (.iload_n 2, 1) := by decide +kernel
theorem dX8_origin_67 : decode cX8_origin 67 = .ok (.aload_n 0, 1) := by decide +kernel
theorem dX8_origin_68 : decode cX8_origin 68 = .ok (.getfield 28, 3) := by decide +kernel
theorem dX8_origin_71 : decode cX8_origin 71 = .ok (.getfield 75, 3) := by decide +kernel
theorem dX8_origin_74 : decode cX8_origin 74 = .ok (.getfield 88, 3) := by decide +kernel
theorem dX8_origin_77 : decode cX8_origin 77 = .ok (.invokevirtual 221, 3) := by decide +kernel
theorem dX8_origin_80 : decode cX8_origin 80 = .ok (.invokevirtual 262, 3) := by decide +kernel
theorem dX8_origin_83 : decode cX8_origin 83 = .ok (.ifCond .ge 12, 3) := by decide +kernel
theorem dX8_origin_86 : decode cX8_origin 86 = .ok (.iload 4, 2) := by decide +kernel
theorem dX8_origin_88 : decode cX8_origin 88 = .ok (.iconst 1, 1) := by decide +kernel
theorem dX8_origin_89 : decode cX8_origin 89 = .ok (.iload 5, 2) := by decide +kernel
theorem dX8_origin_91 : decode cX8_origin 91 = .ok (.ishl, 1) := by decide +kernel
theorem dX8_origin_92 : decode cX8_origin 92 = .ok (.ior, 1) := by decide +kernel
theorem dX8_origin_93 : decode cX8_origin 93 = .ok (.istore 4, 2) := by decide +kernel
theorem dX8_origin_95 : decode cX8_origin 95 = .ok (.iinc 5 1, 3) := by decide +kernel
theorem dX8_origin_98 : decode cX8_origin 98 = .ok (.goto (-69), 3) := by decide +kernel
theorem dX8_origin_101 : decode cX8_origin 101 = .ok (.iload 4, 2) := by decide +kernel
theorem dX8_origin_103 : decode cX8_origin 103 = .ok (.ireturn, 1) := by decide +kernel
theorem dX8_how_0 : decode cX8_how 0 = .ok (.aload_n 0, 1) := by decide +kernel
theorem dX8_how_1 : decode cX8_how 1 = .ok (.iload_n 1, 1) := by decide +kernel
theorem dX8_how_2 : decode cX8_how 2 = .ok (.invokevirtual 259, 3) := by decide +kernel
theorem dX8_how_5 : decode cX8_how 5 = .ok (.istore 4, 2) := by decide +kernel
theorem dX8_how_7 : decode cX8_how 7 = .ok (.iload 4, 2) := by decide +kernel
theorem dX8_how_9 : decode cX8_how 9 = .ok (.ifCond .eq 6, 3) := by decide +kernel
theorem dX8_how_12 : decode cX8_how 12 = .ok (.iload 4, 2) := by decide +kernel
theorem dX8_how_14 : decode cX8_how 14 = .ok (.ireturn, 1) := by decide +kernel
theorem dX8_how_15 : decode cX8_how 15 = .ok (.iload_n 2, 1) := by decide +kernel
theorem dX8_how_16 : decode cX8_how 16 = .ok (.bipush 16, 2) := by decide +kernel
theorem dX8_how_18 : decode cX8_how 18 = .ok (.invokestatic 100, 3) := by decide +kernel
theorem dX8_how_21 : decode cX8_how 21 = .ok (.ifCond .eq 6, 3) := by decide +kernel
theorem dX8_how_24 : decode cX8_how 24 = .ok (.bipush (-5), 2) := by decide +kernel
theorem dX8_how_26 : decode cX8_how 26 = .ok (.ireturn, 1) := by decide +kernel
theorem dX8_how_27 : decode cX8_how 27 = .ok (.iload_n 3, 1) := by decide +kernel
theorem dX8_how_28 : decode cX8_how 28 = .ok (.ifCond .lt 19, 3) := by decide +kernel
theorem dX8_how_31 : decode cX8_how 31 = .ok (.iload_n 3, 1) := by decide +kernel
theorem dX8_how_32 : decode cX8_how 32 = .ok (.bipush 10, 2) := by decide +kernel
theorem dX8_how_34 : decode cX8_how 34 = .ok (.idiv, 1) := by decide +kernel
theorem dX8_how_35 : decode cX8_how 35 = .ok (.iconst 1, 1) := by decide +kernel
theorem dX8_how_36 : decode cX8_how 36 = .ok (.if_icmp .gt 11, 3) := by decide +kernel
theorem dX8_how_39 : decode cX8_how 39 = .ok (.iload_n 3, 1) := by decide +kernel
theorem dX8_how_40 : decode cX8_how 40 = .ok (.bipush 10, 2) := by decide +kernel
theorem dX8_how_42 : decode cX8_how 42 = .ok (.irem, 1) := by decide +kernel
theorem dX8_how_43 : decode cX8_how 43 = .ok (.iconst 3, 1) := by decide +kernel
theorem dX8_how_44 : decode cX8_how 44 = .ok (.if_icmp .lt 6, 3) := by decide +kernel
theorem dX8_how_47 : decode cX8_how 47 = .ok (.bipush (-7), 2) := by decide +kernel
theorem dX8_how_49 : decode cX8_how 49 = .ok (.ireturn, 1) := by decide +kernel
theorem dX8_how_50 : decode cX8_how 50 = .ok (.iconst 0, 1) := by decide +kernel
theorem dX8_how_51 : decode cX8_how 51 = .ok (.istore 5, 2) := by decide +kernel
theorem dX8_how_53 : decode cX8_how 53 = .ok (.iconst 0, 1) := by decide +kernel
theorem dX8_how_54 : decode cX8_how 54 = .ok (.istore 6, 2) := by decide +kernel
theorem dX8_how_56 : decode cX8_how 56 = .ok (.iload 6, 2) := by decide +kernel
theorem dX8_how_58 : decode cX8_how 58 = .ok (.iconst 3, 1) := by decide +kernel
theorem dX8_how_59 : decode cX8_how 59 = .ok (.if_icmp .ge 77, 3) := by decide +kernel
theorem dX8_how_62 : decode cX8_how 62 = .ok (.iload_n 3, 1) := by decide +kernel
theorem dX8_how_63 : decode cX8_how 63 = .ok (.bipush 10, 2) := by decide +kernel
theorem dX8_how_65 : decode cX8_how 65 = .ok (.if_icmp .ge 26, 3) := by decide +kernel
theorem dX8_how_68 : decode cX8_how 68 = .ok (.aload_n 0, 1) := by decide +kernel
theorem dX8_how_69 : decode cX8_how 69 = .ok (.getfield 28, 3) := by decide +kernel
theorem dX8_how_72 : decode cX8_how 72 = .ok (.iload_n 2, 1) := by decide +kernel
theorem dX8_how_73 : decode cX8_how 73 = .ok (.iload 6, 2) := by decide +kernel
theorem dX8_how_75 : decode cX8_how 75 = .ok (.aload_n 0, 1) := by decide +kernel
theorem dX8_how_76 : decode cX8_how 76 = .ok (.getfield 28, 3) := by decide +kernel
theorem dX8_how_79 : decode cX8_how 79 = .ok (.getfield 75, 3) := by decide +kernel
theorem dX8_how_82 : decode cX8_how 82 = .ok (.getfield 88, 3) := by decide +kernel
theorem dX8_how_85 : decode cX8_how 85 = .ok (.invokevirtual 221, 3) := by decide +kernel
theorem dX8_how_88 : decode cX8_how 88 = .ok (.goto 17, 3) := by decide +kernel
theorem dX8_how_91 : decode cX8_how 91 = .ok (.aload_n 0, 1) := by decide +kernel
theorem dX8_how_92 : decode cX8_how 92 = .ok (.getfield 28, 3) := by decide +kernel
theorem dX8_how_95 : decode cX8_how 95 = .ok (.iload_n 2, 1) := by decide +kernel
theorem dX8_how_96 : decode cX8_how 96 = .ok (.iload_n 3, 1) := by decide +kernel
theorem dX8_how_97 : decode cX8_how 97 = .ok (.bipush 10, 2) := by decide +kernel
theorem dX8_how_99 : decode cX8_how 99 = .ok (.irem, 1) := by decide +kernel
theorem dX8_how_100 : decode cX8_how 100 = .ok (.iload 6, 2) := by decide +kernel
theorem dX8_how_102 : decode cX8_how 102 = .ok (.invokevirtual 221, 3) := by decide +kernel
theorem dX8_how_105 : decode cX8_how 105 = .ok (.istore 7, 2) := by decide +kernel
theorem dX8_how_107 : decode cX8_how 107 = .ok (.aload_n 0, 1) := by decide +kernel
theorem dX8_how_108 : decode cX8_how 108 = .ok (.getfield 66, 3) := by decide +kernel
theorem dX8_how_111 : decode cX8_how 111 = .ok (.iload_n 1, 1) := by decide +kernel
theorem dX8_how_112 : decode cX8_how 112 = .ok (.aaload, 1) := by decide +kernel
theorem dX8_how_113 : decode cX8_how 113 = .ok (.iload 7, 2) := by decide +kernel
theorem dX8_how_115 : decode cX8_how 115 = .ok (.invokevirtual 262, 3) := by decide +kernel
theorem dX8_how_118 : decode cX8_how 118 = .ok (.ifCond .ge 12, 3) := by decide +kernel
theorem dX8_how_121 : decode cX8_how 121 = .ok (.iload 5, 2) := by decide +kernel
theorem dX8_how_123 : decode cX8_how 123 = .ok (.iconst 1, 1) := by decide +kernel
theorem dX8_how_124 : decode cX8_how 124 = .ok (.iload 6, 2) := by decide +kernel
theorem dX8_how_126 : decode cX8_how 126 = .ok (.ishl, 1) := by decide +kernel
theorem dX8_how_127 : decode cX8_how 127 = .ok (.ior, 1) := by decide +kernel
theorem dX8_how_128 : decode cX8_how 128 = .ok (.istore 5, 2) := by decide +kernel
theorem dX8_how_130 : decode cX8_how 130 = .ok (.iinc 6 1, 3) := by decide +kernel
theorem dX8_how_133 : decode cX8_how 133 = .ok (.goto (-77), 3) := by decide +kernel
theorem dX8_how_136 : decode cX8_how 136 = .ok (.iload 5, 2) := by decide +kernel
theorem dX8_how_138 : decode cX8_how 138 = .ok (.ireturn, 1) := by decide +kernel
theorem dX8_check_0 : decode cX8_check 0 = .ok (.aload_n 0, 1) := by decide +kernel
theorem dX8_check_1 : decode cX8_check 1 = .ok (.iload_n 1, 1) := by decide +kernel
theorem dX8_check_2 : decode cX8_check 2 = .ok (.invokevirtual 259, 3) := by decide +kernel
theorem dX8_check_5 : decode cX8_check 5 = .ok (.istore_n 2, 1) := by decide +kernel
theorem dX8_check_6 : decode cX8_check 6 = .ok (.iload_n 2, 1) := by decide +kernel
theorem dX8_check_7 : decode cX8_check 7 = .ok (.ifCond .eq 7, 3) := by decide +kernel
theorem dX8_check_10 : decode cX8_check 10 = .ok (.iload_n 2, 1) := by decide +kernel
theorem dX8_check_11 : decode cX8_check 11 = .ok (.goto 8, 3) := by decide +kernel
theorem dX8_check_14 : decode cX8_check 14 = .ok (.aload_n 0, 1) := by decide +kernel
theorem dX8_check_15 : decode cX8_check 15 = .ok (.iload_n 1, 1) := by decide +kernel
theorem dX8_check_16 : decode cX8_check 16 = .ok (.invokevirtual 265, 3) := by decide +kernel
theorem dX8_check_19 : decode cX8_check 19 = .ok (.ireturn, 1) := by decide +kernel
theorem dX8_kinds_0 : decode cX8_kinds 0 = .ok (.aload_n 0, 1) := by decide +kernel
theorem dX8_kinds_1 : decode cX8_kinds 1 = .ok (.iload_n 1, 1) := by decide +kernel
theorem dX8_kinds_2 : decode cX8_kinds 2 = .ok (.invokevirtual 259, 3) := by decide +kernel
theorem dX8_kinds_5 : decode cX8_kinds 5 = .ok (.istore 4, 2) := by decide +kernel
theorem dX8_kinds_7 : decode cX8_kinds 7 = .ok (.iload 4, 2) := by decide +kernel
theorem dX8_kinds_9 : decode cX8_kinds 9 = .ok (.ifCond .eq 6, 3) := by decide +kernel
theorem dX8_kinds_12 : decode cX8_kinds 12 = .ok (.iload 4, 2) := by decide +kernel
theorem dX8_kinds_14 : decode cX8_kinds 14 = .ok (.ireturn, 1) := by decide +kernel
theorem dX8_kinds_15 : decode cX8_kinds 15 = .ok (.iload_n 2, 1) := by decide +kernel
theorem dX8_kinds_16 : decode cX8_kinds 16 = .ok (.bipush 16, 2) := by decide +kernel
theorem dX8_kinds_18 : decode cX8_kinds 18 = .ok (.invokestatic 100, 3) := by decide +kernel
theorem dX8_kinds_21 : decode cX8_kinds 21 = .ok (.ifCond .eq 6, 3) := by decide +kernel
theorem dX8_kinds_24 : decode cX8_kinds 24 = .ok (.bipush (-5), 2) := by decide +kernel
theorem dX8_kinds_26 : decode cX8_kinds 26 = .ok (.ireturn, 1) := by decide +kernel
theorem dX8_kinds_27 : decode cX8_kinds 27 = .ok (.iload_n 3, 1) := by decide +kernel
theorem dX8_kinds_28 : decode cX8_kinds 28 = .ok (.iconst 2, 1) := by decide +kernel
theorem dX8_kinds_29 : decode cX8_kinds 29 = .ok (.invokestatic 100, 3) := by decide +kernel
theorem dX8_kinds_32 : decode cX8_kinds 32 = .ok (.ifCond .eq 6, 3) := by decide +kernel
theorem dX8_kinds_35 : decode cX8_kinds 35 = .ok (.bipush (-7), 2) := by decide +kernel
theorem dX8_kinds_37 : decode cX8_kinds 37 = .ok (.ireturn, 1) := by decide +kernel
theorem dX8_kinds_38 : decode cX8_kinds 38 = .ok (.aload_n 0, 1) := by decide +kernel
theorem dX8_kinds_39 : decode cX8_kinds 39 = .ok (.getfield 28, 3) := by decide +kernel
theorem dX8_kinds_42 : decode cX8_kinds 42 = .ok (.getfield 75, 3) := by decide +kernel
theorem dX8_kinds_45 : decode cX8_kinds 45 = .ok (.getfield 142, 3) := by decide +kernel
theorem dX8_kinds_48 : decode cX8_kinds 48 = .ok (.iload_n 2, 1) := by decide +kernel
theorem dX8_kinds_49 : decode cX8_kinds 49 = .ok (.iaload, 1) := by decide +kernel
theorem dX8_kinds_50 : decode cX8_kinds 50 = .ok (.istore 5, 2) := by decide +kernel
theorem dX8_kinds_52 : decode cX8_kinds 52 = .ok (.aload_n 0, 1) := by decide +kernel
theorem dX8_kinds_53 : decode cX8_kinds 53 = .ok (.getfield 28, 3) := by decide +kernel
theorem dX8_kinds_56 : decode cX8_kinds 56 = .ok (.getfield 75, 3) := by decide +kernel
theorem dX8_kinds_59 : decode cX8_kinds 59 = .ok (.getfield 145, 3) := by decide +kernel
theorem dX8_kinds_62 : decode cX8_kinds 62 = .ok (.iload_n 2, 1) := by decide +kernel
theorem dX8_kinds_63 : decode cX8_kinds 63 = .ok (.iaload, 1) := by decide +kernel
theorem dX8_kinds_64 : decode cX8_kinds 64 = .ok (.istore 6, 2) := by decide +kernel
theorem dX8_kinds_66 : decode cX8_kinds 66 = .ok (.iconst 0, 1) := by decide +kernel
theorem dX8_kinds_67 : decode cX8_kinds 67 = .ok (.istore 7, 2) := by decide +kernel
theorem dX8_kinds_69 : decode cX8_kinds 69 = .ok (.iconst 0, 1) := by decide +kernel
theorem dX8_kinds_70 : decode cX8_kinds 70 = .ok (.istore 8, 2) := by decide +kernel
theorem dX8_kinds_72 : decode cX8_kinds 72 = .ok (.iload 8, 2) := by decide +kernel
theorem dX8_kinds_74 : decode cX8_kinds 74 = .ok (.iload_n 3, 1) := by decide +kernel
theorem dX8_kinds_75 : decode cX8_kinds 75 = .ok (.ifCond .ne 8, 3) := by decide +kernel
theorem dX8_kinds_78 : decode cX8_kinds 78 = .ok (.bipush 6, 2) := by decide +kernel
theorem dX8_kinds_80 : decode cX8_kinds 80 = .ok (.goto 5, 3) := by decide +kernel
theorem dX8_kinds_83 : decode cX8_kinds 83 = .ok (.bipush 10, 2) := by decide +kernel
theorem dX8_kinds_85 : decode cX8_kinds 85 = .ok (.if_icmp .ge 71, 3) := by decide +kernel
theorem dX8_kinds_88 : decode cX8_kinds 88 = .ok (.aload_n 0, 1) := by decide +kernel
theorem dX8_kinds_89 : decode cX8_kinds 89 = .ok (.getfield 28, 3) := by decide +kernel
theorem dX8_kinds_92 : decode cX8_kinds 92 = .ok (.iload_n 2, 1) := by decide +kernel
theorem dX8_kinds_93 : decode cX8_kinds 93 = .ok (.iload_n 3, 1) := by decide +kernel
theorem dX8_kinds_94 : decode cX8_kinds 94 = .ok (.ifCond .ne 8, 3) := by decide +kernel
theorem dX8_kinds_97 : decode cX8_kinds 97 = .ok (.iload 8, 2) := by decide +kernel
theorem dX8_kinds_99 : decode cX8_kinds 99 = .ok (.goto 5, 3) := by decide +kernel
theorem dX8_kinds_102 : decode cX8_kinds 102 = .ok (.iload 5, 2) := by decide +kernel
theorem dX8_kinds_104 : decode cX8_kinds 104 = .ok (.iload_n 3, 1) := by decide +kernel
theorem dX8_kinds_105 : decode cX8_kinds 105 = .ok (.ifCond .ne 8, 3) := by decide +kernel
theorem dX8_kinds_108 : decode cX8_kinds 108 = .ok (.iload 6, 2) := by decide +kernel
theorem dX8_kinds_110 : decode cX8_kinds 110 = .ok (.goto 5, 3) := by decide +kernel
theorem dX8_kinds_113 : decode cX8_kinds 113 = .ok (.iload 8, 2) := by decide +kernel
theorem dX8_kinds_115 : decode cX8_kinds 115 = .ok (.invokevirtual 148, 3) := by decide +kernel
theorem dX8_kinds_118 : decode cX8_kinds 118 = .ok (.aload_n 0, 1) := by decide +kernel
theorem dX8_kinds_119 : decode cX8_kinds 119 = .ok (.getfield 66, 3) := by decide +kernel
theorem dX8_kinds_122 : decode cX8_kinds 122 = .ok (.iload_n 1, 1) := by decide +kernel
theorem dX8_kinds_123 : decode cX8_kinds 123 = .ok (.aaload, 1) := by decide +kernel
theorem dX8_kinds_124 : decode cX8_kinds 124 = .ok (.getfield 268, 3) := by decide +kernel
theorem dX8_kinds_127 : decode cX8_kinds 127 = .ok (.iload_n 2, 1) := by decide +kernel
theorem dX8_kinds_128 : decode cX8_kinds 128 = .ok (.iaload, 1) := by decide +kernel
theorem dX8_kinds_129 : decode cX8_kinds 129 = .ok (.aload_n 0, 1) := by decide +kernel
theorem dX8_kinds_130 : decode cX8_kinds 130 = .ok (.getfield 28, 3) := by decide +kernel
theorem dX8_kinds_133 : decode cX8_kinds 133 = .ok (.iload_n 2, 1) := by decide +kernel
theorem dX8_kinds_134 : decode cX8_kinds 134 = .ok (.iconst 0, 1) := by decide +kernel
theorem dX8_kinds_135 : decode cX8_kinds 135 = .ok (.invokevirtual 152, 3) := by decide +kernel
theorem dX8_kinds_138 : decode cX8_kinds 138 = .ok (.if_icmp .ne 12, 3) := by decide +kernel
theorem dX8_kinds_141 : decode cX8_kinds 141 = .ok (.iload 7, 2) := by decide +kernel
theorem dX8_kinds_143 : decode cX8_kinds 143 = .ok (.iconst 1, 1) := by decide +kernel
theorem dX8_kinds_144 : decode cX8_kinds 144 = .ok (.iload 8, 2) := by decide +kernel
theorem dX8_kinds_146 : decode cX8_kinds 146 = .ok (.ishl, 1) := by decide +kernel
theorem dX8_kinds_147 : decode cX8_kinds 147 = .ok (.ior, 1) := by decide +kernel
theorem dX8_kinds_148 : decode cX8_kinds 148 = .ok (.istore 7, 2) := by decide +kernel
theorem dX8_kinds_150 : decode cX8_kinds 150 = .ok (.iinc 8 1, 3) := by decide +kernel
theorem dX8_kinds_153 : decode cX8_kinds 153 = .ok (.goto (-81), 3) := by decide +kernel
theorem dX8_kinds_156 : decode cX8_kinds 156 = .ok (.aload_n 0, 1) := by decide +kernel
theorem dX8_kinds_157 : decode cX8_kinds 157 = .ok (.getfield 28, 3) := by decide +kernel
theorem dX8_kinds_160 : decode cX8_kinds 160 = .ok (.iload_n 2, 1) := by decide +kernel
theorem dX8_kinds_161 : decode cX8_kinds 161 = .ok (.iload 5, 2) := by decide +kernel
theorem dX8_kinds_163 : decode cX8_kinds 163 = .ok (.iload 6, 2) := by decide +kernel
theorem dX8_kinds_165 : decode cX8_kinds 165 = .ok (.invokevirtual 148, 3) := by decide +kernel
theorem dX8_kinds_168 : decode cX8_kinds 168 = .ok (.iload 7, 2) := by decide +kernel
theorem dX8_kinds_170 : decode cX8_kinds 170 = .ok (.ireturn, 1) := by decide +kernel
theorem dX8_laws_0 : decode cX8_laws 0 = .ok (.aload_n 0, 1) := by decide +kernel
theorem dX8_laws_1 : decode cX8_laws 1 = .ok (.iload_n 1, 1) := by decide +kernel
theorem dX8_laws_2 : decode cX8_laws 2 = .ok (.invokevirtual 259, 3) := by decide +kernel
theorem dX8_laws_5 : decode cX8_laws 5 = .ok (.istore_n 2, 1) := by decide +kernel
theorem dX8_laws_6 : decode cX8_laws 6 = .ok (.iload_n 2, 1) := by decide +kernel
theorem dX8_laws_7 : decode cX8_laws 7 = .ok (.ifCond .eq 5, 3) := by decide +kernel
theorem dX8_laws_10 : decode cX8_laws 10 = .ok (.iload_n 2, 1) := by decide +kernel
theorem dX8_laws_11 : decode cX8_laws 11 = .ok (.ireturn, 1) := by decide +kernel
theorem dX8_laws_12 : decode cX8_laws 12 = .ok (.aload_n 0, 1) := by decide +kernel
theorem dX8_laws_13 : decode cX8_laws 13 = .ok (.getfield 28, 3) := by decide +kernel
theorem dX8_laws_16 : decode cX8_laws 16 = .ok (.getfield 75, 3) := by decide +kernel
theorem dX8_laws_19 : decode cX8_laws 19 = .ok (.getfield 94, 3) := by decide +kernel
theorem dX8_laws_22 : decode cX8_laws 22 = .ok (.istore_n 3, 1) := by decide +kernel
theorem dX8_laws_23 : decode cX8_laws 23 = .ok (.iconst 0, 1) := by decide +kernel
theorem dX8_laws_24 : decode cX8_laws 24 = .ok (.istore 4, 2) := by decide +kernel
theorem dX8_laws_26 : decode cX8_laws 26 = .ok (.iconst 0, 1) := by decide +kernel
theorem dX8_laws_27 : decode cX8_laws 27 = .ok (.istore 5, 2) := by decide +kernel
theorem dX8_laws_29 : decode cX8_laws 29 = .ok (.iload 5, 2) := by decide +kernel
theorem dX8_laws_31 : decode cX8_laws 31 = .ok (.aload_n 0, 1) := by decide +kernel
theorem dX8_laws_32 : decode cX8_laws 32 = .ok (.getfield 10, 3) := by decide +kernel
theorem dX8_laws_35 : decode cX8_laws 35 = .ok (.getfield 91, 3) := by decide +kernel
theorem dX8_laws_38 : decode cX8_laws 38 = .ok (.if_icmp .ge 35, 3) := by decide +kernel
theorem dX8_laws_41 : decode cX8_laws 41 = .ok (.aload_n 0, 1) := by decide +kernel
theorem dX8_laws_42 : decode cX8_laws 42 = .ok (.getfield 28, 3) := by decide +kernel
theorem dX8_laws_45 : decode cX8_laws 45 = .ok (.iload 5, 2) := by decide +kernel
theorem dX8_laws_47 : decode cX8_laws 47 = .ok (.invokevirtual 135, 3) := by decide +kernel
theorem dX8_laws_50 : decode cX8_laws 50 = .ok (.aload_n 0, 1) := by decide +kernel
theorem dX8_laws_51 : decode cX8_laws 51 = .ok (.iload_n 1, 1) := by decide +kernel
theorem dX8_laws_52 : decode cX8_laws 52 = .ok (.invokevirtual 265, 3) := by decide +kernel
theorem dX8_laws_55 : decode cX8_laws 55 = .ok (.ifCond .ge 12, 3) := by decide +kernel
theorem dX8_laws_58 : decode cX8_laws 58 = .ok (.iload 4, 2) := by decide +kernel
theorem dX8_laws_60 : decode cX8_laws 60 = .ok (.iconst 1, 1) := by decide +kernel
theorem dX8_laws_61 : decode cX8_laws 61 = .ok (.iload 5, 2) := by decide +kernel
theorem dX8_laws_63 : decode cX8_laws 63 = .ok (.ishl, 1) := by decide +kernel
theorem dX8_laws_64 : decode cX8_laws 64 = .ok (.ior, 1) := by decide +kernel
theorem dX8_laws_65 : decode cX8_laws 65 = .ok (.istore 4, 2) := by decide +kernel
theorem dX8_laws_67 : decode cX8_laws 67 = .ok (.iinc 5 1, 3) := by decide +kernel
theorem dX8_laws_70 : decode cX8_laws 70 = .ok (.goto (-41), 3) := by decide +kernel
theorem dX8_laws_73 : decode cX8_laws 73 = .ok (.aload_n 0, 1) := by decide +kernel
theorem dX8_laws_74 : decode cX8_laws 74 = .ok (.getfield 28, 3) := by decide +kernel
theorem dX8_laws_77 : decode cX8_laws 77 = .ok (.iload_n 3, 1) := by decide +kernel
theorem dX8_laws_78 : decode cX8_laws 78 = .ok (.invokevirtual 135, 3) := by decide +kernel
theorem dX8_laws_81 : decode cX8_laws 81 = .ok (.iload 4, 2) := by decide +kernel
theorem dX8_laws_83 : decode cX8_laws 83 = .ok (.ireturn, 1) := by decide +kernel
theorem dX8_amiss_0 : decode cX8_amiss 0 = .ok (.aload_n 0, 1) := by decide +kernel
theorem dX8_amiss_1 : decode cX8_amiss 1 = .ok (.iload_n 1, 1) := by decide +kernel
theorem dX8_amiss_2 : decode cX8_amiss 2 = .ok (.invokevirtual 259, 3) := by decide +kernel
theorem dX8_amiss_5 : decode cX8_amiss 5 = .ok (.ifCond .eq 7, 3) := by decide +kernel
theorem dX8_amiss_8 : decode cX8_amiss 8 = .ok (.ldc2_w 177, 3) := by decide +kernel
theorem dX8_amiss_11 : decode cX8_amiss 11 = .ok (.lreturn, 1) := by decide +kernel
theorem dX8_amiss_12 : decode cX8_amiss 12 = .ok (.lconst 0, 1) := by decide +kernel
theorem dX8_amiss_13 : decode cX8_amiss 13 = .ok (.lstore_n 2, 1) := by decide +kernel
theorem dX8_amiss_14 : decode cX8_amiss 14 = .ok (.iconst 0, 1) := by decide +kernel
theorem dX8_amiss_15 : decode cX8_amiss 15 = .ok (.istore 4, 2) := by decide +kernel
theorem dX8_amiss_17 : decode cX8_amiss 17 = .ok (.iload 4, 2) := by decide +kernel
theorem dX8_amiss_19 : decode cX8_amiss 19 = .ok (.bipush 16, 2) := by decide +kernel
theorem dX8_amiss_21 : decode cX8_amiss 21 = .ok (.if_icmp .ge 40, 3) := by decide +kernel
theorem dX8_amiss_24 : decode cX8_amiss 24 = .ok (.lload_n 2, 1) := by decide +kernel
theorem dX8_amiss_25 : decode cX8_amiss 25 = .ok (.aload_n 0, 1) := by decide +kernel
theorem dX8_amiss_26 : decode cX8_amiss 26 = .ok (.getfield 66, 3) := by decide +kernel
theorem dX8_amiss_29 : decode cX8_amiss 29 = .ok (.iload_n 1, 1) := by decide +kernel
theorem dX8_amiss_30 : decode cX8_amiss 30 = .ok (.aaload, 1) := by decide +kernel
theorem dX8_amiss_31 : decode cX8_amiss 31 = .ok (.getfield 268, 3) := by decide +kernel
theorem dX8_amiss_34 : decode cX8_amiss 34 = .ok (.iload 4, 2) := by decide +kernel
theorem dX8_amiss_36 : decode cX8_amiss 36 = .ok (.iaload, 1) := by decide +kernel
theorem dX8_amiss_37 : decode cX8_amiss 37 = .ok (.i2l, 1) := by decide +kernel
theorem dX8_amiss_38 : decode cX8_amiss 38 = .ok (.aload_n 0, 1) := by decide +kernel
theorem dX8_amiss_39 : decode cX8_amiss 39 = .ok (.getfield 28, 3) := by decide +kernel
theorem dX8_amiss_42 : decode cX8_amiss 42 = .ok (.iload 4, 2) := by decide +kernel
theorem dX8_amiss_44 : decode cX8_amiss 44 = .ok (.iconst 0, 1) := by decide +kernel
theorem dX8_amiss_45 : decode cX8_amiss 45 = .ok (.invokevirtual 152, 3) := by decide +kernel
theorem dX8_amiss_48 : decode cX8_amiss 48 = .ok (.i2l, 1) := by decide +kernel
theorem dX8_amiss_49 : decode cX8_amiss 49 = .ok (.lsub, 1) := by decide +kernel
theorem dX8_amiss_50 : decode cX8_amiss 50 = .ok (.invokestatic 271, 3) := by decide +kernel
theorem dX8_amiss_53 : decode cX8_amiss 53 = .ok (.ladd, 1) := by decide +kernel
theorem dX8_amiss_54 : decode cX8_amiss 54 = .ok (.lstore_n 2, 1) := by decide +kernel
theorem dX8_amiss_55 : decode cX8_amiss 55 = .ok (.iinc 4 1, 3) := by decide +kernel
theorem dX8_amiss_58 : decode cX8_amiss 58 = .ok (.goto (-41), 3) := by decide +kernel
theorem dX8_amiss_61 : decode cX8_amiss 61 = .ok (.lload_n 2, 1) := by decide +kernel
theorem dX8_amiss_62 : decode cX8_amiss 62 = .ok (.lreturn, 1) := by decide +kernel
theorem dX8_film_0 : decode cX8_film 0 = .ok (.iload_n 1, 1) := by decide +kernel
theorem dX8_film_1 : decode cX8_film 1 = .ok (.iconst 4, 1) := by decide +kernel
theorem dX8_film_2 : decode cX8_film 2 = .ok (.invokestatic 100, 3) := by decide +kernel
theorem dX8_film_5 : decode cX8_film 5 = .ok (.ifCond .eq 6, 3) := by decide +kernel
theorem dX8_film_8 : decode cX8_film 8 = .ok (.bipush (-2), 2) := by decide +kernel
theorem dX8_film_10 : decode cX8_film 10 = .ok (.ireturn, 1) := by decide +kernel
theorem dX8_film_11 : decode cX8_film 11 = .ok (.iload_n 2, 1) := by decide +kernel
theorem dX8_film_12 : decode cX8_film 12 = .ok (.bipush 17, 2) := by decide +kernel
theorem dX8_film_14 : decode cX8_film 14 = .ok (.invokestatic 100, 3) := by decide +kernel
theorem dX8_film_17 : decode cX8_film 17 = .ok (.ifCond .eq 6, 3) := by decide +kernel
theorem dX8_film_20 : decode cX8_film 20 = .ok (.bipush (-5), 2) := by decide +kernel
theorem dX8_film_22 : decode cX8_film 22 = .ok (.ireturn, 1) := by decide +kernel
theorem dX8_film_23 : decode cX8_film 23 = .ok (.iload_n 3, 1) := by decide +kernel
theorem dX8_film_24 : decode cX8_film 24 = .ok (.iconst 3, 1) := by decide +kernel
theorem dX8_film_25 : decode cX8_film 25 = .ok (.invokestatic 100, 3) := by decide +kernel
theorem dX8_film_28 : decode cX8_film 28 = .ok (.ifCond .eq 6, 3) := by decide +kernel
theorem dX8_film_31 : decode cX8_film 31 = .ok (.bipush (-7), 2) := by decide +kernel
theorem dX8_film_33 : decode cX8_film 33 = .ok (.ireturn, 1) := by decide +kernel
theorem dX8_film_34 : decode cX8_film 34 = .ok (.iload_n 2, 1) := by decide +kernel
theorem dX8_film_35 : decode cX8_film 35 = .ok (.bipush 16, 2) := by decide +kernel
theorem dX8_film_37 : decode cX8_film 37 = .ok (.if_icmp .ge 25, 3) := by decide +kernel
theorem dX8_film_40 : decode cX8_film 40 = .ok (.aload_n 0, 1) := by decide +kernel
theorem dX8_film_41 : decode cX8_film 41 = .ok (.getfield 28, 3) := by decide +kernel
theorem dX8_film_44 : decode cX8_film 44 = .ok (.iload_n 2, 1) := by decide +kernel
theorem dX8_film_45 : decode cX8_film 45 = .ok (.iload_n 3, 1) := by decide +kernel
theorem dX8_film_46 : decode cX8_film 46 = .ok (.aload_n 0, 1) := by decide +kernel
theorem dX8_film_47 : decode cX8_film 47 = .ok (.getfield 28, 3) := by decide +kernel
theorem dX8_film_50 : decode cX8_film 50 = .ok (.getfield 75, 3) := by decide +kernel
theorem dX8_film_53 : decode cX8_film 53 = .ok (.getfield 88, 3) := by decide +kernel
theorem dX8_film_56 : decode cX8_film 56 = .ok (.invokevirtual 221, 3) := by decide +kernel
theorem dX8_film_59 : decode cX8_film 59 = .ok (.goto 4, 3) := by decide +kernel
theorem dX8_film_62 : decode cX8_film 62 = .ok (.iconst 0, 1) := by decide +kernel
theorem dX8_film_63 : decode cX8_film 63 = .ok (.istore 4, 2) := by decide +kernel
theorem dX8_film_65 : decode cX8_film 65 = .ok (.aload_n 0, 1) := by decide +kernel
theorem dX8_film_66 : decode cX8_film 66 = .ok (.getfield 66, 3) := by decide +kernel
theorem dX8_film_69 : decode cX8_film 69 = .ok (.iload_n 1, 1) := by decide +kernel
theorem dX8_film_70 : decode cX8_film 70 = .ok (.aaload, 1) := by decide +kernel
theorem dX8_film_71 : decode cX8_film 71 = .ok (.iconst 0, 1) := by decide +kernel
theorem dX8_film_72 : decode cX8_film 72 = .ok (.bipush 16, 2) := by decide +kernel
theorem dX8_film_74 : decode cX8_film 74 = .ok (.invokevirtual 277, 3) := by decide +kernel
theorem dX8_film_77 : decode cX8_film 77 = .ok (.iconst 0, 1) := by decide +kernel
theorem dX8_film_78 : decode cX8_film 78 = .ok (.istore 5, 2) := by decide +kernel
theorem dX8_film_80 : decode cX8_film 80 = .ok (.iload 5, 2) := by decide +kernel
theorem dX8_film_82 : decode cX8_film 82 = .ok (.bipush 16, 2) := by decide +kernel
theorem dX8_film_84 : decode cX8_film 84 = .ok (.if_icmp .ge 46, 3) := by decide +kernel
theorem dX8_film_87 : decode cX8_film 87 = .ok (.aload_n 0, 1) := by decide +kernel
theorem dX8_film_88 : decode cX8_film 88 = .ok (.getfield 66, 3) := by decide +kernel
theorem dX8_film_91 : decode cX8_film 91 = .ok (.iload_n 1, 1) := by decide +kernel
theorem dX8_film_92 : decode cX8_film 92 = .ok (.aaload, 1) := by decide +kernel
theorem dX8_film_93 : decode cX8_film 93 = .ok (.iload 5, 2) := by decide +kernel
theorem dX8_film_95 : decode cX8_film 95 = .ok (.iload_n 2, 1) := by decide +kernel
theorem dX8_film_96 : decode cX8_film 96 = .ok (.bipush 16, 2) := by decide +kernel
theorem dX8_film_98 : decode cX8_film 98 = .ok (.if_icmp .ne 16, 3) := by decide +kernel
theorem dX8_film_101 : decode cX8_film 101 = .ok (.aload_n 0, 1) := by decide +kernel
theorem dX8_film_102 : decode cX8_film 102 = .ok (.getfield 28, 3) := by decide +kernel
theorem dX8_film_105 : decode cX8_film 105 = .ok (.iload 5, 2) := by decide +kernel
theorem dX8_film_107 : decode cX8_film 107 = .ok (.iconst 0, 1) := by decide +kernel
theorem dX8_film_108 : decode cX8_film 108 = .ok (.invokevirtual 152, 3) := by decide +kernel
theorem dX8_film_111 : decode cX8_film 111 = .ok (.goto 10, 3) := by decide +kernel
theorem dX8_film_114 : decode cX8_film 114 = .ok (.iload 4, 2) := by decide +kernel
theorem dX8_film_116 : decode cX8_film 116 = .ok (.iload 5, 2) := by decide +kernel
theorem dX8_film_118 : decode cX8_film 118 = .ok (.ishr, 1) := by decide +kernel
theorem dX8_film_119 : decode cX8_film 119 = .ok (.iconst 1, 1) := by decide +kernel
theorem dX8_film_120 : decode cX8_film 120 = .ok (.iand, 1) := by decide +kernel
theorem dX8_film_121 : decode cX8_film 121 = .ok (.invokevirtual 281, 3) := by decide +kernel
theorem dX8_film_124 : decode cX8_film 124 = .ok (.iinc 5 1, 3) := by decide +kernel
theorem dX8_film_127 : decode cX8_film 127 = .ok (.goto (-47), 3) := by decide +kernel
theorem dX8_film_130 : decode cX8_film 130 = .ok (.bipush 16, 2) := by decide +kernel
theorem dX8_film_132 : decode cX8_film 132 = .ok (.ireturn, 1) := by decide +kernel
theorem dX8_image_0 : decode cX8_image 0 = .ok (.aload_n 0, 1) := by decide +kernel
theorem dX8_image_1 : decode cX8_image 1 = .ok (.getfield 60, 3) := by decide +kernel
theorem dX8_image_4 : decode cX8_image 4 = .ok (.aload_n 0, 1) := by decide +kernel
theorem dX8_image_5 : decode cX8_image 5 = .ok (.getfield 28, 3) := by decide +kernel
theorem dX8_image_8 : decode cX8_image 8 = .ok (.getfield 75, 3) := by decide +kernel
theorem dX8_image_11 : decode cX8_image 11 = .ok (.invokevirtual 284, 3) := by decide +kernel
theorem dX8_image_14 : decode cX8_image 14 = .ok (.aload_n 0, 1) := by decide +kernel
theorem dX8_image_15 : decode cX8_image 15 = .ok (.iconst 1, 1) := by decide +kernel
theorem dX8_image_16 : decode cX8_image 16 = .ok (.putfield 71, 3) := by decide +kernel
theorem dX8_image_19 : decode cX8_image 19 = .ok (.aload_n 0, 1) := by decide +kernel
theorem dX8_image_20 : decode cX8_image 20 = .ok (.getfield 28, 3) := by decide +kernel
theorem dX8_image_23 : decode cX8_image 23 = .ok (.getfield 75, 3) := by decide +kernel
theorem dX8_image_26 : decode cX8_image 26 = .ok (.getfield 82, 3) := by decide +kernel
theorem dX8_image_29 : decode cX8_image 29 = .ok (.invokestatic 224, 3) := by decide +kernel
theorem dX8_image_32 : decode cX8_image 32 = .ok (.ireturn, 1) := by decide +kernel
theorem dX8_back_0 : decode cX8_back 0 = .ok (.aload_n 0, 1) := by decide +kernel
theorem dX8_back_1 : decode cX8_back 1 = .ok (.getfield 71, 3) := by decide +kernel
theorem dX8_back_4 : decode cX8_back 4 = .ok (.ifCond .ne 6, 3) := by decide +kernel
theorem dX8_back_7 : decode cX8_back 7 = .ok (.bipush (-3), 2) := by decide +kernel
theorem dX8_back_9 : decode cX8_back 9 = .ok (.ireturn, 1) := by decide +kernel
theorem dX8_back_10 : decode cX8_back 10 = .ok (.aload_n 0, 1) := by decide +kernel
theorem dX8_back_11 : decode cX8_back 11 = .ok (.getfield 28, 3) := by decide +kernel
theorem dX8_back_14 : decode cX8_back 14 = .ok (.getfield 75, 3) := by decide +kernel
theorem dX8_back_17 : decode cX8_back 17 = .ok (.aload_n 0, 1) := by decide +kernel
theorem dX8_back_18 : decode cX8_back 18 = .ok (.getfield 60, 3) := by decide +kernel
theorem dX8_back_21 : decode cX8_back 21 = .ok (.invokevirtual 284, 3) := by decide +kernel
theorem dX8_back_24 : decode cX8_back 24 = .ok (.aload_n 0, 1) := by decide +kernel
theorem dX8_back_25 : decode cX8_back 25 = .ok (.getfield 28, 3) := by decide +kernel
theorem dX8_back_28 : decode cX8_back 28 = .ok (.invokevirtual 109, 3) := by decide +kernel
theorem dX8_back_31 : decode cX8_back 31 = .ok (.aload_n 0, 1) := by decide +kernel
theorem dX8_back_32 : decode cX8_back 32 = .ok (.getfield 28, 3) := by decide +kernel
theorem dX8_back_35 : decode cX8_back 35 = .ok (.getfield 75, 3) := by decide +kernel
theorem dX8_back_38 : decode cX8_back 38 = .ok (.getfield 82, 3) := by decide +kernel
theorem dX8_back_41 : decode cX8_back 41 = .ok (.invokestatic 224, 3) := by decide +kernel
theorem dX8_back_44 : decode cX8_back 44 = .ok (.ireturn, 1) := by decide +kernel
theorem dX8_sheet_0 : decode cX8_sheet 0 = .ok (.iload_n 1, 1) := by decide +kernel
theorem dX8_sheet_1 : decode cX8_sheet 1 = .ok (.iconst 4, 1) := by decide +kernel
theorem dX8_sheet_2 : decode cX8_sheet 2 = .ok (.invokestatic 100, 3) := by decide +kernel
theorem dX8_sheet_5 : decode cX8_sheet 5 = .ok (.ifCond .ne 13, 3) := by decide +kernel
theorem dX8_sheet_8 : decode cX8_sheet 8 = .ok (.iload_n 2, 1) := by decide +kernel
theorem dX8_sheet_9 : decode cX8_sheet 9 = .ok (.iconst (-1), 1) := by decide +kernel
theorem dX8_sheet_10 : decode cX8_sheet 10 = .ok (.if_icmp .lt 8, 3) := by decide +kernel
theorem dX8_sheet_13 : decode cX8_sheet 13 = .ok (.iload_n 2, 1) := by decide +kernel
theorem dX8_sheet_14 : decode cX8_sheet 14 = .ok (.iconst 3, 1) := by decide +kernel
theorem dX8_sheet_15 : decode cX8_sheet 15 = .ok (.if_icmp .lt 6, 3) := by decide +kernel
theorem dX8_sheet_18 : decode cX8_sheet 18 = .ok (.bipush (-2), 2) := by decide +kernel
theorem dX8_sheet_20 : decode cX8_sheet 20 = .ok (.ireturn, 1) := by decide +kernel
theorem dX8_sheet_21 : decode cX8_sheet 21 = .ok (.iload_n 2, 1) := by decide +kernel
theorem dX8_sheet_22 : decode cX8_sheet 22 = .ok (.iconst (-1), 1) := by decide +kernel
theorem dX8_sheet_23 : decode cX8_sheet 23 = .ok (.if_icmp .ne 16, 3) := by decide +kernel
theorem dX8_sheet_26 : decode cX8_sheet 26 = .ok (.aload_n 0, 1) := by decide +kernel
theorem dX8_sheet_27 : decode cX8_sheet 27 = .ok (.getfield 66, 3) := by decide +kernel
theorem dX8_sheet_30 : decode cX8_sheet 30 = .ok (.iload_n 1, 1) := by decide +kernel
theorem dX8_sheet_31 : decode cX8_sheet 31 = .ok (.aaload, 1) := by decide +kernel
theorem dX8_sheet_32 : decode cX8_sheet 32 = .ok (.iconst (-1), 1) := by decide +kernel
theorem dX8_sheet_33 : decode cX8_sheet 33 = .ok (.iconst 0, 1) := by decide +kernel
theorem dX8_sheet_34 : decode cX8_sheet 34 = .ok (.invokevirtual 277, 3) := by decide +kernel
theorem dX8_sheet_37 : decode cX8_sheet 37 = .ok (.iconst 1, 1) := by decide +kernel
theorem dX8_sheet_38 : decode cX8_sheet 38 = .ok (.ireturn, 1) := by decide +kernel
theorem dX8_sheet_39 : decode cX8_sheet 39 = .ok (.iload_n 3, 1) := by decide +kernel
theorem dX8_sheet_40 : decode cX8_sheet 40 = .ok (.bipush 40, 2) := by decide +kernel
theorem dX8_sheet_42 : decode cX8_sheet 42 = .ok (.if_icmp .le 6, 3) := by decide +kernel
theorem dX8_sheet_45 : decode cX8_sheet 45 = .ok (.bipush (-2), 2) := by decide +kernel
theorem dX8_sheet_47 : decode cX8_sheet 47 = .ok (.ireturn, 1) := by decide +kernel
theorem dX8_sheet_48 : decode cX8_sheet 48 = .ok (.iload_n 3, 1) := by decide +kernel
theorem dX8_sheet_49 : decode cX8_sheet 49 = .ok (.ifCond .ge 6, 3) := by decide +kernel
theorem dX8_sheet_52 : decode cX8_sheet 52 = .ok (.bipush (-14), 2) := by decide +kernel
theorem dX8_sheet_54 : decode cX8_sheet 54 = .ok (.ireturn, 1) := by decide +kernel
theorem dX8_sheet_55 : decode cX8_sheet 55 = .ok (.aload_n 0, 1) := by decide +kernel
theorem dX8_sheet_56 : decode cX8_sheet 56 = .ok (.getfield 66, 3) := by decide +kernel
theorem dX8_sheet_59 : decode cX8_sheet 59 = .ok (.iload_n 1, 1) := by decide +kernel
theorem dX8_sheet_60 : decode cX8_sheet 60 = .ok (.aaload, 1) := by decide +kernel
theorem dX8_sheet_61 : decode cX8_sheet 61 = .ok (.iload_n 2, 1) := by decide +kernel
theorem dX8_sheet_62 : decode cX8_sheet 62 = .ok (.iload_n 3, 1) := by decide +kernel
theorem dX8_sheet_63 : decode cX8_sheet 63 = .ok (.invokevirtual 277, 3) := by decide +kernel
theorem dX8_sheet_66 : decode cX8_sheet 66 = .ok (.iconst 1, 1) := by decide +kernel
theorem dX8_sheet_67 : decode cX8_sheet 67 = .ok (.ireturn, 1) := by decide +kernel
theorem dX8_cell_0 : decode cX8_cell 0 = .ok (.iload_n 1, 1) := by decide +kernel
theorem dX8_cell_1 : decode cX8_cell 1 = .ok (.iconst 4, 1) := by decide +kernel
theorem dX8_cell_2 : decode cX8_cell 2 = .ok (.invokestatic 100, 3) := by decide +kernel
theorem dX8_cell_5 : decode cX8_cell 5 = .ok (.ifCond .eq 6, 3) := by decide +kernel
theorem dX8_cell_8 : decode cX8_cell 8 = .ok (.bipush (-2), 2) := by decide +kernel
theorem dX8_cell_10 : decode cX8_cell 10 = .ok (.ireturn, 1) := by decide +kernel
theorem dX8_cell_11 : decode cX8_cell 11 = .ok (.aload_n 0, 1) := by decide +kernel
theorem dX8_cell_12 : decode cX8_cell 12 = .ok (.getfield 66, 3) := by decide +kernel
theorem dX8_cell_15 : decode cX8_cell 15 = .ok (.iload_n 1, 1) := by decide +kernel
theorem dX8_cell_16 : decode cX8_cell 16 = .ok (.aaload, 1) := by decide +kernel
theorem dX8_cell_17 : decode cX8_cell 17 = .ok (.invokevirtual 287, 3) := by decide +kernel
theorem dX8_cell_20 : decode cX8_cell 20 = .ok (.ifCond .eq 6, 3) := by decide +kernel
theorem dX8_cell_23 : decode cX8_cell 23 = .ok (.bipush (-11), 2) := by decide +kernel
theorem dX8_cell_25 : decode cX8_cell 25 = .ok (.ireturn, 1) := by decide +kernel
theorem dX8_cell_26 : decode cX8_cell 26 = .ok (.iload_n 2, 1) := by decide +kernel
theorem dX8_cell_27 : decode cX8_cell 27 = .ok (.aload_n 0, 1) := by decide +kernel
theorem dX8_cell_28 : decode cX8_cell 28 = .ok (.getfield 66, 3) := by decide +kernel
theorem dX8_cell_31 : decode cX8_cell 31 = .ok (.iload_n 1, 1) := by decide +kernel
theorem dX8_cell_32 : decode cX8_cell 32 = .ok (.aaload, 1) := by decide +kernel
theorem dX8_cell_33 : decode cX8_cell 33 = .ok (.getfield 291, 3) := by decide +kernel
theorem dX8_cell_36 : decode cX8_cell 36 = .ok (.invokestatic 100, 3) := by decide +kernel
theorem dX8_cell_39 : decode cX8_cell 39 = .ok (.ifCond .eq 6, 3) := by decide +kernel
theorem dX8_cell_42 : decode cX8_cell 42 = .ok (.bipush (-12), 2) := by decide +kernel
theorem dX8_cell_44 : decode cX8_cell 44 = .ok (.ireturn, 1) := by decide +kernel
theorem dX8_cell_45 : decode cX8_cell 45 = .ok (.aload_n 0, 1) := by decide +kernel
theorem dX8_cell_46 : decode cX8_cell 46 = .ok (.getfield 66, 3) := by decide +kernel
theorem dX8_cell_49 : decode cX8_cell 49 = .ok (.iload_n 1, 1) := by decide +kernel
theorem dX8_cell_50 : decode cX8_cell 50 = .ok (.aaload, 1) := by decide +kernel
theorem dX8_cell_51 : decode cX8_cell 51 = .ok (.iload_n 2, 1) := by decide +kernel
theorem dX8_cell_52 : decode cX8_cell 52 = .ok (.iload_n 3, 1) := by decide +kernel
theorem dX8_cell_53 : decode cX8_cell 53 = .ok (.invokevirtual 281, 3) := by decide +kernel
theorem dX8_cell_56 : decode cX8_cell 56 = .ok (.iconst 1, 1) := by decide +kernel
theorem dX8_cell_57 : decode cX8_cell 57 = .ok (.ireturn, 1) := by decide +kernel
theorem dX8_copy_0 : decode cX8_copy 0 = .ok (.iload_n 1, 1) := by decide +kernel
theorem dX8_copy_1 : decode cX8_copy 1 = .ok (.iconst 4, 1) := by decide +kernel
theorem dX8_copy_2 : decode cX8_copy 2 = .ok (.invokestatic 100, 3) := by decide +kernel
theorem dX8_copy_5 : decode cX8_copy 5 = .ok (.ifCond .ne 11, 3) := by decide +kernel
theorem dX8_copy_8 : decode cX8_copy 8 = .ok (.iload_n 3, 1) := by decide +kernel
theorem dX8_copy_9 : decode cX8_copy 9 = .ok (.iconst 4, 1) := by decide +kernel
theorem dX8_copy_10 : decode cX8_copy 10 = .ok (.invokestatic 100, 3) := by decide +kernel
theorem dX8_copy_13 : decode cX8_copy 13 = .ok (.ifCond .eq 6, 3) := by decide +kernel
theorem dX8_copy_16 : decode cX8_copy 16 = .ok (.bipush (-2), 2) := by decide +kernel
theorem dX8_copy_18 : decode cX8_copy 18 = .ok (.ireturn, 1) := by decide +kernel
theorem dX8_copy_19 : decode cX8_copy 19 = .ok (.aload_n 0, 1) := by decide +kernel
theorem dX8_copy_20 : decode cX8_copy 20 = .ok (.getfield 66, 3) := by decide +kernel
theorem dX8_copy_23 : decode cX8_copy 23 = .ok (.iload_n 1, 1) := by decide +kernel
theorem dX8_copy_24 : decode cX8_copy 24 = .ok (.aaload, 1) := by decide +kernel
theorem dX8_copy_25 : decode cX8_copy 25 = .ok (.astore 6, 2) := by decide +kernel
theorem dX8_copy_27 : decode cX8_copy 27 = .ok (.aload_n 0, 1) := by decide +kernel
theorem dX8_copy_28 : decode cX8_copy 28 = .ok (.getfield 66, 3) := by decide +kernel
theorem dX8_copy_31 : decode cX8_copy 31 = .ok (.iload_n 3, 1) := by decide +kernel
theorem dX8_copy_32 : decode cX8_copy 32 = .ok (.aaload, 1) := by decide +kernel
theorem dX8_copy_33 : decode cX8_copy 33 = .ok (.astore 7, 2) := by decide +kernel
theorem dX8_copy_35 : decode cX8_copy 35 = .ok (.aload 6, 2) := by decide +kernel
theorem dX8_copy_37 : decode cX8_copy 37 = .ok (.invokevirtual 287, 3) := by decide +kernel
theorem dX8_copy_40 : decode cX8_copy 40 = .ok (.ifCond .ne 11, 3) := by decide +kernel
theorem dX8_copy_43 : decode cX8_copy 43 = .ok (.aload 7, 2) := by decide +kernel
theorem dX8_copy_45 : decode cX8_copy 45 = .ok (.invokevirtual 287, 3) := by decide +kernel
theorem dX8_copy_48 : decode cX8_copy 48 = .ok (.ifCond .eq 6, 3) := by decide +kernel
theorem dX8_copy_51 : decode cX8_copy 51 = .ok (.bipush (-11), 2) := by decide +kernel
theorem dX8_copy_53 : decode cX8_copy 53 = .ok (.ireturn, 1) := by decide +kernel
theorem dX8_copy_54 : decode cX8_copy 54 = .ok (.aload 6, 2) := by decide +kernel
theorem dX8_copy_56 : decode cX8_copy 56 = .ok (.getfield 292, 3) := by decide +kernel
theorem dX8_copy_59 : decode cX8_copy 59 = .ok (.aload 7, 2) := by decide +kernel
theorem dX8_copy_61 : decode cX8_copy 61 = .ok (.getfield 292, 3) := by decide +kernel
theorem dX8_copy_64 : decode cX8_copy 64 = .ok (.if_icmp .eq 6, 3) := by decide +kernel
theorem dX8_copy_67 : decode cX8_copy 67 = .ok (.bipush (-13), 2) := by decide +kernel
theorem dX8_copy_69 : decode cX8_copy 69 = .ok (.ireturn, 1) := by decide +kernel
theorem dX8_copy_70 : decode cX8_copy 70 = .ok (.aload 6, 2) := by decide +kernel
theorem dX8_copy_72 : decode cX8_copy 72 = .ok (.iload_n 2, 1) := by decide +kernel
theorem dX8_copy_73 : decode cX8_copy 73 = .ok (.iload 5, 2) := by decide +kernel
theorem dX8_copy_75 : decode cX8_copy 75 = .ok (.invokevirtual 295, 3) := by decide +kernel
theorem dX8_copy_78 : decode cX8_copy 78 = .ok (.ifCond .eq 15, 3) := by decide +kernel
theorem dX8_copy_81 : decode cX8_copy 81 = .ok (.aload 7, 2) := by decide +kernel
theorem dX8_copy_83 : decode cX8_copy 83 = .ok (.iload 4, 2) := by decide +kernel
theorem dX8_copy_85 : decode cX8_copy 85 = .ok (.iload 5, 2) := by decide +kernel
theorem dX8_copy_87 : decode cX8_copy 87 = .ok (.invokevirtual 295, 3) := by decide +kernel
theorem dX8_copy_90 : decode cX8_copy 90 = .ok (.ifCond .ne 6, 3) := by decide +kernel
theorem dX8_copy_93 : decode cX8_copy 93 = .ok (.bipush (-12), 2) := by decide +kernel
theorem dX8_copy_95 : decode cX8_copy 95 = .ok (.ireturn, 1) := by decide +kernel
theorem dX8_copy_96 : decode cX8_copy 96 = .ok (.aload 6, 2) := by decide +kernel
theorem dX8_copy_98 : decode cX8_copy 98 = .ok (.getfield 268, 3) := by decide +kernel
theorem dX8_copy_101 : decode cX8_copy 101 = .ok (.iload_n 2, 1) := by decide +kernel
theorem dX8_copy_102 : decode cX8_copy 102 = .ok (.aload 7, 2) := by decide +kernel
theorem dX8_copy_104 : decode cX8_copy 104 = .ok (.getfield 268, 3) := by decide +kernel
theorem dX8_copy_107 : decode cX8_copy 107 = .ok (.iload 4, 2) := by decide +kernel
theorem dX8_copy_109 : decode cX8_copy 109 = .ok (.iload 5, 2) := by decide +kernel
theorem dX8_copy_111 : decode cX8_copy 111 = .ok (.invokestatic 298, 3) := by decide +kernel
theorem dX8_copy_114 : decode cX8_copy 114 = .ok (.iload 5, 2) := by decide +kernel
theorem dX8_copy_116 : decode cX8_copy 116 = .ok (.ireturn, 1) := by decide +kernel
theorem dX8_layBy_0 : decode cX8_layBy 0 = .ok (.iload_n 1, 1) := by decide +kernel
theorem dX8_layBy_1 : decode cX8_layBy 1 = .ok (.iconst 4, 1) := by decide +kernel
theorem dX8_layBy_2 : decode cX8_layBy 2 = .ok (.invokestatic 100, 3) := by decide +kernel
theorem dX8_layBy_5 : decode cX8_layBy 5 = .ok (.ifCond .ne 21, 3) := by decide +kernel
theorem dX8_layBy_8 : decode cX8_layBy 8 = .ok (.iload_n 2, 1) := by decide +kernel
theorem dX8_layBy_9 : decode cX8_layBy 9 = .ok (.iconst 3, 1) := by decide +kernel
theorem dX8_layBy_10 : decode cX8_layBy 10 = .ok (.invokestatic 100, 3) := by decide +kernel
theorem dX8_layBy_13 : decode cX8_layBy 13 = .ok (.ifCond .ne 13, 3) := by decide +kernel
theorem dX8_layBy_16 : decode cX8_layBy 16 = .ok (.iload 4, 2) := by decide +kernel
theorem dX8_layBy_18 : decode cX8_layBy 18 = .ok (.bipush 14, 2) := by decide +kernel
theorem dX8_layBy_20 : decode cX8_layBy 20 = .ok (.invokestatic 100, 3) := by decide +kernel
theorem dX8_layBy_23 : decode cX8_layBy 23 = .ok (.ifCond .eq 6, 3) := by decide +kernel
theorem dX8_layBy_26 : decode cX8_layBy 26 = .ok (.bipush (-2), 2) := by decide +kernel
theorem dX8_layBy_28 : decode cX8_layBy 28 = .ok (.ireturn, 1) := by decide +kernel
theorem dX8_layBy_29 : decode cX8_layBy 29 = .ok (.aload_n 0, 1) := by decide +kernel
theorem dX8_layBy_30 : decode cX8_layBy 30 = .ok (.getfield 66, 3) := by decide +kernel
theorem dX8_layBy_33 : decode cX8_layBy 33 = .ok (.iload_n 1, 1) := by decide +kernel
theorem dX8_layBy_34 : decode cX8_layBy 34 = .ok (.aaload, 1) := by decide +kernel
theorem dX8_layBy_35 : decode cX8_layBy 35 = .ok (.astore 5, 2) := by decide +kernel
theorem dX8_layBy_37 : decode cX8_layBy 37 = .ok (.aload 5, 2) := by decide +kernel
theorem dX8_layBy_39 : decode cX8_layBy 39 = .ok (.invokevirtual 287, 3) := by decide +kernel
theorem dX8_layBy_42 : decode cX8_layBy 42 = .ok (.ifCond .eq 6, 3) := by decide +kernel
theorem dX8_layBy_45 : decode cX8_layBy 45 = .ok (.bipush (-11), 2) := by decide +kernel
theorem dX8_layBy_47 : decode cX8_layBy 47 = .ok (.ireturn, 1) := by decide +kernel
theorem dX8_layBy_48 : decode cX8_layBy 48 = .ok (.aload 5, 2) := by decide +kernel
theorem dX8_layBy_50 : decode cX8_layBy 50 = .ok (.getfield 292, 3) := by decide +kernel
theorem dX8_layBy_53 : decode cX8_layBy 53 = .ok (.iload_n 2, 1) := by decide +kernel
theorem dX8_layBy_54 : decode cX8_layBy 54 = .ok (.if_icmp .eq 6, 3) := by decide +kernel
theorem dX8_layBy_57 : decode cX8_layBy 57 = .ok (.bipush (-13), 2) := by decide +kernel
theorem dX8_layBy_59 : decode cX8_layBy 59 = .ok (.ireturn, 1) := by decide +kernel
theorem dX8_layBy_60 : decode cX8_layBy 60 = .ok (.iconst 0, 1) := by decide +kernel
theorem dX8_layBy_61 : decode cX8_layBy 61 = .ok (.istore 6, 2) := by decide +kernel
theorem dX8_layBy_63 : decode cX8_layBy 63 = .ok (.iconst 0, 1) := by decide +kernel
theorem dX8_layBy_64 : decode cX8_layBy 64 = .ok (.istore 7, 2) := by decide +kernel
theorem dX8_layBy_66 : decode cX8_layBy 66 = .ok (.iload 7, 2) := by decide +kernel
theorem dX8_layBy_68 : decode cX8_layBy 68 = .ok (.iload 4, 2) := by decide +kernel
theorem dX8_layBy_70 : decode cX8_layBy 70 = .ok (.if_icmp .ge 69, 3) := by decide +kernel
theorem dX8_layBy_73 : decode cX8_layBy 73 = .ok (.iload_n 3, 1) := by decide +kernel
theorem dX8_layBy_74 : decode cX8_layBy 74 = .ok (.iconst 3, 1) := by decide +kernel
theorem dX8_layBy_75 : decode cX8_layBy 75 = .ok (.iload 7, 2) := by decide +kernel
theorem dX8_layBy_77 : decode cX8_layBy 77 = .ok (.imul, 1) := by decide +kernel
theorem dX8_layBy_78 : decode cX8_layBy 78 = .ok (.iadd, 1) := by decide +kernel
theorem dX8_layBy_79 : decode cX8_layBy 79 = .ok (.istore 8, 2) := by decide +kernel
theorem dX8_layBy_81 : decode cX8_layBy 81 = .ok (.aload 5, 2) := by decide +kernel
theorem dX8_layBy_83 : decode cX8_layBy 83 = .ok (.iload 8, 2) := by decide +kernel
theorem dX8_layBy_85 : decode cX8_layBy 85 = .ok (.iconst 3, 1) := by decide +kernel
theorem dX8_layBy_86 : decode cX8_layBy 86 = .ok (.invokevirtual 295, 3) := by decide +kernel
theorem dX8_layBy_89 : decode cX8_layBy 89 = .ok (.ifCond .ne 6, 3) := by decide +kernel
theorem dX8_layBy_92 : decode cX8_layBy 92 = .ok (.bipush (-12), 2) := by decide +kernel
theorem dX8_layBy_94 : decode cX8_layBy 94 = .ok (.ireturn, 1) := by decide +kernel
theorem dX8_layBy_95 : decode cX8_layBy 95 = .ok (.aload_n 0, 1) := by decide +kernel
theorem dX8_layBy_96 : decode cX8_layBy 96 = .ok (.aload 5, 2) := by decide +kernel
theorem dX8_layBy_98 : decode cX8_layBy 98 = .ok (.getfield 268, 3) := by decide +kernel
theorem dX8_layBy_101 : decode cX8_layBy 101 = .ok (.iload 8, 2) := by decide +kernel
theorem dX8_layBy_103 : decode cX8_layBy 103 = .ok (.iaload, 1) := by decide +kernel
theorem dX8_layBy_104 : decode cX8_layBy 104 = .ok (.aload 5, 2) := by decide +kernel
theorem dX8_layBy_106 : decode cX8_layBy 106 = .ok (.getfield 268, 3) := by decide +kernel
theorem dX8_layBy_109 : decode cX8_layBy 109 = .ok (.iload 8, 2) := by decide +kernel
theorem dX8_layBy_111 : decode cX8_layBy 111 = .ok (.iconst 1, 1) := by decide +kernel
theorem dX8_layBy_112 : decode cX8_layBy 112 = .ok (.iadd, 1) := by decide +kernel
theorem dX8_layBy_113 : decode cX8_layBy 113 = .ok (.iaload, 1) := by decide +kernel
theorem dX8_layBy_114 : decode cX8_layBy 114 = .ok (.aload 5, 2) := by decide +kernel
theorem dX8_layBy_116 : decode cX8_layBy 116 = .ok (.getfield 268, 3) := by decide +kernel
theorem dX8_layBy_119 : decode cX8_layBy 119 = .ok (.iload 8, 2) := by decide +kernel
theorem dX8_layBy_121 : decode cX8_layBy 121 = .ok (.iconst 2, 1) := by decide +kernel
theorem dX8_layBy_122 : decode cX8_layBy 122 = .ok (.iadd, 1) := by decide +kernel
theorem dX8_layBy_123 : decode cX8_layBy 123 = .ok (.iaload, 1) := by decide +kernel
theorem dX8_layBy_124 : decode cX8_layBy 124 = .ok (.invokevirtual 304, 3) := by decide +kernel
theorem dX8_layBy_127 : decode cX8_layBy 127 = .ok (.ifCond .lt 6, 3) := by decide +kernel
theorem dX8_layBy_130 : decode cX8_layBy 130 = .ok (.iinc 6 1, 3) := by decide +kernel
theorem dX8_layBy_133 : decode cX8_layBy 133 = .ok (.iinc 7 1, 3) := by decide +kernel
theorem dX8_layBy_136 : decode cX8_layBy 136 = .ok (.goto (-70), 3) := by decide +kernel
theorem dX8_layBy_139 : decode cX8_layBy 139 = .ok (.iload 6, 2) := by decide +kernel
theorem dX8_layBy_141 : decode cX8_layBy 141 = .ok (.ireturn, 1) := by decide +kernel
theorem dX8_taken_0 : decode cX8_taken 0 = .ok (.iload_n 2, 1) := by decide +kernel
theorem dX8_taken_1 : decode cX8_taken 1 = .ok (.bipush 7, 2) := by decide +kernel
theorem dX8_taken_3 : decode cX8_taken 3 = .ok (.invokestatic 100, 3) := by decide +kernel
theorem dX8_taken_6 : decode cX8_taken 6 = .ok (.ifCond .eq 7, 3) := by decide +kernel
theorem dX8_taken_9 : decode cX8_taken 9 = .ok (.ldc2_w 307, 3) := by decide +kernel
theorem dX8_taken_12 : decode cX8_taken 12 = .ok (.lreturn, 1) := by decide +kernel
theorem dX8_taken_13 : decode cX8_taken 13 = .ok (.iload_n 1, 1) := by decide +kernel
theorem dX8_taken_14 : decode cX8_taken 14 = .ok (.bipush 32, 2) := by decide +kernel
theorem dX8_taken_16 : decode cX8_taken 16 = .ok (.invokestatic 100, 3) := by decide +kernel
theorem dX8_taken_19 : decode cX8_taken 19 = .ok (.ifCond .eq 7, 3) := by decide +kernel
theorem dX8_taken_22 : decode cX8_taken 22 = .ok (.ldc2_w 309, 3) := by decide +kernel
theorem dX8_taken_25 : decode cX8_taken 25 = .ok (.lreturn, 1) := by decide +kernel
theorem dX8_taken_26 : decode cX8_taken 26 = .ok (.iload_n 1, 1) := by decide +kernel
theorem dX8_taken_27 : decode cX8_taken 27 = .ok (.bipush 16, 2) := by decide +kernel
theorem dX8_taken_29 : decode cX8_taken 29 = .ok (.if_icmp .lt 7, 3) := by decide +kernel
theorem dX8_taken_32 : decode cX8_taken 32 = .ok (.iconst 1, 1) := by decide +kernel
theorem dX8_taken_33 : decode cX8_taken 33 = .ok (.goto 4, 3) := by decide +kernel
theorem dX8_taken_36 : decode cX8_taken 36 = .ok (.iconst 0, 1) := by decide +kernel
theorem dX8_taken_37 : decode cX8_taken 37 = .ok (.istore_n 3, 1) := by decide +kernel
theorem dX8_taken_38 : decode cX8_taken 38 = .ok (.iload_n 3, 1) := by decide +kernel
theorem dX8_taken_39 : decode cX8_taken 39 = .ok (.ifCond .eq 10, 3) := by decide +kernel
theorem dX8_taken_42 : decode cX8_taken 42 = .ok (.iload_n 1, 1) := by decide +kernel
theorem dX8_taken_43 : decode cX8_taken 43 = .ok (.bipush 16, 2) := by decide +kernel
theorem dX8_taken_45 : decode cX8_taken 45 = .ok (.isub, 1) := by decide +kernel
theorem dX8_taken_46 : decode cX8_taken 46 = .ok (.goto 4, 3) := by decide +kernel
theorem dX8_taken_49 : decode cX8_taken 49 = .ok (.iload_n 1, 1) := by decide +kernel
theorem dX8_taken_50 : decode cX8_taken 50 = .ok (.istore 4, 2) := by decide +kernel
theorem dX8_taken_52 : decode cX8_taken 52 = .ok (.iload_n 3, 1) := by decide +kernel
theorem dX8_taken_53 : decode cX8_taken 53 = .ok (.ifCond .eq 25, 3) := by decide +kernel
theorem dX8_taken_56 : decode cX8_taken 56 = .ok (.aload_n 0, 1) := by decide +kernel
theorem dX8_taken_57 : decode cX8_taken 57 = .ok (.getfield 28, 3) := by decide +kernel
theorem dX8_taken_60 : decode cX8_taken 60 = .ok (.getfield 75, 3) := by decide +kernel
theorem dX8_taken_63 : decode cX8_taken 63 = .ok (.getfield 82, 3) := by decide +kernel
theorem dX8_taken_66 : decode cX8_taken 66 = .ok (.iload 4, 2) := by decide +kernel
theorem dX8_taken_68 : decode cX8_taken 68 = .ok (.invokestatic 215, 3) := by decide +kernel
theorem dX8_taken_71 : decode cX8_taken 71 = .ok (.ifCond .ne 7, 3) := by decide +kernel
theorem dX8_taken_74 : decode cX8_taken 74 = .ok (.ldc2_w 311, 3) := by decide +kernel
theorem dX8_taken_77 : decode cX8_taken 77 = .ok (.lreturn, 1) := by decide +kernel
theorem dX8_taken_78 : decode cX8_taken 78 = .ok (.iload_n 3, 1) := by decide +kernel
theorem dX8_taken_79 : decode cX8_taken 79 = .ok (.iload_n 2, 1) := by decide +kernel
theorem dX8_taken_80 : decode cX8_taken 80 = .ok (.bipush 6, 2) := by decide +kernel
theorem dX8_taken_82 : decode cX8_taken 82 = .ok (.if_icmp .ne 7, 3) := by decide +kernel
theorem dX8_taken_85 : decode cX8_taken 85 = .ok (.iconst 1, 1) := by decide +kernel
theorem dX8_taken_86 : decode cX8_taken 86 = .ok (.goto 4, 3) := by decide +kernel
theorem dX8_taken_89 : decode cX8_taken 89 = .ok (.iconst 0, 1) := by decide +kernel
theorem dX8_taken_90 : decode cX8_taken 90 = .ok (.if_icmp .ne 27, 3) := by decide +kernel
theorem dX8_taken_93 : decode cX8_taken 93 = .ok (.iload_n 3, 1) := by decide +kernel
theorem dX8_taken_94 : decode cX8_taken 94 = .ok (.ifCond .ne 27, 3) := by decide +kernel
theorem dX8_taken_97 : decode cX8_taken 97 = .ok (.aload_n 0, 1) := by decide +kernel
theorem dX8_taken_98 : decode cX8_taken 98 = .ok (.getfield 28, 3) := by decide +kernel
theorem dX8_taken_101 : decode cX8_taken 101 = .ok (.getfield 75, 3) := by decide +kernel
theorem dX8_taken_104 : decode cX8_taken 104 = .ok (.getfield 142, 3) := by decide +kernel
theorem dX8_taken_107 : decode cX8_taken 107 = .ok (.iload 4, 2) := by decide +kernel
theorem dX8_taken_109 : decode cX8_taken 109 = .ok (.iaload, 1) := by decide +kernel
theorem dX8_taken_110 : decode cX8_taken 110 = .ok (.iload_n 2, 1) := by decide +kernel
theorem dX8_taken_111 : decode cX8_taken 111 = .ok (.invokestatic 313, 3) := by decide +kernel
theorem dX8_taken_114 : decode cX8_taken 114 = .ok (.ifCond .ne 7, 3) := by decide +kernel
theorem dX8_taken_117 : decode cX8_taken 117 = .ok (.ldc2_w 316, 3) := by decide +kernel
theorem dX8_taken_120 : decode cX8_taken 120 = .ok (.lreturn, 1) := by decide +kernel
theorem dX8_taken_121 : decode cX8_taken 121 = .ok (.iload_n 3, 1) := by decide +kernel
theorem dX8_taken_122 : decode cX8_taken 122 = .ok (.ifCond .eq 27, 3) := by decide +kernel
theorem dX8_taken_125 : decode cX8_taken 125 = .ok (.aload_n 0, 1) := by decide +kernel
theorem dX8_taken_126 : decode cX8_taken 126 = .ok (.getfield 28, 3) := by decide +kernel
theorem dX8_taken_129 : decode cX8_taken 129 = .ok (.getfield 75, 3) := by decide +kernel
theorem dX8_taken_132 : decode cX8_taken 132 = .ok (.getfield 82, 3) := by decide +kernel
theorem dX8_taken_135 : decode cX8_taken 135 = .ok (.iconst 2, 1) := by decide +kernel
theorem dX8_taken_136 : decode cX8_taken 136 = .ok (.iload 4, 2) := by decide +kernel
theorem dX8_taken_138 : decode cX8_taken 138 = .ok (.ishl, 1) := by decide +kernel
theorem dX8_taken_139 : decode cX8_taken 139 = .ok (.iconst 1, 1) := by decide +kernel
theorem dX8_taken_140 : decode cX8_taken 140 = .ok (.isub, 1) := by decide +kernel
theorem dX8_taken_141 : decode cX8_taken 141 = .ok (.iand, 1) := by decide +kernel
theorem dX8_taken_142 : decode cX8_taken 142 = .ok (.invokestatic 224, 3) := by decide +kernel
theorem dX8_taken_145 : decode cX8_taken 145 = .ok (.i2l, 1) := by decide +kernel
theorem dX8_taken_146 : decode cX8_taken 146 = .ok (.goto 6, 3) := by decide +kernel
theorem dX8_taken_149 : decode cX8_taken 149 = .ok (.iload 4, 2) := by decide +kernel
theorem dX8_taken_151 : decode cX8_taken 151 = .ok (.i2l, 1) := by decide +kernel
theorem dX8_taken_152 : decode cX8_taken 152 = .ok (.lreturn, 1) := by decide +kernel
theorem dX8_outside_0 : decode cX8_outside 0 = .ok (.iload_n 0, 1) := by decide +kernel
theorem dX8_outside_1 : decode cX8_outside 1 = .ok (.ifCond .lt 8, 3) := by decide +kernel
theorem dX8_outside_4 : decode cX8_outside 4 = .ok (.iload_n 0, 1) := by decide +kernel
theorem dX8_outside_5 : decode cX8_outside 5 = .ok (.iload_n 1, 1) := by decide +kernel
theorem dX8_outside_6 : decode cX8_outside 6 = .ok (.if_icmp .lt 7, 3) := by decide +kernel
theorem dX8_outside_9 : decode cX8_outside 9 = .ok (.iconst 1, 1) := by decide +kernel
theorem dX8_outside_10 : decode cX8_outside 10 = .ok (.goto 4, 3) := by decide +kernel
theorem dX8_outside_13 : decode cX8_outside 13 = .ok (.iconst 0, 1) := by decide +kernel
theorem dX8_outside_14 : decode cX8_outside 14 = .ok (.ireturn, 1) := by decide +kernel
theorem dX8_noByte_0 : decode cX8_noByte 0 = .ok (.iload_n 0, 1) := by decide +kernel
theorem dX8_noByte_1 : decode cX8_noByte 1 = .ok (.sipush 256, 3) := by decide +kernel
theorem dX8_noByte_4 : decode cX8_noByte 4 = .ok (.invokestatic 100, 3) := by decide +kernel
theorem dX8_noByte_7 : decode cX8_noByte 7 = .ok (.ireturn, 1) := by decide +kernel
theorem dX8_has_0 : decode cX8_has 0 = .ok (.iload_n 0, 1) := by decide +kernel
theorem dX8_has_1 : decode cX8_has 1 = .ok (.iload_n 1, 1) := by decide +kernel
theorem dX8_has_2 : decode cX8_has 2 = .ok (.ishr, 1) := by decide +kernel
theorem dX8_has_3 : decode cX8_has 3 = .ok (.iconst 1, 1) := by decide +kernel
theorem dX8_has_4 : decode cX8_has 4 = .ok (.iand, 1) := by decide +kernel
theorem dX8_has_5 : decode cX8_has 5 = .ok (.iconst 1, 1) := by decide +kernel
theorem dX8_has_6 : decode cX8_has 6 = .ok (.if_icmp .ne 7, 3) := by decide +kernel
theorem dX8_has_9 : decode cX8_has 9 = .ok (.iconst 1, 1) := by decide +kernel
theorem dX8_has_10 : decode cX8_has 10 = .ok (.goto 4, 3) := by decide +kernel
theorem dX8_has_13 : decode cX8_has 13 = .ok (.iconst 0, 1) := by decide +kernel
theorem dX8_has_14 : decode cX8_has 14 = .ok (.ireturn, 1) := by decide +kernel
theorem dX8_gapsEvery_0 : decode cX8_gapsEvery 0 = .ok (.iconst 0, 1) := by decide +kernel
theorem dX8_gapsEvery_1 : decode cX8_gapsEvery 1 = .ok (.istore_n 1, 1) := by decide +kernel
theorem dX8_gapsEvery_2 : decode cX8_gapsEvery 2 = .ok (.iload_n 0, 1) := by decide +kernel
theorem dX8_gapsEvery_3 : decode cX8_gapsEvery 3 = .ok (.iconst 1, 1) := by decide +kernel
theorem dX8_gapsEvery_4 : decode cX8_gapsEvery 4 = .ok (.isub, 1) := by decide +kernel
theorem dX8_gapsEvery_5 : decode cX8_gapsEvery 5 = .ok (.istore_n 2, 1) := by decide +kernel
theorem dX8_gapsEvery_6 : decode cX8_gapsEvery 6 = .ok (.iload_n 2, 1) := by decide +kernel
theorem dX8_gapsEvery_7 : decode cX8_gapsEvery 7 = .ok (.bipush 16, 2) := by decide +kernel
theorem dX8_gapsEvery_9 : decode cX8_gapsEvery 9 = .ok (.if_icmp .ge 16, 3) := by decide +kernel
theorem dX8_gapsEvery_12 : decode cX8_gapsEvery 12 = .ok (.iload_n 1, 1) := by decide +kernel
theorem dX8_gapsEvery_13 : decode cX8_gapsEvery 13 = .ok (.iconst 1, 1) := by decide +kernel
theorem dX8_gapsEvery_14 : decode cX8_gapsEvery 14 = .ok (.iload_n 2, 1) := by decide +kernel
theorem dX8_gapsEvery_15 : decode cX8_gapsEvery 15 = .ok (.ishl, 1) := by decide +kernel
theorem dX8_gapsEvery_16 : decode cX8_gapsEvery 16 = .ok (.ior, 1) := by decide +kernel
theorem dX8_gapsEvery_17 : decode cX8_gapsEvery 17 = .ok (.istore_n 1, 1) := by decide +kernel
theorem dX8_gapsEvery_18 : decode cX8_gapsEvery 18 = .ok (.iload_n 2, 1) := by decide +kernel
theorem dX8_gapsEvery_19 : decode cX8_gapsEvery 19 = .ok (.iload_n 0, 1) := by decide +kernel
theorem dX8_gapsEvery_20 : decode cX8_gapsEvery 20 = .ok (.iadd, 1) := by decide +kernel
theorem dX8_gapsEvery_21 : decode cX8_gapsEvery 21 = .ok (.istore_n 2, 1) := by decide +kernel
theorem dX8_gapsEvery_22 : decode cX8_gapsEvery 22 = .ok (.goto (-16), 3) := by decide +kernel
theorem dX8_gapsEvery_25 : decode cX8_gapsEvery 25 = .ok (.iload_n 1, 1) := by decide +kernel
theorem dX8_gapsEvery_26 : decode cX8_gapsEvery 26 = .ok (.ireturn, 1) := by decide +kernel
theorem dX8_isOf_0 : decode cX8_isOf 0 = .ok (.iload_n 0, 1) := by decide +kernel
theorem dX8_isOf_1 : decode cX8_isOf 1 = .ok (.istore_n 2, 1) := by decide +kernel
theorem dX8_isOf_2 : decode cX8_isOf 2 = .ok (.iconst 0, 1) := by decide +kernel
theorem dX8_isOf_3 : decode cX8_isOf 3 = .ok (.istore_n 3, 1) := by decide +kernel
theorem dX8_isOf_4 : decode cX8_isOf 4 = .ok (.iload_n 3, 1) := by decide +kernel
theorem dX8_isOf_5 : decode cX8_isOf 5 = .ok (.bipush 6, 2) := by decide +kernel
theorem dX8_isOf_7 : decode cX8_isOf 7 = .ok (.if_icmp .ge 30, 3) := by decide +kernel
theorem dX8_isOf_10 : decode cX8_isOf 10 = .ok (.iload_n 2, 1) := by decide +kernel
theorem dX8_isOf_11 : decode cX8_isOf 11 = .ok (.ifCond .lt 26, 3) := by decide +kernel
theorem dX8_isOf_14 : decode cX8_isOf 14 = .ok (.iload_n 2, 1) := by decide +kernel
theorem dX8_isOf_15 : decode cX8_isOf 15 = .ok (.bipush 6, 2) := by decide +kernel
theorem dX8_isOf_17 : decode cX8_isOf 17 = .ok (.if_icmp .ge 20, 3) := by decide +kernel
theorem dX8_isOf_20 : decode cX8_isOf 20 = .ok (.iload_n 2, 1) := by decide +kernel
theorem dX8_isOf_21 : decode cX8_isOf 21 = .ok (.iload_n 1, 1) := by decide +kernel
theorem dX8_isOf_22 : decode cX8_isOf 22 = .ok (.if_icmp .eq 15, 3) := by decide +kernel
theorem dX8_isOf_25 : decode cX8_isOf 25 = .ok (.getstatic 318, 3) := by decide +kernel
theorem dX8_isOf_28 : decode cX8_isOf 28 = .ok (.iload_n 2, 1) := by decide +kernel
theorem dX8_isOf_29 : decode cX8_isOf 29 = .ok (.iaload, 1) := by decide +kernel
theorem dX8_isOf_30 : decode cX8_isOf 30 = .ok (.istore_n 2, 1) := by decide +kernel
theorem dX8_isOf_31 : decode cX8_isOf 31 = .ok (.iinc 3 1, 3) := by decide +kernel
theorem dX8_isOf_34 : decode cX8_isOf 34 = .ok (.goto (-30), 3) := by decide +kernel
theorem dX8_isOf_37 : decode cX8_isOf 37 = .ok (.iload_n 2, 1) := by decide +kernel
theorem dX8_isOf_38 : decode cX8_isOf 38 = .ok (.iload_n 1, 1) := by decide +kernel
theorem dX8_isOf_39 : decode cX8_isOf 39 = .ok (.if_icmp .ne 7, 3) := by decide +kernel
theorem dX8_isOf_42 : decode cX8_isOf 42 = .ok (.iconst 1, 1) := by decide +kernel
theorem dX8_isOf_43 : decode cX8_isOf 43 = .ok (.goto 4, 3) := by decide +kernel
theorem dX8_isOf_46 : decode cX8_isOf 46 = .ok (.iconst 0, 1) := by decide +kernel
theorem dX8_isOf_47 : decode cX8_isOf 47 = .ok (.ireturn, 1) := by decide +kernel
theorem dX8_commonDivisor_0 : decode cX8_commonDivisor 0 = .ok (.iconst 1, 1) := by decide +kernel
theorem dX8_commonDivisor_1 : decode cX8_commonDivisor 1 = .ok (.iload_n 0, 1) := by decide +kernel
theorem dX8_commonDivisor_2 : decode cX8_commonDivisor 2 = .ok (.iload_n 1, 1) := by decide +kernel
theorem dX8_commonDivisor_3 : decode cX8_commonDivisor 3 = .ok (.invokestatic 321, 3) := by decide +kernel
theorem dX8_commonDivisor_6 : decode cX8_commonDivisor 6 = .ok (.invokestatic 321, 3) := by decide +kernel
theorem dX8_commonDivisor_9 : decode cX8_commonDivisor 9 = .ok (.istore_n 2, 1) := by decide +kernel
theorem dX8_commonDivisor_10 : decode cX8_commonDivisor 10 = .ok (.iload_n 2, 1) := by decide +kernel
theorem dX8_commonDivisor_11 : decode cX8_commonDivisor 11 = .ok (.iconst 1, 1) := by decide +kernel
theorem dX8_commonDivisor_12 : decode cX8_commonDivisor 12 = .ok (.if_icmp .le 21, 3) := by decide +kernel
theorem dX8_commonDivisor_15 : decode cX8_commonDivisor 15 = .ok (.iload_n 0, 1) := by decide +kernel
theorem dX8_commonDivisor_16 : decode cX8_commonDivisor 16 = .ok (.iload_n 2, 1) := by decide +kernel
theorem dX8_commonDivisor_17 : decode cX8_commonDivisor 17 = .ok (.irem, 1) := by decide +kernel
theorem dX8_commonDivisor_18 : decode cX8_commonDivisor 18 = .ok (.ifCond .ne 9, 3) := by decide +kernel
theorem dX8_commonDivisor_21 : decode cX8_commonDivisor 21 = .ok (.iload_n 1, 1) := by decide +kernel
theorem dX8_commonDivisor_22 : decode cX8_commonDivisor 22 = .ok (.iload_n 2, 1) := by decide +kernel
theorem dX8_commonDivisor_23 : decode cX8_commonDivisor 23 = .ok (.irem, 1) := by decide +kernel
theorem dX8_commonDivisor_24 : decode cX8_commonDivisor 24 = .ok (.ifCond .eq 9, 3) := by decide +kernel
theorem dX8_commonDivisor_27 : decode cX8_commonDivisor 27 = .ok (.iinc 2 (-1), 3) := by decide +kernel
theorem dX8_commonDivisor_30 : decode cX8_commonDivisor 30 = .ok (.goto (-20), 3) := by decide +kernel
theorem dX8_commonDivisor_33 : decode cX8_commonDivisor 33 = .ok (.iload_n 2, 1) := by decide +kernel
theorem dX8_commonDivisor_34 : decode cX8_commonDivisor 34 = .ok (.ireturn, 1) := by decide +kernel
theorem dX8_refusedAsTold_0 : decode cX8_refusedAsTold 0 = .ok (.iload_n 1, 1) := by decide +kernel
theorem dX8_refusedAsTold_1 : decode cX8_refusedAsTold 1 = .ok (.iconst 4, 1) := by decide +kernel
theorem dX8_refusedAsTold_2 : decode cX8_refusedAsTold 2 = .ok (.invokestatic 100, 3) := by decide +kernel
theorem dX8_refusedAsTold_5 : decode cX8_refusedAsTold 5 = .ok (.ifCond .eq 6, 3) := by decide +kernel
theorem dX8_refusedAsTold_8 : decode cX8_refusedAsTold 8 = .ok (.bipush (-2), 2) := by decide +kernel
theorem dX8_refusedAsTold_10 : decode cX8_refusedAsTold 10 = .ok (.ireturn, 1) := by decide +kernel
theorem dX8_refusedAsTold_11 : decode cX8_refusedAsTold 11 = .ok (.aload_n 0, 1) := by decide +kernel
theorem dX8_refusedAsTold_12 : decode cX8_refusedAsTold 12 = .ok (.getfield 66, 3) := by decide +kernel
theorem dX8_refusedAsTold_15 : decode cX8_refusedAsTold 15 = .ok (.iload_n 1, 1) := by decide +kernel
theorem dX8_refusedAsTold_16 : decode cX8_refusedAsTold 16 = .ok (.aaload, 1) := by decide +kernel
theorem dX8_refusedAsTold_17 : decode cX8_refusedAsTold 17 = .ok (.invokevirtual 287, 3) := by decide +kernel
theorem dX8_refusedAsTold_20 : decode cX8_refusedAsTold 20 = .ok (.ifCond .eq 6, 3) := by decide +kernel
theorem dX8_refusedAsTold_23 : decode cX8_refusedAsTold 23 = .ok (.bipush (-11), 2) := by decide +kernel
theorem dX8_refusedAsTold_25 : decode cX8_refusedAsTold 25 = .ok (.ireturn, 1) := by decide +kernel
theorem dX8_refusedAsTold_26 : decode cX8_refusedAsTold 26 = .ok (.aload_n 0, 1) := by decide +kernel
theorem dX8_refusedAsTold_27 : decode cX8_refusedAsTold 27 = .ok (.getfield 66, 3) := by decide +kernel
theorem dX8_refusedAsTold_30 : decode cX8_refusedAsTold 30 = .ok (.iload_n 1, 1) := by decide +kernel
theorem dX8_refusedAsTold_31 : decode cX8_refusedAsTold 31 = .ok (.aaload, 1) := by decide +kernel
theorem dX8_refusedAsTold_32 : decode cX8_refusedAsTold 32 = .ok (.getfield 291, 3) := by decide +kernel
theorem dX8_refusedAsTold_35 : decode cX8_refusedAsTold 35 = .ok (.bipush 16, 2) := by decide +kernel
theorem dX8_refusedAsTold_37 : decode cX8_refusedAsTold 37 = .ok (.if_icmp .ne 7, 3) := by decide +kernel
theorem dX8_refusedAsTold_40 : decode cX8_refusedAsTold 40 = .ok (.iconst 0, 1) := by decide +kernel
theorem dX8_refusedAsTold_41 : decode cX8_refusedAsTold 41 = .ok (.goto 5, 3) := by decide +kernel
theorem dX8_refusedAsTold_44 : decode cX8_refusedAsTold 44 = .ok (.bipush (-2), 2) := by decide +kernel
theorem dX8_refusedAsTold_46 : decode cX8_refusedAsTold 46 = .ok (.ireturn, 1) := by decide +kernel
theorem dX8_firstOtherChance_0 : decode cX8_firstOtherChance 0 = .ok (.iconst 0, 1) := by decide +kernel
theorem dX8_firstOtherChance_1 : decode cX8_firstOtherChance 1 = .ok (.istore_n 2, 1) := by decide +kernel
theorem dX8_firstOtherChance_2 : decode cX8_firstOtherChance 2 = .ok (.iload_n 2, 1) := by decide +kernel
theorem dX8_firstOtherChance_3 : decode cX8_firstOtherChance 3 = .ok (.bipush 16, 2) := by decide +kernel
theorem dX8_firstOtherChance_5 : decode cX8_firstOtherChance 5 = .ok (.if_icmp .ge 34, 3) := by decide +kernel
theorem dX8_firstOtherChance_8 : decode cX8_firstOtherChance 8 = .ok (.aload_n 0, 1) := by decide +kernel
theorem dX8_firstOtherChance_9 : decode cX8_firstOtherChance 9 = .ok (.getfield 66, 3) := by decide +kernel
theorem dX8_firstOtherChance_12 : decode cX8_firstOtherChance 12 = .ok (.iload_n 1, 1) := by decide +kernel
theorem dX8_firstOtherChance_13 : decode cX8_firstOtherChance 13 = .ok (.aaload, 1) := by decide +kernel
theorem dX8_firstOtherChance_14 : decode cX8_firstOtherChance 14 = .ok (.getfield 268, 3) := by decide +kernel
theorem dX8_firstOtherChance_17 : decode cX8_firstOtherChance 17 = .ok (.iload_n 2, 1) := by decide +kernel
theorem dX8_firstOtherChance_18 : decode cX8_firstOtherChance 18 = .ok (.iaload, 1) := by decide +kernel
theorem dX8_firstOtherChance_19 : decode cX8_firstOtherChance 19 = .ok (.aload_n 0, 1) := by decide +kernel
theorem dX8_firstOtherChance_20 : decode cX8_firstOtherChance 20 = .ok (.getfield 28, 3) := by decide +kernel
theorem dX8_firstOtherChance_23 : decode cX8_firstOtherChance 23 = .ok (.iload_n 2, 1) := by decide +kernel
theorem dX8_firstOtherChance_24 : decode cX8_firstOtherChance 24 = .ok (.iconst 0, 1) := by decide +kernel
theorem dX8_firstOtherChance_25 : decode cX8_firstOtherChance 25 = .ok (.invokevirtual 152, 3) := by decide +kernel
theorem dX8_firstOtherChance_28 : decode cX8_firstOtherChance 28 = .ok (.if_icmp .eq 5, 3) := by decide +kernel
theorem dX8_firstOtherChance_31 : decode cX8_firstOtherChance 31 = .ok (.iload_n 2, 1) := by decide +kernel
theorem dX8_firstOtherChance_32 : decode cX8_firstOtherChance 32 = .ok (.ireturn, 1) := by decide +kernel
theorem dX8_firstOtherChance_33 : decode cX8_firstOtherChance 33 = .ok (.iinc 2 1, 3) := by decide +kernel
theorem dX8_firstOtherChance_36 : decode cX8_firstOtherChance 36 = .ok (.goto (-34), 3) := by decide +kernel
theorem dX8_firstOtherChance_39 : decode cX8_firstOtherChance 39 = .ok (.iconst (-1), 1) := by decide +kernel
theorem dX8_firstOtherChance_40 : decode cX8_firstOtherChance 40 = .ok (.ireturn, 1) := by decide +kernel
