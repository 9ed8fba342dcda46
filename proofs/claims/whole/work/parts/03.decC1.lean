theorem dX9_text_116 : decode cX9_text 116 = .ok (.iconst 1, 1) := by decide +kernel
theorem dX9_text_117 : decode cX9_text 117 = .ok (.goto 4, 3) := by decide +kernel
theorem dX9_text_120 : decode cX9_text 120 = .ok (.iconst 0, 1) := by decide +kernel
theorem dX9_text_121 : decode cX9_text 121 = .ok (.istore_n 1, 1) := by decide +kernel
theorem dX9_text_122 : decode cX9_text 122 = .ok (.aload_n 0, 1) := by decide +kernel
theorem dX9_text_123 : decode cX9_text 123 = .ok (.getfield 25, 3) := by decide +kernel
theorem dX9_text_126 : decode cX9_text 126 = .ok (.iconst 4, 1) := by decide +kernel
theorem dX9_text_127 : decode cX9_text 127 = .ok (.aload_n 0, 1) := by decide +kernel
theorem dX9_text_128 : decode cX9_text 128 = .ok (.getfield 80, 3) := by decide +kernel
theorem dX9_text_131 : decode cX9_text 131 = .ok (.imul, 1) := by decide +kernel
theorem dX9_text_132 : decode cX9_text 132 = .ok (.iconst 3, 1) := by decide +kernel
theorem dX9_text_133 : decode cX9_text 133 = .ok (.iadd, 1) := by decide +kernel
theorem dX9_text_134 : decode cX9_text 134 = .ok (.aload_n 0, 1) := by decide +kernel
theorem dX9_text_135 : decode cX9_text 135 = .ok (.getfield 107, 3) := by decide +kernel
theorem dX9_text_138 : decode cX9_text 138 = .ok (.iastore, 1) := by decide +kernel
theorem dX9_text_139 : decode cX9_text 139 = .ok (.aload_n 0, 1) := by decide +kernel
theorem dX9_text_140 : decode cX9_text 140 = .ok (.iconst 0, 1) := by decide +kernel
theorem dX9_text_141 : decode cX9_text 141 = .ok (.putfield 68, 3) := by decide +kernel
theorem dX9_text_144 : decode cX9_text 144 = .ok (.iload_n 1, 1) := by decide +kernel
theorem dX9_text_145 : decode cX9_text 145 = .ok (.ifCond .ne 11, 3) := by decide +kernel
theorem dX9_text_148 : decode cX9_text 148 = .ok (.bipush (-100), 2) := by decide +kernel
theorem dX9_text_150 : decode cX9_text 150 = .ok (.aload_n 0, 1) := by decide +kernel
theorem dX9_text_151 : decode cX9_text 151 = .ok (.getfield 94, 3) := by decide +kernel
theorem dX9_text_154 : decode cX9_text 154 = .ok (.isub, 1) := by decide +kernel
theorem dX9_text_155 : decode cX9_text 155 = .ok (.ireturn, 1) := by decide +kernel
theorem dX9_text_156 : decode cX9_text 156 = .ok (.aload_n 0, 1) := by decide +kernel
theorem dX9_text_157 : decode cX9_text 157 = .ok (.dup, 1) := by decide +kernel
theorem dX9_text_158 : decode cX9_text 158 = .ok (.getfield 80, 3) := by decide +kernel
theorem dX9_text_161 : decode cX9_text 161 = .ok (.iconst 1, 1) := by decide +kernel
theorem dX9_text_162 : decode cX9_text 162 = .ok (.iadd, 1) := by decide +kernel
theorem dX9_text_163 : decode cX9_text 163 = .ok (.putfield 80, 3) := by decide +kernel
theorem dX9_text_166 : decode cX9_text 166 = .ok (.aload_n 0, 1) := by decide +kernel
theorem dX9_text_167 : decode cX9_text 167 = .ok (.getfield 80, 3) := by decide +kernel
theorem dX9_text_170 : decode cX9_text 170 = .ok (.iconst 1, 1) := by decide +kernel
theorem dX9_text_171 : decode cX9_text 171 = .ok (.isub, 1) := by decide +kernel
theorem dX9_text_172 : decode cX9_text 172 = .ok (.ireturn, 1) := by decide +kernel
theorem dX9_two_0 : decode cX9_two 0 = .ok (.iload_n 0, 1) := by decide +kernel
theorem dX9_two_1 : decode cX9_two 1 = .ok (.tableswitch 101 11 17 #[43, 57, 101, 71, 82, 93, 97], 43) := by decide +kernel
theorem dX9_two_44 : decode cX9_two 44 = .ok (.iload_n 1, 1) := by decide +kernel
theorem dX9_two_45 : decode cX9_two 45 = .ok (.ifCond .ne 7, 3) := by decide +kernel
theorem dX9_two_48 : decode cX9_two 48 = .ok (.iload_n 2, 1) := by decide +kernel
theorem dX9_two_49 : decode cX9_two 49 = .ok (.ifCond .eq 7, 3) := by decide +kernel
theorem dX9_two_52 : decode cX9_two 52 = .ok (.iconst 1, 1) := by decide +kernel
theorem dX9_two_53 : decode cX9_two 53 = .ok (.goto 4, 3) := by decide +kernel
theorem dX9_two_56 : decode cX9_two 56 = .ok (.iconst 0, 1) := by decide +kernel
theorem dX9_two_57 : decode cX9_two 57 = .ok (.ireturn, 1) := by decide +kernel
theorem dX9_two_58 : decode cX9_two 58 = .ok (.iload_n 1, 1) := by decide +kernel
theorem dX9_two_59 : decode cX9_two 59 = .ok (.ifCond .eq 11, 3) := by decide +kernel
theorem dX9_two_62 : decode cX9_two 62 = .ok (.iload_n 2, 1) := by decide +kernel
theorem dX9_two_63 : decode cX9_two 63 = .ok (.ifCond .eq 7, 3) := by decide +kernel
theorem dX9_two_66 : decode cX9_two 66 = .ok (.iconst 1, 1) := by decide +kernel
theorem dX9_two_67 : decode cX9_two 67 = .ok (.goto 4, 3) := by decide +kernel
theorem dX9_two_70 : decode cX9_two 70 = .ok (.iconst 0, 1) := by decide +kernel
theorem dX9_two_71 : decode cX9_two 71 = .ok (.ireturn, 1) := by decide +kernel
theorem dX9_two_72 : decode cX9_two 72 = .ok (.iload_n 1, 1) := by decide +kernel
theorem dX9_two_73 : decode cX9_two 73 = .ok (.iload_n 2, 1) := by decide +kernel
theorem dX9_two_74 : decode cX9_two 74 = .ok (.if_icmp .ge 7, 3) := by decide +kernel
theorem dX9_two_77 : decode cX9_two 77 = .ok (.iconst 1, 1) := by decide +kernel
theorem dX9_two_78 : decode cX9_two 78 = .ok (.goto 4, 3) := by decide +kernel
theorem dX9_two_81 : decode cX9_two 81 = .ok (.iconst 0, 1) := by decide +kernel
theorem dX9_two_82 : decode cX9_two 82 = .ok (.ireturn, 1) := by decide +kernel
theorem dX9_two_83 : decode cX9_two 83 = .ok (.iload_n 1, 1) := by decide +kernel
theorem dX9_two_84 : decode cX9_two 84 = .ok (.iload_n 2, 1) := by decide +kernel
theorem dX9_two_85 : decode cX9_two 85 = .ok (.if_icmp .ne 7, 3) := by decide +kernel
theorem dX9_two_88 : decode cX9_two 88 = .ok (.iconst 1, 1) := by decide +kernel
theorem dX9_two_89 : decode cX9_two 89 = .ok (.goto 4, 3) := by decide +kernel
theorem dX9_two_92 : decode cX9_two 92 = .ok (.iconst 0, 1) := by decide +kernel
theorem dX9_two_93 : decode cX9_two 93 = .ok (.ireturn, 1) := by decide +kernel
theorem dX9_two_94 : decode cX9_two 94 = .ok (.iload_n 1, 1) := by decide +kernel
theorem dX9_two_95 : decode cX9_two 95 = .ok (.iload_n 2, 1) := by decide +kernel
theorem dX9_two_96 : decode cX9_two 96 = .ok (.iadd, 1) := by decide +kernel
theorem dX9_two_97 : decode cX9_two 97 = .ok (.ireturn, 1) := by decide +kernel
theorem dX9_two_98 : decode cX9_two 98 = .ok (.iload_n 1, 1) := by decide +kernel
theorem dX9_two_99 : decode cX9_two 99 = .ok (.iload_n 2, 1) := by decide +kernel
theorem dX9_two_100 : decode cX9_two 100 = .ok (.isub, 1) := by decide +kernel
theorem dX9_two_101 : decode cX9_two 101 = .ok (.ireturn, 1) := by decide +kernel
theorem dX9_two_102 : decode cX9_two 102 = .ok (.iload_n 1, 1) := by decide +kernel
theorem dX9_two_103 : decode cX9_two 103 = .ok (.iload_n 2, 1) := by decide +kernel
theorem dX9_two_104 : decode cX9_two 104 = .ok (.imul, 1) := by decide +kernel
theorem dX9_two_105 : decode cX9_two 105 = .ok (.ireturn, 1) := by decide +kernel
theorem dX9_says_0 : decode cX9_says 0 = .ok (.iconst 0, 1) := by decide +kernel
theorem dX9_says_1 : decode cX9_says 1 = .ok (.istore_n 2, 1) := by decide +kernel
theorem dX9_says_2 : decode cX9_says 2 = .ok (.aload_n 0, 1) := by decide +kernel
theorem dX9_says_3 : decode cX9_says 3 = .ok (.getfield 25, 3) := by decide +kernel
theorem dX9_says_6 : decode cX9_says 6 = .ok (.iconst 4, 1) := by decide +kernel
theorem dX9_says_7 : decode cX9_says 7 = .ok (.aload_n 0, 1) := by decide +kernel
theorem dX9_says_8 : decode cX9_says 8 = .ok (.getfield 83, 3) := by decide +kernel
theorem dX9_says_11 : decode cX9_says 11 = .ok (.imul, 1) := by decide +kernel
theorem dX9_says_12 : decode cX9_says 12 = .ok (.iload_n 1, 1) := by decide +kernel
theorem dX9_says_13 : decode cX9_says 13 = .ok (.iadd, 1) := by decide +kernel
theorem dX9_says_14 : decode cX9_says 14 = .ok (.iaload, 1) := by decide +kernel
theorem dX9_says_15 : decode cX9_says 15 = .ok (.istore_n 3, 1) := by decide +kernel
theorem dX9_says_16 : decode cX9_says 16 = .ok (.iload_n 3, 1) := by decide +kernel
theorem dX9_says_17 : decode cX9_says 17 = .ok (.aload_n 0, 1) := by decide +kernel
theorem dX9_says_18 : decode cX9_says 18 = .ok (.getfield 25, 3) := by decide +kernel
theorem dX9_says_21 : decode cX9_says 21 = .ok (.iconst 4, 1) := by decide +kernel
theorem dX9_says_22 : decode cX9_says 22 = .ok (.aload_n 0, 1) := by decide +kernel
theorem dX9_says_23 : decode cX9_says 23 = .ok (.getfield 83, 3) := by decide +kernel
theorem dX9_says_26 : decode cX9_says 26 = .ok (.imul, 1) := by decide +kernel
theorem dX9_says_27 : decode cX9_says 27 = .ok (.iload_n 1, 1) := by decide +kernel
theorem dX9_says_28 : decode cX9_says 28 = .ok (.iadd, 1) := by decide +kernel
theorem dX9_says_29 : decode cX9_says 29 = .ok (.iconst 1, 1) := by decide +kernel
theorem dX9_says_30 : decode cX9_says 30 = .ok (.iadd, 1) := by decide +kernel
theorem dX9_says_31 : decode cX9_says 31 = .ok (.iaload, 1) := by decide +kernel
theorem dX9_says_32 : decode cX9_says 32 = .ok (.if_icmp .ge 165, 3) := by decide +kernel
theorem dX9_says_35 : decode cX9_says 35 = .ok (.aload_n 0, 1) := by decide +kernel
theorem dX9_says_36 : decode cX9_says 36 = .ok (.getfield 22, 3) := by decide +kernel
theorem dX9_says_39 : decode cX9_says 39 = .ok (.sipush 200, 3) := by decide +kernel
theorem dX9_says_42 : decode cX9_says 42 = .ok (.aload_n 0, 1) := by decide +kernel
theorem dX9_says_43 : decode cX9_says 43 = .ok (.getfield 83, 3) := by decide +kernel
theorem dX9_says_46 : decode cX9_says 46 = .ok (.imul, 1) := by decide +kernel
theorem dX9_says_47 : decode cX9_says 47 = .ok (.iload_n 3, 1) := by decide +kernel
theorem dX9_says_48 : decode cX9_says 48 = .ok (.iadd, 1) := by decide +kernel
theorem dX9_says_49 : decode cX9_says 49 = .ok (.iaload, 1) := by decide +kernel
theorem dX9_says_50 : decode cX9_says 50 = .ok (.istore 4, 2) := by decide +kernel
theorem dX9_says_52 : decode cX9_says 52 = .ok (.iload 4, 2) := by decide +kernel
theorem dX9_says_54 : decode cX9_says 54 = .ok (.ldc 133, 2) := by decide +kernel
theorem dX9_says_56 : decode cX9_says 56 = .ok (.if_icmp .ge 10, 3) := by decide +kernel
theorem dX9_says_59 : decode cX9_says 59 = .ok (.iload 4, 2) := by decide +kernel
theorem dX9_says_61 : decode cX9_says 61 = .ok (.bipush 11, 2) := by decide +kernel
theorem dX9_says_63 : decode cX9_says 63 = .ok (.if_icmp .ge 37, 3) := by decide +kernel
theorem dX9_says_66 : decode cX9_says 66 = .ok (.aload_n 0, 1) := by decide +kernel
theorem dX9_says_67 : decode cX9_says 67 = .ok (.getfield 49, 3) := by decide +kernel
theorem dX9_says_70 : decode cX9_says 70 = .ok (.iload_n 2, 1) := by decide +kernel
theorem dX9_says_71 : decode cX9_says 71 = .ok (.iload 4, 2) := by decide +kernel
theorem dX9_says_73 : decode cX9_says 73 = .ok (.bipush 11, 2) := by decide +kernel
theorem dX9_says_75 : decode cX9_says 75 = .ok (.if_icmp .ge 13, 3) := by decide +kernel
theorem dX9_says_78 : decode cX9_says 78 = .ok (.aload_n 0, 1) := by decide +kernel
theorem dX9_says_79 : decode cX9_says 79 = .ok (.getfield 52, 3) := by decide +kernel
theorem dX9_says_82 : decode cX9_says 82 = .ok (.iload 4, 2) := by decide +kernel
theorem dX9_says_84 : decode cX9_says 84 = .ok (.iaload, 1) := by decide +kernel
theorem dX9_says_85 : decode cX9_says 85 = .ok (.goto 8, 3) := by decide +kernel
theorem dX9_says_88 : decode cX9_says 88 = .ok (.iload 4, 2) := by decide +kernel
theorem dX9_says_90 : decode cX9_says 90 = .ok (.ldc 133, 2) := by decide +kernel
theorem dX9_says_92 : decode cX9_says 92 = .ok (.isub, 1) := by decide +kernel
theorem dX9_says_93 : decode cX9_says 93 = .ok (.iastore, 1) := by decide +kernel
theorem dX9_says_94 : decode cX9_says 94 = .ok (.iinc 2 1, 3) := by decide +kernel
theorem dX9_says_97 : decode cX9_says 97 = .ok (.goto 94, 3) := by decide +kernel
theorem dX9_says_100 : decode cX9_says 100 = .ok (.iload 4, 2) := by decide +kernel
theorem dX9_says_102 : decode cX9_says 102 = .ok (.bipush 13, 2) := by decide +kernel
theorem dX9_says_104 : decode cX9_says 104 = .ok (.if_icmp .ne 30, 3) := by decide +kernel
theorem dX9_says_107 : decode cX9_says 107 = .ok (.aload_n 0, 1) := by decide +kernel
theorem dX9_says_108 : decode cX9_says 108 = .ok (.getfield 49, 3) := by decide +kernel
theorem dX9_says_111 : decode cX9_says 111 = .ok (.iload_n 2, 1) := by decide +kernel
theorem dX9_says_112 : decode cX9_says 112 = .ok (.iconst 1, 1) := by decide +kernel
theorem dX9_says_113 : decode cX9_says 113 = .ok (.isub, 1) := by decide +kernel
theorem dX9_says_114 : decode cX9_says 114 = .ok (.aload_n 0, 1) := by decide +kernel
theorem dX9_says_115 : decode cX9_says 115 = .ok (.getfield 49, 3) := by decide +kernel
theorem dX9_says_118 : decode cX9_says 118 = .ok (.iload_n 2, 1) := by decide +kernel
theorem dX9_says_119 : decode cX9_says 119 = .ok (.iconst 1, 1) := by decide +kernel
theorem dX9_says_120 : decode cX9_says 120 = .ok (.isub, 1) := by decide +kernel
theorem dX9_says_121 : decode cX9_says 121 = .ok (.iaload, 1) := by decide +kernel
theorem dX9_says_122 : decode cX9_says 122 = .ok (.ifCond .ne 7, 3) := by decide +kernel
theorem dX9_says_125 : decode cX9_says 125 = .ok (.iconst 1, 1) := by decide +kernel
theorem dX9_says_126 : decode cX9_says 126 = .ok (.goto 4, 3) := by decide +kernel
theorem dX9_says_129 : decode cX9_says 129 = .ok (.iconst 0, 1) := by decide +kernel
theorem dX9_says_130 : decode cX9_says 130 = .ok (.iastore, 1) := by decide +kernel
theorem dX9_says_131 : decode cX9_says 131 = .ok (.goto 60, 3) := by decide +kernel
theorem dX9_says_134 : decode cX9_says 134 = .ok (.iload 4, 2) := by decide +kernel
theorem dX9_says_136 : decode cX9_says 136 = .ok (.bipush 19, 2) := by decide +kernel
theorem dX9_says_138 : decode cX9_says 138 = .ok (.if_icmp .ne 23, 3) := by decide +kernel
theorem dX9_says_141 : decode cX9_says 141 = .ok (.aload_n 0, 1) := by decide +kernel
theorem dX9_says_142 : decode cX9_says 142 = .ok (.getfield 49, 3) := by decide +kernel
theorem dX9_says_145 : decode cX9_says 145 = .ok (.iload_n 2, 1) := by decide +kernel
theorem dX9_says_146 : decode cX9_says 146 = .ok (.iconst 1, 1) := by decide +kernel
theorem dX9_says_147 : decode cX9_says 147 = .ok (.isub, 1) := by decide +kernel
theorem dX9_says_148 : decode cX9_says 148 = .ok (.aload_n 0, 1) := by decide +kernel
theorem dX9_says_149 : decode cX9_says 149 = .ok (.getfield 49, 3) := by decide +kernel
theorem dX9_says_152 : decode cX9_says 152 = .ok (.iload_n 2, 1) := by decide +kernel
theorem dX9_says_153 : decode cX9_says 153 = .ok (.iconst 1, 1) := by decide +kernel
theorem dX9_says_154 : decode cX9_says 154 = .ok (.isub, 1) := by decide +kernel
theorem dX9_says_155 : decode cX9_says 155 = .ok (.iaload, 1) := by decide +kernel
theorem dX9_says_156 : decode cX9_says 156 = .ok (.ineg, 1) := by decide +kernel
theorem dX9_says_157 : decode cX9_says 157 = .ok (.iastore, 1) := by decide +kernel
theorem dX9_says_158 : decode cX9_says 158 = .ok (.goto 33, 3) := by decide +kernel
theorem dX9_says_161 : decode cX9_says 161 = .ok (.iinc 2 (-1), 3) := by decide +kernel
theorem dX9_says_164 : decode cX9_says 164 = .ok (.aload_n 0, 1) := by decide +kernel
theorem dX9_says_165 : decode cX9_says 165 = .ok (.getfield 49, 3) := by decide +kernel
theorem dX9_says_168 : decode cX9_says 168 = .ok (.iload_n 2, 1) := by decide +kernel
theorem dX9_says_169 : decode cX9_says 169 = .ok (.iconst 1, 1) := by decide +kernel
theorem dX9_says_170 : decode cX9_says 170 = .ok (.isub, 1) := by decide +kernel
theorem dX9_says_171 : decode cX9_says 171 = .ok (.iload 4, 2) := by decide +kernel
theorem dX9_says_173 : decode cX9_says 173 = .ok (.aload_n 0, 1) := by decide +kernel
theorem dX9_says_174 : decode cX9_says 174 = .ok (.getfield 49, 3) := by decide +kernel
theorem dX9_says_177 : decode cX9_says 177 = .ok (.iload_n 2, 1) := by decide +kernel
theorem dX9_says_178 : decode cX9_says 178 = .ok (.iconst 1, 1) := by decide +kernel
theorem dX9_says_179 : decode cX9_says 179 = .ok (.isub, 1) := by decide +kernel
theorem dX9_says_180 : decode cX9_says 180 = .ok (.iaload, 1) := by decide +kernel
theorem dX9_says_181 : decode cX9_says 181 = .ok (.aload_n 0, 1) := by decide +kernel
theorem dX9_says_182 : decode cX9_says 182 = .ok (.getfield 49, 3) := by decide +kernel
theorem dX9_says_185 : decode cX9_says 185 = .ok (.iload_n 2, 1) := by decide +kernel
theorem dX9_says_186 : decode cX9_says 186 = .ok (.iaload, 1) := by decide +kernel
theorem dX9_says_187 : decode cX9_says 187 = .ok (.invokestatic 147, 3) := by decide +kernel
theorem dX9_says_190 : decode cX9_says 190 = .ok (.iastore, 1) := by decide +kernel
theorem dX9_says_191 : decode cX9_says 191 = .ok (.iinc 3 1, 3) := by decide +kernel
theorem dX9_says_194 : decode cX9_says 194 = .ok (.goto (-178), 3) := by decide +kernel
theorem dX9_says_197 : decode cX9_says 197 = .ok (.aload_n 0, 1) := by decide +kernel
theorem dX9_says_198 : decode cX9_says 198 = .ok (.getfield 49, 3) := by decide +kernel
theorem dX9_says_201 : decode cX9_says 201 = .ok (.iconst 0, 1) := by decide +kernel
theorem dX9_says_202 : decode cX9_says 202 = .ok (.iaload, 1) := by decide +kernel
theorem dX9_says_203 : decode cX9_says 203 = .ok (.ireturn, 1) := by decide +kernel
theorem dX9_force_0 : decode cX9_force 0 = .ok (.iload_n 1, 1) := by decide +kernel
theorem dX9_force_1 : decode cX9_force 1 = .ok (.iconst 0, 1) := by decide +kernel
theorem dX9_force_2 : decode cX9_force 2 = .ok (.aload_n 0, 1) := by decide +kernel
theorem dX9_force_3 : decode cX9_force 3 = .ok (.getfield 80, 3) := by decide +kernel
theorem dX9_force_6 : decode cX9_force 6 = .ok (.iconst 1, 1) := by decide +kernel
theorem dX9_force_7 : decode cX9_force 7 = .ok (.isub, 1) := by decide +kernel
theorem dX9_force_8 : decode cX9_force 8 = .ok (.invokestatic 76, 3) := by decide +kernel
theorem dX9_force_11 : decode cX9_force 11 = .ok (.ifCond .ne 6, 3) := by decide +kernel
theorem dX9_force_14 : decode cX9_force 14 = .ok (.bipush (-2), 2) := by decide +kernel
theorem dX9_force_16 : decode cX9_force 16 = .ok (.ireturn, 1) := by decide +kernel
theorem dX9_force_17 : decode cX9_force 17 = .ok (.aload_n 0, 1) := by decide +kernel
theorem dX9_force_18 : decode cX9_force 18 = .ok (.getfield 83, 3) := by decide +kernel
theorem dX9_force_21 : decode cX9_force 21 = .ok (.istore_n 2, 1) := by decide +kernel
theorem dX9_force_22 : decode cX9_force 22 = .ok (.aload_n 0, 1) := by decide +kernel
theorem dX9_force_23 : decode cX9_force 23 = .ok (.iload_n 1, 1) := by decide +kernel
theorem dX9_force_24 : decode cX9_force 24 = .ok (.putfield 83, 3) := by decide +kernel
theorem dX9_force_27 : decode cX9_force 27 = .ok (.iload_n 2, 1) := by decide +kernel
theorem dX9_force_28 : decode cX9_force 28 = .ok (.ireturn, 1) := by decide +kernel
theorem dX9_asksOf_0 : decode cX9_asksOf 0 = .ok (.aload_n 0, 1) := by decide +kernel
theorem dX9_asksOf_1 : decode cX9_asksOf 1 = .ok (.getfield 52, 3) := by decide +kernel
theorem dX9_asksOf_4 : decode cX9_asksOf 4 = .ok (.iconst 0, 1) := by decide +kernel
theorem dX9_asksOf_5 : decode cX9_asksOf 5 = .ok (.iload_n 2, 1) := by decide +kernel
theorem dX9_asksOf_6 : decode cX9_asksOf 6 = .ok (.iastore, 1) := by decide +kernel
theorem dX9_asksOf_7 : decode cX9_asksOf 7 = .ok (.aload_n 0, 1) := by decide +kernel
theorem dX9_asksOf_8 : decode cX9_asksOf 8 = .ok (.getfield 52, 3) := by decide +kernel
theorem dX9_asksOf_11 : decode cX9_asksOf 11 = .ok (.iconst 1, 1) := by decide +kernel
theorem dX9_asksOf_12 : decode cX9_asksOf 12 = .ok (.aload_n 0, 1) := by decide +kernel
theorem dX9_asksOf_13 : decode cX9_asksOf 13 = .ok (.getfield 13, 3) := by decide +kernel
theorem dX9_asksOf_16 : decode cX9_asksOf 16 = .ok (.iload_n 2, 1) := by decide +kernel
theorem dX9_asksOf_17 : decode cX9_asksOf 17 = .ok (.iaload, 1) := by decide +kernel
theorem dX9_asksOf_18 : decode cX9_asksOf 18 = .ok (.iastore, 1) := by decide +kernel
theorem dX9_asksOf_19 : decode cX9_asksOf 19 = .ok (.aload_n 0, 1) := by decide +kernel
theorem dX9_asksOf_20 : decode cX9_asksOf 20 = .ok (.getfield 52, 3) := by decide +kernel
theorem dX9_asksOf_23 : decode cX9_asksOf 23 = .ok (.iconst 2, 1) := by decide +kernel
theorem dX9_asksOf_24 : decode cX9_asksOf 24 = .ok (.iload_n 3, 1) := by decide +kernel
theorem dX9_asksOf_25 : decode cX9_asksOf 25 = .ok (.iastore, 1) := by decide +kernel
theorem dX9_asksOf_26 : decode cX9_asksOf 26 = .ok (.aload_n 0, 1) := by decide +kernel
theorem dX9_asksOf_27 : decode cX9_asksOf 27 = .ok (.getfield 52, 3) := by decide +kernel
theorem dX9_asksOf_30 : decode cX9_asksOf 30 = .ok (.iconst 3, 1) := by decide +kernel
theorem dX9_asksOf_31 : decode cX9_asksOf 31 = .ok (.aload_n 0, 1) := by decide +kernel
theorem dX9_asksOf_32 : decode cX9_asksOf 32 = .ok (.getfield 16, 3) := by decide +kernel
theorem dX9_asksOf_35 : decode cX9_asksOf 35 = .ok (.iconst 0, 1) := by decide +kernel
theorem dX9_asksOf_36 : decode cX9_asksOf 36 = .ok (.iaload, 1) := by decide +kernel
theorem dX9_asksOf_37 : decode cX9_asksOf 37 = .ok (.invokestatic 151, 3) := by decide +kernel
theorem dX9_asksOf_40 : decode cX9_asksOf 40 = .ok (.iastore, 1) := by decide +kernel
theorem dX9_asksOf_41 : decode cX9_asksOf 41 = .ok (.aload_n 0, 1) := by decide +kernel
theorem dX9_asksOf_42 : decode cX9_asksOf 42 = .ok (.getfield 52, 3) := by decide +kernel
theorem dX9_asksOf_45 : decode cX9_asksOf 45 = .ok (.iconst 4, 1) := by decide +kernel
theorem dX9_asksOf_46 : decode cX9_asksOf 46 = .ok (.aload_n 0, 1) := by decide +kernel
theorem dX9_asksOf_47 : decode cX9_asksOf 47 = .ok (.getfield 16, 3) := by decide +kernel
theorem dX9_asksOf_50 : decode cX9_asksOf 50 = .ok (.iconst 2, 1) := by decide +kernel
theorem dX9_asksOf_51 : decode cX9_asksOf 51 = .ok (.iaload, 1) := by decide +kernel
theorem dX9_asksOf_52 : decode cX9_asksOf 52 = .ok (.iastore, 1) := by decide +kernel
theorem dX9_asksOf_53 : decode cX9_asksOf 53 = .ok (.aload_n 0, 1) := by decide +kernel
theorem dX9_asksOf_54 : decode cX9_asksOf 54 = .ok (.getfield 52, 3) := by decide +kernel
theorem dX9_asksOf_57 : decode cX9_asksOf 57 = .ok (.iconst 5, 1) := by decide +kernel
theorem dX9_asksOf_58 : decode cX9_asksOf 58 = .ok (.aload_n 0, 1) := by decide +kernel
theorem dX9_asksOf_59 : decode cX9_asksOf 59 = .ok (.getfield 16, 3) := by decide +kernel
theorem dX9_asksOf_62 : decode cX9_asksOf 62 = .ok (.iconst 3, 1) := by decide +kernel
theorem dX9_asksOf_63 : decode cX9_asksOf 63 = .ok (.iaload, 1) := by decide +kernel
theorem dX9_asksOf_64 : decode cX9_asksOf 64 = .ok (.iastore, 1) := by decide +kernel
theorem dX9_asksOf_65 : decode cX9_asksOf 65 = .ok (.aload_n 0, 1) := by decide +kernel
theorem dX9_asksOf_66 : decode cX9_asksOf 66 = .ok (.iload_n 1, 1) := by decide +kernel
theorem dX9_asksOf_67 : decode cX9_asksOf 67 = .ok (.invokevirtual 154, 3) := by decide +kernel
theorem dX9_asksOf_70 : decode cX9_asksOf 70 = .ok (.iload_n 1, 1) := by decide +kernel
theorem dX9_asksOf_71 : decode cX9_asksOf 71 = .ok (.ifCond .ne 7, 3) := by decide +kernel
theorem dX9_asksOf_74 : decode cX9_asksOf 74 = .ok (.iconst 0, 1) := by decide +kernel
theorem dX9_asksOf_75 : decode cX9_asksOf 75 = .ok (.goto 4, 3) := by decide +kernel
theorem dX9_asksOf_78 : decode cX9_asksOf 78 = .ok (.iconst 1, 1) := by decide +kernel
theorem dX9_asksOf_79 : decode cX9_asksOf 79 = .ok (.bipush 99, 2) := by decide +kernel
theorem dX9_asksOf_81 : decode cX9_asksOf 81 = .ok (.invokestatic 157, 3) := by decide +kernel
theorem dX9_asksOf_84 : decode cX9_asksOf 84 = .ok (.ireturn, 1) := by decide +kernel
theorem dX9_asks_0 : decode cX9_asks 0 = .ok (.iload_n 1, 1) := by decide +kernel
theorem dX9_asks_1 : decode cX9_asks 1 = .ok (.iconst 0, 1) := by decide +kernel
theorem dX9_asks_2 : decode cX9_asks 2 = .ok (.iconst 2, 1) := by decide +kernel
theorem dX9_asks_3 : decode cX9_asks 3 = .ok (.invokestatic 76, 3) := by decide +kernel
theorem dX9_asks_6 : decode cX9_asks 6 = .ok (.ifCond .eq 30, 3) := by decide +kernel
theorem dX9_asks_9 : decode cX9_asks 9 = .ok (.iload_n 2, 1) := by decide +kernel
theorem dX9_asks_10 : decode cX9_asks 10 = .ok (.invokestatic 160, 3) := by decide +kernel
theorem dX9_asks_13 : decode cX9_asks 13 = .ok (.ifCond .eq 23, 3) := by decide +kernel
theorem dX9_asks_16 : decode cX9_asks 16 = .ok (.iload_n 3, 1) := by decide +kernel
theorem dX9_asks_17 : decode cX9_asks 17 = .ok (.iconst 0, 1) := by decide +kernel
theorem dX9_asks_18 : decode cX9_asks 18 = .ok (.bipush 16, 2) := by decide +kernel
theorem dX9_asks_20 : decode cX9_asks 20 = .ok (.invokestatic 76, 3) := by decide +kernel
theorem dX9_asks_23 : decode cX9_asks 23 = .ok (.ifCond .eq 13, 3) := by decide +kernel
theorem dX9_asks_26 : decode cX9_asks 26 = .ok (.aload_n 0, 1) := by decide +kernel
theorem dX9_asks_27 : decode cX9_asks 27 = .ok (.iload_n 1, 1) := by decide +kernel
theorem dX9_asks_28 : decode cX9_asks 28 = .ok (.iload_n 2, 1) := by decide +kernel
theorem dX9_asks_29 : decode cX9_asks 29 = .ok (.iload_n 3, 1) := by decide +kernel
theorem dX9_asks_30 : decode cX9_asks 30 = .ok (.invokevirtual 163, 3) := by decide +kernel
theorem dX9_asks_33 : decode cX9_asks 33 = .ok (.goto 5, 3) := by decide +kernel
theorem dX9_asks_36 : decode cX9_asks 36 = .ok (.bipush (-2), 2) := by decide +kernel
theorem dX9_asks_38 : decode cX9_asks 38 = .ok (.ireturn, 1) := by decide +kernel
theorem dX9_lay_0 : decode cX9_lay 0 = .ok (.iload_n 1, 1) := by decide +kernel
theorem dX9_lay_1 : decode cX9_lay 1 = .ok (.invokestatic 160, 3) := by decide +kernel
theorem dX9_lay_4 : decode cX9_lay 4 = .ok (.ifCond .ne 6, 3) := by decide +kernel
theorem dX9_lay_7 : decode cX9_lay 7 = .ok (.bipush (-5), 2) := by decide +kernel
theorem dX9_lay_9 : decode cX9_lay 9 = .ok (.ireturn, 1) := by decide +kernel
theorem dX9_lay_10 : decode cX9_lay 10 = .ok (.iload_n 2, 1) := by decide +kernel
theorem dX9_lay_11 : decode cX9_lay 11 = .ok (.iconst 0, 1) := by decide +kernel
theorem dX9_lay_12 : decode cX9_lay 12 = .ok (.iconst 5, 1) := by decide +kernel
theorem dX9_lay_13 : decode cX9_lay 13 = .ok (.invokestatic 76, 3) := by decide +kernel
theorem dX9_lay_16 : decode cX9_lay 16 = .ok (.ifCond .eq 13, 3) := by decide +kernel
theorem dX9_lay_19 : decode cX9_lay 19 = .ok (.iload_n 3, 1) := by decide +kernel
theorem dX9_lay_20 : decode cX9_lay 20 = .ok (.iconst 0, 1) := by decide +kernel
theorem dX9_lay_21 : decode cX9_lay 21 = .ok (.bipush 9, 2) := by decide +kernel
theorem dX9_lay_23 : decode cX9_lay 23 = .ok (.invokestatic 76, 3) := by decide +kernel
theorem dX9_lay_26 : decode cX9_lay 26 = .ok (.ifCond .ne 6, 3) := by decide +kernel
theorem dX9_lay_29 : decode cX9_lay 29 = .ok (.bipush (-7), 2) := by decide +kernel
theorem dX9_lay_31 : decode cX9_lay 31 = .ok (.ireturn, 1) := by decide +kernel
theorem dX9_lay_32 : decode cX9_lay 32 = .ok (.bipush 10, 2) := by decide +kernel
theorem dX9_lay_34 : decode cX9_lay 34 = .ok (.aload_n 0, 1) := by decide +kernel
theorem dX9_lay_35 : decode cX9_lay 35 = .ok (.getfield 7, 3) := by decide +kernel
theorem dX9_lay_38 : decode cX9_lay 38 = .ok (.iload_n 1, 1) := by decide +kernel
theorem dX9_lay_39 : decode cX9_lay 39 = .ok (.iaload, 1) := by decide +kernel
theorem dX9_lay_40 : decode cX9_lay 40 = .ok (.imul, 1) := by decide +kernel
theorem dX9_lay_41 : decode cX9_lay 41 = .ok (.aload_n 0, 1) := by decide +kernel
theorem dX9_lay_42 : decode cX9_lay 42 = .ok (.getfield 13, 3) := by decide +kernel
theorem dX9_lay_45 : decode cX9_lay 45 = .ok (.iload_n 1, 1) := by decide +kernel
theorem dX9_lay_46 : decode cX9_lay 46 = .ok (.iaload, 1) := by decide +kernel
theorem dX9_lay_47 : decode cX9_lay 47 = .ok (.iadd, 1) := by decide +kernel
theorem dX9_lay_48 : decode cX9_lay 48 = .ok (.istore 4, 2) := by decide +kernel
theorem dX9_lay_50 : decode cX9_lay 50 = .ok (.aload_n 0, 1) := by decide +kernel
theorem dX9_lay_51 : decode cX9_lay 51 = .ok (.getfield 7, 3) := by decide +kernel
theorem dX9_lay_54 : decode cX9_lay 54 = .ok (.iload_n 1, 1) := by decide +kernel
theorem dX9_lay_55 : decode cX9_lay 55 = .ok (.iload_n 2, 1) := by decide +kernel
theorem dX9_lay_56 : decode cX9_lay 56 = .ok (.iastore, 1) := by decide +kernel
theorem dX9_lay_57 : decode cX9_lay 57 = .ok (.aload_n 0, 1) := by decide +kernel
theorem dX9_lay_58 : decode cX9_lay 58 = .ok (.getfield 13, 3) := by decide +kernel
theorem dX9_lay_61 : decode cX9_lay 61 = .ok (.iload_n 1, 1) := by decide +kernel
theorem dX9_lay_62 : decode cX9_lay 62 = .ok (.iload_n 3, 1) := by decide +kernel
theorem dX9_lay_63 : decode cX9_lay 63 = .ok (.iastore, 1) := by decide +kernel
theorem dX9_lay_64 : decode cX9_lay 64 = .ok (.iload 4, 2) := by decide +kernel
theorem dX9_lay_66 : decode cX9_lay 66 = .ok (.ireturn, 1) := by decide +kernel
theorem dX9_fallsOf_0 : decode cX9_fallsOf 0 = .ok (.aload_n 0, 1) := by decide +kernel
theorem dX9_fallsOf_1 : decode cX9_fallsOf 1 = .ok (.iconst 0, 1) := by decide +kernel
theorem dX9_fallsOf_2 : decode cX9_fallsOf 2 = .ok (.iload_n 1, 1) := by decide +kernel
theorem dX9_fallsOf_3 : decode cX9_fallsOf 3 = .ok (.iload_n 2, 1) := by decide +kernel
theorem dX9_fallsOf_4 : decode cX9_fallsOf 4 = .ok (.invokevirtual 163, 3) := by decide +kernel
theorem dX9_fallsOf_7 : decode cX9_fallsOf 7 = .ok (.istore_n 3, 1) := by decide +kernel
theorem dX9_fallsOf_8 : decode cX9_fallsOf 8 = .ok (.aload_n 0, 1) := by decide +kernel
theorem dX9_fallsOf_9 : decode cX9_fallsOf 9 = .ok (.getfield 7, 3) := by decide +kernel
theorem dX9_fallsOf_12 : decode cX9_fallsOf 12 = .ok (.iload_n 1, 1) := by decide +kernel
theorem dX9_fallsOf_13 : decode cX9_fallsOf 13 = .ok (.iaload, 1) := by decide +kernel
theorem dX9_fallsOf_14 : decode cX9_fallsOf 14 = .ok (.tableswitch 83 1 5 #[34, 46, 53, 46, 69], 34) := by decide +kernel
theorem dX9_fallsOf_48 : decode cX9_fallsOf 48 = .ok (.iload_n 3, 1) := by decide +kernel
theorem dX9_fallsOf_49 : decode cX9_fallsOf 49 = .ok (.aload_n 0, 1) := by decide +kernel
theorem dX9_fallsOf_50 : decode cX9_fallsOf 50 = .ok (.getfield 13, 3) := by decide +kernel
theorem dX9_fallsOf_53 : decode cX9_fallsOf 53 = .ok (.iload_n 1, 1) := by decide +kernel
theorem dX9_fallsOf_54 : decode cX9_fallsOf 54 = .ok (.iaload, 1) := by decide +kernel
theorem dX9_fallsOf_55 : decode cX9_fallsOf 55 = .ok (.iadd, 1) := by decide +kernel
theorem dX9_fallsOf_56 : decode cX9_fallsOf 56 = .ok (.istore_n 3, 1) := by decide +kernel
theorem dX9_fallsOf_57 : decode cX9_fallsOf 57 = .ok (.goto 40, 3) := by decide +kernel
theorem dX9_fallsOf_60 : decode cX9_fallsOf 60 = .ok (.iload_n 3, 1) := by decide +kernel
theorem dX9_fallsOf_61 : decode cX9_fallsOf 61 = .ok (.iconst 2, 1) := by decide +kernel
theorem dX9_fallsOf_62 : decode cX9_fallsOf 62 = .ok (.imul, 1) := by decide +kernel
theorem dX9_fallsOf_63 : decode cX9_fallsOf 63 = .ok (.istore_n 3, 1) := by decide +kernel
theorem dX9_fallsOf_64 : decode cX9_fallsOf 64 = .ok (.goto 33, 3) := by decide +kernel
theorem dX9_fallsOf_67 : decode cX9_fallsOf 67 = .ok (.iload_n 3, 1) := by decide +kernel
theorem dX9_fallsOf_68 : decode cX9_fallsOf 68 = .ok (.aload_n 0, 1) := by decide +kernel
theorem dX9_fallsOf_69 : decode cX9_fallsOf 69 = .ok (.getfield 13, 3) := by decide +kernel
theorem dX9_fallsOf_72 : decode cX9_fallsOf 72 = .ok (.iload_n 1, 1) := by decide +kernel
theorem dX9_fallsOf_73 : decode cX9_fallsOf 73 = .ok (.iaload, 1) := by decide +kernel
theorem dX9_fallsOf_74 : decode cX9_fallsOf 74 = .ok (.iload_n 2, 1) := by decide +kernel
theorem dX9_fallsOf_75 : decode cX9_fallsOf 75 = .ok (.iconst 3, 1) := by decide +kernel
theorem dX9_fallsOf_76 : decode cX9_fallsOf 76 = .ok (.idiv, 1) := by decide +kernel
theorem dX9_fallsOf_77 : decode cX9_fallsOf 77 = .ok (.iadd, 1) := by decide +kernel
theorem dX9_fallsOf_78 : decode cX9_fallsOf 78 = .ok (.iadd, 1) := by decide +kernel
theorem dX9_fallsOf_79 : decode cX9_fallsOf 79 = .ok (.istore_n 3, 1) := by decide +kernel
theorem dX9_fallsOf_80 : decode cX9_fallsOf 80 = .ok (.goto 17, 3) := by decide +kernel
theorem dX9_fallsOf_83 : decode cX9_fallsOf 83 = .ok (.iload_n 3, 1) := by decide +kernel
theorem dX9_fallsOf_84 : decode cX9_fallsOf 84 = .ok (.aload_n 0, 1) := by decide +kernel
theorem dX9_fallsOf_85 : decode cX9_fallsOf 85 = .ok (.getfield 13, 3) := by decide +kernel
theorem dX9_fallsOf_88 : decode cX9_fallsOf 88 = .ok (.iload_n 1, 1) := by decide +kernel
theorem dX9_fallsOf_89 : decode cX9_fallsOf 89 = .ok (.iaload, 1) := by decide +kernel
theorem dX9_fallsOf_90 : decode cX9_fallsOf 90 = .ok (.iconst 2, 1) := by decide +kernel
theorem dX9_fallsOf_91 : decode cX9_fallsOf 91 = .ok (.iadd, 1) := by decide +kernel
theorem dX9_fallsOf_92 : decode cX9_fallsOf 92 = .ok (.idiv, 1) := by decide +kernel
theorem dX9_fallsOf_93 : decode cX9_fallsOf 93 = .ok (.istore_n 3, 1) := by decide +kernel
theorem dX9_fallsOf_94 : decode cX9_fallsOf 94 = .ok (.goto 3, 3) := by decide +kernel
theorem dX9_fallsOf_97 : decode cX9_fallsOf 97 = .ok (.iload_n 3, 1) := by decide +kernel
theorem dX9_fallsOf_98 : decode cX9_fallsOf 98 = .ok (.iconst 0, 1) := by decide +kernel
theorem dX9_fallsOf_99 : decode cX9_fallsOf 99 = .ok (.bipush 99, 2) := by decide +kernel
theorem dX9_fallsOf_101 : decode cX9_fallsOf 101 = .ok (.invokestatic 157, 3) := by decide +kernel
theorem dX9_fallsOf_104 : decode cX9_fallsOf 104 = .ok (.ireturn, 1) := by decide +kernel
theorem dX9_takesOf_0 : decode cX9_takesOf 0 = .ok (.aload_n 0, 1) := by decide +kernel
theorem dX9_takesOf_1 : decode cX9_takesOf 1 = .ok (.iconst 1, 1) := by decide +kernel
theorem dX9_takesOf_2 : decode cX9_takesOf 2 = .ok (.iload_n 1, 1) := by decide +kernel
theorem dX9_takesOf_3 : decode cX9_takesOf 3 = .ok (.iconst 0, 1) := by decide +kernel
theorem dX9_takesOf_4 : decode cX9_takesOf 4 = .ok (.invokevirtual 163, 3) := by decide +kernel
theorem dX9_takesOf_7 : decode cX9_takesOf 7 = .ok (.istore_n 2, 1) := by decide +kernel
theorem dX9_takesOf_8 : decode cX9_takesOf 8 = .ok (.iload_n 2, 1) := by decide +kernel
theorem dX9_takesOf_9 : decode cX9_takesOf 9 = .ok (.aload_n 0, 1) := by decide +kernel
theorem dX9_takesOf_10 : decode cX9_takesOf 10 = .ok (.getfield 7, 3) := by decide +kernel
theorem dX9_takesOf_13 : decode cX9_takesOf 13 = .ok (.iload_n 1, 1) := by decide +kernel
theorem dX9_takesOf_14 : decode cX9_takesOf 14 = .ok (.iaload, 1) := by decide +kernel
theorem dX9_takesOf_15 : decode cX9_takesOf 15 = .ok (.iconst 1, 1) := by decide +kernel
theorem dX9_takesOf_16 : decode cX9_takesOf 16 = .ok (.if_icmp .eq 13, 3) := by decide +kernel
theorem dX9_takesOf_19 : decode cX9_takesOf 19 = .ok (.aload_n 0, 1) := by decide +kernel
theorem dX9_takesOf_20 : decode cX9_takesOf 20 = .ok (.getfield 7, 3) := by decide +kernel
theorem dX9_takesOf_23 : decode cX9_takesOf 23 = .ok (.iload_n 1, 1) := by decide +kernel
theorem dX9_takesOf_24 : decode cX9_takesOf 24 = .ok (.iaload, 1) := by decide +kernel
theorem dX9_takesOf_25 : decode cX9_takesOf 25 = .ok (.iconst 3, 1) := by decide +kernel
theorem dX9_takesOf_26 : decode cX9_takesOf 26 = .ok (.if_icmp .ne 7, 3) := by decide +kernel
theorem dX9_takesOf_29 : decode cX9_takesOf 29 = .ok (.iconst 2, 1) := by decide +kernel
theorem dX9_takesOf_30 : decode cX9_takesOf 30 = .ok (.goto 25, 3) := by decide +kernel
theorem dX9_takesOf_33 : decode cX9_takesOf 33 = .ok (.aload_n 0, 1) := by decide +kernel
theorem dX9_takesOf_34 : decode cX9_takesOf 34 = .ok (.getfield 7, 3) := by decide +kernel
theorem dX9_takesOf_37 : decode cX9_takesOf 37 = .ok (.iload_n 1, 1) := by decide +kernel
theorem dX9_takesOf_38 : decode cX9_takesOf 38 = .ok (.iaload, 1) := by decide +kernel
theorem dX9_takesOf_39 : decode cX9_takesOf 39 = .ok (.iconst 4, 1) := by decide +kernel
theorem dX9_takesOf_40 : decode cX9_takesOf 40 = .ok (.if_icmp .ne 14, 3) := by decide +kernel
theorem dX9_takesOf_43 : decode cX9_takesOf 43 = .ok (.iconst 3, 1) := by decide +kernel
theorem dX9_takesOf_44 : decode cX9_takesOf 44 = .ok (.aload_n 0, 1) := by decide +kernel
theorem dX9_takesOf_45 : decode cX9_takesOf 45 = .ok (.getfield 13, 3) := by decide +kernel
theorem dX9_takesOf_48 : decode cX9_takesOf 48 = .ok (.iload_n 1, 1) := by decide +kernel
theorem dX9_takesOf_49 : decode cX9_takesOf 49 = .ok (.iaload, 1) := by decide +kernel
theorem dX9_takesOf_50 : decode cX9_takesOf 50 = .ok (.iadd, 1) := by decide +kernel
theorem dX9_takesOf_51 : decode cX9_takesOf 51 = .ok (.goto 4, 3) := by decide +kernel
theorem dX9_takesOf_54 : decode cX9_takesOf 54 = .ok (.iconst 0, 1) := by decide +kernel
theorem dX9_takesOf_55 : decode cX9_takesOf 55 = .ok (.iadd, 1) := by decide +kernel
theorem dX9_takesOf_56 : decode cX9_takesOf 56 = .ok (.istore_n 2, 1) := by decide +kernel
theorem dX9_takesOf_57 : decode cX9_takesOf 57 = .ok (.iload_n 2, 1) := by decide +kernel
theorem dX9_takesOf_58 : decode cX9_takesOf 58 = .ok (.iconst 1, 1) := by decide +kernel
theorem dX9_takesOf_59 : decode cX9_takesOf 59 = .ok (.if_icmp .ge 7, 3) := by decide +kernel
theorem dX9_takesOf_62 : decode cX9_takesOf 62 = .ok (.iconst 1, 1) := by decide +kernel
theorem dX9_takesOf_63 : decode cX9_takesOf 63 = .ok (.goto 4, 3) := by decide +kernel
theorem dX9_takesOf_66 : decode cX9_takesOf 66 = .ok (.iload_n 2, 1) := by decide +kernel
theorem dX9_takesOf_67 : decode cX9_takesOf 67 = .ok (.ireturn, 1) := by decide +kernel
theorem dX9_doesStop_0 : decode cX9_doesStop 0 = .ok (.aload_n 0, 1) := by decide +kernel
theorem dX9_doesStop_1 : decode cX9_doesStop 1 = .ok (.getfield 7, 3) := by decide +kernel
theorem dX9_doesStop_4 : decode cX9_doesStop 4 = .ok (.iload_n 1, 1) := by decide +kernel
theorem dX9_doesStop_5 : decode cX9_doesStop 5 = .ok (.iaload, 1) := by decide +kernel
theorem dX9_doesStop_6 : decode cX9_doesStop 6 = .ok (.iconst 4, 1) := by decide +kernel
theorem dX9_doesStop_7 : decode cX9_doesStop 7 = .ok (.if_icmp .ne 7, 3) := by decide +kernel
theorem dX9_doesStop_10 : decode cX9_doesStop 10 = .ok (.iconst 1, 1) := by decide +kernel
theorem dX9_doesStop_11 : decode cX9_doesStop 11 = .ok (.goto 4, 3) := by decide +kernel
theorem dX9_doesStop_14 : decode cX9_doesStop 14 = .ok (.iconst 0, 1) := by decide +kernel
theorem dX9_doesStop_15 : decode cX9_doesStop 15 = .ok (.ireturn, 1) := by decide +kernel
theorem dX9_told_0 : decode cX9_told 0 = .ok (.iload_n 1, 1) := by decide +kernel
theorem dX9_told_1 : decode cX9_told 1 = .ok (.invokestatic 160, 3) := by decide +kernel
theorem dX9_told_4 : decode cX9_told 4 = .ok (.ifCond .ne 6, 3) := by decide +kernel
theorem dX9_told_7 : decode cX9_told 7 = .ok (.bipush (-5), 2) := by decide +kernel
theorem dX9_told_9 : decode cX9_told 9 = .ok (.ireturn, 1) := by decide +kernel
theorem dX9_told_10 : decode cX9_told 10 = .ok (.iload_n 2, 1) := by decide +kernel
theorem dX9_told_11 : decode cX9_told 11 = .ok (.tableswitch 86 0 5 #[37, 44, 51, 58, 64, 78], 37) := by decide +kernel
theorem dX9_told_48 : decode cX9_told 48 = .ok (.aload_n 0, 1) := by decide +kernel
theorem dX9_told_49 : decode cX9_told 49 = .ok (.getfield 7, 3) := by decide +kernel
theorem dX9_told_52 : decode cX9_told 52 = .ok (.iload_n 1, 1) := by decide +kernel
theorem dX9_told_53 : decode cX9_told 53 = .ok (.iaload, 1) := by decide +kernel
theorem dX9_told_54 : decode cX9_told 54 = .ok (.ireturn, 1) := by decide +kernel
theorem dX9_told_55 : decode cX9_told 55 = .ok (.aload_n 0, 1) := by decide +kernel
theorem dX9_told_56 : decode cX9_told 56 = .ok (.getfield 13, 3) := by decide +kernel
theorem dX9_told_59 : decode cX9_told 59 = .ok (.iload_n 1, 1) := by decide +kernel
theorem dX9_told_60 : decode cX9_told 60 = .ok (.iaload, 1) := by decide +kernel
theorem dX9_told_61 : decode cX9_told 61 = .ok (.ireturn, 1) := by decide +kernel
theorem dX9_told_62 : decode cX9_told 62 = .ok (.aload_n 0, 1) := by decide +kernel
theorem dX9_told_63 : decode cX9_told 63 = .ok (.iload_n 1, 1) := by decide +kernel
theorem dX9_told_64 : decode cX9_told 64 = .ok (.iconst 0, 1) := by decide +kernel
theorem dX9_told_65 : decode cX9_told 65 = .ok (.invokevirtual 166, 3) := by decide +kernel
theorem dX9_told_68 : decode cX9_told 68 = .ok (.ireturn, 1) := by decide +kernel
theorem dX9_told_69 : decode cX9_told 69 = .ok (.aload_n 0, 1) := by decide +kernel
theorem dX9_told_70 : decode cX9_told 70 = .ok (.iload_n 1, 1) := by decide +kernel
theorem dX9_told_71 : decode cX9_told 71 = .ok (.invokevirtual 169, 3) := by decide +kernel
theorem dX9_told_74 : decode cX9_told 74 = .ok (.ireturn, 1) := by decide +kernel
theorem dX9_told_75 : decode cX9_told 75 = .ok (.aload_n 0, 1) := by decide +kernel
theorem dX9_told_76 : decode cX9_told 76 = .ok (.iload_n 1, 1) := by decide +kernel
theorem dX9_told_77 : decode cX9_told 77 = .ok (.invokevirtual 172, 3) := by decide +kernel
theorem dX9_told_80 : decode cX9_told 80 = .ok (.ifCond .eq 7, 3) := by decide +kernel
theorem dX9_told_83 : decode cX9_told 83 = .ok (.iconst 1, 1) := by decide +kernel
theorem dX9_told_84 : decode cX9_told 84 = .ok (.goto 4, 3) := by decide +kernel
theorem dX9_told_87 : decode cX9_told 87 = .ok (.iconst 0, 1) := by decide +kernel
theorem dX9_told_88 : decode cX9_told 88 = .ok (.ireturn, 1) := by decide +kernel
theorem dX9_told_89 : decode cX9_told 89 = .ok (.aload_n 0, 1) := by decide +kernel
theorem dX9_told_90 : decode cX9_told 90 = .ok (.iconst 2, 1) := by decide +kernel
theorem dX9_told_91 : decode cX9_told 91 = .ok (.iload_n 1, 1) := by decide +kernel
theorem dX9_told_92 : decode cX9_told 92 = .ok (.iconst 0, 1) := by decide +kernel
theorem dX9_told_93 : decode cX9_told 93 = .ok (.invokevirtual 163, 3) := by decide +kernel
theorem dX9_told_96 : decode cX9_told 96 = .ok (.ireturn, 1) := by decide +kernel
theorem dX9_told_97 : decode cX9_told 97 = .ok (.bipush (-7), 2) := by decide +kernel
theorem dX9_told_99 : decode cX9_told 99 = .ok (.ireturn, 1) := by decide +kernel
theorem dX9_puts__0 : decode cX9_puts_ 0 = .ok (.aload_n 0, 1) := by decide +kernel
theorem dX9_puts__1 : decode cX9_puts_ 1 = .ok (.getfield 55, 3) := by decide +kernel
theorem dX9_puts__4 : decode cX9_puts_ 4 = .ok (.aload_n 0, 1) := by decide +kernel
theorem dX9_puts__5 : decode cX9_puts_ 5 = .ok (.getfield 175, 3) := by decide +kernel
theorem dX9_puts__8 : decode cX9_puts_ 8 = .ok (.iload_n 1, 1) := by decide +kernel
theorem dX9_puts__9 : decode cX9_puts_ 9 = .ok (.iastore, 1) := by decide +kernel
theorem dX9_puts__10 : decode cX9_puts_ 10 = .ok (.aload_n 0, 1) := by decide +kernel
theorem dX9_puts__11 : decode cX9_puts_ 11 = .ok (.getfield 58, 3) := by decide +kernel
theorem dX9_puts__14 : decode cX9_puts_ 14 = .ok (.aload_n 0, 1) := by decide +kernel
theorem dX9_puts__15 : decode cX9_puts_ 15 = .ok (.getfield 175, 3) := by decide +kernel
theorem dX9_puts__18 : decode cX9_puts_ 18 = .ok (.iload_n 2, 1) := by decide +kernel
theorem dX9_puts__19 : decode cX9_puts_ 19 = .ok (.iastore, 1) := by decide +kernel
theorem dX9_puts__20 : decode cX9_puts_ 20 = .ok (.aload_n 0, 1) := by decide +kernel
theorem dX9_puts__21 : decode cX9_puts_ 21 = .ok (.dup, 1) := by decide +kernel
theorem dX9_puts__22 : decode cX9_puts_ 22 = .ok (.getfield 175, 3) := by decide +kernel
theorem dX9_puts__25 : decode cX9_puts_ 25 = .ok (.iconst 1, 1) := by decide +kernel
theorem dX9_puts__26 : decode cX9_puts_ 26 = .ok (.iadd, 1) := by decide +kernel
theorem dX9_puts__27 : decode cX9_puts_ 27 = .ok (.putfield 175, 3) := by decide +kernel
theorem dX9_puts__30 : decode cX9_puts_ 30 = .ok (.return_, 1) := by decide +kernel
theorem dX9_putsStretch_0 : decode cX9_putsStretch 0 = .ok (.iload_n 2, 1) := by decide +kernel
theorem dX9_putsStretch_1 : decode cX9_putsStretch 1 = .ok (.iload_n 1, 1) := by decide +kernel
theorem dX9_putsStretch_2 : decode cX9_putsStretch 2 = .ok (.isub, 1) := by decide +kernel
theorem dX9_putsStretch_3 : decode cX9_putsStretch 3 = .ok (.iconst 1, 1) := by decide +kernel
theorem dX9_putsStretch_4 : decode cX9_putsStretch 4 = .ok (.iadd, 1) := by decide +kernel
theorem dX9_putsStretch_5 : decode cX9_putsStretch 5 = .ok (.istore 4, 2) := by decide +kernel
theorem dX9_putsStretch_7 : decode cX9_putsStretch 7 = .ok (.iload_n 1, 1) := by decide +kernel
theorem dX9_putsStretch_8 : decode cX9_putsStretch 8 = .ok (.iload_n 2, 1) := by decide +kernel
theorem dX9_putsStretch_9 : decode cX9_putsStretch 9 = .ok (.iadd, 1) := by decide +kernel
theorem dX9_putsStretch_10 : decode cX9_putsStretch 10 = .ok (.iconst 2, 1) := by decide +kernel
theorem dX9_putsStretch_11 : decode cX9_putsStretch 11 = .ok (.idiv, 1) := by decide +kernel
theorem dX9_putsStretch_12 : decode cX9_putsStretch 12 = .ok (.istore 5, 2) := by decide +kernel
theorem dX9_putsStretch_14 : decode cX9_putsStretch 14 = .ok (.aload_n 0, 1) := by decide +kernel
theorem dX9_putsStretch_15 : decode cX9_putsStretch 15 = .ok (.getfield 61, 3) := by decide +kernel
theorem dX9_putsStretch_18 : decode cX9_putsStretch 18 = .ok (.aload_n 0, 1) := by decide +kernel
theorem dX9_putsStretch_19 : decode cX9_putsStretch 19 = .ok (.getfield 178, 3) := by decide +kernel
theorem dX9_putsStretch_22 : decode cX9_putsStretch 22 = .ok (.aload_n 0, 1) := by decide +kernel
theorem dX9_putsStretch_23 : decode cX9_putsStretch 23 = .ok (.getfield 175, 3) := by decide +kernel
theorem dX9_putsStretch_26 : decode cX9_putsStretch 26 = .ok (.iastore, 1) := by decide +kernel
theorem dX9_putsStretch_27 : decode cX9_putsStretch 27 = .ok (.aload_n 0, 1) := by decide +kernel
theorem dX9_putsStretch_28 : decode cX9_putsStretch 28 = .ok (.dup, 1) := by decide +kernel
theorem dX9_putsStretch_29 : decode cX9_putsStretch 29 = .ok (.getfield 178, 3) := by decide +kernel
theorem dX9_putsStretch_32 : decode cX9_putsStretch 32 = .ok (.iconst 1, 1) := by decide +kernel
theorem dX9_putsStretch_33 : decode cX9_putsStretch 33 = .ok (.iadd, 1) := by decide +kernel
theorem dX9_putsStretch_34 : decode cX9_putsStretch 34 = .ok (.putfield 178, 3) := by decide +kernel
theorem dX9_putsStretch_37 : decode cX9_putsStretch 37 = .ok (.aload_n 0, 1) := by decide +kernel
theorem dX9_putsStretch_38 : decode cX9_putsStretch 38 = .ok (.iload 4, 2) := by decide +kernel
theorem dX9_putsStretch_40 : decode cX9_putsStretch 40 = .ok (.aload_n 0, 1) := by decide +kernel
theorem dX9_putsStretch_41 : decode cX9_putsStretch 41 = .ok (.getfield 181, 3) := by decide +kernel
theorem dX9_putsStretch_44 : decode cX9_putsStretch 44 = .ok (.if_icmp .le 7, 3) := by decide +kernel
theorem dX9_putsStretch_47 : decode cX9_putsStretch 47 = .ok (.iload_n 1, 1) := by decide +kernel
theorem dX9_putsStretch_48 : decode cX9_putsStretch 48 = .ok (.goto 7, 3) := by decide +kernel
theorem dX9_putsStretch_51 : decode cX9_putsStretch 51 = .ok (.aload_n 0, 1) := by decide +kernel
theorem dX9_putsStretch_52 : decode cX9_putsStretch 52 = .ok (.getfield 184, 3) := by decide +kernel
theorem dX9_putsStretch_55 : decode cX9_putsStretch 55 = .ok (.putfield 184, 3) := by decide +kernel
theorem dX9_putsStretch_58 : decode cX9_putsStretch 58 = .ok (.aload_n 0, 1) := by decide +kernel
theorem dX9_putsStretch_59 : decode cX9_putsStretch 59 = .ok (.iload 4, 2) := by decide +kernel
theorem dX9_putsStretch_61 : decode cX9_putsStretch 61 = .ok (.aload_n 0, 1) := by decide +kernel
theorem dX9_putsStretch_62 : decode cX9_putsStretch 62 = .ok (.getfield 181, 3) := by decide +kernel
theorem dX9_putsStretch_65 : decode cX9_putsStretch 65 = .ok (.if_icmp .le 8, 3) := by decide +kernel
theorem dX9_putsStretch_68 : decode cX9_putsStretch 68 = .ok (.iload 4, 2) := by decide +kernel
theorem dX9_putsStretch_70 : decode cX9_putsStretch 70 = .ok (.goto 7, 3) := by decide +kernel
theorem dX9_putsStretch_73 : decode cX9_putsStretch 73 = .ok (.aload_n 0, 1) := by decide +kernel
theorem dX9_putsStretch_74 : decode cX9_putsStretch 74 = .ok (.getfield 181, 3) := by decide +kernel
theorem dX9_putsStretch_77 : decode cX9_putsStretch 77 = .ok (.putfield 181, 3) := by decide +kernel
theorem dX9_putsStretch_80 : decode cX9_putsStretch 80 = .ok (.iconst 0, 1) := by decide +kernel
theorem dX9_putsStretch_81 : decode cX9_putsStretch 81 = .ok (.istore 6, 2) := by decide +kernel
theorem dX9_putsStretch_83 : decode cX9_putsStretch 83 = .ok (.iload 6, 2) := by decide +kernel
theorem dX9_putsStretch_85 : decode cX9_putsStretch 85 = .ok (.iload 4, 2) := by decide +kernel
theorem dX9_putsStretch_87 : decode cX9_putsStretch 87 = .ok (.if_icmp .ge 69, 3) := by decide +kernel
theorem dX9_putsStretch_90 : decode cX9_putsStretch 90 = .ok (.iload_n 3, 1) := by decide +kernel
theorem dX9_putsStretch_91 : decode cX9_putsStretch 91 = .ok (.ifCond .ne 10, 3) := by decide +kernel
theorem dX9_putsStretch_94 : decode cX9_putsStretch 94 = .ok (.iload_n 1, 1) := by decide +kernel
theorem dX9_putsStretch_95 : decode cX9_putsStretch 95 = .ok (.iload 6, 2) := by decide +kernel
theorem dX9_putsStretch_97 : decode cX9_putsStretch 97 = .ok (.iadd, 1) := by decide +kernel
theorem dX9_putsStretch_98 : decode cX9_putsStretch 98 = .ok (.goto 42, 3) := by decide +kernel
theorem dX9_putsStretch_101 : decode cX9_putsStretch 101 = .ok (.iload_n 3, 1) := by decide +kernel
theorem dX9_putsStretch_102 : decode cX9_putsStretch 102 = .ok (.iconst 1, 1) := by decide +kernel
theorem dX9_putsStretch_103 : decode cX9_putsStretch 103 = .ok (.if_icmp .ne 10, 3) := by decide +kernel
theorem dX9_putsStretch_106 : decode cX9_putsStretch 106 = .ok (.iload_n 2, 1) := by decide +kernel
theorem dX9_putsStretch_107 : decode cX9_putsStretch 107 = .ok (.iload 6, 2) := by decide +kernel
theorem dX9_putsStretch_109 : decode cX9_putsStretch 109 = .ok (.isub, 1) := by decide +kernel
theorem dX9_putsStretch_110 : decode cX9_putsStretch 110 = .ok (.goto 30, 3) := by decide +kernel
theorem dX9_putsStretch_113 : decode cX9_putsStretch 113 = .ok (.iload 6, 2) := by decide +kernel
theorem dX9_putsStretch_115 : decode cX9_putsStretch 115 = .ok (.iconst 2, 1) := by decide +kernel
theorem dX9_putsStretch_116 : decode cX9_putsStretch 116 = .ok (.irem, 1) := by decide +kernel
theorem dX9_putsStretch_117 : decode cX9_putsStretch 117 = .ok (.iconst 1, 1) := by decide +kernel
theorem dX9_putsStretch_118 : decode cX9_putsStretch 118 = .ok (.if_icmp .ne 15, 3) := by decide +kernel
theorem dX9_putsStretch_121 : decode cX9_putsStretch 121 = .ok (.iload 5, 2) := by decide +kernel
theorem dX9_putsStretch_123 : decode cX9_putsStretch 123 = .ok (.iload 6, 2) := by decide +kernel
theorem dX9_putsStretch_125 : decode cX9_putsStretch 125 = .ok (.iconst 1, 1) := by decide +kernel
theorem dX9_putsStretch_126 : decode cX9_putsStretch 126 = .ok (.iadd, 1) := by decide +kernel
theorem dX9_putsStretch_127 : decode cX9_putsStretch 127 = .ok (.iconst 2, 1) := by decide +kernel
theorem dX9_putsStretch_128 : decode cX9_putsStretch 128 = .ok (.idiv, 1) := by decide +kernel
theorem dX9_putsStretch_129 : decode cX9_putsStretch 129 = .ok (.iadd, 1) := by decide +kernel
theorem dX9_putsStretch_130 : decode cX9_putsStretch 130 = .ok (.goto 10, 3) := by decide +kernel
theorem dX9_putsStretch_133 : decode cX9_putsStretch 133 = .ok (.iload 5, 2) := by decide +kernel
theorem dX9_putsStretch_135 : decode cX9_putsStretch 135 = .ok (.iload 6, 2) := by decide +kernel
theorem dX9_putsStretch_137 : decode cX9_putsStretch 137 = .ok (.iconst 2, 1) := by decide +kernel
theorem dX9_putsStretch_138 : decode cX9_putsStretch 138 = .ok (.idiv, 1) := by decide +kernel
theorem dX9_putsStretch_139 : decode cX9_putsStretch 139 = .ok (.isub, 1) := by decide +kernel
theorem dX9_putsStretch_140 : decode cX9_putsStretch 140 = .ok (.istore 7, 2) := by decide +kernel
theorem dX9_putsStretch_142 : decode cX9_putsStretch 142 = .ok (.aload_n 0, 1) := by decide +kernel
theorem dX9_putsStretch_143 : decode cX9_putsStretch 143 = .ok (.iload 7, 2) := by decide +kernel
theorem dX9_putsStretch_145 : decode cX9_putsStretch 145 = .ok (.iload 6, 2) := by decide +kernel
theorem dX9_putsStretch_147 : decode cX9_putsStretch 147 = .ok (.invokevirtual 187, 3) := by decide +kernel
theorem dX9_putsStretch_150 : decode cX9_putsStretch 150 = .ok (.iinc 6 1, 3) := by decide +kernel
theorem dX9_putsStretch_153 : decode cX9_putsStretch 153 = .ok (.goto (-70), 3) := by decide +kernel
theorem dX9_putsStretch_156 : decode cX9_putsStretch 156 = .ok (.return_, 1) := by decide +kernel
theorem dX9_orders_0 : decode cX9_orders 0 = .ok (.aload_n 0, 1) := by decide +kernel
theorem dX9_orders_1 : decode cX9_orders 1 = .ok (.iconst 0, 1) := by decide +kernel
theorem dX9_orders_2 : decode cX9_orders 2 = .ok (.putfield 175, 3) := by decide +kernel
theorem dX9_orders_5 : decode cX9_orders 5 = .ok (.aload_n 0, 1) := by decide +kernel
theorem dX9_orders_6 : decode cX9_orders 6 = .ok (.iconst 0, 1) := by decide +kernel
theorem dX9_orders_7 : decode cX9_orders 7 = .ok (.putfield 178, 3) := by decide +kernel
theorem dX9_orders_10 : decode cX9_orders 10 = .ok (.aload_n 0, 1) := by decide +kernel
theorem dX9_orders_11 : decode cX9_orders 11 = .ok (.iconst 0, 1) := by decide +kernel
theorem dX9_orders_12 : decode cX9_orders 12 = .ok (.putfield 181, 3) := by decide +kernel
theorem dX9_orders_15 : decode cX9_orders 15 = .ok (.aload_n 0, 1) := by decide +kernel
theorem dX9_orders_16 : decode cX9_orders 16 = .ok (.iconst (-1), 1) := by decide +kernel
theorem dX9_orders_17 : decode cX9_orders 17 = .ok (.putfield 184, 3) := by decide +kernel
theorem dX9_orders_20 : decode cX9_orders 20 = .ok (.iconst 0, 1) := by decide +kernel
theorem dX9_orders_21 : decode cX9_orders 21 = .ok (.istore_n 3, 1) := by decide +kernel
theorem dX9_orders_22 : decode cX9_orders 22 = .ok (.iload_n 3, 1) := by decide +kernel
theorem dX9_orders_23 : decode cX9_orders 23 = .ok (.bipush 16, 2) := by decide +kernel
theorem dX9_orders_25 : decode cX9_orders 25 = .ok (.if_icmp .ge 87, 3) := by decide +kernel
theorem dX9_orders_28 : decode cX9_orders 28 = .ok (.iload_n 3, 1) := by decide +kernel
theorem dX9_orders_29 : decode cX9_orders 29 = .ok (.istore 4, 2) := by decide +kernel
theorem dX9_orders_31 : decode cX9_orders 31 = .ok (.aload_n 0, 1) := by decide +kernel
theorem dX9_orders_32 : decode cX9_orders 32 = .ok (.iload_n 3, 1) := by decide +kernel
theorem dX9_orders_33 : decode cX9_orders 33 = .ok (.invokevirtual 172, 3) := by decide +kernel
theorem dX9_orders_36 : decode cX9_orders 36 = .ok (.ifCond .ne 46, 3) := by decide +kernel
theorem dX9_orders_39 : decode cX9_orders 39 = .ok (.iload 4, 2) := by decide +kernel
theorem dX9_orders_41 : decode cX9_orders 41 = .ok (.iconst 1, 1) := by decide +kernel
theorem dX9_orders_42 : decode cX9_orders 42 = .ok (.iadd, 1) := by decide +kernel
theorem dX9_orders_43 : decode cX9_orders 43 = .ok (.bipush 16, 2) := by decide +kernel
theorem dX9_orders_45 : decode cX9_orders 45 = .ok (.if_icmp .ge 37, 3) := by decide +kernel
theorem dX9_orders_48 : decode cX9_orders 48 = .ok (.iload_n 1, 1) := by decide +kernel
theorem dX9_orders_49 : decode cX9_orders 49 = .ok (.iload 4, 2) := by decide +kernel
theorem dX9_orders_51 : decode cX9_orders 51 = .ok (.iconst 1, 1) := by decide +kernel
theorem dX9_orders_52 : decode cX9_orders 52 = .ok (.iadd, 1) := by decide +kernel
theorem dX9_orders_53 : decode cX9_orders 53 = .ok (.invokestatic 190, 3) := by decide +kernel
theorem dX9_orders_56 : decode cX9_orders 56 = .ok (.ifCond .ne 26, 3) := by decide +kernel
theorem dX9_orders_59 : decode cX9_orders 59 = .ok (.aload_n 0, 1) := by decide +kernel
theorem dX9_orders_60 : decode cX9_orders 60 = .ok (.iload 4, 2) := by decide +kernel
theorem dX9_orders_62 : decode cX9_orders 62 = .ok (.iconst 1, 1) := by decide +kernel
theorem dX9_orders_63 : decode cX9_orders 63 = .ok (.iadd, 1) := by decide +kernel
theorem dX9_orders_64 : decode cX9_orders 64 = .ok (.iconst 0, 1) := by decide +kernel
theorem dX9_orders_65 : decode cX9_orders 65 = .ok (.bipush 15, 2) := by decide +kernel
theorem dX9_orders_67 : decode cX9_orders 67 = .ok (.invokestatic 157, 3) := by decide +kernel
theorem dX9_orders_70 : decode cX9_orders 70 = .ok (.invokevirtual 172, 3) := by decide +kernel
theorem dX9_orders_73 : decode cX9_orders 73 = .ok (.ifCond .ne 9, 3) := by decide +kernel
theorem dX9_orders_76 : decode cX9_orders 76 = .ok (.iinc 4 1, 3) := by decide +kernel
theorem dX9_orders_79 : decode cX9_orders 79 = .ok (.goto (-48), 3) := by decide +kernel
theorem dX9_orders_82 : decode cX9_orders 82 = .ok (.iload_n 1, 1) := by decide +kernel
theorem dX9_orders_83 : decode cX9_orders 83 = .ok (.iload_n 3, 1) := by decide +kernel
theorem dX9_orders_84 : decode cX9_orders 84 = .ok (.invokestatic 190, 3) := by decide +kernel
theorem dX9_orders_87 : decode cX9_orders 87 = .ok (.ifCond .eq 9, 3) := by decide +kernel
theorem dX9_orders_90 : decode cX9_orders 90 = .ok (.iinc 3 1, 3) := by decide +kernel
theorem dX9_orders_93 : decode cX9_orders 93 = .ok (.goto 16, 3) := by decide +kernel
theorem dX9_orders_96 : decode cX9_orders 96 = .ok (.aload_n 0, 1) := by decide +kernel
theorem dX9_orders_97 : decode cX9_orders 97 = .ok (.iload_n 3, 1) := by decide +kernel
theorem dX9_orders_98 : decode cX9_orders 98 = .ok (.iload 4, 2) := by decide +kernel
theorem dX9_orders_100 : decode cX9_orders 100 = .ok (.iload_n 2, 1) := by decide +kernel
theorem dX9_orders_101 : decode cX9_orders 101 = .ok (.invokevirtual 194, 3) := by decide +kernel
theorem dX9_orders_104 : decode cX9_orders 104 = .ok (.iload 4, 2) := by decide +kernel
theorem dX9_orders_106 : decode cX9_orders 106 = .ok (.iconst 1, 1) := by decide +kernel
theorem dX9_orders_107 : decode cX9_orders 107 = .ok (.iadd, 1) := by decide +kernel
theorem dX9_orders_108 : decode cX9_orders 108 = .ok (.istore_n 3, 1) := by decide +kernel
theorem dX9_orders_109 : decode cX9_orders 109 = .ok (.goto (-87), 3) := by decide +kernel
theorem dX9_orders_112 : decode cX9_orders 112 = .ok (.return_, 1) := by decide +kernel
theorem dX9_stretch_0 : decode cX9_stretch 0 = .ok (.iload_n 1, 1) := by decide +kernel
theorem dX9_stretch_1 : decode cX9_stretch 1 = .ok (.iconst 0, 1) := by decide +kernel
theorem dX9_stretch_2 : decode cX9_stretch 2 = .ok (.ldc 86, 2) := by decide +kernel
theorem dX9_stretch_4 : decode cX9_stretch 4 = .ok (.invokestatic 76, 3) := by decide +kernel
theorem dX9_stretch_7 : decode cX9_stretch 7 = .ok (.ifCond .eq 12, 3) := by decide +kernel
theorem dX9_stretch_10 : decode cX9_stretch 10 = .ok (.iload_n 2, 1) := by decide +kernel
theorem dX9_stretch_11 : decode cX9_stretch 11 = .ok (.iconst 0, 1) := by decide +kernel
theorem dX9_stretch_12 : decode cX9_stretch 12 = .ok (.iconst 2, 1) := by decide +kernel
theorem dX9_stretch_13 : decode cX9_stretch 13 = .ok (.invokestatic 76, 3) := by decide +kernel
theorem dX9_stretch_16 : decode cX9_stretch 16 = .ok (.ifCond .ne 6, 3) := by decide +kernel
theorem dX9_stretch_19 : decode cX9_stretch 19 = .ok (.bipush (-2), 2) := by decide +kernel
theorem dX9_stretch_21 : decode cX9_stretch 21 = .ok (.ireturn, 1) := by decide +kernel
theorem dX9_stretch_22 : decode cX9_stretch 22 = .ok (.aload_n 0, 1) := by decide +kernel
theorem dX9_stretch_23 : decode cX9_stretch 23 = .ok (.iload_n 1, 1) := by decide +kernel
theorem dX9_stretch_24 : decode cX9_stretch 24 = .ok (.iconst 0, 1) := by decide +kernel
theorem dX9_stretch_25 : decode cX9_stretch 25 = .ok (.invokevirtual 198, 3) := by decide +kernel
theorem dX9_stretch_28 : decode cX9_stretch 28 = .ok (.iload_n 2, 1) := by decide +kernel
theorem dX9_stretch_29 : decode cX9_stretch 29 = .ok (.ifCond .ne 10, 3) := by decide +kernel
theorem dX9_stretch_32 : decode cX9_stretch 32 = .ok (.aload_n 0, 1) := by decide +kernel
theorem dX9_stretch_33 : decode cX9_stretch 33 = .ok (.getfield 181, 3) := by decide +kernel
theorem dX9_stretch_36 : decode cX9_stretch 36 = .ok (.goto 19, 3) := by decide +kernel
theorem dX9_stretch_39 : decode cX9_stretch 39 = .ok (.iload_n 2, 1) := by decide +kernel
theorem dX9_stretch_40 : decode cX9_stretch 40 = .ok (.iconst 1, 1) := by decide +kernel
theorem dX9_stretch_41 : decode cX9_stretch 41 = .ok (.if_icmp .ne 10, 3) := by decide +kernel
theorem dX9_stretch_44 : decode cX9_stretch 44 = .ok (.aload_n 0, 1) := by decide +kernel
theorem dX9_stretch_45 : decode cX9_stretch 45 = .ok (.getfield 184, 3) := by decide +kernel
theorem dX9_stretch_48 : decode cX9_stretch 48 = .ok (.goto 7, 3) := by decide +kernel
theorem dX9_stretch_51 : decode cX9_stretch 51 = .ok (.aload_n 0, 1) := by decide +kernel
theorem dX9_stretch_52 : decode cX9_stretch 52 = .ok (.getfield 178, 3) := by decide +kernel
theorem dX9_stretch_55 : decode cX9_stretch 55 = .ok (.ireturn, 1) := by decide +kernel
theorem dX9_most_0 : decode cX9_most 0 = .ok (.lload_n 0, 1) := by decide +kernel
theorem dX9_most_1 : decode cX9_most 1 = .ok (.ldc2_w 201, 3) := by decide +kernel
theorem dX9_most_4 : decode cX9_most 4 = .ok (.lcmp, 1) := by decide +kernel
theorem dX9_most_5 : decode cX9_most 5 = .ok (.ifCond .le 9, 3) := by decide +kernel
theorem dX9_most_8 : decode cX9_most 8 = .ok (.ldc2_w 201, 3) := by decide +kernel
theorem dX9_most_11 : decode cX9_most 11 = .ok (.goto 4, 3) := by decide +kernel
theorem dX9_most_14 : decode cX9_most 14 = .ok (.lload_n 0, 1) := by decide +kernel
theorem dX9_most_15 : decode cX9_most 15 = .ok (.lreturn, 1) := by decide +kernel
theorem dX9_meanOfStretch_0 : decode cX9_meanOfStretch 0 = .ok (.iload_n 1, 1) := by decide +kernel
theorem dX9_meanOfStretch_1 : decode cX9_meanOfStretch 1 = .ok (.iconst 1, 1) := by decide +kernel
theorem dX9_meanOfStretch_2 : decode cX9_meanOfStretch 2 = .ok (.iadd, 1) := by decide +kernel
theorem dX9_meanOfStretch_3 : decode cX9_meanOfStretch 3 = .ok (.aload_n 0, 1) := by decide +kernel
theorem dX9_meanOfStretch_4 : decode cX9_meanOfStretch 4 = .ok (.getfield 178, 3) := by decide +kernel
theorem dX9_meanOfStretch_7 : decode cX9_meanOfStretch 7 = .ok (.if_icmp .ge 20, 3) := by decide +kernel
theorem dX9_meanOfStretch_10 : decode cX9_meanOfStretch 10 = .ok (.aload_n 0, 1) := by decide +kernel
theorem dX9_meanOfStretch_11 : decode cX9_meanOfStretch 11 = .ok (.getfield 61, 3) := by decide +kernel
theorem dX9_meanOfStretch_14 : decode cX9_meanOfStretch 14 = .ok (.iload_n 1, 1) := by decide +kernel
theorem dX9_meanOfStretch_15 : decode cX9_meanOfStretch 15 = .ok (.iconst 1, 1) := by decide +kernel
theorem dX9_meanOfStretch_16 : decode cX9_meanOfStretch 16 = .ok (.iadd, 1) := by decide +kernel
theorem dX9_meanOfStretch_17 : decode cX9_meanOfStretch 17 = .ok (.iconst 0, 1) := by decide +kernel
theorem dX9_meanOfStretch_18 : decode cX9_meanOfStretch 18 = .ok (.bipush 15, 2) := by decide +kernel
theorem dX9_meanOfStretch_20 : decode cX9_meanOfStretch 20 = .ok (.invokestatic 157, 3) := by decide +kernel
theorem dX9_meanOfStretch_23 : decode cX9_meanOfStretch 23 = .ok (.iaload, 1) := by decide +kernel
theorem dX9_meanOfStretch_24 : decode cX9_meanOfStretch 24 = .ok (.goto 7, 3) := by decide +kernel
theorem dX9_meanOfStretch_27 : decode cX9_meanOfStretch 27 = .ok (.aload_n 0, 1) := by decide +kernel
theorem dX9_meanOfStretch_28 : decode cX9_meanOfStretch 28 = .ok (.getfield 175, 3) := by decide +kernel
theorem dX9_meanOfStretch_31 : decode cX9_meanOfStretch 31 = .ok (.istore_n 2, 1) := by decide +kernel
theorem dX9_meanOfStretch_32 : decode cX9_meanOfStretch 32 = .ok (.lconst 0, 1) := by decide +kernel
theorem dX9_meanOfStretch_33 : decode cX9_meanOfStretch 33 = .ok (.lstore_n 3, 1) := by decide +kernel
theorem dX9_meanOfStretch_34 : decode cX9_meanOfStretch 34 = .ok (.aload_n 0, 1) := by decide +kernel
theorem dX9_meanOfStretch_35 : decode cX9_meanOfStretch 35 = .ok (.getfield 61, 3) := by decide +kernel
theorem dX9_meanOfStretch_38 : decode cX9_meanOfStretch 38 = .ok (.iload_n 1, 1) := by decide +kernel
theorem dX9_meanOfStretch_39 : decode cX9_meanOfStretch 39 = .ok (.iaload, 1) := by decide +kernel
theorem dX9_meanOfStretch_40 : decode cX9_meanOfStretch 40 = .ok (.istore 5, 2) := by decide +kernel
theorem dX9_meanOfStretch_42 : decode cX9_meanOfStretch 42 = .ok (.iload 5, 2) := by decide +kernel
theorem dX9_meanOfStretch_44 : decode cX9_meanOfStretch 44 = .ok (.iload_n 2, 1) := by decide +kernel
theorem dX9_meanOfStretch_45 : decode cX9_meanOfStretch 45 = .ok (.if_icmp .ge 58, 3) := by decide +kernel
theorem dX9_meanOfStretch_48 : decode cX9_meanOfStretch 48 = .ok (.aload_n 0, 1) := by decide +kernel
theorem dX9_meanOfStretch_49 : decode cX9_meanOfStretch 49 = .ok (.getfield 55, 3) := by decide +kernel
theorem dX9_meanOfStretch_52 : decode cX9_meanOfStretch 52 = .ok (.iload 5, 2) := by decide +kernel
theorem dX9_meanOfStretch_54 : decode cX9_meanOfStretch 54 = .ok (.iaload, 1) := by decide +kernel
theorem dX9_meanOfStretch_55 : decode cX9_meanOfStretch 55 = .ok (.istore 6, 2) := by decide +kernel
theorem dX9_meanOfStretch_57 : decode cX9_meanOfStretch 57 = .ok (.lload_n 3, 1) := by decide +kernel
theorem dX9_meanOfStretch_58 : decode cX9_meanOfStretch 58 = .ok (.ldc2_w 203, 3) := by decide +kernel
theorem dX9_meanOfStretch_61 : decode cX9_meanOfStretch 61 = .ok (.aload_n 0, 1) := by decide +kernel
theorem dX9_meanOfStretch_62 : decode cX9_meanOfStretch 62 = .ok (.iload 6, 2) := by decide +kernel
theorem dX9_meanOfStretch_64 : decode cX9_meanOfStretch 64 = .ok (.invokevirtual 169, 3) := by decide +kernel
theorem dX9_meanOfStretch_67 : decode cX9_meanOfStretch 67 = .ok (.i2l, 1) := by decide +kernel
theorem dX9_meanOfStretch_68 : decode cX9_meanOfStretch 68 = .ok (.lmul, 1) := by decide +kernel
theorem dX9_meanOfStretch_69 : decode cX9_meanOfStretch 69 = .ok (.ladd, 1) := by decide +kernel
theorem dX9_meanOfStretch_70 : decode cX9_meanOfStretch 70 = .ok (.ldc2_w 205, 3) := by decide +kernel
theorem dX9_meanOfStretch_73 : decode cX9_meanOfStretch 73 = .ok (.lmul, 1) := by decide +kernel
theorem dX9_meanOfStretch_74 : decode cX9_meanOfStretch 74 = .ok (.ldc2_w 205, 3) := by decide +kernel
theorem dX9_meanOfStretch_77 : decode cX9_meanOfStretch 77 = .ok (.aload_n 0, 1) := by decide +kernel
theorem dX9_meanOfStretch_78 : decode cX9_meanOfStretch 78 = .ok (.iload 6, 2) := by decide +kernel
theorem dX9_meanOfStretch_80 : decode cX9_meanOfStretch 80 = .ok (.aload_n 0, 1) := by decide +kernel
theorem dX9_meanOfStretch_81 : decode cX9_meanOfStretch 81 = .ok (.getfield 58, 3) := by decide +kernel
theorem dX9_meanOfStretch_84 : decode cX9_meanOfStretch 84 = .ok (.iload 5, 2) := by decide +kernel
theorem dX9_meanOfStretch_86 : decode cX9_meanOfStretch 86 = .ok (.iaload, 1) := by decide +kernel
theorem dX9_meanOfStretch_87 : decode cX9_meanOfStretch 87 = .ok (.invokevirtual 166, 3) := by decide +kernel
theorem dX9_meanOfStretch_90 : decode cX9_meanOfStretch 90 = .ok (.i2l, 1) := by decide +kernel
theorem dX9_meanOfStretch_91 : decode cX9_meanOfStretch 91 = .ok (.lsub, 1) := by decide +kernel
theorem dX9_meanOfStretch_92 : decode cX9_meanOfStretch 92 = .ok (.ldiv, 1) := by decide +kernel
theorem dX9_meanOfStretch_93 : decode cX9_meanOfStretch 93 = .ok (.invokestatic 207, 3) := by decide +kernel
theorem dX9_meanOfStretch_96 : decode cX9_meanOfStretch 96 = .ok (.lstore_n 3, 1) := by decide +kernel
theorem dX9_meanOfStretch_97 : decode cX9_meanOfStretch 97 = .ok (.iinc 5 1, 3) := by decide +kernel
theorem dX9_meanOfStretch_100 : decode cX9_meanOfStretch 100 = .ok (.goto (-58), 3) := by decide +kernel
theorem dX9_meanOfStretch_103 : decode cX9_meanOfStretch 103 = .ok (.aload_n 0, 1) := by decide +kernel
theorem dX9_meanOfStretch_104 : decode cX9_meanOfStretch 104 = .ok (.getfield 61, 3) := by decide +kernel
theorem dX9_meanOfStretch_107 : decode cX9_meanOfStretch 107 = .ok (.iload_n 1, 1) := by decide +kernel
theorem dX9_meanOfStretch_108 : decode cX9_meanOfStretch 108 = .ok (.iaload, 1) := by decide +kernel
theorem dX9_meanOfStretch_109 : decode cX9_meanOfStretch 109 = .ok (.istore 5, 2) := by decide +kernel
theorem dX9_meanOfStretch_111 : decode cX9_meanOfStretch 111 = .ok (.iload 5, 2) := by decide +kernel
theorem dX9_meanOfStretch_113 : decode cX9_meanOfStretch 113 = .ok (.iload_n 2, 1) := by decide +kernel
theorem dX9_meanOfStretch_114 : decode cX9_meanOfStretch 114 = .ok (.if_icmp .ge 22, 3) := by decide +kernel
theorem dX9_meanOfStretch_117 : decode cX9_meanOfStretch 117 = .ok (.aload_n 0, 1) := by decide +kernel
theorem dX9_meanOfStretch_118 : decode cX9_meanOfStretch 118 = .ok (.getfield 64, 3) := by decide +kernel
theorem dX9_meanOfStretch_121 : decode cX9_meanOfStretch 121 = .ok (.aload_n 0, 1) := by decide +kernel
theorem dX9_meanOfStretch_122 : decode cX9_meanOfStretch 122 = .ok (.getfield 55, 3) := by decide +kernel
theorem dX9_meanOfStretch_125 : decode cX9_meanOfStretch 125 = .ok (.iload 5, 2) := by decide +kernel
theorem dX9_meanOfStretch_127 : decode cX9_meanOfStretch 127 = .ok (.iaload, 1) := by decide +kernel
theorem dX9_meanOfStretch_128 : decode cX9_meanOfStretch 128 = .ok (.lload_n 3, 1) := by decide +kernel
theorem dX9_meanOfStretch_129 : decode cX9_meanOfStretch 129 = .ok (.lastore, 1) := by decide +kernel
theorem dX9_meanOfStretch_130 : decode cX9_meanOfStretch 130 = .ok (.iinc 5 1, 3) := by decide +kernel
theorem dX9_meanOfStretch_133 : decode cX9_meanOfStretch 133 = .ok (.goto (-22), 3) := by decide +kernel
theorem dX9_meanOfStretch_136 : decode cX9_meanOfStretch 136 = .ok (.lload_n 3, 1) := by decide +kernel
theorem dX9_meanOfStretch_137 : decode cX9_meanOfStretch 137 = .ok (.lreturn, 1) := by decide +kernel
theorem dX9_joins_0 : decode cX9_joins 0 = .ok (.iload_n 1, 1) := by decide +kernel
theorem dX9_joins_1 : decode cX9_joins 1 = .ok (.invokestatic 160, 3) := by decide +kernel
theorem dX9_joins_4 : decode cX9_joins 4 = .ok (.ifCond .eq 38, 3) := by decide +kernel
theorem dX9_joins_7 : decode cX9_joins 7 = .ok (.aload_n 0, 1) := by decide +kernel
theorem dX9_joins_8 : decode cX9_joins 8 = .ok (.iload_n 1, 1) := by decide +kernel
theorem dX9_joins_9 : decode cX9_joins 9 = .ok (.iconst 0, 1) := by decide +kernel
theorem dX9_joins_10 : decode cX9_joins 10 = .ok (.bipush 15, 2) := by decide +kernel
theorem dX9_joins_12 : decode cX9_joins 12 = .ok (.invokestatic 157, 3) := by decide +kernel
theorem dX9_joins_15 : decode cX9_joins 15 = .ok (.invokevirtual 172, 3) := by decide +kernel
theorem dX9_joins_18 : decode cX9_joins 18 = .ok (.ifCond .ne 24, 3) := by decide +kernel
theorem dX9_joins_21 : decode cX9_joins 21 = .ok (.aload_n 0, 1) := by decide +kernel
theorem dX9_joins_22 : decode cX9_joins 22 = .ok (.getfield 64, 3) := by decide +kernel
theorem dX9_joins_25 : decode cX9_joins 25 = .ok (.iload_n 1, 1) := by decide +kernel
theorem dX9_joins_26 : decode cX9_joins 26 = .ok (.iconst 0, 1) := by decide +kernel
theorem dX9_joins_27 : decode cX9_joins 27 = .ok (.bipush 15, 2) := by decide +kernel
theorem dX9_joins_29 : decode cX9_joins 29 = .ok (.invokestatic 157, 3) := by decide +kernel
theorem dX9_joins_32 : decode cX9_joins 32 = .ok (.laload, 1) := by decide +kernel
theorem dX9_joins_33 : decode cX9_joins 33 = .ok (.lconst 0, 1) := by decide +kernel
theorem dX9_joins_34 : decode cX9_joins 34 = .ok (.lcmp, 1) := by decide +kernel
theorem dX9_joins_35 : decode cX9_joins 35 = .ok (.ifCond .lt 7, 3) := by decide +kernel
theorem dX9_joins_38 : decode cX9_joins 38 = .ok (.iconst 1, 1) := by decide +kernel
theorem dX9_joins_39 : decode cX9_joins 39 = .ok (.goto 4, 3) := by decide +kernel
theorem dX9_joins_42 : decode cX9_joins 42 = .ok (.iconst 0, 1) := by decide +kernel
theorem dX9_joins_43 : decode cX9_joins 43 = .ok (.ireturn, 1) := by decide +kernel
theorem dX9_runFrom_0 : decode cX9_runFrom 0 = .ok (.iconst 0, 1) := by decide +kernel
theorem dX9_runFrom_1 : decode cX9_runFrom 1 = .ok (.istore_n 3, 1) := by decide +kernel
theorem dX9_runFrom_2 : decode cX9_runFrom 2 = .ok (.aload_n 0, 1) := by decide +kernel
theorem dX9_runFrom_3 : decode cX9_runFrom 3 = .ok (.iload_n 1, 1) := by decide +kernel
theorem dX9_runFrom_4 : decode cX9_runFrom 4 = .ok (.invokevirtual 172, 3) := by decide +kernel
theorem dX9_runFrom_7 : decode cX9_runFrom 7 = .ok (.ifCond .ne 23, 3) := by decide +kernel
theorem dX9_runFrom_10 : decode cX9_runFrom 10 = .ok (.aload_n 0, 1) := by decide +kernel
theorem dX9_runFrom_11 : decode cX9_runFrom 11 = .ok (.iload_n 1, 1) := by decide +kernel
theorem dX9_runFrom_12 : decode cX9_runFrom 12 = .ok (.iload_n 2, 1) := by decide +kernel
theorem dX9_runFrom_13 : decode cX9_runFrom 13 = .ok (.iload_n 3, 1) := by decide +kernel
theorem dX9_runFrom_14 : decode cX9_runFrom 14 = .ok (.iconst 1, 1) := by decide +kernel
theorem dX9_runFrom_15 : decode cX9_runFrom 15 = .ok (.iadd, 1) := by decide +kernel
theorem dX9_runFrom_16 : decode cX9_runFrom 16 = .ok (.imul, 1) := by decide +kernel
theorem dX9_runFrom_17 : decode cX9_runFrom 17 = .ok (.iadd, 1) := by decide +kernel
theorem dX9_runFrom_18 : decode cX9_runFrom 18 = .ok (.invokevirtual 211, 3) := by decide +kernel
theorem dX9_runFrom_21 : decode cX9_runFrom 21 = .ok (.ifCond .eq 9, 3) := by decide +kernel
theorem dX9_runFrom_24 : decode cX9_runFrom 24 = .ok (.iinc 3 1, 3) := by decide +kernel
theorem dX9_runFrom_27 : decode cX9_runFrom 27 = .ok (.goto (-25), 3) := by decide +kernel
theorem dX9_runFrom_30 : decode cX9_runFrom 30 = .ok (.iload_n 3, 1) := by decide +kernel
theorem dX9_runFrom_31 : decode cX9_runFrom 31 = .ok (.ireturn, 1) := by decide +kernel
theorem dX9_closes_0 : decode cX9_closes 0 = .ok (.aload_n 0, 1) := by decide +kernel
theorem dX9_closes_1 : decode cX9_closes 1 = .ok (.iload_n 1, 1) := by decide +kernel
theorem dX9_closes_2 : decode cX9_closes 2 = .ok (.iconst (-1), 1) := by decide +kernel
theorem dX9_closes_3 : decode cX9_closes 3 = .ok (.invokevirtual 214, 3) := by decide +kernel
theorem dX9_closes_6 : decode cX9_closes 6 = .ok (.istore_n 2, 1) := by decide +kernel
theorem dX9_closes_7 : decode cX9_closes 7 = .ok (.aload_n 0, 1) := by decide +kernel
theorem dX9_closes_8 : decode cX9_closes 8 = .ok (.iload_n 1, 1) := by decide +kernel
theorem dX9_closes_9 : decode cX9_closes 9 = .ok (.iconst 1, 1) := by decide +kernel
theorem dX9_closes_10 : decode cX9_closes 10 = .ok (.invokevirtual 214, 3) := by decide +kernel
theorem dX9_closes_13 : decode cX9_closes 13 = .ok (.istore_n 3, 1) := by decide +kernel
theorem dX9_closes_14 : decode cX9_closes 14 = .ok (.iload_n 2, 1) := by decide +kernel
theorem dX9_closes_15 : decode cX9_closes 15 = .ok (.ifCond .le 20, 3) := by decide +kernel
theorem dX9_closes_18 : decode cX9_closes 18 = .ok (.aload_n 0, 1) := by decide +kernel
theorem dX9_closes_19 : decode cX9_closes 19 = .ok (.getfield 64, 3) := by decide +kernel
theorem dX9_closes_22 : decode cX9_closes 22 = .ok (.iload_n 1, 1) := by decide +kernel
theorem dX9_closes_23 : decode cX9_closes 23 = .ok (.iconst 1, 1) := by decide +kernel
theorem dX9_closes_24 : decode cX9_closes 24 = .ok (.isub, 1) := by decide +kernel
theorem dX9_closes_25 : decode cX9_closes 25 = .ok (.iconst 0, 1) := by decide +kernel
theorem dX9_closes_26 : decode cX9_closes 26 = .ok (.bipush 15, 2) := by decide +kernel
theorem dX9_closes_28 : decode cX9_closes 28 = .ok (.invokestatic 157, 3) := by decide +kernel
theorem dX9_closes_31 : decode cX9_closes 31 = .ok (.laload, 1) := by decide +kernel
theorem dX9_closes_32 : decode cX9_closes 32 = .ok (.goto 4, 3) := by decide +kernel
theorem dX9_closes_35 : decode cX9_closes 35 = .ok (.lconst 0, 1) := by decide +kernel
theorem dX9_closes_36 : decode cX9_closes 36 = .ok (.iload_n 3, 1) := by decide +kernel
theorem dX9_closes_37 : decode cX9_closes 37 = .ok (.ifCond .le 20, 3) := by decide +kernel
theorem dX9_closes_40 : decode cX9_closes 40 = .ok (.aload_n 0, 1) := by decide +kernel
theorem dX9_closes_41 : decode cX9_closes 41 = .ok (.getfield 64, 3) := by decide +kernel
theorem dX9_closes_44 : decode cX9_closes 44 = .ok (.iload_n 1, 1) := by decide +kernel
theorem dX9_closes_45 : decode cX9_closes 45 = .ok (.iconst 1, 1) := by decide +kernel
theorem dX9_closes_46 : decode cX9_closes 46 = .ok (.iadd, 1) := by decide +kernel
theorem dX9_closes_47 : decode cX9_closes 47 = .ok (.iconst 0, 1) := by decide +kernel
theorem dX9_closes_48 : decode cX9_closes 48 = .ok (.bipush 15, 2) := by decide +kernel
theorem dX9_closes_50 : decode cX9_closes 50 = .ok (.invokestatic 157, 3) := by decide +kernel
theorem dX9_closes_53 : decode cX9_closes 53 = .ok (.laload, 1) := by decide +kernel
theorem dX9_closes_54 : decode cX9_closes 54 = .ok (.goto 4, 3) := by decide +kernel
theorem dX9_closes_57 : decode cX9_closes 57 = .ok (.lconst 0, 1) := by decide +kernel
theorem dX9_closes_58 : decode cX9_closes 58 = .ok (.ladd, 1) := by decide +kernel
theorem dX9_closes_59 : decode cX9_closes 59 = .ok (.lstore 4, 2) := by decide +kernel
theorem dX9_closes_61 : decode cX9_closes 61 = .ok (.iload_n 2, 1) := by decide +kernel
theorem dX9_closes_62 : decode cX9_closes 62 = .ok (.iload_n 3, 1) := by decide +kernel
theorem dX9_closes_63 : decode cX9_closes 63 = .ok (.iadd, 1) := by decide +kernel
theorem dX9_closes_64 : decode cX9_closes 64 = .ok (.istore 6, 2) := by decide +kernel
theorem dX9_closes_66 : decode cX9_closes 66 = .ok (.aload_n 0, 1) := by decide +kernel
theorem dX9_closes_67 : decode cX9_closes 67 = .ok (.iload_n 1, 1) := by decide +kernel
theorem dX9_closes_68 : decode cX9_closes 68 = .ok (.iload 6, 2) := by decide +kernel
theorem dX9_closes_70 : decode cX9_closes 70 = .ok (.invokevirtual 166, 3) := by decide +kernel
theorem dX9_closes_73 : decode cX9_closes 73 = .ok (.i2l, 1) := by decide +kernel
theorem dX9_closes_74 : decode cX9_closes 74 = .ok (.lstore 7, 2) := by decide +kernel
theorem dX9_closes_76 : decode cX9_closes 76 = .ok (.ldc2_w 203, 3) := by decide +kernel
theorem dX9_closes_79 : decode cX9_closes 79 = .ok (.aload_n 0, 1) := by decide +kernel
theorem dX9_closes_80 : decode cX9_closes 80 = .ok (.iload_n 1, 1) := by decide +kernel
theorem dX9_closes_81 : decode cX9_closes 81 = .ok (.invokevirtual 169, 3) := by decide +kernel
theorem dX9_closes_84 : decode cX9_closes 84 = .ok (.aload_n 0, 1) := by decide +kernel
theorem dX9_closes_85 : decode cX9_closes 85 = .ok (.iconst 2, 1) := by decide +kernel
theorem dX9_closes_86 : decode cX9_closes 86 = .ok (.iload_n 1, 1) := by decide +kernel
theorem dX9_closes_87 : decode cX9_closes 87 = .ok (.iload 6, 2) := by decide +kernel
theorem dX9_closes_89 : decode cX9_closes 89 = .ok (.invokevirtual 163, 3) := by decide +kernel
theorem dX9_closes_92 : decode cX9_closes 92 = .ok (.iadd, 1) := by decide +kernel
theorem dX9_closes_93 : decode cX9_closes 93 = .ok (.i2l, 1) := by decide +kernel
theorem dX9_closes_94 : decode cX9_closes 94 = .ok (.lmul, 1) := by decide +kernel
theorem dX9_closes_95 : decode cX9_closes 95 = .ok (.ldc2_w 205, 3) := by decide +kernel
theorem dX9_closes_98 : decode cX9_closes 98 = .ok (.lmul, 1) := by decide +kernel
theorem dX9_closes_99 : decode cX9_closes 99 = .ok (.lload 4, 2) := by decide +kernel
theorem dX9_closes_101 : decode cX9_closes 101 = .ok (.lload 7, 2) := by decide +kernel
theorem dX9_closes_103 : decode cX9_closes 103 = .ok (.lmul, 1) := by decide +kernel
theorem dX9_closes_104 : decode cX9_closes 104 = .ok (.ladd, 1) := by decide +kernel
theorem dX9_closes_105 : decode cX9_closes 105 = .ok (.ldc2_w 205, 3) := by decide +kernel
theorem dX9_closes_108 : decode cX9_closes 108 = .ok (.lload 7, 2) := by decide +kernel
theorem dX9_closes_110 : decode cX9_closes 110 = .ok (.lsub, 1) := by decide +kernel
theorem dX9_closes_111 : decode cX9_closes 111 = .ok (.ldiv, 1) := by decide +kernel
theorem dX9_closes_112 : decode cX9_closes 112 = .ok (.invokestatic 207, 3) := by decide +kernel
theorem dX9_closes_115 : decode cX9_closes 115 = .ok (.lstore 9, 2) := by decide +kernel
theorem dX9_closes_117 : decode cX9_closes 117 = .ok (.lload 4, 2) := by decide +kernel
theorem dX9_closes_119 : decode cX9_closes 119 = .ok (.lload 9, 2) := by decide +kernel
theorem dX9_closes_121 : decode cX9_closes 121 = .ok (.ladd, 1) := by decide +kernel
theorem dX9_closes_122 : decode cX9_closes 122 = .ok (.invokestatic 207, 3) := by decide +kernel
theorem dX9_closes_125 : decode cX9_closes 125 = .ok (.lstore 11, 2) := by decide +kernel
theorem dX9_closes_127 : decode cX9_closes 127 = .ok (.iload_n 1, 1) := by decide +kernel
theorem dX9_closes_128 : decode cX9_closes 128 = .ok (.iload_n 2, 1) := by decide +kernel
theorem dX9_closes_129 : decode cX9_closes 129 = .ok (.isub, 1) := by decide +kernel
theorem dX9_closes_130 : decode cX9_closes 130 = .ok (.istore 13, 2) := by decide +kernel
theorem dX9_closes_132 : decode cX9_closes 132 = .ok (.iload 13, 2) := by decide +kernel
theorem dX9_closes_134 : decode cX9_closes 134 = .ok (.iload_n 1, 1) := by decide +kernel
theorem dX9_closes_135 : decode cX9_closes 135 = .ok (.iload_n 3, 1) := by decide +kernel
theorem dX9_closes_136 : decode cX9_closes 136 = .ok (.iadd, 1) := by decide +kernel
theorem dX9_closes_137 : decode cX9_closes 137 = .ok (.if_icmp .gt 18, 3) := by decide +kernel
theorem dX9_closes_140 : decode cX9_closes 140 = .ok (.aload_n 0, 1) := by decide +kernel
theorem dX9_closes_141 : decode cX9_closes 141 = .ok (.getfield 64, 3) := by decide +kernel
theorem dX9_closes_144 : decode cX9_closes 144 = .ok (.iload 13, 2) := by decide +kernel
theorem dX9_closes_146 : decode cX9_closes 146 = .ok (.lload 11, 2) := by decide +kernel
theorem dX9_closes_148 : decode cX9_closes 148 = .ok (.lastore, 1) := by decide +kernel
theorem dX9_closes_149 : decode cX9_closes 149 = .ok (.iinc 13 1, 3) := by decide +kernel
theorem dX9_closes_152 : decode cX9_closes 152 = .ok (.goto (-20), 3) := by decide +kernel
theorem dX9_closes_155 : decode cX9_closes 155 = .ok (.lload 9, 2) := by decide +kernel
theorem dX9_closes_157 : decode cX9_closes 157 = .ok (.lreturn, 1) := by decide +kernel
theorem dX9_meanOf_0 : decode cX9_meanOf 0 = .ok (.lconst 0, 1) := by decide +kernel
theorem dX9_meanOf_1 : decode cX9_meanOf 1 = .ok (.lstore_n 3, 1) := by decide +kernel
theorem dX9_meanOf_2 : decode cX9_meanOf 2 = .ok (.aload_n 0, 1) := by decide +kernel
theorem dX9_meanOf_3 : decode cX9_meanOf 3 = .ok (.iload_n 1, 1) := by decide +kernel
theorem dX9_meanOf_4 : decode cX9_meanOf 4 = .ok (.iload_n 2, 1) := by decide +kernel
theorem dX9_meanOf_5 : decode cX9_meanOf 5 = .ok (.invokevirtual 198, 3) := by decide +kernel
theorem dX9_meanOf_8 : decode cX9_meanOf 8 = .ok (.iconst 0, 1) := by decide +kernel
theorem dX9_meanOf_9 : decode cX9_meanOf 9 = .ok (.istore 5, 2) := by decide +kernel
theorem dX9_meanOf_11 : decode cX9_meanOf 11 = .ok (.iload 5, 2) := by decide +kernel
theorem dX9_meanOf_13 : decode cX9_meanOf 13 = .ok (.bipush 16, 2) := by decide +kernel
theorem dX9_meanOf_15 : decode cX9_meanOf 15 = .ok (.if_icmp .ge 19, 3) := by decide +kernel
theorem dX9_meanOf_18 : decode cX9_meanOf 18 = .ok (.aload_n 0, 1) := by decide +kernel
theorem dX9_meanOf_19 : decode cX9_meanOf 19 = .ok (.getfield 64, 3) := by decide +kernel
theorem dX9_meanOf_22 : decode cX9_meanOf 22 = .ok (.iload 5, 2) := by decide +kernel
theorem dX9_meanOf_24 : decode cX9_meanOf 24 = .ok (.ldc2_w 217, 3) := by decide +kernel
theorem dX9_meanOf_27 : decode cX9_meanOf 27 = .ok (.lastore, 1) := by decide +kernel
theorem dX9_meanOf_28 : decode cX9_meanOf 28 = .ok (.iinc 5 1, 3) := by decide +kernel
theorem dX9_meanOf_31 : decode cX9_meanOf 31 = .ok (.goto (-20), 3) := by decide +kernel
theorem dX9_meanOf_34 : decode cX9_meanOf 34 = .ok (.iconst 0, 1) := by decide +kernel
theorem dX9_meanOf_35 : decode cX9_meanOf 35 = .ok (.istore 5, 2) := by decide +kernel
theorem dX9_meanOf_37 : decode cX9_meanOf 37 = .ok (.iload 5, 2) := by decide +kernel
theorem dX9_meanOf_39 : decode cX9_meanOf 39 = .ok (.aload_n 0, 1) := by decide +kernel
theorem dX9_meanOf_40 : decode cX9_meanOf 40 = .ok (.getfield 178, 3) := by decide +kernel
theorem dX9_meanOf_43 : decode cX9_meanOf 43 = .ok (.if_icmp .ge 21, 3) := by decide +kernel
theorem dX9_meanOf_46 : decode cX9_meanOf 46 = .ok (.lload_n 3, 1) := by decide +kernel
theorem dX9_meanOf_47 : decode cX9_meanOf 47 = .ok (.aload_n 0, 1) := by decide +kernel
theorem dX9_meanOf_48 : decode cX9_meanOf 48 = .ok (.iload 5, 2) := by decide +kernel
theorem dX9_meanOf_50 : decode cX9_meanOf 50 = .ok (.invokevirtual 219, 3) := by decide +kernel
theorem dX9_meanOf_53 : decode cX9_meanOf 53 = .ok (.ladd, 1) := by decide +kernel
theorem dX9_meanOf_54 : decode cX9_meanOf 54 = .ok (.invokestatic 207, 3) := by decide +kernel
theorem dX9_meanOf_57 : decode cX9_meanOf 57 = .ok (.lstore_n 3, 1) := by decide +kernel
theorem dX9_meanOf_58 : decode cX9_meanOf 58 = .ok (.iinc 5 1, 3) := by decide +kernel
theorem dX9_meanOf_61 : decode cX9_meanOf 61 = .ok (.goto (-24), 3) := by decide +kernel
theorem dX9_meanOf_64 : decode cX9_meanOf 64 = .ok (.iconst 0, 1) := by decide +kernel
theorem dX9_meanOf_65 : decode cX9_meanOf 65 = .ok (.istore 5, 2) := by decide +kernel
theorem dX9_meanOf_67 : decode cX9_meanOf 67 = .ok (.iload 5, 2) := by decide +kernel
theorem dX9_meanOf_69 : decode cX9_meanOf 69 = .ok (.bipush 16, 2) := by decide +kernel
theorem dX9_meanOf_71 : decode cX9_meanOf 71 = .ok (.if_icmp .ge 30, 3) := by decide +kernel
theorem dX9_meanOf_74 : decode cX9_meanOf 74 = .ok (.iload_n 1, 1) := by decide +kernel
theorem dX9_meanOf_75 : decode cX9_meanOf 75 = .ok (.iload 5, 2) := by decide +kernel
theorem dX9_meanOf_77 : decode cX9_meanOf 77 = .ok (.invokestatic 190, 3) := by decide +kernel
theorem dX9_meanOf_80 : decode cX9_meanOf 80 = .ok (.ifCond .eq 15, 3) := by decide +kernel
theorem dX9_meanOf_83 : decode cX9_meanOf 83 = .ok (.lload_n 3, 1) := by decide +kernel
theorem dX9_meanOf_84 : decode cX9_meanOf 84 = .ok (.aload_n 0, 1) := by decide +kernel
theorem dX9_meanOf_85 : decode cX9_meanOf 85 = .ok (.iload 5, 2) := by decide +kernel
theorem dX9_meanOf_87 : decode cX9_meanOf 87 = .ok (.invokevirtual 223, 3) := by decide +kernel
theorem dX9_meanOf_90 : decode cX9_meanOf 90 = .ok (.ladd, 1) := by decide +kernel
theorem dX9_meanOf_91 : decode cX9_meanOf 91 = .ok (.invokestatic 207, 3) := by decide +kernel
theorem dX9_meanOf_94 : decode cX9_meanOf 94 = .ok (.lstore_n 3, 1) := by decide +kernel
theorem dX9_meanOf_95 : decode cX9_meanOf 95 = .ok (.iinc 5 1, 3) := by decide +kernel
theorem dX9_meanOf_98 : decode cX9_meanOf 98 = .ok (.goto (-31), 3) := by decide +kernel
theorem dX9_meanOf_101 : decode cX9_meanOf 101 = .ok (.lload_n 3, 1) := by decide +kernel
theorem dX9_meanOf_102 : decode cX9_meanOf 102 = .ok (.lreturn, 1) := by decide +kernel
theorem dX9_mean_0 : decode cX9_mean 0 = .ok (.iload_n 1, 1) := by decide +kernel
theorem dX9_mean_1 : decode cX9_mean 1 = .ok (.iconst 0, 1) := by decide +kernel
theorem dX9_mean_2 : decode cX9_mean 2 = .ok (.ldc 86, 2) := by decide +kernel
theorem dX9_mean_4 : decode cX9_mean 4 = .ok (.invokestatic 76, 3) := by decide +kernel
theorem dX9_mean_7 : decode cX9_mean 7 = .ok (.ifCond .eq 21, 3) := by decide +kernel
theorem dX9_mean_10 : decode cX9_mean 10 = .ok (.iload_n 2, 1) := by decide +kernel
theorem dX9_mean_11 : decode cX9_mean 11 = .ok (.iconst 0, 1) := by decide +kernel
theorem dX9_mean_12 : decode cX9_mean 12 = .ok (.iconst 2, 1) := by decide +kernel
theorem dX9_mean_13 : decode cX9_mean 13 = .ok (.invokestatic 76, 3) := by decide +kernel
theorem dX9_mean_16 : decode cX9_mean 16 = .ok (.ifCond .eq 12, 3) := by decide +kernel
theorem dX9_mean_19 : decode cX9_mean 19 = .ok (.aload_n 0, 1) := by decide +kernel
theorem dX9_mean_20 : decode cX9_mean 20 = .ok (.iload_n 1, 1) := by decide +kernel
theorem dX9_mean_21 : decode cX9_mean 21 = .ok (.iload_n 2, 1) := by decide +kernel
theorem dX9_mean_22 : decode cX9_mean 22 = .ok (.invokevirtual 226, 3) := by decide +kernel
theorem dX9_mean_25 : decode cX9_mean 25 = .ok (.goto 6, 3) := by decide +kernel
theorem dX9_mean_28 : decode cX9_mean 28 = .ok (.ldc2_w 230, 3) := by decide +kernel
theorem dX9_mean_31 : decode cX9_mean 31 = .ok (.lreturn, 1) := by decide +kernel
theorem dX9_plan_0 : decode cX9_plan 0 = .ok (.aload_n 0, 1) := by decide +kernel
theorem dX9_plan_1 : decode cX9_plan 1 = .ok (.aload_n 0, 1) := by decide +kernel
theorem dX9_plan_2 : decode cX9_plan 2 = .ok (.getfield 16, 3) := by decide +kernel
theorem dX9_plan_5 : decode cX9_plan 5 = .ok (.iconst 0, 1) := by decide +kernel
theorem dX9_plan_6 : decode cX9_plan 6 = .ok (.iaload, 1) := by decide +kernel
theorem dX9_plan_7 : decode cX9_plan 7 = .ok (.aload_n 0, 1) := by decide +kernel
theorem dX9_plan_8 : decode cX9_plan 8 = .ok (.getfield 16, 3) := by decide +kernel
theorem dX9_plan_11 : decode cX9_plan 11 = .ok (.iconst 2, 1) := by decide +kernel
theorem dX9_plan_12 : decode cX9_plan 12 = .ok (.iaload, 1) := by decide +kernel
theorem dX9_plan_13 : decode cX9_plan 13 = .ok (.invokevirtual 226, 3) := by decide +kernel
theorem dX9_plan_16 : decode cX9_plan 16 = .ok (.lreturn, 1) := by decide +kernel
theorem dX9_isAhead_0 : decode cX9_isAhead 0 = .ok (.iload_n 0, 1) := by decide +kernel
theorem dX9_isAhead_1 : decode cX9_isAhead 1 = .ok (.iload_n 1, 1) := by decide +kernel
theorem dX9_isAhead_2 : decode cX9_isAhead 2 = .ok (.ixor, 1) := by decide +kernel
theorem dX9_isAhead_3 : decode cX9_isAhead 3 = .ok (.istore_n 2, 1) := by decide +kernel
theorem dX9_isAhead_4 : decode cX9_isAhead 4 = .ok (.iload_n 2, 1) := by decide +kernel
theorem dX9_isAhead_5 : decode cX9_isAhead 5 = .ok (.iload_n 2, 1) := by decide +kernel
theorem dX9_isAhead_6 : decode cX9_isAhead 6 = .ok (.ineg, 1) := by decide +kernel
theorem dX9_isAhead_7 : decode cX9_isAhead 7 = .ok (.iand, 1) := by decide +kernel
theorem dX9_isAhead_8 : decode cX9_isAhead 8 = .ok (.iload_n 0, 1) := by decide +kernel
theorem dX9_isAhead_9 : decode cX9_isAhead 9 = .ok (.iand, 1) := by decide +kernel
theorem dX9_isAhead_10 : decode cX9_isAhead 10 = .ok (.ifCond .eq 7, 3) := by decide +kernel
theorem dX9_isAhead_13 : decode cX9_isAhead 13 = .ok (.iconst 1, 1) := by decide +kernel
theorem dX9_isAhead_14 : decode cX9_isAhead 14 = .ok (.goto 4, 3) := by decide +kernel
theorem dX9_isAhead_17 : decode cX9_isAhead 17 = .ok (.iconst 0, 1) := by decide +kernel
theorem dX9_isAhead_18 : decode cX9_isAhead 18 = .ok (.ireturn, 1) := by decide +kernel
theorem dX9_best_0 : decode cX9_best 0 = .ok (.iload_n 1, 1) := by decide +kernel
theorem dX9_best_1 : decode cX9_best 1 = .ok (.iconst 0, 1) := by decide +kernel
theorem dX9_best_2 : decode cX9_best 2 = .ok (.iconst 4, 1) := by decide +kernel
theorem dX9_best_3 : decode cX9_best 3 = .ok (.invokestatic 76, 3) := by decide +kernel
theorem dX9_best_6 : decode cX9_best 6 = .ok (.ifCond .eq 12, 3) := by decide +kernel
theorem dX9_best_9 : decode cX9_best 9 = .ok (.iload_n 2, 1) := by decide +kernel
theorem dX9_best_10 : decode cX9_best 10 = .ok (.iconst 0, 1) := by decide +kernel
theorem dX9_best_11 : decode cX9_best 11 = .ok (.iconst 1, 1) := by decide +kernel
theorem dX9_best_12 : decode cX9_best 12 = .ok (.invokestatic 76, 3) := by decide +kernel
theorem dX9_best_15 : decode cX9_best 15 = .ok (.ifCond .ne 7, 3) := by decide +kernel
theorem dX9_best_18 : decode cX9_best 18 = .ok (.ldc2_w 230, 3) := by decide +kernel
theorem dX9_best_21 : decode cX9_best 21 = .ok (.lreturn, 1) := by decide +kernel
theorem dX9_best_22 : decode cX9_best 22 = .ok (.iconst 0, 1) := by decide +kernel
theorem dX9_best_23 : decode cX9_best 23 = .ok (.istore_n 3, 1) := by decide +kernel
theorem dX9_best_24 : decode cX9_best 24 = .ok (.iconst 0, 1) := by decide +kernel
theorem dX9_best_25 : decode cX9_best 25 = .ok (.istore 4, 2) := by decide +kernel
theorem dX9_best_27 : decode cX9_best 27 = .ok (.aload_n 0, 1) := by decide +kernel
theorem dX9_best_28 : decode cX9_best 28 = .ok (.iconst 0, 1) := by decide +kernel
theorem dX9_best_29 : decode cX9_best 29 = .ok (.aload_n 0, 1) := by decide +kernel
theorem dX9_best_30 : decode cX9_best 30 = .ok (.getfield 16, 3) := by decide +kernel
theorem dX9_best_33 : decode cX9_best 33 = .ok (.iconst 2, 1) := by decide +kernel
theorem dX9_best_34 : decode cX9_best 34 = .ok (.iaload, 1) := by decide +kernel
theorem dX9_best_35 : decode cX9_best 35 = .ok (.invokevirtual 226, 3) := by decide +kernel
theorem dX9_best_38 : decode cX9_best 38 = .ok (.lstore 5, 2) := by decide +kernel
theorem dX9_best_40 : decode cX9_best 40 = .ok (.iconst 1, 1) := by decide +kernel
theorem dX9_best_41 : decode cX9_best 41 = .ok (.istore 7, 2) := by decide +kernel
theorem dX9_best_43 : decode cX9_best 43 = .ok (.iload 7, 2) := by decide +kernel
theorem dX9_best_45 : decode cX9_best 45 = .ok (.ldc 86, 2) := by decide +kernel
theorem dX9_best_47 : decode cX9_best 47 = .ok (.if_icmp .gt 122, 3) := by decide +kernel
theorem dX9_best_50 : decode cX9_best 50 = .ok (.iload 7, 2) := by decide +kernel
theorem dX9_best_52 : decode cX9_best 52 = .ok (.invokestatic 151, 3) := by decide +kernel
theorem dX9_best_55 : decode cX9_best 55 = .ok (.istore 8, 2) := by decide +kernel
theorem dX9_best_57 : decode cX9_best 57 = .ok (.iload 8, 2) := by decide +kernel
theorem dX9_best_59 : decode cX9_best 59 = .ok (.iload_n 1, 1) := by decide +kernel
theorem dX9_best_60 : decode cX9_best 60 = .ok (.if_icmp .gt 103, 3) := by decide +kernel
theorem dX9_best_63 : decode cX9_best 63 = .ok (.aload_n 0, 1) := by decide +kernel
theorem dX9_best_64 : decode cX9_best 64 = .ok (.iload 7, 2) := by decide +kernel
theorem dX9_best_66 : decode cX9_best 66 = .ok (.aload_n 0, 1) := by decide +kernel
theorem dX9_best_67 : decode cX9_best 67 = .ok (.getfield 16, 3) := by decide +kernel
theorem dX9_best_70 : decode cX9_best 70 = .ok (.iconst 2, 1) := by decide +kernel
theorem dX9_best_71 : decode cX9_best 71 = .ok (.iaload, 1) := by decide +kernel
theorem dX9_best_72 : decode cX9_best 72 = .ok (.invokevirtual 226, 3) := by decide +kernel
theorem dX9_best_75 : decode cX9_best 75 = .ok (.lstore 9, 2) := by decide +kernel
theorem dX9_best_77 : decode cX9_best 77 = .ok (.lload 9, 2) := by decide +kernel
theorem dX9_best_79 : decode cX9_best 79 = .ok (.lload 5, 2) := by decide +kernel
theorem dX9_best_81 : decode cX9_best 81 = .ok (.lcmp, 1) := by decide +kernel
theorem dX9_best_82 : decode cX9_best 82 = .ok (.ifCond .lt 34, 3) := by decide +kernel
theorem dX9_best_85 : decode cX9_best 85 = .ok (.lload 9, 2) := by decide +kernel
theorem dX9_best_87 : decode cX9_best 87 = .ok (.lload 5, 2) := by decide +kernel
theorem dX9_best_89 : decode cX9_best 89 = .ok (.lcmp, 1) := by decide +kernel
theorem dX9_best_90 : decode cX9_best 90 = .ok (.ifCond .ne 30, 3) := by decide +kernel
theorem dX9_best_93 : decode cX9_best 93 = .ok (.iload 8, 2) := by decide +kernel
theorem dX9_best_95 : decode cX9_best 95 = .ok (.iload 4, 2) := by decide +kernel
theorem dX9_best_97 : decode cX9_best 97 = .ok (.if_icmp .lt 19, 3) := by decide +kernel
theorem dX9_best_100 : decode cX9_best 100 = .ok (.iload 8, 2) := by decide +kernel
theorem dX9_best_102 : decode cX9_best 102 = .ok (.iload 4, 2) := by decide +kernel
theorem dX9_best_104 : decode cX9_best 104 = .ok (.if_icmp .ne 16, 3) := by decide +kernel
theorem dX9_best_107 : decode cX9_best 107 = .ok (.iload 7, 2) := by decide +kernel
theorem dX9_best_109 : decode cX9_best 109 = .ok (.iload_n 3, 1) := by decide +kernel
theorem dX9_best_110 : decode cX9_best 110 = .ok (.invokestatic 232, 3) := by decide +kernel
theorem dX9_best_113 : decode cX9_best 113 = .ok (.ifCond .eq 7, 3) := by decide +kernel
theorem dX9_best_116 : decode cX9_best 116 = .ok (.iconst 1, 1) := by decide +kernel
theorem dX9_best_117 : decode cX9_best 117 = .ok (.goto 4, 3) := by decide +kernel
theorem dX9_best_120 : decode cX9_best 120 = .ok (.iconst 0, 1) := by decide +kernel
theorem dX9_best_121 : decode cX9_best 121 = .ok (.istore 11, 2) := by decide +kernel
theorem dX9_best_123 : decode cX9_best 123 = .ok (.iload 11, 2) := by decide +kernel
theorem dX9_best_125 : decode cX9_best 125 = .ok (.ifCond .eq 8, 3) := by decide +kernel
theorem dX9_best_128 : decode cX9_best 128 = .ok (.iload 7, 2) := by decide +kernel
theorem dX9_best_130 : decode cX9_best 130 = .ok (.goto 4, 3) := by decide +kernel
theorem dX9_best_133 : decode cX9_best 133 = .ok (.iload_n 3, 1) := by decide +kernel
theorem dX9_best_134 : decode cX9_best 134 = .ok (.istore_n 3, 1) := by decide +kernel
theorem dX9_best_135 : decode cX9_best 135 = .ok (.iload 11, 2) := by decide +kernel
theorem dX9_best_137 : decode cX9_best 137 = .ok (.ifCond .eq 8, 3) := by decide +kernel
theorem dX9_best_140 : decode cX9_best 140 = .ok (.iload 8, 2) := by decide +kernel
theorem dX9_best_142 : decode cX9_best 142 = .ok (.goto 5, 3) := by decide +kernel
theorem dX9_best_145 : decode cX9_best 145 = .ok (.iload 4, 2) := by decide +kernel
theorem dX9_best_147 : decode cX9_best 147 = .ok (.istore 4, 2) := by decide +kernel
theorem dX9_best_149 : decode cX9_best 149 = .ok (.iload 11, 2) := by decide +kernel
theorem dX9_best_151 : decode cX9_best 151 = .ok (.ifCond .eq 8, 3) := by decide +kernel
theorem dX9_best_154 : decode cX9_best 154 = .ok (.lload 9, 2) := by decide +kernel
theorem dX9_best_156 : decode cX9_best 156 = .ok (.goto 5, 3) := by decide +kernel
theorem dX9_best_159 : decode cX9_best 159 = .ok (.lload 5, 2) := by decide +kernel
theorem dX9_best_161 : decode cX9_best 161 = .ok (.lstore 5, 2) := by decide +kernel
theorem dX9_best_163 : decode cX9_best 163 = .ok (.iinc 7 1, 3) := by decide +kernel
theorem dX9_best_166 : decode cX9_best 166 = .ok (.goto (-123), 3) := by decide +kernel
theorem dX9_best_169 : decode cX9_best 169 = .ok (.iload_n 2, 1) := by decide +kernel
theorem dX9_best_170 : decode cX9_best 170 = .ok (.ifCond .ne 8, 3) := by decide +kernel
theorem dX9_best_173 : decode cX9_best 173 = .ok (.iload_n 3, 1) := by decide +kernel
theorem dX9_best_174 : decode cX9_best 174 = .ok (.i2l, 1) := by decide +kernel
theorem dX9_best_175 : decode cX9_best 175 = .ok (.goto 5, 3) := by decide +kernel
theorem dX9_best_178 : decode cX9_best 178 = .ok (.lload 5, 2) := by decide +kernel
theorem dX9_best_180 : decode cX9_best 180 = .ok (.lreturn, 1) := by decide +kernel
theorem dX9_gapsBy_0 : decode cX9_gapsBy 0 = .ok (.iconst 0, 1) := by decide +kernel
theorem dX9_gapsBy_1 : decode cX9_gapsBy 1 = .ok (.istore_n 1, 1) := by decide +kernel
theorem dX9_gapsBy_2 : decode cX9_gapsBy 2 = .ok (.iload_n 0, 1) := by decide +kernel
theorem dX9_gapsBy_3 : decode cX9_gapsBy 3 = .ok (.iconst 1, 1) := by decide +kernel
theorem dX9_gapsBy_4 : decode cX9_gapsBy 4 = .ok (.isub, 1) := by decide +kernel
theorem dX9_gapsBy_5 : decode cX9_gapsBy 5 = .ok (.istore_n 2, 1) := by decide +kernel
theorem dX9_gapsBy_6 : decode cX9_gapsBy 6 = .ok (.iload_n 2, 1) := by decide +kernel
theorem dX9_gapsBy_7 : decode cX9_gapsBy 7 = .ok (.bipush 16, 2) := by decide +kernel
theorem dX9_gapsBy_9 : decode cX9_gapsBy 9 = .ok (.if_icmp .ge 16, 3) := by decide +kernel
theorem dX9_gapsBy_12 : decode cX9_gapsBy 12 = .ok (.iload_n 1, 1) := by decide +kernel
theorem dX9_gapsBy_13 : decode cX9_gapsBy 13 = .ok (.iconst 1, 1) := by decide +kernel
theorem dX9_gapsBy_14 : decode cX9_gapsBy 14 = .ok (.iload_n 2, 1) := by decide +kernel
theorem dX9_gapsBy_15 : decode cX9_gapsBy 15 = .ok (.ishl, 1) := by decide +kernel
theorem dX9_gapsBy_16 : decode cX9_gapsBy 16 = .ok (.ior, 1) := by decide +kernel
theorem dX9_gapsBy_17 : decode cX9_gapsBy 17 = .ok (.istore_n 1, 1) := by decide +kernel
theorem dX9_gapsBy_18 : decode cX9_gapsBy 18 = .ok (.iload_n 2, 1) := by decide +kernel
theorem dX9_gapsBy_19 : decode cX9_gapsBy 19 = .ok (.iload_n 0, 1) := by decide +kernel
theorem dX9_gapsBy_20 : decode cX9_gapsBy 20 = .ok (.iadd, 1) := by decide +kernel
theorem dX9_gapsBy_21 : decode cX9_gapsBy 21 = .ok (.istore_n 2, 1) := by decide +kernel
theorem dX9_gapsBy_22 : decode cX9_gapsBy 22 = .ok (.goto (-16), 3) := by decide +kernel
theorem dX9_gapsBy_25 : decode cX9_gapsBy 25 = .ok (.iload_n 1, 1) := by decide +kernel
theorem dX9_gapsBy_26 : decode cX9_gapsBy 26 = .ok (.ireturn, 1) := by decide +kernel
theorem dX9_every_0 : decode cX9_every 0 = .ok (.iload_n 1, 1) := by decide +kernel
theorem dX9_every_1 : decode cX9_every 1 = .ok (.iconst 0, 1) := by decide +kernel
theorem dX9_every_2 : decode cX9_every 2 = .ok (.iconst 1, 1) := by decide +kernel
theorem dX9_every_3 : decode cX9_every 3 = .ok (.invokestatic 76, 3) := by decide +kernel
theorem dX9_every_6 : decode cX9_every 6 = .ok (.ifCond .ne 7, 3) := by decide +kernel
theorem dX9_every_9 : decode cX9_every 9 = .ok (.ldc2_w 230, 3) := by decide +kernel
theorem dX9_every_12 : decode cX9_every 12 = .ok (.lreturn, 1) := by decide +kernel
theorem dX9_every_13 : decode cX9_every 13 = .ok (.iconst (-1), 1) := by decide +kernel
theorem dX9_every_14 : decode cX9_every 14 = .ok (.istore_n 2, 1) := by decide +kernel
theorem dX9_every_15 : decode cX9_every 15 = .ok (.lconst 0, 1) := by decide +kernel
theorem dX9_every_16 : decode cX9_every 16 = .ok (.lstore_n 3, 1) := by decide +kernel
theorem dX9_every_17 : decode cX9_every 17 = .ok (.iconst 2, 1) := by decide +kernel
theorem dX9_every_18 : decode cX9_every 18 = .ok (.istore 5, 2) := by decide +kernel
theorem dX9_every_20 : decode cX9_every 20 = .ok (.iload 5, 2) := by decide +kernel
theorem dX9_every_22 : decode cX9_every 22 = .ok (.bipush 16, 2) := by decide +kernel
theorem dX9_every_24 : decode cX9_every 24 = .ok (.if_icmp .gt 69, 3) := by decide +kernel
theorem dX9_every_27 : decode cX9_every 27 = .ok (.aload_n 0, 1) := by decide +kernel
theorem dX9_every_28 : decode cX9_every 28 = .ok (.iload 5, 2) := by decide +kernel
theorem dX9_every_30 : decode cX9_every 30 = .ok (.invokestatic 235, 3) := by decide +kernel
theorem dX9_every_33 : decode cX9_every 33 = .ok (.aload_n 0, 1) := by decide +kernel
theorem dX9_every_34 : decode cX9_every 34 = .ok (.getfield 16, 3) := by decide +kernel
theorem dX9_every_37 : decode cX9_every 37 = .ok (.iconst 2, 1) := by decide +kernel
theorem dX9_every_38 : decode cX9_every 38 = .ok (.iaload, 1) := by decide +kernel
theorem dX9_every_39 : decode cX9_every 39 = .ok (.invokevirtual 226, 3) := by decide +kernel
theorem dX9_every_42 : decode cX9_every 42 = .ok (.lstore 6, 2) := by decide +kernel
theorem dX9_every_44 : decode cX9_every 44 = .ok (.iload_n 2, 1) := by decide +kernel
theorem dX9_every_45 : decode cX9_every 45 = .ok (.iconst (-1), 1) := by decide +kernel
theorem dX9_every_46 : decode cX9_every 46 = .ok (.if_icmp .eq 10, 3) := by decide +kernel
theorem dX9_every_49 : decode cX9_every 49 = .ok (.lload 6, 2) := by decide +kernel
theorem dX9_every_51 : decode cX9_every 51 = .ok (.lload_n 3, 1) := by decide +kernel
theorem dX9_every_52 : decode cX9_every 52 = .ok (.lcmp, 1) := by decide +kernel
theorem dX9_every_53 : decode cX9_every 53 = .ok (.ifCond .ge 7, 3) := by decide +kernel
theorem dX9_every_56 : decode cX9_every 56 = .ok (.iconst 1, 1) := by decide +kernel
theorem dX9_every_57 : decode cX9_every 57 = .ok (.goto 4, 3) := by decide +kernel
theorem dX9_every_60 : decode cX9_every 60 = .ok (.iconst 0, 1) := by decide +kernel
theorem dX9_every_61 : decode cX9_every 61 = .ok (.istore 8, 2) := by decide +kernel
theorem dX9_every_63 : decode cX9_every 63 = .ok (.iload 8, 2) := by decide +kernel
theorem dX9_every_65 : decode cX9_every 65 = .ok (.ifCond .eq 8, 3) := by decide +kernel
theorem dX9_every_68 : decode cX9_every 68 = .ok (.iload 5, 2) := by decide +kernel
theorem dX9_every_70 : decode cX9_every 70 = .ok (.goto 4, 3) := by decide +kernel
theorem dX9_every_73 : decode cX9_every 73 = .ok (.iload_n 2, 1) := by decide +kernel
theorem dX9_every_74 : decode cX9_every 74 = .ok (.istore_n 2, 1) := by decide +kernel
theorem dX9_every_75 : decode cX9_every 75 = .ok (.iload 8, 2) := by decide +kernel
theorem dX9_every_77 : decode cX9_every 77 = .ok (.ifCond .eq 8, 3) := by decide +kernel
theorem dX9_every_80 : decode cX9_every 80 = .ok (.lload 6, 2) := by decide +kernel
theorem dX9_every_82 : decode cX9_every 82 = .ok (.goto 4, 3) := by decide +kernel
theorem dX9_every_85 : decode cX9_every 85 = .ok (.lload_n 3, 1) := by decide +kernel
theorem dX9_every_86 : decode cX9_every 86 = .ok (.lstore_n 3, 1) := by decide +kernel
theorem dX9_every_87 : decode cX9_every 87 = .ok (.iinc 5 1, 3) := by decide +kernel
theorem dX9_every_90 : decode cX9_every 90 = .ok (.goto (-70), 3) := by decide +kernel
theorem dX9_every_93 : decode cX9_every 93 = .ok (.iload_n 1, 1) := by decide +kernel
theorem dX9_every_94 : decode cX9_every 94 = .ok (.ifCond .ne 8, 3) := by decide +kernel
theorem dX9_every_97 : decode cX9_every 97 = .ok (.iload_n 2, 1) := by decide +kernel
theorem dX9_every_98 : decode cX9_every 98 = .ok (.i2l, 1) := by decide +kernel
theorem dX9_every_99 : decode cX9_every 99 = .ok (.goto 4, 3) := by decide +kernel
theorem dX9_every_102 : decode cX9_every 102 = .ok (.lload_n 3, 1) := by decide +kernel
theorem dX9_every_103 : decode cX9_every 103 = .ok (.lreturn, 1) := by decide +kernel
theorem dX9_which_0 : decode cX9_which 0 = .ok (.iload_n 1, 1) := by decide +kernel
theorem dX9_which_1 : decode cX9_which 1 = .ok (.iconst 0, 1) := by decide +kernel
theorem dX9_which_2 : decode cX9_which 2 = .ok (.iconst 1, 1) := by decide +kernel
theorem dX9_which_3 : decode cX9_which 3 = .ok (.invokestatic 76, 3) := by decide +kernel
theorem dX9_which_6 : decode cX9_which 6 = .ok (.ifCond .ne 7, 3) := by decide +kernel
theorem dX9_which_9 : decode cX9_which 9 = .ok (.ldc2_w 230, 3) := by decide +kernel
theorem dX9_which_12 : decode cX9_which 12 = .ok (.lreturn, 1) := by decide +kernel
theorem dX9_which_13 : decode cX9_which 13 = .ok (.iconst (-1), 1) := by decide +kernel
theorem dX9_which_14 : decode cX9_which 14 = .ok (.istore_n 2, 1) := by decide +kernel
theorem dX9_which_15 : decode cX9_which 15 = .ok (.lconst 0, 1) := by decide +kernel
theorem dX9_which_16 : decode cX9_which 16 = .ok (.lstore_n 3, 1) := by decide +kernel
theorem dX9_which_17 : decode cX9_which 17 = .ok (.iconst 0, 1) := by decide +kernel
theorem dX9_which_18 : decode cX9_which 18 = .ok (.istore 5, 2) := by decide +kernel
theorem dX9_which_20 : decode cX9_which 20 = .ok (.iload 5, 2) := by decide +kernel
theorem dX9_which_22 : decode cX9_which 22 = .ok (.iconst 3, 1) := by decide +kernel
theorem dX9_which_23 : decode cX9_which 23 = .ok (.if_icmp .ge 66, 3) := by decide +kernel
theorem dX9_which_26 : decode cX9_which 26 = .ok (.aload_n 0, 1) := by decide +kernel
theorem dX9_which_27 : decode cX9_which 27 = .ok (.aload_n 0, 1) := by decide +kernel
theorem dX9_which_28 : decode cX9_which 28 = .ok (.getfield 16, 3) := by decide +kernel
theorem dX9_which_31 : decode cX9_which 31 = .ok (.iconst 0, 1) := by decide +kernel
theorem dX9_which_32 : decode cX9_which 32 = .ok (.iaload, 1) := by decide +kernel
theorem dX9_which_33 : decode cX9_which 33 = .ok (.iload 5, 2) := by decide +kernel
theorem dX9_which_35 : decode cX9_which 35 = .ok (.invokevirtual 226, 3) := by decide +kernel
theorem dX9_which_38 : decode cX9_which 38 = .ok (.lstore 6, 2) := by decide +kernel
theorem dX9_which_40 : decode cX9_which 40 = .ok (.iload_n 2, 1) := by decide +kernel
theorem dX9_which_41 : decode cX9_which 41 = .ok (.iconst (-1), 1) := by decide +kernel
theorem dX9_which_42 : decode cX9_which 42 = .ok (.if_icmp .eq 10, 3) := by decide +kernel
theorem dX9_which_45 : decode cX9_which 45 = .ok (.lload 6, 2) := by decide +kernel
theorem dX9_which_47 : decode cX9_which 47 = .ok (.lload_n 3, 1) := by decide +kernel
theorem dX9_which_48 : decode cX9_which 48 = .ok (.lcmp, 1) := by decide +kernel
theorem dX9_which_49 : decode cX9_which 49 = .ok (.ifCond .ge 7, 3) := by decide +kernel
theorem dX9_which_52 : decode cX9_which 52 = .ok (.iconst 1, 1) := by decide +kernel
theorem dX9_which_53 : decode cX9_which 53 = .ok (.goto 4, 3) := by decide +kernel
theorem dX9_which_56 : decode cX9_which 56 = .ok (.iconst 0, 1) := by decide +kernel
theorem dX9_which_57 : decode cX9_which 57 = .ok (.istore 8, 2) := by decide +kernel
theorem dX9_which_59 : decode cX9_which 59 = .ok (.iload 8, 2) := by decide +kernel
theorem dX9_which_61 : decode cX9_which 61 = .ok (.ifCond .eq 8, 3) := by decide +kernel
theorem dX9_which_64 : decode cX9_which 64 = .ok (.iload 5, 2) := by decide +kernel
theorem dX9_which_66 : decode cX9_which 66 = .ok (.goto 4, 3) := by decide +kernel
theorem dX9_which_69 : decode cX9_which 69 = .ok (.iload_n 2, 1) := by decide +kernel
theorem dX9_which_70 : decode cX9_which 70 = .ok (.istore_n 2, 1) := by decide +kernel
theorem dX9_which_71 : decode cX9_which 71 = .ok (.iload 8, 2) := by decide +kernel
theorem dX9_which_73 : decode cX9_which 73 = .ok (.ifCond .eq 8, 3) := by decide +kernel
theorem dX9_which_76 : decode cX9_which 76 = .ok (.lload 6, 2) := by decide +kernel
theorem dX9_which_78 : decode cX9_which 78 = .ok (.goto 4, 3) := by decide +kernel
theorem dX9_which_81 : decode cX9_which 81 = .ok (.lload_n 3, 1) := by decide +kernel
theorem dX9_which_82 : decode cX9_which 82 = .ok (.lstore_n 3, 1) := by decide +kernel
theorem dX9_which_83 : decode cX9_which 83 = .ok (.iinc 5 1, 3) := by decide +kernel
theorem dX9_which_86 : decode cX9_which 86 = .ok (.goto (-66), 3) := by decide +kernel
theorem dX9_which_89 : decode cX9_which 89 = .ok (.iload_n 1, 1) := by decide +kernel
theorem dX9_which_90 : decode cX9_which 90 = .ok (.ifCond .ne 8, 3) := by decide +kernel
theorem dX9_which_93 : decode cX9_which 93 = .ok (.iload_n 2, 1) := by decide +kernel
theorem dX9_which_94 : decode cX9_which 94 = .ok (.i2l, 1) := by decide +kernel
theorem dX9_which_95 : decode cX9_which 95 = .ok (.goto 4, 3) := by decide +kernel
theorem dX9_which_98 : decode cX9_which 98 = .ok (.lload_n 3, 1) := by decide +kernel
theorem dX9_which_99 : decode cX9_which 99 = .ok (.lreturn, 1) := by decide +kernel
theorem dX9_stop_0 : decode cX9_stop 0 = .ok (.iload_n 1, 1) := by decide +kernel
theorem dX9_stop_1 : decode cX9_stop 1 = .ok (.iconst 0, 1) := by decide +kernel
theorem dX9_stop_2 : decode cX9_stop 2 = .ok (.iconst 1, 1) := by decide +kernel
theorem dX9_stop_3 : decode cX9_stop 3 = .ok (.invokestatic 76, 3) := by decide +kernel
theorem dX9_stop_6 : decode cX9_stop 6 = .ok (.ifCond .ne 7, 3) := by decide +kernel
theorem dX9_stop_9 : decode cX9_stop 9 = .ok (.ldc2_w 230, 3) := by decide +kernel
theorem dX9_stop_12 : decode cX9_stop 12 = .ok (.lreturn, 1) := by decide +kernel
theorem dX9_stop_13 : decode cX9_stop 13 = .ok (.aload_n 0, 1) := by decide +kernel
theorem dX9_stop_14 : decode cX9_stop 14 = .ok (.invokevirtual 238, 3) := by decide +kernel
theorem dX9_stop_17 : decode cX9_stop 17 = .ok (.lstore_n 2, 1) := by decide +kernel
theorem dX9_stop_18 : decode cX9_stop 18 = .ok (.iconst (-1), 1) := by decide +kernel
theorem dX9_stop_19 : decode cX9_stop 19 = .ok (.istore 4, 2) := by decide +kernel
theorem dX9_stop_21 : decode cX9_stop 21 = .ok (.lconst 0, 1) := by decide +kernel
theorem dX9_stop_22 : decode cX9_stop 22 = .ok (.lstore 5, 2) := by decide +kernel
theorem dX9_stop_24 : decode cX9_stop 24 = .ok (.iconst 0, 1) := by decide +kernel
theorem dX9_stop_25 : decode cX9_stop 25 = .ok (.istore 7, 2) := by decide +kernel
theorem dX9_stop_27 : decode cX9_stop 27 = .ok (.iload 7, 2) := by decide +kernel
theorem dX9_stop_29 : decode cX9_stop 29 = .ok (.bipush 16, 2) := by decide +kernel
theorem dX9_stop_31 : decode cX9_stop 31 = .ok (.if_icmp .ge 77, 3) := by decide +kernel
theorem dX9_stop_34 : decode cX9_stop 34 = .ok (.aload_n 0, 1) := by decide +kernel
theorem dX9_stop_35 : decode cX9_stop 35 = .ok (.getfield 7, 3) := by decide +kernel
theorem dX9_stop_38 : decode cX9_stop 38 = .ok (.iload 7, 2) := by decide +kernel
theorem dX9_stop_40 : decode cX9_stop 40 = .ok (.iaload, 1) := by decide +kernel
theorem dX9_stop_41 : decode cX9_stop 41 = .ok (.istore 8, 2) := by decide +kernel
theorem dX9_stop_43 : decode cX9_stop 43 = .ok (.aload_n 0, 1) := by decide +kernel
theorem dX9_stop_44 : decode cX9_stop 44 = .ok (.getfield 7, 3) := by decide +kernel
theorem dX9_stop_47 : decode cX9_stop 47 = .ok (.iload 7, 2) := by decide +kernel
theorem dX9_stop_49 : decode cX9_stop 49 = .ok (.iconst 4, 1) := by decide +kernel
theorem dX9_stop_50 : decode cX9_stop 50 = .ok (.iastore, 1) := by decide +kernel
theorem dX9_stop_51 : decode cX9_stop 51 = .ok (.lload_n 2, 1) := by decide +kernel
theorem dX9_stop_52 : decode cX9_stop 52 = .ok (.aload_n 0, 1) := by decide +kernel
theorem dX9_stop_53 : decode cX9_stop 53 = .ok (.invokevirtual 238, 3) := by decide +kernel
theorem dX9_stop_56 : decode cX9_stop 56 = .ok (.lsub, 1) := by decide +kernel
theorem dX9_stop_57 : decode cX9_stop 57 = .ok (.lstore 9, 2) := by decide +kernel
theorem dX9_stop_59 : decode cX9_stop 59 = .ok (.aload_n 0, 1) := by decide +kernel
theorem dX9_stop_60 : decode cX9_stop 60 = .ok (.getfield 7, 3) := by decide +kernel
theorem dX9_stop_63 : decode cX9_stop 63 = .ok (.iload 7, 2) := by decide +kernel
theorem dX9_stop_65 : decode cX9_stop 65 = .ok (.iload 8, 2) := by decide +kernel
theorem dX9_stop_67 : decode cX9_stop 67 = .ok (.iastore, 1) := by decide +kernel
theorem dX9_stop_68 : decode cX9_stop 68 = .ok (.lload 9, 2) := by decide +kernel
theorem dX9_stop_70 : decode cX9_stop 70 = .ok (.lload 5, 2) := by decide +kernel
theorem dX9_stop_72 : decode cX9_stop 72 = .ok (.lcmp, 1) := by decide +kernel
theorem dX9_stop_73 : decode cX9_stop 73 = .ok (.ifCond .le 8, 3) := by decide +kernel
theorem dX9_stop_76 : decode cX9_stop 76 = .ok (.iload 7, 2) := by decide +kernel
theorem dX9_stop_78 : decode cX9_stop 78 = .ok (.goto 5, 3) := by decide +kernel
theorem dX9_stop_81 : decode cX9_stop 81 = .ok (.iload 4, 2) := by decide +kernel
theorem dX9_stop_83 : decode cX9_stop 83 = .ok (.istore 4, 2) := by decide +kernel
theorem dX9_stop_85 : decode cX9_stop 85 = .ok (.lload 9, 2) := by decide +kernel
theorem dX9_stop_87 : decode cX9_stop 87 = .ok (.lload 5, 2) := by decide +kernel
theorem dX9_stop_89 : decode cX9_stop 89 = .ok (.lcmp, 1) := by decide +kernel
theorem dX9_stop_90 : decode cX9_stop 90 = .ok (.ifCond .le 8, 3) := by decide +kernel
theorem dX9_stop_93 : decode cX9_stop 93 = .ok (.lload 9, 2) := by decide +kernel
theorem dX9_stop_95 : decode cX9_stop 95 = .ok (.goto 5, 3) := by decide +kernel
theorem dX9_stop_98 : decode cX9_stop 98 = .ok (.lload 5, 2) := by decide +kernel
theorem dX9_stop_100 : decode cX9_stop 100 = .ok (.lstore 5, 2) := by decide +kernel
theorem dX9_stop_102 : decode cX9_stop 102 = .ok (.iinc 7 1, 3) := by decide +kernel
theorem dX9_stop_105 : decode cX9_stop 105 = .ok (.goto (-78), 3) := by decide +kernel
theorem dX9_stop_108 : decode cX9_stop 108 = .ok (.iload_n 1, 1) := by decide +kernel
theorem dX9_stop_109 : decode cX9_stop 109 = .ok (.ifCond .ne 9, 3) := by decide +kernel
theorem dX9_stop_112 : decode cX9_stop 112 = .ok (.iload 4, 2) := by decide +kernel
theorem dX9_stop_114 : decode cX9_stop 114 = .ok (.i2l, 1) := by decide +kernel
theorem dX9_stop_115 : decode cX9_stop 115 = .ok (.goto 5, 3) := by decide +kernel
theorem dX9_stop_118 : decode cX9_stop 118 = .ok (.lload 5, 2) := by decide +kernel
theorem dX9_stop_120 : decode cX9_stop 120 = .ok (.lreturn, 1) := by decide +kernel
theorem dX9_dear_0 : decode cX9_dear 0 = .ok (.iload_n 1, 1) := by decide +kernel
theorem dX9_dear_1 : decode cX9_dear 1 = .ok (.iconst 0, 1) := by decide +kernel
theorem dX9_dear_2 : decode cX9_dear 2 = .ok (.iconst 1, 1) := by decide +kernel
theorem dX9_dear_3 : decode cX9_dear 3 = .ok (.invokestatic 76, 3) := by decide +kernel
theorem dX9_dear_6 : decode cX9_dear 6 = .ok (.ifCond .ne 7, 3) := by decide +kernel
theorem dX9_dear_9 : decode cX9_dear 9 = .ok (.ldc2_w 230, 3) := by decide +kernel
theorem dX9_dear_12 : decode cX9_dear 12 = .ok (.lreturn, 1) := by decide +kernel
theorem dX9_dear_13 : decode cX9_dear 13 = .ok (.iconst (-1), 1) := by decide +kernel
theorem dX9_dear_14 : decode cX9_dear 14 = .ok (.istore_n 2, 1) := by decide +kernel
theorem dX9_dear_15 : decode cX9_dear 15 = .ok (.ldc2_w 217, 3) := by decide +kernel
theorem dX9_dear_18 : decode cX9_dear 18 = .ok (.lstore_n 3, 1) := by decide +kernel
theorem dX9_dear_19 : decode cX9_dear 19 = .ok (.iconst 0, 1) := by decide +kernel
theorem dX9_dear_20 : decode cX9_dear 20 = .ok (.istore 5, 2) := by decide +kernel
theorem dX9_dear_22 : decode cX9_dear 22 = .ok (.iload 5, 2) := by decide +kernel
theorem dX9_dear_24 : decode cX9_dear 24 = .ok (.bipush 16, 2) := by decide +kernel
theorem dX9_dear_26 : decode cX9_dear 26 = .ok (.if_icmp .ge 91, 3) := by decide +kernel
theorem dX9_dear_29 : decode cX9_dear 29 = .ok (.aload_n 0, 1) := by decide +kernel
theorem dX9_dear_30 : decode cX9_dear 30 = .ok (.getfield 16, 3) := by decide +kernel
theorem dX9_dear_33 : decode cX9_dear 33 = .ok (.iconst 0, 1) := by decide +kernel
theorem dX9_dear_34 : decode cX9_dear 34 = .ok (.iaload, 1) := by decide +kernel
theorem dX9_dear_35 : decode cX9_dear 35 = .ok (.iload 5, 2) := by decide +kernel
theorem dX9_dear_37 : decode cX9_dear 37 = .ok (.invokestatic 190, 3) := by decide +kernel
theorem dX9_dear_40 : decode cX9_dear 40 = .ok (.ifCond .eq 71, 3) := by decide +kernel
theorem dX9_dear_43 : decode cX9_dear 43 = .ok (.aload_n 0, 1) := by decide +kernel
theorem dX9_dear_44 : decode cX9_dear 44 = .ok (.aload_n 0, 1) := by decide +kernel
theorem dX9_dear_45 : decode cX9_dear 45 = .ok (.getfield 16, 3) := by decide +kernel
theorem dX9_dear_48 : decode cX9_dear 48 = .ok (.iconst 0, 1) := by decide +kernel
theorem dX9_dear_49 : decode cX9_dear 49 = .ok (.iaload, 1) := by decide +kernel
theorem dX9_dear_50 : decode cX9_dear 50 = .ok (.iconst 1, 1) := by decide +kernel
theorem dX9_dear_51 : decode cX9_dear 51 = .ok (.iload 5, 2) := by decide +kernel
theorem dX9_dear_53 : decode cX9_dear 53 = .ok (.ishl, 1) := by decide +kernel
theorem dX9_dear_54 : decode cX9_dear 54 = .ok (.iconst (-1), 1) := by decide +kernel
theorem dX9_dear_55 : decode cX9_dear 55 = .ok (.ixor, 1) := by decide +kernel
theorem dX9_dear_56 : decode cX9_dear 56 = .ok (.iand, 1) := by decide +kernel
theorem dX9_dear_57 : decode cX9_dear 57 = .ok (.aload_n 0, 1) := by decide +kernel
theorem dX9_dear_58 : decode cX9_dear 58 = .ok (.getfield 16, 3) := by decide +kernel
theorem dX9_dear_61 : decode cX9_dear 61 = .ok (.iconst 2, 1) := by decide +kernel
theorem dX9_dear_62 : decode cX9_dear 62 = .ok (.iaload, 1) := by decide +kernel
theorem dX9_dear_63 : decode cX9_dear 63 = .ok (.invokevirtual 226, 3) := by decide +kernel
theorem dX9_dear_66 : decode cX9_dear 66 = .ok (.lstore 6, 2) := by decide +kernel
theorem dX9_dear_68 : decode cX9_dear 68 = .ok (.iload_n 2, 1) := by decide +kernel
theorem dX9_dear_69 : decode cX9_dear 69 = .ok (.iconst (-1), 1) := by decide +kernel
theorem dX9_dear_70 : decode cX9_dear 70 = .ok (.if_icmp .eq 10, 3) := by decide +kernel
theorem dX9_dear_73 : decode cX9_dear 73 = .ok (.lload 6, 2) := by decide +kernel
theorem dX9_dear_75 : decode cX9_dear 75 = .ok (.lload_n 3, 1) := by decide +kernel
theorem dX9_dear_76 : decode cX9_dear 76 = .ok (.lcmp, 1) := by decide +kernel
theorem dX9_dear_77 : decode cX9_dear 77 = .ok (.ifCond .ge 7, 3) := by decide +kernel
theorem dX9_dear_80 : decode cX9_dear 80 = .ok (.iconst 1, 1) := by decide +kernel
theorem dX9_dear_81 : decode cX9_dear 81 = .ok (.goto 4, 3) := by decide +kernel
theorem dX9_dear_84 : decode cX9_dear 84 = .ok (.iconst 0, 1) := by decide +kernel
theorem dX9_dear_85 : decode cX9_dear 85 = .ok (.istore 8, 2) := by decide +kernel
theorem dX9_dear_87 : decode cX9_dear 87 = .ok (.iload 8, 2) := by decide +kernel
theorem dX9_dear_89 : decode cX9_dear 89 = .ok (.ifCond .eq 8, 3) := by decide +kernel
theorem dX9_dear_92 : decode cX9_dear 92 = .ok (.iload 5, 2) := by decide +kernel
theorem dX9_dear_94 : decode cX9_dear 94 = .ok (.goto 4, 3) := by decide +kernel
theorem dX9_dear_97 : decode cX9_dear 97 = .ok (.iload_n 2, 1) := by decide +kernel
theorem dX9_dear_98 : decode cX9_dear 98 = .ok (.istore_n 2, 1) := by decide +kernel
theorem dX9_dear_99 : decode cX9_dear 99 = .ok (.iload 8, 2) := by decide +kernel
theorem dX9_dear_101 : decode cX9_dear 101 = .ok (.ifCond .eq 8, 3) := by decide +kernel
theorem dX9_dear_104 : decode cX9_dear 104 = .ok (.lload 6, 2) := by decide +kernel
theorem dX9_dear_106 : decode cX9_dear 106 = .ok (.goto 4, 3) := by decide +kernel
theorem dX9_dear_109 : decode cX9_dear 109 = .ok (.lload_n 3, 1) := by decide +kernel
theorem dX9_dear_110 : decode cX9_dear 110 = .ok (.lstore_n 3, 1) := by decide +kernel
theorem dX9_dear_111 : decode cX9_dear 111 = .ok (.iinc 5 1, 3) := by decide +kernel
theorem dX9_dear_114 : decode cX9_dear 114 = .ok (.goto (-92), 3) := by decide +kernel
theorem dX9_dear_117 : decode cX9_dear 117 = .ok (.iload_n 1, 1) := by decide +kernel
theorem dX9_dear_118 : decode cX9_dear 118 = .ok (.ifCond .ne 8, 3) := by decide +kernel
theorem dX9_dear_121 : decode cX9_dear 121 = .ok (.iload_n 2, 1) := by decide +kernel
theorem dX9_dear_122 : decode cX9_dear 122 = .ok (.i2l, 1) := by decide +kernel
theorem dX9_dear_123 : decode cX9_dear 123 = .ok (.goto 4, 3) := by decide +kernel
theorem dX9_dear_126 : decode cX9_dear 126 = .ok (.lload_n 3, 1) := by decide +kernel
theorem dX9_dear_127 : decode cX9_dear 127 = .ok (.lreturn, 1) := by decide +kernel
theorem dX9_likely_0 : decode cX9_likely 0 = .ok (.iload_n 1, 1) := by decide +kernel
theorem dX9_likely_1 : decode cX9_likely 1 = .ok (.iconst 0, 1) := by decide +kernel
theorem dX9_likely_2 : decode cX9_likely 2 = .ok (.ldc 86, 2) := by decide +kernel
theorem dX9_likely_4 : decode cX9_likely 4 = .ok (.invokestatic 76, 3) := by decide +kernel
theorem dX9_likely_7 : decode cX9_likely 7 = .ok (.ifCond .eq 12, 3) := by decide +kernel
theorem dX9_likely_10 : decode cX9_likely 10 = .ok (.iload_n 2, 1) := by decide +kernel
theorem dX9_likely_11 : decode cX9_likely 11 = .ok (.iconst 0, 1) := by decide +kernel
theorem dX9_likely_12 : decode cX9_likely 12 = .ok (.iconst 2, 1) := by decide +kernel
theorem dX9_likely_13 : decode cX9_likely 13 = .ok (.invokestatic 76, 3) := by decide +kernel
theorem dX9_likely_16 : decode cX9_likely 16 = .ok (.ifCond .ne 7, 3) := by decide +kernel
theorem dX9_likely_19 : decode cX9_likely 19 = .ok (.ldc2_w 230, 3) := by decide +kernel
theorem dX9_likely_22 : decode cX9_likely 22 = .ok (.lreturn, 1) := by decide +kernel
theorem dX9_likely_23 : decode cX9_likely 23 = .ok (.ldc2_w 242, 3) := by decide +kernel
theorem dX9_likely_26 : decode cX9_likely 26 = .ok (.lstore_n 3, 1) := by decide +kernel
theorem dX9_likely_27 : decode cX9_likely 27 = .ok (.aload_n 0, 1) := by decide +kernel
theorem dX9_likely_28 : decode cX9_likely 28 = .ok (.iload_n 1, 1) := by decide +kernel
theorem dX9_likely_29 : decode cX9_likely 29 = .ok (.iload_n 2, 1) := by decide +kernel
theorem dX9_likely_30 : decode cX9_likely 30 = .ok (.invokevirtual 198, 3) := by decide +kernel
theorem dX9_likely_33 : decode cX9_likely 33 = .ok (.iconst 0, 1) := by decide +kernel
theorem dX9_likely_34 : decode cX9_likely 34 = .ok (.istore 5, 2) := by decide +kernel
theorem dX9_likely_36 : decode cX9_likely 36 = .ok (.iload 5, 2) := by decide +kernel
theorem dX9_likely_38 : decode cX9_likely 38 = .ok (.aload_n 0, 1) := by decide +kernel
theorem dX9_likely_39 : decode cX9_likely 39 = .ok (.getfield 175, 3) := by decide +kernel
theorem dX9_likely_42 : decode cX9_likely 42 = .ok (.if_icmp .ge 39, 3) := by decide +kernel
theorem dX9_likely_45 : decode cX9_likely 45 = .ok (.lload_n 3, 1) := by decide +kernel
theorem dX9_likely_46 : decode cX9_likely 46 = .ok (.ldc2_w 205, 3) := by decide +kernel
theorem dX9_likely_49 : decode cX9_likely 49 = .ok (.aload_n 0, 1) := by decide +kernel
theorem dX9_likely_50 : decode cX9_likely 50 = .ok (.aload_n 0, 1) := by decide +kernel
theorem dX9_likely_51 : decode cX9_likely 51 = .ok (.getfield 55, 3) := by decide +kernel
theorem dX9_likely_54 : decode cX9_likely 54 = .ok (.iload 5, 2) := by decide +kernel
theorem dX9_likely_56 : decode cX9_likely 56 = .ok (.iaload, 1) := by decide +kernel
theorem dX9_likely_57 : decode cX9_likely 57 = .ok (.aload_n 0, 1) := by decide +kernel
theorem dX9_likely_58 : decode cX9_likely 58 = .ok (.getfield 58, 3) := by decide +kernel
theorem dX9_likely_61 : decode cX9_likely 61 = .ok (.iload 5, 2) := by decide +kernel
theorem dX9_likely_63 : decode cX9_likely 63 = .ok (.iaload, 1) := by decide +kernel
theorem dX9_likely_64 : decode cX9_likely 64 = .ok (.invokevirtual 166, 3) := by decide +kernel
theorem dX9_likely_67 : decode cX9_likely 67 = .ok (.i2l, 1) := by decide +kernel
theorem dX9_likely_68 : decode cX9_likely 68 = .ok (.lsub, 1) := by decide +kernel
theorem dX9_likely_69 : decode cX9_likely 69 = .ok (.lmul, 1) := by decide +kernel
theorem dX9_likely_70 : decode cX9_likely 70 = .ok (.ldc2_w 205, 3) := by decide +kernel
theorem dX9_likely_73 : decode cX9_likely 73 = .ok (.ldiv, 1) := by decide +kernel
theorem dX9_likely_74 : decode cX9_likely 74 = .ok (.lstore_n 3, 1) := by decide +kernel
theorem dX9_likely_75 : decode cX9_likely 75 = .ok (.iinc 5 1, 3) := by decide +kernel
theorem dX9_likely_78 : decode cX9_likely 78 = .ok (.goto (-42), 3) := by decide +kernel
theorem dX9_likely_81 : decode cX9_likely 81 = .ok (.iconst 0, 1) := by decide +kernel
theorem dX9_likely_82 : decode cX9_likely 82 = .ok (.istore 5, 2) := by decide +kernel
theorem dX9_likely_84 : decode cX9_likely 84 = .ok (.iload 5, 2) := by decide +kernel
theorem dX9_likely_86 : decode cX9_likely 86 = .ok (.bipush 16, 2) := by decide +kernel
theorem dX9_likely_88 : decode cX9_likely 88 = .ok (.if_icmp .ge 41, 3) := by decide +kernel
theorem dX9_likely_91 : decode cX9_likely 91 = .ok (.iload_n 1, 1) := by decide +kernel
theorem dX9_likely_92 : decode cX9_likely 92 = .ok (.iload 5, 2) := by decide +kernel
theorem dX9_likely_94 : decode cX9_likely 94 = .ok (.invokestatic 190, 3) := by decide +kernel
theorem dX9_likely_97 : decode cX9_likely 97 = .ok (.ifCond .eq 24, 3) := by decide +kernel
theorem dX9_likely_100 : decode cX9_likely 100 = .ok (.lload_n 3, 1) := by decide +kernel
theorem dX9_likely_101 : decode cX9_likely 101 = .ok (.ldc2_w 205, 3) := by decide +kernel
theorem dX9_likely_104 : decode cX9_likely 104 = .ok (.aload_n 0, 1) := by decide +kernel
theorem dX9_likely_105 : decode cX9_likely 105 = .ok (.iload 5, 2) := by decide +kernel
theorem dX9_likely_107 : decode cX9_likely 107 = .ok (.iconst 0, 1) := by decide +kernel
theorem dX9_likely_108 : decode cX9_likely 108 = .ok (.invokevirtual 166, 3) := by decide +kernel
theorem dX9_likely_111 : decode cX9_likely 111 = .ok (.i2l, 1) := by decide +kernel
theorem dX9_likely_112 : decode cX9_likely 112 = .ok (.lsub, 1) := by decide +kernel
theorem dX9_likely_113 : decode cX9_likely 113 = .ok (.lmul, 1) := by decide +kernel
theorem dX9_likely_114 : decode cX9_likely 114 = .ok (.ldc2_w 205, 3) := by decide +kernel
theorem dX9_likely_117 : decode cX9_likely 117 = .ok (.ldiv, 1) := by decide +kernel
theorem dX9_likely_118 : decode cX9_likely 118 = .ok (.goto 4, 3) := by decide +kernel
theorem dX9_likely_121 : decode cX9_likely 121 = .ok (.lload_n 3, 1) := by decide +kernel
theorem dX9_likely_122 : decode cX9_likely 122 = .ok (.lstore_n 3, 1) := by decide +kernel
theorem dX9_likely_123 : decode cX9_likely 123 = .ok (.iinc 5 1, 3) := by decide +kernel
theorem dX9_likely_126 : decode cX9_likely 126 = .ok (.goto (-42), 3) := by decide +kernel
theorem dX9_likely_129 : decode cX9_likely 129 = .ok (.lload_n 3, 1) := by decide +kernel
theorem dX9_likely_130 : decode cX9_likely 130 = .ok (.lreturn, 1) := by decide +kernel
theorem dX9_fallsTo_0 : decode cX9_fallsTo 0 = .ok (.iload_n 1, 1) := by decide +kernel
theorem dX9_fallsTo_1 : decode cX9_fallsTo 1 = .ok (.istore 4, 2) := by decide +kernel
theorem dX9_fallsTo_3 : decode cX9_fallsTo 3 = .ok (.iconst 0, 1) := by decide +kernel
theorem dX9_fallsTo_4 : decode cX9_fallsTo 4 = .ok (.istore 5, 2) := by decide +kernel
theorem dX9_fallsTo_6 : decode cX9_fallsTo 6 = .ok (.iload_n 1, 1) := by decide +kernel
theorem dX9_fallsTo_7 : decode cX9_fallsTo 7 = .ok (.iload_n 2, 1) := by decide +kernel
theorem dX9_fallsTo_8 : decode cX9_fallsTo 8 = .ok (.iadd, 1) := by decide +kernel
theorem dX9_fallsTo_9 : decode cX9_fallsTo 9 = .ok (.istore 6, 2) := by decide +kernel
theorem dX9_fallsTo_11 : decode cX9_fallsTo 11 = .ok (.aload_n 0, 1) := by decide +kernel
theorem dX9_fallsTo_12 : decode cX9_fallsTo 12 = .ok (.iload_n 1, 1) := by decide +kernel
theorem dX9_fallsTo_13 : decode cX9_fallsTo 13 = .ok (.invokevirtual 172, 3) := by decide +kernel
theorem dX9_fallsTo_16 : decode cX9_fallsTo 16 = .ok (.ifCond .ne 7, 3) := by decide +kernel
theorem dX9_fallsTo_19 : decode cX9_fallsTo 19 = .ok (.iconst 1, 1) := by decide +kernel
theorem dX9_fallsTo_20 : decode cX9_fallsTo 20 = .ok (.goto 4, 3) := by decide +kernel
theorem dX9_fallsTo_23 : decode cX9_fallsTo 23 = .ok (.iconst 0, 1) := by decide +kernel
theorem dX9_fallsTo_24 : decode cX9_fallsTo 24 = .ok (.istore 7, 2) := by decide +kernel
theorem dX9_fallsTo_26 : decode cX9_fallsTo 26 = .ok (.iload 7, 2) := by decide +kernel
theorem dX9_fallsTo_28 : decode cX9_fallsTo 28 = .ok (.ifCond .eq 79, 3) := by decide +kernel
theorem dX9_fallsTo_31 : decode cX9_fallsTo 31 = .ok (.iload 6, 2) := by decide +kernel
theorem dX9_fallsTo_33 : decode cX9_fallsTo 33 = .ok (.invokestatic 160, 3) := by decide +kernel
theorem dX9_fallsTo_36 : decode cX9_fallsTo 36 = .ok (.ifCond .eq 71, 3) := by decide +kernel
theorem dX9_fallsTo_39 : decode cX9_fallsTo 39 = .ok (.iload 5, 2) := by decide +kernel
theorem dX9_fallsTo_41 : decode cX9_fallsTo 41 = .ok (.aload_n 0, 1) := by decide +kernel
theorem dX9_fallsTo_42 : decode cX9_fallsTo 42 = .ok (.getfield 16, 3) := by decide +kernel
theorem dX9_fallsTo_45 : decode cX9_fallsTo 45 = .ok (.iconst 3, 1) := by decide +kernel
theorem dX9_fallsTo_46 : decode cX9_fallsTo 46 = .ok (.iaload, 1) := by decide +kernel
theorem dX9_fallsTo_47 : decode cX9_fallsTo 47 = .ok (.if_icmp .gt 60, 3) := by decide +kernel
theorem dX9_fallsTo_50 : decode cX9_fallsTo 50 = .ok (.iload_n 3, 1) := by decide +kernel
theorem dX9_fallsTo_51 : decode cX9_fallsTo 51 = .ok (.iload 6, 2) := by decide +kernel
theorem dX9_fallsTo_53 : decode cX9_fallsTo 53 = .ok (.invokestatic 190, 3) := by decide +kernel
theorem dX9_fallsTo_56 : decode cX9_fallsTo 56 = .ok (.ifCond .eq 39, 3) := by decide +kernel
theorem dX9_fallsTo_59 : decode cX9_fallsTo 59 = .ok (.aload_n 0, 1) := by decide +kernel
theorem dX9_fallsTo_60 : decode cX9_fallsTo 60 = .ok (.iload 6, 2) := by decide +kernel
theorem dX9_fallsTo_62 : decode cX9_fallsTo 62 = .ok (.invokevirtual 172, 3) := by decide +kernel
theorem dX9_fallsTo_65 : decode cX9_fallsTo 65 = .ok (.ifCond .ne 7, 3) := by decide +kernel
theorem dX9_fallsTo_68 : decode cX9_fallsTo 68 = .ok (.iconst 1, 1) := by decide +kernel
theorem dX9_fallsTo_69 : decode cX9_fallsTo 69 = .ok (.goto 4, 3) := by decide +kernel
theorem dX9_fallsTo_72 : decode cX9_fallsTo 72 = .ok (.iconst 0, 1) := by decide +kernel
theorem dX9_fallsTo_73 : decode cX9_fallsTo 73 = .ok (.istore 7, 2) := by decide +kernel
theorem dX9_fallsTo_75 : decode cX9_fallsTo 75 = .ok (.iload 7, 2) := by decide +kernel
theorem dX9_fallsTo_77 : decode cX9_fallsTo 77 = .ok (.ifCond .eq 8, 3) := by decide +kernel
theorem dX9_fallsTo_80 : decode cX9_fallsTo 80 = .ok (.iload 6, 2) := by decide +kernel
theorem dX9_fallsTo_82 : decode cX9_fallsTo 82 = .ok (.goto 5, 3) := by decide +kernel
theorem dX9_fallsTo_85 : decode cX9_fallsTo 85 = .ok (.iload 4, 2) := by decide +kernel
theorem dX9_fallsTo_87 : decode cX9_fallsTo 87 = .ok (.istore 4, 2) := by decide +kernel
theorem dX9_fallsTo_89 : decode cX9_fallsTo 89 = .ok (.iconst 0, 1) := by decide +kernel
theorem dX9_fallsTo_90 : decode cX9_fallsTo 90 = .ok (.istore 5, 2) := by decide +kernel
theorem dX9_fallsTo_92 : decode cX9_fallsTo 92 = .ok (.goto 6, 3) := by decide +kernel
theorem dX9_fallsTo_95 : decode cX9_fallsTo 95 = .ok (.iinc 5 1, 3) := by decide +kernel
theorem dX9_fallsTo_98 : decode cX9_fallsTo 98 = .ok (.iload 6, 2) := by decide +kernel
theorem dX9_fallsTo_100 : decode cX9_fallsTo 100 = .ok (.iload_n 2, 1) := by decide +kernel
theorem dX9_fallsTo_101 : decode cX9_fallsTo 101 = .ok (.iadd, 1) := by decide +kernel
theorem dX9_fallsTo_102 : decode cX9_fallsTo 102 = .ok (.istore 6, 2) := by decide +kernel
theorem dX9_fallsTo_104 : decode cX9_fallsTo 104 = .ok (.goto (-78), 3) := by decide +kernel
theorem dX9_fallsTo_107 : decode cX9_fallsTo 107 = .ok (.iload 4, 2) := by decide +kernel
theorem dX9_fallsTo_109 : decode cX9_fallsTo 109 = .ok (.ireturn, 1) := by decide +kernel
theorem dX9_between__0 : decode cX9_between_ 0 = .ok (.iconst 0, 1) := by decide +kernel
theorem dX9_between__1 : decode cX9_between_ 1 = .ok (.istore_n 3, 1) := by decide +kernel
