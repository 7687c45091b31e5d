theorem dX9_next_63 : decode cX9_next 63 = .ok (.if_icmp .gt 100, 3) := by decide +kernel
theorem dX9_next_66 : decode cX9_next 66 = .ok (.iload_n 3, 1) := by decide +kernel
theorem dX9_next_67 : decode cX9_next 67 = .ok (.iconst 1, 1) := by decide +kernel
theorem dX9_next_68 : decode cX9_next 68 = .ok (.if_icmp .le 95, 3) := by decide +kernel
theorem dX9_next_71 : decode cX9_next 71 = .ok (.iconst 0, 1) := by decide +kernel
theorem dX9_next_72 : decode cX9_next 72 = .ok (.istore 7, 2) := by decide +kernel
theorem dX9_next_74 : decode cX9_next 74 = .ok (.iconst 1, 1) := by decide +kernel
theorem dX9_next_75 : decode cX9_next 75 = .ok (.istore 8, 2) := by decide +kernel
theorem dX9_next_77 : decode cX9_next 77 = .ok (.iload 8, 2) := by decide +kernel
theorem dX9_next_79 : decode cX9_next 79 = .ok (.bipush 10, 2) := by decide +kernel
theorem dX9_next_81 : decode cX9_next 81 = .ok (.if_icmp .ge 40, 3) := by decide +kernel
theorem dX9_next_84 : decode cX9_next 84 = .ok (.iload 7, 2) := by decide +kernel
theorem dX9_next_86 : decode cX9_next 86 = .ok (.iload_n 2, 1) := by decide +kernel
theorem dX9_next_87 : decode cX9_next 87 = .ok (.iload 8, 2) := by decide +kernel
theorem dX9_next_89 : decode cX9_next 89 = .ok (.invokestatic 118, 3) := by decide +kernel
theorem dX9_next_92 : decode cX9_next 92 = .ok (.ifCond .eq 19, 3) := by decide +kernel
theorem dX9_next_95 : decode cX9_next 95 = .ok (.aload_n 0, 1) := by decide +kernel
theorem dX9_next_96 : decode cX9_next 96 = .ok (.iload_n 1, 1) := by decide +kernel
theorem dX9_next_97 : decode cX9_next 97 = .ok (.iload 8, 2) := by decide +kernel
theorem dX9_next_99 : decode cX9_next 99 = .ok (.invokevirtual 213, 3) := by decide +kernel
theorem dX9_next_102 : decode cX9_next 102 = .ok (.iload 6, 2) := by decide +kernel
theorem dX9_next_104 : decode cX9_next 104 = .ok (.if_icmp .lt 7, 3) := by decide +kernel
theorem dX9_next_107 : decode cX9_next 107 = .ok (.iconst 1, 1) := by decide +kernel
theorem dX9_next_108 : decode cX9_next 108 = .ok (.goto 4, 3) := by decide +kernel
theorem dX9_next_111 : decode cX9_next 111 = .ok (.iconst 0, 1) := by decide +kernel
theorem dX9_next_112 : decode cX9_next 112 = .ok (.iadd, 1) := by decide +kernel
theorem dX9_next_113 : decode cX9_next 113 = .ok (.istore 7, 2) := by decide +kernel
theorem dX9_next_115 : decode cX9_next 115 = .ok (.iinc 8 1, 3) := by decide +kernel
theorem dX9_next_118 : decode cX9_next 118 = .ok (.goto (-41), 3) := by decide +kernel
theorem dX9_next_121 : decode cX9_next 121 = .ok (.iload 7, 2) := by decide +kernel
theorem dX9_next_123 : decode cX9_next 123 = .ok (.iload_n 3, 1) := by decide +kernel
theorem dX9_next_124 : decode cX9_next 124 = .ok (.iload 7, 2) := by decide +kernel
theorem dX9_next_126 : decode cX9_next 126 = .ok (.isub, 1) := by decide +kernel
theorem dX9_next_127 : decode cX9_next 127 = .ok (.invokestatic 188, 3) := by decide +kernel
theorem dX9_next_130 : decode cX9_next 130 = .ok (.istore 8, 2) := by decide +kernel
theorem dX9_next_132 : decode cX9_next 132 = .ok (.iload 8, 2) := by decide +kernel
theorem dX9_next_134 : decode cX9_next 134 = .ok (.iload 5, 2) := by decide +kernel
theorem dX9_next_136 : decode cX9_next 136 = .ok (.if_icmp .ge 8, 3) := by decide +kernel
theorem dX9_next_139 : decode cX9_next 139 = .ok (.iload 6, 2) := by decide +kernel
theorem dX9_next_141 : decode cX9_next 141 = .ok (.goto 5, 3) := by decide +kernel
theorem dX9_next_144 : decode cX9_next 144 = .ok (.iload 4, 2) := by decide +kernel
theorem dX9_next_146 : decode cX9_next 146 = .ok (.istore 4, 2) := by decide +kernel
theorem dX9_next_148 : decode cX9_next 148 = .ok (.iload 5, 2) := by decide +kernel
theorem dX9_next_150 : decode cX9_next 150 = .ok (.iload 8, 2) := by decide +kernel
theorem dX9_next_152 : decode cX9_next 152 = .ok (.invokestatic 191, 3) := by decide +kernel
theorem dX9_next_155 : decode cX9_next 155 = .ok (.istore 5, 2) := by decide +kernel
theorem dX9_next_157 : decode cX9_next 157 = .ok (.iinc 6 1, 3) := by decide +kernel
theorem dX9_next_160 : decode cX9_next 160 = .ok (.goto (-101), 3) := by decide +kernel
theorem dX9_next_163 : decode cX9_next 163 = .ok (.iload 4, 2) := by decide +kernel
theorem dX9_next_165 : decode cX9_next 165 = .ok (.ireturn, 1) := by decide +kernel
theorem dX9_rate_0 : decode cX9_rate 0 = .ok (.aload_n 0, 1) := by decide +kernel
theorem dX9_rate_1 : decode cX9_rate 1 = .ok (.iconst 0, 1) := by decide +kernel
theorem dX9_rate_2 : decode cX9_rate 2 = .ok (.putfield 56, 3) := by decide +kernel
theorem dX9_rate_5 : decode cX9_rate 5 = .ok (.iload_n 1, 1) := by decide +kernel
theorem dX9_rate_6 : decode cX9_rate 6 = .ok (.iconst 0, 1) := by decide +kernel
theorem dX9_rate_7 : decode cX9_rate 7 = .ok (.iconst 5, 1) := by decide +kernel
theorem dX9_rate_8 : decode cX9_rate 8 = .ok (.invokestatic 60, 3) := by decide +kernel
theorem dX9_rate_11 : decode cX9_rate 11 = .ok (.ifCond .eq 11, 3) := by decide +kernel
theorem dX9_rate_14 : decode cX9_rate 14 = .ok (.aload_n 0, 1) := by decide +kernel
theorem dX9_rate_15 : decode cX9_rate 15 = .ok (.iload_n 2, 1) := by decide +kernel
theorem dX9_rate_16 : decode cX9_rate 16 = .ok (.invokevirtual 136, 3) := by decide +kernel
theorem dX9_rate_19 : decode cX9_rate 19 = .ok (.ifCond .ne 6, 3) := by decide +kernel
theorem dX9_rate_22 : decode cX9_rate 22 = .ok (.ldc 219, 2) := by decide +kernel
theorem dX9_rate_24 : decode cX9_rate 24 = .ok (.ireturn, 1) := by decide +kernel
theorem dX9_rate_25 : decode cX9_rate 25 = .ok (.aload_n 0, 1) := by decide +kernel
theorem dX9_rate_26 : decode cX9_rate 26 = .ok (.getfield 13, 3) := by decide +kernel
theorem dX9_rate_29 : decode cX9_rate 29 = .ok (.bipush 18, 2) := by decide +kernel
theorem dX9_rate_31 : decode cX9_rate 31 = .ok (.iload_n 2, 1) := by decide +kernel
theorem dX9_rate_32 : decode cX9_rate 32 = .ok (.iadd, 1) := by decide +kernel
theorem dX9_rate_33 : decode cX9_rate 33 = .ok (.iaload, 1) := by decide +kernel
theorem dX9_rate_34 : decode cX9_rate 34 = .ok (.istore_n 3, 1) := by decide +kernel
theorem dX9_rate_35 : decode cX9_rate 35 = .ok (.iload_n 3, 1) := by decide +kernel
theorem dX9_rate_36 : decode cX9_rate 36 = .ok (.aload_n 0, 1) := by decide +kernel
theorem dX9_rate_37 : decode cX9_rate 37 = .ok (.getfield 13, 3) := by decide +kernel
theorem dX9_rate_40 : decode cX9_rate 40 = .ok (.bipush 26, 2) := by decide +kernel
theorem dX9_rate_42 : decode cX9_rate 42 = .ok (.iload_n 2, 1) := by decide +kernel
theorem dX9_rate_43 : decode cX9_rate 43 = .ok (.iadd, 1) := by decide +kernel
theorem dX9_rate_44 : decode cX9_rate 44 = .ok (.iaload, 1) := by decide +kernel
theorem dX9_rate_45 : decode cX9_rate 45 = .ok (.iadd, 1) := by decide +kernel
theorem dX9_rate_46 : decode cX9_rate 46 = .ok (.istore 4, 2) := by decide +kernel
theorem dX9_rate_48 : decode cX9_rate 48 = .ok (.aload_n 0, 1) := by decide +kernel
theorem dX9_rate_49 : decode cX9_rate 49 = .ok (.iload_n 2, 1) := by decide +kernel
theorem dX9_rate_50 : decode cX9_rate 50 = .ok (.iconst 1, 1) := by decide +kernel
theorem dX9_rate_51 : decode cX9_rate 51 = .ok (.invokevirtual 139, 3) := by decide +kernel
theorem dX9_rate_54 : decode cX9_rate 54 = .ok (.invokestatic 179, 3) := by decide +kernel
theorem dX9_rate_57 : decode cX9_rate 57 = .ok (.istore 5, 2) := by decide +kernel
theorem dX9_rate_59 : decode cX9_rate 59 = .ok (.iload_n 3, 1) := by decide +kernel
theorem dX9_rate_60 : decode cX9_rate 60 = .ok (.iload 5, 2) := by decide +kernel
theorem dX9_rate_62 : decode cX9_rate 62 = .ok (.isub, 1) := by decide +kernel
theorem dX9_rate_63 : decode cX9_rate 63 = .ok (.aload_n 0, 1) := by decide +kernel
theorem dX9_rate_64 : decode cX9_rate 64 = .ok (.iload_n 2, 1) := by decide +kernel
theorem dX9_rate_65 : decode cX9_rate 65 = .ok (.iconst 0, 1) := by decide +kernel
theorem dX9_rate_66 : decode cX9_rate 66 = .ok (.invokevirtual 139, 3) := by decide +kernel
theorem dX9_rate_69 : decode cX9_rate 69 = .ok (.invokestatic 179, 3) := by decide +kernel
theorem dX9_rate_72 : decode cX9_rate 72 = .ok (.isub, 1) := by decide +kernel
theorem dX9_rate_73 : decode cX9_rate 73 = .ok (.istore 6, 2) := by decide +kernel
theorem dX9_rate_75 : decode cX9_rate 75 = .ok (.aload_n 0, 1) := by decide +kernel
theorem dX9_rate_76 : decode cX9_rate 76 = .ok (.dup, 1) := by decide +kernel
theorem dX9_rate_77 : decode cX9_rate 77 = .ok (.getfield 220, 3) := by decide +kernel
theorem dX9_rate_80 : decode cX9_rate 80 = .ok (.iload_n 1, 1) := by decide +kernel
theorem dX9_rate_81 : decode cX9_rate 81 = .ok (.ifCond .ne 7, 3) := by decide +kernel
theorem dX9_rate_84 : decode cX9_rate 84 = .ok (.lconst 1, 1) := by decide +kernel
theorem dX9_rate_85 : decode cX9_rate 85 = .ok (.goto 50, 3) := by decide +kernel
theorem dX9_rate_88 : decode cX9_rate 88 = .ok (.iload_n 1, 1) := by decide +kernel
theorem dX9_rate_89 : decode cX9_rate 89 = .ok (.iconst 1, 1) := by decide +kernel
theorem dX9_rate_90 : decode cX9_rate 90 = .ok (.if_icmp .ne 9, 3) := by decide +kernel
theorem dX9_rate_93 : decode cX9_rate 93 = .ok (.ldc2_w 224, 3) := by decide +kernel
theorem dX9_rate_96 : decode cX9_rate 96 = .ok (.goto 39, 3) := by decide +kernel
theorem dX9_rate_99 : decode cX9_rate 99 = .ok (.iload_n 1, 1) := by decide +kernel
theorem dX9_rate_100 : decode cX9_rate 100 = .ok (.iconst 2, 1) := by decide +kernel
theorem dX9_rate_101 : decode cX9_rate 101 = .ok (.if_icmp .ne 9, 3) := by decide +kernel
theorem dX9_rate_104 : decode cX9_rate 104 = .ok (.ldc2_w 226, 3) := by decide +kernel
theorem dX9_rate_107 : decode cX9_rate 107 = .ok (.goto 28, 3) := by decide +kernel
theorem dX9_rate_110 : decode cX9_rate 110 = .ok (.iload_n 1, 1) := by decide +kernel
theorem dX9_rate_111 : decode cX9_rate 111 = .ok (.iconst 3, 1) := by decide +kernel
theorem dX9_rate_112 : decode cX9_rate 112 = .ok (.if_icmp .ne 9, 3) := by decide +kernel
theorem dX9_rate_115 : decode cX9_rate 115 = .ok (.ldc2_w 228, 3) := by decide +kernel
theorem dX9_rate_118 : decode cX9_rate 118 = .ok (.goto 17, 3) := by decide +kernel
theorem dX9_rate_121 : decode cX9_rate 121 = .ok (.iload_n 1, 1) := by decide +kernel
theorem dX9_rate_122 : decode cX9_rate 122 = .ok (.iconst 4, 1) := by decide +kernel
theorem dX9_rate_123 : decode cX9_rate 123 = .ok (.if_icmp .ne 9, 3) := by decide +kernel
theorem dX9_rate_126 : decode cX9_rate 126 = .ok (.ldc2_w 230, 3) := by decide +kernel
theorem dX9_rate_129 : decode cX9_rate 129 = .ok (.goto 6, 3) := by decide +kernel
theorem dX9_rate_132 : decode cX9_rate 132 = .ok (.ldc2_w 232, 3) := by decide +kernel
theorem dX9_rate_135 : decode cX9_rate 135 = .ok (.ladd, 1) := by decide +kernel
theorem dX9_rate_136 : decode cX9_rate 136 = .ok (.putfield 220, 3) := by decide +kernel
theorem dX9_rate_139 : decode cX9_rate 139 = .ok (.iload_n 1, 1) := by decide +kernel
theorem dX9_rate_140 : decode cX9_rate 140 = .ok (.ifCond .ne 7, 3) := by decide +kernel
theorem dX9_rate_143 : decode cX9_rate 143 = .ok (.iload_n 3, 1) := by decide +kernel
theorem dX9_rate_144 : decode cX9_rate 144 = .ok (.goto 53, 3) := by decide +kernel
theorem dX9_rate_147 : decode cX9_rate 147 = .ok (.iload_n 1, 1) := by decide +kernel
theorem dX9_rate_148 : decode cX9_rate 148 = .ok (.iconst 1, 1) := by decide +kernel
theorem dX9_rate_149 : decode cX9_rate 149 = .ok (.if_icmp .ne 8, 3) := by decide +kernel
theorem dX9_rate_152 : decode cX9_rate 152 = .ok (.iload 4, 2) := by decide +kernel
theorem dX9_rate_154 : decode cX9_rate 154 = .ok (.goto 43, 3) := by decide +kernel
theorem dX9_rate_157 : decode cX9_rate 157 = .ok (.iload_n 1, 1) := by decide +kernel
theorem dX9_rate_158 : decode cX9_rate 158 = .ok (.iconst 2, 1) := by decide +kernel
theorem dX9_rate_159 : decode cX9_rate 159 = .ok (.if_icmp .ne 10, 3) := by decide +kernel
theorem dX9_rate_162 : decode cX9_rate 162 = .ok (.iconst 2, 1) := by decide +kernel
theorem dX9_rate_163 : decode cX9_rate 163 = .ok (.iload 4, 2) := by decide +kernel
theorem dX9_rate_165 : decode cX9_rate 165 = .ok (.imul, 1) := by decide +kernel
theorem dX9_rate_166 : decode cX9_rate 166 = .ok (.goto 31, 3) := by decide +kernel
theorem dX9_rate_169 : decode cX9_rate 169 = .ok (.iload_n 1, 1) := by decide +kernel
theorem dX9_rate_170 : decode cX9_rate 170 = .ok (.iconst 3, 1) := by decide +kernel
theorem dX9_rate_171 : decode cX9_rate 171 = .ok (.if_icmp .ne 10, 3) := by decide +kernel
theorem dX9_rate_174 : decode cX9_rate 174 = .ok (.iload_n 3, 1) := by decide +kernel
theorem dX9_rate_175 : decode cX9_rate 175 = .ok (.iload 5, 2) := by decide +kernel
theorem dX9_rate_177 : decode cX9_rate 177 = .ok (.iadd, 1) := by decide +kernel
theorem dX9_rate_178 : decode cX9_rate 178 = .ok (.goto 19, 3) := by decide +kernel
theorem dX9_rate_181 : decode cX9_rate 181 = .ok (.iload_n 1, 1) := by decide +kernel
theorem dX9_rate_182 : decode cX9_rate 182 = .ok (.iconst 4, 1) := by decide +kernel
theorem dX9_rate_183 : decode cX9_rate 183 = .ok (.if_icmp .ne 8, 3) := by decide +kernel
theorem dX9_rate_186 : decode cX9_rate 186 = .ok (.iload 6, 2) := by decide +kernel
theorem dX9_rate_188 : decode cX9_rate 188 = .ok (.goto 9, 3) := by decide +kernel
theorem dX9_rate_191 : decode cX9_rate 191 = .ok (.iconst 3, 1) := by decide +kernel
theorem dX9_rate_192 : decode cX9_rate 192 = .ok (.iload 6, 2) := by decide +kernel
theorem dX9_rate_194 : decode cX9_rate 194 = .ok (.imul, 1) := by decide +kernel
theorem dX9_rate_195 : decode cX9_rate 195 = .ok (.iload_n 2, 1) := by decide +kernel
theorem dX9_rate_196 : decode cX9_rate 196 = .ok (.iadd, 1) := by decide +kernel
theorem dX9_rate_197 : decode cX9_rate 197 = .ok (.ireturn, 1) := by decide +kernel
theorem dX9_keep_0 : decode cX9_keep 0 = .ok (.aload_n 0, 1) := by decide +kernel
theorem dX9_keep_1 : decode cX9_keep 1 = .ok (.iconst 0, 1) := by decide +kernel
theorem dX9_keep_2 : decode cX9_keep 2 = .ok (.putfield 56, 3) := by decide +kernel
theorem dX9_keep_5 : decode cX9_keep 5 = .ok (.iload_n 1, 1) := by decide +kernel
theorem dX9_keep_6 : decode cX9_keep 6 = .ok (.iconst 0, 1) := by decide +kernel
theorem dX9_keep_7 : decode cX9_keep 7 = .ok (.iconst 1, 1) := by decide +kernel
theorem dX9_keep_8 : decode cX9_keep 8 = .ok (.invokestatic 60, 3) := by decide +kernel
theorem dX9_keep_11 : decode cX9_keep 11 = .ok (.ifCond .ne 5, 3) := by decide +kernel
theorem dX9_keep_14 : decode cX9_keep 14 = .ok (.iconst (-1), 1) := by decide +kernel
theorem dX9_keep_15 : decode cX9_keep 15 = .ok (.ireturn, 1) := by decide +kernel
theorem dX9_keep_16 : decode cX9_keep 16 = .ok (.iconst 0, 1) := by decide +kernel
theorem dX9_keep_17 : decode cX9_keep 17 = .ok (.istore_n 2, 1) := by decide +kernel
theorem dX9_keep_18 : decode cX9_keep 18 = .ok (.iload_n 2, 1) := by decide +kernel
theorem dX9_keep_19 : decode cX9_keep 19 = .ok (.bipush 66, 2) := by decide +kernel
theorem dX9_keep_21 : decode cX9_keep 21 = .ok (.if_icmp .ge 26, 3) := by decide +kernel
theorem dX9_keep_24 : decode cX9_keep 24 = .ok (.aload_n 0, 1) := by decide +kernel
theorem dX9_keep_25 : decode cX9_keep 25 = .ok (.getfield 31, 3) := by decide +kernel
theorem dX9_keep_28 : decode cX9_keep 28 = .ok (.bipush 66, 2) := by decide +kernel
theorem dX9_keep_30 : decode cX9_keep 30 = .ok (.iload_n 1, 1) := by decide +kernel
theorem dX9_keep_31 : decode cX9_keep 31 = .ok (.imul, 1) := by decide +kernel
theorem dX9_keep_32 : decode cX9_keep 32 = .ok (.iload_n 2, 1) := by decide +kernel
theorem dX9_keep_33 : decode cX9_keep 33 = .ok (.iadd, 1) := by decide +kernel
theorem dX9_keep_34 : decode cX9_keep 34 = .ok (.aload_n 0, 1) := by decide +kernel
theorem dX9_keep_35 : decode cX9_keep 35 = .ok (.getfield 22, 3) := by decide +kernel
theorem dX9_keep_38 : decode cX9_keep 38 = .ok (.iload_n 2, 1) := by decide +kernel
theorem dX9_keep_39 : decode cX9_keep 39 = .ok (.iaload, 1) := by decide +kernel
theorem dX9_keep_40 : decode cX9_keep 40 = .ok (.iastore, 1) := by decide +kernel
theorem dX9_keep_41 : decode cX9_keep 41 = .ok (.iinc 2 1, 3) := by decide +kernel
theorem dX9_keep_44 : decode cX9_keep 44 = .ok (.goto (-26), 3) := by decide +kernel
theorem dX9_keep_47 : decode cX9_keep 47 = .ok (.aload_n 0, 1) := by decide +kernel
theorem dX9_keep_48 : decode cX9_keep 48 = .ok (.getfield 34, 3) := by decide +kernel
theorem dX9_keep_51 : decode cX9_keep 51 = .ok (.iload_n 1, 1) := by decide +kernel
theorem dX9_keep_52 : decode cX9_keep 52 = .ok (.iconst 1, 1) := by decide +kernel
theorem dX9_keep_53 : decode cX9_keep 53 = .ok (.bastore, 1) := by decide +kernel
theorem dX9_keep_54 : decode cX9_keep 54 = .ok (.aload_n 0, 1) := by decide +kernel
theorem dX9_keep_55 : decode cX9_keep 55 = .ok (.getfield 22, 3) := by decide +kernel
theorem dX9_keep_58 : decode cX9_keep 58 = .ok (.iconst 0, 1) := by decide +kernel
theorem dX9_keep_59 : decode cX9_keep 59 = .ok (.iaload, 1) := by decide +kernel
theorem dX9_keep_60 : decode cX9_keep 60 = .ok (.ireturn, 1) := by decide +kernel
theorem dX9_back_0 : decode cX9_back 0 = .ok (.aload_n 0, 1) := by decide +kernel
theorem dX9_back_1 : decode cX9_back 1 = .ok (.iconst 0, 1) := by decide +kernel
theorem dX9_back_2 : decode cX9_back 2 = .ok (.putfield 56, 3) := by decide +kernel
theorem dX9_back_5 : decode cX9_back 5 = .ok (.iload_n 1, 1) := by decide +kernel
theorem dX9_back_6 : decode cX9_back 6 = .ok (.iconst 0, 1) := by decide +kernel
theorem dX9_back_7 : decode cX9_back 7 = .ok (.iconst 1, 1) := by decide +kernel
theorem dX9_back_8 : decode cX9_back 8 = .ok (.invokestatic 60, 3) := by decide +kernel
theorem dX9_back_11 : decode cX9_back 11 = .ok (.ifCond .ne 5, 3) := by decide +kernel
theorem dX9_back_14 : decode cX9_back 14 = .ok (.iconst (-1), 1) := by decide +kernel
theorem dX9_back_15 : decode cX9_back 15 = .ok (.ireturn, 1) := by decide +kernel
theorem dX9_back_16 : decode cX9_back 16 = .ok (.aload_n 0, 1) := by decide +kernel
theorem dX9_back_17 : decode cX9_back 17 = .ok (.getfield 34, 3) := by decide +kernel
theorem dX9_back_20 : decode cX9_back 20 = .ok (.iload_n 1, 1) := by decide +kernel
theorem dX9_back_21 : decode cX9_back 21 = .ok (.baload, 1) := by decide +kernel
theorem dX9_back_22 : decode cX9_back 22 = .ok (.ifCond .ne 6, 3) := by decide +kernel
theorem dX9_back_25 : decode cX9_back 25 = .ok (.bipush (-2), 2) := by decide +kernel
theorem dX9_back_27 : decode cX9_back 27 = .ok (.ireturn, 1) := by decide +kernel
theorem dX9_back_28 : decode cX9_back 28 = .ok (.iconst 0, 1) := by decide +kernel
theorem dX9_back_29 : decode cX9_back 29 = .ok (.istore_n 2, 1) := by decide +kernel
theorem dX9_back_30 : decode cX9_back 30 = .ok (.iload_n 2, 1) := by decide +kernel
theorem dX9_back_31 : decode cX9_back 31 = .ok (.bipush 66, 2) := by decide +kernel
theorem dX9_back_33 : decode cX9_back 33 = .ok (.if_icmp .ge 26, 3) := by decide +kernel
theorem dX9_back_36 : decode cX9_back 36 = .ok (.aload_n 0, 1) := by decide +kernel
theorem dX9_back_37 : decode cX9_back 37 = .ok (.getfield 22, 3) := by decide +kernel
theorem dX9_back_40 : decode cX9_back 40 = .ok (.iload_n 2, 1) := by decide +kernel
theorem dX9_back_41 : decode cX9_back 41 = .ok (.aload_n 0, 1) := by decide +kernel
theorem dX9_back_42 : decode cX9_back 42 = .ok (.getfield 31, 3) := by decide +kernel
theorem dX9_back_45 : decode cX9_back 45 = .ok (.bipush 66, 2) := by decide +kernel
theorem dX9_back_47 : decode cX9_back 47 = .ok (.iload_n 1, 1) := by decide +kernel
theorem dX9_back_48 : decode cX9_back 48 = .ok (.imul, 1) := by decide +kernel
theorem dX9_back_49 : decode cX9_back 49 = .ok (.iload_n 2, 1) := by decide +kernel
theorem dX9_back_50 : decode cX9_back 50 = .ok (.iadd, 1) := by decide +kernel
theorem dX9_back_51 : decode cX9_back 51 = .ok (.iaload, 1) := by decide +kernel
theorem dX9_back_52 : decode cX9_back 52 = .ok (.iastore, 1) := by decide +kernel
theorem dX9_back_53 : decode cX9_back 53 = .ok (.iinc 2 1, 3) := by decide +kernel
theorem dX9_back_56 : decode cX9_back 56 = .ok (.goto (-26), 3) := by decide +kernel
theorem dX9_back_59 : decode cX9_back 59 = .ok (.aload_n 0, 1) := by decide +kernel
theorem dX9_back_60 : decode cX9_back 60 = .ok (.iconst 0, 1) := by decide +kernel
theorem dX9_back_61 : decode cX9_back 61 = .ok (.putfield 115, 3) := by decide +kernel
theorem dX9_back_64 : decode cX9_back 64 = .ok (.aload_n 0, 1) := by decide +kernel
theorem dX9_back_65 : decode cX9_back 65 = .ok (.getfield 22, 3) := by decide +kernel
theorem dX9_back_68 : decode cX9_back 68 = .ok (.iconst 0, 1) := by decide +kernel
theorem dX9_back_69 : decode cX9_back 69 = .ok (.iaload, 1) := by decide +kernel
theorem dX9_back_70 : decode cX9_back 70 = .ok (.ireturn, 1) := by decide +kernel
theorem dX9_count_0 : decode cX9_count 0 = .ok (.aload_n 0, 1) := by decide +kernel
theorem dX9_count_1 : decode cX9_count 1 = .ok (.iconst 0, 1) := by decide +kernel
theorem dX9_count_2 : decode cX9_count 2 = .ok (.putfield 56, 3) := by decide +kernel
theorem dX9_count_5 : decode cX9_count 5 = .ok (.iload_n 1, 1) := by decide +kernel
theorem dX9_count_6 : decode cX9_count 6 = .ok (.iconst 0, 1) := by decide +kernel
theorem dX9_count_7 : decode cX9_count 7 = .ok (.iconst 1, 1) := by decide +kernel
theorem dX9_count_8 : decode cX9_count 8 = .ok (.invokestatic 60, 3) := by decide +kernel
theorem dX9_count_11 : decode cX9_count 11 = .ok (.ifCond .eq 12, 3) := by decide +kernel
theorem dX9_count_14 : decode cX9_count 14 = .ok (.aload_n 0, 1) := by decide +kernel
theorem dX9_count_15 : decode cX9_count 15 = .ok (.getfield 13, 3) := by decide +kernel
theorem dX9_count_18 : decode cX9_count 18 = .ok (.iload_n 1, 1) := by decide +kernel
theorem dX9_count_19 : decode cX9_count 19 = .ok (.iaload, 1) := by decide +kernel
theorem dX9_count_20 : decode cX9_count 20 = .ok (.goto 28, 3) := by decide +kernel
theorem dX9_count_23 : decode cX9_count 23 = .ok (.iload_n 1, 1) := by decide +kernel
theorem dX9_count_24 : decode cX9_count 24 = .ok (.iconst 2, 1) := by decide +kernel
theorem dX9_count_25 : decode cX9_count 25 = .ok (.if_icmp .ne 10, 3) := by decide +kernel
theorem dX9_count_28 : decode cX9_count 28 = .ok (.aload_n 0, 1) := by decide +kernel
theorem dX9_count_29 : decode cX9_count 29 = .ok (.getfield 112, 3) := by decide +kernel
theorem dX9_count_32 : decode cX9_count 32 = .ok (.goto 16, 3) := by decide +kernel
theorem dX9_count_35 : decode cX9_count 35 = .ok (.iload_n 1, 1) := by decide +kernel
theorem dX9_count_36 : decode cX9_count 36 = .ok (.iconst 3, 1) := by decide +kernel
theorem dX9_count_37 : decode cX9_count 37 = .ok (.if_icmp .ne 10, 3) := by decide +kernel
theorem dX9_count_40 : decode cX9_count 40 = .ok (.aload_n 0, 1) := by decide +kernel
theorem dX9_count_41 : decode cX9_count 41 = .ok (.getfield 64, 3) := by decide +kernel
theorem dX9_count_44 : decode cX9_count 44 = .ok (.goto 4, 3) := by decide +kernel
theorem dX9_count_47 : decode cX9_count 47 = .ok (.iconst (-1), 1) := by decide +kernel
theorem dX9_count_48 : decode cX9_count 48 = .ok (.ireturn, 1) := by decide +kernel
theorem dX9_trace_0 : decode cX9_trace 0 = .ok (.aload_n 0, 1) := by decide +kernel
theorem dX9_trace_1 : decode cX9_trace 1 = .ok (.iconst 0, 1) := by decide +kernel
theorem dX9_trace_2 : decode cX9_trace 2 = .ok (.putfield 56, 3) := by decide +kernel
theorem dX9_trace_5 : decode cX9_trace 5 = .ok (.aload_n 0, 1) := by decide +kernel
theorem dX9_trace_6 : decode cX9_trace 6 = .ok (.getfield 220, 3) := by decide +kernel
theorem dX9_trace_9 : decode cX9_trace 9 = .ok (.lreturn, 1) := by decide +kernel
