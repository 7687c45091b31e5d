theorem dX4_firstPossible_17 : decode cX4_firstPossible 17 = .ok (.iload_n 2, 1) := by decide +kernel
theorem dX4_firstPossible_18 : decode cX4_firstPossible 18 = .ok (.ireturn, 1) := by decide +kernel
theorem dX4_firstPossible_19 : decode cX4_firstPossible 19 = .ok (.iinc 2 1, 3) := by decide +kernel
theorem dX4_firstPossible_22 : decode cX4_firstPossible 22 = .ok (.goto (-20), 3) := by decide +kernel
theorem dX4_firstPossible_25 : decode cX4_firstPossible 25 = .ok (.bipush (-9), 2) := by decide +kernel
theorem dX4_firstPossible_27 : decode cX4_firstPossible 27 = .ok (.ireturn, 1) := by decide +kernel
theorem dX4_bearsAll_0 : decode cX4_bearsAll 0 = .ok (.iconst 0, 1) := by decide +kernel
theorem dX4_bearsAll_1 : decode cX4_bearsAll 1 = .ok (.istore_n 3, 1) := by decide +kernel
theorem dX4_bearsAll_2 : decode cX4_bearsAll 2 = .ok (.iload_n 3, 1) := by decide +kernel
theorem dX4_bearsAll_3 : decode cX4_bearsAll 3 = .ok (.aload_n 0, 1) := by decide +kernel
theorem dX4_bearsAll_4 : decode cX4_bearsAll 4 = .ok (.getfield 9, 3) := by decide +kernel
theorem dX4_bearsAll_7 : decode cX4_bearsAll 7 = .ok (.getfield 27, 3) := by decide +kernel
theorem dX4_bearsAll_10 : decode cX4_bearsAll 10 = .ok (.if_icmp .ge 24, 3) := by decide +kernel
theorem dX4_bearsAll_13 : decode cX4_bearsAll 13 = .ok (.aload_n 0, 1) := by decide +kernel
theorem dX4_bearsAll_14 : decode cX4_bearsAll 14 = .ok (.getfield 15, 3) := by decide +kernel
theorem dX4_bearsAll_17 : decode cX4_bearsAll 17 = .ok (.iload_n 3, 1) := by decide +kernel
theorem dX4_bearsAll_18 : decode cX4_bearsAll 18 = .ok (.iload_n 1, 1) := by decide +kernel
theorem dX4_bearsAll_19 : decode cX4_bearsAll 19 = .ok (.invokevirtual 42, 3) := by decide +kernel
theorem dX4_bearsAll_22 : decode cX4_bearsAll 22 = .ok (.iload_n 2, 1) := by decide +kernel
theorem dX4_bearsAll_23 : decode cX4_bearsAll 23 = .ok (.if_icmp .ge 5, 3) := by decide +kernel
theorem dX4_bearsAll_26 : decode cX4_bearsAll 26 = .ok (.iconst 0, 1) := by decide +kernel
theorem dX4_bearsAll_27 : decode cX4_bearsAll 27 = .ok (.ireturn, 1) := by decide +kernel
theorem dX4_bearsAll_28 : decode cX4_bearsAll 28 = .ok (.iinc 3 1, 3) := by decide +kernel
theorem dX4_bearsAll_31 : decode cX4_bearsAll 31 = .ok (.goto (-29), 3) := by decide +kernel
theorem dX4_bearsAll_34 : decode cX4_bearsAll 34 = .ok (.iconst 1, 1) := by decide +kernel
theorem dX4_bearsAll_35 : decode cX4_bearsAll 35 = .ok (.ireturn, 1) := by decide +kernel
theorem dX4_fewestPeople_0 : decode cX4_fewestPeople 0 = .ok (.bipush (-9), 2) := by decide +kernel
theorem dX4_fewestPeople_2 : decode cX4_fewestPeople 2 = .ok (.istore_n 2, 1) := by decide +kernel
theorem dX4_fewestPeople_3 : decode cX4_fewestPeople 3 = .ok (.bipush 9, 2) := by decide +kernel
theorem dX4_fewestPeople_5 : decode cX4_fewestPeople 5 = .ok (.istore_n 3, 1) := by decide +kernel
theorem dX4_fewestPeople_6 : decode cX4_fewestPeople 6 = .ok (.iconst 1, 1) := by decide +kernel
theorem dX4_fewestPeople_7 : decode cX4_fewestPeople 7 = .ok (.istore 4, 2) := by decide +kernel
theorem dX4_fewestPeople_9 : decode cX4_fewestPeople 9 = .ok (.iload 4, 2) := by decide +kernel
theorem dX4_fewestPeople_11 : decode cX4_fewestPeople 11 = .ok (.aload_n 0, 1) := by decide +kernel
theorem dX4_fewestPeople_12 : decode cX4_fewestPeople 12 = .ok (.getfield 9, 3) := by decide +kernel
theorem dX4_fewestPeople_15 : decode cX4_fewestPeople 15 = .ok (.invokevirtual 57, 3) := by decide +kernel
theorem dX4_fewestPeople_18 : decode cX4_fewestPeople 18 = .ok (.if_icmp .gt 37, 3) := by decide +kernel
theorem dX4_fewestPeople_21 : decode cX4_fewestPeople 21 = .ok (.iload 4, 2) := by decide +kernel
theorem dX4_fewestPeople_23 : decode cX4_fewestPeople 23 = .ok (.invokestatic 81, 3) := by decide +kernel
theorem dX4_fewestPeople_26 : decode cX4_fewestPeople 26 = .ok (.iload_n 3, 1) := by decide +kernel
theorem dX4_fewestPeople_27 : decode cX4_fewestPeople 27 = .ok (.if_icmp .ge 22, 3) := by decide +kernel
theorem dX4_fewestPeople_30 : decode cX4_fewestPeople 30 = .ok (.aload_n 0, 1) := by decide +kernel
theorem dX4_fewestPeople_31 : decode cX4_fewestPeople 31 = .ok (.iload 4, 2) := by decide +kernel
theorem dX4_fewestPeople_33 : decode cX4_fewestPeople 33 = .ok (.iload_n 1, 1) := by decide +kernel
theorem dX4_fewestPeople_34 : decode cX4_fewestPeople 34 = .ok (.invokevirtual 86, 3) := by decide +kernel
theorem dX4_fewestPeople_37 : decode cX4_fewestPeople 37 = .ok (.ifCond .eq 12, 3) := by decide +kernel
theorem dX4_fewestPeople_40 : decode cX4_fewestPeople 40 = .ok (.iload 4, 2) := by decide +kernel
theorem dX4_fewestPeople_42 : decode cX4_fewestPeople 42 = .ok (.istore_n 2, 1) := by decide +kernel
theorem dX4_fewestPeople_43 : decode cX4_fewestPeople 43 = .ok (.iload 4, 2) := by decide +kernel
theorem dX4_fewestPeople_45 : decode cX4_fewestPeople 45 = .ok (.invokestatic 81, 3) := by decide +kernel
theorem dX4_fewestPeople_48 : decode cX4_fewestPeople 48 = .ok (.istore_n 3, 1) := by decide +kernel
theorem dX4_fewestPeople_49 : decode cX4_fewestPeople 49 = .ok (.iinc 4 1, 3) := by decide +kernel
theorem dX4_fewestPeople_52 : decode cX4_fewestPeople 52 = .ok (.goto (-43), 3) := by decide +kernel
theorem dX4_fewestPeople_55 : decode cX4_fewestPeople 55 = .ok (.iload_n 2, 1) := by decide +kernel
theorem dX4_fewestPeople_56 : decode cX4_fewestPeople 56 = .ok (.ireturn, 1) := by decide +kernel
theorem dX4_mostPairs_0 : decode cX4_mostPairs 0 = .ok (.iload_n 3, 1) := by decide +kernel
theorem dX4_mostPairs_1 : decode cX4_mostPairs 1 = .ok (.invokestatic 81, 3) := by decide +kernel
theorem dX4_mostPairs_4 : decode cX4_mostPairs 4 = .ok (.iconst 2, 1) := by decide +kernel
theorem dX4_mostPairs_5 : decode cX4_mostPairs 5 = .ok (.idiv, 1) := by decide +kernel
theorem dX4_mostPairs_6 : decode cX4_mostPairs 6 = .ok (.iload 4, 2) := by decide +kernel
theorem dX4_mostPairs_8 : decode cX4_mostPairs 8 = .ok (.iload 5, 2) := by decide +kernel
theorem dX4_mostPairs_10 : decode cX4_mostPairs 10 = .ok (.iadd, 1) := by decide +kernel
theorem dX4_mostPairs_11 : decode cX4_mostPairs 11 = .ok (.invokestatic 93, 3) := by decide +kernel
theorem dX4_mostPairs_14 : decode cX4_mostPairs 14 = .ok (.istore 6, 2) := by decide +kernel
theorem dX4_mostPairs_16 : decode cX4_mostPairs 16 = .ok (.iload_n 2, 1) := by decide +kernel
theorem dX4_mostPairs_17 : decode cX4_mostPairs 17 = .ok (.bipush 8, 2) := by decide +kernel
theorem dX4_mostPairs_19 : decode cX4_mostPairs 19 = .ok (.if_icmp .ge 8, 3) := by decide +kernel
theorem dX4_mostPairs_22 : decode cX4_mostPairs 22 = .ok (.iload 6, 2) := by decide +kernel
theorem dX4_mostPairs_24 : decode cX4_mostPairs 24 = .ok (.ifCond .gt 5, 3) := by decide +kernel
theorem dX4_mostPairs_27 : decode cX4_mostPairs 27 = .ok (.iconst 0, 1) := by decide +kernel
theorem dX4_mostPairs_28 : decode cX4_mostPairs 28 = .ok (.ireturn, 1) := by decide +kernel
theorem dX4_mostPairs_29 : decode cX4_mostPairs 29 = .ok (.iload_n 3, 1) := by decide +kernel
theorem dX4_mostPairs_30 : decode cX4_mostPairs 30 = .ok (.iload_n 2, 1) := by decide +kernel
theorem dX4_mostPairs_31 : decode cX4_mostPairs 31 = .ok (.invokestatic 68, 3) := by decide +kernel
theorem dX4_mostPairs_34 : decode cX4_mostPairs 34 = .ok (.ifCond .ne 17, 3) := by decide +kernel
theorem dX4_mostPairs_37 : decode cX4_mostPairs 37 = .ok (.aload_n 0, 1) := by decide +kernel
theorem dX4_mostPairs_38 : decode cX4_mostPairs 38 = .ok (.iload_n 1, 1) := by decide +kernel
theorem dX4_mostPairs_39 : decode cX4_mostPairs 39 = .ok (.iload_n 2, 1) := by decide +kernel
theorem dX4_mostPairs_40 : decode cX4_mostPairs 40 = .ok (.iconst 1, 1) := by decide +kernel
theorem dX4_mostPairs_41 : decode cX4_mostPairs 41 = .ok (.iadd, 1) := by decide +kernel
theorem dX4_mostPairs_42 : decode cX4_mostPairs 42 = .ok (.iload_n 3, 1) := by decide +kernel
theorem dX4_mostPairs_43 : decode cX4_mostPairs 43 = .ok (.iload 4, 2) := by decide +kernel
theorem dX4_mostPairs_45 : decode cX4_mostPairs 45 = .ok (.iload 5, 2) := by decide +kernel
theorem dX4_mostPairs_47 : decode cX4_mostPairs 47 = .ok (.invokestatic 89, 3) := by decide +kernel
theorem dX4_mostPairs_50 : decode cX4_mostPairs 50 = .ok (.ireturn, 1) := by decide +kernel
theorem dX4_mostPairs_51 : decode cX4_mostPairs 51 = .ok (.iload_n 3, 1) := by decide +kernel
theorem dX4_mostPairs_52 : decode cX4_mostPairs 52 = .ok (.iconst 1, 1) := by decide +kernel
theorem dX4_mostPairs_53 : decode cX4_mostPairs 53 = .ok (.iload_n 2, 1) := by decide +kernel
theorem dX4_mostPairs_54 : decode cX4_mostPairs 54 = .ok (.ishl, 1) := by decide +kernel
theorem dX4_mostPairs_55 : decode cX4_mostPairs 55 = .ok (.iconst (-1), 1) := by decide +kernel
theorem dX4_mostPairs_56 : decode cX4_mostPairs 56 = .ok (.ixor, 1) := by decide +kernel
theorem dX4_mostPairs_57 : decode cX4_mostPairs 57 = .ok (.iand, 1) := by decide +kernel
theorem dX4_mostPairs_58 : decode cX4_mostPairs 58 = .ok (.istore 7, 2) := by decide +kernel
theorem dX4_mostPairs_60 : decode cX4_mostPairs 60 = .ok (.iconst 0, 1) := by decide +kernel
theorem dX4_mostPairs_61 : decode cX4_mostPairs 61 = .ok (.istore 8, 2) := by decide +kernel
theorem dX4_mostPairs_63 : decode cX4_mostPairs 63 = .ok (.iload_n 2, 1) := by decide +kernel
theorem dX4_mostPairs_64 : decode cX4_mostPairs 64 = .ok (.iconst 1, 1) := by decide +kernel
theorem dX4_mostPairs_65 : decode cX4_mostPairs 65 = .ok (.iadd, 1) := by decide +kernel
theorem dX4_mostPairs_66 : decode cX4_mostPairs 66 = .ok (.istore 9, 2) := by decide +kernel
theorem dX4_mostPairs_68 : decode cX4_mostPairs 68 = .ok (.iload 9, 2) := by decide +kernel
theorem dX4_mostPairs_70 : decode cX4_mostPairs 70 = .ok (.bipush 8, 2) := by decide +kernel
theorem dX4_mostPairs_72 : decode cX4_mostPairs 72 = .ok (.if_icmp .ge 130, 3) := by decide +kernel
theorem dX4_mostPairs_75 : decode cX4_mostPairs 75 = .ok (.iload 8, 2) := by decide +kernel
theorem dX4_mostPairs_77 : decode cX4_mostPairs 77 = .ok (.iload 6, 2) := by decide +kernel
theorem dX4_mostPairs_79 : decode cX4_mostPairs 79 = .ok (.if_icmp .ge 123, 3) := by decide +kernel
theorem dX4_mostPairs_82 : decode cX4_mostPairs 82 = .ok (.iload 7, 2) := by decide +kernel
theorem dX4_mostPairs_84 : decode cX4_mostPairs 84 = .ok (.iload 9, 2) := by decide +kernel
theorem dX4_mostPairs_86 : decode cX4_mostPairs 86 = .ok (.invokestatic 68, 3) := by decide +kernel
theorem dX4_mostPairs_89 : decode cX4_mostPairs 89 = .ok (.ifCond .ne 6, 3) := by decide +kernel
theorem dX4_mostPairs_92 : decode cX4_mostPairs 92 = .ok (.goto 104, 3) := by decide +kernel
theorem dX4_mostPairs_95 : decode cX4_mostPairs 95 = .ok (.iconst 1, 1) := by decide +kernel
theorem dX4_mostPairs_96 : decode cX4_mostPairs 96 = .ok (.iload_n 2, 1) := by decide +kernel
theorem dX4_mostPairs_97 : decode cX4_mostPairs 97 = .ok (.ishl, 1) := by decide +kernel
theorem dX4_mostPairs_98 : decode cX4_mostPairs 98 = .ok (.iconst 1, 1) := by decide +kernel
theorem dX4_mostPairs_99 : decode cX4_mostPairs 99 = .ok (.iload 9, 2) := by decide +kernel
theorem dX4_mostPairs_101 : decode cX4_mostPairs 101 = .ok (.ishl, 1) := by decide +kernel
theorem dX4_mostPairs_102 : decode cX4_mostPairs 102 = .ok (.ior, 1) := by decide +kernel
theorem dX4_mostPairs_103 : decode cX4_mostPairs 103 = .ok (.istore 10, 2) := by decide +kernel
theorem dX4_mostPairs_105 : decode cX4_mostPairs 105 = .ok (.iload 7, 2) := by decide +kernel
theorem dX4_mostPairs_107 : decode cX4_mostPairs 107 = .ok (.iload 10, 2) := by decide +kernel
theorem dX4_mostPairs_109 : decode cX4_mostPairs 109 = .ok (.iconst (-1), 1) := by decide +kernel
theorem dX4_mostPairs_110 : decode cX4_mostPairs 110 = .ok (.ixor, 1) := by decide +kernel
theorem dX4_mostPairs_111 : decode cX4_mostPairs 111 = .ok (.iand, 1) := by decide +kernel
theorem dX4_mostPairs_112 : decode cX4_mostPairs 112 = .ok (.istore 11, 2) := by decide +kernel
theorem dX4_mostPairs_114 : decode cX4_mostPairs 114 = .ok (.iload 4, 2) := by decide +kernel
theorem dX4_mostPairs_116 : decode cX4_mostPairs 116 = .ok (.ifCond .le 39, 3) := by decide +kernel
theorem dX4_mostPairs_119 : decode cX4_mostPairs 119 = .ok (.aload_n 0, 1) := by decide +kernel
theorem dX4_mostPairs_120 : decode cX4_mostPairs 120 = .ok (.iconst 0, 1) := by decide +kernel
theorem dX4_mostPairs_121 : decode cX4_mostPairs 121 = .ok (.iload 10, 2) := by decide +kernel
theorem dX4_mostPairs_123 : decode cX4_mostPairs 123 = .ok (.invokevirtual 42, 3) := by decide +kernel
theorem dX4_mostPairs_126 : decode cX4_mostPairs 126 = .ok (.iload_n 1, 1) := by decide +kernel
theorem dX4_mostPairs_127 : decode cX4_mostPairs 127 = .ok (.if_icmp .lt 28, 3) := by decide +kernel
theorem dX4_mostPairs_130 : decode cX4_mostPairs 130 = .ok (.iload 8, 2) := by decide +kernel
theorem dX4_mostPairs_132 : decode cX4_mostPairs 132 = .ok (.iconst 1, 1) := by decide +kernel
theorem dX4_mostPairs_133 : decode cX4_mostPairs 133 = .ok (.aload_n 0, 1) := by decide +kernel
theorem dX4_mostPairs_134 : decode cX4_mostPairs 134 = .ok (.iload_n 1, 1) := by decide +kernel
theorem dX4_mostPairs_135 : decode cX4_mostPairs 135 = .ok (.iload_n 2, 1) := by decide +kernel
theorem dX4_mostPairs_136 : decode cX4_mostPairs 136 = .ok (.iconst 1, 1) := by decide +kernel
theorem dX4_mostPairs_137 : decode cX4_mostPairs 137 = .ok (.iadd, 1) := by decide +kernel
theorem dX4_mostPairs_138 : decode cX4_mostPairs 138 = .ok (.iload 11, 2) := by decide +kernel
theorem dX4_mostPairs_140 : decode cX4_mostPairs 140 = .ok (.iload 4, 2) := by decide +kernel
theorem dX4_mostPairs_142 : decode cX4_mostPairs 142 = .ok (.iconst 1, 1) := by decide +kernel
theorem dX4_mostPairs_143 : decode cX4_mostPairs 143 = .ok (.isub, 1) := by decide +kernel
theorem dX4_mostPairs_144 : decode cX4_mostPairs 144 = .ok (.iload 5, 2) := by decide +kernel
theorem dX4_mostPairs_146 : decode cX4_mostPairs 146 = .ok (.invokestatic 89, 3) := by decide +kernel
theorem dX4_mostPairs_149 : decode cX4_mostPairs 149 = .ok (.iadd, 1) := by decide +kernel
theorem dX4_mostPairs_150 : decode cX4_mostPairs 150 = .ok (.invokestatic 98, 3) := by decide +kernel
theorem dX4_mostPairs_153 : decode cX4_mostPairs 153 = .ok (.istore 8, 2) := by decide +kernel
theorem dX4_mostPairs_155 : decode cX4_mostPairs 155 = .ok (.iload 5, 2) := by decide +kernel
theorem dX4_mostPairs_157 : decode cX4_mostPairs 157 = .ok (.ifCond .le 39, 3) := by decide +kernel
theorem dX4_mostPairs_160 : decode cX4_mostPairs 160 = .ok (.aload_n 0, 1) := by decide +kernel
theorem dX4_mostPairs_161 : decode cX4_mostPairs 161 = .ok (.iconst 1, 1) := by decide +kernel
theorem dX4_mostPairs_162 : decode cX4_mostPairs 162 = .ok (.iload 10, 2) := by decide +kernel
theorem dX4_mostPairs_164 : decode cX4_mostPairs 164 = .ok (.invokevirtual 42, 3) := by decide +kernel
theorem dX4_mostPairs_167 : decode cX4_mostPairs 167 = .ok (.iload_n 1, 1) := by decide +kernel
theorem dX4_mostPairs_168 : decode cX4_mostPairs 168 = .ok (.if_icmp .lt 28, 3) := by decide +kernel
theorem dX4_mostPairs_171 : decode cX4_mostPairs 171 = .ok (.iload 8, 2) := by decide +kernel
theorem dX4_mostPairs_173 : decode cX4_mostPairs 173 = .ok (.iconst 1, 1) := by decide +kernel
theorem dX4_mostPairs_174 : decode cX4_mostPairs 174 = .ok (.aload_n 0, 1) := by decide +kernel
theorem dX4_mostPairs_175 : decode cX4_mostPairs 175 = .ok (.iload_n 1, 1) := by decide +kernel
theorem dX4_mostPairs_176 : decode cX4_mostPairs 176 = .ok (.iload_n 2, 1) := by decide +kernel
theorem dX4_mostPairs_177 : decode cX4_mostPairs 177 = .ok (.iconst 1, 1) := by decide +kernel
theorem dX4_mostPairs_178 : decode cX4_mostPairs 178 = .ok (.iadd, 1) := by decide +kernel
theorem dX4_mostPairs_179 : decode cX4_mostPairs 179 = .ok (.iload 11, 2) := by decide +kernel
theorem dX4_mostPairs_181 : decode cX4_mostPairs 181 = .ok (.iload 4, 2) := by decide +kernel
theorem dX4_mostPairs_183 : decode cX4_mostPairs 183 = .ok (.iload 5, 2) := by decide +kernel
theorem dX4_mostPairs_185 : decode cX4_mostPairs 185 = .ok (.iconst 1, 1) := by decide +kernel
theorem dX4_mostPairs_186 : decode cX4_mostPairs 186 = .ok (.isub, 1) := by decide +kernel
theorem dX4_mostPairs_187 : decode cX4_mostPairs 187 = .ok (.invokestatic 89, 3) := by decide +kernel
theorem dX4_mostPairs_190 : decode cX4_mostPairs 190 = .ok (.iadd, 1) := by decide +kernel
theorem dX4_mostPairs_191 : decode cX4_mostPairs 191 = .ok (.invokestatic 98, 3) := by decide +kernel
theorem dX4_mostPairs_194 : decode cX4_mostPairs 194 = .ok (.istore 8, 2) := by decide +kernel
theorem dX4_mostPairs_196 : decode cX4_mostPairs 196 = .ok (.iinc 9 1, 3) := by decide +kernel
theorem dX4_mostPairs_199 : decode cX4_mostPairs 199 = .ok (.goto (-131), 3) := by decide +kernel
theorem dX4_mostPairs_202 : decode cX4_mostPairs 202 = .ok (.iload 8, 2) := by decide +kernel
theorem dX4_mostPairs_204 : decode cX4_mostPairs 204 = .ok (.iload 6, 2) := by decide +kernel
theorem dX4_mostPairs_206 : decode cX4_mostPairs 206 = .ok (.if_icmp .ge 24, 3) := by decide +kernel
theorem dX4_mostPairs_209 : decode cX4_mostPairs 209 = .ok (.iload 8, 2) := by decide +kernel
theorem dX4_mostPairs_211 : decode cX4_mostPairs 211 = .ok (.aload_n 0, 1) := by decide +kernel
theorem dX4_mostPairs_212 : decode cX4_mostPairs 212 = .ok (.iload_n 1, 1) := by decide +kernel
theorem dX4_mostPairs_213 : decode cX4_mostPairs 213 = .ok (.iload_n 2, 1) := by decide +kernel
theorem dX4_mostPairs_214 : decode cX4_mostPairs 214 = .ok (.iconst 1, 1) := by decide +kernel
theorem dX4_mostPairs_215 : decode cX4_mostPairs 215 = .ok (.iadd, 1) := by decide +kernel
theorem dX4_mostPairs_216 : decode cX4_mostPairs 216 = .ok (.iload 7, 2) := by decide +kernel
theorem dX4_mostPairs_218 : decode cX4_mostPairs 218 = .ok (.iload 4, 2) := by decide +kernel
theorem dX4_mostPairs_220 : decode cX4_mostPairs 220 = .ok (.iload 5, 2) := by decide +kernel
theorem dX4_mostPairs_222 : decode cX4_mostPairs 222 = .ok (.invokestatic 89, 3) := by decide +kernel
theorem dX4_mostPairs_225 : decode cX4_mostPairs 225 = .ok (.invokestatic 98, 3) := by decide +kernel
theorem dX4_mostPairs_228 : decode cX4_mostPairs 228 = .ok (.istore 8, 2) := by decide +kernel
theorem dX4_mostPairs_230 : decode cX4_mostPairs 230 = .ok (.iload 8, 2) := by decide +kernel
theorem dX4_mostPairs_232 : decode cX4_mostPairs 232 = .ok (.ireturn, 1) := by decide +kernel
theorem dX4_mostHeld_0 : decode cX4_mostHeld 0 = .ok (.aload_n 0, 1) := by decide +kernel
theorem dX4_mostHeld_1 : decode cX4_mostHeld 1 = .ok (.getfield 9, 3) := by decide +kernel
theorem dX4_mostHeld_4 : decode cX4_mostHeld 4 = .ok (.getfield 27, 3) := by decide +kernel
theorem dX4_mostHeld_7 : decode cX4_mostHeld 7 = .ok (.iconst 2, 1) := by decide +kernel
theorem dX4_mostHeld_8 : decode cX4_mostHeld 8 = .ok (.idiv, 1) := by decide +kernel
theorem dX4_mostHeld_9 : decode cX4_mostHeld 9 = .ok (.istore_n 2, 1) := by decide +kernel
theorem dX4_mostHeld_10 : decode cX4_mostHeld 10 = .ok (.aload_n 0, 1) := by decide +kernel
theorem dX4_mostHeld_11 : decode cX4_mostHeld 11 = .ok (.getfield 15, 3) := by decide +kernel
theorem dX4_mostHeld_14 : decode cX4_mostHeld 14 = .ok (.iload_n 1, 1) := by decide +kernel
theorem dX4_mostHeld_15 : decode cX4_mostHeld 15 = .ok (.iconst 0, 1) := by decide +kernel
theorem dX4_mostHeld_16 : decode cX4_mostHeld 16 = .ok (.aload_n 0, 1) := by decide +kernel
theorem dX4_mostHeld_17 : decode cX4_mostHeld 17 = .ok (.getfield 9, 3) := by decide +kernel
theorem dX4_mostHeld_20 : decode cX4_mostHeld 20 = .ok (.invokevirtual 57, 3) := by decide +kernel
theorem dX4_mostHeld_23 : decode cX4_mostHeld 23 = .ok (.aload_n 0, 1) := by decide +kernel
theorem dX4_mostHeld_24 : decode cX4_mostHeld 24 = .ok (.getfield 9, 3) := by decide +kernel
theorem dX4_mostHeld_27 : decode cX4_mostHeld 27 = .ok (.getfield 27, 3) := by decide +kernel
theorem dX4_mostHeld_30 : decode cX4_mostHeld 30 = .ok (.iload_n 2, 1) := by decide +kernel
theorem dX4_mostHeld_31 : decode cX4_mostHeld 31 = .ok (.isub, 1) := by decide +kernel
theorem dX4_mostHeld_32 : decode cX4_mostHeld 32 = .ok (.iload_n 2, 1) := by decide +kernel
theorem dX4_mostHeld_33 : decode cX4_mostHeld 33 = .ok (.invokestatic 89, 3) := by decide +kernel
theorem dX4_mostHeld_36 : decode cX4_mostHeld 36 = .ok (.ireturn, 1) := by decide +kernel
theorem dX1_breakAll_0 : decode cX1_breakAll 0 = .ok (.iconst 0, 1) := by decide +kernel
theorem dX1_breakAll_1 : decode cX1_breakAll 1 = .ok (.istore_n 2, 1) := by decide +kernel
theorem dX1_breakAll_2 : decode cX1_breakAll 2 = .ok (.iload_n 2, 1) := by decide +kernel
theorem dX1_breakAll_3 : decode cX1_breakAll 3 = .ok (.aload_n 0, 1) := by decide +kernel
theorem dX1_breakAll_4 : decode cX1_breakAll 4 = .ok (.getfield 18, 3) := by decide +kernel
theorem dX1_breakAll_7 : decode cX1_breakAll 7 = .ok (.getfield 59, 3) := by decide +kernel
theorem dX1_breakAll_10 : decode cX1_breakAll 10 = .ok (.if_icmp .ge 18, 3) := by decide +kernel
theorem dX1_breakAll_13 : decode cX1_breakAll 13 = .ok (.aload_n 0, 1) := by decide +kernel
theorem dX1_breakAll_14 : decode cX1_breakAll 14 = .ok (.getfield 12, 3) := by decide +kernel
theorem dX1_breakAll_17 : decode cX1_breakAll 17 = .ok (.iload_n 1, 1) := by decide +kernel
theorem dX1_breakAll_18 : decode cX1_breakAll 18 = .ok (.iload_n 2, 1) := by decide +kernel
theorem dX1_breakAll_19 : decode cX1_breakAll 19 = .ok (.invokevirtual 62, 3) := by decide +kernel
theorem dX1_breakAll_22 : decode cX1_breakAll 22 = .ok (.iinc 2 1, 3) := by decide +kernel
theorem dX1_breakAll_25 : decode cX1_breakAll 25 = .ok (.goto (-23), 3) := by decide +kernel
theorem dX1_breakAll_28 : decode cX1_breakAll 28 = .ok (.return_, 1) := by decide +kernel
theorem dX1_brokenLast_0 : decode cX1_brokenLast 0 = .ok (.iload_n 1, 1) := by decide +kernel
theorem dX1_brokenLast_1 : decode cX1_brokenLast 1 = .ok (.ifCond .gt 16, 3) := by decide +kernel
theorem dX1_brokenLast_4 : decode cX1_brokenLast 4 = .ok (.aload_n 0, 1) := by decide +kernel
theorem dX1_brokenLast_5 : decode cX1_brokenLast 5 = .ok (.getfield 22, 3) := by decide +kernel
theorem dX1_brokenLast_8 : decode cX1_brokenLast 8 = .ok (.aload_n 0, 1) := by decide +kernel
theorem dX1_brokenLast_9 : decode cX1_brokenLast 9 = .ok (.getfield 12, 3) := by decide +kernel
theorem dX1_brokenLast_12 : decode cX1_brokenLast 12 = .ok (.iconst 0, 1) := by decide +kernel
theorem dX1_brokenLast_13 : decode cX1_brokenLast 13 = .ok (.invokevirtual 35, 3) := by decide +kernel
theorem dX1_brokenLast_16 : decode cX1_brokenLast 16 = .ok (.ireturn, 1) := by decide +kernel
theorem dX1_brokenLast_17 : decode cX1_brokenLast 17 = .ok (.bipush 36, 2) := by decide +kernel
theorem dX1_brokenLast_19 : decode cX1_brokenLast 19 = .ok (.istore_n 3, 1) := by decide +kernel
theorem dX1_brokenLast_20 : decode cX1_brokenLast 20 = .ok (.iconst 0, 1) := by decide +kernel
theorem dX1_brokenLast_21 : decode cX1_brokenLast 21 = .ok (.istore 4, 2) := by decide +kernel
theorem dX1_brokenLast_23 : decode cX1_brokenLast 23 = .ok (.iload 4, 2) := by decide +kernel
theorem dX1_brokenLast_25 : decode cX1_brokenLast 25 = .ok (.aload_n 0, 1) := by decide +kernel
theorem dX1_brokenLast_26 : decode cX1_brokenLast 26 = .ok (.getfield 18, 3) := by decide +kernel
theorem dX1_brokenLast_29 : decode cX1_brokenLast 29 = .ok (.getfield 29, 3) := by decide +kernel
theorem dX1_brokenLast_32 : decode cX1_brokenLast 32 = .ok (.if_icmp .ge 34, 3) := by decide +kernel
theorem dX1_brokenLast_35 : decode cX1_brokenLast 35 = .ok (.iload_n 3, 1) := by decide +kernel
theorem dX1_brokenLast_36 : decode cX1_brokenLast 36 = .ok (.iload_n 2, 1) := by decide +kernel
theorem dX1_brokenLast_37 : decode cX1_brokenLast 37 = .ok (.if_icmp .le 29, 3) := by decide +kernel
theorem dX1_brokenLast_40 : decode cX1_brokenLast 40 = .ok (.iload_n 3, 1) := by decide +kernel
theorem dX1_brokenLast_41 : decode cX1_brokenLast 41 = .ok (.aload_n 0, 1) := by decide +kernel
theorem dX1_brokenLast_42 : decode cX1_brokenLast 42 = .ok (.getfield 22, 3) := by decide +kernel
theorem dX1_brokenLast_45 : decode cX1_brokenLast 45 = .ok (.aload_n 0, 1) := by decide +kernel
theorem dX1_brokenLast_46 : decode cX1_brokenLast 46 = .ok (.getfield 12, 3) := by decide +kernel
theorem dX1_brokenLast_49 : decode cX1_brokenLast 49 = .ok (.iconst 1, 1) := by decide +kernel
theorem dX1_brokenLast_50 : decode cX1_brokenLast 50 = .ok (.iload 4, 2) := by decide +kernel
theorem dX1_brokenLast_52 : decode cX1_brokenLast 52 = .ok (.ishl, 1) := by decide +kernel
theorem dX1_brokenLast_53 : decode cX1_brokenLast 53 = .ok (.invokevirtual 35, 3) := by decide +kernel
theorem dX1_brokenLast_56 : decode cX1_brokenLast 56 = .ok (.invokestatic 53, 3) := by decide +kernel
theorem dX1_brokenLast_59 : decode cX1_brokenLast 59 = .ok (.istore_n 3, 1) := by decide +kernel
theorem dX1_brokenLast_60 : decode cX1_brokenLast 60 = .ok (.iinc 4 1, 3) := by decide +kernel
theorem dX1_brokenLast_63 : decode cX1_brokenLast 63 = .ok (.goto (-40), 3) := by decide +kernel
theorem dX1_brokenLast_66 : decode cX1_brokenLast 66 = .ok (.iload_n 3, 1) := by decide +kernel
theorem dX1_brokenLast_67 : decode cX1_brokenLast 67 = .ok (.ireturn, 1) := by decide +kernel
theorem dX1_mended_0 : decode cX1_mended 0 = .ok (.iload_n 1, 1) := by decide +kernel
theorem dX1_mended_1 : decode cX1_mended 1 = .ok (.ifCond .gt 16, 3) := by decide +kernel
theorem dX1_mended_4 : decode cX1_mended 4 = .ok (.aload_n 0, 1) := by decide +kernel
theorem dX1_mended_5 : decode cX1_mended 5 = .ok (.getfield 22, 3) := by decide +kernel
theorem dX1_mended_8 : decode cX1_mended 8 = .ok (.aload_n 0, 1) := by decide +kernel
theorem dX1_mended_9 : decode cX1_mended 9 = .ok (.getfield 12, 3) := by decide +kernel
theorem dX1_mended_12 : decode cX1_mended 12 = .ok (.iconst 0, 1) := by decide +kernel
theorem dX1_mended_13 : decode cX1_mended 13 = .ok (.invokevirtual 35, 3) := by decide +kernel
theorem dX1_mended_16 : decode cX1_mended 16 = .ok (.ireturn, 1) := by decide +kernel
theorem dX1_mended_17 : decode cX1_mended 17 = .ok (.aload_n 0, 1) := by decide +kernel
theorem dX1_mended_18 : decode cX1_mended 18 = .ok (.iload_n 1, 1) := by decide +kernel
theorem dX1_mended_19 : decode cX1_mended 19 = .ok (.iconst 1, 1) := by decide +kernel
theorem dX1_mended_20 : decode cX1_mended 20 = .ok (.isub, 1) := by decide +kernel
theorem dX1_mended_21 : decode cX1_mended 21 = .ok (.iconst 0, 1) := by decide +kernel
theorem dX1_mended_22 : decode cX1_mended 22 = .ok (.invokevirtual 66, 3) := by decide +kernel
theorem dX1_mended_25 : decode cX1_mended 25 = .ok (.istore_n 2, 1) := by decide +kernel
theorem dX1_mended_26 : decode cX1_mended 26 = .ok (.iconst 0, 1) := by decide +kernel
theorem dX1_mended_27 : decode cX1_mended 27 = .ok (.istore_n 3, 1) := by decide +kernel
theorem dX1_mended_28 : decode cX1_mended 28 = .ok (.iload_n 3, 1) := by decide +kernel
theorem dX1_mended_29 : decode cX1_mended 29 = .ok (.aload_n 0, 1) := by decide +kernel
theorem dX1_mended_30 : decode cX1_mended 30 = .ok (.getfield 18, 3) := by decide +kernel
theorem dX1_mended_33 : decode cX1_mended 33 = .ok (.getfield 59, 3) := by decide +kernel
theorem dX1_mended_36 : decode cX1_mended 36 = .ok (.if_icmp .ge 91, 3) := by decide +kernel
theorem dX1_mended_39 : decode cX1_mended 39 = .ok (.aload_n 0, 1) := by decide +kernel
theorem dX1_mended_40 : decode cX1_mended 40 = .ok (.getfield 12, 3) := by decide +kernel
theorem dX1_mended_43 : decode cX1_mended 43 = .ok (.getfield 69, 3) := by decide +kernel
theorem dX1_mended_46 : decode cX1_mended 46 = .ok (.iload_n 3, 1) := by decide +kernel
theorem dX1_mended_47 : decode cX1_mended 47 = .ok (.iaload, 1) := by decide +kernel
theorem dX1_mended_48 : decode cX1_mended 48 = .ok (.istore 4, 2) := by decide +kernel
theorem dX1_mended_50 : decode cX1_mended 50 = .ok (.iconst 0, 1) := by decide +kernel
theorem dX1_mended_51 : decode cX1_mended 51 = .ok (.istore 5, 2) := by decide +kernel
theorem dX1_mended_53 : decode cX1_mended 53 = .ok (.iload 5, 2) := by decide +kernel
theorem dX1_mended_55 : decode cX1_mended 55 = .ok (.aload_n 0, 1) := by decide +kernel
theorem dX1_mended_56 : decode cX1_mended 56 = .ok (.getfield 18, 3) := by decide +kernel
theorem dX1_mended_59 : decode cX1_mended 59 = .ok (.getfield 29, 3) := by decide +kernel
theorem dX1_mended_62 : decode cX1_mended 62 = .ok (.if_icmp .ge 48, 3) := by decide +kernel
theorem dX1_mended_65 : decode cX1_mended 65 = .ok (.iload 4, 2) := by decide +kernel
theorem dX1_mended_67 : decode cX1_mended 67 = .ok (.iload 5, 2) := by decide +kernel
theorem dX1_mended_69 : decode cX1_mended 69 = .ok (.invokestatic 73, 3) := by decide +kernel
theorem dX1_mended_72 : decode cX1_mended 72 = .ok (.ifCond .ne 32, 3) := by decide +kernel
theorem dX1_mended_75 : decode cX1_mended 75 = .ok (.aload_n 0, 1) := by decide +kernel
theorem dX1_mended_76 : decode cX1_mended 76 = .ok (.getfield 12, 3) := by decide +kernel
theorem dX1_mended_79 : decode cX1_mended 79 = .ok (.getfield 69, 3) := by decide +kernel
theorem dX1_mended_82 : decode cX1_mended 82 = .ok (.iload_n 3, 1) := by decide +kernel
theorem dX1_mended_83 : decode cX1_mended 83 = .ok (.iload 4, 2) := by decide +kernel
theorem dX1_mended_85 : decode cX1_mended 85 = .ok (.iconst 1, 1) := by decide +kernel
theorem dX1_mended_86 : decode cX1_mended 86 = .ok (.iload 5, 2) := by decide +kernel
theorem dX1_mended_88 : decode cX1_mended 88 = .ok (.ishl, 1) := by decide +kernel
theorem dX1_mended_89 : decode cX1_mended 89 = .ok (.ior, 1) := by decide +kernel
theorem dX1_mended_90 : decode cX1_mended 90 = .ok (.iastore, 1) := by decide +kernel
theorem dX1_mended_91 : decode cX1_mended 91 = .ok (.iload_n 2, 1) := by decide +kernel
theorem dX1_mended_92 : decode cX1_mended 92 = .ok (.aload_n 0, 1) := by decide +kernel
theorem dX1_mended_93 : decode cX1_mended 93 = .ok (.iload_n 1, 1) := by decide +kernel
theorem dX1_mended_94 : decode cX1_mended 94 = .ok (.iconst 1, 1) := by decide +kernel
theorem dX1_mended_95 : decode cX1_mended 95 = .ok (.isub, 1) := by decide +kernel
theorem dX1_mended_96 : decode cX1_mended 96 = .ok (.iload_n 2, 1) := by decide +kernel
theorem dX1_mended_97 : decode cX1_mended 97 = .ok (.invokevirtual 66, 3) := by decide +kernel
theorem dX1_mended_100 : decode cX1_mended 100 = .ok (.invokestatic 77, 3) := by decide +kernel
theorem dX1_mended_103 : decode cX1_mended 103 = .ok (.istore_n 2, 1) := by decide +kernel
theorem dX1_mended_104 : decode cX1_mended 104 = .ok (.iinc 5 1, 3) := by decide +kernel
theorem dX1_mended_107 : decode cX1_mended 107 = .ok (.goto (-54), 3) := by decide +kernel
theorem dX1_mended_110 : decode cX1_mended 110 = .ok (.aload_n 0, 1) := by decide +kernel
theorem dX1_mended_111 : decode cX1_mended 111 = .ok (.getfield 12, 3) := by decide +kernel
theorem dX1_mended_114 : decode cX1_mended 114 = .ok (.getfield 69, 3) := by decide +kernel
theorem dX1_mended_117 : decode cX1_mended 117 = .ok (.iload_n 3, 1) := by decide +kernel
theorem dX1_mended_118 : decode cX1_mended 118 = .ok (.iload 4, 2) := by decide +kernel
theorem dX1_mended_120 : decode cX1_mended 120 = .ok (.iastore, 1) := by decide +kernel
theorem dX1_mended_121 : decode cX1_mended 121 = .ok (.iinc 3 1, 3) := by decide +kernel
theorem dX1_mended_124 : decode cX1_mended 124 = .ok (.goto (-96), 3) := by decide +kernel
theorem dX1_mended_127 : decode cX1_mended 127 = .ok (.iload_n 2, 1) := by decide +kernel
theorem dX1_mended_128 : decode cX1_mended 128 = .ok (.ireturn, 1) := by decide +kernel
theorem dX1_afterTurns_0 : decode cX1_afterTurns 0 = .ok (.iload_n 1, 1) := by decide +kernel
theorem dX1_afterTurns_1 : decode cX1_afterTurns 1 = .ok (.ifCond .le 13, 3) := by decide +kernel
theorem dX1_afterTurns_4 : decode cX1_afterTurns 4 = .ok (.aload_n 0, 1) := by decide +kernel
theorem dX1_afterTurns_5 : decode cX1_afterTurns 5 = .ok (.getfield 18, 3) := by decide +kernel
theorem dX1_afterTurns_8 : decode cX1_afterTurns 8 = .ok (.getfield 29, 3) := by decide +kernel
theorem dX1_afterTurns_11 : decode cX1_afterTurns 11 = .ok (.ifCond .ne 16, 3) := by decide +kernel
theorem dX1_afterTurns_14 : decode cX1_afterTurns 14 = .ok (.aload_n 0, 1) := by decide +kernel
theorem dX1_afterTurns_15 : decode cX1_afterTurns 15 = .ok (.getfield 22, 3) := by decide +kernel
theorem dX1_afterTurns_18 : decode cX1_afterTurns 18 = .ok (.aload_n 0, 1) := by decide +kernel
theorem dX1_afterTurns_19 : decode cX1_afterTurns 19 = .ok (.getfield 26, 3) := by decide +kernel
theorem dX1_afterTurns_22 : decode cX1_afterTurns 22 = .ok (.iconst 0, 1) := by decide +kernel
theorem dX1_afterTurns_23 : decode cX1_afterTurns 23 = .ok (.invokevirtual 35, 3) := by decide +kernel
theorem dX1_afterTurns_26 : decode cX1_afterTurns 26 = .ok (.ireturn, 1) := by decide +kernel
theorem dX1_afterTurns_27 : decode cX1_afterTurns 27 = .ok (.bipush 36, 2) := by decide +kernel
theorem dX1_afterTurns_29 : decode cX1_afterTurns 29 = .ok (.istore_n 2, 1) := by decide +kernel
theorem dX1_afterTurns_30 : decode cX1_afterTurns 30 = .ok (.iconst 0, 1) := by decide +kernel
theorem dX1_afterTurns_31 : decode cX1_afterTurns 31 = .ok (.istore_n 3, 1) := by decide +kernel
theorem dX1_afterTurns_32 : decode cX1_afterTurns 32 = .ok (.iload_n 3, 1) := by decide +kernel
theorem dX1_afterTurns_33 : decode cX1_afterTurns 33 = .ok (.aload_n 0, 1) := by decide +kernel
theorem dX1_afterTurns_34 : decode cX1_afterTurns 34 = .ok (.getfield 18, 3) := by decide +kernel
theorem dX1_afterTurns_37 : decode cX1_afterTurns 37 = .ok (.getfield 29, 3) := by decide +kernel
theorem dX1_afterTurns_40 : decode cX1_afterTurns 40 = .ok (.if_icmp .ge 41, 3) := by decide +kernel
theorem dX1_afterTurns_43 : decode cX1_afterTurns 43 = .ok (.iload_n 2, 1) := by decide +kernel
theorem dX1_afterTurns_44 : decode cX1_afterTurns 44 = .ok (.ifCond .le 37, 3) := by decide +kernel
theorem dX1_afterTurns_47 : decode cX1_afterTurns 47 = .ok (.aload_n 0, 1) := by decide +kernel
theorem dX1_afterTurns_48 : decode cX1_afterTurns 48 = .ok (.getfield 12, 3) := by decide +kernel
theorem dX1_afterTurns_51 : decode cX1_afterTurns 51 = .ok (.aload_n 0, 1) := by decide +kernel
theorem dX1_afterTurns_52 : decode cX1_afterTurns 52 = .ok (.getfield 26, 3) := by decide +kernel
theorem dX1_afterTurns_55 : decode cX1_afterTurns 55 = .ok (.invokevirtual 41, 3) := by decide +kernel
theorem dX1_afterTurns_58 : decode cX1_afterTurns 58 = .ok (.aload_n 0, 1) := by decide +kernel
theorem dX1_afterTurns_59 : decode cX1_afterTurns 59 = .ok (.iload_n 3, 1) := by decide +kernel
theorem dX1_afterTurns_60 : decode cX1_afterTurns 60 = .ok (.invokevirtual 45, 3) := by decide +kernel
theorem dX1_afterTurns_63 : decode cX1_afterTurns 63 = .ok (.iload_n 2, 1) := by decide +kernel
theorem dX1_afterTurns_64 : decode cX1_afterTurns 64 = .ok (.aload_n 0, 1) := by decide +kernel
theorem dX1_afterTurns_65 : decode cX1_afterTurns 65 = .ok (.iload_n 1, 1) := by decide +kernel
theorem dX1_afterTurns_66 : decode cX1_afterTurns 66 = .ok (.iconst 1, 1) := by decide +kernel
theorem dX1_afterTurns_67 : decode cX1_afterTurns 67 = .ok (.isub, 1) := by decide +kernel
theorem dX1_afterTurns_68 : decode cX1_afterTurns 68 = .ok (.invokevirtual 49, 3) := by decide +kernel
theorem dX1_afterTurns_71 : decode cX1_afterTurns 71 = .ok (.invokestatic 53, 3) := by decide +kernel
theorem dX1_afterTurns_74 : decode cX1_afterTurns 74 = .ok (.istore_n 2, 1) := by decide +kernel
theorem dX1_afterTurns_75 : decode cX1_afterTurns 75 = .ok (.iinc 3 1, 3) := by decide +kernel
theorem dX1_afterTurns_78 : decode cX1_afterTurns 78 = .ok (.goto (-46), 3) := by decide +kernel
theorem dX1_afterTurns_81 : decode cX1_afterTurns 81 = .ok (.iload_n 2, 1) := by decide +kernel
theorem dX1_afterTurns_82 : decode cX1_afterTurns 82 = .ok (.ireturn, 1) := by decide +kernel
theorem dX1_chancesFor_0 : decode cX1_chancesFor 0 = .ok (.iconst 0, 1) := by decide +kernel
theorem dX1_chancesFor_1 : decode cX1_chancesFor 1 = .ok (.istore_n 3, 1) := by decide +kernel
theorem dX1_chancesFor_2 : decode cX1_chancesFor 2 = .ok (.iconst 0, 1) := by decide +kernel
theorem dX1_chancesFor_3 : decode cX1_chancesFor 3 = .ok (.istore 4, 2) := by decide +kernel
theorem dX1_chancesFor_5 : decode cX1_chancesFor 5 = .ok (.iload 4, 2) := by decide +kernel
theorem dX1_chancesFor_7 : decode cX1_chancesFor 7 = .ok (.aload_n 0, 1) := by decide +kernel
theorem dX1_chancesFor_8 : decode cX1_chancesFor 8 = .ok (.getfield 18, 3) := by decide +kernel
theorem dX1_chancesFor_11 : decode cX1_chancesFor 11 = .ok (.invokevirtual 80, 3) := by decide +kernel
theorem dX1_chancesFor_14 : decode cX1_chancesFor 14 = .ok (.if_icmp .gt 60, 3) := by decide +kernel
theorem dX1_chancesFor_17 : decode cX1_chancesFor 17 = .ok (.aload_n 0, 1) := by decide +kernel
theorem dX1_chancesFor_18 : decode cX1_chancesFor 18 = .ok (.getfield 22, 3) := by decide +kernel
theorem dX1_chancesFor_21 : decode cX1_chancesFor 21 = .ok (.aload_n 0, 1) := by decide +kernel
theorem dX1_chancesFor_22 : decode cX1_chancesFor 22 = .ok (.getfield 26, 3) := by decide +kernel
theorem dX1_chancesFor_25 : decode cX1_chancesFor 25 = .ok (.iload 4, 2) := by decide +kernel
theorem dX1_chancesFor_27 : decode cX1_chancesFor 27 = .ok (.invokevirtual 35, 3) := by decide +kernel
theorem dX1_chancesFor_30 : decode cX1_chancesFor 30 = .ok (.iload_n 2, 1) := by decide +kernel
theorem dX1_chancesFor_31 : decode cX1_chancesFor 31 = .ok (.if_icmp .lt 37, 3) := by decide +kernel
theorem dX1_chancesFor_34 : decode cX1_chancesFor 34 = .ok (.iload 4, 2) := by decide +kernel
theorem dX1_chancesFor_36 : decode cX1_chancesFor 36 = .ok (.invokestatic 84, 3) := by decide +kernel
theorem dX1_chancesFor_39 : decode cX1_chancesFor 39 = .ok (.istore 5, 2) := by decide +kernel
theorem dX1_chancesFor_41 : decode cX1_chancesFor 41 = .ok (.iload_n 3, 1) := by decide +kernel
theorem dX1_chancesFor_42 : decode cX1_chancesFor 42 = .ok (.iload_n 1, 1) := by decide +kernel
theorem dX1_chancesFor_43 : decode cX1_chancesFor 43 = .ok (.iload 5, 2) := by decide +kernel
theorem dX1_chancesFor_45 : decode cX1_chancesFor 45 = .ok (.invokestatic 89, 3) := by decide +kernel
theorem dX1_chancesFor_48 : decode cX1_chancesFor 48 = .ok (.bipush 10, 2) := by decide +kernel
theorem dX1_chancesFor_50 : decode cX1_chancesFor 50 = .ok (.iload_n 1, 1) := by decide +kernel
theorem dX1_chancesFor_51 : decode cX1_chancesFor 51 = .ok (.isub, 1) := by decide +kernel
theorem dX1_chancesFor_52 : decode cX1_chancesFor 52 = .ok (.aload_n 0, 1) := by decide +kernel
theorem dX1_chancesFor_53 : decode cX1_chancesFor 53 = .ok (.getfield 18, 3) := by decide +kernel
theorem dX1_chancesFor_56 : decode cX1_chancesFor 56 = .ok (.getfield 29, 3) := by decide +kernel
theorem dX1_chancesFor_59 : decode cX1_chancesFor 59 = .ok (.iload 5, 2) := by decide +kernel
theorem dX1_chancesFor_61 : decode cX1_chancesFor 61 = .ok (.isub, 1) := by decide +kernel
theorem dX1_chancesFor_62 : decode cX1_chancesFor 62 = .ok (.invokestatic 89, 3) := by decide +kernel
theorem dX1_chancesFor_65 : decode cX1_chancesFor 65 = .ok (.imul, 1) := by decide +kernel
theorem dX1_chancesFor_66 : decode cX1_chancesFor 66 = .ok (.iadd, 1) := by decide +kernel
theorem dX1_chancesFor_67 : decode cX1_chancesFor 67 = .ok (.istore_n 3, 1) := by decide +kernel
theorem dX1_chancesFor_68 : decode cX1_chancesFor 68 = .ok (.iinc 4 1, 3) := by decide +kernel
theorem dX1_chancesFor_71 : decode cX1_chancesFor 71 = .ok (.goto (-66), 3) := by decide +kernel
theorem dX1_chancesFor_74 : decode cX1_chancesFor 74 = .ok (.iload_n 3, 1) := by decide +kernel
theorem dX1_chancesFor_75 : decode cX1_chancesFor 75 = .ok (.ireturn, 1) := by decide +kernel
theorem dX1_turnOne_0 : decode cX1_turnOne 0 = .ok (.aload_n 0, 1) := by decide +kernel
theorem dX1_turnOne_1 : decode cX1_turnOne 1 = .ok (.getfield 18, 3) := by decide +kernel
theorem dX1_turnOne_4 : decode cX1_turnOne 4 = .ok (.getfield 29, 3) := by decide +kernel
theorem dX1_turnOne_7 : decode cX1_turnOne 7 = .ok (.ifCond .le 13, 3) := by decide +kernel
theorem dX1_turnOne_10 : decode cX1_turnOne 10 = .ok (.aload_n 0, 1) := by decide +kernel
theorem dX1_turnOne_11 : decode cX1_turnOne 11 = .ok (.getfield 18, 3) := by decide +kernel
theorem dX1_turnOne_14 : decode cX1_turnOne 14 = .ok (.getfield 59, 3) := by decide +kernel
theorem dX1_turnOne_17 : decode cX1_turnOne 17 = .ok (.ifCond .gt 4, 3) := by decide +kernel
theorem dX1_turnOne_20 : decode cX1_turnOne 20 = .ok (.return_, 1) := by decide +kernel
theorem dX1_turnOne_21 : decode cX1_turnOne 21 = .ok (.lload_n 1, 1) := by decide +kernel
theorem dX1_turnOne_22 : decode cX1_turnOne 22 = .ok (.aload_n 0, 1) := by decide +kernel
theorem dX1_turnOne_23 : decode cX1_turnOne 23 = .ok (.getfield 18, 3) := by decide +kernel
theorem dX1_turnOne_26 : decode cX1_turnOne 26 = .ok (.getfield 29, 3) := by decide +kernel
theorem dX1_turnOne_29 : decode cX1_turnOne 29 = .ok (.i2l, 1) := by decide +kernel
theorem dX1_turnOne_30 : decode cX1_turnOne 30 = .ok (.lrem, 1) := by decide +kernel
theorem dX1_turnOne_31 : decode cX1_turnOne 31 = .ok (.l2i, 1) := by decide +kernel
theorem dX1_turnOne_32 : decode cX1_turnOne 32 = .ok (.istore_n 3, 1) := by decide +kernel
theorem dX1_turnOne_33 : decode cX1_turnOne 33 = .ok (.lload_n 1, 1) := by decide +kernel
theorem dX1_turnOne_34 : decode cX1_turnOne 34 = .ok (.ldc2_w 103, 3) := by decide +kernel
theorem dX1_turnOne_37 : decode cX1_turnOne 37 = .ok (.ldiv, 1) := by decide +kernel
theorem dX1_turnOne_38 : decode cX1_turnOne 38 = .ok (.aload_n 0, 1) := by decide +kernel
theorem dX1_turnOne_39 : decode cX1_turnOne 39 = .ok (.getfield 18, 3) := by decide +kernel
theorem dX1_turnOne_42 : decode cX1_turnOne 42 = .ok (.getfield 59, 3) := by decide +kernel
theorem dX1_turnOne_45 : decode cX1_turnOne 45 = .ok (.i2l, 1) := by decide +kernel
theorem dX1_turnOne_46 : decode cX1_turnOne 46 = .ok (.lrem, 1) := by decide +kernel
theorem dX1_turnOne_47 : decode cX1_turnOne 47 = .ok (.l2i, 1) := by decide +kernel
theorem dX1_turnOne_48 : decode cX1_turnOne 48 = .ok (.istore 4, 2) := by decide +kernel
theorem dX1_turnOne_50 : decode cX1_turnOne 50 = .ok (.aload_n 0, 1) := by decide +kernel
theorem dX1_turnOne_51 : decode cX1_turnOne 51 = .ok (.getfield 12, 3) := by decide +kernel
theorem dX1_turnOne_54 : decode cX1_turnOne 54 = .ok (.iload_n 3, 1) := by decide +kernel
theorem dX1_turnOne_55 : decode cX1_turnOne 55 = .ok (.iload 4, 2) := by decide +kernel
theorem dX1_turnOne_57 : decode cX1_turnOne 57 = .ok (.invokevirtual 105, 3) := by decide +kernel
theorem dX1_turnOne_60 : decode cX1_turnOne 60 = .ok (.ifCond .eq 16, 3) := by decide +kernel
theorem dX1_turnOne_63 : decode cX1_turnOne 63 = .ok (.aload_n 0, 1) := by decide +kernel
theorem dX1_turnOne_64 : decode cX1_turnOne 64 = .ok (.getfield 12, 3) := by decide +kernel
theorem dX1_turnOne_67 : decode cX1_turnOne 67 = .ok (.iload_n 3, 1) := by decide +kernel
theorem dX1_turnOne_68 : decode cX1_turnOne 68 = .ok (.iload 4, 2) := by decide +kernel
theorem dX1_turnOne_70 : decode cX1_turnOne 70 = .ok (.invokevirtual 62, 3) := by decide +kernel
theorem dX1_turnOne_73 : decode cX1_turnOne 73 = .ok (.goto 18, 3) := by decide +kernel
theorem dX1_turnOne_76 : decode cX1_turnOne 76 = .ok (.aload_n 0, 1) := by decide +kernel
theorem dX1_turnOne_77 : decode cX1_turnOne 77 = .ok (.getfield 12, 3) := by decide +kernel
theorem dX1_turnOne_80 : decode cX1_turnOne 80 = .ok (.aload_n 0, 1) := by decide +kernel
theorem dX1_turnOne_81 : decode cX1_turnOne 81 = .ok (.getfield 18, 3) := by decide +kernel
theorem dX1_turnOne_84 : decode cX1_turnOne 84 = .ok (.iload_n 3, 1) := by decide +kernel
theorem dX1_turnOne_85 : decode cX1_turnOne 85 = .ok (.iload 4, 2) := by decide +kernel
theorem dX1_turnOne_87 : decode cX1_turnOne 87 = .ok (.invokevirtual 108, 3) := by decide +kernel
theorem dX1_turnOne_90 : decode cX1_turnOne 90 = .ok (.pop, 1) := by decide +kernel
theorem dX1_turnOne_91 : decode cX1_turnOne 91 = .ok (.return_, 1) := by decide +kernel
theorem dX1_daysBorne_0 : decode cX1_daysBorne 0 = .ok (.aload_n 0, 1) := by decide +kernel
theorem dX1_daysBorne_1 : decode cX1_daysBorne 1 = .ok (.getfield 12, 3) := by decide +kernel
theorem dX1_daysBorne_4 : decode cX1_daysBorne 4 = .ok (.aload_n 0, 1) := by decide +kernel
theorem dX1_daysBorne_5 : decode cX1_daysBorne 5 = .ok (.getfield 26, 3) := by decide +kernel
theorem dX1_daysBorne_8 : decode cX1_daysBorne 8 = .ok (.invokevirtual 41, 3) := by decide +kernel
theorem dX1_daysBorne_11 : decode cX1_daysBorne 11 = .ok (.iload_n 2, 1) := by decide +kernel
theorem dX1_daysBorne_12 : decode cX1_daysBorne 12 = .ok (.i2l, 1) := by decide +kernel
theorem dX1_daysBorne_13 : decode cX1_daysBorne 13 = .ok (.lstore 4, 2) := by decide +kernel
theorem dX1_daysBorne_15 : decode cX1_daysBorne 15 = .ok (.iconst 0, 1) := by decide +kernel
theorem dX1_daysBorne_16 : decode cX1_daysBorne 16 = .ok (.istore 6, 2) := by decide +kernel
theorem dX1_daysBorne_18 : decode cX1_daysBorne 18 = .ok (.iconst 0, 1) := by decide +kernel
theorem dX1_daysBorne_19 : decode cX1_daysBorne 19 = .ok (.istore 7, 2) := by decide +kernel
theorem dX1_daysBorne_21 : decode cX1_daysBorne 21 = .ok (.iload 7, 2) := by decide +kernel
theorem dX1_daysBorne_23 : decode cX1_daysBorne 23 = .ok (.iload_n 1, 1) := by decide +kernel
theorem dX1_daysBorne_24 : decode cX1_daysBorne 24 = .ok (.if_icmp .ge 54, 3) := by decide +kernel
theorem dX1_daysBorne_27 : decode cX1_daysBorne 27 = .ok (.lload 4, 2) := by decide +kernel
theorem dX1_daysBorne_29 : decode cX1_daysBorne 29 = .ok (.ldc2_w 92, 3) := by decide +kernel
theorem dX1_daysBorne_32 : decode cX1_daysBorne 32 = .ok (.lmul, 1) := by decide +kernel
theorem dX1_daysBorne_33 : decode cX1_daysBorne 33 = .ok (.ldc2_w 94, 3) := by decide +kernel
theorem dX1_daysBorne_36 : decode cX1_daysBorne 36 = .ok (.lrem, 1) := by decide +kernel
theorem dX1_daysBorne_37 : decode cX1_daysBorne 37 = .ok (.lstore 4, 2) := by decide +kernel
theorem dX1_daysBorne_39 : decode cX1_daysBorne 39 = .ok (.aload_n 0, 1) := by decide +kernel
theorem dX1_daysBorne_40 : decode cX1_daysBorne 40 = .ok (.lload 4, 2) := by decide +kernel
theorem dX1_daysBorne_42 : decode cX1_daysBorne 42 = .ok (.invokevirtual 96, 3) := by decide +kernel
theorem dX1_daysBorne_45 : decode cX1_daysBorne 45 = .ok (.aload_n 0, 1) := by decide +kernel
theorem dX1_daysBorne_46 : decode cX1_daysBorne 46 = .ok (.getfield 12, 3) := by decide +kernel
theorem dX1_daysBorne_49 : decode cX1_daysBorne 49 = .ok (.invokevirtual 100, 3) := by decide +kernel
theorem dX1_daysBorne_52 : decode cX1_daysBorne 52 = .ok (.pop, 1) := by decide +kernel
theorem dX1_daysBorne_53 : decode cX1_daysBorne 53 = .ok (.aload_n 0, 1) := by decide +kernel
theorem dX1_daysBorne_54 : decode cX1_daysBorne 54 = .ok (.getfield 22, 3) := by decide +kernel
theorem dX1_daysBorne_57 : decode cX1_daysBorne 57 = .ok (.aload_n 0, 1) := by decide +kernel
theorem dX1_daysBorne_58 : decode cX1_daysBorne 58 = .ok (.getfield 12, 3) := by decide +kernel
theorem dX1_daysBorne_61 : decode cX1_daysBorne 61 = .ok (.iconst 0, 1) := by decide +kernel
theorem dX1_daysBorne_62 : decode cX1_daysBorne 62 = .ok (.invokevirtual 35, 3) := by decide +kernel
theorem dX1_daysBorne_65 : decode cX1_daysBorne 65 = .ok (.iload_n 3, 1) := by decide +kernel
theorem dX1_daysBorne_66 : decode cX1_daysBorne 66 = .ok (.if_icmp .lt 6, 3) := by decide +kernel
theorem dX1_daysBorne_69 : decode cX1_daysBorne 69 = .ok (.iinc 6 1, 3) := by decide +kernel
theorem dX1_daysBorne_72 : decode cX1_daysBorne 72 = .ok (.iinc 7 1, 3) := by decide +kernel
theorem dX1_daysBorne_75 : decode cX1_daysBorne 75 = .ok (.goto (-54), 3) := by decide +kernel
theorem dX1_daysBorne_78 : decode cX1_daysBorne 78 = .ok (.iload 6, 2) := by decide +kernel
theorem dX1_daysBorne_80 : decode cX1_daysBorne 80 = .ok (.ireturn, 1) := by decide +kernel
theorem dX2_see_0 : decode cX2_see 0 = .ok (.aload_n 0, 1) := by decide +kernel
theorem dX2_see_1 : decode cX2_see 1 = .ok (.getfield 19, 3) := by decide +kernel
theorem dX2_see_4 : decode cX2_see 4 = .ok (.bipush 6, 2) := by decide +kernel
theorem dX2_see_6 : decode cX2_see 6 = .ok (.if_icmp .lt 5, 3) := by decide +kernel
theorem dX2_see_9 : decode cX2_see 9 = .ok (.iconst 0, 1) := by decide +kernel
theorem dX2_see_10 : decode cX2_see 10 = .ok (.ireturn, 1) := by decide +kernel
theorem dX2_see_11 : decode cX2_see 11 = .ok (.aload_n 0, 1) := by decide +kernel
theorem dX2_see_12 : decode cX2_see 12 = .ok (.getfield 9, 3) := by decide +kernel
theorem dX2_see_15 : decode cX2_see 15 = .ok (.aload_n 0, 1) := by decide +kernel
theorem dX2_see_16 : decode cX2_see 16 = .ok (.getfield 19, 3) := by decide +kernel
theorem dX2_see_19 : decode cX2_see 19 = .ok (.iload_n 1, 1) := by decide +kernel
theorem dX2_see_20 : decode cX2_see 20 = .ok (.iastore, 1) := by decide +kernel
theorem dX2_see_21 : decode cX2_see 21 = .ok (.aload_n 0, 1) := by decide +kernel
theorem dX2_see_22 : decode cX2_see 22 = .ok (.getfield 15, 3) := by decide +kernel
theorem dX2_see_25 : decode cX2_see 25 = .ok (.aload_n 0, 1) := by decide +kernel
theorem dX2_see_26 : decode cX2_see 26 = .ok (.getfield 19, 3) := by decide +kernel
theorem dX2_see_29 : decode cX2_see 29 = .ok (.iload_n 2, 1) := by decide +kernel
theorem dX2_see_30 : decode cX2_see 30 = .ok (.bastore, 1) := by decide +kernel
theorem dX2_see_31 : decode cX2_see 31 = .ok (.aload_n 0, 1) := by decide +kernel
theorem dX2_see_32 : decode cX2_see 32 = .ok (.dup, 1) := by decide +kernel
theorem dX2_see_33 : decode cX2_see 33 = .ok (.getfield 19, 3) := by decide +kernel
theorem dX2_see_36 : decode cX2_see 36 = .ok (.iconst 1, 1) := by decide +kernel
theorem dX2_see_37 : decode cX2_see 37 = .ok (.iadd, 1) := by decide +kernel
theorem dX2_see_38 : decode cX2_see 38 = .ok (.putfield 19, 3) := by decide +kernel
theorem dX2_see_41 : decode cX2_see 41 = .ok (.iconst 1, 1) := by decide +kernel
theorem dX2_see_42 : decode cX2_see 42 = .ok (.ireturn, 1) := by decide +kernel
theorem dX2_bridgeWith_0 : decode cX2_bridgeWith 0 = .ok (.bipush 36, 2) := by decide +kernel
theorem dX2_bridgeWith_2 : decode cX2_bridgeWith 2 = .ok (.istore_n 3, 1) := by decide +kernel
theorem dX2_bridgeWith_3 : decode cX2_bridgeWith 3 = .ok (.iconst 0, 1) := by decide +kernel
theorem dX2_bridgeWith_4 : decode cX2_bridgeWith 4 = .ok (.istore 4, 2) := by decide +kernel
theorem dX2_bridgeWith_6 : decode cX2_bridgeWith 6 = .ok (.iload 4, 2) := by decide +kernel
theorem dX2_bridgeWith_8 : decode cX2_bridgeWith 8 = .ok (.aload_n 0, 1) := by decide +kernel
theorem dX2_bridgeWith_9 : decode cX2_bridgeWith 9 = .ok (.getfield 32, 3) := by decide +kernel
theorem dX2_bridgeWith_12 : decode cX2_bridgeWith 12 = .ok (.getfield 56, 3) := by decide +kernel
theorem dX2_bridgeWith_15 : decode cX2_bridgeWith 15 = .ok (.if_icmp .ge 35, 3) := by decide +kernel
theorem dX2_bridgeWith_18 : decode cX2_bridgeWith 18 = .ok (.iload_n 3, 1) := by decide +kernel
theorem dX2_bridgeWith_19 : decode cX2_bridgeWith 19 = .ok (.aload_n 0, 1) := by decide +kernel
theorem dX2_bridgeWith_20 : decode cX2_bridgeWith 20 = .ok (.getfield 36, 3) := by decide +kernel
theorem dX2_bridgeWith_23 : decode cX2_bridgeWith 23 = .ok (.iload 4, 2) := by decide +kernel
theorem dX2_bridgeWith_25 : decode cX2_bridgeWith 25 = .ok (.aload_n 0, 1) := by decide +kernel
theorem dX2_bridgeWith_26 : decode cX2_bridgeWith 26 = .ok (.getfield 40, 3) := by decide +kernel
theorem dX2_bridgeWith_29 : decode cX2_bridgeWith 29 = .ok (.getfield 61, 3) := by decide +kernel
theorem dX2_bridgeWith_32 : decode cX2_bridgeWith 32 = .ok (.iload 4, 2) := by decide +kernel
theorem dX2_bridgeWith_34 : decode cX2_bridgeWith 34 = .ok (.iaload, 1) := by decide +kernel
theorem dX2_bridgeWith_35 : decode cX2_bridgeWith 35 = .ok (.iload_n 1, 1) := by decide +kernel
theorem dX2_bridgeWith_36 : decode cX2_bridgeWith 36 = .ok (.iload_n 2, 1) := by decide +kernel
theorem dX2_bridgeWith_37 : decode cX2_bridgeWith 37 = .ok (.invokevirtual 66, 3) := by decide +kernel
theorem dX2_bridgeWith_40 : decode cX2_bridgeWith 40 = .ok (.invokestatic 72, 3) := by decide +kernel
theorem dX2_bridgeWith_43 : decode cX2_bridgeWith 43 = .ok (.istore_n 3, 1) := by decide +kernel
theorem dX2_bridgeWith_44 : decode cX2_bridgeWith 44 = .ok (.iinc 4 1, 3) := by decide +kernel
theorem dX2_bridgeWith_47 : decode cX2_bridgeWith 47 = .ok (.goto (-41), 3) := by decide +kernel
theorem dX2_bridgeWith_50 : decode cX2_bridgeWith 50 = .ok (.iload_n 3, 1) := by decide +kernel
theorem dX2_bridgeWith_51 : decode cX2_bridgeWith 51 = .ok (.ireturn, 1) := by decide +kernel
theorem dX2_agrees_0 : decode cX2_agrees 0 = .ok (.iconst 0, 1) := by decide +kernel
theorem dX2_agrees_1 : decode cX2_agrees 1 = .ok (.istore_n 2, 1) := by decide +kernel
theorem dX2_agrees_2 : decode cX2_agrees 2 = .ok (.iload_n 2, 1) := by decide +kernel
theorem dX2_agrees_3 : decode cX2_agrees 3 = .ok (.aload_n 0, 1) := by decide +kernel
theorem dX2_agrees_4 : decode cX2_agrees 4 = .ok (.getfield 19, 3) := by decide +kernel
theorem dX2_agrees_7 : decode cX2_agrees 7 = .ok (.if_icmp .ge 35, 3) := by decide +kernel
theorem dX2_agrees_10 : decode cX2_agrees 10 = .ok (.iload_n 1, 1) := by decide +kernel
theorem dX2_agrees_11 : decode cX2_agrees 11 = .ok (.aload_n 0, 1) := by decide +kernel
theorem dX2_agrees_12 : decode cX2_agrees 12 = .ok (.getfield 9, 3) := by decide +kernel
theorem dX2_agrees_15 : decode cX2_agrees 15 = .ok (.iload_n 2, 1) := by decide +kernel
theorem dX2_agrees_16 : decode cX2_agrees 16 = .ok (.iaload, 1) := by decide +kernel
theorem dX2_agrees_17 : decode cX2_agrees 17 = .ok (.if_icmp .lt 7, 3) := by decide +kernel
theorem dX2_agrees_20 : decode cX2_agrees 20 = .ok (.iconst 1, 1) := by decide +kernel
theorem dX2_agrees_21 : decode cX2_agrees 21 = .ok (.goto 4, 3) := by decide +kernel
theorem dX2_agrees_24 : decode cX2_agrees 24 = .ok (.iconst 0, 1) := by decide +kernel
theorem dX2_agrees_25 : decode cX2_agrees 25 = .ok (.aload_n 0, 1) := by decide +kernel
theorem dX2_agrees_26 : decode cX2_agrees 26 = .ok (.getfield 15, 3) := by decide +kernel
theorem dX2_agrees_29 : decode cX2_agrees 29 = .ok (.iload_n 2, 1) := by decide +kernel
theorem dX2_agrees_30 : decode cX2_agrees 30 = .ok (.baload, 1) := by decide +kernel
theorem dX2_agrees_31 : decode cX2_agrees 31 = .ok (.if_icmp .eq 5, 3) := by decide +kernel
theorem dX2_agrees_34 : decode cX2_agrees 34 = .ok (.iconst 0, 1) := by decide +kernel
theorem dX2_agrees_35 : decode cX2_agrees 35 = .ok (.ireturn, 1) := by decide +kernel
theorem dX2_agrees_36 : decode cX2_agrees 36 = .ok (.iinc 2 1, 3) := by decide +kernel
theorem dX2_agrees_39 : decode cX2_agrees 39 = .ok (.goto (-37), 3) := by decide +kernel
theorem dX2_agrees_42 : decode cX2_agrees 42 = .ok (.iconst 1, 1) := by decide +kernel
theorem dX2_agrees_43 : decode cX2_agrees 43 = .ok (.ireturn, 1) := by decide +kernel
theorem dX2_gather_0 : decode cX2_gather 0 = .ok (.iconst 0, 1) := by decide +kernel
theorem dX2_gather_1 : decode cX2_gather 1 = .ok (.istore_n 2, 1) := by decide +kernel
theorem dX2_gather_2 : decode cX2_gather 2 = .ok (.aload_n 0, 1) := by decide +kernel
theorem dX2_gather_3 : decode cX2_gather 3 = .ok (.bipush (-9), 2) := by decide +kernel
theorem dX2_gather_5 : decode cX2_gather 5 = .ok (.putfield 26, 3) := by decide +kernel
theorem dX2_gather_8 : decode cX2_gather 8 = .ok (.aload_n 0, 1) := by decide +kernel
theorem dX2_gather_9 : decode cX2_gather 9 = .ok (.bipush (-9), 2) := by decide +kernel
theorem dX2_gather_11 : decode cX2_gather 11 = .ok (.putfield 29, 3) := by decide +kernel
theorem dX2_gather_14 : decode cX2_gather 14 = .ok (.iconst 1, 1) := by decide +kernel
theorem dX2_gather_15 : decode cX2_gather 15 = .ok (.istore_n 3, 1) := by decide +kernel
theorem dX2_gather_16 : decode cX2_gather 16 = .ok (.iload_n 3, 1) := by decide +kernel
theorem dX2_gather_17 : decode cX2_gather 17 = .ok (.bipush 9, 2) := by decide +kernel
theorem dX2_gather_19 : decode cX2_gather 19 = .ok (.if_icmp .gt 63, 3) := by decide +kernel
theorem dX2_gather_22 : decode cX2_gather 22 = .ok (.aload_n 0, 1) := by decide +kernel
theorem dX2_gather_23 : decode cX2_gather 23 = .ok (.iload_n 1, 1) := by decide +kernel
theorem dX2_gather_24 : decode cX2_gather 24 = .ok (.iload_n 3, 1) := by decide +kernel
theorem dX2_gather_25 : decode cX2_gather 25 = .ok (.invokevirtual 44, 3) := by decide +kernel
theorem dX2_gather_28 : decode cX2_gather 28 = .ok (.istore 4, 2) := by decide +kernel
theorem dX2_gather_30 : decode cX2_gather 30 = .ok (.aload_n 0, 1) := by decide +kernel
theorem dX2_gather_31 : decode cX2_gather 31 = .ok (.iload 4, 2) := by decide +kernel
theorem dX2_gather_33 : decode cX2_gather 33 = .ok (.invokevirtual 48, 3) := by decide +kernel
theorem dX2_gather_36 : decode cX2_gather 36 = .ok (.ifCond .eq 40, 3) := by decide +kernel
theorem dX2_gather_39 : decode cX2_gather 39 = .ok (.aload_n 0, 1) := by decide +kernel
theorem dX2_gather_40 : decode cX2_gather 40 = .ok (.getfield 23, 3) := by decide +kernel
theorem dX2_gather_43 : decode cX2_gather 43 = .ok (.iload_n 2, 1) := by decide +kernel
theorem dX2_gather_44 : decode cX2_gather 44 = .ok (.iload 4, 2) := by decide +kernel
theorem dX2_gather_46 : decode cX2_gather 46 = .ok (.iastore, 1) := by decide +kernel
theorem dX2_gather_47 : decode cX2_gather 47 = .ok (.iinc 2 1, 3) := by decide +kernel
theorem dX2_gather_50 : decode cX2_gather 50 = .ok (.aload_n 0, 1) := by decide +kernel
theorem dX2_gather_51 : decode cX2_gather 51 = .ok (.aload_n 0, 1) := by decide +kernel
theorem dX2_gather_52 : decode cX2_gather 52 = .ok (.getfield 26, 3) := by decide +kernel
theorem dX2_gather_55 : decode cX2_gather 55 = .ok (.bipush (-9), 2) := by decide +kernel
theorem dX2_gather_57 : decode cX2_gather 57 = .ok (.if_icmp .ne 7, 3) := by decide +kernel
theorem dX2_gather_60 : decode cX2_gather 60 = .ok (.iload_n 3, 1) := by decide +kernel
theorem dX2_gather_61 : decode cX2_gather 61 = .ok (.goto 7, 3) := by decide +kernel
theorem dX2_gather_64 : decode cX2_gather 64 = .ok (.aload_n 0, 1) := by decide +kernel
theorem dX2_gather_65 : decode cX2_gather 65 = .ok (.getfield 26, 3) := by decide +kernel
theorem dX2_gather_68 : decode cX2_gather 68 = .ok (.putfield 26, 3) := by decide +kernel
theorem dX2_gather_71 : decode cX2_gather 71 = .ok (.aload_n 0, 1) := by decide +kernel
theorem dX2_gather_72 : decode cX2_gather 72 = .ok (.iload_n 3, 1) := by decide +kernel
theorem dX2_gather_73 : decode cX2_gather 73 = .ok (.putfield 29, 3) := by decide +kernel
theorem dX2_gather_76 : decode cX2_gather 76 = .ok (.iinc 3 1, 3) := by decide +kernel
theorem dX2_gather_79 : decode cX2_gather 79 = .ok (.goto (-63), 3) := by decide +kernel
theorem dX2_gather_82 : decode cX2_gather 82 = .ok (.iload_n 2, 1) := by decide +kernel
theorem dX2_gather_83 : decode cX2_gather 83 = .ok (.ireturn, 1) := by decide +kernel
theorem dX2_leastWord_0 : decode cX2_leastWord 0 = .ok (.aload_n 0, 1) := by decide +kernel
theorem dX2_leastWord_1 : decode cX2_leastWord 1 = .ok (.iload_n 1, 1) := by decide +kernel
theorem dX2_leastWord_2 : decode cX2_leastWord 2 = .ok (.invokevirtual 52, 3) := by decide +kernel
theorem dX2_leastWord_5 : decode cX2_leastWord 5 = .ok (.pop, 1) := by decide +kernel
theorem dX2_leastWord_6 : decode cX2_leastWord 6 = .ok (.aload_n 0, 1) := by decide +kernel
theorem dX2_leastWord_7 : decode cX2_leastWord 7 = .ok (.getfield 26, 3) := by decide +kernel
theorem dX2_leastWord_10 : decode cX2_leastWord 10 = .ok (.ireturn, 1) := by decide +kernel
theorem dX2_greatestWord_0 : decode cX2_greatestWord 0 = .ok (.aload_n 0, 1) := by decide +kernel
theorem dX2_greatestWord_1 : decode cX2_greatestWord 1 = .ok (.iload_n 1, 1) := by decide +kernel
theorem dX2_greatestWord_2 : decode cX2_greatestWord 2 = .ok (.invokevirtual 52, 3) := by decide +kernel
theorem dX2_greatestWord_5 : decode cX2_greatestWord 5 = .ok (.pop, 1) := by decide +kernel
theorem dX2_greatestWord_6 : decode cX2_greatestWord 6 = .ok (.aload_n 0, 1) := by decide +kernel
theorem dX2_greatestWord_7 : decode cX2_greatestWord 7 = .ok (.getfield 29, 3) := by decide +kernel
theorem dX2_greatestWord_10 : decode cX2_greatestWord 10 = .ok (.ireturn, 1) := by decide +kernel
theorem dX2_howManyBear_0 : decode cX2_howManyBear 0 = .ok (.iconst 0, 1) := by decide +kernel
theorem dX2_howManyBear_1 : decode cX2_howManyBear 1 = .ok (.istore_n 3, 1) := by decide +kernel
theorem dX2_howManyBear_2 : decode cX2_howManyBear 2 = .ok (.iconst 0, 1) := by decide +kernel
theorem dX2_howManyBear_3 : decode cX2_howManyBear 3 = .ok (.istore 4, 2) := by decide +kernel
theorem dX2_howManyBear_5 : decode cX2_howManyBear 5 = .ok (.iload 4, 2) := by decide +kernel
theorem dX2_howManyBear_7 : decode cX2_howManyBear 7 = .ok (.iload_n 2, 1) := by decide +kernel
theorem dX2_howManyBear_8 : decode cX2_howManyBear 8 = .ok (.if_icmp .ge 23, 3) := by decide +kernel
theorem dX2_howManyBear_11 : decode cX2_howManyBear 11 = .ok (.aload_n 0, 1) := by decide +kernel
theorem dX2_howManyBear_12 : decode cX2_howManyBear 12 = .ok (.getfield 23, 3) := by decide +kernel
theorem dX2_howManyBear_15 : decode cX2_howManyBear 15 = .ok (.iload 4, 2) := by decide +kernel
theorem dX2_howManyBear_17 : decode cX2_howManyBear 17 = .ok (.iaload, 1) := by decide +kernel
theorem dX2_howManyBear_18 : decode cX2_howManyBear 18 = .ok (.iload_n 1, 1) := by decide +kernel
theorem dX2_howManyBear_19 : decode cX2_howManyBear 19 = .ok (.if_icmp .lt 6, 3) := by decide +kernel
theorem dX2_howManyBear_22 : decode cX2_howManyBear 22 = .ok (.iinc 3 1, 3) := by decide +kernel
theorem dX2_howManyBear_25 : decode cX2_howManyBear 25 = .ok (.iinc 4 1, 3) := by decide +kernel
theorem dX2_howManyBear_28 : decode cX2_howManyBear 28 = .ok (.goto (-23), 3) := by decide +kernel
theorem dX2_howManyBear_31 : decode cX2_howManyBear 31 = .ok (.iload_n 3, 1) := by decide +kernel
theorem dX2_howManyBear_32 : decode cX2_howManyBear 32 = .ok (.ireturn, 1) := by decide +kernel
theorem dX2_bestTry_0 : decode cX2_bestTry 0 = .ok (.aload_n 0, 1) := by decide +kernel
theorem dX2_bestTry_1 : decode cX2_bestTry 1 = .ok (.iload_n 1, 1) := by decide +kernel
theorem dX2_bestTry_2 : decode cX2_bestTry 2 = .ok (.invokevirtual 52, 3) := by decide +kernel
theorem dX2_bestTry_5 : decode cX2_bestTry 5 = .ok (.istore_n 2, 1) := by decide +kernel
theorem dX2_bestTry_6 : decode cX2_bestTry 6 = .ok (.iload_n 2, 1) := by decide +kernel
theorem dX2_bestTry_7 : decode cX2_bestTry 7 = .ok (.iconst 1, 1) := by decide +kernel
theorem dX2_bestTry_8 : decode cX2_bestTry 8 = .ok (.if_icmp .gt 6, 3) := by decide +kernel
theorem dX2_bestTry_11 : decode cX2_bestTry 11 = .ok (.bipush (-9), 2) := by decide +kernel
theorem dX2_bestTry_13 : decode cX2_bestTry 13 = .ok (.ireturn, 1) := by decide +kernel
theorem dX2_bestTry_14 : decode cX2_bestTry 14 = .ok (.bipush (-9), 2) := by decide +kernel
theorem dX2_bestTry_16 : decode cX2_bestTry 16 = .ok (.istore_n 3, 1) := by decide +kernel
theorem dX2_bestTry_17 : decode cX2_bestTry 17 = .ok (.bipush 10, 2) := by decide +kernel
theorem dX2_bestTry_19 : decode cX2_bestTry 19 = .ok (.istore 4, 2) := by decide +kernel
theorem dX2_bestTry_21 : decode cX2_bestTry 21 = .ok (.iconst 1, 1) := by decide +kernel
theorem dX2_bestTry_22 : decode cX2_bestTry 22 = .ok (.istore 5, 2) := by decide +kernel
theorem dX2_bestTry_24 : decode cX2_bestTry 24 = .ok (.iload 5, 2) := by decide +kernel
theorem dX2_bestTry_26 : decode cX2_bestTry 26 = .ok (.bipush 36, 2) := by decide +kernel
theorem dX2_bestTry_28 : decode cX2_bestTry 28 = .ok (.if_icmp .gt 43, 3) := by decide +kernel
theorem dX2_bestTry_31 : decode cX2_bestTry 31 = .ok (.aload_n 0, 1) := by decide +kernel
theorem dX2_bestTry_32 : decode cX2_bestTry 32 = .ok (.iload 5, 2) := by decide +kernel
theorem dX2_bestTry_34 : decode cX2_bestTry 34 = .ok (.iload_n 2, 1) := by decide +kernel
theorem dX2_bestTry_35 : decode cX2_bestTry 35 = .ok (.invokevirtual 77, 3) := by decide +kernel
theorem dX2_bestTry_38 : decode cX2_bestTry 38 = .ok (.istore 6, 2) := by decide +kernel
theorem dX2_bestTry_40 : decode cX2_bestTry 40 = .ok (.iload 6, 2) := by decide +kernel
theorem dX2_bestTry_42 : decode cX2_bestTry 42 = .ok (.iload_n 2, 1) := by decide +kernel
theorem dX2_bestTry_43 : decode cX2_bestTry 43 = .ok (.iload 6, 2) := by decide +kernel
theorem dX2_bestTry_45 : decode cX2_bestTry 45 = .ok (.isub, 1) := by decide +kernel
theorem dX2_bestTry_46 : decode cX2_bestTry 46 = .ok (.invokestatic 80, 3) := by decide +kernel
theorem dX2_bestTry_49 : decode cX2_bestTry 49 = .ok (.istore 7, 2) := by decide +kernel
theorem dX2_bestTry_51 : decode cX2_bestTry 51 = .ok (.iload 7, 2) := by decide +kernel
theorem dX2_bestTry_53 : decode cX2_bestTry 53 = .ok (.iload 4, 2) := by decide +kernel
theorem dX2_bestTry_55 : decode cX2_bestTry 55 = .ok (.if_icmp .ge 10, 3) := by decide +kernel
theorem dX2_bestTry_58 : decode cX2_bestTry 58 = .ok (.iload 7, 2) := by decide +kernel
theorem dX2_bestTry_60 : decode cX2_bestTry 60 = .ok (.istore 4, 2) := by decide +kernel
theorem dX2_bestTry_62 : decode cX2_bestTry 62 = .ok (.iload 5, 2) := by decide +kernel
theorem dX2_bestTry_64 : decode cX2_bestTry 64 = .ok (.istore_n 3, 1) := by decide +kernel
theorem dX2_bestTry_65 : decode cX2_bestTry 65 = .ok (.iinc 5 1, 3) := by decide +kernel
theorem dX2_bestTry_68 : decode cX2_bestTry 68 = .ok (.goto (-44), 3) := by decide +kernel
theorem dX2_bestTry_71 : decode cX2_bestTry 71 = .ok (.iload_n 3, 1) := by decide +kernel
theorem dX2_bestTry_72 : decode cX2_bestTry 72 = .ok (.ireturn, 1) := by decide +kernel
theorem dX3_lose_0 : decode cX3_lose 0 = .ok (.aload_n 0, 1) := by decide +kernel
theorem dX3_lose_1 : decode cX3_lose 1 = .ok (.iconst 0, 1) := by decide +kernel
theorem dX3_lose_2 : decode cX3_lose 2 = .ok (.putfield 17, 3) := by decide +kernel
theorem dX3_lose_5 : decode cX3_lose 5 = .ok (.return_, 1) := by decide +kernel
theorem dX3_remember_0 : decode cX3_remember 0 = .ok (.aload_n 0, 1) := by decide +kernel
theorem dX3_remember_1 : decode cX3_remember 1 = .ok (.getfield 11, 3) := by decide +kernel
theorem dX3_remember_4 : decode cX3_remember 4 = .ok (.aload_n 0, 1) := by decide +kernel
theorem dX3_remember_5 : decode cX3_remember 5 = .ok (.getfield 21, 3) := by decide +kernel
theorem dX3_remember_8 : decode cX3_remember 8 = .ok (.aaload, 1) := by decide +kernel
theorem dX3_remember_9 : decode cX3_remember 9 = .ok (.aload_n 1, 1) := by decide +kernel
theorem dX3_remember_10 : decode cX3_remember 10 = .ok (.invokevirtual 25, 3) := by decide +kernel
theorem dX3_remember_13 : decode cX3_remember 13 = .ok (.aload_n 0, 1) := by decide +kernel
theorem dX3_remember_14 : decode cX3_remember 14 = .ok (.aload_n 0, 1) := by decide +kernel
theorem dX3_remember_15 : decode cX3_remember 15 = .ok (.getfield 21, 3) := by decide +kernel
theorem dX3_remember_18 : decode cX3_remember 18 = .ok (.iconst 1, 1) := by decide +kernel
theorem dX3_remember_19 : decode cX3_remember 19 = .ok (.iadd, 1) := by decide +kernel
theorem dX3_remember_20 : decode cX3_remember 20 = .ok (.bipush 10, 2) := by decide +kernel
theorem dX3_remember_22 : decode cX3_remember 22 = .ok (.if_icmp .ge 12, 3) := by decide +kernel
theorem dX3_remember_25 : decode cX3_remember 25 = .ok (.aload_n 0, 1) := by decide +kernel
theorem dX3_remember_26 : decode cX3_remember 26 = .ok (.getfield 21, 3) := by decide +kernel
theorem dX3_remember_29 : decode cX3_remember 29 = .ok (.iconst 1, 1) := by decide +kernel
theorem dX3_remember_30 : decode cX3_remember 30 = .ok (.iadd, 1) := by decide +kernel
theorem dX3_remember_31 : decode cX3_remember 31 = .ok (.goto 4, 3) := by decide +kernel
theorem dX3_remember_34 : decode cX3_remember 34 = .ok (.iconst 0, 1) := by decide +kernel
theorem dX3_remember_35 : decode cX3_remember 35 = .ok (.putfield 21, 3) := by decide +kernel
theorem dX3_remember_38 : decode cX3_remember 38 = .ok (.aload_n 0, 1) := by decide +kernel
theorem dX3_remember_39 : decode cX3_remember 39 = .ok (.aload_n 0, 1) := by decide +kernel
theorem dX3_remember_40 : decode cX3_remember 40 = .ok (.getfield 17, 3) := by decide +kernel
theorem dX3_remember_43 : decode cX3_remember 43 = .ok (.iconst 1, 1) := by decide +kernel
theorem dX3_remember_44 : decode cX3_remember 44 = .ok (.iadd, 1) := by decide +kernel
theorem dX3_remember_45 : decode cX3_remember 45 = .ok (.bipush 10, 2) := by decide +kernel
theorem dX3_remember_47 : decode cX3_remember 47 = .ok (.invokestatic 29, 3) := by decide +kernel
theorem dX3_remember_50 : decode cX3_remember 50 = .ok (.putfield 17, 3) := by decide +kernel
theorem dX3_remember_53 : decode cX3_remember 53 = .ok (.return_, 1) := by decide +kernel
theorem dX3_restore_0 : decode cX3_restore 0 = .ok (.aload_n 0, 1) := by decide +kernel
theorem dX3_restore_1 : decode cX3_restore 1 = .ok (.getfield 17, 3) := by decide +kernel
theorem dX3_restore_4 : decode cX3_restore 4 = .ok (.ifCond .gt 4, 3) := by decide +kernel
theorem dX3_restore_7 : decode cX3_restore 7 = .ok (.return_, 1) := by decide +kernel
theorem dX3_restore_8 : decode cX3_restore 8 = .ok (.aload_n 0, 1) := by decide +kernel
theorem dX3_restore_9 : decode cX3_restore 9 = .ok (.aload_n 0, 1) := by decide +kernel
theorem dX3_restore_10 : decode cX3_restore 10 = .ok (.getfield 21, 3) := by decide +kernel
theorem dX3_restore_13 : decode cX3_restore 13 = .ok (.ifCond .le 12, 3) := by decide +kernel
theorem dX3_restore_16 : decode cX3_restore 16 = .ok (.aload_n 0, 1) := by decide +kernel
theorem dX3_restore_17 : decode cX3_restore 17 = .ok (.getfield 21, 3) := by decide +kernel
theorem dX3_restore_20 : decode cX3_restore 20 = .ok (.iconst 1, 1) := by decide +kernel
theorem dX3_restore_21 : decode cX3_restore 21 = .ok (.isub, 1) := by decide +kernel
theorem dX3_restore_22 : decode cX3_restore 22 = .ok (.goto 5, 3) := by decide +kernel
theorem dX3_restore_25 : decode cX3_restore 25 = .ok (.bipush 9, 2) := by decide +kernel
theorem dX3_restore_27 : decode cX3_restore 27 = .ok (.putfield 21, 3) := by decide +kernel
theorem dX3_restore_30 : decode cX3_restore 30 = .ok (.aload_n 1, 1) := by decide +kernel
theorem dX3_restore_31 : decode cX3_restore 31 = .ok (.aload_n 0, 1) := by decide +kernel
theorem dX3_restore_32 : decode cX3_restore 32 = .ok (.getfield 11, 3) := by decide +kernel
theorem dX3_restore_35 : decode cX3_restore 35 = .ok (.aload_n 0, 1) := by decide +kernel
theorem dX3_restore_36 : decode cX3_restore 36 = .ok (.getfield 21, 3) := by decide +kernel
theorem dX3_restore_39 : decode cX3_restore 39 = .ok (.aaload, 1) := by decide +kernel
theorem dX3_restore_40 : decode cX3_restore 40 = .ok (.invokevirtual 25, 3) := by decide +kernel
theorem dX3_restore_43 : decode cX3_restore 43 = .ok (.aload_n 0, 1) := by decide +kernel
theorem dX3_restore_44 : decode cX3_restore 44 = .ok (.dup, 1) := by decide +kernel
theorem dX3_restore_45 : decode cX3_restore 45 = .ok (.getfield 17, 3) := by decide +kernel
theorem dX3_restore_48 : decode cX3_restore 48 = .ok (.iconst 1, 1) := by decide +kernel
theorem dX3_restore_49 : decode cX3_restore 49 = .ok (.isub, 1) := by decide +kernel
theorem dX3_restore_50 : decode cX3_restore 50 = .ok (.putfield 17, 3) := by decide +kernel
theorem dX3_restore_53 : decode cX3_restore 53 = .ok (.return_, 1) := by decide +kernel
theorem dX8_type_0 : decode cX8_type 0 = .ok (.iload_n 1, 1) := by decide +kernel
theorem dX8_type_1 : decode cX8_type 1 = .ok (.iconst 0, 1) := by decide +kernel
theorem dX8_type_2 : decode cX8_type 2 = .ok (.sipush 255, 3) := by decide +kernel
theorem dX8_type_5 : decode cX8_type 5 = .ok (.invokestatic 94, 3) := by decide +kernel
theorem dX8_type_8 : decode cX8_type 8 = .ok (.ifCond .ne 5, 3) := by decide +kernel
theorem dX8_type_11 : decode cX8_type 11 = .ok (.iconst (-1), 1) := by decide +kernel
theorem dX8_type_12 : decode cX8_type 12 = .ok (.ireturn, 1) := by decide +kernel
theorem dX8_type_13 : decode cX8_type 13 = .ok (.aload_n 0, 1) := by decide +kernel
theorem dX8_type_14 : decode cX8_type 14 = .ok (.getfield 13, 3) := by decide +kernel
theorem dX8_type_17 : decode cX8_type 17 = .ok (.bipush 120, 2) := by decide +kernel
theorem dX8_type_19 : decode cX8_type 19 = .ok (.if_icmp .lt 6, 3) := by decide +kernel
theorem dX8_type_22 : decode cX8_type 22 = .ok (.bipush (-3), 2) := by decide +kernel
theorem dX8_type_24 : decode cX8_type 24 = .ok (.ireturn, 1) := by decide +kernel
theorem dX8_type_25 : decode cX8_type 25 = .ok (.aload_n 0, 1) := by decide +kernel
theorem dX8_type_26 : decode cX8_type 26 = .ok (.getfield 9, 3) := by decide +kernel
theorem dX8_type_29 : decode cX8_type 29 = .ok (.aload_n 0, 1) := by decide +kernel
theorem dX8_type_30 : decode cX8_type 30 = .ok (.getfield 13, 3) := by decide +kernel
theorem dX8_type_33 : decode cX8_type 33 = .ok (.iload_n 1, 1) := by decide +kernel
theorem dX8_type_34 : decode cX8_type 34 = .ok (.iastore, 1) := by decide +kernel
theorem dX8_type_35 : decode cX8_type 35 = .ok (.aload_n 0, 1) := by decide +kernel
theorem dX8_type_36 : decode cX8_type 36 = .ok (.dup, 1) := by decide +kernel
theorem dX8_type_37 : decode cX8_type 37 = .ok (.getfield 13, 3) := by decide +kernel
theorem dX8_type_40 : decode cX8_type 40 = .ok (.iconst 1, 1) := by decide +kernel
theorem dX8_type_41 : decode cX8_type 41 = .ok (.iadd, 1) := by decide +kernel
theorem dX8_type_42 : decode cX8_type 42 = .ok (.putfield 13, 3) := by decide +kernel
theorem dX8_type_45 : decode cX8_type 45 = .ok (.aload_n 0, 1) := by decide +kernel
theorem dX8_type_46 : decode cX8_type 46 = .ok (.getfield 13, 3) := by decide +kernel
theorem dX8_type_49 : decode cX8_type 49 = .ok (.ireturn, 1) := by decide +kernel
theorem dX8_clear_0 : decode cX8_clear 0 = .ok (.aload_n 0, 1) := by decide +kernel
theorem dX8_clear_1 : decode cX8_clear 1 = .ok (.getfield 13, 3) := by decide +kernel
theorem dX8_clear_4 : decode cX8_clear 4 = .ok (.istore_n 1, 1) := by decide +kernel
theorem dX8_clear_5 : decode cX8_clear 5 = .ok (.aload_n 0, 1) := by decide +kernel
theorem dX8_clear_6 : decode cX8_clear 6 = .ok (.iconst 0, 1) := by decide +kernel
theorem dX8_clear_7 : decode cX8_clear 7 = .ok (.putfield 13, 3) := by decide +kernel
theorem dX8_clear_10 : decode cX8_clear 10 = .ok (.iload_n 1, 1) := by decide +kernel
theorem dX8_clear_11 : decode cX8_clear 11 = .ok (.ireturn, 1) := by decide +kernel
theorem dX8_gorge_0 : decode cX8_gorge 0 = .ok (.aload_n 0, 1) := by decide +kernel
theorem dX8_gorge_1 : decode cX8_gorge 1 = .ok (.getfield 32, 3) := by decide +kernel
theorem dX8_gorge_4 : decode cX8_gorge 4 = .ok (.aload_n 0, 1) := by decide +kernel
theorem dX8_gorge_5 : decode cX8_gorge 5 = .ok (.getfield 13, 3) := by decide +kernel
theorem dX8_gorge_8 : decode cX8_gorge 8 = .ok (.invokevirtual 98, 3) := by decide +kernel
theorem dX8_gorge_11 : decode cX8_gorge 11 = .ok (.istore_n 1, 1) := by decide +kernel
theorem dX8_gorge_12 : decode cX8_gorge 12 = .ok (.iload_n 1, 1) := by decide +kernel
theorem dX8_gorge_13 : decode cX8_gorge 13 = .ok (.ifCond .ge 5, 3) := by decide +kernel
theorem dX8_gorge_16 : decode cX8_gorge 16 = .ok (.iload_n 1, 1) := by decide +kernel
theorem dX8_gorge_17 : decode cX8_gorge 17 = .ok (.ireturn, 1) := by decide +kernel
theorem dX8_gorge_18 : decode cX8_gorge 18 = .ok (.aload_n 0, 1) := by decide +kernel
theorem dX8_gorge_19 : decode cX8_gorge 19 = .ok (.iconst 0, 1) := by decide +kernel
theorem dX8_gorge_20 : decode cX8_gorge 20 = .ok (.putfield 13, 3) := by decide +kernel
theorem dX8_gorge_23 : decode cX8_gorge 23 = .ok (.aload_n 0, 1) := by decide +kernel
theorem dX8_gorge_24 : decode cX8_gorge 24 = .ok (.getfield 24, 3) := by decide +kernel
theorem dX8_gorge_27 : decode cX8_gorge 27 = .ok (.aload_n 0, 1) := by decide +kernel
theorem dX8_gorge_28 : decode cX8_gorge 28 = .ok (.getfield 20, 3) := by decide +kernel
theorem dX8_gorge_31 : decode cX8_gorge 31 = .ok (.invokevirtual 102, 3) := by decide +kernel
theorem dX8_gorge_34 : decode cX8_gorge 34 = .ok (.aload_n 0, 1) := by decide +kernel
theorem dX8_gorge_35 : decode cX8_gorge 35 = .ok (.getfield 41, 3) := by decide +kernel
theorem dX8_gorge_38 : decode cX8_gorge 38 = .ok (.invokevirtual 105, 3) := by decide +kernel
theorem dX8_gorge_41 : decode cX8_gorge 41 = .ok (.aload_n 0, 1) := by decide +kernel
theorem dX8_gorge_42 : decode cX8_gorge 42 = .ok (.getfield 48, 3) := by decide +kernel
theorem dX8_gorge_45 : decode cX8_gorge 45 = .ok (.aload_n 0, 1) := by decide +kernel
theorem dX8_gorge_46 : decode cX8_gorge 46 = .ok (.getfield 24, 3) := by decide +kernel
theorem dX8_gorge_49 : decode cX8_gorge 49 = .ok (.invokevirtual 108, 3) := by decide +kernel
theorem dX8_gorge_52 : decode cX8_gorge 52 = .ok (.aload_n 0, 1) := by decide +kernel
theorem dX8_gorge_53 : decode cX8_gorge 53 = .ok (.getfield 55, 3) := by decide +kernel
theorem dX8_gorge_56 : decode cX8_gorge 56 = .ok (.invokevirtual 111, 3) := by decide +kernel
theorem dX8_gorge_59 : decode cX8_gorge 59 = .ok (.aload_n 0, 1) := by decide +kernel
theorem dX8_gorge_60 : decode cX8_gorge 60 = .ok (.getfield 86, 3) := by decide +kernel
theorem dX8_gorge_63 : decode cX8_gorge 63 = .ok (.iconst 0, 1) := by decide +kernel
theorem dX8_gorge_64 : decode cX8_gorge 64 = .ok (.putfield 114, 3) := by decide +kernel
theorem dX8_gorge_67 : decode cX8_gorge 67 = .ok (.iconst 0, 1) := by decide +kernel
theorem dX8_gorge_68 : decode cX8_gorge 68 = .ok (.istore_n 2, 1) := by decide +kernel
theorem dX8_gorge_69 : decode cX8_gorge 69 = .ok (.iload_n 2, 1) := by decide +kernel
theorem dX8_gorge_70 : decode cX8_gorge 70 = .ok (.iconst 2, 1) := by decide +kernel
theorem dX8_gorge_71 : decode cX8_gorge 71 = .ok (.if_icmp .ge 16, 3) := by decide +kernel
theorem dX8_gorge_74 : decode cX8_gorge 74 = .ok (.aload_n 0, 1) := by decide +kernel
theorem dX8_gorge_75 : decode cX8_gorge 75 = .ok (.getfield 63, 3) := by decide +kernel
theorem dX8_gorge_78 : decode cX8_gorge 78 = .ok (.iload_n 2, 1) := by decide +kernel
theorem dX8_gorge_79 : decode cX8_gorge 79 = .ok (.iconst 0, 1) := by decide +kernel
theorem dX8_gorge_80 : decode cX8_gorge 80 = .ok (.bastore, 1) := by decide +kernel
theorem dX8_gorge_81 : decode cX8_gorge 81 = .ok (.iinc 2 1, 3) := by decide +kernel
theorem dX8_gorge_84 : decode cX8_gorge 84 = .ok (.goto (-15), 3) := by decide +kernel
theorem dX8_gorge_87 : decode cX8_gorge 87 = .ok (.iload_n 1, 1) := by decide +kernel
theorem dX8_gorge_88 : decode cX8_gorge 88 = .ok (.ireturn, 1) := by decide +kernel
theorem dX8_planksOf_0 : decode cX8_planksOf 0 = .ok (.iconst 0, 1) := by decide +kernel
theorem dX8_planksOf_1 : decode cX8_planksOf 1 = .ok (.istore_n 3, 1) := by decide +kernel
theorem dX8_planksOf_2 : decode cX8_planksOf 2 = .ok (.iconst 0, 1) := by decide +kernel
theorem dX8_planksOf_3 : decode cX8_planksOf 3 = .ok (.istore 4, 2) := by decide +kernel
theorem dX8_planksOf_5 : decode cX8_planksOf 5 = .ok (.iload 4, 2) := by decide +kernel
theorem dX8_planksOf_7 : decode cX8_planksOf 7 = .ok (.aload_n 0, 1) := by decide +kernel
theorem dX8_planksOf_8 : decode cX8_planksOf 8 = .ok (.getfield 24, 3) := by decide +kernel
theorem dX8_planksOf_11 : decode cX8_planksOf 11 = .ok (.getfield 289, 3) := by decide +kernel
theorem dX8_planksOf_14 : decode cX8_planksOf 14 = .ok (.if_icmp .ge 27, 3) := by decide +kernel
theorem dX8_planksOf_17 : decode cX8_planksOf 17 = .ok (.aload_n 1, 1) := by decide +kernel
theorem dX8_planksOf_18 : decode cX8_planksOf 18 = .ok (.iload 4, 2) := by decide +kernel
theorem dX8_planksOf_20 : decode cX8_planksOf 20 = .ok (.iaload, 1) := by decide +kernel
theorem dX8_planksOf_21 : decode cX8_planksOf 21 = .ok (.iload_n 2, 1) := by decide +kernel
theorem dX8_planksOf_22 : decode cX8_planksOf 22 = .ok (.invokestatic 307, 3) := by decide +kernel
theorem dX8_planksOf_25 : decode cX8_planksOf 25 = .ok (.ifCond .eq 10, 3) := by decide +kernel
theorem dX8_planksOf_28 : decode cX8_planksOf 28 = .ok (.iload_n 3, 1) := by decide +kernel
theorem dX8_planksOf_29 : decode cX8_planksOf 29 = .ok (.iconst 1, 1) := by decide +kernel
theorem dX8_planksOf_30 : decode cX8_planksOf 30 = .ok (.iload 4, 2) := by decide +kernel
theorem dX8_planksOf_32 : decode cX8_planksOf 32 = .ok (.ishl, 1) := by decide +kernel
theorem dX8_planksOf_33 : decode cX8_planksOf 33 = .ok (.ior, 1) := by decide +kernel
theorem dX8_planksOf_34 : decode cX8_planksOf 34 = .ok (.istore_n 3, 1) := by decide +kernel
theorem dX8_planksOf_35 : decode cX8_planksOf 35 = .ok (.iinc 4 1, 3) := by decide +kernel
theorem dX8_planksOf_38 : decode cX8_planksOf 38 = .ok (.goto (-33), 3) := by decide +kernel
theorem dX8_planksOf_41 : decode cX8_planksOf 41 = .ok (.iload_n 3, 1) := by decide +kernel
theorem dX8_planksOf_42 : decode cX8_planksOf 42 = .ok (.ireturn, 1) := by decide +kernel
theorem dX8_person_0 : decode cX8_person 0 = .ok (.aload_n 0, 1) := by decide +kernel
theorem dX8_person_1 : decode cX8_person 1 = .ok (.getfield 24, 3) := by decide +kernel
theorem dX8_person_4 : decode cX8_person 4 = .ok (.iload_n 1, 1) := by decide +kernel
theorem dX8_person_5 : decode cX8_person 5 = .ok (.invokevirtual 117, 3) := by decide +kernel
theorem dX8_person_8 : decode cX8_person 8 = .ok (.ifCond .ne 5, 3) := by decide +kernel
theorem dX8_person_11 : decode cX8_person 11 = .ok (.iconst (-1), 1) := by decide +kernel
theorem dX8_person_12 : decode cX8_person 12 = .ok (.ireturn, 1) := by decide +kernel
theorem dX8_person_13 : decode cX8_person 13 = .ok (.iload_n 2, 1) := by decide +kernel
theorem dX8_person_14 : decode cX8_person 14 = .ok (.tableswitch 157 0 7 #[46, 56, 66, 76, 86, 99, 112, 125], 46) := by decide +kernel
theorem dX8_person_60 : decode cX8_person 60 = .ok (.aload_n 0, 1) := by decide +kernel
theorem dX8_person_61 : decode cX8_person 61 = .ok (.getfield 24, 3) := by decide +kernel
theorem dX8_person_64 : decode cX8_person 64 = .ok (.getfield 121, 3) := by decide +kernel
theorem dX8_person_67 : decode cX8_person 67 = .ok (.iload_n 1, 1) := by decide +kernel
theorem dX8_person_68 : decode cX8_person 68 = .ok (.iaload, 1) := by decide +kernel
theorem dX8_person_69 : decode cX8_person 69 = .ok (.ireturn, 1) := by decide +kernel
theorem dX8_person_70 : decode cX8_person 70 = .ok (.aload_n 0, 1) := by decide +kernel
theorem dX8_person_71 : decode cX8_person 71 = .ok (.getfield 24, 3) := by decide +kernel
theorem dX8_person_74 : decode cX8_person 74 = .ok (.getfield 124, 3) := by decide +kernel
theorem dX8_person_77 : decode cX8_person 77 = .ok (.iload_n 1, 1) := by decide +kernel
theorem dX8_person_78 : decode cX8_person 78 = .ok (.iaload, 1) := by decide +kernel
theorem dX8_person_79 : decode cX8_person 79 = .ok (.ireturn, 1) := by decide +kernel
theorem dX8_person_80 : decode cX8_person 80 = .ok (.aload_n 0, 1) := by decide +kernel
theorem dX8_person_81 : decode cX8_person 81 = .ok (.getfield 24, 3) := by decide +kernel
theorem dX8_person_84 : decode cX8_person 84 = .ok (.getfield 127, 3) := by decide +kernel
theorem dX8_person_87 : decode cX8_person 87 = .ok (.iload_n 1, 1) := by decide +kernel
theorem dX8_person_88 : decode cX8_person 88 = .ok (.iaload, 1) := by decide +kernel
theorem dX8_person_89 : decode cX8_person 89 = .ok (.ireturn, 1) := by decide +kernel
theorem dX8_person_90 : decode cX8_person 90 = .ok (.aload_n 0, 1) := by decide +kernel
theorem dX8_person_91 : decode cX8_person 91 = .ok (.getfield 24, 3) := by decide +kernel
theorem dX8_person_94 : decode cX8_person 94 = .ok (.getfield 130, 3) := by decide +kernel
theorem dX8_person_97 : decode cX8_person 97 = .ok (.iload_n 1, 1) := by decide +kernel
theorem dX8_person_98 : decode cX8_person 98 = .ok (.iaload, 1) := by decide +kernel
theorem dX8_person_99 : decode cX8_person 99 = .ok (.ireturn, 1) := by decide +kernel
theorem dX8_person_100 : decode cX8_person 100 = .ok (.aload_n 0, 1) := by decide +kernel
theorem dX8_person_101 : decode cX8_person 101 = .ok (.aload_n 0, 1) := by decide +kernel
theorem dX8_person_102 : decode cX8_person 102 = .ok (.getfield 48, 3) := by decide +kernel
theorem dX8_person_105 : decode cX8_person 105 = .ok (.getfield 133, 3) := by decide +kernel
theorem dX8_person_108 : decode cX8_person 108 = .ok (.iload_n 1, 1) := by decide +kernel
theorem dX8_person_109 : decode cX8_person 109 = .ok (.invokevirtual 136, 3) := by decide +kernel
theorem dX8_person_112 : decode cX8_person 112 = .ok (.ireturn, 1) := by decide +kernel
theorem dX8_person_113 : decode cX8_person 113 = .ok (.aload_n 0, 1) := by decide +kernel
theorem dX8_person_114 : decode cX8_person 114 = .ok (.aload_n 0, 1) := by decide +kernel
theorem dX8_person_115 : decode cX8_person 115 = .ok (.getfield 48, 3) := by decide +kernel
theorem dX8_person_118 : decode cX8_person 118 = .ok (.getfield 140, 3) := by decide +kernel
theorem dX8_person_121 : decode cX8_person 121 = .ok (.iload_n 1, 1) := by decide +kernel
theorem dX8_person_122 : decode cX8_person 122 = .ok (.invokevirtual 136, 3) := by decide +kernel
theorem dX8_person_125 : decode cX8_person 125 = .ok (.ireturn, 1) := by decide +kernel
theorem dX8_person_126 : decode cX8_person 126 = .ok (.aload_n 0, 1) := by decide +kernel
theorem dX8_person_127 : decode cX8_person 127 = .ok (.getfield 41, 3) := by decide +kernel
theorem dX8_person_130 : decode cX8_person 130 = .ok (.aload_n 0, 1) := by decide +kernel
theorem dX8_person_131 : decode cX8_person 131 = .ok (.getfield 48, 3) := by decide +kernel
theorem dX8_person_134 : decode cX8_person 134 = .ok (.iload_n 1, 1) := by decide +kernel
theorem dX8_person_135 : decode cX8_person 135 = .ok (.invokevirtual 143, 3) := by decide +kernel
theorem dX8_person_138 : decode cX8_person 138 = .ok (.ireturn, 1) := by decide +kernel
theorem dX8_person_139 : decode cX8_person 139 = .ok (.iconst 0, 1) := by decide +kernel
theorem dX8_person_140 : decode cX8_person 140 = .ok (.aload_n 0, 1) := by decide +kernel
theorem dX8_person_141 : decode cX8_person 141 = .ok (.getfield 41, 3) := by decide +kernel
theorem dX8_person_144 : decode cX8_person 144 = .ok (.aload_n 0, 1) := by decide +kernel
theorem dX8_person_145 : decode cX8_person 145 = .ok (.getfield 48, 3) := by decide +kernel
theorem dX8_person_148 : decode cX8_person 148 = .ok (.iconst 0, 1) := by decide +kernel
theorem dX8_person_149 : decode cX8_person 149 = .ok (.invokevirtual 147, 3) := by decide +kernel
theorem dX8_person_152 : decode cX8_person 152 = .ok (.aload_n 0, 1) := by decide +kernel
theorem dX8_person_153 : decode cX8_person 153 = .ok (.getfield 41, 3) := by decide +kernel
theorem dX8_person_156 : decode cX8_person 156 = .ok (.aload_n 0, 1) := by decide +kernel
theorem dX8_person_157 : decode cX8_person 157 = .ok (.getfield 48, 3) := by decide +kernel
theorem dX8_person_160 : decode cX8_person 160 = .ok (.iconst 1, 1) := by decide +kernel
theorem dX8_person_161 : decode cX8_person 161 = .ok (.iload_n 1, 1) := by decide +kernel
theorem dX8_person_162 : decode cX8_person 162 = .ok (.ishl, 1) := by decide +kernel
theorem dX8_person_163 : decode cX8_person 163 = .ok (.invokevirtual 147, 3) := by decide +kernel
theorem dX8_person_166 : decode cX8_person 166 = .ok (.isub, 1) := by decide +kernel
theorem dX8_person_167 : decode cX8_person 167 = .ok (.invokestatic 150, 3) := by decide +kernel
theorem dX8_person_170 : decode cX8_person 170 = .ok (.ireturn, 1) := by decide +kernel
theorem dX8_person_171 : decode cX8_person 171 = .ok (.iconst (-1), 1) := by decide +kernel
theorem dX8_person_172 : decode cX8_person 172 = .ok (.ireturn, 1) := by decide +kernel
theorem dX8_plank_0 : decode cX8_plank 0 = .ok (.aload_n 0, 1) := by decide +kernel
theorem dX8_plank_1 : decode cX8_plank 1 = .ok (.getfield 24, 3) := by decide +kernel
theorem dX8_plank_4 : decode cX8_plank 4 = .ok (.iload_n 1, 1) := by decide +kernel
theorem dX8_plank_5 : decode cX8_plank 5 = .ok (.invokevirtual 156, 3) := by decide +kernel
theorem dX8_plank_8 : decode cX8_plank 8 = .ok (.ifCond .ne 5, 3) := by decide +kernel
theorem dX8_plank_11 : decode cX8_plank 11 = .ok (.iconst (-1), 1) := by decide +kernel
theorem dX8_plank_12 : decode cX8_plank 12 = .ok (.ireturn, 1) := by decide +kernel
theorem dX8_plank_13 : decode cX8_plank 13 = .ok (.iload_n 2, 1) := by decide +kernel
theorem dX8_plank_14 : decode cX8_plank 14 = .ok (.tableswitch 82 0 2 #[26, 44, 63], 26) := by decide +kernel
theorem dX8_plank_40 : decode cX8_plank 40 = .ok (.aload_n 0, 1) := by decide +kernel
theorem dX8_plank_41 : decode cX8_plank 41 = .ok (.getfield 41, 3) := by decide +kernel
theorem dX8_plank_44 : decode cX8_plank 44 = .ok (.iload_n 1, 1) := by decide +kernel
theorem dX8_plank_45 : decode cX8_plank 45 = .ok (.aload_n 0, 1) := by decide +kernel
theorem dX8_plank_46 : decode cX8_plank 46 = .ok (.getfield 48, 3) := by decide +kernel
theorem dX8_plank_49 : decode cX8_plank 49 = .ok (.getfield 133, 3) := by decide +kernel
theorem dX8_plank_52 : decode cX8_plank 52 = .ok (.iload_n 1, 1) := by decide +kernel
theorem dX8_plank_53 : decode cX8_plank 53 = .ok (.iaload, 1) := by decide +kernel
theorem dX8_plank_54 : decode cX8_plank 54 = .ok (.invokevirtual 159, 3) := by decide +kernel
theorem dX8_plank_57 : decode cX8_plank 57 = .ok (.ireturn, 1) := by decide +kernel
theorem dX8_plank_58 : decode cX8_plank 58 = .ok (.aload_n 0, 1) := by decide +kernel
theorem dX8_plank_59 : decode cX8_plank 59 = .ok (.getfield 41, 3) := by decide +kernel
theorem dX8_plank_62 : decode cX8_plank 62 = .ok (.iload_n 1, 1) := by decide +kernel
theorem dX8_plank_63 : decode cX8_plank 63 = .ok (.aload_n 0, 1) := by decide +kernel
theorem dX8_plank_64 : decode cX8_plank 64 = .ok (.getfield 48, 3) := by decide +kernel
theorem dX8_plank_67 : decode cX8_plank 67 = .ok (.getfield 133, 3) := by decide +kernel
theorem dX8_plank_70 : decode cX8_plank 70 = .ok (.iload_n 1, 1) := by decide +kernel
theorem dX8_plank_71 : decode cX8_plank 71 = .ok (.iaload, 1) := by decide +kernel
theorem dX8_plank_72 : decode cX8_plank 72 = .ok (.iconst 0, 1) := by decide +kernel
theorem dX8_plank_73 : decode cX8_plank 73 = .ok (.invokevirtual 162, 3) := by decide +kernel
theorem dX8_plank_76 : decode cX8_plank 76 = .ok (.ireturn, 1) := by decide +kernel
theorem dX8_plank_77 : decode cX8_plank 77 = .ok (.aload_n 0, 1) := by decide +kernel
theorem dX8_plank_78 : decode cX8_plank 78 = .ok (.getfield 41, 3) := by decide +kernel
theorem dX8_plank_81 : decode cX8_plank 81 = .ok (.iload_n 1, 1) := by decide +kernel
theorem dX8_plank_82 : decode cX8_plank 82 = .ok (.aload_n 0, 1) := by decide +kernel
theorem dX8_plank_83 : decode cX8_plank 83 = .ok (.getfield 48, 3) := by decide +kernel
theorem dX8_plank_86 : decode cX8_plank 86 = .ok (.getfield 133, 3) := by decide +kernel
theorem dX8_plank_89 : decode cX8_plank 89 = .ok (.iload_n 1, 1) := by decide +kernel
theorem dX8_plank_90 : decode cX8_plank 90 = .ok (.iaload, 1) := by decide +kernel
theorem dX8_plank_91 : decode cX8_plank 91 = .ok (.iconst 1, 1) := by decide +kernel
theorem dX8_plank_92 : decode cX8_plank 92 = .ok (.invokevirtual 162, 3) := by decide +kernel
theorem dX8_plank_95 : decode cX8_plank 95 = .ok (.ireturn, 1) := by decide +kernel
theorem dX8_plank_96 : decode cX8_plank 96 = .ok (.iconst (-1), 1) := by decide +kernel
theorem dX8_plank_97 : decode cX8_plank 97 = .ok (.ireturn, 1) := by decide +kernel
theorem dX8_hold_0 : decode cX8_hold 0 = .ok (.aload_n 0, 1) := by decide +kernel
theorem dX8_hold_1 : decode cX8_hold 1 = .ok (.getfield 24, 3) := by decide +kernel
theorem dX8_hold_4 : decode cX8_hold 4 = .ok (.iload_n 1, 1) := by decide +kernel
theorem dX8_hold_5 : decode cX8_hold 5 = .ok (.invokevirtual 117, 3) := by decide +kernel
theorem dX8_hold_8 : decode cX8_hold 8 = .ok (.ifCond .eq 14, 3) := by decide +kernel
theorem dX8_hold_11 : decode cX8_hold 11 = .ok (.aload_n 0, 1) := by decide +kernel
theorem dX8_hold_12 : decode cX8_hold 12 = .ok (.getfield 24, 3) := by decide +kernel
theorem dX8_hold_15 : decode cX8_hold 15 = .ok (.iload_n 2, 1) := by decide +kernel
theorem dX8_hold_16 : decode cX8_hold 16 = .ok (.invokevirtual 156, 3) := by decide +kernel
theorem dX8_hold_19 : decode cX8_hold 19 = .ok (.ifCond .ne 5, 3) := by decide +kernel
theorem dX8_hold_22 : decode cX8_hold 22 = .ok (.iconst (-1), 1) := by decide +kernel
theorem dX8_hold_23 : decode cX8_hold 23 = .ok (.ireturn, 1) := by decide +kernel
theorem dX8_hold_24 : decode cX8_hold 24 = .ok (.aload_n 0, 1) := by decide +kernel
theorem dX8_hold_25 : decode cX8_hold 25 = .ok (.getfield 24, 3) := by decide +kernel
theorem dX8_hold_28 : decode cX8_hold 28 = .ok (.iload_n 1, 1) := by decide +kernel
theorem dX8_hold_29 : decode cX8_hold 29 = .ok (.aload_n 0, 1) := by decide +kernel
theorem dX8_hold_30 : decode cX8_hold 30 = .ok (.getfield 24, 3) := by decide +kernel
theorem dX8_hold_33 : decode cX8_hold 33 = .ok (.getfield 127, 3) := by decide +kernel
theorem dX8_hold_36 : decode cX8_hold 36 = .ok (.iload_n 1, 1) := by decide +kernel
theorem dX8_hold_37 : decode cX8_hold 37 = .ok (.iaload, 1) := by decide +kernel
theorem dX8_hold_38 : decode cX8_hold 38 = .ok (.iload_n 2, 1) := by decide +kernel
theorem dX8_hold_39 : decode cX8_hold 39 = .ok (.aload_n 0, 1) := by decide +kernel
theorem dX8_hold_40 : decode cX8_hold 40 = .ok (.getfield 48, 3) := by decide +kernel
theorem dX8_hold_43 : decode cX8_hold 43 = .ok (.getfield 133, 3) := by decide +kernel
theorem dX8_hold_46 : decode cX8_hold 46 = .ok (.iload_n 2, 1) := by decide +kernel
theorem dX8_hold_47 : decode cX8_hold 47 = .ok (.iaload, 1) := by decide +kernel
theorem dX8_hold_48 : decode cX8_hold 48 = .ok (.invokevirtual 166, 3) := by decide +kernel
theorem dX8_hold_51 : decode cX8_hold 51 = .ok (.ireturn, 1) := by decide +kernel
theorem dX8_now_0 : decode cX8_now 0 = .ok (.iload_n 1, 1) := by decide +kernel
theorem dX8_now_1 : decode cX8_now 1 = .ok (.tableswitch 96 0 5 #[39, 47, 60, 72, 80, 88], 39) := by decide +kernel
theorem dX8_now_40 : decode cX8_now 40 = .ok (.aload_n 0, 1) := by decide +kernel
theorem dX8_now_41 : decode cX8_now 41 = .ok (.getfield 48, 3) := by decide +kernel
theorem dX8_now_44 : decode cX8_now 44 = .ok (.getfield 170, 3) := by decide +kernel
theorem dX8_now_47 : decode cX8_now 47 = .ok (.ireturn, 1) := by decide +kernel
theorem dX8_now_48 : decode cX8_now 48 = .ok (.aload_n 0, 1) := by decide +kernel
theorem dX8_now_49 : decode cX8_now 49 = .ok (.getfield 41, 3) := by decide +kernel
theorem dX8_now_52 : decode cX8_now 52 = .ok (.aload_n 0, 1) := by decide +kernel
theorem dX8_now_53 : decode cX8_now 53 = .ok (.getfield 48, 3) := by decide +kernel
theorem dX8_now_56 : decode cX8_now 56 = .ok (.iconst 0, 1) := by decide +kernel
theorem dX8_now_57 : decode cX8_now 57 = .ok (.invokevirtual 147, 3) := by decide +kernel
theorem dX8_now_60 : decode cX8_now 60 = .ok (.ireturn, 1) := by decide +kernel
theorem dX8_now_61 : decode cX8_now 61 = .ok (.aload_n 0, 1) := by decide +kernel
theorem dX8_now_62 : decode cX8_now 62 = .ok (.getfield 41, 3) := by decide +kernel
theorem dX8_now_65 : decode cX8_now 65 = .ok (.aload_n 0, 1) := by decide +kernel
theorem dX8_now_66 : decode cX8_now 66 = .ok (.getfield 48, 3) := by decide +kernel
theorem dX8_now_69 : decode cX8_now 69 = .ok (.invokevirtual 173, 3) := by decide +kernel
theorem dX8_now_72 : decode cX8_now 72 = .ok (.ireturn, 1) := by decide +kernel
theorem dX8_now_73 : decode cX8_now 73 = .ok (.aload_n 0, 1) := by decide +kernel
theorem dX8_now_74 : decode cX8_now 74 = .ok (.getfield 48, 3) := by decide +kernel
theorem dX8_now_77 : decode cX8_now 77 = .ok (.getfield 177, 3) := by decide +kernel
theorem dX8_now_80 : decode cX8_now 80 = .ok (.ireturn, 1) := by decide +kernel
theorem dX8_now_81 : decode cX8_now 81 = .ok (.aload_n 0, 1) := by decide +kernel
theorem dX8_now_82 : decode cX8_now 82 = .ok (.getfield 48, 3) := by decide +kernel
theorem dX8_now_85 : decode cX8_now 85 = .ok (.invokevirtual 180, 3) := by decide +kernel
theorem dX8_now_88 : decode cX8_now 88 = .ok (.ireturn, 1) := by decide +kernel
theorem dX8_now_89 : decode cX8_now 89 = .ok (.aload_n 0, 1) := by decide +kernel
theorem dX8_now_90 : decode cX8_now 90 = .ok (.getfield 55, 3) := by decide +kernel
theorem dX8_now_93 : decode cX8_now 93 = .ok (.getfield 184, 3) := by decide +kernel
theorem dX8_now_96 : decode cX8_now 96 = .ok (.ireturn, 1) := by decide +kernel
theorem dX8_now_97 : decode cX8_now 97 = .ok (.iconst (-1), 1) := by decide +kernel
theorem dX8_now_98 : decode cX8_now 98 = .ok (.ireturn, 1) := by decide +kernel
theorem dX8_promises_0 : decode cX8_promises 0 = .ok (.aload_n 0, 1) := by decide +kernel
theorem dX8_promises_1 : decode cX8_promises 1 = .ok (.getfield 24, 3) := by decide +kernel
theorem dX8_promises_4 : decode cX8_promises 4 = .ok (.iload_n 1, 1) := by decide +kernel
theorem dX8_promises_5 : decode cX8_promises 5 = .ok (.invokevirtual 117, 3) := by decide +kernel
theorem dX8_promises_8 : decode cX8_promises 8 = .ok (.ifCond .eq 14, 3) := by decide +kernel
theorem dX8_promises_11 : decode cX8_promises 11 = .ok (.aload_n 0, 1) := by decide +kernel
theorem dX8_promises_12 : decode cX8_promises 12 = .ok (.getfield 24, 3) := by decide +kernel
theorem dX8_promises_15 : decode cX8_promises 15 = .ok (.iload_n 2, 1) := by decide +kernel
theorem dX8_promises_16 : decode cX8_promises 16 = .ok (.invokevirtual 156, 3) := by decide +kernel
theorem dX8_promises_19 : decode cX8_promises 19 = .ok (.ifCond .ne 5, 3) := by decide +kernel
theorem dX8_promises_22 : decode cX8_promises 22 = .ok (.iconst (-1), 1) := by decide +kernel
theorem dX8_promises_23 : decode cX8_promises 23 = .ok (.ireturn, 1) := by decide +kernel
theorem dX8_promises_24 : decode cX8_promises 24 = .ok (.aload_n 0, 1) := by decide +kernel
theorem dX8_promises_25 : decode cX8_promises 25 = .ok (.getfield 48, 3) := by decide +kernel
theorem dX8_promises_28 : decode cX8_promises 28 = .ok (.iload_n 1, 1) := by decide +kernel
theorem dX8_promises_29 : decode cX8_promises 29 = .ok (.iload_n 2, 1) := by decide +kernel
theorem dX8_promises_30 : decode cX8_promises 30 = .ok (.invokevirtual 187, 3) := by decide +kernel
theorem dX8_promises_33 : decode cX8_promises 33 = .ok (.ifCond .eq 6, 3) := by decide +kernel
theorem dX8_promises_36 : decode cX8_promises 36 = .ok (.bipush (-2), 2) := by decide +kernel
theorem dX8_promises_38 : decode cX8_promises 38 = .ok (.ireturn, 1) := by decide +kernel
theorem dX8_promises_39 : decode cX8_promises 39 = .ok (.aload_n 0, 1) := by decide +kernel
theorem dX8_promises_40 : decode cX8_promises 40 = .ok (.getfield 55, 3) := by decide +kernel
theorem dX8_promises_43 : decode cX8_promises 43 = .ok (.aload_n 0, 1) := by decide +kernel
theorem dX8_promises_44 : decode cX8_promises 44 = .ok (.getfield 48, 3) := by decide +kernel
theorem dX8_promises_47 : decode cX8_promises 47 = .ok (.invokevirtual 191, 3) := by decide +kernel
theorem dX8_promises_50 : decode cX8_promises 50 = .ok (.aload_n 0, 1) := by decide +kernel
theorem dX8_promises_51 : decode cX8_promises 51 = .ok (.getfield 48, 3) := by decide +kernel
theorem dX8_promises_54 : decode cX8_promises 54 = .ok (.aload_n 0, 1) := by decide +kernel
theorem dX8_promises_55 : decode cX8_promises 55 = .ok (.getfield 24, 3) := by decide +kernel
theorem dX8_promises_58 : decode cX8_promises 58 = .ok (.iload_n 1, 1) := by decide +kernel
theorem dX8_promises_59 : decode cX8_promises 59 = .ok (.iload_n 2, 1) := by decide +kernel
theorem dX8_promises_60 : decode cX8_promises 60 = .ok (.invokevirtual 195, 3) := by decide +kernel
theorem dX8_promises_63 : decode cX8_promises 63 = .ok (.ireturn, 1) := by decide +kernel
theorem dX8_breaks_0 : decode cX8_breaks 0 = .ok (.aload_n 0, 1) := by decide +kernel
theorem dX8_breaks_1 : decode cX8_breaks 1 = .ok (.getfield 24, 3) := by decide +kernel
theorem dX8_breaks_4 : decode cX8_breaks 4 = .ok (.iload_n 1, 1) := by decide +kernel
theorem dX8_breaks_5 : decode cX8_breaks 5 = .ok (.invokevirtual 117, 3) := by decide +kernel
theorem dX8_breaks_8 : decode cX8_breaks 8 = .ok (.ifCond .eq 14, 3) := by decide +kernel
theorem dX8_breaks_11 : decode cX8_breaks 11 = .ok (.aload_n 0, 1) := by decide +kernel
theorem dX8_breaks_12 : decode cX8_breaks 12 = .ok (.getfield 24, 3) := by decide +kernel
theorem dX8_breaks_15 : decode cX8_breaks 15 = .ok (.iload_n 2, 1) := by decide +kernel
theorem dX8_breaks_16 : decode cX8_breaks 16 = .ok (.invokevirtual 156, 3) := by decide +kernel
theorem dX8_breaks_19 : decode cX8_breaks 19 = .ok (.ifCond .ne 5, 3) := by decide +kernel
theorem dX8_breaks_22 : decode cX8_breaks 22 = .ok (.iconst (-1), 1) := by decide +kernel
theorem dX8_breaks_23 : decode cX8_breaks 23 = .ok (.ireturn, 1) := by decide +kernel
theorem dX8_breaks_24 : decode cX8_breaks 24 = .ok (.aload_n 0, 1) := by decide +kernel
theorem dX8_breaks_25 : decode cX8_breaks 25 = .ok (.getfield 48, 3) := by decide +kernel
theorem dX8_breaks_28 : decode cX8_breaks 28 = .ok (.iload_n 1, 1) := by decide +kernel
theorem dX8_breaks_29 : decode cX8_breaks 29 = .ok (.iload_n 2, 1) := by decide +kernel
theorem dX8_breaks_30 : decode cX8_breaks 30 = .ok (.invokevirtual 187, 3) := by decide +kernel
theorem dX8_breaks_33 : decode cX8_breaks 33 = .ok (.ifCond .ne 6, 3) := by decide +kernel
theorem dX8_breaks_36 : decode cX8_breaks 36 = .ok (.bipush (-2), 2) := by decide +kernel
theorem dX8_breaks_38 : decode cX8_breaks 38 = .ok (.ireturn, 1) := by decide +kernel
theorem dX8_breaks_39 : decode cX8_breaks 39 = .ok (.aload_n 0, 1) := by decide +kernel
theorem dX8_breaks_40 : decode cX8_breaks 40 = .ok (.getfield 55, 3) := by decide +kernel
theorem dX8_breaks_43 : decode cX8_breaks 43 = .ok (.aload_n 0, 1) := by decide +kernel
theorem dX8_breaks_44 : decode cX8_breaks 44 = .ok (.getfield 48, 3) := by decide +kernel
theorem dX8_breaks_47 : decode cX8_breaks 47 = .ok (.invokevirtual 191, 3) := by decide +kernel
theorem dX8_breaks_50 : decode cX8_breaks 50 = .ok (.aload_n 0, 1) := by decide +kernel
theorem dX8_breaks_51 : decode cX8_breaks 51 = .ok (.getfield 48, 3) := by decide +kernel
theorem dX8_breaks_54 : decode cX8_breaks 54 = .ok (.iload_n 1, 1) := by decide +kernel
theorem dX8_breaks_55 : decode cX8_breaks 55 = .ok (.iload_n 2, 1) := by decide +kernel
theorem dX8_breaks_56 : decode cX8_breaks 56 = .ok (.invokevirtual 199, 3) := by decide +kernel
theorem dX8_breaks_59 : decode cX8_breaks 59 = .ok (.aload_n 0, 1) := by decide +kernel
theorem dX8_breaks_60 : decode cX8_breaks 60 = .ok (.getfield 41, 3) := by decide +kernel
theorem dX8_breaks_63 : decode cX8_breaks 63 = .ok (.aload_n 0, 1) := by decide +kernel
theorem dX8_breaks_64 : decode cX8_breaks 64 = .ok (.getfield 48, 3) := by decide +kernel
theorem dX8_breaks_67 : decode cX8_breaks 67 = .ok (.iconst 0, 1) := by decide +kernel
theorem dX8_breaks_68 : decode cX8_breaks 68 = .ok (.invokevirtual 147, 3) := by decide +kernel
theorem dX8_breaks_71 : decode cX8_breaks 71 = .ok (.ireturn, 1) := by decide +kernel
theorem dX8_days_0 : decode cX8_days 0 = .ok (.aload_n 0, 1) := by decide +kernel
theorem dX8_days_1 : decode cX8_days 1 = .ok (.getfield 48, 3) := by decide +kernel
theorem dX8_days_4 : decode cX8_days 4 = .ok (.getfield 170, 3) := by decide +kernel
theorem dX8_days_7 : decode cX8_days 7 = .ok (.sipush 999, 3) := by decide +kernel
theorem dX8_days_10 : decode cX8_days 10 = .ok (.if_icmp .lt 6, 3) := by decide +kernel
theorem dX8_days_13 : decode cX8_days 13 = .ok (.bipush (-2), 2) := by decide +kernel
theorem dX8_days_15 : decode cX8_days 15 = .ok (.ireturn, 1) := by decide +kernel
theorem dX8_days_16 : decode cX8_days 16 = .ok (.aload_n 0, 1) := by decide +kernel
theorem dX8_days_17 : decode cX8_days 17 = .ok (.getfield 55, 3) := by decide +kernel
theorem dX8_days_20 : decode cX8_days 20 = .ok (.aload_n 0, 1) := by decide +kernel
theorem dX8_days_21 : decode cX8_days 21 = .ok (.getfield 48, 3) := by decide +kernel
theorem dX8_days_24 : decode cX8_days 24 = .ok (.invokevirtual 191, 3) := by decide +kernel
theorem dX8_days_27 : decode cX8_days 27 = .ok (.aload_n 0, 1) := by decide +kernel
theorem dX8_days_28 : decode cX8_days 28 = .ok (.getfield 48, 3) := by decide +kernel
theorem dX8_days_31 : decode cX8_days 31 = .ok (.invokevirtual 203, 3) := by decide +kernel
theorem dX8_days_34 : decode cX8_days 34 = .ok (.ireturn, 1) := by decide +kernel
theorem dX8_crosses_0 : decode cX8_crosses 0 = .ok (.iload_n 1, 1) := by decide +kernel
theorem dX8_crosses_1 : decode cX8_crosses 1 = .ok (.invokestatic 206, 3) := by decide +kernel
theorem dX8_crosses_4 : decode cX8_crosses 4 = .ok (.ifCond .ne 5, 3) := by decide +kernel
theorem dX8_crosses_7 : decode cX8_crosses 7 = .ok (.iconst (-1), 1) := by decide +kernel
theorem dX8_crosses_8 : decode cX8_crosses 8 = .ok (.ireturn, 1) := by decide +kernel
theorem dX8_crosses_9 : decode cX8_crosses 9 = .ok (.aload_n 0, 1) := by decide +kernel
theorem dX8_crosses_10 : decode cX8_crosses 10 = .ok (.getfield 48, 3) := by decide +kernel
theorem dX8_crosses_13 : decode cX8_crosses 13 = .ok (.getfield 177, 3) := by decide +kernel
theorem dX8_crosses_16 : decode cX8_crosses 16 = .ok (.sipush 999, 3) := by decide +kernel
theorem dX8_crosses_19 : decode cX8_crosses 19 = .ok (.if_icmp .ge 19, 3) := by decide +kernel
theorem dX8_crosses_22 : decode cX8_crosses 22 = .ok (.aload_n 0, 1) := by decide +kernel
theorem dX8_crosses_23 : decode cX8_crosses 23 = .ok (.getfield 41, 3) := by decide +kernel
theorem dX8_crosses_26 : decode cX8_crosses 26 = .ok (.aload_n 0, 1) := by decide +kernel
theorem dX8_crosses_27 : decode cX8_crosses 27 = .ok (.getfield 48, 3) := by decide +kernel
theorem dX8_crosses_30 : decode cX8_crosses 30 = .ok (.iconst 0, 1) := by decide +kernel
theorem dX8_crosses_31 : decode cX8_crosses 31 = .ok (.invokevirtual 147, 3) := by decide +kernel
theorem dX8_crosses_34 : decode cX8_crosses 34 = .ok (.iload_n 1, 1) := by decide +kernel
theorem dX8_crosses_35 : decode cX8_crosses 35 = .ok (.if_icmp .ge 6, 3) := by decide +kernel
theorem dX8_crosses_38 : decode cX8_crosses 38 = .ok (.bipush (-2), 2) := by decide +kernel
theorem dX8_crosses_40 : decode cX8_crosses 40 = .ok (.ireturn, 1) := by decide +kernel
theorem dX8_crosses_41 : decode cX8_crosses 41 = .ok (.aload_n 0, 1) := by decide +kernel
theorem dX8_crosses_42 : decode cX8_crosses 42 = .ok (.getfield 55, 3) := by decide +kernel
theorem dX8_crosses_45 : decode cX8_crosses 45 = .ok (.aload_n 0, 1) := by decide +kernel
theorem dX8_crosses_46 : decode cX8_crosses 46 = .ok (.getfield 48, 3) := by decide +kernel
theorem dX8_crosses_49 : decode cX8_crosses 49 = .ok (.invokevirtual 191, 3) := by decide +kernel
theorem dX8_crosses_52 : decode cX8_crosses 52 = .ok (.aload_n 0, 1) := by decide +kernel
theorem dX8_crosses_53 : decode cX8_crosses 53 = .ok (.getfield 48, 3) := by decide +kernel
theorem dX8_crosses_56 : decode cX8_crosses 56 = .ok (.dup, 1) := by decide +kernel
theorem dX8_crosses_57 : decode cX8_crosses 57 = .ok (.getfield 177, 3) := by decide +kernel
theorem dX8_crosses_60 : decode cX8_crosses 60 = .ok (.iconst 1, 1) := by decide +kernel
theorem dX8_crosses_61 : decode cX8_crosses 61 = .ok (.iadd, 1) := by decide +kernel
theorem dX8_crosses_62 : decode cX8_crosses 62 = .ok (.putfield 177, 3) := by decide +kernel
theorem dX8_crosses_65 : decode cX8_crosses 65 = .ok (.aload_n 0, 1) := by decide +kernel
theorem dX8_crosses_66 : decode cX8_crosses 66 = .ok (.getfield 48, 3) := by decide +kernel
theorem dX8_crosses_69 : decode cX8_crosses 69 = .ok (.getfield 177, 3) := by decide +kernel
theorem dX8_crosses_72 : decode cX8_crosses 72 = .ok (.ireturn, 1) := by decide +kernel
theorem dX8_undo_0 : decode cX8_undo 0 = .ok (.aload_n 0, 1) := by decide +kernel
theorem dX8_undo_1 : decode cX8_undo 1 = .ok (.getfield 55, 3) := by decide +kernel
theorem dX8_undo_4 : decode cX8_undo 4 = .ok (.getfield 184, 3) := by decide +kernel
theorem dX8_undo_7 : decode cX8_undo 7 = .ok (.ifCond .gt 6, 3) := by decide +kernel
theorem dX8_undo_10 : decode cX8_undo 10 = .ok (.bipush (-2), 2) := by decide +kernel
theorem dX8_undo_12 : decode cX8_undo 12 = .ok (.ireturn, 1) := by decide +kernel
theorem dX8_undo_13 : decode cX8_undo 13 = .ok (.aload_n 0, 1) := by decide +kernel
theorem dX8_undo_14 : decode cX8_undo 14 = .ok (.getfield 55, 3) := by decide +kernel
theorem dX8_undo_17 : decode cX8_undo 17 = .ok (.aload_n 0, 1) := by decide +kernel
theorem dX8_undo_18 : decode cX8_undo 18 = .ok (.getfield 48, 3) := by decide +kernel
theorem dX8_undo_21 : decode cX8_undo 21 = .ok (.invokevirtual 209, 3) := by decide +kernel
theorem dX8_undo_24 : decode cX8_undo 24 = .ok (.aload_n 0, 1) := by decide +kernel
theorem dX8_undo_25 : decode cX8_undo 25 = .ok (.getfield 55, 3) := by decide +kernel
theorem dX8_undo_28 : decode cX8_undo 28 = .ok (.getfield 184, 3) := by decide +kernel
theorem dX8_undo_31 : decode cX8_undo 31 = .ok (.ireturn, 1) := by decide +kernel
theorem dX8_when_0 : decode cX8_when 0 = .ok (.iload_n 1, 1) := by decide +kernel
theorem dX8_when_1 : decode cX8_when 1 = .ok (.invokestatic 206, 3) := by decide +kernel
theorem dX8_when_4 : decode cX8_when 4 = .ok (.ifCond .eq 14, 3) := by decide +kernel
theorem dX8_when_7 : decode cX8_when 7 = .ok (.aload_n 0, 1) := by decide +kernel
theorem dX8_when_8 : decode cX8_when 8 = .ok (.getfield 72, 3) := by decide +kernel
theorem dX8_when_11 : decode cX8_when 11 = .ok (.iload_n 1, 1) := by decide +kernel
theorem dX8_when_12 : decode cX8_when 12 = .ok (.invokevirtual 212, 3) := by decide +kernel
theorem dX8_when_15 : decode cX8_when 15 = .ok (.goto 4, 3) := by decide +kernel
theorem dX8_when_18 : decode cX8_when 18 = .ok (.iconst (-1), 1) := by decide +kernel
theorem dX8_when_19 : decode cX8_when 19 = .ok (.ireturn, 1) := by decide +kernel
theorem dX8_fewest_0 : decode cX8_fewest 0 = .ok (.iload_n 1, 1) := by decide +kernel
theorem dX8_fewest_1 : decode cX8_fewest 1 = .ok (.invokestatic 206, 3) := by decide +kernel
theorem dX8_fewest_4 : decode cX8_fewest 4 = .ok (.ifCond .ne 5, 3) := by decide +kernel
theorem dX8_fewest_7 : decode cX8_fewest 7 = .ok (.iconst (-1), 1) := by decide +kernel
theorem dX8_fewest_8 : decode cX8_fewest 8 = .ok (.ireturn, 1) := by decide +kernel
theorem dX8_fewest_9 : decode cX8_fewest 9 = .ok (.iload_n 2, 1) := by decide +kernel
theorem dX8_fewest_10 : decode cX8_fewest 10 = .ok (.iconst (-1), 1) := by decide +kernel
theorem dX8_fewest_11 : decode cX8_fewest 11 = .ok (.if_icmp .ne 12, 3) := by decide +kernel
theorem dX8_fewest_14 : decode cX8_fewest 14 = .ok (.aload_n 0, 1) := by decide +kernel
theorem dX8_fewest_15 : decode cX8_fewest 15 = .ok (.getfield 72, 3) := by decide +kernel
theorem dX8_fewest_18 : decode cX8_fewest 18 = .ok (.iload_n 1, 1) := by decide +kernel
theorem dX8_fewest_19 : decode cX8_fewest 19 = .ok (.invokevirtual 215, 3) := by decide +kernel
theorem dX8_fewest_22 : decode cX8_fewest 22 = .ok (.ireturn, 1) := by decide +kernel
theorem dX8_fewest_23 : decode cX8_fewest 23 = .ok (.aload_n 0, 1) := by decide +kernel
theorem dX8_fewest_24 : decode cX8_fewest 24 = .ok (.getfield 24, 3) := by decide +kernel
theorem dX8_fewest_27 : decode cX8_fewest 27 = .ok (.iload_n 2, 1) := by decide +kernel
theorem dX8_fewest_28 : decode cX8_fewest 28 = .ok (.invokevirtual 156, 3) := by decide +kernel
theorem dX8_fewest_31 : decode cX8_fewest 31 = .ok (.ifCond .eq 15, 3) := by decide +kernel
theorem dX8_fewest_34 : decode cX8_fewest 34 = .ok (.aload_n 0, 1) := by decide +kernel
theorem dX8_fewest_35 : decode cX8_fewest 35 = .ok (.getfield 72, 3) := by decide +kernel
theorem dX8_fewest_38 : decode cX8_fewest 38 = .ok (.iload_n 1, 1) := by decide +kernel
theorem dX8_fewest_39 : decode cX8_fewest 39 = .ok (.iload_n 2, 1) := by decide +kernel
theorem dX8_fewest_40 : decode cX8_fewest 40 = .ok (.invokevirtual 218, 3) := by decide +kernel
theorem dX8_fewest_43 : decode cX8_fewest 43 = .ok (.goto 4, 3) := by decide +kernel
theorem dX8_fewest_46 : decode cX8_fewest 46 = .ok (.iconst (-1), 1) := by decide +kernel
theorem dX8_fewest_47 : decode cX8_fewest 47 = .ok (.ireturn, 1) := by decide +kernel
theorem dX8_soon_0 : decode cX8_soon 0 = .ok (.iload_n 1, 1) := by decide +kernel
theorem dX8_soon_1 : decode cX8_soon 1 = .ok (.invokestatic 206, 3) := by decide +kernel
theorem dX8_soon_4 : decode cX8_soon 4 = .ok (.ifCond .eq 14, 3) := by decide +kernel
theorem dX8_soon_7 : decode cX8_soon 7 = .ok (.aload_n 0, 1) := by decide +kernel
theorem dX8_soon_8 : decode cX8_soon 8 = .ok (.getfield 72, 3) := by decide +kernel
theorem dX8_soon_11 : decode cX8_soon 11 = .ok (.iload_n 1, 1) := by decide +kernel
theorem dX8_soon_12 : decode cX8_soon 12 = .ok (.invokevirtual 221, 3) := by decide +kernel
theorem dX8_soon_15 : decode cX8_soon 15 = .ok (.goto 4, 3) := by decide +kernel
theorem dX8_soon_18 : decode cX8_soon 18 = .ok (.iconst (-1), 1) := by decide +kernel
theorem dX8_soon_19 : decode cX8_soon 19 = .ok (.ireturn, 1) := by decide +kernel
theorem dX8_pair_0 : decode cX8_pair 0 = .ok (.aload_n 0, 1) := by decide +kernel
theorem dX8_pair_1 : decode cX8_pair 1 = .ok (.getfield 24, 3) := by decide +kernel
theorem dX8_pair_4 : decode cX8_pair 4 = .ok (.iload_n 1, 1) := by decide +kernel
theorem dX8_pair_5 : decode cX8_pair 5 = .ok (.invokevirtual 117, 3) := by decide +kernel
theorem dX8_pair_8 : decode cX8_pair 8 = .ok (.ifCond .eq 25, 3) := by decide +kernel
theorem dX8_pair_11 : decode cX8_pair 11 = .ok (.aload_n 0, 1) := by decide +kernel
theorem dX8_pair_12 : decode cX8_pair 12 = .ok (.getfield 24, 3) := by decide +kernel
theorem dX8_pair_15 : decode cX8_pair 15 = .ok (.iload_n 2, 1) := by decide +kernel
theorem dX8_pair_16 : decode cX8_pair 16 = .ok (.invokevirtual 117, 3) := by decide +kernel
theorem dX8_pair_19 : decode cX8_pair 19 = .ok (.ifCond .eq 14, 3) := by decide +kernel
theorem dX8_pair_22 : decode cX8_pair 22 = .ok (.aload_n 0, 1) := by decide +kernel
theorem dX8_pair_23 : decode cX8_pair 23 = .ok (.getfield 24, 3) := by decide +kernel
theorem dX8_pair_26 : decode cX8_pair 26 = .ok (.iload_n 3, 1) := by decide +kernel
theorem dX8_pair_27 : decode cX8_pair 27 = .ok (.invokevirtual 156, 3) := by decide +kernel
theorem dX8_pair_30 : decode cX8_pair 30 = .ok (.ifCond .ne 5, 3) := by decide +kernel
theorem dX8_pair_33 : decode cX8_pair 33 = .ok (.iconst (-1), 1) := by decide +kernel
theorem dX8_pair_34 : decode cX8_pair 34 = .ok (.ireturn, 1) := by decide +kernel
theorem dX8_pair_35 : decode cX8_pair 35 = .ok (.aload_n 0, 1) := by decide +kernel
theorem dX8_pair_36 : decode cX8_pair 36 = .ok (.getfield 24, 3) := by decide +kernel
theorem dX8_pair_39 : decode cX8_pair 39 = .ok (.getfield 121, 3) := by decide +kernel
theorem dX8_pair_42 : decode cX8_pair 42 = .ok (.iload_n 1, 1) := by decide +kernel
theorem dX8_pair_43 : decode cX8_pair 43 = .ok (.iaload, 1) := by decide +kernel
theorem dX8_pair_44 : decode cX8_pair 44 = .ok (.aload_n 0, 1) := by decide +kernel
theorem dX8_pair_45 : decode cX8_pair 45 = .ok (.getfield 24, 3) := by decide +kernel
theorem dX8_pair_48 : decode cX8_pair 48 = .ok (.getfield 121, 3) := by decide +kernel
theorem dX8_pair_51 : decode cX8_pair 51 = .ok (.iload_n 2, 1) := by decide +kernel
theorem dX8_pair_52 : decode cX8_pair 52 = .ok (.iaload, 1) := by decide +kernel
theorem dX8_pair_53 : decode cX8_pair 53 = .ok (.if_icmp .eq 39, 3) := by decide +kernel
theorem dX8_pair_56 : decode cX8_pair 56 = .ok (.aload_n 0, 1) := by decide +kernel
theorem dX8_pair_57 : decode cX8_pair 57 = .ok (.getfield 48, 3) := by decide +kernel
theorem dX8_pair_60 : decode cX8_pair 60 = .ok (.iload_n 1, 1) := by decide +kernel
theorem dX8_pair_61 : decode cX8_pair 61 = .ok (.iload_n 3, 1) := by decide +kernel
theorem dX8_pair_62 : decode cX8_pair 62 = .ok (.invokevirtual 187, 3) := by decide +kernel
theorem dX8_pair_65 : decode cX8_pair 65 = .ok (.ifCond .ne 27, 3) := by decide +kernel
theorem dX8_pair_68 : decode cX8_pair 68 = .ok (.aload_n 0, 1) := by decide +kernel
theorem dX8_pair_69 : decode cX8_pair 69 = .ok (.getfield 48, 3) := by decide +kernel
theorem dX8_pair_72 : decode cX8_pair 72 = .ok (.iload_n 2, 1) := by decide +kernel
theorem dX8_pair_73 : decode cX8_pair 73 = .ok (.iload_n 3, 1) := by decide +kernel
theorem dX8_pair_74 : decode cX8_pair 74 = .ok (.invokevirtual 187, 3) := by decide +kernel
theorem dX8_pair_77 : decode cX8_pair 77 = .ok (.ifCond .ne 15, 3) := by decide +kernel
theorem dX8_pair_80 : decode cX8_pair 80 = .ok (.aload_n 0, 1) := by decide +kernel
theorem dX8_pair_81 : decode cX8_pair 81 = .ok (.getfield 48, 3) := by decide +kernel
theorem dX8_pair_84 : decode cX8_pair 84 = .ok (.getfield 140, 3) := by decide +kernel
theorem dX8_pair_87 : decode cX8_pair 87 = .ok (.iload_n 3, 1) := by decide +kernel
theorem dX8_pair_88 : decode cX8_pair 88 = .ok (.iaload, 1) := by decide +kernel
theorem dX8_pair_89 : decode cX8_pair 89 = .ok (.ifCond .eq 6, 3) := by decide +kernel
theorem dX8_pair_92 : decode cX8_pair 92 = .ok (.bipush (-2), 2) := by decide +kernel
theorem dX8_pair_94 : decode cX8_pair 94 = .ok (.ireturn, 1) := by decide +kernel
theorem dX8_pair_95 : decode cX8_pair 95 = .ok (.aload_n 0, 1) := by decide +kernel
theorem dX8_pair_96 : decode cX8_pair 96 = .ok (.getfield 24, 3) := by decide +kernel
theorem dX8_pair_99 : decode cX8_pair 99 = .ok (.getfield 130, 3) := by decide +kernel
theorem dX8_pair_102 : decode cX8_pair 102 = .ok (.iload_n 1, 1) := by decide +kernel
theorem dX8_pair_103 : decode cX8_pair 103 = .ok (.iaload, 1) := by decide +kernel
theorem dX8_pair_104 : decode cX8_pair 104 = .ok (.istore 4, 2) := by decide +kernel
theorem dX8_pair_106 : decode cX8_pair 106 = .ok (.aload_n 0, 1) := by decide +kernel
theorem dX8_pair_107 : decode cX8_pair 107 = .ok (.getfield 24, 3) := by decide +kernel
theorem dX8_pair_110 : decode cX8_pair 110 = .ok (.getfield 130, 3) := by decide +kernel
theorem dX8_pair_113 : decode cX8_pair 113 = .ok (.iload_n 2, 1) := by decide +kernel
theorem dX8_pair_114 : decode cX8_pair 114 = .ok (.iaload, 1) := by decide +kernel
theorem dX8_pair_115 : decode cX8_pair 115 = .ok (.istore 5, 2) := by decide +kernel
theorem dX8_pair_117 : decode cX8_pair 117 = .ok (.iload 4, 2) := by decide +kernel
theorem dX8_pair_119 : decode cX8_pair 119 = .ok (.iload 5, 2) := by decide +kernel
theorem dX8_pair_121 : decode cX8_pair 121 = .ok (.iconst 1, 1) := by decide +kernel
theorem dX8_pair_122 : decode cX8_pair 122 = .ok (.iadd, 1) := by decide +kernel
theorem dX8_pair_123 : decode cX8_pair 123 = .ok (.invokestatic 150, 3) := by decide +kernel
theorem dX8_pair_126 : decode cX8_pair 126 = .ok (.iload 4, 2) := by decide +kernel
theorem dX8_pair_128 : decode cX8_pair 128 = .ok (.iconst 1, 1) := by decide +kernel
theorem dX8_pair_129 : decode cX8_pair 129 = .ok (.iadd, 1) := by decide +kernel
theorem dX8_pair_130 : decode cX8_pair 130 = .ok (.iload 5, 2) := by decide +kernel
theorem dX8_pair_132 : decode cX8_pair 132 = .ok (.invokestatic 150, 3) := by decide +kernel
theorem dX8_pair_135 : decode cX8_pair 135 = .ok (.invokestatic 224, 3) := by decide +kernel
theorem dX8_pair_138 : decode cX8_pair 138 = .ok (.istore 6, 2) := by decide +kernel
theorem dX8_pair_140 : decode cX8_pair 140 = .ok (.iload 6, 2) := by decide +kernel
theorem dX8_pair_142 : decode cX8_pair 142 = .ok (.iload 4, 2) := by decide +kernel
theorem dX8_pair_144 : decode cX8_pair 144 = .ok (.iload 5, 2) := by decide +kernel
theorem dX8_pair_146 : decode cX8_pair 146 = .ok (.iadd, 1) := by decide +kernel
theorem dX8_pair_147 : decode cX8_pair 147 = .ok (.invokestatic 224, 3) := by decide +kernel
theorem dX8_pair_150 : decode cX8_pair 150 = .ok (.ireturn, 1) := by decide +kernel
theorem dX8_enough_0 : decode cX8_enough 0 = .ok (.iload_n 1, 1) := by decide +kernel
theorem dX8_enough_1 : decode cX8_enough 1 = .ok (.invokestatic 206, 3) := by decide +kernel
theorem dX8_enough_4 : decode cX8_enough 4 = .ok (.ifCond .eq 14, 3) := by decide +kernel
theorem dX8_enough_7 : decode cX8_enough 7 = .ok (.aload_n 0, 1) := by decide +kernel
theorem dX8_enough_8 : decode cX8_enough 8 = .ok (.getfield 72, 3) := by decide +kernel
theorem dX8_enough_11 : decode cX8_enough 11 = .ok (.iload_n 1, 1) := by decide +kernel
theorem dX8_enough_12 : decode cX8_enough 12 = .ok (.invokevirtual 227, 3) := by decide +kernel
theorem dX8_enough_15 : decode cX8_enough 15 = .ok (.goto 4, 3) := by decide +kernel
theorem dX8_enough_18 : decode cX8_enough 18 = .ok (.iconst (-1), 1) := by decide +kernel
theorem dX8_enough_19 : decode cX8_enough 19 = .ok (.ireturn, 1) := by decide +kernel
theorem dX8_friends_0 : decode cX8_friends 0 = .ok (.iload_n 1, 1) := by decide +kernel
theorem dX8_friends_1 : decode cX8_friends 1 = .ok (.invokestatic 206, 3) := by decide +kernel
theorem dX8_friends_4 : decode cX8_friends 4 = .ok (.ifCond .eq 14, 3) := by decide +kernel
theorem dX8_friends_7 : decode cX8_friends 7 = .ok (.aload_n 0, 1) := by decide +kernel
theorem dX8_friends_8 : decode cX8_friends 8 = .ok (.getfield 72, 3) := by decide +kernel
theorem dX8_friends_11 : decode cX8_friends 11 = .ok (.iload_n 1, 1) := by decide +kernel
theorem dX8_friends_12 : decode cX8_friends 12 = .ok (.invokevirtual 230, 3) := by decide +kernel
theorem dX8_friends_15 : decode cX8_friends 15 = .ok (.goto 4, 3) := by decide +kernel
theorem dX8_friends_18 : decode cX8_friends 18 = .ok (.iconst (-1), 1) := by decide +kernel
theorem dX8_friends_19 : decode cX8_friends 19 = .ok (.ireturn, 1) := by decide +kernel
theorem dX8_byTurns_0 : decode cX8_byTurns 0 = .ok (.iload_n 1, 1) := by decide +kernel
theorem dX8_byTurns_1 : decode cX8_byTurns 1 = .ok (.iconst 0, 1) := by decide +kernel
theorem dX8_byTurns_2 : decode cX8_byTurns 2 = .ok (.iconst 3, 1) := by decide +kernel
theorem dX8_byTurns_3 : decode cX8_byTurns 3 = .ok (.invokestatic 94, 3) := by decide +kernel
theorem dX8_byTurns_6 : decode cX8_byTurns 6 = .ok (.ifCond .eq 14, 3) := by decide +kernel
theorem dX8_byTurns_9 : decode cX8_byTurns 9 = .ok (.aload_n 0, 1) := by decide +kernel
theorem dX8_byTurns_10 : decode cX8_byTurns 10 = .ok (.getfield 79, 3) := by decide +kernel
theorem dX8_byTurns_13 : decode cX8_byTurns 13 = .ok (.iload_n 1, 1) := by decide +kernel
theorem dX8_byTurns_14 : decode cX8_byTurns 14 = .ok (.invokevirtual 233, 3) := by decide +kernel
theorem dX8_byTurns_17 : decode cX8_byTurns 17 = .ok (.goto 4, 3) := by decide +kernel
theorem dX8_byTurns_20 : decode cX8_byTurns 20 = .ok (.iconst (-1), 1) := by decide +kernel
theorem dX8_byTurns_21 : decode cX8_byTurns 21 = .ok (.ireturn, 1) := by decide +kernel
theorem dX8_odds_0 : decode cX8_odds 0 = .ok (.iload_n 1, 1) := by decide +kernel
theorem dX8_odds_1 : decode cX8_odds 1 = .ok (.iconst 0, 1) := by decide +kernel
theorem dX8_odds_2 : decode cX8_odds 2 = .ok (.bipush 10, 2) := by decide +kernel
theorem dX8_odds_4 : decode cX8_odds 4 = .ok (.invokestatic 94, 3) := by decide +kernel
theorem dX8_odds_7 : decode cX8_odds 7 = .ok (.ifCond .eq 19, 3) := by decide +kernel
theorem dX8_odds_10 : decode cX8_odds 10 = .ok (.iload_n 2, 1) := by decide +kernel
theorem dX8_odds_11 : decode cX8_odds 11 = .ok (.invokestatic 206, 3) := by decide +kernel
theorem dX8_odds_14 : decode cX8_odds 14 = .ok (.ifCond .eq 12, 3) := by decide +kernel
theorem dX8_odds_17 : decode cX8_odds 17 = .ok (.iload_n 3, 1) := by decide +kernel
theorem dX8_odds_18 : decode cX8_odds 18 = .ok (.iconst 0, 1) := by decide +kernel
theorem dX8_odds_19 : decode cX8_odds 19 = .ok (.iconst 1, 1) := by decide +kernel
theorem dX8_odds_20 : decode cX8_odds 20 = .ok (.invokestatic 94, 3) := by decide +kernel
theorem dX8_odds_23 : decode cX8_odds 23 = .ok (.ifCond .ne 5, 3) := by decide +kernel
theorem dX8_odds_26 : decode cX8_odds 26 = .ok (.iconst (-1), 1) := by decide +kernel
theorem dX8_odds_27 : decode cX8_odds 27 = .ok (.ireturn, 1) := by decide +kernel
theorem dX8_odds_28 : decode cX8_odds 28 = .ok (.aload_n 0, 1) := by decide +kernel
theorem dX8_odds_29 : decode cX8_odds 29 = .ok (.getfield 79, 3) := by decide +kernel
theorem dX8_odds_32 : decode cX8_odds 32 = .ok (.iload_n 1, 1) := by decide +kernel
theorem dX8_odds_33 : decode cX8_odds 33 = .ok (.iload_n 2, 1) := by decide +kernel
theorem dX8_odds_34 : decode cX8_odds 34 = .ok (.invokevirtual 236, 3) := by decide +kernel
theorem dX8_odds_37 : decode cX8_odds 37 = .ok (.istore 4, 2) := by decide +kernel
theorem dX8_odds_39 : decode cX8_odds 39 = .ok (.bipush 10, 2) := by decide +kernel
theorem dX8_odds_41 : decode cX8_odds 41 = .ok (.aload_n 0, 1) := by decide +kernel
theorem dX8_odds_42 : decode cX8_odds 42 = .ok (.getfield 24, 3) := by decide +kernel
theorem dX8_odds_45 : decode cX8_odds 45 = .ok (.getfield 239, 3) := by decide +kernel
theorem dX8_odds_48 : decode cX8_odds 48 = .ok (.invokestatic 242, 3) := by decide +kernel
theorem dX8_odds_51 : decode cX8_odds 51 = .ok (.istore 5, 2) := by decide +kernel
theorem dX8_odds_53 : decode cX8_odds 53 = .ok (.iload 4, 2) := by decide +kernel
theorem dX8_odds_55 : decode cX8_odds 55 = .ok (.iload 5, 2) := by decide +kernel
theorem dX8_odds_57 : decode cX8_odds 57 = .ok (.invokestatic 245, 3) := by decide +kernel
theorem dX8_odds_60 : decode cX8_odds 60 = .ok (.istore 6, 2) := by decide +kernel
theorem dX8_odds_62 : decode cX8_odds 62 = .ok (.iload 6, 2) := by decide +kernel
theorem dX8_odds_64 : decode cX8_odds 64 = .ok (.ifCond .gt 5, 3) := by decide +kernel
theorem dX8_odds_67 : decode cX8_odds 67 = .ok (.iconst (-1), 1) := by decide +kernel
theorem dX8_odds_68 : decode cX8_odds 68 = .ok (.ireturn, 1) := by decide +kernel
theorem dX8_odds_69 : decode cX8_odds 69 = .ok (.iload_n 3, 1) := by decide +kernel
theorem dX8_odds_70 : decode cX8_odds 70 = .ok (.ifCond .ne 8, 3) := by decide +kernel
theorem dX8_odds_73 : decode cX8_odds 73 = .ok (.iload 4, 2) := by decide +kernel
theorem dX8_odds_75 : decode cX8_odds 75 = .ok (.goto 5, 3) := by decide +kernel
theorem dX8_odds_78 : decode cX8_odds 78 = .ok (.iload 5, 2) := by decide +kernel
theorem dX8_odds_80 : decode cX8_odds 80 = .ok (.iload 6, 2) := by decide +kernel
theorem dX8_odds_82 : decode cX8_odds 82 = .ok (.idiv, 1) := by decide +kernel
theorem dX8_odds_83 : decode cX8_odds 83 = .ok (.ireturn, 1) := by decide +kernel
theorem dX8_winter_0 : decode cX8_winter 0 = .ok (.iload_n 1, 1) := by decide +kernel
theorem dX8_winter_1 : decode cX8_winter 1 = .ok (.iconst 0, 1) := by decide +kernel
theorem dX8_winter_2 : decode cX8_winter 2 = .ok (.bipush 60, 2) := by decide +kernel
theorem dX8_winter_4 : decode cX8_winter 4 = .ok (.invokestatic 94, 3) := by decide +kernel
theorem dX8_winter_7 : decode cX8_winter 7 = .ok (.ifCond .eq 20, 3) := by decide +kernel
theorem dX8_winter_10 : decode cX8_winter 10 = .ok (.iload_n 2, 1) := by decide +kernel
theorem dX8_winter_11 : decode cX8_winter 11 = .ok (.iconst 1, 1) := by decide +kernel
theorem dX8_winter_12 : decode cX8_winter 12 = .ok (.ldc 248, 2) := by decide +kernel
theorem dX8_winter_14 : decode cX8_winter 14 = .ok (.invokestatic 94, 3) := by decide +kernel
theorem dX8_winter_17 : decode cX8_winter 17 = .ok (.ifCond .eq 10, 3) := by decide +kernel
theorem dX8_winter_20 : decode cX8_winter 20 = .ok (.iload_n 3, 1) := by decide +kernel
theorem dX8_winter_21 : decode cX8_winter 21 = .ok (.invokestatic 206, 3) := by decide +kernel
theorem dX8_winter_24 : decode cX8_winter 24 = .ok (.ifCond .ne 5, 3) := by decide +kernel
theorem dX8_winter_27 : decode cX8_winter 27 = .ok (.iconst (-1), 1) := by decide +kernel
theorem dX8_winter_28 : decode cX8_winter 28 = .ok (.ireturn, 1) := by decide +kernel
theorem dX8_winter_29 : decode cX8_winter 29 = .ok (.aload_n 0, 1) := by decide +kernel
theorem dX8_winter_30 : decode cX8_winter 30 = .ok (.getfield 79, 3) := by decide +kernel
theorem dX8_winter_33 : decode cX8_winter 33 = .ok (.iload_n 1, 1) := by decide +kernel
theorem dX8_winter_34 : decode cX8_winter 34 = .ok (.iload_n 2, 1) := by decide +kernel
theorem dX8_winter_35 : decode cX8_winter 35 = .ok (.iload_n 3, 1) := by decide +kernel
theorem dX8_winter_36 : decode cX8_winter 36 = .ok (.invokevirtual 249, 3) := by decide +kernel
theorem dX8_winter_39 : decode cX8_winter 39 = .ok (.ireturn, 1) := by decide +kernel
theorem dX8_sees_0 : decode cX8_sees 0 = .ok (.iload_n 1, 1) := by decide +kernel
theorem dX8_sees_1 : decode cX8_sees 1 = .ok (.invokestatic 206, 3) := by decide +kernel
theorem dX8_sees_4 : decode cX8_sees 4 = .ok (.ifCond .eq 12, 3) := by decide +kernel
theorem dX8_sees_7 : decode cX8_sees 7 = .ok (.iload_n 2, 1) := by decide +kernel
theorem dX8_sees_8 : decode cX8_sees 8 = .ok (.iconst 0, 1) := by decide +kernel
theorem dX8_sees_9 : decode cX8_sees 9 = .ok (.iconst 1, 1) := by decide +kernel
theorem dX8_sees_10 : decode cX8_sees 10 = .ok (.invokestatic 94, 3) := by decide +kernel
theorem dX8_sees_13 : decode cX8_sees 13 = .ok (.ifCond .ne 5, 3) := by decide +kernel
theorem dX8_sees_16 : decode cX8_sees 16 = .ok (.iconst (-1), 1) := by decide +kernel
theorem dX8_sees_17 : decode cX8_sees 17 = .ok (.ireturn, 1) := by decide +kernel
theorem dX8_sees_18 : decode cX8_sees 18 = .ok (.aload_n 0, 1) := by decide +kernel
theorem dX8_sees_19 : decode cX8_sees 19 = .ok (.getfield 86, 3) := by decide +kernel
theorem dX8_sees_22 : decode cX8_sees 22 = .ok (.iload_n 1, 1) := by decide +kernel
theorem dX8_sees_23 : decode cX8_sees 23 = .ok (.iload_n 2, 1) := by decide +kernel
theorem dX8_sees_24 : decode cX8_sees 24 = .ok (.iconst 1, 1) := by decide +kernel
theorem dX8_sees_25 : decode cX8_sees 25 = .ok (.if_icmp .ne 7, 3) := by decide +kernel
theorem dX8_sees_28 : decode cX8_sees 28 = .ok (.iconst 1, 1) := by decide +kernel
theorem dX8_sees_29 : decode cX8_sees 29 = .ok (.goto 4, 3) := by decide +kernel
theorem dX8_sees_32 : decode cX8_sees 32 = .ok (.iconst 0, 1) := by decide +kernel
theorem dX8_sees_33 : decode cX8_sees 33 = .ok (.invokevirtual 252, 3) := by decide +kernel
theorem dX8_sees_36 : decode cX8_sees 36 = .ok (.ifCond .eq 13, 3) := by decide +kernel
theorem dX8_sees_39 : decode cX8_sees 39 = .ok (.aload_n 0, 1) := by decide +kernel
theorem dX8_sees_40 : decode cX8_sees 40 = .ok (.getfield 86, 3) := by decide +kernel
theorem dX8_sees_43 : decode cX8_sees 43 = .ok (.getfield 114, 3) := by decide +kernel
theorem dX8_sees_46 : decode cX8_sees 46 = .ok (.goto 5, 3) := by decide +kernel
theorem dX8_sees_49 : decode cX8_sees 49 = .ok (.bipush (-3), 2) := by decide +kernel
theorem dX8_sees_51 : decode cX8_sees 51 = .ok (.ireturn, 1) := by decide +kernel
theorem dX8_forget_0 : decode cX8_forget 0 = .ok (.aload_n 0, 1) := by decide +kernel
theorem dX8_forget_1 : decode cX8_forget 1 = .ok (.getfield 86, 3) := by decide +kernel
theorem dX8_forget_4 : decode cX8_forget 4 = .ok (.getfield 114, 3) := by decide +kernel
theorem dX8_forget_7 : decode cX8_forget 7 = .ok (.istore_n 1, 1) := by decide +kernel
theorem dX8_forget_8 : decode cX8_forget 8 = .ok (.aload_n 0, 1) := by decide +kernel
theorem dX8_forget_9 : decode cX8_forget 9 = .ok (.getfield 86, 3) := by decide +kernel
theorem dX8_forget_12 : decode cX8_forget 12 = .ok (.iconst 0, 1) := by decide +kernel
theorem dX8_forget_13 : decode cX8_forget 13 = .ok (.putfield 114, 3) := by decide +kernel
theorem dX8_forget_16 : decode cX8_forget 16 = .ok (.iload_n 1, 1) := by decide +kernel
theorem dX8_forget_17 : decode cX8_forget 17 = .ok (.ireturn, 1) := by decide +kernel
theorem dX8_words_0 : decode cX8_words 0 = .ok (.aload_n 0, 1) := by decide +kernel
theorem dX8_words_1 : decode cX8_words 1 = .ok (.getfield 24, 3) := by decide +kernel
theorem dX8_words_4 : decode cX8_words 4 = .ok (.iload_n 1, 1) := by decide +kernel
theorem dX8_words_5 : decode cX8_words 5 = .ok (.invokevirtual 117, 3) := by decide +kernel
theorem dX8_words_8 : decode cX8_words 8 = .ok (.ifCond .ne 5, 3) := by decide +kernel
theorem dX8_words_11 : decode cX8_words 11 = .ok (.iconst (-1), 1) := by decide +kernel
theorem dX8_words_12 : decode cX8_words 12 = .ok (.ireturn, 1) := by decide +kernel
theorem dX8_words_13 : decode cX8_words 13 = .ok (.iload_n 2, 1) := by decide +kernel
theorem dX8_words_14 : decode cX8_words 14 = .ok (.tableswitch 53 0 2 #[26, 35, 44], 26) := by decide +kernel
theorem dX8_words_40 : decode cX8_words 40 = .ok (.aload_n 0, 1) := by decide +kernel
theorem dX8_words_41 : decode cX8_words 41 = .ok (.getfield 86, 3) := by decide +kernel
theorem dX8_words_44 : decode cX8_words 44 = .ok (.iload_n 1, 1) := by decide +kernel
theorem dX8_words_45 : decode cX8_words 45 = .ok (.invokevirtual 256, 3) := by decide +kernel
theorem dX8_words_48 : decode cX8_words 48 = .ok (.ireturn, 1) := by decide +kernel
theorem dX8_words_49 : decode cX8_words 49 = .ok (.aload_n 0, 1) := by decide +kernel
theorem dX8_words_50 : decode cX8_words 50 = .ok (.getfield 86, 3) := by decide +kernel
theorem dX8_words_53 : decode cX8_words 53 = .ok (.iload_n 1, 1) := by decide +kernel
theorem dX8_words_54 : decode cX8_words 54 = .ok (.invokevirtual 259, 3) := by decide +kernel
theorem dX8_words_57 : decode cX8_words 57 = .ok (.ireturn, 1) := by decide +kernel
theorem dX8_words_58 : decode cX8_words 58 = .ok (.aload_n 0, 1) := by decide +kernel
theorem dX8_words_59 : decode cX8_words 59 = .ok (.getfield 86, 3) := by decide +kernel
theorem dX8_words_62 : decode cX8_words 62 = .ok (.iload_n 1, 1) := by decide +kernel
theorem dX8_words_63 : decode cX8_words 63 = .ok (.invokevirtual 262, 3) := by decide +kernel
theorem dX8_words_66 : decode cX8_words 66 = .ok (.ireturn, 1) := by decide +kernel
theorem dX8_words_67 : decode cX8_words 67 = .ok (.iconst (-1), 1) := by decide +kernel
theorem dX8_words_68 : decode cX8_words 68 = .ok (.ireturn, 1) := by decide +kernel
theorem dX8_next_0 : decode cX8_next 0 = .ok (.aload_n 0, 1) := by decide +kernel
theorem dX8_next_1 : decode cX8_next 1 = .ok (.getfield 24, 3) := by decide +kernel
theorem dX8_next_4 : decode cX8_next 4 = .ok (.iload_n 1, 1) := by decide +kernel
theorem dX8_next_5 : decode cX8_next 5 = .ok (.invokevirtual 117, 3) := by decide +kernel
theorem dX8_next_8 : decode cX8_next 8 = .ok (.ifCond .eq 14, 3) := by decide +kernel
theorem dX8_next_11 : decode cX8_next 11 = .ok (.aload_n 0, 1) := by decide +kernel
theorem dX8_next_12 : decode cX8_next 12 = .ok (.getfield 86, 3) := by decide +kernel
theorem dX8_next_15 : decode cX8_next 15 = .ok (.iload_n 1, 1) := by decide +kernel
theorem dX8_next_16 : decode cX8_next 16 = .ok (.invokevirtual 265, 3) := by decide +kernel
theorem dX8_next_19 : decode cX8_next 19 = .ok (.goto 4, 3) := by decide +kernel
theorem dX8_next_22 : decode cX8_next 22 = .ok (.iconst (-1), 1) := by decide +kernel
theorem dX8_next_23 : decode cX8_next 23 = .ok (.ireturn, 1) := by decide +kernel
theorem dX8_rateAsPerson_0 : decode cX8_rateAsPerson 0 = .ok (.aload_n 0, 1) := by decide +kernel
theorem dX8_rateAsPerson_1 : decode cX8_rateAsPerson 1 = .ok (.dup, 1) := by decide +kernel
theorem dX8_rateAsPerson_2 : decode cX8_rateAsPerson 2 = .ok (.getfield 90, 3) := by decide +kernel
theorem dX8_rateAsPerson_5 : decode cX8_rateAsPerson 5 = .ok (.lconst 1, 1) := by decide +kernel
theorem dX8_rateAsPerson_6 : decode cX8_rateAsPerson 6 = .ok (.ladd, 1) := by decide +kernel
theorem dX8_rateAsPerson_7 : decode cX8_rateAsPerson 7 = .ok (.putfield 90, 3) := by decide +kernel
theorem dX8_rateAsPerson_10 : decode cX8_rateAsPerson 10 = .ok (.aload_n 0, 1) := by decide +kernel
theorem dX8_rateAsPerson_11 : decode cX8_rateAsPerson 11 = .ok (.getfield 24, 3) := by decide +kernel
theorem dX8_rateAsPerson_14 : decode cX8_rateAsPerson 14 = .ok (.getfield 127, 3) := by decide +kernel
theorem dX8_rateAsPerson_17 : decode cX8_rateAsPerson 17 = .ok (.iload_n 1, 1) := by decide +kernel
theorem dX8_rateAsPerson_18 : decode cX8_rateAsPerson 18 = .ok (.iaload, 1) := by decide +kernel
theorem dX8_rateAsPerson_19 : decode cX8_rateAsPerson 19 = .ok (.ireturn, 1) := by decide +kernel
theorem dX8_rateAsPlain_0 : decode cX8_rateAsPlain 0 = .ok (.aload_n 0, 1) := by decide +kernel
theorem dX8_rateAsPlain_1 : decode cX8_rateAsPlain 1 = .ok (.dup, 1) := by decide +kernel
theorem dX8_rateAsPlain_2 : decode cX8_rateAsPlain 2 = .ok (.getfield 90, 3) := by decide +kernel
