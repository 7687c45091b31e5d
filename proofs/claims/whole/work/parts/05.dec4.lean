theorem dX9_friends_12 : decode cX9_friends 12 = .ok (.iconst (-1), 1) := by decide +kernel
theorem dX9_friends_13 : decode cX9_friends 13 = .ok (.ireturn, 1) := by decide +kernel
theorem dX9_friends_14 : decode cX9_friends 14 = .ok (.iconst 1, 1) := by decide +kernel
theorem dX9_friends_15 : decode cX9_friends 15 = .ok (.aload_n 0, 1) := by decide +kernel
theorem dX9_friends_16 : decode cX9_friends 16 = .ok (.getfield 13, 3) := by decide +kernel
theorem dX9_friends_19 : decode cX9_friends 19 = .ok (.iconst 1, 1) := by decide +kernel
theorem dX9_friends_20 : decode cX9_friends 20 = .ok (.iaload, 1) := by decide +kernel
theorem dX9_friends_21 : decode cX9_friends 21 = .ok (.ishl, 1) := by decide +kernel
theorem dX9_friends_22 : decode cX9_friends 22 = .ok (.istore_n 2, 1) := by decide +kernel
theorem dX9_friends_23 : decode cX9_friends 23 = .ok (.iconst 0, 1) := by decide +kernel
theorem dX9_friends_24 : decode cX9_friends 24 = .ok (.istore_n 3, 1) := by decide +kernel
theorem dX9_friends_25 : decode cX9_friends 25 = .ok (.iload_n 3, 1) := by decide +kernel
theorem dX9_friends_26 : decode cX9_friends 26 = .ok (.iload_n 2, 1) := by decide +kernel
theorem dX9_friends_27 : decode cX9_friends 27 = .ok (.if_icmp .ge 24, 3) := by decide +kernel
theorem dX9_friends_30 : decode cX9_friends 30 = .ok (.aload_n 0, 1) := by decide +kernel
theorem dX9_friends_31 : decode cX9_friends 31 = .ok (.getfield 47, 3) := by decide +kernel
theorem dX9_friends_34 : decode cX9_friends 34 = .ok (.iload_n 3, 1) := by decide +kernel
theorem dX9_friends_35 : decode cX9_friends 35 = .ok (.iload_n 3, 1) := by decide +kernel
theorem dX9_friends_36 : decode cX9_friends 36 = .ok (.ifCond .ne 7, 3) := by decide +kernel
theorem dX9_friends_39 : decode cX9_friends 39 = .ok (.iconst 0, 1) := by decide +kernel
theorem dX9_friends_40 : decode cX9_friends 40 = .ok (.goto 4, 3) := by decide +kernel
theorem dX9_friends_43 : decode cX9_friends 43 = .ok (.iconst (-1), 1) := by decide +kernel
theorem dX9_friends_44 : decode cX9_friends 44 = .ok (.iastore, 1) := by decide +kernel
theorem dX9_friends_45 : decode cX9_friends 45 = .ok (.iinc 3 1, 3) := by decide +kernel
theorem dX9_friends_48 : decode cX9_friends 48 = .ok (.goto (-23), 3) := by decide +kernel
theorem dX9_friends_51 : decode cX9_friends 51 = .ok (.iconst 0, 1) := by decide +kernel
theorem dX9_friends_52 : decode cX9_friends 52 = .ok (.istore_n 3, 1) := by decide +kernel
theorem dX9_friends_53 : decode cX9_friends 53 = .ok (.iconst 0, 1) := by decide +kernel
theorem dX9_friends_54 : decode cX9_friends 54 = .ok (.istore 4, 2) := by decide +kernel
theorem dX9_friends_56 : decode cX9_friends 56 = .ok (.iload 4, 2) := by decide +kernel
theorem dX9_friends_58 : decode cX9_friends 58 = .ok (.aload_n 0, 1) := by decide +kernel
theorem dX9_friends_59 : decode cX9_friends 59 = .ok (.getfield 13, 3) := by decide +kernel
theorem dX9_friends_62 : decode cX9_friends 62 = .ok (.iconst 0, 1) := by decide +kernel
theorem dX9_friends_63 : decode cX9_friends 63 = .ok (.iaload, 1) := by decide +kernel
theorem dX9_friends_64 : decode cX9_friends 64 = .ok (.if_icmp .ge 126, 3) := by decide +kernel
theorem dX9_friends_67 : decode cX9_friends 67 = .ok (.iload_n 2, 1) := by decide +kernel
theorem dX9_friends_68 : decode cX9_friends 68 = .ok (.iconst 1, 1) := by decide +kernel
theorem dX9_friends_69 : decode cX9_friends 69 = .ok (.isub, 1) := by decide +kernel
theorem dX9_friends_70 : decode cX9_friends 70 = .ok (.istore 5, 2) := by decide +kernel
theorem dX9_friends_72 : decode cX9_friends 72 = .ok (.iload 5, 2) := by decide +kernel
theorem dX9_friends_74 : decode cX9_friends 74 = .ok (.ifCond .lt 110, 3) := by decide +kernel
theorem dX9_friends_77 : decode cX9_friends 77 = .ok (.iconst 0, 1) := by decide +kernel
theorem dX9_friends_78 : decode cX9_friends 78 = .ok (.istore 6, 2) := by decide +kernel
theorem dX9_friends_80 : decode cX9_friends 80 = .ok (.iload 6, 2) := by decide +kernel
theorem dX9_friends_82 : decode cX9_friends 82 = .ok (.iload_n 2, 1) := by decide +kernel
theorem dX9_friends_83 : decode cX9_friends 83 = .ok (.if_icmp .ge 95, 3) := by decide +kernel
theorem dX9_friends_86 : decode cX9_friends 86 = .ok (.aload_n 0, 1) := by decide +kernel
theorem dX9_friends_87 : decode cX9_friends 87 = .ok (.getfield 47, 3) := by decide +kernel
theorem dX9_friends_90 : decode cX9_friends 90 = .ok (.iload 5, 2) := by decide +kernel
theorem dX9_friends_92 : decode cX9_friends 92 = .ok (.iaload, 1) := by decide +kernel
theorem dX9_friends_93 : decode cX9_friends 93 = .ok (.ifCond .lt 85, 3) := by decide +kernel
theorem dX9_friends_96 : decode cX9_friends 96 = .ok (.iload 6, 2) := by decide +kernel
theorem dX9_friends_98 : decode cX9_friends 98 = .ok (.iload 5, 2) := by decide +kernel
theorem dX9_friends_100 : decode cX9_friends 100 = .ok (.iand, 1) := by decide +kernel
theorem dX9_friends_101 : decode cX9_friends 101 = .ok (.ifCond .ne 71, 3) := by decide +kernel
theorem dX9_friends_104 : decode cX9_friends 104 = .ok (.iload 6, 2) := by decide +kernel
theorem dX9_friends_106 : decode cX9_friends 106 = .ok (.invokestatic 179, 3) := by decide +kernel
theorem dX9_friends_109 : decode cX9_friends 109 = .ok (.iconst 2, 1) := by decide +kernel
theorem dX9_friends_110 : decode cX9_friends 110 = .ok (.if_icmp .ne 62, 3) := by decide +kernel
theorem dX9_friends_113 : decode cX9_friends 113 = .ok (.aload_n 0, 1) := by decide +kernel
theorem dX9_friends_114 : decode cX9_friends 114 = .ok (.iload 4, 2) := by decide +kernel
theorem dX9_friends_116 : decode cX9_friends 116 = .ok (.iload 6, 2) := by decide +kernel
theorem dX9_friends_118 : decode cX9_friends 118 = .ok (.invokevirtual 133, 3) := by decide +kernel
theorem dX9_friends_121 : decode cX9_friends 121 = .ok (.iload_n 1, 1) := by decide +kernel
theorem dX9_friends_122 : decode cX9_friends 122 = .ok (.if_icmp .lt 50, 3) := by decide +kernel
theorem dX9_friends_125 : decode cX9_friends 125 = .ok (.aload_n 0, 1) := by decide +kernel
theorem dX9_friends_126 : decode cX9_friends 126 = .ok (.getfield 47, 3) := by decide +kernel
theorem dX9_friends_129 : decode cX9_friends 129 = .ok (.iload 5, 2) := by decide +kernel
theorem dX9_friends_131 : decode cX9_friends 131 = .ok (.iload 6, 2) := by decide +kernel
theorem dX9_friends_133 : decode cX9_friends 133 = .ok (.ior, 1) := by decide +kernel
theorem dX9_friends_134 : decode cX9_friends 134 = .ok (.aload_n 0, 1) := by decide +kernel
theorem dX9_friends_135 : decode cX9_friends 135 = .ok (.getfield 47, 3) := by decide +kernel
theorem dX9_friends_138 : decode cX9_friends 138 = .ok (.iload 5, 2) := by decide +kernel
theorem dX9_friends_140 : decode cX9_friends 140 = .ok (.iload 6, 2) := by decide +kernel
theorem dX9_friends_142 : decode cX9_friends 142 = .ok (.ior, 1) := by decide +kernel
theorem dX9_friends_143 : decode cX9_friends 143 = .ok (.iaload, 1) := by decide +kernel
theorem dX9_friends_144 : decode cX9_friends 144 = .ok (.aload_n 0, 1) := by decide +kernel
theorem dX9_friends_145 : decode cX9_friends 145 = .ok (.getfield 47, 3) := by decide +kernel
theorem dX9_friends_148 : decode cX9_friends 148 = .ok (.iload 5, 2) := by decide +kernel
theorem dX9_friends_150 : decode cX9_friends 150 = .ok (.iaload, 1) := by decide +kernel
theorem dX9_friends_151 : decode cX9_friends 151 = .ok (.iconst 1, 1) := by decide +kernel
theorem dX9_friends_152 : decode cX9_friends 152 = .ok (.iadd, 1) := by decide +kernel
theorem dX9_friends_153 : decode cX9_friends 153 = .ok (.invokestatic 188, 3) := by decide +kernel
theorem dX9_friends_156 : decode cX9_friends 156 = .ok (.iastore, 1) := by decide +kernel
theorem dX9_friends_157 : decode cX9_friends 157 = .ok (.iload_n 3, 1) := by decide +kernel
theorem dX9_friends_158 : decode cX9_friends 158 = .ok (.aload_n 0, 1) := by decide +kernel
theorem dX9_friends_159 : decode cX9_friends 159 = .ok (.getfield 47, 3) := by decide +kernel
theorem dX9_friends_162 : decode cX9_friends 162 = .ok (.iload 5, 2) := by decide +kernel
theorem dX9_friends_164 : decode cX9_friends 164 = .ok (.iload 6, 2) := by decide +kernel
theorem dX9_friends_166 : decode cX9_friends 166 = .ok (.ior, 1) := by decide +kernel
theorem dX9_friends_167 : decode cX9_friends 167 = .ok (.iaload, 1) := by decide +kernel
theorem dX9_friends_168 : decode cX9_friends 168 = .ok (.invokestatic 188, 3) := by decide +kernel
theorem dX9_friends_171 : decode cX9_friends 171 = .ok (.istore_n 3, 1) := by decide +kernel
theorem dX9_friends_172 : decode cX9_friends 172 = .ok (.iinc 6 1, 3) := by decide +kernel
theorem dX9_friends_175 : decode cX9_friends 175 = .ok (.goto (-95), 3) := by decide +kernel
theorem dX9_friends_178 : decode cX9_friends 178 = .ok (.iinc 5 (-1), 3) := by decide +kernel
theorem dX9_friends_181 : decode cX9_friends 181 = .ok (.goto (-109), 3) := by decide +kernel
theorem dX9_friends_184 : decode cX9_friends 184 = .ok (.iinc 4 1, 3) := by decide +kernel
theorem dX9_friends_187 : decode cX9_friends 187 = .ok (.goto (-131), 3) := by decide +kernel
theorem dX9_friends_190 : decode cX9_friends 190 = .ok (.iload_n 3, 1) := by decide +kernel
theorem dX9_friends_191 : decode cX9_friends 191 = .ok (.ireturn, 1) := by decide +kernel
theorem dX9_breaksAgain_0 : decode cX9_breaksAgain 0 = .ok (.iload_n 1, 1) := by decide +kernel
theorem dX9_breaksAgain_1 : decode cX9_breaksAgain 1 = .ok (.iconst 2, 1) := by decide +kernel
theorem dX9_breaksAgain_2 : decode cX9_breaksAgain 2 = .ok (.if_icmp .ne 12, 3) := by decide +kernel
theorem dX9_breaksAgain_5 : decode cX9_breaksAgain 5 = .ok (.aload_n 0, 1) := by decide +kernel
theorem dX9_breaksAgain_6 : decode cX9_breaksAgain 6 = .ok (.aload_n 0, 1) := by decide +kernel
theorem dX9_breaksAgain_7 : decode cX9_breaksAgain 7 = .ok (.getfield 25, 3) := by decide +kernel
theorem dX9_breaksAgain_10 : decode cX9_breaksAgain 10 = .ok (.invokevirtual 154, 3) := by decide +kernel
theorem dX9_breaksAgain_13 : decode cX9_breaksAgain 13 = .ok (.ireturn, 1) := by decide +kernel
theorem dX9_breaksAgain_14 : decode cX9_breaksAgain 14 = .ok (.bipush 99, 2) := by decide +kernel
theorem dX9_breaksAgain_16 : decode cX9_breaksAgain 16 = .ok (.istore_n 2, 1) := by decide +kernel
theorem dX9_breaksAgain_17 : decode cX9_breaksAgain 17 = .ok (.iconst 0, 1) := by decide +kernel
theorem dX9_breaksAgain_18 : decode cX9_breaksAgain 18 = .ok (.istore_n 3, 1) := by decide +kernel
theorem dX9_breaksAgain_19 : decode cX9_breaksAgain 19 = .ok (.iload_n 3, 1) := by decide +kernel
theorem dX9_breaksAgain_20 : decode cX9_breaksAgain 20 = .ok (.aload_n 0, 1) := by decide +kernel
theorem dX9_breaksAgain_21 : decode cX9_breaksAgain 21 = .ok (.getfield 13, 3) := by decide +kernel
theorem dX9_breaksAgain_24 : decode cX9_breaksAgain 24 = .ok (.iconst 1, 1) := by decide +kernel
theorem dX9_breaksAgain_25 : decode cX9_breaksAgain 25 = .ok (.iaload, 1) := by decide +kernel
theorem dX9_breaksAgain_26 : decode cX9_breaksAgain 26 = .ok (.if_icmp .ge 61, 3) := by decide +kernel
theorem dX9_breaksAgain_29 : decode cX9_breaksAgain 29 = .ok (.iconst 0, 1) := by decide +kernel
theorem dX9_breaksAgain_30 : decode cX9_breaksAgain 30 = .ok (.istore 4, 2) := by decide +kernel
theorem dX9_breaksAgain_32 : decode cX9_breaksAgain 32 = .ok (.iload 4, 2) := by decide +kernel
theorem dX9_breaksAgain_34 : decode cX9_breaksAgain 34 = .ok (.bipush 66, 2) := by decide +kernel
theorem dX9_breaksAgain_36 : decode cX9_breaksAgain 36 = .ok (.if_icmp .ge 23, 3) := by decide +kernel
theorem dX9_breaksAgain_39 : decode cX9_breaksAgain 39 = .ok (.aload_n 0, 1) := by decide +kernel
theorem dX9_breaksAgain_40 : decode cX9_breaksAgain 40 = .ok (.getfield 28, 3) := by decide +kernel
theorem dX9_breaksAgain_43 : decode cX9_breaksAgain 43 = .ok (.iload 4, 2) := by decide +kernel
theorem dX9_breaksAgain_45 : decode cX9_breaksAgain 45 = .ok (.aload_n 0, 1) := by decide +kernel
theorem dX9_breaksAgain_46 : decode cX9_breaksAgain 46 = .ok (.getfield 25, 3) := by decide +kernel
theorem dX9_breaksAgain_49 : decode cX9_breaksAgain 49 = .ok (.iload 4, 2) := by decide +kernel
theorem dX9_breaksAgain_51 : decode cX9_breaksAgain 51 = .ok (.iaload, 1) := by decide +kernel
theorem dX9_breaksAgain_52 : decode cX9_breaksAgain 52 = .ok (.iastore, 1) := by decide +kernel
theorem dX9_breaksAgain_53 : decode cX9_breaksAgain 53 = .ok (.iinc 4 1, 3) := by decide +kernel
theorem dX9_breaksAgain_56 : decode cX9_breaksAgain 56 = .ok (.goto (-24), 3) := by decide +kernel
theorem dX9_breaksAgain_59 : decode cX9_breaksAgain 59 = .ok (.aload_n 0, 1) := by decide +kernel
theorem dX9_breaksAgain_60 : decode cX9_breaksAgain 60 = .ok (.aload_n 0, 1) := by decide +kernel
theorem dX9_breaksAgain_61 : decode cX9_breaksAgain 61 = .ok (.getfield 28, 3) := by decide +kernel
theorem dX9_breaksAgain_64 : decode cX9_breaksAgain 64 = .ok (.iload_n 3, 1) := by decide +kernel
theorem dX9_breaksAgain_65 : decode cX9_breaksAgain 65 = .ok (.invokevirtual 146, 3) := by decide +kernel
theorem dX9_breaksAgain_68 : decode cX9_breaksAgain 68 = .ok (.iload_n 2, 1) := by decide +kernel
theorem dX9_breaksAgain_69 : decode cX9_breaksAgain 69 = .ok (.aload_n 0, 1) := by decide +kernel
theorem dX9_breaksAgain_70 : decode cX9_breaksAgain 70 = .ok (.aload_n 0, 1) := by decide +kernel
theorem dX9_breaksAgain_71 : decode cX9_breaksAgain 71 = .ok (.getfield 28, 3) := by decide +kernel
theorem dX9_breaksAgain_74 : decode cX9_breaksAgain 74 = .ok (.invokevirtual 154, 3) := by decide +kernel
theorem dX9_breaksAgain_77 : decode cX9_breaksAgain 77 = .ok (.invokestatic 191, 3) := by decide +kernel
theorem dX9_breaksAgain_80 : decode cX9_breaksAgain 80 = .ok (.istore_n 2, 1) := by decide +kernel
theorem dX9_breaksAgain_81 : decode cX9_breaksAgain 81 = .ok (.iinc 3 1, 3) := by decide +kernel
theorem dX9_breaksAgain_84 : decode cX9_breaksAgain 84 = .ok (.goto (-65), 3) := by decide +kernel
theorem dX9_breaksAgain_87 : decode cX9_breaksAgain 87 = .ok (.iload_n 2, 1) := by decide +kernel
theorem dX9_breaksAgain_88 : decode cX9_breaksAgain 88 = .ok (.ireturn, 1) := by decide +kernel
theorem dX9_mends_0 : decode cX9_mends 0 = .ok (.aload_n 0, 1) := by decide +kernel
theorem dX9_mends_1 : decode cX9_mends 1 = .ok (.iload_n 1, 1) := by decide +kernel
theorem dX9_mends_2 : decode cX9_mends 2 = .ok (.invokevirtual 197, 3) := by decide +kernel
theorem dX9_mends_5 : decode cX9_mends 5 = .ok (.istore_n 2, 1) := by decide +kernel
theorem dX9_mends_6 : decode cX9_mends 6 = .ok (.iconst 0, 1) := by decide +kernel
theorem dX9_mends_7 : decode cX9_mends 7 = .ok (.istore_n 3, 1) := by decide +kernel
theorem dX9_mends_8 : decode cX9_mends 8 = .ok (.iload_n 3, 1) := by decide +kernel
theorem dX9_mends_9 : decode cX9_mends 9 = .ok (.aload_n 0, 1) := by decide +kernel
theorem dX9_mends_10 : decode cX9_mends 10 = .ok (.getfield 13, 3) := by decide +kernel
theorem dX9_mends_13 : decode cX9_mends 13 = .ok (.iconst 1, 1) := by decide +kernel
theorem dX9_mends_14 : decode cX9_mends 14 = .ok (.iaload, 1) := by decide +kernel
theorem dX9_mends_15 : decode cX9_mends 15 = .ok (.if_icmp .ge 86, 3) := by decide +kernel
theorem dX9_mends_18 : decode cX9_mends 18 = .ok (.iconst 0, 1) := by decide +kernel
theorem dX9_mends_19 : decode cX9_mends 19 = .ok (.istore 4, 2) := by decide +kernel
theorem dX9_mends_21 : decode cX9_mends 21 = .ok (.iload 4, 2) := by decide +kernel
theorem dX9_mends_23 : decode cX9_mends 23 = .ok (.aload_n 0, 1) := by decide +kernel
theorem dX9_mends_24 : decode cX9_mends 24 = .ok (.getfield 13, 3) := by decide +kernel
theorem dX9_mends_27 : decode cX9_mends 27 = .ok (.iconst 0, 1) := by decide +kernel
theorem dX9_mends_28 : decode cX9_mends 28 = .ok (.iaload, 1) := by decide +kernel
theorem dX9_mends_29 : decode cX9_mends 29 = .ok (.if_icmp .ge 66, 3) := by decide +kernel
theorem dX9_mends_32 : decode cX9_mends 32 = .ok (.aload_n 0, 1) := by decide +kernel
theorem dX9_mends_33 : decode cX9_mends 33 = .ok (.getfield 25, 3) := by decide +kernel
theorem dX9_mends_36 : decode cX9_mends 36 = .ok (.iconst 2, 1) := by decide +kernel
theorem dX9_mends_37 : decode cX9_mends 37 = .ok (.bipush 8, 2) := by decide +kernel
theorem dX9_mends_39 : decode cX9_mends 39 = .ok (.iload_n 3, 1) := by decide +kernel
theorem dX9_mends_40 : decode cX9_mends 40 = .ok (.imul, 1) := by decide +kernel
theorem dX9_mends_41 : decode cX9_mends 41 = .ok (.iadd, 1) := by decide +kernel
theorem dX9_mends_42 : decode cX9_mends 42 = .ok (.iload 4, 2) := by decide +kernel
theorem dX9_mends_44 : decode cX9_mends 44 = .ok (.iadd, 1) := by decide +kernel
theorem dX9_mends_45 : decode cX9_mends 45 = .ok (.iaload, 1) := by decide +kernel
theorem dX9_mends_46 : decode cX9_mends 46 = .ok (.istore 5, 2) := by decide +kernel
theorem dX9_mends_48 : decode cX9_mends 48 = .ok (.aload_n 0, 1) := by decide +kernel
theorem dX9_mends_49 : decode cX9_mends 49 = .ok (.getfield 25, 3) := by decide +kernel
theorem dX9_mends_52 : decode cX9_mends 52 = .ok (.iconst 2, 1) := by decide +kernel
theorem dX9_mends_53 : decode cX9_mends 53 = .ok (.bipush 8, 2) := by decide +kernel
theorem dX9_mends_55 : decode cX9_mends 55 = .ok (.iload_n 3, 1) := by decide +kernel
theorem dX9_mends_56 : decode cX9_mends 56 = .ok (.imul, 1) := by decide +kernel
theorem dX9_mends_57 : decode cX9_mends 57 = .ok (.iadd, 1) := by decide +kernel
theorem dX9_mends_58 : decode cX9_mends 58 = .ok (.iload 4, 2) := by decide +kernel
theorem dX9_mends_60 : decode cX9_mends 60 = .ok (.iadd, 1) := by decide +kernel
theorem dX9_mends_61 : decode cX9_mends 61 = .ok (.iconst (-1), 1) := by decide +kernel
theorem dX9_mends_62 : decode cX9_mends 62 = .ok (.iastore, 1) := by decide +kernel
theorem dX9_mends_63 : decode cX9_mends 63 = .ok (.iload_n 2, 1) := by decide +kernel
theorem dX9_mends_64 : decode cX9_mends 64 = .ok (.aload_n 0, 1) := by decide +kernel
theorem dX9_mends_65 : decode cX9_mends 65 = .ok (.iload_n 1, 1) := by decide +kernel
theorem dX9_mends_66 : decode cX9_mends 66 = .ok (.invokevirtual 197, 3) := by decide +kernel
theorem dX9_mends_69 : decode cX9_mends 69 = .ok (.invokestatic 188, 3) := by decide +kernel
theorem dX9_mends_72 : decode cX9_mends 72 = .ok (.istore_n 2, 1) := by decide +kernel
theorem dX9_mends_73 : decode cX9_mends 73 = .ok (.aload_n 0, 1) := by decide +kernel
theorem dX9_mends_74 : decode cX9_mends 74 = .ok (.getfield 25, 3) := by decide +kernel
theorem dX9_mends_77 : decode cX9_mends 77 = .ok (.iconst 2, 1) := by decide +kernel
theorem dX9_mends_78 : decode cX9_mends 78 = .ok (.bipush 8, 2) := by decide +kernel
theorem dX9_mends_80 : decode cX9_mends 80 = .ok (.iload_n 3, 1) := by decide +kernel
theorem dX9_mends_81 : decode cX9_mends 81 = .ok (.imul, 1) := by decide +kernel
theorem dX9_mends_82 : decode cX9_mends 82 = .ok (.iadd, 1) := by decide +kernel
theorem dX9_mends_83 : decode cX9_mends 83 = .ok (.iload 4, 2) := by decide +kernel
theorem dX9_mends_85 : decode cX9_mends 85 = .ok (.iadd, 1) := by decide +kernel
theorem dX9_mends_86 : decode cX9_mends 86 = .ok (.iload 5, 2) := by decide +kernel
theorem dX9_mends_88 : decode cX9_mends 88 = .ok (.iastore, 1) := by decide +kernel
theorem dX9_mends_89 : decode cX9_mends 89 = .ok (.iinc 4 1, 3) := by decide +kernel
theorem dX9_mends_92 : decode cX9_mends 92 = .ok (.goto (-71), 3) := by decide +kernel
theorem dX9_mends_95 : decode cX9_mends 95 = .ok (.iinc 3 1, 3) := by decide +kernel
theorem dX9_mends_98 : decode cX9_mends 98 = .ok (.goto (-90), 3) := by decide +kernel
theorem dX9_mends_101 : decode cX9_mends 101 = .ok (.iload_n 2, 1) := by decide +kernel
theorem dX9_mends_102 : decode cX9_mends 102 = .ok (.ireturn, 1) := by decide +kernel
theorem dX9_byTurns_0 : decode cX9_byTurns 0 = .ok (.aload_n 0, 1) := by decide +kernel
theorem dX9_byTurns_1 : decode cX9_byTurns 1 = .ok (.iconst 0, 1) := by decide +kernel
theorem dX9_byTurns_2 : decode cX9_byTurns 2 = .ok (.putfield 56, 3) := by decide +kernel
theorem dX9_byTurns_5 : decode cX9_byTurns 5 = .ok (.iload_n 1, 1) := by decide +kernel
theorem dX9_byTurns_6 : decode cX9_byTurns 6 = .ok (.iconst 0, 1) := by decide +kernel
theorem dX9_byTurns_7 : decode cX9_byTurns 7 = .ok (.iconst 3, 1) := by decide +kernel
theorem dX9_byTurns_8 : decode cX9_byTurns 8 = .ok (.invokestatic 60, 3) := by decide +kernel
theorem dX9_byTurns_11 : decode cX9_byTurns 11 = .ok (.ifCond .ne 5, 3) := by decide +kernel
theorem dX9_byTurns_14 : decode cX9_byTurns 14 = .ok (.iconst (-1), 1) := by decide +kernel
theorem dX9_byTurns_15 : decode cX9_byTurns 15 = .ok (.ireturn, 1) := by decide +kernel
theorem dX9_byTurns_16 : decode cX9_byTurns 16 = .ok (.aload_n 0, 1) := by decide +kernel
theorem dX9_byTurns_17 : decode cX9_byTurns 17 = .ok (.getfield 13, 3) := by decide +kernel
theorem dX9_byTurns_20 : decode cX9_byTurns 20 = .ok (.iconst 1, 1) := by decide +kernel
theorem dX9_byTurns_21 : decode cX9_byTurns 21 = .ok (.iaload, 1) := by decide +kernel
theorem dX9_byTurns_22 : decode cX9_byTurns 22 = .ok (.istore_n 2, 1) := by decide +kernel
theorem dX9_byTurns_23 : decode cX9_byTurns 23 = .ok (.iload_n 1, 1) := by decide +kernel
theorem dX9_byTurns_24 : decode cX9_byTurns 24 = .ok (.ifCond .eq 7, 3) := by decide +kernel
theorem dX9_byTurns_27 : decode cX9_byTurns 27 = .ok (.iload_n 2, 1) := by decide +kernel
theorem dX9_byTurns_28 : decode cX9_byTurns 28 = .ok (.ifCond .ne 20, 3) := by decide +kernel
theorem dX9_byTurns_31 : decode cX9_byTurns 31 = .ok (.iload_n 2, 1) := by decide +kernel
theorem dX9_byTurns_32 : decode cX9_byTurns 32 = .ok (.ifCond .ne 7, 3) := by decide +kernel
theorem dX9_byTurns_35 : decode cX9_byTurns 35 = .ok (.iconst 0, 1) := by decide +kernel
theorem dX9_byTurns_36 : decode cX9_byTurns 36 = .ok (.goto 11, 3) := by decide +kernel
theorem dX9_byTurns_39 : decode cX9_byTurns 39 = .ok (.aload_n 0, 1) := by decide +kernel
theorem dX9_byTurns_40 : decode cX9_byTurns 40 = .ok (.aload_n 0, 1) := by decide +kernel
theorem dX9_byTurns_41 : decode cX9_byTurns 41 = .ok (.getfield 22, 3) := by decide +kernel
theorem dX9_byTurns_44 : decode cX9_byTurns 44 = .ok (.invokevirtual 154, 3) := by decide +kernel
theorem dX9_byTurns_47 : decode cX9_byTurns 47 = .ok (.ireturn, 1) := by decide +kernel
theorem dX9_byTurns_48 : decode cX9_byTurns 48 = .ok (.bipush 99, 2) := by decide +kernel
theorem dX9_byTurns_50 : decode cX9_byTurns 50 = .ok (.istore_n 3, 1) := by decide +kernel
theorem dX9_byTurns_51 : decode cX9_byTurns 51 = .ok (.iconst 0, 1) := by decide +kernel
theorem dX9_byTurns_52 : decode cX9_byTurns 52 = .ok (.istore 4, 2) := by decide +kernel
theorem dX9_byTurns_54 : decode cX9_byTurns 54 = .ok (.iload 4, 2) := by decide +kernel
theorem dX9_byTurns_56 : decode cX9_byTurns 56 = .ok (.iload_n 2, 1) := by decide +kernel
theorem dX9_byTurns_57 : decode cX9_byTurns 57 = .ok (.if_icmp .ge 49, 3) := by decide +kernel
theorem dX9_byTurns_60 : decode cX9_byTurns 60 = .ok (.aload_n 0, 1) := by decide +kernel
theorem dX9_byTurns_61 : decode cX9_byTurns 61 = .ok (.invokevirtual 143, 3) := by decide +kernel
theorem dX9_byTurns_64 : decode cX9_byTurns 64 = .ok (.aload_n 0, 1) := by decide +kernel
theorem dX9_byTurns_65 : decode cX9_byTurns 65 = .ok (.aload_n 0, 1) := by decide +kernel
theorem dX9_byTurns_66 : decode cX9_byTurns 66 = .ok (.getfield 25, 3) := by decide +kernel
theorem dX9_byTurns_69 : decode cX9_byTurns 69 = .ok (.iload 4, 2) := by decide +kernel
theorem dX9_byTurns_71 : decode cX9_byTurns 71 = .ok (.invokevirtual 146, 3) := by decide +kernel
theorem dX9_byTurns_74 : decode cX9_byTurns 74 = .ok (.iload_n 3, 1) := by decide +kernel
theorem dX9_byTurns_75 : decode cX9_byTurns 75 = .ok (.iload_n 1, 1) := by decide +kernel
theorem dX9_byTurns_76 : decode cX9_byTurns 76 = .ok (.iconst 1, 1) := by decide +kernel
theorem dX9_byTurns_77 : decode cX9_byTurns 77 = .ok (.if_icmp .ne 14, 3) := by decide +kernel
theorem dX9_byTurns_80 : decode cX9_byTurns 80 = .ok (.aload_n 0, 1) := by decide +kernel
theorem dX9_byTurns_81 : decode cX9_byTurns 81 = .ok (.aload_n 0, 1) := by decide +kernel
theorem dX9_byTurns_82 : decode cX9_byTurns 82 = .ok (.getfield 25, 3) := by decide +kernel
theorem dX9_byTurns_85 : decode cX9_byTurns 85 = .ok (.invokevirtual 154, 3) := by decide +kernel
theorem dX9_byTurns_88 : decode cX9_byTurns 88 = .ok (.goto 8, 3) := by decide +kernel
theorem dX9_byTurns_91 : decode cX9_byTurns 91 = .ok (.aload_n 0, 1) := by decide +kernel
theorem dX9_byTurns_92 : decode cX9_byTurns 92 = .ok (.iload_n 1, 1) := by decide +kernel
theorem dX9_byTurns_93 : decode cX9_byTurns 93 = .ok (.invokevirtual 194, 3) := by decide +kernel
theorem dX9_byTurns_96 : decode cX9_byTurns 96 = .ok (.invokestatic 191, 3) := by decide +kernel
theorem dX9_byTurns_99 : decode cX9_byTurns 99 = .ok (.istore_n 3, 1) := by decide +kernel
theorem dX9_byTurns_100 : decode cX9_byTurns 100 = .ok (.iinc 4 1, 3) := by decide +kernel
theorem dX9_byTurns_103 : decode cX9_byTurns 103 = .ok (.goto (-49), 3) := by decide +kernel
theorem dX9_byTurns_106 : decode cX9_byTurns 106 = .ok (.iload_n 3, 1) := by decide +kernel
theorem dX9_byTurns_107 : decode cX9_byTurns 107 = .ok (.ireturn, 1) := by decide +kernel
theorem dX9_gcd_0 : decode cX9_gcd 0 = .ok (.lload_n 0, 1) := by decide +kernel
theorem dX9_gcd_1 : decode cX9_gcd 1 = .ok (.lstore 4, 2) := by decide +kernel
theorem dX9_gcd_3 : decode cX9_gcd 3 = .ok (.lload_n 2, 1) := by decide +kernel
theorem dX9_gcd_4 : decode cX9_gcd 4 = .ok (.lstore 6, 2) := by decide +kernel
theorem dX9_gcd_6 : decode cX9_gcd 6 = .ok (.lload 6, 2) := by decide +kernel
theorem dX9_gcd_8 : decode cX9_gcd 8 = .ok (.lconst 0, 1) := by decide +kernel
theorem dX9_gcd_9 : decode cX9_gcd 9 = .ok (.lcmp, 1) := by decide +kernel
theorem dX9_gcd_10 : decode cX9_gcd 10 = .ok (.ifCond .eq 21, 3) := by decide +kernel
theorem dX9_gcd_13 : decode cX9_gcd 13 = .ok (.lload 4, 2) := by decide +kernel
theorem dX9_gcd_15 : decode cX9_gcd 15 = .ok (.lload 6, 2) := by decide +kernel
theorem dX9_gcd_17 : decode cX9_gcd 17 = .ok (.lrem, 1) := by decide +kernel
theorem dX9_gcd_18 : decode cX9_gcd 18 = .ok (.lstore 8, 2) := by decide +kernel
theorem dX9_gcd_20 : decode cX9_gcd 20 = .ok (.lload 6, 2) := by decide +kernel
theorem dX9_gcd_22 : decode cX9_gcd 22 = .ok (.lstore 4, 2) := by decide +kernel
theorem dX9_gcd_24 : decode cX9_gcd 24 = .ok (.lload 8, 2) := by decide +kernel
theorem dX9_gcd_26 : decode cX9_gcd 26 = .ok (.lstore 6, 2) := by decide +kernel
theorem dX9_gcd_28 : decode cX9_gcd 28 = .ok (.goto (-22), 3) := by decide +kernel
theorem dX9_gcd_31 : decode cX9_gcd 31 = .ok (.lload 4, 2) := by decide +kernel
theorem dX9_gcd_33 : decode cX9_gcd 33 = .ok (.lreturn, 1) := by decide +kernel
theorem dX9_odds_0 : decode cX9_odds 0 = .ok (.aload_n 0, 1) := by decide +kernel
theorem dX9_odds_1 : decode cX9_odds 1 = .ok (.iconst 0, 1) := by decide +kernel
theorem dX9_odds_2 : decode cX9_odds 2 = .ok (.putfield 56, 3) := by decide +kernel
theorem dX9_odds_5 : decode cX9_odds 5 = .ok (.iload_n 1, 1) := by decide +kernel
theorem dX9_odds_6 : decode cX9_odds 6 = .ok (.iconst 0, 1) := by decide +kernel
theorem dX9_odds_7 : decode cX9_odds 7 = .ok (.bipush 10, 2) := by decide +kernel
theorem dX9_odds_9 : decode cX9_odds 9 = .ok (.invokestatic 60, 3) := by decide +kernel
theorem dX9_odds_12 : decode cX9_odds 12 = .ok (.ifCond .eq 19, 3) := by decide +kernel
theorem dX9_odds_15 : decode cX9_odds 15 = .ok (.iload_n 2, 1) := by decide +kernel
theorem dX9_odds_16 : decode cX9_odds 16 = .ok (.invokestatic 173, 3) := by decide +kernel
theorem dX9_odds_19 : decode cX9_odds 19 = .ok (.ifCond .eq 12, 3) := by decide +kernel
theorem dX9_odds_22 : decode cX9_odds 22 = .ok (.iload_n 3, 1) := by decide +kernel
theorem dX9_odds_23 : decode cX9_odds 23 = .ok (.iconst 0, 1) := by decide +kernel
theorem dX9_odds_24 : decode cX9_odds 24 = .ok (.iconst 1, 1) := by decide +kernel
theorem dX9_odds_25 : decode cX9_odds 25 = .ok (.invokestatic 60, 3) := by decide +kernel
theorem dX9_odds_28 : decode cX9_odds 28 = .ok (.ifCond .ne 5, 3) := by decide +kernel
theorem dX9_odds_31 : decode cX9_odds 31 = .ok (.iconst (-1), 1) := by decide +kernel
theorem dX9_odds_32 : decode cX9_odds 32 = .ok (.ireturn, 1) := by decide +kernel
theorem dX9_odds_33 : decode cX9_odds 33 = .ok (.lconst 0, 1) := by decide +kernel
theorem dX9_odds_34 : decode cX9_odds 34 = .ok (.lstore 4, 2) := by decide +kernel
theorem dX9_odds_36 : decode cX9_odds 36 = .ok (.lconst 1, 1) := by decide +kernel
theorem dX9_odds_37 : decode cX9_odds 37 = .ok (.lstore 6, 2) := by decide +kernel
theorem dX9_odds_39 : decode cX9_odds 39 = .ok (.iconst 0, 1) := by decide +kernel
theorem dX9_odds_40 : decode cX9_odds 40 = .ok (.istore 8, 2) := by decide +kernel
theorem dX9_odds_42 : decode cX9_odds 42 = .ok (.iload 8, 2) := by decide +kernel
theorem dX9_odds_44 : decode cX9_odds 44 = .ok (.iconst 1, 1) := by decide +kernel
theorem dX9_odds_45 : decode cX9_odds 45 = .ok (.aload_n 0, 1) := by decide +kernel
theorem dX9_odds_46 : decode cX9_odds 46 = .ok (.getfield 13, 3) := by decide +kernel
theorem dX9_odds_49 : decode cX9_odds 49 = .ok (.iconst 1, 1) := by decide +kernel
theorem dX9_odds_50 : decode cX9_odds 50 = .ok (.iaload, 1) := by decide +kernel
theorem dX9_odds_51 : decode cX9_odds 51 = .ok (.ishl, 1) := by decide +kernel
theorem dX9_odds_52 : decode cX9_odds 52 = .ok (.if_icmp .ge 115, 3) := by decide +kernel
theorem dX9_odds_55 : decode cX9_odds 55 = .ok (.aload_n 0, 1) := by decide +kernel
theorem dX9_odds_56 : decode cX9_odds 56 = .ok (.invokevirtual 143, 3) := by decide +kernel
theorem dX9_odds_59 : decode cX9_odds 59 = .ok (.lconst 1, 1) := by decide +kernel
theorem dX9_odds_60 : decode cX9_odds 60 = .ok (.lstore 9, 2) := by decide +kernel
theorem dX9_odds_62 : decode cX9_odds 62 = .ok (.lconst 1, 1) := by decide +kernel
theorem dX9_odds_63 : decode cX9_odds 63 = .ok (.lstore 6, 2) := by decide +kernel
theorem dX9_odds_65 : decode cX9_odds 65 = .ok (.iconst 0, 1) := by decide +kernel
theorem dX9_odds_66 : decode cX9_odds 66 = .ok (.istore 11, 2) := by decide +kernel
theorem dX9_odds_68 : decode cX9_odds 68 = .ok (.iload 11, 2) := by decide +kernel
theorem dX9_odds_70 : decode cX9_odds 70 = .ok (.aload_n 0, 1) := by decide +kernel
theorem dX9_odds_71 : decode cX9_odds 71 = .ok (.getfield 13, 3) := by decide +kernel
theorem dX9_odds_74 : decode cX9_odds 74 = .ok (.iconst 1, 1) := by decide +kernel
theorem dX9_odds_75 : decode cX9_odds 75 = .ok (.iaload, 1) := by decide +kernel
theorem dX9_odds_76 : decode cX9_odds 76 = .ok (.if_icmp .ge 62, 3) := by decide +kernel
theorem dX9_odds_79 : decode cX9_odds 79 = .ok (.lload 9, 2) := by decide +kernel
theorem dX9_odds_81 : decode cX9_odds 81 = .ok (.iload 8, 2) := by decide +kernel
theorem dX9_odds_83 : decode cX9_odds 83 = .ok (.iload 11, 2) := by decide +kernel
theorem dX9_odds_85 : decode cX9_odds 85 = .ok (.invokestatic 118, 3) := by decide +kernel
theorem dX9_odds_88 : decode cX9_odds 88 = .ok (.ifCond .eq 8, 3) := by decide +kernel
theorem dX9_odds_91 : decode cX9_odds 91 = .ok (.iload_n 1, 1) := by decide +kernel
theorem dX9_odds_92 : decode cX9_odds 92 = .ok (.i2l, 1) := by decide +kernel
theorem dX9_odds_93 : decode cX9_odds 93 = .ok (.goto 8, 3) := by decide +kernel
theorem dX9_odds_96 : decode cX9_odds 96 = .ok (.bipush 10, 2) := by decide +kernel
theorem dX9_odds_98 : decode cX9_odds 98 = .ok (.iload_n 1, 1) := by decide +kernel
theorem dX9_odds_99 : decode cX9_odds 99 = .ok (.isub, 1) := by decide +kernel
theorem dX9_odds_100 : decode cX9_odds 100 = .ok (.i2l, 1) := by decide +kernel
theorem dX9_odds_101 : decode cX9_odds 101 = .ok (.lmul, 1) := by decide +kernel
theorem dX9_odds_102 : decode cX9_odds 102 = .ok (.lstore 9, 2) := by decide +kernel
theorem dX9_odds_104 : decode cX9_odds 104 = .ok (.lload 6, 2) := by decide +kernel
theorem dX9_odds_106 : decode cX9_odds 106 = .ok (.ldc2_w 200, 3) := by decide +kernel
theorem dX9_odds_109 : decode cX9_odds 109 = .ok (.lmul, 1) := by decide +kernel
theorem dX9_odds_110 : decode cX9_odds 110 = .ok (.lstore 6, 2) := by decide +kernel
theorem dX9_odds_112 : decode cX9_odds 112 = .ok (.iload 8, 2) := by decide +kernel
theorem dX9_odds_114 : decode cX9_odds 114 = .ok (.iload 11, 2) := by decide +kernel
theorem dX9_odds_116 : decode cX9_odds 116 = .ok (.invokestatic 118, 3) := by decide +kernel
theorem dX9_odds_119 : decode cX9_odds 119 = .ok (.ifCond .eq 13, 3) := by decide +kernel
theorem dX9_odds_122 : decode cX9_odds 122 = .ok (.aload_n 0, 1) := by decide +kernel
theorem dX9_odds_123 : decode cX9_odds 123 = .ok (.aload_n 0, 1) := by decide +kernel
theorem dX9_odds_124 : decode cX9_odds 124 = .ok (.getfield 25, 3) := by decide +kernel
theorem dX9_odds_127 : decode cX9_odds 127 = .ok (.iload 11, 2) := by decide +kernel
theorem dX9_odds_129 : decode cX9_odds 129 = .ok (.invokevirtual 146, 3) := by decide +kernel
theorem dX9_odds_132 : decode cX9_odds 132 = .ok (.iinc 11 1, 3) := by decide +kernel
theorem dX9_odds_135 : decode cX9_odds 135 = .ok (.goto (-67), 3) := by decide +kernel
theorem dX9_odds_138 : decode cX9_odds 138 = .ok (.lload 4, 2) := by decide +kernel
theorem dX9_odds_140 : decode cX9_odds 140 = .ok (.aload_n 0, 1) := by decide +kernel
theorem dX9_odds_141 : decode cX9_odds 141 = .ok (.aload_n 0, 1) := by decide +kernel
theorem dX9_odds_142 : decode cX9_odds 142 = .ok (.getfield 25, 3) := by decide +kernel
theorem dX9_odds_145 : decode cX9_odds 145 = .ok (.invokevirtual 154, 3) := by decide +kernel
theorem dX9_odds_148 : decode cX9_odds 148 = .ok (.iload_n 2, 1) := by decide +kernel
theorem dX9_odds_149 : decode cX9_odds 149 = .ok (.if_icmp .lt 8, 3) := by decide +kernel
theorem dX9_odds_152 : decode cX9_odds 152 = .ok (.lload 9, 2) := by decide +kernel
theorem dX9_odds_154 : decode cX9_odds 154 = .ok (.goto 4, 3) := by decide +kernel
theorem dX9_odds_157 : decode cX9_odds 157 = .ok (.lconst 0, 1) := by decide +kernel
theorem dX9_odds_158 : decode cX9_odds 158 = .ok (.ladd, 1) := by decide +kernel
theorem dX9_odds_159 : decode cX9_odds 159 = .ok (.lstore 4, 2) := by decide +kernel
theorem dX9_odds_161 : decode cX9_odds 161 = .ok (.iinc 8 1, 3) := by decide +kernel
theorem dX9_odds_164 : decode cX9_odds 164 = .ok (.goto (-122), 3) := by decide +kernel
theorem dX9_odds_167 : decode cX9_odds 167 = .ok (.lload 4, 2) := by decide +kernel
theorem dX9_odds_169 : decode cX9_odds 169 = .ok (.lload 6, 2) := by decide +kernel
theorem dX9_odds_171 : decode cX9_odds 171 = .ok (.invokestatic 202, 3) := by decide +kernel
theorem dX9_odds_174 : decode cX9_odds 174 = .ok (.lstore 8, 2) := by decide +kernel
theorem dX9_odds_176 : decode cX9_odds 176 = .ok (.iload_n 3, 1) := by decide +kernel
theorem dX9_odds_177 : decode cX9_odds 177 = .ok (.ifCond .ne 11, 3) := by decide +kernel
theorem dX9_odds_180 : decode cX9_odds 180 = .ok (.lload 4, 2) := by decide +kernel
theorem dX9_odds_182 : decode cX9_odds 182 = .ok (.lload 8, 2) := by decide +kernel
theorem dX9_odds_184 : decode cX9_odds 184 = .ok (.ldiv, 1) := by decide +kernel
theorem dX9_odds_185 : decode cX9_odds 185 = .ok (.goto 8, 3) := by decide +kernel
theorem dX9_odds_188 : decode cX9_odds 188 = .ok (.lload 6, 2) := by decide +kernel
theorem dX9_odds_190 : decode cX9_odds 190 = .ok (.lload 8, 2) := by decide +kernel
theorem dX9_odds_192 : decode cX9_odds 192 = .ok (.ldiv, 1) := by decide +kernel
theorem dX9_odds_193 : decode cX9_odds 193 = .ok (.l2i, 1) := by decide +kernel
theorem dX9_odds_194 : decode cX9_odds 194 = .ok (.ireturn, 1) := by decide +kernel
theorem dX9_winter_0 : decode cX9_winter 0 = .ok (.aload_n 0, 1) := by decide +kernel
theorem dX9_winter_1 : decode cX9_winter 1 = .ok (.iconst 0, 1) := by decide +kernel
theorem dX9_winter_2 : decode cX9_winter 2 = .ok (.putfield 56, 3) := by decide +kernel
theorem dX9_winter_5 : decode cX9_winter 5 = .ok (.iload_n 1, 1) := by decide +kernel
theorem dX9_winter_6 : decode cX9_winter 6 = .ok (.iconst 0, 1) := by decide +kernel
theorem dX9_winter_7 : decode cX9_winter 7 = .ok (.bipush 60, 2) := by decide +kernel
theorem dX9_winter_9 : decode cX9_winter 9 = .ok (.invokestatic 60, 3) := by decide +kernel
theorem dX9_winter_12 : decode cX9_winter 12 = .ok (.ifCond .eq 20, 3) := by decide +kernel
theorem dX9_winter_15 : decode cX9_winter 15 = .ok (.iload_n 2, 1) := by decide +kernel
theorem dX9_winter_16 : decode cX9_winter 16 = .ok (.iconst 1, 1) := by decide +kernel
theorem dX9_winter_17 : decode cX9_winter 17 = .ok (.ldc 206, 2) := by decide +kernel
theorem dX9_winter_19 : decode cX9_winter 19 = .ok (.invokestatic 60, 3) := by decide +kernel
theorem dX9_winter_22 : decode cX9_winter 22 = .ok (.ifCond .eq 10, 3) := by decide +kernel
theorem dX9_winter_25 : decode cX9_winter 25 = .ok (.iload_n 3, 1) := by decide +kernel
theorem dX9_winter_26 : decode cX9_winter 26 = .ok (.invokestatic 173, 3) := by decide +kernel
theorem dX9_winter_29 : decode cX9_winter 29 = .ok (.ifCond .ne 5, 3) := by decide +kernel
theorem dX9_winter_32 : decode cX9_winter 32 = .ok (.iconst (-1), 1) := by decide +kernel
theorem dX9_winter_33 : decode cX9_winter 33 = .ok (.ireturn, 1) := by decide +kernel
theorem dX9_winter_34 : decode cX9_winter 34 = .ok (.aload_n 0, 1) := by decide +kernel
theorem dX9_winter_35 : decode cX9_winter 35 = .ok (.invokevirtual 143, 3) := by decide +kernel
theorem dX9_winter_38 : decode cX9_winter 38 = .ok (.iload_n 2, 1) := by decide +kernel
theorem dX9_winter_39 : decode cX9_winter 39 = .ok (.i2l, 1) := by decide +kernel
theorem dX9_winter_40 : decode cX9_winter 40 = .ok (.lstore 4, 2) := by decide +kernel
theorem dX9_winter_42 : decode cX9_winter 42 = .ok (.iconst 0, 1) := by decide +kernel
theorem dX9_winter_43 : decode cX9_winter 43 = .ok (.istore 6, 2) := by decide +kernel
theorem dX9_winter_45 : decode cX9_winter 45 = .ok (.iconst 0, 1) := by decide +kernel
theorem dX9_winter_46 : decode cX9_winter 46 = .ok (.istore 7, 2) := by decide +kernel
theorem dX9_winter_48 : decode cX9_winter 48 = .ok (.iload 7, 2) := by decide +kernel
theorem dX9_winter_50 : decode cX9_winter 50 = .ok (.iload_n 1, 1) := by decide +kernel
theorem dX9_winter_51 : decode cX9_winter 51 = .ok (.if_icmp .ge 141, 3) := by decide +kernel
theorem dX9_winter_54 : decode cX9_winter 54 = .ok (.lload 4, 2) := by decide +kernel
theorem dX9_winter_56 : decode cX9_winter 56 = .ok (.ldc2_w 207, 3) := by decide +kernel
theorem dX9_winter_59 : decode cX9_winter 59 = .ok (.lmul, 1) := by decide +kernel
theorem dX9_winter_60 : decode cX9_winter 60 = .ok (.ldc2_w 209, 3) := by decide +kernel
theorem dX9_winter_63 : decode cX9_winter 63 = .ok (.lrem, 1) := by decide +kernel
theorem dX9_winter_64 : decode cX9_winter 64 = .ok (.lstore 4, 2) := by decide +kernel
theorem dX9_winter_66 : decode cX9_winter 66 = .ok (.aload_n 0, 1) := by decide +kernel
theorem dX9_winter_67 : decode cX9_winter 67 = .ok (.getfield 13, 3) := by decide +kernel
theorem dX9_winter_70 : decode cX9_winter 70 = .ok (.iconst 1, 1) := by decide +kernel
theorem dX9_winter_71 : decode cX9_winter 71 = .ok (.iaload, 1) := by decide +kernel
theorem dX9_winter_72 : decode cX9_winter 72 = .ok (.ifCond .le 83, 3) := by decide +kernel
theorem dX9_winter_75 : decode cX9_winter 75 = .ok (.lload 4, 2) := by decide +kernel
theorem dX9_winter_77 : decode cX9_winter 77 = .ok (.aload_n 0, 1) := by decide +kernel
theorem dX9_winter_78 : decode cX9_winter 78 = .ok (.getfield 13, 3) := by decide +kernel
theorem dX9_winter_81 : decode cX9_winter 81 = .ok (.iconst 1, 1) := by decide +kernel
theorem dX9_winter_82 : decode cX9_winter 82 = .ok (.iaload, 1) := by decide +kernel
theorem dX9_winter_83 : decode cX9_winter 83 = .ok (.i2l, 1) := by decide +kernel
theorem dX9_winter_84 : decode cX9_winter 84 = .ok (.lrem, 1) := by decide +kernel
theorem dX9_winter_85 : decode cX9_winter 85 = .ok (.l2i, 1) := by decide +kernel
theorem dX9_winter_86 : decode cX9_winter 86 = .ok (.istore 8, 2) := by decide +kernel
theorem dX9_winter_88 : decode cX9_winter 88 = .ok (.lload 4, 2) := by decide +kernel
theorem dX9_winter_90 : decode cX9_winter 90 = .ok (.ldc2_w 211, 3) := by decide +kernel
theorem dX9_winter_93 : decode cX9_winter 93 = .ok (.ldiv, 1) := by decide +kernel
theorem dX9_winter_94 : decode cX9_winter 94 = .ok (.aload_n 0, 1) := by decide +kernel
theorem dX9_winter_95 : decode cX9_winter 95 = .ok (.getfield 13, 3) := by decide +kernel
theorem dX9_winter_98 : decode cX9_winter 98 = .ok (.iconst 0, 1) := by decide +kernel
theorem dX9_winter_99 : decode cX9_winter 99 = .ok (.iaload, 1) := by decide +kernel
theorem dX9_winter_100 : decode cX9_winter 100 = .ok (.i2l, 1) := by decide +kernel
theorem dX9_winter_101 : decode cX9_winter 101 = .ok (.lrem, 1) := by decide +kernel
theorem dX9_winter_102 : decode cX9_winter 102 = .ok (.l2i, 1) := by decide +kernel
theorem dX9_winter_103 : decode cX9_winter 103 = .ok (.istore 9, 2) := by decide +kernel
theorem dX9_winter_105 : decode cX9_winter 105 = .ok (.aload_n 0, 1) := by decide +kernel
theorem dX9_winter_106 : decode cX9_winter 106 = .ok (.getfield 25, 3) := by decide +kernel
theorem dX9_winter_109 : decode cX9_winter 109 = .ok (.iconst 2, 1) := by decide +kernel
theorem dX9_winter_110 : decode cX9_winter 110 = .ok (.bipush 8, 2) := by decide +kernel
theorem dX9_winter_112 : decode cX9_winter 112 = .ok (.iload 8, 2) := by decide +kernel
theorem dX9_winter_114 : decode cX9_winter 114 = .ok (.imul, 1) := by decide +kernel
theorem dX9_winter_115 : decode cX9_winter 115 = .ok (.iadd, 1) := by decide +kernel
theorem dX9_winter_116 : decode cX9_winter 116 = .ok (.iload 9, 2) := by decide +kernel
theorem dX9_winter_118 : decode cX9_winter 118 = .ok (.iadd, 1) := by decide +kernel
theorem dX9_winter_119 : decode cX9_winter 119 = .ok (.iaload, 1) := by decide +kernel
theorem dX9_winter_120 : decode cX9_winter 120 = .ok (.ifCond .eq 22, 3) := by decide +kernel
theorem dX9_winter_123 : decode cX9_winter 123 = .ok (.aload_n 0, 1) := by decide +kernel
theorem dX9_winter_124 : decode cX9_winter 124 = .ok (.getfield 25, 3) := by decide +kernel
theorem dX9_winter_127 : decode cX9_winter 127 = .ok (.iconst 2, 1) := by decide +kernel
theorem dX9_winter_128 : decode cX9_winter 128 = .ok (.bipush 8, 2) := by decide +kernel
theorem dX9_winter_130 : decode cX9_winter 130 = .ok (.iload 8, 2) := by decide +kernel
theorem dX9_winter_132 : decode cX9_winter 132 = .ok (.imul, 1) := by decide +kernel
theorem dX9_winter_133 : decode cX9_winter 133 = .ok (.iadd, 1) := by decide +kernel
theorem dX9_winter_134 : decode cX9_winter 134 = .ok (.iload 9, 2) := by decide +kernel
theorem dX9_winter_136 : decode cX9_winter 136 = .ok (.iadd, 1) := by decide +kernel
theorem dX9_winter_137 : decode cX9_winter 137 = .ok (.iconst 0, 1) := by decide +kernel
theorem dX9_winter_138 : decode cX9_winter 138 = .ok (.iastore, 1) := by decide +kernel
theorem dX9_winter_139 : decode cX9_winter 139 = .ok (.goto 16, 3) := by decide +kernel
theorem dX9_winter_142 : decode cX9_winter 142 = .ok (.aload_n 0, 1) := by decide +kernel
theorem dX9_winter_143 : decode cX9_winter 143 = .ok (.aload_n 0, 1) := by decide +kernel
theorem dX9_winter_144 : decode cX9_winter 144 = .ok (.getfield 25, 3) := by decide +kernel
theorem dX9_winter_147 : decode cX9_winter 147 = .ok (.iload 8, 2) := by decide +kernel
theorem dX9_winter_149 : decode cX9_winter 149 = .ok (.iload 9, 2) := by decide +kernel
theorem dX9_winter_151 : decode cX9_winter 151 = .ok (.invokevirtual 166, 3) := by decide +kernel
theorem dX9_winter_154 : decode cX9_winter 154 = .ok (.pop, 1) := by decide +kernel
theorem dX9_winter_155 : decode cX9_winter 155 = .ok (.aload_n 0, 1) := by decide +kernel
theorem dX9_winter_156 : decode cX9_winter 156 = .ok (.aload_n 0, 1) := by decide +kernel
theorem dX9_winter_157 : decode cX9_winter 157 = .ok (.getfield 25, 3) := by decide +kernel
theorem dX9_winter_160 : decode cX9_winter 160 = .ok (.invokevirtual 170, 3) := by decide +kernel
theorem dX9_winter_163 : decode cX9_winter 163 = .ok (.pop, 1) := by decide +kernel
theorem dX9_winter_164 : decode cX9_winter 164 = .ok (.iload 6, 2) := by decide +kernel
theorem dX9_winter_166 : decode cX9_winter 166 = .ok (.aload_n 0, 1) := by decide +kernel
theorem dX9_winter_167 : decode cX9_winter 167 = .ok (.aload_n 0, 1) := by decide +kernel
theorem dX9_winter_168 : decode cX9_winter 168 = .ok (.getfield 25, 3) := by decide +kernel
theorem dX9_winter_171 : decode cX9_winter 171 = .ok (.invokevirtual 154, 3) := by decide +kernel
theorem dX9_winter_174 : decode cX9_winter 174 = .ok (.iload_n 3, 1) := by decide +kernel
theorem dX9_winter_175 : decode cX9_winter 175 = .ok (.if_icmp .lt 7, 3) := by decide +kernel
theorem dX9_winter_178 : decode cX9_winter 178 = .ok (.iconst 1, 1) := by decide +kernel
theorem dX9_winter_179 : decode cX9_winter 179 = .ok (.goto 4, 3) := by decide +kernel
theorem dX9_winter_182 : decode cX9_winter 182 = .ok (.iconst 0, 1) := by decide +kernel
theorem dX9_winter_183 : decode cX9_winter 183 = .ok (.iadd, 1) := by decide +kernel
theorem dX9_winter_184 : decode cX9_winter 184 = .ok (.istore 6, 2) := by decide +kernel
theorem dX9_winter_186 : decode cX9_winter 186 = .ok (.iinc 7 1, 3) := by decide +kernel
theorem dX9_winter_189 : decode cX9_winter 189 = .ok (.goto (-141), 3) := by decide +kernel
theorem dX9_winter_192 : decode cX9_winter 192 = .ok (.iload 6, 2) := by decide +kernel
theorem dX9_winter_194 : decode cX9_winter 194 = .ok (.ireturn, 1) := by decide +kernel
theorem dX9_sees_0 : decode cX9_sees 0 = .ok (.aload_n 0, 1) := by decide +kernel
theorem dX9_sees_1 : decode cX9_sees 1 = .ok (.iconst 0, 1) := by decide +kernel
theorem dX9_sees_2 : decode cX9_sees 2 = .ok (.putfield 56, 3) := by decide +kernel
theorem dX9_sees_5 : decode cX9_sees 5 = .ok (.iload_n 1, 1) := by decide +kernel
theorem dX9_sees_6 : decode cX9_sees 6 = .ok (.invokestatic 173, 3) := by decide +kernel
theorem dX9_sees_9 : decode cX9_sees 9 = .ok (.ifCond .eq 12, 3) := by decide +kernel
theorem dX9_sees_12 : decode cX9_sees 12 = .ok (.iload_n 2, 1) := by decide +kernel
theorem dX9_sees_13 : decode cX9_sees 13 = .ok (.iconst 0, 1) := by decide +kernel
theorem dX9_sees_14 : decode cX9_sees 14 = .ok (.iconst 1, 1) := by decide +kernel
theorem dX9_sees_15 : decode cX9_sees 15 = .ok (.invokestatic 60, 3) := by decide +kernel
theorem dX9_sees_18 : decode cX9_sees 18 = .ok (.ifCond .ne 5, 3) := by decide +kernel
theorem dX9_sees_21 : decode cX9_sees 21 = .ok (.iconst (-1), 1) := by decide +kernel
theorem dX9_sees_22 : decode cX9_sees 22 = .ok (.ireturn, 1) := by decide +kernel
theorem dX9_sees_23 : decode cX9_sees 23 = .ok (.aload_n 0, 1) := by decide +kernel
theorem dX9_sees_24 : decode cX9_sees 24 = .ok (.getfield 112, 3) := by decide +kernel
theorem dX9_sees_27 : decode cX9_sees 27 = .ok (.bipush 6, 2) := by decide +kernel
theorem dX9_sees_29 : decode cX9_sees 29 = .ok (.if_icmp .ne 6, 3) := by decide +kernel
theorem dX9_sees_32 : decode cX9_sees 32 = .ok (.bipush (-3), 2) := by decide +kernel
theorem dX9_sees_34 : decode cX9_sees 34 = .ok (.ireturn, 1) := by decide +kernel
theorem dX9_sees_35 : decode cX9_sees 35 = .ok (.aload_n 0, 1) := by decide +kernel
theorem dX9_sees_36 : decode cX9_sees 36 = .ok (.getfield 41, 3) := by decide +kernel
theorem dX9_sees_39 : decode cX9_sees 39 = .ok (.aload_n 0, 1) := by decide +kernel
theorem dX9_sees_40 : decode cX9_sees 40 = .ok (.getfield 112, 3) := by decide +kernel
theorem dX9_sees_43 : decode cX9_sees 43 = .ok (.iload_n 1, 1) := by decide +kernel
theorem dX9_sees_44 : decode cX9_sees 44 = .ok (.iastore, 1) := by decide +kernel
theorem dX9_sees_45 : decode cX9_sees 45 = .ok (.aload_n 0, 1) := by decide +kernel
theorem dX9_sees_46 : decode cX9_sees 46 = .ok (.getfield 44, 3) := by decide +kernel
theorem dX9_sees_49 : decode cX9_sees 49 = .ok (.aload_n 0, 1) := by decide +kernel
theorem dX9_sees_50 : decode cX9_sees 50 = .ok (.getfield 112, 3) := by decide +kernel
theorem dX9_sees_53 : decode cX9_sees 53 = .ok (.iload_n 2, 1) := by decide +kernel
theorem dX9_sees_54 : decode cX9_sees 54 = .ok (.iastore, 1) := by decide +kernel
theorem dX9_sees_55 : decode cX9_sees 55 = .ok (.aload_n 0, 1) := by decide +kernel
theorem dX9_sees_56 : decode cX9_sees 56 = .ok (.dup, 1) := by decide +kernel
theorem dX9_sees_57 : decode cX9_sees 57 = .ok (.getfield 112, 3) := by decide +kernel
theorem dX9_sees_60 : decode cX9_sees 60 = .ok (.iconst 1, 1) := by decide +kernel
theorem dX9_sees_61 : decode cX9_sees 61 = .ok (.iadd, 1) := by decide +kernel
theorem dX9_sees_62 : decode cX9_sees 62 = .ok (.putfield 112, 3) := by decide +kernel
theorem dX9_sees_65 : decode cX9_sees 65 = .ok (.aload_n 0, 1) := by decide +kernel
theorem dX9_sees_66 : decode cX9_sees 66 = .ok (.getfield 112, 3) := by decide +kernel
theorem dX9_sees_69 : decode cX9_sees 69 = .ok (.ireturn, 1) := by decide +kernel
theorem dX9_forget_0 : decode cX9_forget 0 = .ok (.aload_n 0, 1) := by decide +kernel
theorem dX9_forget_1 : decode cX9_forget 1 = .ok (.iconst 0, 1) := by decide +kernel
theorem dX9_forget_2 : decode cX9_forget 2 = .ok (.putfield 56, 3) := by decide +kernel
theorem dX9_forget_5 : decode cX9_forget 5 = .ok (.aload_n 0, 1) := by decide +kernel
theorem dX9_forget_6 : decode cX9_forget 6 = .ok (.getfield 112, 3) := by decide +kernel
theorem dX9_forget_9 : decode cX9_forget 9 = .ok (.istore_n 1, 1) := by decide +kernel
theorem dX9_forget_10 : decode cX9_forget 10 = .ok (.aload_n 0, 1) := by decide +kernel
theorem dX9_forget_11 : decode cX9_forget 11 = .ok (.iconst 0, 1) := by decide +kernel
theorem dX9_forget_12 : decode cX9_forget 12 = .ok (.putfield 112, 3) := by decide +kernel
theorem dX9_forget_15 : decode cX9_forget 15 = .ok (.iload_n 1, 1) := by decide +kernel
theorem dX9_forget_16 : decode cX9_forget 16 = .ok (.ireturn, 1) := by decide +kernel
theorem dX9_bridgeBy_0 : decode cX9_bridgeBy 0 = .ok (.aload_n 0, 1) := by decide +kernel
theorem dX9_bridgeBy_1 : decode cX9_bridgeBy 1 = .ok (.getfield 13, 3) := by decide +kernel
theorem dX9_bridgeBy_4 : decode cX9_bridgeBy 4 = .ok (.bipush 18, 2) := by decide +kernel
theorem dX9_bridgeBy_6 : decode cX9_bridgeBy 6 = .ok (.iload_n 1, 1) := by decide +kernel
theorem dX9_bridgeBy_7 : decode cX9_bridgeBy 7 = .ok (.iadd, 1) := by decide +kernel
theorem dX9_bridgeBy_8 : decode cX9_bridgeBy 8 = .ok (.iaload, 1) := by decide +kernel
theorem dX9_bridgeBy_9 : decode cX9_bridgeBy 9 = .ok (.istore_n 3, 1) := by decide +kernel
theorem dX9_bridgeBy_10 : decode cX9_bridgeBy 10 = .ok (.aload_n 0, 1) := by decide +kernel
theorem dX9_bridgeBy_11 : decode cX9_bridgeBy 11 = .ok (.getfield 13, 3) := by decide +kernel
theorem dX9_bridgeBy_14 : decode cX9_bridgeBy 14 = .ok (.bipush 18, 2) := by decide +kernel
theorem dX9_bridgeBy_16 : decode cX9_bridgeBy 16 = .ok (.iload_n 1, 1) := by decide +kernel
theorem dX9_bridgeBy_17 : decode cX9_bridgeBy 17 = .ok (.iadd, 1) := by decide +kernel
theorem dX9_bridgeBy_18 : decode cX9_bridgeBy 18 = .ok (.iload_n 2, 1) := by decide +kernel
theorem dX9_bridgeBy_19 : decode cX9_bridgeBy 19 = .ok (.iastore, 1) := by decide +kernel
theorem dX9_bridgeBy_20 : decode cX9_bridgeBy 20 = .ok (.aload_n 0, 1) := by decide +kernel
theorem dX9_bridgeBy_21 : decode cX9_bridgeBy 21 = .ok (.aload_n 0, 1) := by decide +kernel
theorem dX9_bridgeBy_22 : decode cX9_bridgeBy 22 = .ok (.getfield 22, 3) := by decide +kernel
theorem dX9_bridgeBy_25 : decode cX9_bridgeBy 25 = .ok (.invokevirtual 154, 3) := by decide +kernel
theorem dX9_bridgeBy_28 : decode cX9_bridgeBy 28 = .ok (.istore 4, 2) := by decide +kernel
theorem dX9_bridgeBy_30 : decode cX9_bridgeBy 30 = .ok (.aload_n 0, 1) := by decide +kernel
theorem dX9_bridgeBy_31 : decode cX9_bridgeBy 31 = .ok (.getfield 13, 3) := by decide +kernel
theorem dX9_bridgeBy_34 : decode cX9_bridgeBy 34 = .ok (.bipush 18, 2) := by decide +kernel
theorem dX9_bridgeBy_36 : decode cX9_bridgeBy 36 = .ok (.iload_n 1, 1) := by decide +kernel
theorem dX9_bridgeBy_37 : decode cX9_bridgeBy 37 = .ok (.iadd, 1) := by decide +kernel
theorem dX9_bridgeBy_38 : decode cX9_bridgeBy 38 = .ok (.iload_n 3, 1) := by decide +kernel
theorem dX9_bridgeBy_39 : decode cX9_bridgeBy 39 = .ok (.iastore, 1) := by decide +kernel
theorem dX9_bridgeBy_40 : decode cX9_bridgeBy 40 = .ok (.iload 4, 2) := by decide +kernel
theorem dX9_bridgeBy_42 : decode cX9_bridgeBy 42 = .ok (.ireturn, 1) := by decide +kernel
theorem dX9_wordsOf_0 : decode cX9_wordsOf 0 = .ok (.iconst 0, 1) := by decide +kernel
theorem dX9_wordsOf_1 : decode cX9_wordsOf 1 = .ok (.istore_n 2, 1) := by decide +kernel
theorem dX9_wordsOf_2 : decode cX9_wordsOf 2 = .ok (.iconst 1, 1) := by decide +kernel
theorem dX9_wordsOf_3 : decode cX9_wordsOf 3 = .ok (.istore_n 3, 1) := by decide +kernel
theorem dX9_wordsOf_4 : decode cX9_wordsOf 4 = .ok (.iload_n 3, 1) := by decide +kernel
theorem dX9_wordsOf_5 : decode cX9_wordsOf 5 = .ok (.bipush 10, 2) := by decide +kernel
theorem dX9_wordsOf_7 : decode cX9_wordsOf 7 = .ok (.if_icmp .ge 101, 3) := by decide +kernel
theorem dX9_wordsOf_10 : decode cX9_wordsOf 10 = .ok (.aload_n 0, 1) := by decide +kernel
theorem dX9_wordsOf_11 : decode cX9_wordsOf 11 = .ok (.iload_n 1, 1) := by decide +kernel
theorem dX9_wordsOf_12 : decode cX9_wordsOf 12 = .ok (.iload_n 3, 1) := by decide +kernel
theorem dX9_wordsOf_13 : decode cX9_wordsOf 13 = .ok (.invokevirtual 213, 3) := by decide +kernel
theorem dX9_wordsOf_16 : decode cX9_wordsOf 16 = .ok (.istore 4, 2) := by decide +kernel
theorem dX9_wordsOf_18 : decode cX9_wordsOf 18 = .ok (.iconst 1, 1) := by decide +kernel
theorem dX9_wordsOf_19 : decode cX9_wordsOf 19 = .ok (.istore 5, 2) := by decide +kernel
theorem dX9_wordsOf_21 : decode cX9_wordsOf 21 = .ok (.iconst 0, 1) := by decide +kernel
theorem dX9_wordsOf_22 : decode cX9_wordsOf 22 = .ok (.istore 6, 2) := by decide +kernel
theorem dX9_wordsOf_24 : decode cX9_wordsOf 24 = .ok (.iload 6, 2) := by decide +kernel
theorem dX9_wordsOf_26 : decode cX9_wordsOf 26 = .ok (.aload_n 0, 1) := by decide +kernel
theorem dX9_wordsOf_27 : decode cX9_wordsOf 27 = .ok (.getfield 112, 3) := by decide +kernel
theorem dX9_wordsOf_30 : decode cX9_wordsOf 30 = .ok (.if_icmp .ge 57, 3) := by decide +kernel
theorem dX9_wordsOf_33 : decode cX9_wordsOf 33 = .ok (.iload 5, 2) := by decide +kernel
theorem dX9_wordsOf_35 : decode cX9_wordsOf 35 = .ok (.ifCond .eq 43, 3) := by decide +kernel
theorem dX9_wordsOf_38 : decode cX9_wordsOf 38 = .ok (.iload 4, 2) := by decide +kernel
theorem dX9_wordsOf_40 : decode cX9_wordsOf 40 = .ok (.aload_n 0, 1) := by decide +kernel
theorem dX9_wordsOf_41 : decode cX9_wordsOf 41 = .ok (.getfield 41, 3) := by decide +kernel
theorem dX9_wordsOf_44 : decode cX9_wordsOf 44 = .ok (.iload 6, 2) := by decide +kernel
theorem dX9_wordsOf_46 : decode cX9_wordsOf 46 = .ok (.iaload, 1) := by decide +kernel
theorem dX9_wordsOf_47 : decode cX9_wordsOf 47 = .ok (.if_icmp .lt 7, 3) := by decide +kernel
theorem dX9_wordsOf_50 : decode cX9_wordsOf 50 = .ok (.iconst 1, 1) := by decide +kernel
theorem dX9_wordsOf_51 : decode cX9_wordsOf 51 = .ok (.goto 4, 3) := by decide +kernel
theorem dX9_wordsOf_54 : decode cX9_wordsOf 54 = .ok (.iconst 0, 1) := by decide +kernel
theorem dX9_wordsOf_55 : decode cX9_wordsOf 55 = .ok (.aload_n 0, 1) := by decide +kernel
theorem dX9_wordsOf_56 : decode cX9_wordsOf 56 = .ok (.getfield 44, 3) := by decide +kernel
theorem dX9_wordsOf_59 : decode cX9_wordsOf 59 = .ok (.iload 6, 2) := by decide +kernel
theorem dX9_wordsOf_61 : decode cX9_wordsOf 61 = .ok (.iaload, 1) := by decide +kernel
theorem dX9_wordsOf_62 : decode cX9_wordsOf 62 = .ok (.iconst 1, 1) := by decide +kernel
theorem dX9_wordsOf_63 : decode cX9_wordsOf 63 = .ok (.if_icmp .ne 7, 3) := by decide +kernel
theorem dX9_wordsOf_66 : decode cX9_wordsOf 66 = .ok (.iconst 1, 1) := by decide +kernel
theorem dX9_wordsOf_67 : decode cX9_wordsOf 67 = .ok (.goto 4, 3) := by decide +kernel
theorem dX9_wordsOf_70 : decode cX9_wordsOf 70 = .ok (.iconst 0, 1) := by decide +kernel
theorem dX9_wordsOf_71 : decode cX9_wordsOf 71 = .ok (.if_icmp .ne 7, 3) := by decide +kernel
theorem dX9_wordsOf_74 : decode cX9_wordsOf 74 = .ok (.iconst 1, 1) := by decide +kernel
theorem dX9_wordsOf_75 : decode cX9_wordsOf 75 = .ok (.goto 4, 3) := by decide +kernel
theorem dX9_wordsOf_78 : decode cX9_wordsOf 78 = .ok (.iconst 0, 1) := by decide +kernel
theorem dX9_wordsOf_79 : decode cX9_wordsOf 79 = .ok (.istore 5, 2) := by decide +kernel
theorem dX9_wordsOf_81 : decode cX9_wordsOf 81 = .ok (.iinc 6 1, 3) := by decide +kernel
theorem dX9_wordsOf_84 : decode cX9_wordsOf 84 = .ok (.goto (-60), 3) := by decide +kernel
theorem dX9_wordsOf_87 : decode cX9_wordsOf 87 = .ok (.iload_n 2, 1) := by decide +kernel
theorem dX9_wordsOf_88 : decode cX9_wordsOf 88 = .ok (.iload 5, 2) := by decide +kernel
theorem dX9_wordsOf_90 : decode cX9_wordsOf 90 = .ok (.ifCond .eq 9, 3) := by decide +kernel
theorem dX9_wordsOf_93 : decode cX9_wordsOf 93 = .ok (.iconst 1, 1) := by decide +kernel
theorem dX9_wordsOf_94 : decode cX9_wordsOf 94 = .ok (.iload_n 3, 1) := by decide +kernel
theorem dX9_wordsOf_95 : decode cX9_wordsOf 95 = .ok (.ishl, 1) := by decide +kernel
theorem dX9_wordsOf_96 : decode cX9_wordsOf 96 = .ok (.goto 4, 3) := by decide +kernel
theorem dX9_wordsOf_99 : decode cX9_wordsOf 99 = .ok (.iconst 0, 1) := by decide +kernel
theorem dX9_wordsOf_100 : decode cX9_wordsOf 100 = .ok (.ior, 1) := by decide +kernel
theorem dX9_wordsOf_101 : decode cX9_wordsOf 101 = .ok (.istore_n 2, 1) := by decide +kernel
theorem dX9_wordsOf_102 : decode cX9_wordsOf 102 = .ok (.iinc 3 1, 3) := by decide +kernel
theorem dX9_wordsOf_105 : decode cX9_wordsOf 105 = .ok (.goto (-101), 3) := by decide +kernel
theorem dX9_wordsOf_108 : decode cX9_wordsOf 108 = .ok (.iload_n 2, 1) := by decide +kernel
theorem dX9_wordsOf_109 : decode cX9_wordsOf 109 = .ok (.ireturn, 1) := by decide +kernel
theorem dX9_words_0 : decode cX9_words 0 = .ok (.aload_n 0, 1) := by decide +kernel
theorem dX9_words_1 : decode cX9_words 1 = .ok (.iconst 0, 1) := by decide +kernel
theorem dX9_words_2 : decode cX9_words 2 = .ok (.putfield 56, 3) := by decide +kernel
theorem dX9_words_5 : decode cX9_words 5 = .ok (.aload_n 0, 1) := by decide +kernel
theorem dX9_words_6 : decode cX9_words 6 = .ok (.iload_n 1, 1) := by decide +kernel
theorem dX9_words_7 : decode cX9_words 7 = .ok (.invokevirtual 136, 3) := by decide +kernel
theorem dX9_words_10 : decode cX9_words 10 = .ok (.ifCond .eq 12, 3) := by decide +kernel
theorem dX9_words_13 : decode cX9_words 13 = .ok (.iload_n 2, 1) := by decide +kernel
theorem dX9_words_14 : decode cX9_words 14 = .ok (.iconst 0, 1) := by decide +kernel
theorem dX9_words_15 : decode cX9_words 15 = .ok (.iconst 2, 1) := by decide +kernel
theorem dX9_words_16 : decode cX9_words 16 = .ok (.invokestatic 60, 3) := by decide +kernel
theorem dX9_words_19 : decode cX9_words 19 = .ok (.ifCond .ne 5, 3) := by decide +kernel
theorem dX9_words_22 : decode cX9_words 22 = .ok (.iconst (-1), 1) := by decide +kernel
theorem dX9_words_23 : decode cX9_words 23 = .ok (.ireturn, 1) := by decide +kernel
theorem dX9_words_24 : decode cX9_words 24 = .ok (.aload_n 0, 1) := by decide +kernel
theorem dX9_words_25 : decode cX9_words 25 = .ok (.iload_n 1, 1) := by decide +kernel
theorem dX9_words_26 : decode cX9_words 26 = .ok (.invokevirtual 216, 3) := by decide +kernel
theorem dX9_words_29 : decode cX9_words 29 = .ok (.istore_n 3, 1) := by decide +kernel
theorem dX9_words_30 : decode cX9_words 30 = .ok (.iconst 0, 1) := by decide +kernel
theorem dX9_words_31 : decode cX9_words 31 = .ok (.istore 4, 2) := by decide +kernel
theorem dX9_words_33 : decode cX9_words 33 = .ok (.bipush (-9), 2) := by decide +kernel
theorem dX9_words_35 : decode cX9_words 35 = .ok (.istore 5, 2) := by decide +kernel
theorem dX9_words_37 : decode cX9_words 37 = .ok (.bipush (-9), 2) := by decide +kernel
theorem dX9_words_39 : decode cX9_words 39 = .ok (.istore 6, 2) := by decide +kernel
theorem dX9_words_41 : decode cX9_words 41 = .ok (.iconst 1, 1) := by decide +kernel
theorem dX9_words_42 : decode cX9_words 42 = .ok (.istore 7, 2) := by decide +kernel
theorem dX9_words_44 : decode cX9_words 44 = .ok (.iload 7, 2) := by decide +kernel
theorem dX9_words_46 : decode cX9_words 46 = .ok (.bipush 10, 2) := by decide +kernel
theorem dX9_words_48 : decode cX9_words 48 = .ok (.if_icmp .ge 41, 3) := by decide +kernel
theorem dX9_words_51 : decode cX9_words 51 = .ok (.iload_n 3, 1) := by decide +kernel
theorem dX9_words_52 : decode cX9_words 52 = .ok (.iload 7, 2) := by decide +kernel
theorem dX9_words_54 : decode cX9_words 54 = .ok (.invokestatic 118, 3) := by decide +kernel
theorem dX9_words_57 : decode cX9_words 57 = .ok (.ifCond .eq 26, 3) := by decide +kernel
theorem dX9_words_60 : decode cX9_words 60 = .ok (.iinc 4 1, 3) := by decide +kernel
theorem dX9_words_63 : decode cX9_words 63 = .ok (.iload 5, 2) := by decide +kernel
theorem dX9_words_65 : decode cX9_words 65 = .ok (.bipush (-9), 2) := by decide +kernel
theorem dX9_words_67 : decode cX9_words 67 = .ok (.if_icmp .ne 8, 3) := by decide +kernel
theorem dX9_words_70 : decode cX9_words 70 = .ok (.iload 7, 2) := by decide +kernel
theorem dX9_words_72 : decode cX9_words 72 = .ok (.goto 5, 3) := by decide +kernel
theorem dX9_words_75 : decode cX9_words 75 = .ok (.iload 5, 2) := by decide +kernel
theorem dX9_words_77 : decode cX9_words 77 = .ok (.istore 5, 2) := by decide +kernel
theorem dX9_words_79 : decode cX9_words 79 = .ok (.iload 7, 2) := by decide +kernel
theorem dX9_words_81 : decode cX9_words 81 = .ok (.istore 6, 2) := by decide +kernel
theorem dX9_words_83 : decode cX9_words 83 = .ok (.iinc 7 1, 3) := by decide +kernel
theorem dX9_words_86 : decode cX9_words 86 = .ok (.goto (-42), 3) := by decide +kernel
theorem dX9_words_89 : decode cX9_words 89 = .ok (.iload_n 2, 1) := by decide +kernel
theorem dX9_words_90 : decode cX9_words 90 = .ok (.ifCond .ne 8, 3) := by decide +kernel
theorem dX9_words_93 : decode cX9_words 93 = .ok (.iload 4, 2) := by decide +kernel
theorem dX9_words_95 : decode cX9_words 95 = .ok (.goto 15, 3) := by decide +kernel
theorem dX9_words_98 : decode cX9_words 98 = .ok (.iload_n 2, 1) := by decide +kernel
theorem dX9_words_99 : decode cX9_words 99 = .ok (.iconst 1, 1) := by decide +kernel
theorem dX9_words_100 : decode cX9_words 100 = .ok (.if_icmp .ne 8, 3) := by decide +kernel
theorem dX9_words_103 : decode cX9_words 103 = .ok (.iload 5, 2) := by decide +kernel
theorem dX9_words_105 : decode cX9_words 105 = .ok (.goto 5, 3) := by decide +kernel
theorem dX9_words_108 : decode cX9_words 108 = .ok (.iload 6, 2) := by decide +kernel
theorem dX9_words_110 : decode cX9_words 110 = .ok (.ireturn, 1) := by decide +kernel
theorem dX9_next_0 : decode cX9_next 0 = .ok (.aload_n 0, 1) := by decide +kernel
theorem dX9_next_1 : decode cX9_next 1 = .ok (.iconst 0, 1) := by decide +kernel
theorem dX9_next_2 : decode cX9_next 2 = .ok (.putfield 56, 3) := by decide +kernel
theorem dX9_next_5 : decode cX9_next 5 = .ok (.aload_n 0, 1) := by decide +kernel
theorem dX9_next_6 : decode cX9_next 6 = .ok (.iload_n 1, 1) := by decide +kernel
theorem dX9_next_7 : decode cX9_next 7 = .ok (.invokevirtual 136, 3) := by decide +kernel
theorem dX9_next_10 : decode cX9_next 10 = .ok (.ifCond .ne 5, 3) := by decide +kernel
theorem dX9_next_13 : decode cX9_next 13 = .ok (.iconst (-1), 1) := by decide +kernel
theorem dX9_next_14 : decode cX9_next 14 = .ok (.ireturn, 1) := by decide +kernel
theorem dX9_next_15 : decode cX9_next 15 = .ok (.aload_n 0, 1) := by decide +kernel
theorem dX9_next_16 : decode cX9_next 16 = .ok (.iload_n 1, 1) := by decide +kernel
theorem dX9_next_17 : decode cX9_next 17 = .ok (.invokevirtual 216, 3) := by decide +kernel
theorem dX9_next_20 : decode cX9_next 20 = .ok (.istore_n 2, 1) := by decide +kernel
theorem dX9_next_21 : decode cX9_next 21 = .ok (.iconst 0, 1) := by decide +kernel
theorem dX9_next_22 : decode cX9_next 22 = .ok (.istore_n 3, 1) := by decide +kernel
theorem dX9_next_23 : decode cX9_next 23 = .ok (.iconst 1, 1) := by decide +kernel
theorem dX9_next_24 : decode cX9_next 24 = .ok (.istore 4, 2) := by decide +kernel
theorem dX9_next_26 : decode cX9_next 26 = .ok (.iload 4, 2) := by decide +kernel
theorem dX9_next_28 : decode cX9_next 28 = .ok (.bipush 10, 2) := by decide +kernel
theorem dX9_next_30 : decode cX9_next 30 = .ok (.if_icmp .ge 18, 3) := by decide +kernel
theorem dX9_next_33 : decode cX9_next 33 = .ok (.iload_n 3, 1) := by decide +kernel
theorem dX9_next_34 : decode cX9_next 34 = .ok (.iload_n 2, 1) := by decide +kernel
theorem dX9_next_35 : decode cX9_next 35 = .ok (.iload 4, 2) := by decide +kernel
theorem dX9_next_37 : decode cX9_next 37 = .ok (.ishr, 1) := by decide +kernel
theorem dX9_next_38 : decode cX9_next 38 = .ok (.iconst 1, 1) := by decide +kernel
theorem dX9_next_39 : decode cX9_next 39 = .ok (.iand, 1) := by decide +kernel
theorem dX9_next_40 : decode cX9_next 40 = .ok (.iadd, 1) := by decide +kernel
theorem dX9_next_41 : decode cX9_next 41 = .ok (.istore_n 3, 1) := by decide +kernel
theorem dX9_next_42 : decode cX9_next 42 = .ok (.iinc 4 1, 3) := by decide +kernel
theorem dX9_next_45 : decode cX9_next 45 = .ok (.goto (-19), 3) := by decide +kernel
theorem dX9_next_48 : decode cX9_next 48 = .ok (.bipush (-9), 2) := by decide +kernel
theorem dX9_next_50 : decode cX9_next 50 = .ok (.istore 4, 2) := by decide +kernel
theorem dX9_next_52 : decode cX9_next 52 = .ok (.bipush 99, 2) := by decide +kernel
theorem dX9_next_54 : decode cX9_next 54 = .ok (.istore 5, 2) := by decide +kernel
theorem dX9_next_56 : decode cX9_next 56 = .ok (.iconst 1, 1) := by decide +kernel
theorem dX9_next_57 : decode cX9_next 57 = .ok (.istore 6, 2) := by decide +kernel
theorem dX9_next_59 : decode cX9_next 59 = .ok (.iload 6, 2) := by decide +kernel
theorem dX9_next_61 : decode cX9_next 61 = .ok (.bipush 36, 2) := by decide +kernel
theorem dX9_next_63 : decode cX9_next 63 = .ok (.if_icmp .gt 100, 3) := by decide +kernel
theorem dX9_next_66 : decode cX9_next 66 = .ok (.iload_n 3, 1) := by decide +kernel
theorem dX9_next_67 : decode cX9_next 67 = .ok (.iconst 1, 1) := by decide +kernel
theorem dX9_next_68 : decode cX9_next 68 = .ok (.if_icmp .le 95, 3) := by decide +kernel
theorem dX9_next_71 : decode cX9_next 71 = .ok (.iconst 0, 1) := by decide +kernel
theorem dX9_next_72 : decode cX9_next 72 = .ok (.istore 7, 2) := by decide +kernel
theorem dX9_next_74 : decode cX9_next 74 = .ok (.iconst 1, 1) := by decide +kernel
theorem dX9_next_75 : decode cX9_next 75 = .ok (.istore 8, 2) := by decide +kernel
theorem dX9_next_77 : decode cX9_next 77 = .ok (.iload 8, 2) := by decide +kernel
theorem dX9_next_79 : decode cX9_next 79 = .ok (.bipush 10, 2) := by decide +kernel
theorem dX9_next_81 : decode cX9_next 81 = .ok (.if_icmp .ge 40, 3) := by decide +kernel
theorem dX9_next_84 : decode cX9_next 84 = .ok (.iload 7, 2) := by decide +kernel
theorem dX9_next_86 : decode cX9_next 86 = .ok (.iload_n 2, 1) := by decide +kernel
theorem dX9_next_87 : decode cX9_next 87 = .ok (.iload 8, 2) := by decide +kernel
theorem dX9_next_89 : decode cX9_next 89 = .ok (.invokestatic 118, 3) := by decide +kernel
theorem dX9_next_92 : decode cX9_next 92 = .ok (.ifCond .eq 19, 3) := by decide +kernel
theorem dX9_next_95 : decode cX9_next 95 = .ok (.aload_n 0, 1) := by decide +kernel
theorem dX9_next_96 : decode cX9_next 96 = .ok (.iload_n 1, 1) := by decide +kernel
theorem dX9_next_97 : decode cX9_next 97 = .ok (.iload 8, 2) := by decide +kernel
theorem dX9_next_99 : decode cX9_next 99 = .ok (.invokevirtual 213, 3) := by decide +kernel
theorem dX9_next_102 : decode cX9_next 102 = .ok (.iload 6, 2) := by decide +kernel
theorem dX9_next_104 : decode cX9_next 104 = .ok (.if_icmp .lt 7, 3) := by decide +kernel
theorem dX9_next_107 : decode cX9_next 107 = .ok (.iconst 1, 1) := by decide +kernel
theorem dX9_next_108 : decode cX9_next 108 = .ok (.goto 4, 3) := by decide +kernel
theorem dX9_next_111 : decode cX9_next 111 = .ok (.iconst 0, 1) := by decide +kernel
theorem dX9_next_112 : decode cX9_next 112 = .ok (.iadd, 1) := by decide +kernel
theorem dX9_next_113 : decode cX9_next 113 = .ok (.istore 7, 2) := by decide +kernel
theorem dX9_next_115 : decode cX9_next 115 = .ok (.iinc 8 1, 3) := by decide +kernel
theorem dX9_next_118 : decode cX9_next 118 = .ok (.goto (-41), 3) := by decide +kernel
theorem dX9_next_121 : decode cX9_next 121 = .ok (.iload 7, 2) := by decide +kernel
theorem dX9_next_123 : decode cX9_next 123 = .ok (.iload_n 3, 1) := by decide +kernel
theorem dX9_next_124 : decode cX9_next 124 = .ok (.iload 7, 2) := by decide +kernel
theorem dX9_next_126 : decode cX9_next 126 = .ok (.isub, 1) := by decide +kernel
theorem dX9_next_127 : decode cX9_next 127 = .ok (.invokestatic 188, 3) := by decide +kernel
theorem dX9_next_130 : decode cX9_next 130 = .ok (.istore 8, 2) := by decide +kernel
theorem dX9_next_132 : decode cX9_next 132 = .ok (.iload 8, 2) := by decide +kernel
theorem dX9_next_134 : decode cX9_next 134 = .ok (.iload 5, 2) := by decide +kernel
theorem dX9_next_136 : decode cX9_next 136 = .ok (.if_icmp .ge 8, 3) := by decide +kernel
theorem dX9_next_139 : decode cX9_next 139 = .ok (.iload 6, 2) := by decide +kernel
theorem dX9_next_141 : decode cX9_next 141 = .ok (.goto 5, 3) := by decide +kernel
theorem dX9_next_144 : decode cX9_next 144 = .ok (.iload 4, 2) := by decide +kernel
theorem dX9_next_146 : decode cX9_next 146 = .ok (.istore 4, 2) := by decide +kernel
theorem dX9_next_148 : decode cX9_next 148 = .ok (.iload 5, 2) := by decide +kernel
theorem dX9_next_150 : decode cX9_next 150 = .ok (.iload 8, 2) := by decide +kernel
theorem dX9_next_152 : decode cX9_next 152 = .ok (.invokestatic 191, 3) := by decide +kernel
theorem dX9_next_155 : decode cX9_next 155 = .ok (.istore 5, 2) := by decide +kernel
theorem dX9_next_157 : decode cX9_next 157 = .ok (.iinc 6 1, 3) := by decide +kernel
theorem dX9_next_160 : decode cX9_next 160 = .ok (.goto (-101), 3) := by decide +kernel
theorem dX9_next_163 : decode cX9_next 163 = .ok (.iload 4, 2) := by decide +kernel
theorem dX9_next_165 : decode cX9_next 165 = .ok (.ireturn, 1) := by decide +kernel
theorem dX9_rate_0 : decode cX9_rate 0 = .ok (.aload_n 0, 1) := by decide +kernel
theorem dX9_rate_1 : decode cX9_rate 1 = .ok (.iconst 0, 1) := by decide +kernel
theorem dX9_rate_2 : decode cX9_rate 2 = .ok (.putfield 56, 3) := by decide +kernel
theorem dX9_rate_5 : decode cX9_rate 5 = .ok (.iload_n 1, 1) := by decide +kernel
theorem dX9_rate_6 : decode cX9_rate 6 = .ok (.iconst 0, 1) := by decide +kernel
theorem dX9_rate_7 : decode cX9_rate 7 = .ok (.iconst 5, 1) := by decide +kernel
theorem dX9_rate_8 : decode cX9_rate 8 = .ok (.invokestatic 60, 3) := by decide +kernel
theorem dX9_rate_11 : decode cX9_rate 11 = .ok (.ifCond .eq 11, 3) := by decide +kernel
theorem dX9_rate_14 : decode cX9_rate 14 = .ok (.aload_n 0, 1) := by decide +kernel
theorem dX9_rate_15 : decode cX9_rate 15 = .ok (.iload_n 2, 1) := by decide +kernel
theorem dX9_rate_16 : decode cX9_rate 16 = .ok (.invokevirtual 136, 3) := by decide +kernel
theorem dX9_rate_19 : decode cX9_rate 19 = .ok (.ifCond .ne 6, 3) := by decide +kernel
theorem dX9_rate_22 : decode cX9_rate 22 = .ok (.ldc 219, 2) := by decide +kernel
theorem dX9_rate_24 : decode cX9_rate 24 = .ok (.ireturn, 1) := by decide +kernel
theorem dX9_rate_25 : decode cX9_rate 25 = .ok (.aload_n 0, 1) := by decide +kernel
theorem dX9_rate_26 : decode cX9_rate 26 = .ok (.getfield 13, 3) := by decide +kernel
theorem dX9_rate_29 : decode cX9_rate 29 = .ok (.bipush 18, 2) := by decide +kernel
theorem dX9_rate_31 : decode cX9_rate 31 = .ok (.iload_n 2, 1) := by decide +kernel
theorem dX9_rate_32 : decode cX9_rate 32 = .ok (.iadd, 1) := by decide +kernel
theorem dX9_rate_33 : decode cX9_rate 33 = .ok (.iaload, 1) := by decide +kernel
theorem dX9_rate_34 : decode cX9_rate 34 = .ok (.istore_n 3, 1) := by decide +kernel
theorem dX9_rate_35 : decode cX9_rate 35 = .ok (.iload_n 3, 1) := by decide +kernel
theorem dX9_rate_36 : decode cX9_rate 36 = .ok (.aload_n 0, 1) := by decide +kernel
theorem dX9_rate_37 : decode cX9_rate 37 = .ok (.getfield 13, 3) := by decide +kernel
theorem dX9_rate_40 : decode cX9_rate 40 = .ok (.bipush 26, 2) := by decide +kernel
theorem dX9_rate_42 : decode cX9_rate 42 = .ok (.iload_n 2, 1) := by decide +kernel
theorem dX9_rate_43 : decode cX9_rate 43 = .ok (.iadd, 1) := by decide +kernel
theorem dX9_rate_44 : decode cX9_rate 44 = .ok (.iaload, 1) := by decide +kernel
theorem dX9_rate_45 : decode cX9_rate 45 = .ok (.iadd, 1) := by decide +kernel
theorem dX9_rate_46 : decode cX9_rate 46 = .ok (.istore 4, 2) := by decide +kernel
theorem dX9_rate_48 : decode cX9_rate 48 = .ok (.aload_n 0, 1) := by decide +kernel
theorem dX9_rate_49 : decode cX9_rate 49 = .ok (.iload_n 2, 1) := by decide +kernel
theorem dX9_rate_50 : decode cX9_rate 50 = .ok (.iconst 1, 1) := by decide +kernel
theorem dX9_rate_51 : decode cX9_rate 51 = .ok (.invokevirtual 139, 3) := by decide +kernel
theorem dX9_rate_54 : decode cX9_rate 54 = .ok (.invokestatic 179, 3) := by decide +kernel
theorem dX9_rate_57 : decode cX9_rate 57 = .ok (.istore 5, 2) := by decide +kernel
theorem dX9_rate_59 : decode cX9_rate 59 = .ok (.iload_n 3, 1) := by decide +kernel
theorem dX9_rate_60 : decode cX9_rate 60 = .ok (.iload 5, 2) := by decide +kernel
theorem dX9_rate_62 : decode cX9_rate 62 = .ok (.isub, 1) := by decide +kernel
theorem dX9_rate_63 : decode cX9_rate 63 = .ok (.aload_n 0, 1) := by decide +kernel
theorem dX9_rate_64 : decode cX9_rate 64 = .ok (.iload_n 2, 1) := by decide +kernel
theorem dX9_rate_65 : decode cX9_rate 65 = .ok (.iconst 0, 1) := by decide +kernel
theorem dX9_rate_66 : decode cX9_rate 66 = .ok (.invokevirtual 139, 3) := by decide +kernel
theorem dX9_rate_69 : decode cX9_rate 69 = .ok (.invokestatic 179, 3) := by decide +kernel
theorem dX9_rate_72 : decode cX9_rate 72 = .ok (.isub, 1) := by decide +kernel
theorem dX9_rate_73 : decode cX9_rate 73 = .ok (.istore 6, 2) := by decide +kernel
theorem dX9_rate_75 : decode cX9_rate 75 = .ok (.aload_n 0, 1) := by decide +kernel
theorem dX9_rate_76 : decode cX9_rate 76 = .ok (.dup, 1) := by decide +kernel
theorem dX9_rate_77 : decode cX9_rate 77 = .ok (.getfield 220, 3) := by decide +kernel
theorem dX9_rate_80 : decode cX9_rate 80 = .ok (.iload_n 1, 1) := by decide +kernel
theorem dX9_rate_81 : decode cX9_rate 81 = .ok (.ifCond .ne 7, 3) := by decide +kernel
theorem dX9_rate_84 : decode cX9_rate 84 = .ok (.lconst 1, 1) := by decide +kernel
theorem dX9_rate_85 : decode cX9_rate 85 = .ok (.goto 50, 3) := by decide +kernel
theorem dX9_rate_88 : decode cX9_rate 88 = .ok (.iload_n 1, 1) := by decide +kernel
theorem dX9_rate_89 : decode cX9_rate 89 = .ok (.iconst 1, 1) := by decide +kernel
theorem dX9_rate_90 : decode cX9_rate 90 = .ok (.if_icmp .ne 9, 3) := by decide +kernel
theorem dX9_rate_93 : decode cX9_rate 93 = .ok (.ldc2_w 224, 3) := by decide +kernel
theorem dX9_rate_96 : decode cX9_rate 96 = .ok (.goto 39, 3) := by decide +kernel
theorem dX9_rate_99 : decode cX9_rate 99 = .ok (.iload_n 1, 1) := by decide +kernel
theorem dX9_rate_100 : decode cX9_rate 100 = .ok (.iconst 2, 1) := by decide +kernel
theorem dX9_rate_101 : decode cX9_rate 101 = .ok (.if_icmp .ne 9, 3) := by decide +kernel
theorem dX9_rate_104 : decode cX9_rate 104 = .ok (.ldc2_w 226, 3) := by decide +kernel
theorem dX9_rate_107 : decode cX9_rate 107 = .ok (.goto 28, 3) := by decide +kernel
theorem dX9_rate_110 : decode cX9_rate 110 = .ok (.iload_n 1, 1) := by decide +kernel
theorem dX9_rate_111 : decode cX9_rate 111 = .ok (.iconst 3, 1) := by decide +kernel
theorem dX9_rate_112 : decode cX9_rate 112 = .ok (.if_icmp .ne 9, 3) := by decide +kernel
theorem dX9_rate_115 : decode cX9_rate 115 = .ok (.ldc2_w 228, 3) := by decide +kernel
theorem dX9_rate_118 : decode cX9_rate 118 = .ok (.goto 17, 3) := by decide +kernel
theorem dX9_rate_121 : decode cX9_rate 121 = .ok (.iload_n 1, 1) := by decide +kernel
theorem dX9_rate_122 : decode cX9_rate 122 = .ok (.iconst 4, 1) := by decide +kernel
theorem dX9_rate_123 : decode cX9_rate 123 = .ok (.if_icmp .ne 9, 3) := by decide +kernel
theorem dX9_rate_126 : decode cX9_rate 126 = .ok (.ldc2_w 230, 3) := by decide +kernel
theorem dX9_rate_129 : decode cX9_rate 129 = .ok (.goto 6, 3) := by decide +kernel
theorem dX9_rate_132 : decode cX9_rate 132 = .ok (.ldc2_w 232, 3) := by decide +kernel
theorem dX9_rate_135 : decode cX9_rate 135 = .ok (.ladd, 1) := by decide +kernel
theorem dX9_rate_136 : decode cX9_rate 136 = .ok (.putfield 220, 3) := by decide +kernel
theorem dX9_rate_139 : decode cX9_rate 139 = .ok (.iload_n 1, 1) := by decide +kernel
theorem dX9_rate_140 : decode cX9_rate 140 = .ok (.ifCond .ne 7, 3) := by decide +kernel
theorem dX9_rate_143 : decode cX9_rate 143 = .ok (.iload_n 3, 1) := by decide +kernel
theorem dX9_rate_144 : decode cX9_rate 144 = .ok (.goto 53, 3) := by decide +kernel
theorem dX9_rate_147 : decode cX9_rate 147 = .ok (.iload_n 1, 1) := by decide +kernel
theorem dX9_rate_148 : decode cX9_rate 148 = .ok (.iconst 1, 1) := by decide +kernel
theorem dX9_rate_149 : decode cX9_rate 149 = .ok (.if_icmp .ne 8, 3) := by decide +kernel
theorem dX9_rate_152 : decode cX9_rate 152 = .ok (.iload 4, 2) := by decide +kernel
theorem dX9_rate_154 : decode cX9_rate 154 = .ok (.goto 43, 3) := by decide +kernel
theorem dX9_rate_157 : decode cX9_rate 157 = .ok (.iload_n 1, 1) := by decide +kernel
theorem dX9_rate_158 : decode cX9_rate 158 = .ok (.iconst 2, 1) := by decide +kernel
theorem dX9_rate_159 : decode cX9_rate 159 = .ok (.if_icmp .ne 10, 3) := by decide +kernel
theorem dX9_rate_162 : decode cX9_rate 162 = .ok (.iconst 2, 1) := by decide +kernel
theorem dX9_rate_163 : decode cX9_rate 163 = .ok (.iload 4, 2) := by decide +kernel
theorem dX9_rate_165 : decode cX9_rate 165 = .ok (.imul, 1) := by decide +kernel
theorem dX9_rate_166 : decode cX9_rate 166 = .ok (.goto 31, 3) := by decide +kernel
theorem dX9_rate_169 : decode cX9_rate 169 = .ok (.iload_n 1, 1) := by decide +kernel
theorem dX9_rate_170 : decode cX9_rate 170 = .ok (.iconst 3, 1) := by decide +kernel
theorem dX9_rate_171 : decode cX9_rate 171 = .ok (.if_icmp .ne 10, 3) := by decide +kernel
theorem dX9_rate_174 : decode cX9_rate 174 = .ok (.iload_n 3, 1) := by decide +kernel
theorem dX9_rate_175 : decode cX9_rate 175 = .ok (.iload 5, 2) := by decide +kernel
theorem dX9_rate_177 : decode cX9_rate 177 = .ok (.iadd, 1) := by decide +kernel
theorem dX9_rate_178 : decode cX9_rate 178 = .ok (.goto 19, 3) := by decide +kernel
theorem dX9_rate_181 : decode cX9_rate 181 = .ok (.iload_n 1, 1) := by decide +kernel
theorem dX9_rate_182 : decode cX9_rate 182 = .ok (.iconst 4, 1) := by decide +kernel
theorem dX9_rate_183 : decode cX9_rate 183 = .ok (.if_icmp .ne 8, 3) := by decide +kernel
theorem dX9_rate_186 : decode cX9_rate 186 = .ok (.iload 6, 2) := by decide +kernel
theorem dX9_rate_188 : decode cX9_rate 188 = .ok (.goto 9, 3) := by decide +kernel
theorem dX9_rate_191 : decode cX9_rate 191 = .ok (.iconst 3, 1) := by decide +kernel
theorem dX9_rate_192 : decode cX9_rate 192 = .ok (.iload 6, 2) := by decide +kernel
theorem dX9_rate_194 : decode cX9_rate 194 = .ok (.imul, 1) := by decide +kernel
theorem dX9_rate_195 : decode cX9_rate 195 = .ok (.iload_n 2, 1) := by decide +kernel
theorem dX9_rate_196 : decode cX9_rate 196 = .ok (.iadd, 1) := by decide +kernel
theorem dX9_rate_197 : decode cX9_rate 197 = .ok (.ireturn, 1) := by decide +kernel
theorem dX9_keep_0 : decode cX9_keep 0 = .ok (.aload_n 0, 1) := by decide +kernel
theorem dX9_keep_1 : decode cX9_keep 1 = .ok (.iconst 0, 1) := by decide +kernel
theorem dX9_keep_2 : decode cX9_keep 2 = .ok (.putfield 56, 3) := by decide +kernel
theorem dX9_keep_5 : decode cX9_keep 5 = .ok (.iload_n 1, 1) := by decide +kernel
theorem dX9_keep_6 : decode cX9_keep 6 = .ok (.iconst 0, 1) := by decide +kernel
theorem dX9_keep_7 : decode cX9_keep 7 = .ok (.iconst 1, 1) := by decide +kernel
theorem dX9_keep_8 : decode cX9_keep 8 = .ok (.invokestatic 60, 3) := by decide +kernel
theorem dX9_keep_11 : decode cX9_keep 11 = .ok (.ifCond .ne 5, 3) := by decide +kernel
theorem dX9_keep_14 : decode cX9_keep 14 = .ok (.iconst (-1), 1) := by decide +kernel
theorem dX9_keep_15 : decode cX9_keep 15 = .ok (.ireturn, 1) := by decide +kernel
theorem dX9_keep_16 : decode cX9_keep 16 = .ok (.iconst 0, 1) := by decide +kernel
theorem dX9_keep_17 : decode cX9_keep 17 = .ok (.istore_n 2, 1) := by decide +kernel
theorem dX9_keep_18 : decode cX9_keep 18 = .ok (.iload_n 2, 1) := by decide +kernel
theorem dX9_keep_19 : decode cX9_keep 19 = .ok (.bipush 66, 2) := by decide +kernel
theorem dX9_keep_21 : decode cX9_keep 21 = .ok (.if_icmp .ge 26, 3) := by decide +kernel
theorem dX9_keep_24 : decode cX9_keep 24 = .ok (.aload_n 0, 1) := by decide +kernel
theorem dX9_keep_25 : decode cX9_keep 25 = .ok (.getfield 31, 3) := by decide +kernel
theorem dX9_keep_28 : decode cX9_keep 28 = .ok (.bipush 66, 2) := by decide +kernel
theorem dX9_keep_30 : decode cX9_keep 30 = .ok (.iload_n 1, 1) := by decide +kernel
theorem dX9_keep_31 : decode cX9_keep 31 = .ok (.imul, 1) := by decide +kernel
theorem dX9_keep_32 : decode cX9_keep 32 = .ok (.iload_n 2, 1) := by decide +kernel
theorem dX9_keep_33 : decode cX9_keep 33 = .ok (.iadd, 1) := by decide +kernel
theorem dX9_keep_34 : decode cX9_keep 34 = .ok (.aload_n 0, 1) := by decide +kernel
theorem dX9_keep_35 : decode cX9_keep 35 = .ok (.getfield 22, 3) := by decide +kernel
theorem dX9_keep_38 : decode cX9_keep 38 = .ok (.iload_n 2, 1) := by decide +kernel
theorem dX9_keep_39 : decode cX9_keep 39 = .ok (.iaload, 1) := by decide +kernel
theorem dX9_keep_40 : decode cX9_keep 40 = .ok (.iastore, 1) := by decide +kernel
theorem dX9_keep_41 : decode cX9_keep 41 = .ok (.iinc 2 1, 3) := by decide +kernel
theorem dX9_keep_44 : decode cX9_keep 44 = .ok (.goto (-26), 3) := by decide +kernel
theorem dX9_keep_47 : decode cX9_keep 47 = .ok (.aload_n 0, 1) := by decide +kernel
theorem dX9_keep_48 : decode cX9_keep 48 = .ok (.getfield 34, 3) := by decide +kernel
theorem dX9_keep_51 : decode cX9_keep 51 = .ok (.iload_n 1, 1) := by decide +kernel
theorem dX9_keep_52 : decode cX9_keep 52 = .ok (.iconst 1, 1) := by decide +kernel
theorem dX9_keep_53 : decode cX9_keep 53 = .ok (.bastore, 1) := by decide +kernel
theorem dX9_keep_54 : decode cX9_keep 54 = .ok (.aload_n 0, 1) := by decide +kernel
theorem dX9_keep_55 : decode cX9_keep 55 = .ok (.getfield 22, 3) := by decide +kernel
theorem dX9_keep_58 : decode cX9_keep 58 = .ok (.iconst 0, 1) := by decide +kernel
theorem dX9_keep_59 : decode cX9_keep 59 = .ok (.iaload, 1) := by decide +kernel
theorem dX9_keep_60 : decode cX9_keep 60 = .ok (.ireturn, 1) := by decide +kernel
theorem dX9_back_0 : decode cX9_back 0 = .ok (.aload_n 0, 1) := by decide +kernel
theorem dX9_back_1 : decode cX9_back 1 = .ok (.iconst 0, 1) := by decide +kernel
theorem dX9_back_2 : decode cX9_back 2 = .ok (.putfield 56, 3) := by decide +kernel
theorem dX9_back_5 : decode cX9_back 5 = .ok (.iload_n 1, 1) := by decide +kernel
theorem dX9_back_6 : decode cX9_back 6 = .ok (.iconst 0, 1) := by decide +kernel
theorem dX9_back_7 : decode cX9_back 7 = .ok (.iconst 1, 1) := by decide +kernel
theorem dX9_back_8 : decode cX9_back 8 = .ok (.invokestatic 60, 3) := by decide +kernel
theorem dX9_back_11 : decode cX9_back 11 = .ok (.ifCond .ne 5, 3) := by decide +kernel
theorem dX9_back_14 : decode cX9_back 14 = .ok (.iconst (-1), 1) := by decide +kernel
theorem dX9_back_15 : decode cX9_back 15 = .ok (.ireturn, 1) := by decide +kernel
theorem dX9_back_16 : decode cX9_back 16 = .ok (.aload_n 0, 1) := by decide +kernel
theorem dX9_back_17 : decode cX9_back 17 = .ok (.getfield 34, 3) := by decide +kernel
theorem dX9_back_20 : decode cX9_back 20 = .ok (.iload_n 1, 1) := by decide +kernel
theorem dX9_back_21 : decode cX9_back 21 = .ok (.baload, 1) := by decide +kernel
theorem dX9_back_22 : decode cX9_back 22 = .ok (.ifCond .ne 6, 3) := by decide +kernel
theorem dX9_back_25 : decode cX9_back 25 = .ok (.bipush (-2), 2) := by decide +kernel
theorem dX9_back_27 : decode cX9_back 27 = .ok (.ireturn, 1) := by decide +kernel
theorem dX9_back_28 : decode cX9_back 28 = .ok (.iconst 0, 1) := by decide +kernel
theorem dX9_back_29 : decode cX9_back 29 = .ok (.istore_n 2, 1) := by decide +kernel
theorem dX9_back_30 : decode cX9_back 30 = .ok (.iload_n 2, 1) := by decide +kernel
theorem dX9_back_31 : decode cX9_back 31 = .ok (.bipush 66, 2) := by decide +kernel
theorem dX9_back_33 : decode cX9_back 33 = .ok (.if_icmp .ge 26, 3) := by decide +kernel
theorem dX9_back_36 : decode cX9_back 36 = .ok (.aload_n 0, 1) := by decide +kernel
theorem dX9_back_37 : decode cX9_back 37 = .ok (.getfield 22, 3) := by decide +kernel
theorem dX9_back_40 : decode cX9_back 40 = .ok (.iload_n 2, 1) := by decide +kernel
theorem dX9_back_41 : decode cX9_back 41 = .ok (.aload_n 0, 1) := by decide +kernel
theorem dX9_back_42 : decode cX9_back 42 = .ok (.getfield 31, 3) := by decide +kernel
theorem dX9_back_45 : decode cX9_back 45 = .ok (.bipush 66, 2) := by decide +kernel
theorem dX9_back_47 : decode cX9_back 47 = .ok (.iload_n 1, 1) := by decide +kernel
theorem dX9_back_48 : decode cX9_back 48 = .ok (.imul, 1) := by decide +kernel
theorem dX9_back_49 : decode cX9_back 49 = .ok (.iload_n 2, 1) := by decide +kernel
theorem dX9_back_50 : decode cX9_back 50 = .ok (.iadd, 1) := by decide +kernel
theorem dX9_back_51 : decode cX9_back 51 = .ok (.iaload, 1) := by decide +kernel
theorem dX9_back_52 : decode cX9_back 52 = .ok (.iastore, 1) := by decide +kernel
theorem dX9_back_53 : decode cX9_back 53 = .ok (.iinc 2 1, 3) := by decide +kernel
theorem dX9_back_56 : decode cX9_back 56 = .ok (.goto (-26), 3) := by decide +kernel
theorem dX9_back_59 : decode cX9_back 59 = .ok (.aload_n 0, 1) := by decide +kernel
theorem dX9_back_60 : decode cX9_back 60 = .ok (.iconst 0, 1) := by decide +kernel
theorem dX9_back_61 : decode cX9_back 61 = .ok (.putfield 115, 3) := by decide +kernel
theorem dX9_back_64 : decode cX9_back 64 = .ok (.aload_n 0, 1) := by decide +kernel
theorem dX9_back_65 : decode cX9_back 65 = .ok (.getfield 22, 3) := by decide +kernel
theorem dX9_back_68 : decode cX9_back 68 = .ok (.iconst 0, 1) := by decide +kernel
theorem dX9_back_69 : decode cX9_back 69 = .ok (.iaload, 1) := by decide +kernel
theorem dX9_back_70 : decode cX9_back 70 = .ok (.ireturn, 1) := by decide +kernel
theorem dX9_count_0 : decode cX9_count 0 = .ok (.aload_n 0, 1) := by decide +kernel
theorem dX9_count_1 : decode cX9_count 1 = .ok (.iconst 0, 1) := by decide +kernel
theorem dX9_count_2 : decode cX9_count 2 = .ok (.putfield 56, 3) := by decide +kernel
theorem dX9_count_5 : decode cX9_count 5 = .ok (.iload_n 1, 1) := by decide +kernel
theorem dX9_count_6 : decode cX9_count 6 = .ok (.iconst 0, 1) := by decide +kernel
theorem dX9_count_7 : decode cX9_count 7 = .ok (.iconst 1, 1) := by decide +kernel
theorem dX9_count_8 : decode cX9_count 8 = .ok (.invokestatic 60, 3) := by decide +kernel
theorem dX9_count_11 : decode cX9_count 11 = .ok (.ifCond .eq 12, 3) := by decide +kernel
theorem dX9_count_14 : decode cX9_count 14 = .ok (.aload_n 0, 1) := by decide +kernel
theorem dX9_count_15 : decode cX9_count 15 = .ok (.getfield 13, 3) := by decide +kernel
theorem dX9_count_18 : decode cX9_count 18 = .ok (.iload_n 1, 1) := by decide +kernel
theorem dX9_count_19 : decode cX9_count 19 = .ok (.iaload, 1) := by decide +kernel
theorem dX9_count_20 : decode cX9_count 20 = .ok (.goto 28, 3) := by decide +kernel
theorem dX9_count_23 : decode cX9_count 23 = .ok (.iload_n 1, 1) := by decide +kernel
theorem dX9_count_24 : decode cX9_count 24 = .ok (.iconst 2, 1) := by decide +kernel
theorem dX9_count_25 : decode cX9_count 25 = .ok (.if_icmp .ne 10, 3) := by decide +kernel
theorem dX9_count_28 : decode cX9_count 28 = .ok (.aload_n 0, 1) := by decide +kernel
theorem dX9_count_29 : decode cX9_count 29 = .ok (.getfield 112, 3) := by decide +kernel
theorem dX9_count_32 : decode cX9_count 32 = .ok (.goto 16, 3) := by decide +kernel
theorem dX9_count_35 : decode cX9_count 35 = .ok (.iload_n 1, 1) := by decide +kernel
theorem dX9_count_36 : decode cX9_count 36 = .ok (.iconst 3, 1) := by decide +kernel
theorem dX9_count_37 : decode cX9_count 37 = .ok (.if_icmp .ne 10, 3) := by decide +kernel
theorem dX9_count_40 : decode cX9_count 40 = .ok (.aload_n 0, 1) := by decide +kernel
theorem dX9_count_41 : decode cX9_count 41 = .ok (.getfield 64, 3) := by decide +kernel
theorem dX9_count_44 : decode cX9_count 44 = .ok (.goto 4, 3) := by decide +kernel
theorem dX9_count_47 : decode cX9_count 47 = .ok (.iconst (-1), 1) := by decide +kernel
theorem dX9_count_48 : decode cX9_count 48 = .ok (.ireturn, 1) := by decide +kernel
theorem dX9_trace_0 : decode cX9_trace 0 = .ok (.aload_n 0, 1) := by decide +kernel
theorem dX9_trace_1 : decode cX9_trace 1 = .ok (.iconst 0, 1) := by decide +kernel
theorem dX9_trace_2 : decode cX9_trace 2 = .ok (.putfield 56, 3) := by decide +kernel
theorem dX9_trace_5 : decode cX9_trace 5 = .ok (.aload_n 0, 1) := by decide +kernel
theorem dX9_trace_6 : decode cX9_trace 6 = .ok (.getfield 220, 3) := by decide +kernel
theorem dX9_trace_9 : decode cX9_trace 9 = .ok (.lreturn, 1) := by decide +kernel
