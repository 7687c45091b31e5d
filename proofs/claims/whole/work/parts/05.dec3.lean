theorem dX9_gorge_26 : decode cX9_gorge 26 = .ok (.invokevirtual 89, 3) := by decide +kernel
theorem dX9_gorge_29 : decode cX9_gorge 29 = .ok (.ifCond .eq 72, 3) := by decide +kernel
theorem dX9_gorge_32 : decode cX9_gorge 32 = .ok (.aload_n 0, 1) := by decide +kernel
theorem dX9_gorge_33 : decode cX9_gorge 33 = .ok (.getfield 77, 3) := by decide +kernel
theorem dX9_gorge_36 : decode cX9_gorge 36 = .ok (.ifCond .eq 65, 3) := by decide +kernel
theorem dX9_gorge_39 : decode cX9_gorge 39 = .ok (.aload_n 0, 1) := by decide +kernel
theorem dX9_gorge_40 : decode cX9_gorge 40 = .ok (.aload_n 0, 1) := by decide +kernel
theorem dX9_gorge_41 : decode cX9_gorge 41 = .ok (.getfield 77, 3) := by decide +kernel
theorem dX9_gorge_44 : decode cX9_gorge 44 = .ok (.iconst 1, 1) := by decide +kernel
theorem dX9_gorge_45 : decode cX9_gorge 45 = .ok (.if_icmp .ne 15, 3) := by decide +kernel
theorem dX9_gorge_48 : decode cX9_gorge 48 = .ok (.aload_n 0, 1) := by decide +kernel
theorem dX9_gorge_49 : decode cX9_gorge 49 = .ok (.iload_n 1, 1) := by decide +kernel
theorem dX9_gorge_50 : decode cX9_gorge 50 = .ok (.invokevirtual 104, 3) := by decide +kernel
theorem dX9_gorge_53 : decode cX9_gorge 53 = .ok (.ifCond .eq 7, 3) := by decide +kernel
theorem dX9_gorge_56 : decode cX9_gorge 56 = .ok (.iconst 1, 1) := by decide +kernel
theorem dX9_gorge_57 : decode cX9_gorge 57 = .ok (.goto 4, 3) := by decide +kernel
theorem dX9_gorge_60 : decode cX9_gorge 60 = .ok (.iconst 0, 1) := by decide +kernel
theorem dX9_gorge_61 : decode cX9_gorge 61 = .ok (.invokevirtual 96, 3) := by decide +kernel
theorem dX9_gorge_64 : decode cX9_gorge 64 = .ok (.istore_n 2, 1) := by decide +kernel
theorem dX9_gorge_65 : decode cX9_gorge 65 = .ok (.aload_n 0, 1) := by decide +kernel
theorem dX9_gorge_66 : decode cX9_gorge 66 = .ok (.invokevirtual 89, 3) := by decide +kernel
theorem dX9_gorge_69 : decode cX9_gorge 69 = .ok (.ifCond .eq 8, 3) := by decide +kernel
theorem dX9_gorge_72 : decode cX9_gorge 72 = .ok (.aload_n 0, 1) := by decide +kernel
theorem dX9_gorge_73 : decode cX9_gorge 73 = .ok (.iload_n 2, 1) := by decide +kernel
theorem dX9_gorge_74 : decode cX9_gorge 74 = .ok (.invokevirtual 108, 3) := by decide +kernel
theorem dX9_gorge_77 : decode cX9_gorge 77 = .ok (.aload_n 0, 1) := by decide +kernel
theorem dX9_gorge_78 : decode cX9_gorge 78 = .ok (.aload_n 0, 1) := by decide +kernel
theorem dX9_gorge_79 : decode cX9_gorge 79 = .ok (.getfield 77, 3) := by decide +kernel
theorem dX9_gorge_82 : decode cX9_gorge 82 = .ok (.iconst 3, 1) := by decide +kernel
theorem dX9_gorge_83 : decode cX9_gorge 83 = .ok (.if_icmp .ne 7, 3) := by decide +kernel
theorem dX9_gorge_86 : decode cX9_gorge 86 = .ok (.iconst 1, 1) := by decide +kernel
theorem dX9_gorge_87 : decode cX9_gorge 87 = .ok (.goto 4, 3) := by decide +kernel
theorem dX9_gorge_90 : decode cX9_gorge 90 = .ok (.iconst 0, 1) := by decide +kernel
theorem dX9_gorge_91 : decode cX9_gorge 91 = .ok (.invokevirtual 96, 3) := by decide +kernel
theorem dX9_gorge_94 : decode cX9_gorge 94 = .ok (.pop, 1) := by decide +kernel
theorem dX9_gorge_95 : decode cX9_gorge 95 = .ok (.iinc 1 1, 3) := by decide +kernel
theorem dX9_gorge_98 : decode cX9_gorge 98 = .ok (.goto (-73), 3) := by decide +kernel
theorem dX9_gorge_101 : decode cX9_gorge 101 = .ok (.aload_n 0, 1) := by decide +kernel
theorem dX9_gorge_102 : decode cX9_gorge 102 = .ok (.invokevirtual 89, 3) := by decide +kernel
theorem dX9_gorge_105 : decode cX9_gorge 105 = .ok (.ifCond .ne 11, 3) := by decide +kernel
theorem dX9_gorge_108 : decode cX9_gorge 108 = .ok (.bipush (-10), 2) := by decide +kernel
theorem dX9_gorge_110 : decode cX9_gorge 110 = .ok (.aload_n 0, 1) := by decide +kernel
theorem dX9_gorge_111 : decode cX9_gorge 111 = .ok (.getfield 86, 3) := by decide +kernel
theorem dX9_gorge_114 : decode cX9_gorge 114 = .ok (.isub, 1) := by decide +kernel
theorem dX9_gorge_115 : decode cX9_gorge 115 = .ok (.ireturn, 1) := by decide +kernel
theorem dX9_gorge_116 : decode cX9_gorge 116 = .ok (.aload_n 0, 1) := by decide +kernel
theorem dX9_gorge_117 : decode cX9_gorge 117 = .ok (.invokevirtual 53, 3) := by decide +kernel
theorem dX9_gorge_120 : decode cX9_gorge 120 = .ok (.iload_n 1, 1) := by decide +kernel
theorem dX9_gorge_121 : decode cX9_gorge 121 = .ok (.ireturn, 1) := by decide +kernel
theorem dX9_isPerson_0 : decode cX9_isPerson 0 = .ok (.iload_n 1, 1) := by decide +kernel
theorem dX9_isPerson_1 : decode cX9_isPerson 1 = .ok (.iconst 0, 1) := by decide +kernel
theorem dX9_isPerson_2 : decode cX9_isPerson 2 = .ok (.aload_n 0, 1) := by decide +kernel
theorem dX9_isPerson_3 : decode cX9_isPerson 3 = .ok (.getfield 13, 3) := by decide +kernel
theorem dX9_isPerson_6 : decode cX9_isPerson 6 = .ok (.iconst 1, 1) := by decide +kernel
theorem dX9_isPerson_7 : decode cX9_isPerson 7 = .ok (.iaload, 1) := by decide +kernel
theorem dX9_isPerson_8 : decode cX9_isPerson 8 = .ok (.iconst 1, 1) := by decide +kernel
theorem dX9_isPerson_9 : decode cX9_isPerson 9 = .ok (.isub, 1) := by decide +kernel
theorem dX9_isPerson_10 : decode cX9_isPerson 10 = .ok (.invokestatic 60, 3) := by decide +kernel
theorem dX9_isPerson_13 : decode cX9_isPerson 13 = .ok (.ireturn, 1) := by decide +kernel
theorem dX9_isPlank_0 : decode cX9_isPlank 0 = .ok (.iload_n 1, 1) := by decide +kernel
theorem dX9_isPlank_1 : decode cX9_isPlank 1 = .ok (.iconst 0, 1) := by decide +kernel
theorem dX9_isPlank_2 : decode cX9_isPlank 2 = .ok (.aload_n 0, 1) := by decide +kernel
theorem dX9_isPlank_3 : decode cX9_isPlank 3 = .ok (.getfield 13, 3) := by decide +kernel
theorem dX9_isPlank_6 : decode cX9_isPlank 6 = .ok (.iconst 0, 1) := by decide +kernel
theorem dX9_isPlank_7 : decode cX9_isPlank 7 = .ok (.iaload, 1) := by decide +kernel
theorem dX9_isPlank_8 : decode cX9_isPlank 8 = .ok (.iconst 1, 1) := by decide +kernel
theorem dX9_isPlank_9 : decode cX9_isPlank 9 = .ok (.isub, 1) := by decide +kernel
theorem dX9_isPlank_10 : decode cX9_isPlank 10 = .ok (.invokestatic 60, 3) := by decide +kernel
theorem dX9_isPlank_13 : decode cX9_isPlank 13 = .ok (.ireturn, 1) := by decide +kernel
theorem dX9_cameFor_0 : decode cX9_cameFor 0 = .ok (.iconst 0, 1) := by decide +kernel
theorem dX9_cameFor_1 : decode cX9_cameFor 1 = .ok (.istore_n 3, 1) := by decide +kernel
theorem dX9_cameFor_2 : decode cX9_cameFor 2 = .ok (.iconst 0, 1) := by decide +kernel
theorem dX9_cameFor_3 : decode cX9_cameFor 3 = .ok (.istore 4, 2) := by decide +kernel
theorem dX9_cameFor_5 : decode cX9_cameFor 5 = .ok (.iload 4, 2) := by decide +kernel
theorem dX9_cameFor_7 : decode cX9_cameFor 7 = .ok (.aload_n 0, 1) := by decide +kernel
theorem dX9_cameFor_8 : decode cX9_cameFor 8 = .ok (.getfield 13, 3) := by decide +kernel
theorem dX9_cameFor_11 : decode cX9_cameFor 11 = .ok (.iconst 1, 1) := by decide +kernel
theorem dX9_cameFor_12 : decode cX9_cameFor 12 = .ok (.iaload, 1) := by decide +kernel
theorem dX9_cameFor_13 : decode cX9_cameFor 13 = .ok (.if_icmp .ge 35, 3) := by decide +kernel
theorem dX9_cameFor_16 : decode cX9_cameFor 16 = .ok (.iload_n 3, 1) := by decide +kernel
theorem dX9_cameFor_17 : decode cX9_cameFor 17 = .ok (.aload_n 1, 1) := by decide +kernel
theorem dX9_cameFor_18 : decode cX9_cameFor 18 = .ok (.iconst 2, 1) := by decide +kernel
theorem dX9_cameFor_19 : decode cX9_cameFor 19 = .ok (.bipush 8, 2) := by decide +kernel
theorem dX9_cameFor_21 : decode cX9_cameFor 21 = .ok (.iload 4, 2) := by decide +kernel
theorem dX9_cameFor_23 : decode cX9_cameFor 23 = .ok (.imul, 1) := by decide +kernel
theorem dX9_cameFor_24 : decode cX9_cameFor 24 = .ok (.iadd, 1) := by decide +kernel
theorem dX9_cameFor_25 : decode cX9_cameFor 25 = .ok (.iload_n 2, 1) := by decide +kernel
theorem dX9_cameFor_26 : decode cX9_cameFor 26 = .ok (.iadd, 1) := by decide +kernel
theorem dX9_cameFor_27 : decode cX9_cameFor 27 = .ok (.iaload, 1) := by decide +kernel
theorem dX9_cameFor_28 : decode cX9_cameFor 28 = .ok (.iconst (-1), 1) := by decide +kernel
theorem dX9_cameFor_29 : decode cX9_cameFor 29 = .ok (.if_icmp .ne 10, 3) := by decide +kernel
theorem dX9_cameFor_32 : decode cX9_cameFor 32 = .ok (.iconst 1, 1) := by decide +kernel
theorem dX9_cameFor_33 : decode cX9_cameFor 33 = .ok (.iload 4, 2) := by decide +kernel
theorem dX9_cameFor_35 : decode cX9_cameFor 35 = .ok (.ishl, 1) := by decide +kernel
theorem dX9_cameFor_36 : decode cX9_cameFor 36 = .ok (.goto 4, 3) := by decide +kernel
theorem dX9_cameFor_39 : decode cX9_cameFor 39 = .ok (.iconst 0, 1) := by decide +kernel
theorem dX9_cameFor_40 : decode cX9_cameFor 40 = .ok (.ior, 1) := by decide +kernel
theorem dX9_cameFor_41 : decode cX9_cameFor 41 = .ok (.istore_n 3, 1) := by decide +kernel
theorem dX9_cameFor_42 : decode cX9_cameFor 42 = .ok (.iinc 4 1, 3) := by decide +kernel
theorem dX9_cameFor_45 : decode cX9_cameFor 45 = .ok (.goto (-40), 3) := by decide +kernel
theorem dX9_cameFor_48 : decode cX9_cameFor 48 = .ok (.iload_n 3, 1) := by decide +kernel
theorem dX9_cameFor_49 : decode cX9_cameFor 49 = .ok (.ireturn, 1) := by decide +kernel
theorem dX9_holdOf_0 : decode cX9_holdOf 0 = .ok (.aload_n 0, 1) := by decide +kernel
theorem dX9_holdOf_1 : decode cX9_holdOf 1 = .ok (.getfield 13, 3) := by decide +kernel
theorem dX9_holdOf_4 : decode cX9_holdOf 4 = .ok (.bipush 10, 2) := by decide +kernel
theorem dX9_holdOf_6 : decode cX9_holdOf 6 = .ok (.iload_n 1, 1) := by decide +kernel
theorem dX9_holdOf_7 : decode cX9_holdOf 7 = .ok (.iadd, 1) := by decide +kernel
theorem dX9_holdOf_8 : decode cX9_holdOf 8 = .ok (.iaload, 1) := by decide +kernel
theorem dX9_holdOf_9 : decode cX9_holdOf 9 = .ok (.istore 4, 2) := by decide +kernel
theorem dX9_holdOf_11 : decode cX9_holdOf 11 = .ok (.aload_n 0, 1) := by decide +kernel
theorem dX9_holdOf_12 : decode cX9_holdOf 12 = .ok (.getfield 13, 3) := by decide +kernel
theorem dX9_holdOf_15 : decode cX9_holdOf 15 = .ok (.bipush 18, 2) := by decide +kernel
theorem dX9_holdOf_17 : decode cX9_holdOf 17 = .ok (.iload_n 1, 1) := by decide +kernel
theorem dX9_holdOf_18 : decode cX9_holdOf 18 = .ok (.iadd, 1) := by decide +kernel
theorem dX9_holdOf_19 : decode cX9_holdOf 19 = .ok (.iaload, 1) := by decide +kernel
theorem dX9_holdOf_20 : decode cX9_holdOf 20 = .ok (.istore 5, 2) := by decide +kernel
theorem dX9_holdOf_22 : decode cX9_holdOf 22 = .ok (.iload 4, 2) := by decide +kernel
theorem dX9_holdOf_24 : decode cX9_holdOf 24 = .ok (.iconst 2, 1) := by decide +kernel
theorem dX9_holdOf_25 : decode cX9_holdOf 25 = .ok (.if_icmp .ne 16, 3) := by decide +kernel
theorem dX9_holdOf_28 : decode cX9_holdOf 28 = .ok (.iload 5, 2) := by decide +kernel
theorem dX9_holdOf_30 : decode cX9_holdOf 30 = .ok (.iconst 3, 1) := by decide +kernel
theorem dX9_holdOf_31 : decode cX9_holdOf 31 = .ok (.if_icmp .ge 8, 3) := by decide +kernel
theorem dX9_holdOf_34 : decode cX9_holdOf 34 = .ok (.iload 5, 2) := by decide +kernel
theorem dX9_holdOf_36 : decode cX9_holdOf 36 = .ok (.goto 4, 3) := by decide +kernel
theorem dX9_holdOf_39 : decode cX9_holdOf 39 = .ok (.iconst 3, 1) := by decide +kernel
theorem dX9_holdOf_40 : decode cX9_holdOf 40 = .ok (.ireturn, 1) := by decide +kernel
theorem dX9_holdOf_41 : decode cX9_holdOf 41 = .ok (.iload 4, 2) := by decide +kernel
theorem dX9_holdOf_43 : decode cX9_holdOf 43 = .ok (.iconst 4, 1) := by decide +kernel
theorem dX9_holdOf_44 : decode cX9_holdOf 44 = .ok (.if_icmp .ne 20, 3) := by decide +kernel
theorem dX9_holdOf_47 : decode cX9_holdOf 47 = .ok (.iload_n 2, 1) := by decide +kernel
theorem dX9_holdOf_48 : decode cX9_holdOf 48 = .ok (.iconst 2, 1) := by decide +kernel
theorem dX9_holdOf_49 : decode cX9_holdOf 49 = .ok (.irem, 1) := by decide +kernel
theorem dX9_holdOf_50 : decode cX9_holdOf 50 = .ok (.iconst 1, 1) := by decide +kernel
theorem dX9_holdOf_51 : decode cX9_holdOf 51 = .ok (.if_icmp .ne 10, 3) := by decide +kernel
theorem dX9_holdOf_54 : decode cX9_holdOf 54 = .ok (.iconst 2, 1) := by decide +kernel
theorem dX9_holdOf_55 : decode cX9_holdOf 55 = .ok (.iload 5, 2) := by decide +kernel
theorem dX9_holdOf_57 : decode cX9_holdOf 57 = .ok (.imul, 1) := by decide +kernel
theorem dX9_holdOf_58 : decode cX9_holdOf 58 = .ok (.goto 5, 3) := by decide +kernel
theorem dX9_holdOf_61 : decode cX9_holdOf 61 = .ok (.iload 5, 2) := by decide +kernel
theorem dX9_holdOf_63 : decode cX9_holdOf 63 = .ok (.ireturn, 1) := by decide +kernel
theorem dX9_holdOf_64 : decode cX9_holdOf 64 = .ok (.iload 4, 2) := by decide +kernel
theorem dX9_holdOf_66 : decode cX9_holdOf 66 = .ok (.iconst 5, 1) := by decide +kernel
theorem dX9_holdOf_67 : decode cX9_holdOf 67 = .ok (.if_icmp .eq 6, 3) := by decide +kernel
theorem dX9_holdOf_70 : decode cX9_holdOf 70 = .ok (.iload 5, 2) := by decide +kernel
theorem dX9_holdOf_72 : decode cX9_holdOf 72 = .ok (.ireturn, 1) := by decide +kernel
theorem dX9_holdOf_73 : decode cX9_holdOf 73 = .ok (.iconst 0, 1) := by decide +kernel
theorem dX9_holdOf_74 : decode cX9_holdOf 74 = .ok (.istore 6, 2) := by decide +kernel
theorem dX9_holdOf_76 : decode cX9_holdOf 76 = .ok (.iconst 0, 1) := by decide +kernel
theorem dX9_holdOf_77 : decode cX9_holdOf 77 = .ok (.istore 7, 2) := by decide +kernel
theorem dX9_holdOf_79 : decode cX9_holdOf 79 = .ok (.iload 7, 2) := by decide +kernel
theorem dX9_holdOf_81 : decode cX9_holdOf 81 = .ok (.aload_n 0, 1) := by decide +kernel
theorem dX9_holdOf_82 : decode cX9_holdOf 82 = .ok (.getfield 13, 3) := by decide +kernel
theorem dX9_holdOf_85 : decode cX9_holdOf 85 = .ok (.iconst 1, 1) := by decide +kernel
theorem dX9_holdOf_86 : decode cX9_holdOf 86 = .ok (.iaload, 1) := by decide +kernel
theorem dX9_holdOf_87 : decode cX9_holdOf 87 = .ok (.if_icmp .ge 44, 3) := by decide +kernel
theorem dX9_holdOf_90 : decode cX9_holdOf 90 = .ok (.iload 6, 2) := by decide +kernel
theorem dX9_holdOf_92 : decode cX9_holdOf 92 = .ok (.ifCond .ne 26, 3) := by decide +kernel
theorem dX9_holdOf_95 : decode cX9_holdOf 95 = .ok (.iload_n 3, 1) := by decide +kernel
theorem dX9_holdOf_96 : decode cX9_holdOf 96 = .ok (.iload 7, 2) := by decide +kernel
theorem dX9_holdOf_98 : decode cX9_holdOf 98 = .ok (.invokestatic 118, 3) := by decide +kernel
theorem dX9_holdOf_101 : decode cX9_holdOf 101 = .ok (.ifCond .eq 21, 3) := by decide +kernel
theorem dX9_holdOf_104 : decode cX9_holdOf 104 = .ok (.aload_n 0, 1) := by decide +kernel
theorem dX9_holdOf_105 : decode cX9_holdOf 105 = .ok (.getfield 13, 3) := by decide +kernel
theorem dX9_holdOf_108 : decode cX9_holdOf 108 = .ok (.bipush 10, 2) := by decide +kernel
theorem dX9_holdOf_110 : decode cX9_holdOf 110 = .ok (.iload 7, 2) := by decide +kernel
theorem dX9_holdOf_112 : decode cX9_holdOf 112 = .ok (.iadd, 1) := by decide +kernel
theorem dX9_holdOf_113 : decode cX9_holdOf 113 = .ok (.iaload, 1) := by decide +kernel
theorem dX9_holdOf_114 : decode cX9_holdOf 114 = .ok (.iconst 3, 1) := by decide +kernel
theorem dX9_holdOf_115 : decode cX9_holdOf 115 = .ok (.if_icmp .ne 7, 3) := by decide +kernel
theorem dX9_holdOf_118 : decode cX9_holdOf 118 = .ok (.iconst 1, 1) := by decide +kernel
theorem dX9_holdOf_119 : decode cX9_holdOf 119 = .ok (.goto 4, 3) := by decide +kernel
theorem dX9_holdOf_122 : decode cX9_holdOf 122 = .ok (.iconst 0, 1) := by decide +kernel
theorem dX9_holdOf_123 : decode cX9_holdOf 123 = .ok (.istore 6, 2) := by decide +kernel
theorem dX9_holdOf_125 : decode cX9_holdOf 125 = .ok (.iinc 7 1, 3) := by decide +kernel
theorem dX9_holdOf_128 : decode cX9_holdOf 128 = .ok (.goto (-49), 3) := by decide +kernel
theorem dX9_holdOf_131 : decode cX9_holdOf 131 = .ok (.iload 6, 2) := by decide +kernel
theorem dX9_holdOf_133 : decode cX9_holdOf 133 = .ok (.ifCond .eq 7, 3) := by decide +kernel
theorem dX9_holdOf_136 : decode cX9_holdOf 136 = .ok (.iconst 0, 1) := by decide +kernel
theorem dX9_holdOf_137 : decode cX9_holdOf 137 = .ok (.goto 7, 3) := by decide +kernel
theorem dX9_holdOf_140 : decode cX9_holdOf 140 = .ok (.iconst 2, 1) := by decide +kernel
theorem dX9_holdOf_141 : decode cX9_holdOf 141 = .ok (.iload 5, 2) := by decide +kernel
theorem dX9_holdOf_143 : decode cX9_holdOf 143 = .ok (.imul, 1) := by decide +kernel
theorem dX9_holdOf_144 : decode cX9_holdOf 144 = .ok (.ireturn, 1) := by decide +kernel
theorem dX9_standing_0 : decode cX9_standing 0 = .ok (.iconst 0, 1) := by decide +kernel
theorem dX9_standing_1 : decode cX9_standing 1 = .ok (.istore 4, 2) := by decide +kernel
theorem dX9_standing_3 : decode cX9_standing 3 = .ok (.iconst 0, 1) := by decide +kernel
theorem dX9_standing_4 : decode cX9_standing 4 = .ok (.istore 5, 2) := by decide +kernel
theorem dX9_standing_6 : decode cX9_standing 6 = .ok (.iload 5, 2) := by decide +kernel
theorem dX9_standing_8 : decode cX9_standing 8 = .ok (.aload_n 0, 1) := by decide +kernel
theorem dX9_standing_9 : decode cX9_standing 9 = .ok (.getfield 13, 3) := by decide +kernel
theorem dX9_standing_12 : decode cX9_standing 12 = .ok (.iconst 1, 1) := by decide +kernel
theorem dX9_standing_13 : decode cX9_standing 13 = .ok (.iaload, 1) := by decide +kernel
theorem dX9_standing_14 : decode cX9_standing 14 = .ok (.if_icmp .ge 81, 3) := by decide +kernel
theorem dX9_standing_17 : decode cX9_standing 17 = .ok (.aload_n 0, 1) := by decide +kernel
theorem dX9_standing_18 : decode cX9_standing 18 = .ok (.getfield 13, 3) := by decide +kernel
theorem dX9_standing_21 : decode cX9_standing 21 = .ok (.iconst 2, 1) := by decide +kernel
theorem dX9_standing_22 : decode cX9_standing 22 = .ok (.iload 5, 2) := by decide +kernel
theorem dX9_standing_24 : decode cX9_standing 24 = .ok (.iadd, 1) := by decide +kernel
theorem dX9_standing_25 : decode cX9_standing 25 = .ok (.iaload, 1) := by decide +kernel
theorem dX9_standing_26 : decode cX9_standing 26 = .ok (.iload_n 3, 1) := by decide +kernel
theorem dX9_standing_27 : decode cX9_standing 27 = .ok (.if_icmp .eq 17, 3) := by decide +kernel
theorem dX9_standing_30 : decode cX9_standing 30 = .ok (.aload_n 0, 1) := by decide +kernel
theorem dX9_standing_31 : decode cX9_standing 31 = .ok (.getfield 13, 3) := by decide +kernel
theorem dX9_standing_34 : decode cX9_standing 34 = .ok (.bipush 10, 2) := by decide +kernel
theorem dX9_standing_36 : decode cX9_standing 36 = .ok (.iload 5, 2) := by decide +kernel
theorem dX9_standing_38 : decode cX9_standing 38 = .ok (.iadd, 1) := by decide +kernel
theorem dX9_standing_39 : decode cX9_standing 39 = .ok (.iaload, 1) := by decide +kernel
theorem dX9_standing_40 : decode cX9_standing 40 = .ok (.iconst 3, 1) := by decide +kernel
theorem dX9_standing_41 : decode cX9_standing 41 = .ok (.if_icmp .ne 7, 3) := by decide +kernel
theorem dX9_standing_44 : decode cX9_standing 44 = .ok (.iconst 1, 1) := by decide +kernel
theorem dX9_standing_45 : decode cX9_standing 45 = .ok (.goto 4, 3) := by decide +kernel
theorem dX9_standing_48 : decode cX9_standing 48 = .ok (.iconst 0, 1) := by decide +kernel
theorem dX9_standing_49 : decode cX9_standing 49 = .ok (.istore 6, 2) := by decide +kernel
theorem dX9_standing_51 : decode cX9_standing 51 = .ok (.iload 4, 2) := by decide +kernel
theorem dX9_standing_53 : decode cX9_standing 53 = .ok (.iload 6, 2) := by decide +kernel
theorem dX9_standing_55 : decode cX9_standing 55 = .ok (.ifCond .eq 30, 3) := by decide +kernel
theorem dX9_standing_58 : decode cX9_standing 58 = .ok (.iload_n 2, 1) := by decide +kernel
theorem dX9_standing_59 : decode cX9_standing 59 = .ok (.iload 5, 2) := by decide +kernel
theorem dX9_standing_61 : decode cX9_standing 61 = .ok (.invokestatic 118, 3) := by decide +kernel
theorem dX9_standing_64 : decode cX9_standing 64 = .ok (.ifCond .eq 21, 3) := by decide +kernel
theorem dX9_standing_67 : decode cX9_standing 67 = .ok (.aload_n 0, 1) := by decide +kernel
theorem dX9_standing_68 : decode cX9_standing 68 = .ok (.iload 5, 2) := by decide +kernel
theorem dX9_standing_70 : decode cX9_standing 70 = .ok (.iload_n 1, 1) := by decide +kernel
theorem dX9_standing_71 : decode cX9_standing 71 = .ok (.iload_n 2, 1) := by decide +kernel
theorem dX9_standing_72 : decode cX9_standing 72 = .ok (.invokevirtual 122, 3) := by decide +kernel
theorem dX9_standing_75 : decode cX9_standing 75 = .ok (.ifCond .le 10, 3) := by decide +kernel
theorem dX9_standing_78 : decode cX9_standing 78 = .ok (.iconst 1, 1) := by decide +kernel
theorem dX9_standing_79 : decode cX9_standing 79 = .ok (.iload 5, 2) := by decide +kernel
theorem dX9_standing_81 : decode cX9_standing 81 = .ok (.ishl, 1) := by decide +kernel
theorem dX9_standing_82 : decode cX9_standing 82 = .ok (.goto 4, 3) := by decide +kernel
theorem dX9_standing_85 : decode cX9_standing 85 = .ok (.iconst 0, 1) := by decide +kernel
theorem dX9_standing_86 : decode cX9_standing 86 = .ok (.ior, 1) := by decide +kernel
theorem dX9_standing_87 : decode cX9_standing 87 = .ok (.istore 4, 2) := by decide +kernel
theorem dX9_standing_89 : decode cX9_standing 89 = .ok (.iinc 5 1, 3) := by decide +kernel
theorem dX9_standing_92 : decode cX9_standing 92 = .ok (.goto (-86), 3) := by decide +kernel
theorem dX9_standing_95 : decode cX9_standing 95 = .ok (.iload 4, 2) := by decide +kernel
theorem dX9_standing_97 : decode cX9_standing 97 = .ok (.ireturn, 1) := by decide +kernel
theorem dX9_bearsBy_0 : decode cX9_bearsBy 0 = .ok (.aload_n 0, 1) := by decide +kernel
theorem dX9_bearsBy_1 : decode cX9_bearsBy 1 = .ok (.iload_n 1, 1) := by decide +kernel
theorem dX9_bearsBy_2 : decode cX9_bearsBy 2 = .ok (.iload_n 2, 1) := by decide +kernel
theorem dX9_bearsBy_3 : decode cX9_bearsBy 3 = .ok (.iconst 0, 1) := by decide +kernel
theorem dX9_bearsBy_4 : decode cX9_bearsBy 4 = .ok (.invokevirtual 126, 3) := by decide +kernel
theorem dX9_bearsBy_7 : decode cX9_bearsBy 7 = .ok (.istore_n 3, 1) := by decide +kernel
theorem dX9_bearsBy_8 : decode cX9_bearsBy 8 = .ok (.aload_n 0, 1) := by decide +kernel
theorem dX9_bearsBy_9 : decode cX9_bearsBy 9 = .ok (.iload_n 1, 1) := by decide +kernel
theorem dX9_bearsBy_10 : decode cX9_bearsBy 10 = .ok (.iload_n 2, 1) := by decide +kernel
theorem dX9_bearsBy_11 : decode cX9_bearsBy 11 = .ok (.iconst 1, 1) := by decide +kernel
theorem dX9_bearsBy_12 : decode cX9_bearsBy 12 = .ok (.invokevirtual 126, 3) := by decide +kernel
theorem dX9_bearsBy_15 : decode cX9_bearsBy 15 = .ok (.istore 4, 2) := by decide +kernel
theorem dX9_bearsBy_17 : decode cX9_bearsBy 17 = .ok (.iconst 0, 1) := by decide +kernel
theorem dX9_bearsBy_18 : decode cX9_bearsBy 18 = .ok (.istore 5, 2) := by decide +kernel
theorem dX9_bearsBy_20 : decode cX9_bearsBy 20 = .ok (.iconst 0, 1) := by decide +kernel
theorem dX9_bearsBy_21 : decode cX9_bearsBy 21 = .ok (.istore 6, 2) := by decide +kernel
theorem dX9_bearsBy_23 : decode cX9_bearsBy 23 = .ok (.iload 6, 2) := by decide +kernel
theorem dX9_bearsBy_25 : decode cX9_bearsBy 25 = .ok (.aload_n 0, 1) := by decide +kernel
theorem dX9_bearsBy_26 : decode cX9_bearsBy 26 = .ok (.getfield 13, 3) := by decide +kernel
theorem dX9_bearsBy_29 : decode cX9_bearsBy 29 = .ok (.iconst 1, 1) := by decide +kernel
theorem dX9_bearsBy_30 : decode cX9_bearsBy 30 = .ok (.iaload, 1) := by decide +kernel
theorem dX9_bearsBy_31 : decode cX9_bearsBy 31 = .ok (.if_icmp .ge 94, 3) := by decide +kernel
theorem dX9_bearsBy_34 : decode cX9_bearsBy 34 = .ok (.iconst 0, 1) := by decide +kernel
theorem dX9_bearsBy_35 : decode cX9_bearsBy 35 = .ok (.istore 7, 2) := by decide +kernel
theorem dX9_bearsBy_37 : decode cX9_bearsBy 37 = .ok (.iload 7, 2) := by decide +kernel
theorem dX9_bearsBy_39 : decode cX9_bearsBy 39 = .ok (.aload_n 0, 1) := by decide +kernel
theorem dX9_bearsBy_40 : decode cX9_bearsBy 40 = .ok (.getfield 13, 3) := by decide +kernel
theorem dX9_bearsBy_43 : decode cX9_bearsBy 43 = .ok (.iconst 1, 1) := by decide +kernel
theorem dX9_bearsBy_44 : decode cX9_bearsBy 44 = .ok (.iaload, 1) := by decide +kernel
theorem dX9_bearsBy_45 : decode cX9_bearsBy 45 = .ok (.if_icmp .ge 74, 3) := by decide +kernel
theorem dX9_bearsBy_48 : decode cX9_bearsBy 48 = .ok (.iload 6, 2) := by decide +kernel
theorem dX9_bearsBy_50 : decode cX9_bearsBy 50 = .ok (.iload 7, 2) := by decide +kernel
theorem dX9_bearsBy_52 : decode cX9_bearsBy 52 = .ok (.if_icmp .eq 42, 3) := by decide +kernel
theorem dX9_bearsBy_55 : decode cX9_bearsBy 55 = .ok (.iload_n 3, 1) := by decide +kernel
theorem dX9_bearsBy_56 : decode cX9_bearsBy 56 = .ok (.iload 6, 2) := by decide +kernel
theorem dX9_bearsBy_58 : decode cX9_bearsBy 58 = .ok (.invokestatic 118, 3) := by decide +kernel
theorem dX9_bearsBy_61 : decode cX9_bearsBy 61 = .ok (.ifCond .eq 33, 3) := by decide +kernel
theorem dX9_bearsBy_64 : decode cX9_bearsBy 64 = .ok (.iload 4, 2) := by decide +kernel
theorem dX9_bearsBy_66 : decode cX9_bearsBy 66 = .ok (.iload 7, 2) := by decide +kernel
theorem dX9_bearsBy_68 : decode cX9_bearsBy 68 = .ok (.invokestatic 118, 3) := by decide +kernel
theorem dX9_bearsBy_71 : decode cX9_bearsBy 71 = .ok (.ifCond .eq 23, 3) := by decide +kernel
theorem dX9_bearsBy_74 : decode cX9_bearsBy 74 = .ok (.aload_n 0, 1) := by decide +kernel
theorem dX9_bearsBy_75 : decode cX9_bearsBy 75 = .ok (.iload 6, 2) := by decide +kernel
theorem dX9_bearsBy_77 : decode cX9_bearsBy 77 = .ok (.iload_n 1, 1) := by decide +kernel
theorem dX9_bearsBy_78 : decode cX9_bearsBy 78 = .ok (.iload_n 2, 1) := by decide +kernel
theorem dX9_bearsBy_79 : decode cX9_bearsBy 79 = .ok (.invokevirtual 122, 3) := by decide +kernel
theorem dX9_bearsBy_82 : decode cX9_bearsBy 82 = .ok (.aload_n 0, 1) := by decide +kernel
theorem dX9_bearsBy_83 : decode cX9_bearsBy 83 = .ok (.iload 7, 2) := by decide +kernel
theorem dX9_bearsBy_85 : decode cX9_bearsBy 85 = .ok (.iload_n 1, 1) := by decide +kernel
theorem dX9_bearsBy_86 : decode cX9_bearsBy 86 = .ok (.iload_n 2, 1) := by decide +kernel
theorem dX9_bearsBy_87 : decode cX9_bearsBy 87 = .ok (.invokevirtual 122, 3) := by decide +kernel
theorem dX9_bearsBy_90 : decode cX9_bearsBy 90 = .ok (.iadd, 1) := by decide +kernel
theorem dX9_bearsBy_91 : decode cX9_bearsBy 91 = .ok (.goto 4, 3) := by decide +kernel
theorem dX9_bearsBy_94 : decode cX9_bearsBy 94 = .ok (.iconst 0, 1) := by decide +kernel
theorem dX9_bearsBy_95 : decode cX9_bearsBy 95 = .ok (.istore 8, 2) := by decide +kernel
theorem dX9_bearsBy_97 : decode cX9_bearsBy 97 = .ok (.iload 8, 2) := by decide +kernel
theorem dX9_bearsBy_99 : decode cX9_bearsBy 99 = .ok (.iload 5, 2) := by decide +kernel
theorem dX9_bearsBy_101 : decode cX9_bearsBy 101 = .ok (.if_icmp .le 8, 3) := by decide +kernel
theorem dX9_bearsBy_104 : decode cX9_bearsBy 104 = .ok (.iload 8, 2) := by decide +kernel
theorem dX9_bearsBy_106 : decode cX9_bearsBy 106 = .ok (.goto 5, 3) := by decide +kernel
theorem dX9_bearsBy_109 : decode cX9_bearsBy 109 = .ok (.iload 5, 2) := by decide +kernel
theorem dX9_bearsBy_111 : decode cX9_bearsBy 111 = .ok (.istore 5, 2) := by decide +kernel
theorem dX9_bearsBy_113 : decode cX9_bearsBy 113 = .ok (.iinc 7 1, 3) := by decide +kernel
theorem dX9_bearsBy_116 : decode cX9_bearsBy 116 = .ok (.goto (-79), 3) := by decide +kernel
theorem dX9_bearsBy_119 : decode cX9_bearsBy 119 = .ok (.iinc 6 1, 3) := by decide +kernel
theorem dX9_bearsBy_122 : decode cX9_bearsBy 122 = .ok (.goto (-99), 3) := by decide +kernel
theorem dX9_bearsBy_125 : decode cX9_bearsBy 125 = .ok (.iload 5, 2) := by decide +kernel
theorem dX9_bearsBy_127 : decode cX9_bearsBy 127 = .ok (.ireturn, 1) := by decide +kernel
theorem dX9_bridge_0 : decode cX9_bridge 0 = .ok (.bipush 99, 2) := by decide +kernel
theorem dX9_bridge_2 : decode cX9_bridge 2 = .ok (.istore_n 2, 1) := by decide +kernel
theorem dX9_bridge_3 : decode cX9_bridge 3 = .ok (.iconst 0, 1) := by decide +kernel
theorem dX9_bridge_4 : decode cX9_bridge 4 = .ok (.istore_n 3, 1) := by decide +kernel
theorem dX9_bridge_5 : decode cX9_bridge 5 = .ok (.iload_n 3, 1) := by decide +kernel
theorem dX9_bridge_6 : decode cX9_bridge 6 = .ok (.aload_n 0, 1) := by decide +kernel
theorem dX9_bridge_7 : decode cX9_bridge 7 = .ok (.getfield 13, 3) := by decide +kernel
theorem dX9_bridge_10 : decode cX9_bridge 10 = .ok (.iconst 0, 1) := by decide +kernel
theorem dX9_bridge_11 : decode cX9_bridge 11 = .ok (.iaload, 1) := by decide +kernel
theorem dX9_bridge_12 : decode cX9_bridge 12 = .ok (.if_icmp .ge 35, 3) := by decide +kernel
theorem dX9_bridge_15 : decode cX9_bridge 15 = .ok (.aload_n 0, 1) := by decide +kernel
theorem dX9_bridge_16 : decode cX9_bridge 16 = .ok (.iload_n 3, 1) := by decide +kernel
theorem dX9_bridge_17 : decode cX9_bridge 17 = .ok (.aload_n 0, 1) := by decide +kernel
theorem dX9_bridge_18 : decode cX9_bridge 18 = .ok (.aload_n 1, 1) := by decide +kernel
theorem dX9_bridge_19 : decode cX9_bridge 19 = .ok (.iload_n 3, 1) := by decide +kernel
theorem dX9_bridge_20 : decode cX9_bridge 20 = .ok (.invokevirtual 129, 3) := by decide +kernel
theorem dX9_bridge_23 : decode cX9_bridge 23 = .ok (.invokevirtual 133, 3) := by decide +kernel
theorem dX9_bridge_26 : decode cX9_bridge 26 = .ok (.istore 4, 2) := by decide +kernel
theorem dX9_bridge_28 : decode cX9_bridge 28 = .ok (.iload 4, 2) := by decide +kernel
theorem dX9_bridge_30 : decode cX9_bridge 30 = .ok (.iload_n 2, 1) := by decide +kernel
theorem dX9_bridge_31 : decode cX9_bridge 31 = .ok (.if_icmp .ge 8, 3) := by decide +kernel
theorem dX9_bridge_34 : decode cX9_bridge 34 = .ok (.iload 4, 2) := by decide +kernel
theorem dX9_bridge_36 : decode cX9_bridge 36 = .ok (.goto 4, 3) := by decide +kernel
theorem dX9_bridge_39 : decode cX9_bridge 39 = .ok (.iload_n 2, 1) := by decide +kernel
theorem dX9_bridge_40 : decode cX9_bridge 40 = .ok (.istore_n 2, 1) := by decide +kernel
theorem dX9_bridge_41 : decode cX9_bridge 41 = .ok (.iinc 3 1, 3) := by decide +kernel
theorem dX9_bridge_44 : decode cX9_bridge 44 = .ok (.goto (-39), 3) := by decide +kernel
theorem dX9_bridge_47 : decode cX9_bridge 47 = .ok (.iload_n 2, 1) := by decide +kernel
theorem dX9_bridge_48 : decode cX9_bridge 48 = .ok (.ireturn, 1) := by decide +kernel
theorem dX9_lying_0 : decode cX9_lying 0 = .ok (.iconst 0, 1) := by decide +kernel
theorem dX9_lying_1 : decode cX9_lying 1 = .ok (.istore_n 2, 1) := by decide +kernel
theorem dX9_lying_2 : decode cX9_lying 2 = .ok (.iconst 0, 1) := by decide +kernel
theorem dX9_lying_3 : decode cX9_lying 3 = .ok (.istore_n 3, 1) := by decide +kernel
theorem dX9_lying_4 : decode cX9_lying 4 = .ok (.iload_n 3, 1) := by decide +kernel
theorem dX9_lying_5 : decode cX9_lying 5 = .ok (.aload_n 0, 1) := by decide +kernel
theorem dX9_lying_6 : decode cX9_lying 6 = .ok (.getfield 13, 3) := by decide +kernel
theorem dX9_lying_9 : decode cX9_lying 9 = .ok (.iconst 0, 1) := by decide +kernel
theorem dX9_lying_10 : decode cX9_lying 10 = .ok (.iaload, 1) := by decide +kernel
theorem dX9_lying_11 : decode cX9_lying 11 = .ok (.if_icmp .ge 33, 3) := by decide +kernel
theorem dX9_lying_14 : decode cX9_lying 14 = .ok (.iload_n 2, 1) := by decide +kernel
theorem dX9_lying_15 : decode cX9_lying 15 = .ok (.aload_n 0, 1) := by decide +kernel
theorem dX9_lying_16 : decode cX9_lying 16 = .ok (.iload_n 3, 1) := by decide +kernel
theorem dX9_lying_17 : decode cX9_lying 17 = .ok (.aload_n 0, 1) := by decide +kernel
theorem dX9_lying_18 : decode cX9_lying 18 = .ok (.aload_n 1, 1) := by decide +kernel
theorem dX9_lying_19 : decode cX9_lying 19 = .ok (.iload_n 3, 1) := by decide +kernel
theorem dX9_lying_20 : decode cX9_lying 20 = .ok (.invokevirtual 129, 3) := by decide +kernel
theorem dX9_lying_23 : decode cX9_lying 23 = .ok (.invokevirtual 133, 3) := by decide +kernel
theorem dX9_lying_26 : decode cX9_lying 26 = .ok (.ifCond .le 9, 3) := by decide +kernel
theorem dX9_lying_29 : decode cX9_lying 29 = .ok (.iconst 1, 1) := by decide +kernel
theorem dX9_lying_30 : decode cX9_lying 30 = .ok (.iload_n 3, 1) := by decide +kernel
theorem dX9_lying_31 : decode cX9_lying 31 = .ok (.ishl, 1) := by decide +kernel
theorem dX9_lying_32 : decode cX9_lying 32 = .ok (.goto 4, 3) := by decide +kernel
theorem dX9_lying_35 : decode cX9_lying 35 = .ok (.iconst 0, 1) := by decide +kernel
theorem dX9_lying_36 : decode cX9_lying 36 = .ok (.ior, 1) := by decide +kernel
theorem dX9_lying_37 : decode cX9_lying 37 = .ok (.istore_n 2, 1) := by decide +kernel
theorem dX9_lying_38 : decode cX9_lying 38 = .ok (.iinc 3 1, 3) := by decide +kernel
theorem dX9_lying_41 : decode cX9_lying 41 = .ok (.goto (-37), 3) := by decide +kernel
theorem dX9_lying_44 : decode cX9_lying 44 = .ok (.iload_n 2, 1) := by decide +kernel
theorem dX9_lying_45 : decode cX9_lying 45 = .ok (.ireturn, 1) := by decide +kernel
theorem dX9_asNow_0 : decode cX9_asNow 0 = .ok (.iconst 0, 1) := by decide +kernel
theorem dX9_asNow_1 : decode cX9_asNow 1 = .ok (.istore_n 1, 1) := by decide +kernel
theorem dX9_asNow_2 : decode cX9_asNow 2 = .ok (.iload_n 1, 1) := by decide +kernel
theorem dX9_asNow_3 : decode cX9_asNow 3 = .ok (.bipush 66, 2) := by decide +kernel
theorem dX9_asNow_5 : decode cX9_asNow 5 = .ok (.if_icmp .ge 21, 3) := by decide +kernel
theorem dX9_asNow_8 : decode cX9_asNow 8 = .ok (.aload_n 0, 1) := by decide +kernel
theorem dX9_asNow_9 : decode cX9_asNow 9 = .ok (.getfield 25, 3) := by decide +kernel
theorem dX9_asNow_12 : decode cX9_asNow 12 = .ok (.iload_n 1, 1) := by decide +kernel
theorem dX9_asNow_13 : decode cX9_asNow 13 = .ok (.aload_n 0, 1) := by decide +kernel
theorem dX9_asNow_14 : decode cX9_asNow 14 = .ok (.getfield 22, 3) := by decide +kernel
theorem dX9_asNow_17 : decode cX9_asNow 17 = .ok (.iload_n 1, 1) := by decide +kernel
theorem dX9_asNow_18 : decode cX9_asNow 18 = .ok (.iaload, 1) := by decide +kernel
theorem dX9_asNow_19 : decode cX9_asNow 19 = .ok (.iastore, 1) := by decide +kernel
theorem dX9_asNow_20 : decode cX9_asNow 20 = .ok (.iinc 1 1, 3) := by decide +kernel
theorem dX9_asNow_23 : decode cX9_asNow 23 = .ok (.goto (-21), 3) := by decide +kernel
theorem dX9_asNow_26 : decode cX9_asNow 26 = .ok (.return_, 1) := by decide +kernel
theorem dX9_allBroken_0 : decode cX9_allBroken 0 = .ok (.iconst 0, 1) := by decide +kernel
theorem dX9_allBroken_1 : decode cX9_allBroken 1 = .ok (.istore_n 3, 1) := by decide +kernel
theorem dX9_allBroken_2 : decode cX9_allBroken 2 = .ok (.iload_n 3, 1) := by decide +kernel
theorem dX9_allBroken_3 : decode cX9_allBroken 3 = .ok (.bipush 8, 2) := by decide +kernel
theorem dX9_allBroken_5 : decode cX9_allBroken 5 = .ok (.if_icmp .ge 20, 3) := by decide +kernel
theorem dX9_allBroken_8 : decode cX9_allBroken 8 = .ok (.aload_n 1, 1) := by decide +kernel
theorem dX9_allBroken_9 : decode cX9_allBroken 9 = .ok (.iconst 2, 1) := by decide +kernel
theorem dX9_allBroken_10 : decode cX9_allBroken 10 = .ok (.bipush 8, 2) := by decide +kernel
theorem dX9_allBroken_12 : decode cX9_allBroken 12 = .ok (.iload_n 2, 1) := by decide +kernel
theorem dX9_allBroken_13 : decode cX9_allBroken 13 = .ok (.imul, 1) := by decide +kernel
theorem dX9_allBroken_14 : decode cX9_allBroken 14 = .ok (.iadd, 1) := by decide +kernel
theorem dX9_allBroken_15 : decode cX9_allBroken 15 = .ok (.iload_n 3, 1) := by decide +kernel
theorem dX9_allBroken_16 : decode cX9_allBroken 16 = .ok (.iadd, 1) := by decide +kernel
theorem dX9_allBroken_17 : decode cX9_allBroken 17 = .ok (.iconst 0, 1) := by decide +kernel
theorem dX9_allBroken_18 : decode cX9_allBroken 18 = .ok (.iastore, 1) := by decide +kernel
theorem dX9_allBroken_19 : decode cX9_allBroken 19 = .ok (.iinc 3 1, 3) := by decide +kernel
theorem dX9_allBroken_22 : decode cX9_allBroken 22 = .ok (.goto (-20), 3) := by decide +kernel
theorem dX9_allBroken_25 : decode cX9_allBroken 25 = .ok (.return_, 1) := by decide +kernel
theorem dX9_given_0 : decode cX9_given 0 = .ok (.iconst 0, 1) := by decide +kernel
theorem dX9_given_1 : decode cX9_given 1 = .ok (.istore_n 3, 1) := by decide +kernel
theorem dX9_given_2 : decode cX9_given 2 = .ok (.iconst 0, 1) := by decide +kernel
theorem dX9_given_3 : decode cX9_given 3 = .ok (.istore 4, 2) := by decide +kernel
theorem dX9_given_5 : decode cX9_given 5 = .ok (.iload 4, 2) := by decide +kernel
theorem dX9_given_7 : decode cX9_given 7 = .ok (.aload_n 0, 1) := by decide +kernel
theorem dX9_given_8 : decode cX9_given 8 = .ok (.getfield 13, 3) := by decide +kernel
theorem dX9_given_11 : decode cX9_given 11 = .ok (.iconst 0, 1) := by decide +kernel
theorem dX9_given_12 : decode cX9_given 12 = .ok (.iaload, 1) := by decide +kernel
theorem dX9_given_13 : decode cX9_given 13 = .ok (.if_icmp .ge 56, 3) := by decide +kernel
theorem dX9_given_16 : decode cX9_given 16 = .ok (.aload_n 0, 1) := by decide +kernel
theorem dX9_given_17 : decode cX9_given 17 = .ok (.getfield 22, 3) := by decide +kernel
theorem dX9_given_20 : decode cX9_given 20 = .ok (.iconst 2, 1) := by decide +kernel
theorem dX9_given_21 : decode cX9_given 21 = .ok (.bipush 8, 2) := by decide +kernel
theorem dX9_given_23 : decode cX9_given 23 = .ok (.iload_n 1, 1) := by decide +kernel
theorem dX9_given_24 : decode cX9_given 24 = .ok (.imul, 1) := by decide +kernel
theorem dX9_given_25 : decode cX9_given 25 = .ok (.iadd, 1) := by decide +kernel
theorem dX9_given_26 : decode cX9_given 26 = .ok (.iload 4, 2) := by decide +kernel
theorem dX9_given_28 : decode cX9_given 28 = .ok (.iadd, 1) := by decide +kernel
theorem dX9_given_29 : decode cX9_given 29 = .ok (.iaload, 1) := by decide +kernel
theorem dX9_given_30 : decode cX9_given 30 = .ok (.istore 5, 2) := by decide +kernel
theorem dX9_given_32 : decode cX9_given 32 = .ok (.iload_n 3, 1) := by decide +kernel
theorem dX9_given_33 : decode cX9_given 33 = .ok (.iload 5, 2) := by decide +kernel
theorem dX9_given_35 : decode cX9_given 35 = .ok (.ifCond .eq 25, 3) := by decide +kernel
theorem dX9_given_38 : decode cX9_given 38 = .ok (.iload 5, 2) := by decide +kernel
theorem dX9_given_40 : decode cX9_given 40 = .ok (.iconst (-1), 1) := by decide +kernel
theorem dX9_given_41 : decode cX9_given 41 = .ok (.if_icmp .ne 7, 3) := by decide +kernel
theorem dX9_given_44 : decode cX9_given 44 = .ok (.iconst 1, 1) := by decide +kernel
theorem dX9_given_45 : decode cX9_given 45 = .ok (.goto 4, 3) := by decide +kernel
theorem dX9_given_48 : decode cX9_given 48 = .ok (.iconst 0, 1) := by decide +kernel
theorem dX9_given_49 : decode cX9_given 49 = .ok (.iload_n 2, 1) := by decide +kernel
theorem dX9_given_50 : decode cX9_given 50 = .ok (.if_icmp .ne 10, 3) := by decide +kernel
theorem dX9_given_53 : decode cX9_given 53 = .ok (.iconst 1, 1) := by decide +kernel
theorem dX9_given_54 : decode cX9_given 54 = .ok (.iload 4, 2) := by decide +kernel
theorem dX9_given_56 : decode cX9_given 56 = .ok (.ishl, 1) := by decide +kernel
theorem dX9_given_57 : decode cX9_given 57 = .ok (.goto 4, 3) := by decide +kernel
theorem dX9_given_60 : decode cX9_given 60 = .ok (.iconst 0, 1) := by decide +kernel
theorem dX9_given_61 : decode cX9_given 61 = .ok (.ior, 1) := by decide +kernel
theorem dX9_given_62 : decode cX9_given 62 = .ok (.istore_n 3, 1) := by decide +kernel
theorem dX9_given_63 : decode cX9_given 63 = .ok (.iinc 4 1, 3) := by decide +kernel
theorem dX9_given_66 : decode cX9_given 66 = .ok (.goto (-61), 3) := by decide +kernel
theorem dX9_given_69 : decode cX9_given 69 = .ok (.iload_n 3, 1) := by decide +kernel
theorem dX9_given_70 : decode cX9_given 70 = .ok (.ireturn, 1) := by decide +kernel
theorem dX9_person_0 : decode cX9_person 0 = .ok (.aload_n 0, 1) := by decide +kernel
theorem dX9_person_1 : decode cX9_person 1 = .ok (.iconst 0, 1) := by decide +kernel
theorem dX9_person_2 : decode cX9_person 2 = .ok (.putfield 56, 3) := by decide +kernel
theorem dX9_person_5 : decode cX9_person 5 = .ok (.aload_n 0, 1) := by decide +kernel
theorem dX9_person_6 : decode cX9_person 6 = .ok (.iload_n 1, 1) := by decide +kernel
theorem dX9_person_7 : decode cX9_person 7 = .ok (.invokevirtual 136, 3) := by decide +kernel
theorem dX9_person_10 : decode cX9_person 10 = .ok (.ifCond .eq 13, 3) := by decide +kernel
theorem dX9_person_13 : decode cX9_person 13 = .ok (.iload_n 2, 1) := by decide +kernel
theorem dX9_person_14 : decode cX9_person 14 = .ok (.iconst 0, 1) := by decide +kernel
theorem dX9_person_15 : decode cX9_person 15 = .ok (.bipush 7, 2) := by decide +kernel
theorem dX9_person_17 : decode cX9_person 17 = .ok (.invokestatic 60, 3) := by decide +kernel
theorem dX9_person_20 : decode cX9_person 20 = .ok (.ifCond .ne 5, 3) := by decide +kernel
theorem dX9_person_23 : decode cX9_person 23 = .ok (.iconst (-1), 1) := by decide +kernel
theorem dX9_person_24 : decode cX9_person 24 = .ok (.ireturn, 1) := by decide +kernel
theorem dX9_person_25 : decode cX9_person 25 = .ok (.iload_n 2, 1) := by decide +kernel
theorem dX9_person_26 : decode cX9_person 26 = .ok (.iconst 4, 1) := by decide +kernel
theorem dX9_person_27 : decode cX9_person 27 = .ok (.if_icmp .ge 62, 3) := by decide +kernel
theorem dX9_person_30 : decode cX9_person 30 = .ok (.iload_n 2, 1) := by decide +kernel
theorem dX9_person_31 : decode cX9_person 31 = .ok (.ifCond .ne 14, 3) := by decide +kernel
theorem dX9_person_34 : decode cX9_person 34 = .ok (.aload_n 0, 1) := by decide +kernel
theorem dX9_person_35 : decode cX9_person 35 = .ok (.getfield 13, 3) := by decide +kernel
theorem dX9_person_38 : decode cX9_person 38 = .ok (.iconst 2, 1) := by decide +kernel
theorem dX9_person_39 : decode cX9_person 39 = .ok (.iload_n 1, 1) := by decide +kernel
theorem dX9_person_40 : decode cX9_person 40 = .ok (.iadd, 1) := by decide +kernel
theorem dX9_person_41 : decode cX9_person 41 = .ok (.iaload, 1) := by decide +kernel
theorem dX9_person_42 : decode cX9_person 42 = .ok (.goto 46, 3) := by decide +kernel
theorem dX9_person_45 : decode cX9_person 45 = .ok (.iload_n 2, 1) := by decide +kernel
theorem dX9_person_46 : decode cX9_person 46 = .ok (.iconst 1, 1) := by decide +kernel
theorem dX9_person_47 : decode cX9_person 47 = .ok (.if_icmp .ne 15, 3) := by decide +kernel
theorem dX9_person_50 : decode cX9_person 50 = .ok (.aload_n 0, 1) := by decide +kernel
theorem dX9_person_51 : decode cX9_person 51 = .ok (.getfield 13, 3) := by decide +kernel
theorem dX9_person_54 : decode cX9_person 54 = .ok (.bipush 10, 2) := by decide +kernel
theorem dX9_person_56 : decode cX9_person 56 = .ok (.iload_n 1, 1) := by decide +kernel
theorem dX9_person_57 : decode cX9_person 57 = .ok (.iadd, 1) := by decide +kernel
theorem dX9_person_58 : decode cX9_person 58 = .ok (.iaload, 1) := by decide +kernel
theorem dX9_person_59 : decode cX9_person 59 = .ok (.goto 29, 3) := by decide +kernel
theorem dX9_person_62 : decode cX9_person 62 = .ok (.iload_n 2, 1) := by decide +kernel
theorem dX9_person_63 : decode cX9_person 63 = .ok (.iconst 2, 1) := by decide +kernel
theorem dX9_person_64 : decode cX9_person 64 = .ok (.if_icmp .ne 15, 3) := by decide +kernel
theorem dX9_person_67 : decode cX9_person 67 = .ok (.aload_n 0, 1) := by decide +kernel
theorem dX9_person_68 : decode cX9_person 68 = .ok (.getfield 13, 3) := by decide +kernel
theorem dX9_person_71 : decode cX9_person 71 = .ok (.bipush 18, 2) := by decide +kernel
theorem dX9_person_73 : decode cX9_person 73 = .ok (.iload_n 1, 1) := by decide +kernel
theorem dX9_person_74 : decode cX9_person 74 = .ok (.iadd, 1) := by decide +kernel
theorem dX9_person_75 : decode cX9_person 75 = .ok (.iaload, 1) := by decide +kernel
theorem dX9_person_76 : decode cX9_person 76 = .ok (.goto 12, 3) := by decide +kernel
theorem dX9_person_79 : decode cX9_person 79 = .ok (.aload_n 0, 1) := by decide +kernel
theorem dX9_person_80 : decode cX9_person 80 = .ok (.getfield 13, 3) := by decide +kernel
theorem dX9_person_83 : decode cX9_person 83 = .ok (.bipush 26, 2) := by decide +kernel
theorem dX9_person_85 : decode cX9_person 85 = .ok (.iload_n 1, 1) := by decide +kernel
theorem dX9_person_86 : decode cX9_person 86 = .ok (.iadd, 1) := by decide +kernel
theorem dX9_person_87 : decode cX9_person 87 = .ok (.iaload, 1) := by decide +kernel
theorem dX9_person_88 : decode cX9_person 88 = .ok (.ireturn, 1) := by decide +kernel
theorem dX9_person_89 : decode cX9_person 89 = .ok (.iload_n 2, 1) := by decide +kernel
theorem dX9_person_90 : decode cX9_person 90 = .ok (.bipush 6, 2) := by decide +kernel
theorem dX9_person_92 : decode cX9_person 92 = .ok (.if_icmp .ge 19, 3) := by decide +kernel
theorem dX9_person_95 : decode cX9_person 95 = .ok (.aload_n 0, 1) := by decide +kernel
theorem dX9_person_96 : decode cX9_person 96 = .ok (.iload_n 1, 1) := by decide +kernel
theorem dX9_person_97 : decode cX9_person 97 = .ok (.iload_n 2, 1) := by decide +kernel
theorem dX9_person_98 : decode cX9_person 98 = .ok (.iconst 4, 1) := by decide +kernel
theorem dX9_person_99 : decode cX9_person 99 = .ok (.if_icmp .ne 7, 3) := by decide +kernel
theorem dX9_person_102 : decode cX9_person 102 = .ok (.iconst 1, 1) := by decide +kernel
theorem dX9_person_103 : decode cX9_person 103 = .ok (.goto 4, 3) := by decide +kernel
theorem dX9_person_106 : decode cX9_person 106 = .ok (.iconst 0, 1) := by decide +kernel
theorem dX9_person_107 : decode cX9_person 107 = .ok (.invokevirtual 139, 3) := by decide +kernel
theorem dX9_person_110 : decode cX9_person 110 = .ok (.ireturn, 1) := by decide +kernel
theorem dX9_person_111 : decode cX9_person 111 = .ok (.aload_n 0, 1) := by decide +kernel
theorem dX9_person_112 : decode cX9_person 112 = .ok (.invokevirtual 143, 3) := by decide +kernel
theorem dX9_person_115 : decode cX9_person 115 = .ok (.aload_n 0, 1) := by decide +kernel
theorem dX9_person_116 : decode cX9_person 116 = .ok (.aload_n 0, 1) := by decide +kernel
theorem dX9_person_117 : decode cX9_person 117 = .ok (.getfield 25, 3) := by decide +kernel
theorem dX9_person_120 : decode cX9_person 120 = .ok (.iload_n 1, 1) := by decide +kernel
theorem dX9_person_121 : decode cX9_person 121 = .ok (.invokevirtual 146, 3) := by decide +kernel
theorem dX9_person_124 : decode cX9_person 124 = .ok (.iload_n 2, 1) := by decide +kernel
theorem dX9_person_125 : decode cX9_person 125 = .ok (.bipush 6, 2) := by decide +kernel
theorem dX9_person_127 : decode cX9_person 127 = .ok (.if_icmp .ne 23, 3) := by decide +kernel
theorem dX9_person_130 : decode cX9_person 130 = .ok (.aload_n 0, 1) := by decide +kernel
theorem dX9_person_131 : decode cX9_person 131 = .ok (.aload_n 0, 1) := by decide +kernel
theorem dX9_person_132 : decode cX9_person 132 = .ok (.getfield 22, 3) := by decide +kernel
theorem dX9_person_135 : decode cX9_person 135 = .ok (.invokevirtual 150, 3) := by decide +kernel
theorem dX9_person_138 : decode cX9_person 138 = .ok (.aload_n 0, 1) := by decide +kernel
theorem dX9_person_139 : decode cX9_person 139 = .ok (.aload_n 0, 1) := by decide +kernel
theorem dX9_person_140 : decode cX9_person 140 = .ok (.getfield 25, 3) := by decide +kernel
theorem dX9_person_143 : decode cX9_person 143 = .ok (.invokevirtual 150, 3) := by decide +kernel
theorem dX9_person_146 : decode cX9_person 146 = .ok (.iconst (-1), 1) := by decide +kernel
theorem dX9_person_147 : decode cX9_person 147 = .ok (.ixor, 1) := by decide +kernel
theorem dX9_person_148 : decode cX9_person 148 = .ok (.iand, 1) := by decide +kernel
theorem dX9_person_149 : decode cX9_person 149 = .ok (.ireturn, 1) := by decide +kernel
theorem dX9_person_150 : decode cX9_person 150 = .ok (.aload_n 0, 1) := by decide +kernel
theorem dX9_person_151 : decode cX9_person 151 = .ok (.aload_n 0, 1) := by decide +kernel
theorem dX9_person_152 : decode cX9_person 152 = .ok (.getfield 22, 3) := by decide +kernel
theorem dX9_person_155 : decode cX9_person 155 = .ok (.invokevirtual 154, 3) := by decide +kernel
theorem dX9_person_158 : decode cX9_person 158 = .ok (.aload_n 0, 1) := by decide +kernel
theorem dX9_person_159 : decode cX9_person 159 = .ok (.aload_n 0, 1) := by decide +kernel
theorem dX9_person_160 : decode cX9_person 160 = .ok (.getfield 25, 3) := by decide +kernel
theorem dX9_person_163 : decode cX9_person 163 = .ok (.invokevirtual 154, 3) := by decide +kernel
theorem dX9_person_166 : decode cX9_person 166 = .ok (.isub, 1) := by decide +kernel
theorem dX9_person_167 : decode cX9_person 167 = .ok (.istore_n 3, 1) := by decide +kernel
theorem dX9_person_168 : decode cX9_person 168 = .ok (.iload_n 3, 1) := by decide +kernel
theorem dX9_person_169 : decode cX9_person 169 = .ok (.ifCond .ge 7, 3) := by decide +kernel
theorem dX9_person_172 : decode cX9_person 172 = .ok (.iconst 0, 1) := by decide +kernel
theorem dX9_person_173 : decode cX9_person 173 = .ok (.goto 4, 3) := by decide +kernel
theorem dX9_person_176 : decode cX9_person 176 = .ok (.iload_n 3, 1) := by decide +kernel
theorem dX9_person_177 : decode cX9_person 177 = .ok (.ireturn, 1) := by decide +kernel
theorem dX9_plank_0 : decode cX9_plank 0 = .ok (.aload_n 0, 1) := by decide +kernel
theorem dX9_plank_1 : decode cX9_plank 1 = .ok (.iconst 0, 1) := by decide +kernel
theorem dX9_plank_2 : decode cX9_plank 2 = .ok (.putfield 56, 3) := by decide +kernel
theorem dX9_plank_5 : decode cX9_plank 5 = .ok (.aload_n 0, 1) := by decide +kernel
theorem dX9_plank_6 : decode cX9_plank 6 = .ok (.iload_n 1, 1) := by decide +kernel
theorem dX9_plank_7 : decode cX9_plank 7 = .ok (.invokevirtual 157, 3) := by decide +kernel
theorem dX9_plank_10 : decode cX9_plank 10 = .ok (.ifCond .eq 12, 3) := by decide +kernel
theorem dX9_plank_13 : decode cX9_plank 13 = .ok (.iload_n 2, 1) := by decide +kernel
theorem dX9_plank_14 : decode cX9_plank 14 = .ok (.iconst 0, 1) := by decide +kernel
theorem dX9_plank_15 : decode cX9_plank 15 = .ok (.iconst 2, 1) := by decide +kernel
theorem dX9_plank_16 : decode cX9_plank 16 = .ok (.invokestatic 60, 3) := by decide +kernel
theorem dX9_plank_19 : decode cX9_plank 19 = .ok (.ifCond .ne 5, 3) := by decide +kernel
theorem dX9_plank_22 : decode cX9_plank 22 = .ok (.iconst (-1), 1) := by decide +kernel
theorem dX9_plank_23 : decode cX9_plank 23 = .ok (.ireturn, 1) := by decide +kernel
theorem dX9_plank_24 : decode cX9_plank 24 = .ok (.aload_n 0, 1) := by decide +kernel
theorem dX9_plank_25 : decode cX9_plank 25 = .ok (.aload_n 0, 1) := by decide +kernel
theorem dX9_plank_26 : decode cX9_plank 26 = .ok (.getfield 22, 3) := by decide +kernel
theorem dX9_plank_29 : decode cX9_plank 29 = .ok (.iload_n 1, 1) := by decide +kernel
theorem dX9_plank_30 : decode cX9_plank 30 = .ok (.invokevirtual 129, 3) := by decide +kernel
theorem dX9_plank_33 : decode cX9_plank 33 = .ok (.istore_n 3, 1) := by decide +kernel
theorem dX9_plank_34 : decode cX9_plank 34 = .ok (.iload_n 2, 1) := by decide +kernel
theorem dX9_plank_35 : decode cX9_plank 35 = .ok (.ifCond .ne 12, 3) := by decide +kernel
theorem dX9_plank_38 : decode cX9_plank 38 = .ok (.aload_n 0, 1) := by decide +kernel
theorem dX9_plank_39 : decode cX9_plank 39 = .ok (.iload_n 1, 1) := by decide +kernel
theorem dX9_plank_40 : decode cX9_plank 40 = .ok (.iload_n 3, 1) := by decide +kernel
theorem dX9_plank_41 : decode cX9_plank 41 = .ok (.invokevirtual 133, 3) := by decide +kernel
theorem dX9_plank_44 : decode cX9_plank 44 = .ok (.goto 12, 3) := by decide +kernel
theorem dX9_plank_47 : decode cX9_plank 47 = .ok (.aload_n 0, 1) := by decide +kernel
theorem dX9_plank_48 : decode cX9_plank 48 = .ok (.iload_n 1, 1) := by decide +kernel
theorem dX9_plank_49 : decode cX9_plank 49 = .ok (.iload_n 3, 1) := by decide +kernel
theorem dX9_plank_50 : decode cX9_plank 50 = .ok (.iload_n 2, 1) := by decide +kernel
theorem dX9_plank_51 : decode cX9_plank 51 = .ok (.iconst 1, 1) := by decide +kernel
theorem dX9_plank_52 : decode cX9_plank 52 = .ok (.isub, 1) := by decide +kernel
theorem dX9_plank_53 : decode cX9_plank 53 = .ok (.invokevirtual 126, 3) := by decide +kernel
theorem dX9_plank_56 : decode cX9_plank 56 = .ok (.ireturn, 1) := by decide +kernel
theorem dX9_hold_0 : decode cX9_hold 0 = .ok (.aload_n 0, 1) := by decide +kernel
theorem dX9_hold_1 : decode cX9_hold 1 = .ok (.iconst 0, 1) := by decide +kernel
theorem dX9_hold_2 : decode cX9_hold 2 = .ok (.putfield 56, 3) := by decide +kernel
theorem dX9_hold_5 : decode cX9_hold 5 = .ok (.aload_n 0, 1) := by decide +kernel
theorem dX9_hold_6 : decode cX9_hold 6 = .ok (.iload_n 1, 1) := by decide +kernel
theorem dX9_hold_7 : decode cX9_hold 7 = .ok (.invokevirtual 136, 3) := by decide +kernel
theorem dX9_hold_10 : decode cX9_hold 10 = .ok (.ifCond .eq 29, 3) := by decide +kernel
theorem dX9_hold_13 : decode cX9_hold 13 = .ok (.aload_n 0, 1) := by decide +kernel
theorem dX9_hold_14 : decode cX9_hold 14 = .ok (.iload_n 2, 1) := by decide +kernel
theorem dX9_hold_15 : decode cX9_hold 15 = .ok (.invokevirtual 157, 3) := by decide +kernel
theorem dX9_hold_18 : decode cX9_hold 18 = .ok (.ifCond .eq 21, 3) := by decide +kernel
theorem dX9_hold_21 : decode cX9_hold 21 = .ok (.aload_n 0, 1) := by decide +kernel
theorem dX9_hold_22 : decode cX9_hold 22 = .ok (.iload_n 1, 1) := by decide +kernel
theorem dX9_hold_23 : decode cX9_hold 23 = .ok (.iload_n 2, 1) := by decide +kernel
theorem dX9_hold_24 : decode cX9_hold 24 = .ok (.aload_n 0, 1) := by decide +kernel
theorem dX9_hold_25 : decode cX9_hold 25 = .ok (.aload_n 0, 1) := by decide +kernel
theorem dX9_hold_26 : decode cX9_hold 26 = .ok (.getfield 22, 3) := by decide +kernel
theorem dX9_hold_29 : decode cX9_hold 29 = .ok (.iload_n 2, 1) := by decide +kernel
theorem dX9_hold_30 : decode cX9_hold 30 = .ok (.invokevirtual 129, 3) := by decide +kernel
theorem dX9_hold_33 : decode cX9_hold 33 = .ok (.invokevirtual 122, 3) := by decide +kernel
theorem dX9_hold_36 : decode cX9_hold 36 = .ok (.goto 4, 3) := by decide +kernel
theorem dX9_hold_39 : decode cX9_hold 39 = .ok (.iconst (-1), 1) := by decide +kernel
theorem dX9_hold_40 : decode cX9_hold 40 = .ok (.ireturn, 1) := by decide +kernel
theorem dX9_underWay_0 : decode cX9_underWay 0 = .ok (.iconst 0, 1) := by decide +kernel
theorem dX9_underWay_1 : decode cX9_underWay 1 = .ok (.istore_n 2, 1) := by decide +kernel
theorem dX9_underWay_2 : decode cX9_underWay 2 = .ok (.iconst 2, 1) := by decide +kernel
theorem dX9_underWay_3 : decode cX9_underWay 3 = .ok (.istore_n 3, 1) := by decide +kernel
theorem dX9_underWay_4 : decode cX9_underWay 4 = .ok (.iload_n 3, 1) := by decide +kernel
theorem dX9_underWay_5 : decode cX9_underWay 5 = .ok (.bipush 66, 2) := by decide +kernel
theorem dX9_underWay_7 : decode cX9_underWay 7 = .ok (.if_icmp .ge 23, 3) := by decide +kernel
theorem dX9_underWay_10 : decode cX9_underWay 10 = .ok (.iload_n 2, 1) := by decide +kernel
theorem dX9_underWay_11 : decode cX9_underWay 11 = .ok (.aload_n 1, 1) := by decide +kernel
theorem dX9_underWay_12 : decode cX9_underWay 12 = .ok (.iload_n 3, 1) := by decide +kernel
theorem dX9_underWay_13 : decode cX9_underWay 13 = .ok (.iaload, 1) := by decide +kernel
theorem dX9_underWay_14 : decode cX9_underWay 14 = .ok (.ifCond .le 7, 3) := by decide +kernel
theorem dX9_underWay_17 : decode cX9_underWay 17 = .ok (.iconst 1, 1) := by decide +kernel
theorem dX9_underWay_18 : decode cX9_underWay 18 = .ok (.goto 4, 3) := by decide +kernel
theorem dX9_underWay_21 : decode cX9_underWay 21 = .ok (.iconst 0, 1) := by decide +kernel
theorem dX9_underWay_22 : decode cX9_underWay 22 = .ok (.iadd, 1) := by decide +kernel
theorem dX9_underWay_23 : decode cX9_underWay 23 = .ok (.istore_n 2, 1) := by decide +kernel
theorem dX9_underWay_24 : decode cX9_underWay 24 = .ok (.iinc 3 1, 3) := by decide +kernel
theorem dX9_underWay_27 : decode cX9_underWay 27 = .ok (.goto (-23), 3) := by decide +kernel
theorem dX9_underWay_30 : decode cX9_underWay 30 = .ok (.iload_n 2, 1) := by decide +kernel
theorem dX9_underWay_31 : decode cX9_underWay 31 = .ok (.ireturn, 1) := by decide +kernel
theorem dX9_now_0 : decode cX9_now 0 = .ok (.aload_n 0, 1) := by decide +kernel
theorem dX9_now_1 : decode cX9_now 1 = .ok (.iconst 0, 1) := by decide +kernel
theorem dX9_now_2 : decode cX9_now 2 = .ok (.putfield 56, 3) := by decide +kernel
theorem dX9_now_5 : decode cX9_now 5 = .ok (.iload_n 1, 1) := by decide +kernel
theorem dX9_now_6 : decode cX9_now 6 = .ok (.iconst 0, 1) := by decide +kernel
theorem dX9_now_7 : decode cX9_now 7 = .ok (.iconst 5, 1) := by decide +kernel
theorem dX9_now_8 : decode cX9_now 8 = .ok (.invokestatic 60, 3) := by decide +kernel
theorem dX9_now_11 : decode cX9_now 11 = .ok (.ifCond .ne 5, 3) := by decide +kernel
theorem dX9_now_14 : decode cX9_now 14 = .ok (.iconst (-1), 1) := by decide +kernel
theorem dX9_now_15 : decode cX9_now 15 = .ok (.ireturn, 1) := by decide +kernel
theorem dX9_now_16 : decode cX9_now 16 = .ok (.iload_n 1, 1) := by decide +kernel
theorem dX9_now_17 : decode cX9_now 17 = .ok (.iconst 3, 1) := by decide +kernel
theorem dX9_now_18 : decode cX9_now 18 = .ok (.if_icmp .ge 41, 3) := by decide +kernel
theorem dX9_now_21 : decode cX9_now 21 = .ok (.iload_n 1, 1) := by decide +kernel
theorem dX9_now_22 : decode cX9_now 22 = .ok (.ifCond .ne 12, 3) := by decide +kernel
theorem dX9_now_25 : decode cX9_now 25 = .ok (.aload_n 0, 1) := by decide +kernel
theorem dX9_now_26 : decode cX9_now 26 = .ok (.getfield 22, 3) := by decide +kernel
theorem dX9_now_29 : decode cX9_now 29 = .ok (.iconst 0, 1) := by decide +kernel
theorem dX9_now_30 : decode cX9_now 30 = .ok (.iaload, 1) := by decide +kernel
theorem dX9_now_31 : decode cX9_now 31 = .ok (.goto 27, 3) := by decide +kernel
theorem dX9_now_34 : decode cX9_now 34 = .ok (.iload_n 1, 1) := by decide +kernel
theorem dX9_now_35 : decode cX9_now 35 = .ok (.iconst 1, 1) := by decide +kernel
theorem dX9_now_36 : decode cX9_now 36 = .ok (.if_icmp .ne 14, 3) := by decide +kernel
theorem dX9_now_39 : decode cX9_now 39 = .ok (.aload_n 0, 1) := by decide +kernel
theorem dX9_now_40 : decode cX9_now 40 = .ok (.aload_n 0, 1) := by decide +kernel
theorem dX9_now_41 : decode cX9_now 41 = .ok (.getfield 22, 3) := by decide +kernel
theorem dX9_now_44 : decode cX9_now 44 = .ok (.invokevirtual 154, 3) := by decide +kernel
theorem dX9_now_47 : decode cX9_now 47 = .ok (.goto 11, 3) := by decide +kernel
theorem dX9_now_50 : decode cX9_now 50 = .ok (.aload_n 0, 1) := by decide +kernel
theorem dX9_now_51 : decode cX9_now 51 = .ok (.aload_n 0, 1) := by decide +kernel
theorem dX9_now_52 : decode cX9_now 52 = .ok (.getfield 22, 3) := by decide +kernel
theorem dX9_now_55 : decode cX9_now 55 = .ok (.invokevirtual 150, 3) := by decide +kernel
theorem dX9_now_58 : decode cX9_now 58 = .ok (.ireturn, 1) := by decide +kernel
theorem dX9_now_59 : decode cX9_now 59 = .ok (.iload_n 1, 1) := by decide +kernel
theorem dX9_now_60 : decode cX9_now 60 = .ok (.iconst 3, 1) := by decide +kernel
theorem dX9_now_61 : decode cX9_now 61 = .ok (.if_icmp .ne 12, 3) := by decide +kernel
theorem dX9_now_64 : decode cX9_now 64 = .ok (.aload_n 0, 1) := by decide +kernel
theorem dX9_now_65 : decode cX9_now 65 = .ok (.getfield 22, 3) := by decide +kernel
theorem dX9_now_68 : decode cX9_now 68 = .ok (.iconst 1, 1) := by decide +kernel
theorem dX9_now_69 : decode cX9_now 69 = .ok (.iaload, 1) := by decide +kernel
theorem dX9_now_70 : decode cX9_now 70 = .ok (.goto 23, 3) := by decide +kernel
theorem dX9_now_73 : decode cX9_now 73 = .ok (.iload_n 1, 1) := by decide +kernel
theorem dX9_now_74 : decode cX9_now 74 = .ok (.iconst 4, 1) := by decide +kernel
theorem dX9_now_75 : decode cX9_now 75 = .ok (.if_icmp .ne 14, 3) := by decide +kernel
theorem dX9_now_78 : decode cX9_now 78 = .ok (.aload_n 0, 1) := by decide +kernel
theorem dX9_now_79 : decode cX9_now 79 = .ok (.aload_n 0, 1) := by decide +kernel
theorem dX9_now_80 : decode cX9_now 80 = .ok (.getfield 22, 3) := by decide +kernel
theorem dX9_now_83 : decode cX9_now 83 = .ok (.invokevirtual 160, 3) := by decide +kernel
theorem dX9_now_86 : decode cX9_now 86 = .ok (.goto 7, 3) := by decide +kernel
theorem dX9_now_89 : decode cX9_now 89 = .ok (.aload_n 0, 1) := by decide +kernel
theorem dX9_now_90 : decode cX9_now 90 = .ok (.getfield 115, 3) := by decide +kernel
theorem dX9_now_93 : decode cX9_now 93 = .ok (.ireturn, 1) := by decide +kernel
theorem dX9_notes_0 : decode cX9_notes 0 = .ok (.aload_n 0, 1) := by decide +kernel
theorem dX9_notes_1 : decode cX9_notes 1 = .ok (.getfield 115, 3) := by decide +kernel
theorem dX9_notes_4 : decode cX9_notes 4 = .ok (.bipush 10, 2) := by decide +kernel
theorem dX9_notes_6 : decode cX9_notes 6 = .ok (.if_icmp .ne 39, 3) := by decide +kernel
theorem dX9_notes_9 : decode cX9_notes 9 = .ok (.iconst 0, 1) := by decide +kernel
theorem dX9_notes_10 : decode cX9_notes 10 = .ok (.istore_n 1, 1) := by decide +kernel
theorem dX9_notes_11 : decode cX9_notes 11 = .ok (.iload_n 1, 1) := by decide +kernel
theorem dX9_notes_12 : decode cX9_notes 12 = .ok (.sipush 594, 3) := by decide +kernel
theorem dX9_notes_15 : decode cX9_notes 15 = .ok (.if_icmp .ge 24, 3) := by decide +kernel
theorem dX9_notes_18 : decode cX9_notes 18 = .ok (.aload_n 0, 1) := by decide +kernel
theorem dX9_notes_19 : decode cX9_notes 19 = .ok (.getfield 38, 3) := by decide +kernel
theorem dX9_notes_22 : decode cX9_notes 22 = .ok (.iload_n 1, 1) := by decide +kernel
theorem dX9_notes_23 : decode cX9_notes 23 = .ok (.aload_n 0, 1) := by decide +kernel
theorem dX9_notes_24 : decode cX9_notes 24 = .ok (.getfield 38, 3) := by decide +kernel
theorem dX9_notes_27 : decode cX9_notes 27 = .ok (.iload_n 1, 1) := by decide +kernel
theorem dX9_notes_28 : decode cX9_notes 28 = .ok (.bipush 66, 2) := by decide +kernel
theorem dX9_notes_30 : decode cX9_notes 30 = .ok (.iadd, 1) := by decide +kernel
theorem dX9_notes_31 : decode cX9_notes 31 = .ok (.iaload, 1) := by decide +kernel
theorem dX9_notes_32 : decode cX9_notes 32 = .ok (.iastore, 1) := by decide +kernel
theorem dX9_notes_33 : decode cX9_notes 33 = .ok (.iinc 1 1, 3) := by decide +kernel
theorem dX9_notes_36 : decode cX9_notes 36 = .ok (.goto (-25), 3) := by decide +kernel
theorem dX9_notes_39 : decode cX9_notes 39 = .ok (.aload_n 0, 1) := by decide +kernel
theorem dX9_notes_40 : decode cX9_notes 40 = .ok (.bipush 9, 2) := by decide +kernel
theorem dX9_notes_42 : decode cX9_notes 42 = .ok (.putfield 115, 3) := by decide +kernel
theorem dX9_notes_45 : decode cX9_notes 45 = .ok (.iconst 0, 1) := by decide +kernel
theorem dX9_notes_46 : decode cX9_notes 46 = .ok (.istore_n 1, 1) := by decide +kernel
theorem dX9_notes_47 : decode cX9_notes 47 = .ok (.iload_n 1, 1) := by decide +kernel
theorem dX9_notes_48 : decode cX9_notes 48 = .ok (.bipush 66, 2) := by decide +kernel
theorem dX9_notes_50 : decode cX9_notes 50 = .ok (.if_icmp .ge 29, 3) := by decide +kernel
theorem dX9_notes_53 : decode cX9_notes 53 = .ok (.aload_n 0, 1) := by decide +kernel
theorem dX9_notes_54 : decode cX9_notes 54 = .ok (.getfield 38, 3) := by decide +kernel
theorem dX9_notes_57 : decode cX9_notes 57 = .ok (.bipush 66, 2) := by decide +kernel
theorem dX9_notes_59 : decode cX9_notes 59 = .ok (.aload_n 0, 1) := by decide +kernel
theorem dX9_notes_60 : decode cX9_notes 60 = .ok (.getfield 115, 3) := by decide +kernel
theorem dX9_notes_63 : decode cX9_notes 63 = .ok (.imul, 1) := by decide +kernel
theorem dX9_notes_64 : decode cX9_notes 64 = .ok (.iload_n 1, 1) := by decide +kernel
theorem dX9_notes_65 : decode cX9_notes 65 = .ok (.iadd, 1) := by decide +kernel
theorem dX9_notes_66 : decode cX9_notes 66 = .ok (.aload_n 0, 1) := by decide +kernel
theorem dX9_notes_67 : decode cX9_notes 67 = .ok (.getfield 22, 3) := by decide +kernel
theorem dX9_notes_70 : decode cX9_notes 70 = .ok (.iload_n 1, 1) := by decide +kernel
theorem dX9_notes_71 : decode cX9_notes 71 = .ok (.iaload, 1) := by decide +kernel
theorem dX9_notes_72 : decode cX9_notes 72 = .ok (.iastore, 1) := by decide +kernel
theorem dX9_notes_73 : decode cX9_notes 73 = .ok (.iinc 1 1, 3) := by decide +kernel
theorem dX9_notes_76 : decode cX9_notes 76 = .ok (.goto (-29), 3) := by decide +kernel
theorem dX9_notes_79 : decode cX9_notes 79 = .ok (.aload_n 0, 1) := by decide +kernel
theorem dX9_notes_80 : decode cX9_notes 80 = .ok (.dup, 1) := by decide +kernel
theorem dX9_notes_81 : decode cX9_notes 81 = .ok (.getfield 115, 3) := by decide +kernel
theorem dX9_notes_84 : decode cX9_notes 84 = .ok (.iconst 1, 1) := by decide +kernel
theorem dX9_notes_85 : decode cX9_notes 85 = .ok (.iadd, 1) := by decide +kernel
theorem dX9_notes_86 : decode cX9_notes 86 = .ok (.putfield 115, 3) := by decide +kernel
theorem dX9_notes_89 : decode cX9_notes 89 = .ok (.return_, 1) := by decide +kernel
theorem dX9_posts_0 : decode cX9_posts 0 = .ok (.iconst 0, 1) := by decide +kernel
theorem dX9_posts_1 : decode cX9_posts 1 = .ok (.istore 4, 2) := by decide +kernel
theorem dX9_posts_3 : decode cX9_posts 3 = .ok (.iconst 0, 1) := by decide +kernel
theorem dX9_posts_4 : decode cX9_posts 4 = .ok (.istore 5, 2) := by decide +kernel
theorem dX9_posts_6 : decode cX9_posts 6 = .ok (.iload 5, 2) := by decide +kernel
theorem dX9_posts_8 : decode cX9_posts 8 = .ok (.aload_n 0, 1) := by decide +kernel
theorem dX9_posts_9 : decode cX9_posts 9 = .ok (.getfield 13, 3) := by decide +kernel
theorem dX9_posts_12 : decode cX9_posts 12 = .ok (.iconst 1, 1) := by decide +kernel
theorem dX9_posts_13 : decode cX9_posts 13 = .ok (.iaload, 1) := by decide +kernel
theorem dX9_posts_14 : decode cX9_posts 14 = .ok (.if_icmp .ge 55, 3) := by decide +kernel
theorem dX9_posts_17 : decode cX9_posts 17 = .ok (.iload 4, 2) := by decide +kernel
theorem dX9_posts_19 : decode cX9_posts 19 = .ok (.ifCond .ne 37, 3) := by decide +kernel
theorem dX9_posts_22 : decode cX9_posts 22 = .ok (.aload_n 1, 1) := by decide +kernel
theorem dX9_posts_23 : decode cX9_posts 23 = .ok (.iconst 2, 1) := by decide +kernel
theorem dX9_posts_24 : decode cX9_posts 24 = .ok (.bipush 8, 2) := by decide +kernel
theorem dX9_posts_26 : decode cX9_posts 26 = .ok (.iload 5, 2) := by decide +kernel
theorem dX9_posts_28 : decode cX9_posts 28 = .ok (.imul, 1) := by decide +kernel
theorem dX9_posts_29 : decode cX9_posts 29 = .ok (.iadd, 1) := by decide +kernel
theorem dX9_posts_30 : decode cX9_posts 30 = .ok (.iload_n 3, 1) := by decide +kernel
theorem dX9_posts_31 : decode cX9_posts 31 = .ok (.iadd, 1) := by decide +kernel
theorem dX9_posts_32 : decode cX9_posts 32 = .ok (.iaload, 1) := by decide +kernel
theorem dX9_posts_33 : decode cX9_posts 33 = .ok (.ifCond .le 27, 3) := by decide +kernel
theorem dX9_posts_36 : decode cX9_posts 36 = .ok (.aload_n 0, 1) := by decide +kernel
theorem dX9_posts_37 : decode cX9_posts 37 = .ok (.getfield 13, 3) := by decide +kernel
theorem dX9_posts_40 : decode cX9_posts 40 = .ok (.iconst 2, 1) := by decide +kernel
theorem dX9_posts_41 : decode cX9_posts 41 = .ok (.iload 5, 2) := by decide +kernel
theorem dX9_posts_43 : decode cX9_posts 43 = .ok (.iadd, 1) := by decide +kernel
theorem dX9_posts_44 : decode cX9_posts 44 = .ok (.iaload, 1) := by decide +kernel
theorem dX9_posts_45 : decode cX9_posts 45 = .ok (.aload_n 0, 1) := by decide +kernel
theorem dX9_posts_46 : decode cX9_posts 46 = .ok (.getfield 13, 3) := by decide +kernel
theorem dX9_posts_49 : decode cX9_posts 49 = .ok (.iconst 2, 1) := by decide +kernel
theorem dX9_posts_50 : decode cX9_posts 50 = .ok (.iload_n 2, 1) := by decide +kernel
theorem dX9_posts_51 : decode cX9_posts 51 = .ok (.iadd, 1) := by decide +kernel
theorem dX9_posts_52 : decode cX9_posts 52 = .ok (.iaload, 1) := by decide +kernel
theorem dX9_posts_53 : decode cX9_posts 53 = .ok (.if_icmp .eq 7, 3) := by decide +kernel
theorem dX9_posts_56 : decode cX9_posts 56 = .ok (.iconst 1, 1) := by decide +kernel
theorem dX9_posts_57 : decode cX9_posts 57 = .ok (.goto 4, 3) := by decide +kernel
theorem dX9_posts_60 : decode cX9_posts 60 = .ok (.iconst 0, 1) := by decide +kernel
theorem dX9_posts_61 : decode cX9_posts 61 = .ok (.istore 4, 2) := by decide +kernel
theorem dX9_posts_63 : decode cX9_posts 63 = .ok (.iinc 5 1, 3) := by decide +kernel
theorem dX9_posts_66 : decode cX9_posts 66 = .ok (.goto (-60), 3) := by decide +kernel
theorem dX9_posts_69 : decode cX9_posts 69 = .ok (.aload_n 1, 1) := by decide +kernel
theorem dX9_posts_70 : decode cX9_posts 70 = .ok (.iconst 0, 1) := by decide +kernel
theorem dX9_posts_71 : decode cX9_posts 71 = .ok (.iaload, 1) := by decide +kernel
theorem dX9_posts_72 : decode cX9_posts 72 = .ok (.aload_n 0, 1) := by decide +kernel
theorem dX9_posts_73 : decode cX9_posts 73 = .ok (.getfield 13, 3) := by decide +kernel
theorem dX9_posts_76 : decode cX9_posts 76 = .ok (.bipush 26, 2) := by decide +kernel
theorem dX9_posts_78 : decode cX9_posts 78 = .ok (.iload_n 2, 1) := by decide +kernel
theorem dX9_posts_79 : decode cX9_posts 79 = .ok (.iadd, 1) := by decide +kernel
theorem dX9_posts_80 : decode cX9_posts 80 = .ok (.iaload, 1) := by decide +kernel
theorem dX9_posts_81 : decode cX9_posts 81 = .ok (.iadd, 1) := by decide +kernel
theorem dX9_posts_82 : decode cX9_posts 82 = .ok (.iload 4, 2) := by decide +kernel
theorem dX9_posts_84 : decode cX9_posts 84 = .ok (.ifCond .eq 7, 3) := by decide +kernel
theorem dX9_posts_87 : decode cX9_posts 87 = .ok (.iconst 1, 1) := by decide +kernel
theorem dX9_posts_88 : decode cX9_posts 88 = .ok (.goto 4, 3) := by decide +kernel
theorem dX9_posts_91 : decode cX9_posts 91 = .ok (.iconst 0, 1) := by decide +kernel
theorem dX9_posts_92 : decode cX9_posts 92 = .ok (.iadd, 1) := by decide +kernel
theorem dX9_posts_93 : decode cX9_posts 93 = .ok (.istore 5, 2) := by decide +kernel
theorem dX9_posts_95 : decode cX9_posts 95 = .ok (.aload_n 1, 1) := by decide +kernel
theorem dX9_posts_96 : decode cX9_posts 96 = .ok (.iconst 2, 1) := by decide +kernel
theorem dX9_posts_97 : decode cX9_posts 97 = .ok (.bipush 8, 2) := by decide +kernel
theorem dX9_posts_99 : decode cX9_posts 99 = .ok (.iload_n 2, 1) := by decide +kernel
theorem dX9_posts_100 : decode cX9_posts 100 = .ok (.imul, 1) := by decide +kernel
theorem dX9_posts_101 : decode cX9_posts 101 = .ok (.iadd, 1) := by decide +kernel
theorem dX9_posts_102 : decode cX9_posts 102 = .ok (.iload_n 3, 1) := by decide +kernel
theorem dX9_posts_103 : decode cX9_posts 103 = .ok (.iadd, 1) := by decide +kernel
theorem dX9_posts_104 : decode cX9_posts 104 = .ok (.iload 5, 2) := by decide +kernel
theorem dX9_posts_106 : decode cX9_posts 106 = .ok (.iconst 1, 1) := by decide +kernel
theorem dX9_posts_107 : decode cX9_posts 107 = .ok (.iadd, 1) := by decide +kernel
theorem dX9_posts_108 : decode cX9_posts 108 = .ok (.iastore, 1) := by decide +kernel
theorem dX9_posts_109 : decode cX9_posts 109 = .ok (.iload 5, 2) := by decide +kernel
theorem dX9_posts_111 : decode cX9_posts 111 = .ok (.ireturn, 1) := by decide +kernel
theorem dX9_goes_0 : decode cX9_goes 0 = .ok (.aload_n 1, 1) := by decide +kernel
theorem dX9_goes_1 : decode cX9_goes 1 = .ok (.iconst 0, 1) := by decide +kernel
theorem dX9_goes_2 : decode cX9_goes 2 = .ok (.dup2, 1) := by decide +kernel
theorem dX9_goes_3 : decode cX9_goes 3 = .ok (.iaload, 1) := by decide +kernel
theorem dX9_goes_4 : decode cX9_goes 4 = .ok (.iconst 1, 1) := by decide +kernel
theorem dX9_goes_5 : decode cX9_goes 5 = .ok (.iadd, 1) := by decide +kernel
theorem dX9_goes_6 : decode cX9_goes 6 = .ok (.iastore, 1) := by decide +kernel
theorem dX9_goes_7 : decode cX9_goes 7 = .ok (.iconst 0, 1) := by decide +kernel
theorem dX9_goes_8 : decode cX9_goes 8 = .ok (.istore_n 2, 1) := by decide +kernel
theorem dX9_goes_9 : decode cX9_goes 9 = .ok (.iconst 2, 1) := by decide +kernel
theorem dX9_goes_10 : decode cX9_goes 10 = .ok (.istore_n 3, 1) := by decide +kernel
theorem dX9_goes_11 : decode cX9_goes 11 = .ok (.iload_n 3, 1) := by decide +kernel
theorem dX9_goes_12 : decode cX9_goes 12 = .ok (.bipush 66, 2) := by decide +kernel
theorem dX9_goes_14 : decode cX9_goes 14 = .ok (.if_icmp .ge 27, 3) := by decide +kernel
theorem dX9_goes_17 : decode cX9_goes 17 = .ok (.aload_n 1, 1) := by decide +kernel
theorem dX9_goes_18 : decode cX9_goes 18 = .ok (.iload_n 3, 1) := by decide +kernel
theorem dX9_goes_19 : decode cX9_goes 19 = .ok (.iaload, 1) := by decide +kernel
theorem dX9_goes_20 : decode cX9_goes 20 = .ok (.aload_n 1, 1) := by decide +kernel
theorem dX9_goes_21 : decode cX9_goes 21 = .ok (.iconst 0, 1) := by decide +kernel
theorem dX9_goes_22 : decode cX9_goes 22 = .ok (.iaload, 1) := by decide +kernel
theorem dX9_goes_23 : decode cX9_goes 23 = .ok (.iconst 1, 1) := by decide +kernel
theorem dX9_goes_24 : decode cX9_goes 24 = .ok (.iadd, 1) := by decide +kernel
theorem dX9_goes_25 : decode cX9_goes 25 = .ok (.if_icmp .ne 10, 3) := by decide +kernel
theorem dX9_goes_28 : decode cX9_goes 28 = .ok (.aload_n 1, 1) := by decide +kernel
theorem dX9_goes_29 : decode cX9_goes 29 = .ok (.iload_n 3, 1) := by decide +kernel
theorem dX9_goes_30 : decode cX9_goes 30 = .ok (.iconst (-1), 1) := by decide +kernel
theorem dX9_goes_31 : decode cX9_goes 31 = .ok (.iastore, 1) := by decide +kernel
theorem dX9_goes_32 : decode cX9_goes 32 = .ok (.iinc 2 1, 3) := by decide +kernel
theorem dX9_goes_35 : decode cX9_goes 35 = .ok (.iinc 3 1, 3) := by decide +kernel
theorem dX9_goes_38 : decode cX9_goes 38 = .ok (.goto (-27), 3) := by decide +kernel
theorem dX9_goes_41 : decode cX9_goes 41 = .ok (.iload_n 2, 1) := by decide +kernel
theorem dX9_goes_42 : decode cX9_goes 42 = .ok (.ireturn, 1) := by decide +kernel
theorem dX9_promises_0 : decode cX9_promises 0 = .ok (.aload_n 0, 1) := by decide +kernel
theorem dX9_promises_1 : decode cX9_promises 1 = .ok (.iconst 0, 1) := by decide +kernel
theorem dX9_promises_2 : decode cX9_promises 2 = .ok (.putfield 56, 3) := by decide +kernel
theorem dX9_promises_5 : decode cX9_promises 5 = .ok (.aload_n 0, 1) := by decide +kernel
theorem dX9_promises_6 : decode cX9_promises 6 = .ok (.iload_n 1, 1) := by decide +kernel
theorem dX9_promises_7 : decode cX9_promises 7 = .ok (.invokevirtual 136, 3) := by decide +kernel
theorem dX9_promises_10 : decode cX9_promises 10 = .ok (.ifCond .eq 11, 3) := by decide +kernel
theorem dX9_promises_13 : decode cX9_promises 13 = .ok (.aload_n 0, 1) := by decide +kernel
theorem dX9_promises_14 : decode cX9_promises 14 = .ok (.iload_n 2, 1) := by decide +kernel
theorem dX9_promises_15 : decode cX9_promises 15 = .ok (.invokevirtual 157, 3) := by decide +kernel
theorem dX9_promises_18 : decode cX9_promises 18 = .ok (.ifCond .ne 5, 3) := by decide +kernel
theorem dX9_promises_21 : decode cX9_promises 21 = .ok (.iconst (-1), 1) := by decide +kernel
theorem dX9_promises_22 : decode cX9_promises 22 = .ok (.ireturn, 1) := by decide +kernel
theorem dX9_promises_23 : decode cX9_promises 23 = .ok (.aload_n 0, 1) := by decide +kernel
theorem dX9_promises_24 : decode cX9_promises 24 = .ok (.getfield 22, 3) := by decide +kernel
theorem dX9_promises_27 : decode cX9_promises 27 = .ok (.iconst 2, 1) := by decide +kernel
theorem dX9_promises_28 : decode cX9_promises 28 = .ok (.bipush 8, 2) := by decide +kernel
theorem dX9_promises_30 : decode cX9_promises 30 = .ok (.iload_n 1, 1) := by decide +kernel
theorem dX9_promises_31 : decode cX9_promises 31 = .ok (.imul, 1) := by decide +kernel
theorem dX9_promises_32 : decode cX9_promises 32 = .ok (.iadd, 1) := by decide +kernel
theorem dX9_promises_33 : decode cX9_promises 33 = .ok (.iload_n 2, 1) := by decide +kernel
theorem dX9_promises_34 : decode cX9_promises 34 = .ok (.iadd, 1) := by decide +kernel
theorem dX9_promises_35 : decode cX9_promises 35 = .ok (.iaload, 1) := by decide +kernel
theorem dX9_promises_36 : decode cX9_promises 36 = .ok (.ifCond .eq 6, 3) := by decide +kernel
theorem dX9_promises_39 : decode cX9_promises 39 = .ok (.bipush (-2), 2) := by decide +kernel
theorem dX9_promises_41 : decode cX9_promises 41 = .ok (.ireturn, 1) := by decide +kernel
theorem dX9_promises_42 : decode cX9_promises 42 = .ok (.aload_n 0, 1) := by decide +kernel
theorem dX9_promises_43 : decode cX9_promises 43 = .ok (.invokevirtual 163, 3) := by decide +kernel
theorem dX9_promises_46 : decode cX9_promises 46 = .ok (.aload_n 0, 1) := by decide +kernel
theorem dX9_promises_47 : decode cX9_promises 47 = .ok (.aload_n 0, 1) := by decide +kernel
theorem dX9_promises_48 : decode cX9_promises 48 = .ok (.getfield 22, 3) := by decide +kernel
theorem dX9_promises_51 : decode cX9_promises 51 = .ok (.iload_n 1, 1) := by decide +kernel
theorem dX9_promises_52 : decode cX9_promises 52 = .ok (.iload_n 2, 1) := by decide +kernel
theorem dX9_promises_53 : decode cX9_promises 53 = .ok (.invokevirtual 166, 3) := by decide +kernel
theorem dX9_promises_56 : decode cX9_promises 56 = .ok (.ireturn, 1) := by decide +kernel
theorem dX9_breaks_0 : decode cX9_breaks 0 = .ok (.aload_n 0, 1) := by decide +kernel
theorem dX9_breaks_1 : decode cX9_breaks 1 = .ok (.iconst 0, 1) := by decide +kernel
theorem dX9_breaks_2 : decode cX9_breaks 2 = .ok (.putfield 56, 3) := by decide +kernel
theorem dX9_breaks_5 : decode cX9_breaks 5 = .ok (.aload_n 0, 1) := by decide +kernel
theorem dX9_breaks_6 : decode cX9_breaks 6 = .ok (.iload_n 1, 1) := by decide +kernel
theorem dX9_breaks_7 : decode cX9_breaks 7 = .ok (.invokevirtual 136, 3) := by decide +kernel
theorem dX9_breaks_10 : decode cX9_breaks 10 = .ok (.ifCond .eq 11, 3) := by decide +kernel
theorem dX9_breaks_13 : decode cX9_breaks 13 = .ok (.aload_n 0, 1) := by decide +kernel
theorem dX9_breaks_14 : decode cX9_breaks 14 = .ok (.iload_n 2, 1) := by decide +kernel
theorem dX9_breaks_15 : decode cX9_breaks 15 = .ok (.invokevirtual 157, 3) := by decide +kernel
theorem dX9_breaks_18 : decode cX9_breaks 18 = .ok (.ifCond .ne 5, 3) := by decide +kernel
theorem dX9_breaks_21 : decode cX9_breaks 21 = .ok (.iconst (-1), 1) := by decide +kernel
theorem dX9_breaks_22 : decode cX9_breaks 22 = .ok (.ireturn, 1) := by decide +kernel
theorem dX9_breaks_23 : decode cX9_breaks 23 = .ok (.aload_n 0, 1) := by decide +kernel
theorem dX9_breaks_24 : decode cX9_breaks 24 = .ok (.getfield 22, 3) := by decide +kernel
theorem dX9_breaks_27 : decode cX9_breaks 27 = .ok (.iconst 2, 1) := by decide +kernel
theorem dX9_breaks_28 : decode cX9_breaks 28 = .ok (.bipush 8, 2) := by decide +kernel
theorem dX9_breaks_30 : decode cX9_breaks 30 = .ok (.iload_n 1, 1) := by decide +kernel
theorem dX9_breaks_31 : decode cX9_breaks 31 = .ok (.imul, 1) := by decide +kernel
theorem dX9_breaks_32 : decode cX9_breaks 32 = .ok (.iadd, 1) := by decide +kernel
theorem dX9_breaks_33 : decode cX9_breaks 33 = .ok (.iload_n 2, 1) := by decide +kernel
theorem dX9_breaks_34 : decode cX9_breaks 34 = .ok (.iadd, 1) := by decide +kernel
theorem dX9_breaks_35 : decode cX9_breaks 35 = .ok (.iaload, 1) := by decide +kernel
theorem dX9_breaks_36 : decode cX9_breaks 36 = .ok (.ifCond .ne 6, 3) := by decide +kernel
theorem dX9_breaks_39 : decode cX9_breaks 39 = .ok (.bipush (-2), 2) := by decide +kernel
theorem dX9_breaks_41 : decode cX9_breaks 41 = .ok (.ireturn, 1) := by decide +kernel
theorem dX9_breaks_42 : decode cX9_breaks 42 = .ok (.aload_n 0, 1) := by decide +kernel
theorem dX9_breaks_43 : decode cX9_breaks 43 = .ok (.invokevirtual 163, 3) := by decide +kernel
theorem dX9_breaks_46 : decode cX9_breaks 46 = .ok (.aload_n 0, 1) := by decide +kernel
theorem dX9_breaks_47 : decode cX9_breaks 47 = .ok (.getfield 22, 3) := by decide +kernel
theorem dX9_breaks_50 : decode cX9_breaks 50 = .ok (.iconst 2, 1) := by decide +kernel
theorem dX9_breaks_51 : decode cX9_breaks 51 = .ok (.bipush 8, 2) := by decide +kernel
theorem dX9_breaks_53 : decode cX9_breaks 53 = .ok (.iload_n 1, 1) := by decide +kernel
theorem dX9_breaks_54 : decode cX9_breaks 54 = .ok (.imul, 1) := by decide +kernel
theorem dX9_breaks_55 : decode cX9_breaks 55 = .ok (.iadd, 1) := by decide +kernel
theorem dX9_breaks_56 : decode cX9_breaks 56 = .ok (.iload_n 2, 1) := by decide +kernel
theorem dX9_breaks_57 : decode cX9_breaks 57 = .ok (.iadd, 1) := by decide +kernel
theorem dX9_breaks_58 : decode cX9_breaks 58 = .ok (.iconst 0, 1) := by decide +kernel
theorem dX9_breaks_59 : decode cX9_breaks 59 = .ok (.iastore, 1) := by decide +kernel
theorem dX9_breaks_60 : decode cX9_breaks 60 = .ok (.aload_n 0, 1) := by decide +kernel
theorem dX9_breaks_61 : decode cX9_breaks 61 = .ok (.aload_n 0, 1) := by decide +kernel
theorem dX9_breaks_62 : decode cX9_breaks 62 = .ok (.getfield 22, 3) := by decide +kernel
theorem dX9_breaks_65 : decode cX9_breaks 65 = .ok (.invokevirtual 154, 3) := by decide +kernel
theorem dX9_breaks_68 : decode cX9_breaks 68 = .ok (.ireturn, 1) := by decide +kernel
theorem dX9_days_0 : decode cX9_days 0 = .ok (.aload_n 0, 1) := by decide +kernel
theorem dX9_days_1 : decode cX9_days 1 = .ok (.iconst 0, 1) := by decide +kernel
theorem dX9_days_2 : decode cX9_days 2 = .ok (.putfield 56, 3) := by decide +kernel
theorem dX9_days_5 : decode cX9_days 5 = .ok (.aload_n 0, 1) := by decide +kernel
theorem dX9_days_6 : decode cX9_days 6 = .ok (.getfield 22, 3) := by decide +kernel
theorem dX9_days_9 : decode cX9_days 9 = .ok (.iconst 0, 1) := by decide +kernel
theorem dX9_days_10 : decode cX9_days 10 = .ok (.iaload, 1) := by decide +kernel
theorem dX9_days_11 : decode cX9_days 11 = .ok (.sipush 999, 3) := by decide +kernel
theorem dX9_days_14 : decode cX9_days 14 = .ok (.if_icmp .ne 6, 3) := by decide +kernel
theorem dX9_days_17 : decode cX9_days 17 = .ok (.bipush (-2), 2) := by decide +kernel
theorem dX9_days_19 : decode cX9_days 19 = .ok (.ireturn, 1) := by decide +kernel
theorem dX9_days_20 : decode cX9_days 20 = .ok (.aload_n 0, 1) := by decide +kernel
theorem dX9_days_21 : decode cX9_days 21 = .ok (.invokevirtual 163, 3) := by decide +kernel
theorem dX9_days_24 : decode cX9_days 24 = .ok (.aload_n 0, 1) := by decide +kernel
theorem dX9_days_25 : decode cX9_days 25 = .ok (.aload_n 0, 1) := by decide +kernel
theorem dX9_days_26 : decode cX9_days 26 = .ok (.getfield 22, 3) := by decide +kernel
theorem dX9_days_29 : decode cX9_days 29 = .ok (.invokevirtual 170, 3) := by decide +kernel
theorem dX9_days_32 : decode cX9_days 32 = .ok (.ireturn, 1) := by decide +kernel
theorem dX9_isLoad_0 : decode cX9_isLoad 0 = .ok (.iload_n 0, 1) := by decide +kernel
theorem dX9_isLoad_1 : decode cX9_isLoad 1 = .ok (.iconst 1, 1) := by decide +kernel
theorem dX9_isLoad_2 : decode cX9_isLoad 2 = .ok (.bipush 36, 2) := by decide +kernel
theorem dX9_isLoad_4 : decode cX9_isLoad 4 = .ok (.invokestatic 60, 3) := by decide +kernel
theorem dX9_isLoad_7 : decode cX9_isLoad 7 = .ok (.ireturn, 1) := by decide +kernel
theorem dX9_crosses_0 : decode cX9_crosses 0 = .ok (.aload_n 0, 1) := by decide +kernel
theorem dX9_crosses_1 : decode cX9_crosses 1 = .ok (.iconst 0, 1) := by decide +kernel
theorem dX9_crosses_2 : decode cX9_crosses 2 = .ok (.putfield 56, 3) := by decide +kernel
theorem dX9_crosses_5 : decode cX9_crosses 5 = .ok (.iload_n 1, 1) := by decide +kernel
theorem dX9_crosses_6 : decode cX9_crosses 6 = .ok (.invokestatic 173, 3) := by decide +kernel
theorem dX9_crosses_9 : decode cX9_crosses 9 = .ok (.ifCond .ne 5, 3) := by decide +kernel
theorem dX9_crosses_12 : decode cX9_crosses 12 = .ok (.iconst (-1), 1) := by decide +kernel
theorem dX9_crosses_13 : decode cX9_crosses 13 = .ok (.ireturn, 1) := by decide +kernel
theorem dX9_crosses_14 : decode cX9_crosses 14 = .ok (.aload_n 0, 1) := by decide +kernel
theorem dX9_crosses_15 : decode cX9_crosses 15 = .ok (.aload_n 0, 1) := by decide +kernel
theorem dX9_crosses_16 : decode cX9_crosses 16 = .ok (.getfield 22, 3) := by decide +kernel
theorem dX9_crosses_19 : decode cX9_crosses 19 = .ok (.invokevirtual 154, 3) := by decide +kernel
theorem dX9_crosses_22 : decode cX9_crosses 22 = .ok (.iload_n 1, 1) := by decide +kernel
theorem dX9_crosses_23 : decode cX9_crosses 23 = .ok (.if_icmp .lt 15, 3) := by decide +kernel
theorem dX9_crosses_26 : decode cX9_crosses 26 = .ok (.aload_n 0, 1) := by decide +kernel
theorem dX9_crosses_27 : decode cX9_crosses 27 = .ok (.getfield 22, 3) := by decide +kernel
theorem dX9_crosses_30 : decode cX9_crosses 30 = .ok (.iconst 1, 1) := by decide +kernel
theorem dX9_crosses_31 : decode cX9_crosses 31 = .ok (.iaload, 1) := by decide +kernel
theorem dX9_crosses_32 : decode cX9_crosses 32 = .ok (.sipush 999, 3) := by decide +kernel
theorem dX9_crosses_35 : decode cX9_crosses 35 = .ok (.if_icmp .ne 6, 3) := by decide +kernel
theorem dX9_crosses_38 : decode cX9_crosses 38 = .ok (.bipush (-2), 2) := by decide +kernel
theorem dX9_crosses_40 : decode cX9_crosses 40 = .ok (.ireturn, 1) := by decide +kernel
theorem dX9_crosses_41 : decode cX9_crosses 41 = .ok (.aload_n 0, 1) := by decide +kernel
theorem dX9_crosses_42 : decode cX9_crosses 42 = .ok (.invokevirtual 163, 3) := by decide +kernel
theorem dX9_crosses_45 : decode cX9_crosses 45 = .ok (.aload_n 0, 1) := by decide +kernel
theorem dX9_crosses_46 : decode cX9_crosses 46 = .ok (.getfield 22, 3) := by decide +kernel
theorem dX9_crosses_49 : decode cX9_crosses 49 = .ok (.iconst 1, 1) := by decide +kernel
theorem dX9_crosses_50 : decode cX9_crosses 50 = .ok (.dup2, 1) := by decide +kernel
theorem dX9_crosses_51 : decode cX9_crosses 51 = .ok (.iaload, 1) := by decide +kernel
theorem dX9_crosses_52 : decode cX9_crosses 52 = .ok (.iconst 1, 1) := by decide +kernel
theorem dX9_crosses_53 : decode cX9_crosses 53 = .ok (.iadd, 1) := by decide +kernel
theorem dX9_crosses_54 : decode cX9_crosses 54 = .ok (.iastore, 1) := by decide +kernel
theorem dX9_crosses_55 : decode cX9_crosses 55 = .ok (.aload_n 0, 1) := by decide +kernel
theorem dX9_crosses_56 : decode cX9_crosses 56 = .ok (.getfield 22, 3) := by decide +kernel
theorem dX9_crosses_59 : decode cX9_crosses 59 = .ok (.iconst 1, 1) := by decide +kernel
theorem dX9_crosses_60 : decode cX9_crosses 60 = .ok (.iaload, 1) := by decide +kernel
theorem dX9_crosses_61 : decode cX9_crosses 61 = .ok (.ireturn, 1) := by decide +kernel
theorem dX9_undo_0 : decode cX9_undo 0 = .ok (.aload_n 0, 1) := by decide +kernel
theorem dX9_undo_1 : decode cX9_undo 1 = .ok (.iconst 0, 1) := by decide +kernel
theorem dX9_undo_2 : decode cX9_undo 2 = .ok (.putfield 56, 3) := by decide +kernel
theorem dX9_undo_5 : decode cX9_undo 5 = .ok (.aload_n 0, 1) := by decide +kernel
theorem dX9_undo_6 : decode cX9_undo 6 = .ok (.getfield 115, 3) := by decide +kernel
theorem dX9_undo_9 : decode cX9_undo 9 = .ok (.ifCond .ne 6, 3) := by decide +kernel
theorem dX9_undo_12 : decode cX9_undo 12 = .ok (.bipush (-2), 2) := by decide +kernel
theorem dX9_undo_14 : decode cX9_undo 14 = .ok (.ireturn, 1) := by decide +kernel
theorem dX9_undo_15 : decode cX9_undo 15 = .ok (.aload_n 0, 1) := by decide +kernel
theorem dX9_undo_16 : decode cX9_undo 16 = .ok (.dup, 1) := by decide +kernel
theorem dX9_undo_17 : decode cX9_undo 17 = .ok (.getfield 115, 3) := by decide +kernel
theorem dX9_undo_20 : decode cX9_undo 20 = .ok (.iconst 1, 1) := by decide +kernel
theorem dX9_undo_21 : decode cX9_undo 21 = .ok (.isub, 1) := by decide +kernel
theorem dX9_undo_22 : decode cX9_undo 22 = .ok (.putfield 115, 3) := by decide +kernel
theorem dX9_undo_25 : decode cX9_undo 25 = .ok (.iconst 0, 1) := by decide +kernel
theorem dX9_undo_26 : decode cX9_undo 26 = .ok (.istore_n 1, 1) := by decide +kernel
theorem dX9_undo_27 : decode cX9_undo 27 = .ok (.iload_n 1, 1) := by decide +kernel
theorem dX9_undo_28 : decode cX9_undo 28 = .ok (.bipush 66, 2) := by decide +kernel
theorem dX9_undo_30 : decode cX9_undo 30 = .ok (.if_icmp .ge 29, 3) := by decide +kernel
theorem dX9_undo_33 : decode cX9_undo 33 = .ok (.aload_n 0, 1) := by decide +kernel
theorem dX9_undo_34 : decode cX9_undo 34 = .ok (.getfield 22, 3) := by decide +kernel
theorem dX9_undo_37 : decode cX9_undo 37 = .ok (.iload_n 1, 1) := by decide +kernel
theorem dX9_undo_38 : decode cX9_undo 38 = .ok (.aload_n 0, 1) := by decide +kernel
theorem dX9_undo_39 : decode cX9_undo 39 = .ok (.getfield 38, 3) := by decide +kernel
theorem dX9_undo_42 : decode cX9_undo 42 = .ok (.bipush 66, 2) := by decide +kernel
theorem dX9_undo_44 : decode cX9_undo 44 = .ok (.aload_n 0, 1) := by decide +kernel
theorem dX9_undo_45 : decode cX9_undo 45 = .ok (.getfield 115, 3) := by decide +kernel
theorem dX9_undo_48 : decode cX9_undo 48 = .ok (.imul, 1) := by decide +kernel
theorem dX9_undo_49 : decode cX9_undo 49 = .ok (.iload_n 1, 1) := by decide +kernel
theorem dX9_undo_50 : decode cX9_undo 50 = .ok (.iadd, 1) := by decide +kernel
theorem dX9_undo_51 : decode cX9_undo 51 = .ok (.iaload, 1) := by decide +kernel
theorem dX9_undo_52 : decode cX9_undo 52 = .ok (.iastore, 1) := by decide +kernel
theorem dX9_undo_53 : decode cX9_undo 53 = .ok (.iinc 1 1, 3) := by decide +kernel
theorem dX9_undo_56 : decode cX9_undo 56 = .ok (.goto (-29), 3) := by decide +kernel
theorem dX9_undo_59 : decode cX9_undo 59 = .ok (.aload_n 0, 1) := by decide +kernel
theorem dX9_undo_60 : decode cX9_undo 60 = .ok (.getfield 115, 3) := by decide +kernel
theorem dX9_undo_63 : decode cX9_undo 63 = .ok (.ireturn, 1) := by decide +kernel
theorem dX9_when_0 : decode cX9_when 0 = .ok (.aload_n 0, 1) := by decide +kernel
theorem dX9_when_1 : decode cX9_when 1 = .ok (.iconst 0, 1) := by decide +kernel
theorem dX9_when_2 : decode cX9_when 2 = .ok (.putfield 56, 3) := by decide +kernel
theorem dX9_when_5 : decode cX9_when 5 = .ok (.iload_n 1, 1) := by decide +kernel
theorem dX9_when_6 : decode cX9_when 6 = .ok (.invokestatic 173, 3) := by decide +kernel
theorem dX9_when_9 : decode cX9_when 9 = .ok (.ifCond .ne 5, 3) := by decide +kernel
theorem dX9_when_12 : decode cX9_when 12 = .ok (.iconst (-1), 1) := by decide +kernel
theorem dX9_when_13 : decode cX9_when 13 = .ok (.ireturn, 1) := by decide +kernel
theorem dX9_when_14 : decode cX9_when 14 = .ok (.aload_n 0, 1) := by decide +kernel
theorem dX9_when_15 : decode cX9_when 15 = .ok (.invokevirtual 143, 3) := by decide +kernel
theorem dX9_when_18 : decode cX9_when 18 = .ok (.iconst 0, 1) := by decide +kernel
theorem dX9_when_19 : decode cX9_when 19 = .ok (.istore_n 2, 1) := by decide +kernel
theorem dX9_when_20 : decode cX9_when 20 = .ok (.iload_n 2, 1) := by decide +kernel
theorem dX9_when_21 : decode cX9_when 21 = .ok (.bipush 20, 2) := by decide +kernel
theorem dX9_when_23 : decode cX9_when 23 = .ok (.if_icmp .gt 32, 3) := by decide +kernel
theorem dX9_when_26 : decode cX9_when 26 = .ok (.aload_n 0, 1) := by decide +kernel
theorem dX9_when_27 : decode cX9_when 27 = .ok (.aload_n 0, 1) := by decide +kernel
theorem dX9_when_28 : decode cX9_when 28 = .ok (.getfield 25, 3) := by decide +kernel
theorem dX9_when_31 : decode cX9_when 31 = .ok (.invokevirtual 154, 3) := by decide +kernel
theorem dX9_when_34 : decode cX9_when 34 = .ok (.iload_n 1, 1) := by decide +kernel
theorem dX9_when_35 : decode cX9_when 35 = .ok (.if_icmp .lt 5, 3) := by decide +kernel
theorem dX9_when_38 : decode cX9_when 38 = .ok (.iload_n 2, 1) := by decide +kernel
theorem dX9_when_39 : decode cX9_when 39 = .ok (.ireturn, 1) := by decide +kernel
theorem dX9_when_40 : decode cX9_when 40 = .ok (.aload_n 0, 1) := by decide +kernel
theorem dX9_when_41 : decode cX9_when 41 = .ok (.aload_n 0, 1) := by decide +kernel
theorem dX9_when_42 : decode cX9_when 42 = .ok (.getfield 25, 3) := by decide +kernel
theorem dX9_when_45 : decode cX9_when 45 = .ok (.invokevirtual 170, 3) := by decide +kernel
theorem dX9_when_48 : decode cX9_when 48 = .ok (.pop, 1) := by decide +kernel
theorem dX9_when_49 : decode cX9_when 49 = .ok (.iinc 2 1, 3) := by decide +kernel
theorem dX9_when_52 : decode cX9_when 52 = .ok (.goto (-32), 3) := by decide +kernel
theorem dX9_when_55 : decode cX9_when 55 = .ok (.bipush (-9), 2) := by decide +kernel
theorem dX9_when_57 : decode cX9_when 57 = .ok (.ireturn, 1) := by decide +kernel
theorem dX9_gaveFor_0 : decode cX9_gaveFor 0 = .ok (.iconst 0, 1) := by decide +kernel
theorem dX9_gaveFor_1 : decode cX9_gaveFor 1 = .ok (.istore_n 2, 1) := by decide +kernel
theorem dX9_gaveFor_2 : decode cX9_gaveFor 2 = .ok (.iconst 0, 1) := by decide +kernel
theorem dX9_gaveFor_3 : decode cX9_gaveFor 3 = .ok (.istore_n 3, 1) := by decide +kernel
theorem dX9_gaveFor_4 : decode cX9_gaveFor 4 = .ok (.iload_n 3, 1) := by decide +kernel
theorem dX9_gaveFor_5 : decode cX9_gaveFor 5 = .ok (.aload_n 0, 1) := by decide +kernel
theorem dX9_gaveFor_6 : decode cX9_gaveFor 6 = .ok (.getfield 13, 3) := by decide +kernel
theorem dX9_gaveFor_9 : decode cX9_gaveFor 9 = .ok (.iconst 1, 1) := by decide +kernel
theorem dX9_gaveFor_10 : decode cX9_gaveFor 10 = .ok (.iaload, 1) := by decide +kernel
theorem dX9_gaveFor_11 : decode cX9_gaveFor 11 = .ok (.if_icmp .ge 35, 3) := by decide +kernel
theorem dX9_gaveFor_14 : decode cX9_gaveFor 14 = .ok (.iload_n 2, 1) := by decide +kernel
theorem dX9_gaveFor_15 : decode cX9_gaveFor 15 = .ok (.aload_n 0, 1) := by decide +kernel
theorem dX9_gaveFor_16 : decode cX9_gaveFor 16 = .ok (.getfield 22, 3) := by decide +kernel
theorem dX9_gaveFor_19 : decode cX9_gaveFor 19 = .ok (.iconst 2, 1) := by decide +kernel
theorem dX9_gaveFor_20 : decode cX9_gaveFor 20 = .ok (.bipush 8, 2) := by decide +kernel
theorem dX9_gaveFor_22 : decode cX9_gaveFor 22 = .ok (.iload_n 3, 1) := by decide +kernel
theorem dX9_gaveFor_23 : decode cX9_gaveFor 23 = .ok (.imul, 1) := by decide +kernel
theorem dX9_gaveFor_24 : decode cX9_gaveFor 24 = .ok (.iadd, 1) := by decide +kernel
theorem dX9_gaveFor_25 : decode cX9_gaveFor 25 = .ok (.iload_n 1, 1) := by decide +kernel
theorem dX9_gaveFor_26 : decode cX9_gaveFor 26 = .ok (.iadd, 1) := by decide +kernel
theorem dX9_gaveFor_27 : decode cX9_gaveFor 27 = .ok (.iaload, 1) := by decide +kernel
theorem dX9_gaveFor_28 : decode cX9_gaveFor 28 = .ok (.ifCond .eq 9, 3) := by decide +kernel
theorem dX9_gaveFor_31 : decode cX9_gaveFor 31 = .ok (.iconst 1, 1) := by decide +kernel
theorem dX9_gaveFor_32 : decode cX9_gaveFor 32 = .ok (.iload_n 3, 1) := by decide +kernel
theorem dX9_gaveFor_33 : decode cX9_gaveFor 33 = .ok (.ishl, 1) := by decide +kernel
theorem dX9_gaveFor_34 : decode cX9_gaveFor 34 = .ok (.goto 4, 3) := by decide +kernel
theorem dX9_gaveFor_37 : decode cX9_gaveFor 37 = .ok (.iconst 0, 1) := by decide +kernel
theorem dX9_gaveFor_38 : decode cX9_gaveFor 38 = .ok (.ior, 1) := by decide +kernel
theorem dX9_gaveFor_39 : decode cX9_gaveFor 39 = .ok (.istore_n 2, 1) := by decide +kernel
theorem dX9_gaveFor_40 : decode cX9_gaveFor 40 = .ok (.iinc 3 1, 3) := by decide +kernel
theorem dX9_gaveFor_43 : decode cX9_gaveFor 43 = .ok (.goto (-39), 3) := by decide +kernel
theorem dX9_gaveFor_46 : decode cX9_gaveFor 46 = .ok (.iload_n 2, 1) := by decide +kernel
theorem dX9_gaveFor_47 : decode cX9_gaveFor 47 = .ok (.ireturn, 1) := by decide +kernel
theorem dX9_moreFor_0 : decode cX9_moreFor 0 = .ok (.aload_n 0, 1) := by decide +kernel
theorem dX9_moreFor_1 : decode cX9_moreFor 1 = .ok (.iload_n 1, 1) := by decide +kernel
theorem dX9_moreFor_2 : decode cX9_moreFor 2 = .ok (.invokevirtual 176, 3) := by decide +kernel
theorem dX9_moreFor_5 : decode cX9_moreFor 5 = .ok (.istore_n 3, 1) := by decide +kernel
theorem dX9_moreFor_6 : decode cX9_moreFor 6 = .ok (.bipush (-9), 2) := by decide +kernel
theorem dX9_moreFor_8 : decode cX9_moreFor 8 = .ok (.istore 4, 2) := by decide +kernel
theorem dX9_moreFor_10 : decode cX9_moreFor 10 = .ok (.iconst 0, 1) := by decide +kernel
theorem dX9_moreFor_11 : decode cX9_moreFor 11 = .ok (.istore 5, 2) := by decide +kernel
theorem dX9_moreFor_13 : decode cX9_moreFor 13 = .ok (.iload 5, 2) := by decide +kernel
theorem dX9_moreFor_15 : decode cX9_moreFor 15 = .ok (.iconst 1, 1) := by decide +kernel
theorem dX9_moreFor_16 : decode cX9_moreFor 16 = .ok (.aload_n 0, 1) := by decide +kernel
theorem dX9_moreFor_17 : decode cX9_moreFor 17 = .ok (.getfield 13, 3) := by decide +kernel
theorem dX9_moreFor_20 : decode cX9_moreFor 20 = .ok (.iconst 1, 1) := by decide +kernel
theorem dX9_moreFor_21 : decode cX9_moreFor 21 = .ok (.iaload, 1) := by decide +kernel
theorem dX9_moreFor_22 : decode cX9_moreFor 22 = .ok (.ishl, 1) := by decide +kernel
theorem dX9_moreFor_23 : decode cX9_moreFor 23 = .ok (.if_icmp .ge 60, 3) := by decide +kernel
theorem dX9_moreFor_26 : decode cX9_moreFor 26 = .ok (.iload 5, 2) := by decide +kernel
theorem dX9_moreFor_28 : decode cX9_moreFor 28 = .ok (.invokestatic 179, 3) := by decide +kernel
theorem dX9_moreFor_31 : decode cX9_moreFor 31 = .ok (.istore 6, 2) := by decide +kernel
theorem dX9_moreFor_33 : decode cX9_moreFor 33 = .ok (.iload 5, 2) := by decide +kernel
theorem dX9_moreFor_35 : decode cX9_moreFor 35 = .ok (.iload_n 3, 1) := by decide +kernel
theorem dX9_moreFor_36 : decode cX9_moreFor 36 = .ok (.iand, 1) := by decide +kernel
theorem dX9_moreFor_37 : decode cX9_moreFor 37 = .ok (.ifCond .ne 40, 3) := by decide +kernel
theorem dX9_moreFor_40 : decode cX9_moreFor 40 = .ok (.iload 6, 2) := by decide +kernel
theorem dX9_moreFor_42 : decode cX9_moreFor 42 = .ok (.iconst 3, 1) := by decide +kernel
theorem dX9_moreFor_43 : decode cX9_moreFor 43 = .ok (.if_icmp .ge 34, 3) := by decide +kernel
theorem dX9_moreFor_46 : decode cX9_moreFor 46 = .ok (.iload 4, 2) := by decide +kernel
theorem dX9_moreFor_48 : decode cX9_moreFor 48 = .ok (.bipush (-9), 2) := by decide +kernel
theorem dX9_moreFor_50 : decode cX9_moreFor 50 = .ok (.if_icmp .eq 10, 3) := by decide +kernel
theorem dX9_moreFor_53 : decode cX9_moreFor 53 = .ok (.iload 6, 2) := by decide +kernel
theorem dX9_moreFor_55 : decode cX9_moreFor 55 = .ok (.iload 4, 2) := by decide +kernel
theorem dX9_moreFor_57 : decode cX9_moreFor 57 = .ok (.if_icmp .ge 20, 3) := by decide +kernel
theorem dX9_moreFor_60 : decode cX9_moreFor 60 = .ok (.aload_n 0, 1) := by decide +kernel
theorem dX9_moreFor_61 : decode cX9_moreFor 61 = .ok (.iload_n 1, 1) := by decide +kernel
theorem dX9_moreFor_62 : decode cX9_moreFor 62 = .ok (.iload_n 3, 1) := by decide +kernel
theorem dX9_moreFor_63 : decode cX9_moreFor 63 = .ok (.iload 5, 2) := by decide +kernel
theorem dX9_moreFor_65 : decode cX9_moreFor 65 = .ok (.ior, 1) := by decide +kernel
theorem dX9_moreFor_66 : decode cX9_moreFor 66 = .ok (.invokevirtual 133, 3) := by decide +kernel
theorem dX9_moreFor_69 : decode cX9_moreFor 69 = .ok (.iload_n 2, 1) := by decide +kernel
theorem dX9_moreFor_70 : decode cX9_moreFor 70 = .ok (.if_icmp .lt 7, 3) := by decide +kernel
theorem dX9_moreFor_73 : decode cX9_moreFor 73 = .ok (.iload 6, 2) := by decide +kernel
theorem dX9_moreFor_75 : decode cX9_moreFor 75 = .ok (.istore 4, 2) := by decide +kernel
theorem dX9_moreFor_77 : decode cX9_moreFor 77 = .ok (.iinc 5 1, 3) := by decide +kernel
theorem dX9_moreFor_80 : decode cX9_moreFor 80 = .ok (.goto (-67), 3) := by decide +kernel
theorem dX9_moreFor_83 : decode cX9_moreFor 83 = .ok (.iload 4, 2) := by decide +kernel
theorem dX9_moreFor_85 : decode cX9_moreFor 85 = .ok (.ireturn, 1) := by decide +kernel
theorem dX9_fewest_0 : decode cX9_fewest 0 = .ok (.aload_n 0, 1) := by decide +kernel
theorem dX9_fewest_1 : decode cX9_fewest 1 = .ok (.iconst 0, 1) := by decide +kernel
theorem dX9_fewest_2 : decode cX9_fewest 2 = .ok (.putfield 56, 3) := by decide +kernel
theorem dX9_fewest_5 : decode cX9_fewest 5 = .ok (.iload_n 1, 1) := by decide +kernel
theorem dX9_fewest_6 : decode cX9_fewest 6 = .ok (.invokestatic 173, 3) := by decide +kernel
theorem dX9_fewest_9 : decode cX9_fewest 9 = .ok (.ifCond .eq 16, 3) := by decide +kernel
theorem dX9_fewest_12 : decode cX9_fewest 12 = .ok (.iload_n 2, 1) := by decide +kernel
theorem dX9_fewest_13 : decode cX9_fewest 13 = .ok (.iconst (-1), 1) := by decide +kernel
theorem dX9_fewest_14 : decode cX9_fewest 14 = .ok (.if_icmp .eq 13, 3) := by decide +kernel
theorem dX9_fewest_17 : decode cX9_fewest 17 = .ok (.aload_n 0, 1) := by decide +kernel
theorem dX9_fewest_18 : decode cX9_fewest 18 = .ok (.iload_n 2, 1) := by decide +kernel
theorem dX9_fewest_19 : decode cX9_fewest 19 = .ok (.invokevirtual 157, 3) := by decide +kernel
theorem dX9_fewest_22 : decode cX9_fewest 22 = .ok (.ifCond .ne 5, 3) := by decide +kernel
theorem dX9_fewest_25 : decode cX9_fewest 25 = .ok (.iconst (-1), 1) := by decide +kernel
theorem dX9_fewest_26 : decode cX9_fewest 26 = .ok (.ireturn, 1) := by decide +kernel
theorem dX9_fewest_27 : decode cX9_fewest 27 = .ok (.iload_n 2, 1) := by decide +kernel
theorem dX9_fewest_28 : decode cX9_fewest 28 = .ok (.ifCond .lt 10, 3) := by decide +kernel
theorem dX9_fewest_31 : decode cX9_fewest 31 = .ok (.aload_n 0, 1) := by decide +kernel
theorem dX9_fewest_32 : decode cX9_fewest 32 = .ok (.iload_n 2, 1) := by decide +kernel
theorem dX9_fewest_33 : decode cX9_fewest 33 = .ok (.iload_n 1, 1) := by decide +kernel
theorem dX9_fewest_34 : decode cX9_fewest 34 = .ok (.invokevirtual 182, 3) := by decide +kernel
theorem dX9_fewest_37 : decode cX9_fewest 37 = .ok (.ireturn, 1) := by decide +kernel
theorem dX9_fewest_38 : decode cX9_fewest 38 = .ok (.iconst 0, 1) := by decide +kernel
theorem dX9_fewest_39 : decode cX9_fewest 39 = .ok (.istore_n 3, 1) := by decide +kernel
theorem dX9_fewest_40 : decode cX9_fewest 40 = .ok (.iconst 0, 1) := by decide +kernel
theorem dX9_fewest_41 : decode cX9_fewest 41 = .ok (.istore 4, 2) := by decide +kernel
theorem dX9_fewest_43 : decode cX9_fewest 43 = .ok (.iload 4, 2) := by decide +kernel
theorem dX9_fewest_45 : decode cX9_fewest 45 = .ok (.aload_n 0, 1) := by decide +kernel
theorem dX9_fewest_46 : decode cX9_fewest 46 = .ok (.getfield 13, 3) := by decide +kernel
theorem dX9_fewest_49 : decode cX9_fewest 49 = .ok (.iconst 0, 1) := by decide +kernel
theorem dX9_fewest_50 : decode cX9_fewest 50 = .ok (.iaload, 1) := by decide +kernel
theorem dX9_fewest_51 : decode cX9_fewest 51 = .ok (.if_icmp .ge 33, 3) := by decide +kernel
theorem dX9_fewest_54 : decode cX9_fewest 54 = .ok (.aload_n 0, 1) := by decide +kernel
theorem dX9_fewest_55 : decode cX9_fewest 55 = .ok (.iload 4, 2) := by decide +kernel
theorem dX9_fewest_57 : decode cX9_fewest 57 = .ok (.iload_n 1, 1) := by decide +kernel
theorem dX9_fewest_58 : decode cX9_fewest 58 = .ok (.invokevirtual 182, 3) := by decide +kernel
theorem dX9_fewest_61 : decode cX9_fewest 61 = .ok (.istore 5, 2) := by decide +kernel
theorem dX9_fewest_63 : decode cX9_fewest 63 = .ok (.iload 5, 2) := by decide +kernel
theorem dX9_fewest_65 : decode cX9_fewest 65 = .ok (.bipush (-9), 2) := by decide +kernel
theorem dX9_fewest_67 : decode cX9_fewest 67 = .ok (.if_icmp .ne 6, 3) := by decide +kernel
theorem dX9_fewest_70 : decode cX9_fewest 70 = .ok (.bipush (-9), 2) := by decide +kernel
theorem dX9_fewest_72 : decode cX9_fewest 72 = .ok (.ireturn, 1) := by decide +kernel
theorem dX9_fewest_73 : decode cX9_fewest 73 = .ok (.iload_n 3, 1) := by decide +kernel
theorem dX9_fewest_74 : decode cX9_fewest 74 = .ok (.iload 5, 2) := by decide +kernel
theorem dX9_fewest_76 : decode cX9_fewest 76 = .ok (.iadd, 1) := by decide +kernel
theorem dX9_fewest_77 : decode cX9_fewest 77 = .ok (.istore_n 3, 1) := by decide +kernel
theorem dX9_fewest_78 : decode cX9_fewest 78 = .ok (.iinc 4 1, 3) := by decide +kernel
theorem dX9_fewest_81 : decode cX9_fewest 81 = .ok (.goto (-38), 3) := by decide +kernel
theorem dX9_fewest_84 : decode cX9_fewest 84 = .ok (.iload_n 3, 1) := by decide +kernel
theorem dX9_fewest_85 : decode cX9_fewest 85 = .ok (.ireturn, 1) := by decide +kernel
theorem dX9_canSoon_0 : decode cX9_canSoon 0 = .ok (.aload_n 0, 1) := by decide +kernel
theorem dX9_canSoon_1 : decode cX9_canSoon 1 = .ok (.iload_n 1, 1) := by decide +kernel
theorem dX9_canSoon_2 : decode cX9_canSoon 2 = .ok (.invokevirtual 176, 3) := by decide +kernel
theorem dX9_canSoon_5 : decode cX9_canSoon 5 = .ok (.istore 4, 2) := by decide +kernel
theorem dX9_canSoon_7 : decode cX9_canSoon 7 = .ok (.iconst 0, 1) := by decide +kernel
theorem dX9_canSoon_8 : decode cX9_canSoon 8 = .ok (.istore 5, 2) := by decide +kernel
theorem dX9_canSoon_10 : decode cX9_canSoon 10 = .ok (.iconst 0, 1) := by decide +kernel
theorem dX9_canSoon_11 : decode cX9_canSoon 11 = .ok (.istore 6, 2) := by decide +kernel
theorem dX9_canSoon_13 : decode cX9_canSoon 13 = .ok (.iconst 0, 1) := by decide +kernel
theorem dX9_canSoon_14 : decode cX9_canSoon 14 = .ok (.istore 7, 2) := by decide +kernel
theorem dX9_canSoon_16 : decode cX9_canSoon 16 = .ok (.iload 7, 2) := by decide +kernel
theorem dX9_canSoon_18 : decode cX9_canSoon 18 = .ok (.aload_n 0, 1) := by decide +kernel
theorem dX9_canSoon_19 : decode cX9_canSoon 19 = .ok (.getfield 13, 3) := by decide +kernel
theorem dX9_canSoon_22 : decode cX9_canSoon 22 = .ok (.iconst 1, 1) := by decide +kernel
theorem dX9_canSoon_23 : decode cX9_canSoon 23 = .ok (.iaload, 1) := by decide +kernel
theorem dX9_canSoon_24 : decode cX9_canSoon 24 = .ok (.if_icmp .ge 91, 3) := by decide +kernel
theorem dX9_canSoon_27 : decode cX9_canSoon 27 = .ok (.aload_n 0, 1) := by decide +kernel
theorem dX9_canSoon_28 : decode cX9_canSoon 28 = .ok (.getfield 22, 3) := by decide +kernel
theorem dX9_canSoon_31 : decode cX9_canSoon 31 = .ok (.iconst 2, 1) := by decide +kernel
theorem dX9_canSoon_32 : decode cX9_canSoon 32 = .ok (.bipush 8, 2) := by decide +kernel
theorem dX9_canSoon_34 : decode cX9_canSoon 34 = .ok (.iload 7, 2) := by decide +kernel
theorem dX9_canSoon_36 : decode cX9_canSoon 36 = .ok (.imul, 1) := by decide +kernel
theorem dX9_canSoon_37 : decode cX9_canSoon 37 = .ok (.iadd, 1) := by decide +kernel
theorem dX9_canSoon_38 : decode cX9_canSoon 38 = .ok (.iload_n 1, 1) := by decide +kernel
theorem dX9_canSoon_39 : decode cX9_canSoon 39 = .ok (.iadd, 1) := by decide +kernel
theorem dX9_canSoon_40 : decode cX9_canSoon 40 = .ok (.iaload, 1) := by decide +kernel
theorem dX9_canSoon_41 : decode cX9_canSoon 41 = .ok (.istore 8, 2) := by decide +kernel
theorem dX9_canSoon_43 : decode cX9_canSoon 43 = .ok (.iload 5, 2) := by decide +kernel
theorem dX9_canSoon_45 : decode cX9_canSoon 45 = .ok (.iload 8, 2) := by decide +kernel
theorem dX9_canSoon_47 : decode cX9_canSoon 47 = .ok (.iconst (-1), 1) := by decide +kernel
theorem dX9_canSoon_48 : decode cX9_canSoon 48 = .ok (.if_icmp .eq 23, 3) := by decide +kernel
theorem dX9_canSoon_51 : decode cX9_canSoon 51 = .ok (.iload 8, 2) := by decide +kernel
theorem dX9_canSoon_53 : decode cX9_canSoon 53 = .ok (.ifCond .le 25, 3) := by decide +kernel
theorem dX9_canSoon_56 : decode cX9_canSoon 56 = .ok (.iload 8, 2) := by decide +kernel
theorem dX9_canSoon_58 : decode cX9_canSoon 58 = .ok (.iconst 1, 1) := by decide +kernel
theorem dX9_canSoon_59 : decode cX9_canSoon 59 = .ok (.isub, 1) := by decide +kernel
theorem dX9_canSoon_60 : decode cX9_canSoon 60 = .ok (.aload_n 0, 1) := by decide +kernel
theorem dX9_canSoon_61 : decode cX9_canSoon 61 = .ok (.getfield 22, 3) := by decide +kernel
theorem dX9_canSoon_64 : decode cX9_canSoon 64 = .ok (.iconst 0, 1) := by decide +kernel
theorem dX9_canSoon_65 : decode cX9_canSoon 65 = .ok (.iaload, 1) := by decide +kernel
theorem dX9_canSoon_66 : decode cX9_canSoon 66 = .ok (.iload_n 3, 1) := by decide +kernel
theorem dX9_canSoon_67 : decode cX9_canSoon 67 = .ok (.iadd, 1) := by decide +kernel
theorem dX9_canSoon_68 : decode cX9_canSoon 68 = .ok (.if_icmp .gt 10, 3) := by decide +kernel
theorem dX9_canSoon_71 : decode cX9_canSoon 71 = .ok (.iconst 1, 1) := by decide +kernel
theorem dX9_canSoon_72 : decode cX9_canSoon 72 = .ok (.iload 7, 2) := by decide +kernel
theorem dX9_canSoon_74 : decode cX9_canSoon 74 = .ok (.ishl, 1) := by decide +kernel
theorem dX9_canSoon_75 : decode cX9_canSoon 75 = .ok (.goto 4, 3) := by decide +kernel
theorem dX9_canSoon_78 : decode cX9_canSoon 78 = .ok (.iconst 0, 1) := by decide +kernel
theorem dX9_canSoon_79 : decode cX9_canSoon 79 = .ok (.ior, 1) := by decide +kernel
theorem dX9_canSoon_80 : decode cX9_canSoon 80 = .ok (.istore 5, 2) := by decide +kernel
theorem dX9_canSoon_82 : decode cX9_canSoon 82 = .ok (.iload 6, 2) := by decide +kernel
theorem dX9_canSoon_84 : decode cX9_canSoon 84 = .ok (.aload_n 0, 1) := by decide +kernel
theorem dX9_canSoon_85 : decode cX9_canSoon 85 = .ok (.getfield 13, 3) := by decide +kernel
theorem dX9_canSoon_88 : decode cX9_canSoon 88 = .ok (.bipush 26, 2) := by decide +kernel
theorem dX9_canSoon_90 : decode cX9_canSoon 90 = .ok (.iload 7, 2) := by decide +kernel
theorem dX9_canSoon_92 : decode cX9_canSoon 92 = .ok (.iadd, 1) := by decide +kernel
theorem dX9_canSoon_93 : decode cX9_canSoon 93 = .ok (.iaload, 1) := by decide +kernel
theorem dX9_canSoon_94 : decode cX9_canSoon 94 = .ok (.iload_n 3, 1) := by decide +kernel
theorem dX9_canSoon_95 : decode cX9_canSoon 95 = .ok (.if_icmp .gt 10, 3) := by decide +kernel
theorem dX9_canSoon_98 : decode cX9_canSoon 98 = .ok (.iconst 1, 1) := by decide +kernel
theorem dX9_canSoon_99 : decode cX9_canSoon 99 = .ok (.iload 7, 2) := by decide +kernel
theorem dX9_canSoon_101 : decode cX9_canSoon 101 = .ok (.ishl, 1) := by decide +kernel
theorem dX9_canSoon_102 : decode cX9_canSoon 102 = .ok (.goto 4, 3) := by decide +kernel
theorem dX9_canSoon_105 : decode cX9_canSoon 105 = .ok (.iconst 0, 1) := by decide +kernel
theorem dX9_canSoon_106 : decode cX9_canSoon 106 = .ok (.ior, 1) := by decide +kernel
theorem dX9_canSoon_107 : decode cX9_canSoon 107 = .ok (.istore 6, 2) := by decide +kernel
theorem dX9_canSoon_109 : decode cX9_canSoon 109 = .ok (.iinc 7 1, 3) := by decide +kernel
theorem dX9_canSoon_112 : decode cX9_canSoon 112 = .ok (.goto (-96), 3) := by decide +kernel
theorem dX9_canSoon_115 : decode cX9_canSoon 115 = .ok (.iconst 0, 1) := by decide +kernel
theorem dX9_canSoon_116 : decode cX9_canSoon 116 = .ok (.istore 7, 2) := by decide +kernel
theorem dX9_canSoon_118 : decode cX9_canSoon 118 = .ok (.iload 7, 2) := by decide +kernel
theorem dX9_canSoon_120 : decode cX9_canSoon 120 = .ok (.iconst 1, 1) := by decide +kernel
theorem dX9_canSoon_121 : decode cX9_canSoon 121 = .ok (.aload_n 0, 1) := by decide +kernel
theorem dX9_canSoon_122 : decode cX9_canSoon 122 = .ok (.getfield 13, 3) := by decide +kernel
theorem dX9_canSoon_125 : decode cX9_canSoon 125 = .ok (.iconst 1, 1) := by decide +kernel
theorem dX9_canSoon_126 : decode cX9_canSoon 126 = .ok (.iaload, 1) := by decide +kernel
theorem dX9_canSoon_127 : decode cX9_canSoon 127 = .ok (.ishl, 1) := by decide +kernel
theorem dX9_canSoon_128 : decode cX9_canSoon 128 = .ok (.if_icmp .ge 45, 3) := by decide +kernel
theorem dX9_canSoon_131 : decode cX9_canSoon 131 = .ok (.iload 7, 2) := by decide +kernel
theorem dX9_canSoon_133 : decode cX9_canSoon 133 = .ok (.iload 4, 2) := by decide +kernel
theorem dX9_canSoon_135 : decode cX9_canSoon 135 = .ok (.iand, 1) := by decide +kernel
theorem dX9_canSoon_136 : decode cX9_canSoon 136 = .ok (.ifCond .ne 31, 3) := by decide +kernel
theorem dX9_canSoon_139 : decode cX9_canSoon 139 = .ok (.iload 7, 2) := by decide +kernel
theorem dX9_canSoon_141 : decode cX9_canSoon 141 = .ok (.invokestatic 179, 3) := by decide +kernel
theorem dX9_canSoon_144 : decode cX9_canSoon 144 = .ok (.iconst 3, 1) := by decide +kernel
theorem dX9_canSoon_145 : decode cX9_canSoon 145 = .ok (.if_icmp .ge 22, 3) := by decide +kernel
theorem dX9_canSoon_148 : decode cX9_canSoon 148 = .ok (.aload_n 0, 1) := by decide +kernel
theorem dX9_canSoon_149 : decode cX9_canSoon 149 = .ok (.iload_n 1, 1) := by decide +kernel
theorem dX9_canSoon_150 : decode cX9_canSoon 150 = .ok (.iload 5, 2) := by decide +kernel
theorem dX9_canSoon_152 : decode cX9_canSoon 152 = .ok (.iload 7, 2) := by decide +kernel
theorem dX9_canSoon_154 : decode cX9_canSoon 154 = .ok (.iload 6, 2) := by decide +kernel
theorem dX9_canSoon_156 : decode cX9_canSoon 156 = .ok (.iand, 1) := by decide +kernel
theorem dX9_canSoon_157 : decode cX9_canSoon 157 = .ok (.ior, 1) := by decide +kernel
theorem dX9_canSoon_158 : decode cX9_canSoon 158 = .ok (.invokevirtual 133, 3) := by decide +kernel
theorem dX9_canSoon_161 : decode cX9_canSoon 161 = .ok (.iload_n 2, 1) := by decide +kernel
theorem dX9_canSoon_162 : decode cX9_canSoon 162 = .ok (.if_icmp .lt 5, 3) := by decide +kernel
theorem dX9_canSoon_165 : decode cX9_canSoon 165 = .ok (.iconst 1, 1) := by decide +kernel
theorem dX9_canSoon_166 : decode cX9_canSoon 166 = .ok (.ireturn, 1) := by decide +kernel
theorem dX9_canSoon_167 : decode cX9_canSoon 167 = .ok (.iinc 7 1, 3) := by decide +kernel
theorem dX9_canSoon_170 : decode cX9_canSoon 170 = .ok (.goto (-52), 3) := by decide +kernel
theorem dX9_canSoon_173 : decode cX9_canSoon 173 = .ok (.iconst 0, 1) := by decide +kernel
theorem dX9_canSoon_174 : decode cX9_canSoon 174 = .ok (.ireturn, 1) := by decide +kernel
theorem dX9_soon_0 : decode cX9_soon 0 = .ok (.aload_n 0, 1) := by decide +kernel
theorem dX9_soon_1 : decode cX9_soon 1 = .ok (.iconst 0, 1) := by decide +kernel
theorem dX9_soon_2 : decode cX9_soon 2 = .ok (.putfield 56, 3) := by decide +kernel
theorem dX9_soon_5 : decode cX9_soon 5 = .ok (.iload_n 1, 1) := by decide +kernel
theorem dX9_soon_6 : decode cX9_soon 6 = .ok (.invokestatic 173, 3) := by decide +kernel
theorem dX9_soon_9 : decode cX9_soon 9 = .ok (.ifCond .ne 5, 3) := by decide +kernel
theorem dX9_soon_12 : decode cX9_soon 12 = .ok (.iconst (-1), 1) := by decide +kernel
theorem dX9_soon_13 : decode cX9_soon 13 = .ok (.ireturn, 1) := by decide +kernel
theorem dX9_soon_14 : decode cX9_soon 14 = .ok (.iconst 0, 1) := by decide +kernel
theorem dX9_soon_15 : decode cX9_soon 15 = .ok (.istore_n 2, 1) := by decide +kernel
theorem dX9_soon_16 : decode cX9_soon 16 = .ok (.iload_n 2, 1) := by decide +kernel
theorem dX9_soon_17 : decode cX9_soon 17 = .ok (.bipush 20, 2) := by decide +kernel
theorem dX9_soon_19 : decode cX9_soon 19 = .ok (.if_icmp .gt 50, 3) := by decide +kernel
theorem dX9_soon_22 : decode cX9_soon 22 = .ok (.iconst 1, 1) := by decide +kernel
theorem dX9_soon_23 : decode cX9_soon 23 = .ok (.istore_n 3, 1) := by decide +kernel
theorem dX9_soon_24 : decode cX9_soon 24 = .ok (.iconst 0, 1) := by decide +kernel
theorem dX9_soon_25 : decode cX9_soon 25 = .ok (.istore 4, 2) := by decide +kernel
theorem dX9_soon_27 : decode cX9_soon 27 = .ok (.iload 4, 2) := by decide +kernel
theorem dX9_soon_29 : decode cX9_soon 29 = .ok (.aload_n 0, 1) := by decide +kernel
theorem dX9_soon_30 : decode cX9_soon 30 = .ok (.getfield 13, 3) := by decide +kernel
theorem dX9_soon_33 : decode cX9_soon 33 = .ok (.iconst 0, 1) := by decide +kernel
theorem dX9_soon_34 : decode cX9_soon 34 = .ok (.iaload, 1) := by decide +kernel
theorem dX9_soon_35 : decode cX9_soon 35 = .ok (.if_icmp .ge 22, 3) := by decide +kernel
theorem dX9_soon_38 : decode cX9_soon 38 = .ok (.iload_n 3, 1) := by decide +kernel
theorem dX9_soon_39 : decode cX9_soon 39 = .ok (.ifCond .eq 18, 3) := by decide +kernel
theorem dX9_soon_42 : decode cX9_soon 42 = .ok (.aload_n 0, 1) := by decide +kernel
theorem dX9_soon_43 : decode cX9_soon 43 = .ok (.iload 4, 2) := by decide +kernel
theorem dX9_soon_45 : decode cX9_soon 45 = .ok (.iload_n 1, 1) := by decide +kernel
theorem dX9_soon_46 : decode cX9_soon 46 = .ok (.iload_n 2, 1) := by decide +kernel
theorem dX9_soon_47 : decode cX9_soon 47 = .ok (.invokevirtual 185, 3) := by decide +kernel
theorem dX9_soon_50 : decode cX9_soon 50 = .ok (.istore_n 3, 1) := by decide +kernel
theorem dX9_soon_51 : decode cX9_soon 51 = .ok (.iinc 4 1, 3) := by decide +kernel
theorem dX9_soon_54 : decode cX9_soon 54 = .ok (.goto (-27), 3) := by decide +kernel
theorem dX9_soon_57 : decode cX9_soon 57 = .ok (.iload_n 3, 1) := by decide +kernel
theorem dX9_soon_58 : decode cX9_soon 58 = .ok (.ifCond .eq 5, 3) := by decide +kernel
theorem dX9_soon_61 : decode cX9_soon 61 = .ok (.iload_n 2, 1) := by decide +kernel
theorem dX9_soon_62 : decode cX9_soon 62 = .ok (.ireturn, 1) := by decide +kernel
theorem dX9_soon_63 : decode cX9_soon 63 = .ok (.iinc 2 1, 3) := by decide +kernel
theorem dX9_soon_66 : decode cX9_soon 66 = .ok (.goto (-50), 3) := by decide +kernel
theorem dX9_soon_69 : decode cX9_soon 69 = .ok (.bipush (-9), 2) := by decide +kernel
theorem dX9_soon_71 : decode cX9_soon 71 = .ok (.ireturn, 1) := by decide +kernel
theorem dX9_max_0 : decode cX9_max 0 = .ok (.iload_n 0, 1) := by decide +kernel
theorem dX9_max_1 : decode cX9_max 1 = .ok (.iload_n 1, 1) := by decide +kernel
theorem dX9_max_2 : decode cX9_max 2 = .ok (.if_icmp .le 7, 3) := by decide +kernel
theorem dX9_max_5 : decode cX9_max 5 = .ok (.iload_n 0, 1) := by decide +kernel
theorem dX9_max_6 : decode cX9_max 6 = .ok (.goto 4, 3) := by decide +kernel
theorem dX9_max_9 : decode cX9_max 9 = .ok (.iload_n 1, 1) := by decide +kernel
theorem dX9_max_10 : decode cX9_max 10 = .ok (.ireturn, 1) := by decide +kernel
theorem dX9_min_0 : decode cX9_min 0 = .ok (.iload_n 0, 1) := by decide +kernel
theorem dX9_min_1 : decode cX9_min 1 = .ok (.iload_n 1, 1) := by decide +kernel
theorem dX9_min_2 : decode cX9_min 2 = .ok (.if_icmp .ge 7, 3) := by decide +kernel
theorem dX9_min_5 : decode cX9_min 5 = .ok (.iload_n 0, 1) := by decide +kernel
theorem dX9_min_6 : decode cX9_min 6 = .ok (.goto 4, 3) := by decide +kernel
theorem dX9_min_9 : decode cX9_min 9 = .ok (.iload_n 1, 1) := by decide +kernel
theorem dX9_min_10 : decode cX9_min 10 = .ok (.ireturn, 1) := by decide +kernel
theorem dX9_pair_0 : decode cX9_pair 0 = .ok (.aload_n 0, 1) := by decide +kernel
theorem dX9_pair_1 : decode cX9_pair 1 = .ok (.iconst 0, 1) := by decide +kernel
theorem dX9_pair_2 : decode cX9_pair 2 = .ok (.putfield 56, 3) := by decide +kernel
theorem dX9_pair_5 : decode cX9_pair 5 = .ok (.aload_n 0, 1) := by decide +kernel
theorem dX9_pair_6 : decode cX9_pair 6 = .ok (.iload_n 1, 1) := by decide +kernel
theorem dX9_pair_7 : decode cX9_pair 7 = .ok (.invokevirtual 136, 3) := by decide +kernel
theorem dX9_pair_10 : decode cX9_pair 10 = .ok (.ifCond .eq 19, 3) := by decide +kernel
theorem dX9_pair_13 : decode cX9_pair 13 = .ok (.aload_n 0, 1) := by decide +kernel
theorem dX9_pair_14 : decode cX9_pair 14 = .ok (.iload_n 2, 1) := by decide +kernel
theorem dX9_pair_15 : decode cX9_pair 15 = .ok (.invokevirtual 136, 3) := by decide +kernel
theorem dX9_pair_18 : decode cX9_pair 18 = .ok (.ifCond .eq 11, 3) := by decide +kernel
theorem dX9_pair_21 : decode cX9_pair 21 = .ok (.aload_n 0, 1) := by decide +kernel
theorem dX9_pair_22 : decode cX9_pair 22 = .ok (.iload_n 3, 1) := by decide +kernel
theorem dX9_pair_23 : decode cX9_pair 23 = .ok (.invokevirtual 157, 3) := by decide +kernel
theorem dX9_pair_26 : decode cX9_pair 26 = .ok (.ifCond .ne 5, 3) := by decide +kernel
theorem dX9_pair_29 : decode cX9_pair 29 = .ok (.iconst (-1), 1) := by decide +kernel
theorem dX9_pair_30 : decode cX9_pair 30 = .ok (.ireturn, 1) := by decide +kernel
theorem dX9_pair_31 : decode cX9_pair 31 = .ok (.iconst 0, 1) := by decide +kernel
theorem dX9_pair_32 : decode cX9_pair 32 = .ok (.istore 4, 2) := by decide +kernel
theorem dX9_pair_34 : decode cX9_pair 34 = .ok (.iconst 0, 1) := by decide +kernel
theorem dX9_pair_35 : decode cX9_pair 35 = .ok (.istore 5, 2) := by decide +kernel
theorem dX9_pair_37 : decode cX9_pair 37 = .ok (.iload 5, 2) := by decide +kernel
theorem dX9_pair_39 : decode cX9_pair 39 = .ok (.aload_n 0, 1) := by decide +kernel
theorem dX9_pair_40 : decode cX9_pair 40 = .ok (.getfield 13, 3) := by decide +kernel
theorem dX9_pair_43 : decode cX9_pair 43 = .ok (.iconst 1, 1) := by decide +kernel
theorem dX9_pair_44 : decode cX9_pair 44 = .ok (.iaload, 1) := by decide +kernel
theorem dX9_pair_45 : decode cX9_pair 45 = .ok (.if_icmp .ge 38, 3) := by decide +kernel
theorem dX9_pair_48 : decode cX9_pair 48 = .ok (.iload 4, 2) := by decide +kernel
theorem dX9_pair_50 : decode cX9_pair 50 = .ok (.ifCond .ne 20, 3) := by decide +kernel
theorem dX9_pair_53 : decode cX9_pair 53 = .ok (.aload_n 0, 1) := by decide +kernel
theorem dX9_pair_54 : decode cX9_pair 54 = .ok (.getfield 22, 3) := by decide +kernel
theorem dX9_pair_57 : decode cX9_pair 57 = .ok (.iconst 2, 1) := by decide +kernel
theorem dX9_pair_58 : decode cX9_pair 58 = .ok (.bipush 8, 2) := by decide +kernel
theorem dX9_pair_60 : decode cX9_pair 60 = .ok (.iload 5, 2) := by decide +kernel
theorem dX9_pair_62 : decode cX9_pair 62 = .ok (.imul, 1) := by decide +kernel
theorem dX9_pair_63 : decode cX9_pair 63 = .ok (.iadd, 1) := by decide +kernel
theorem dX9_pair_64 : decode cX9_pair 64 = .ok (.iload_n 3, 1) := by decide +kernel
theorem dX9_pair_65 : decode cX9_pair 65 = .ok (.iadd, 1) := by decide +kernel
theorem dX9_pair_66 : decode cX9_pair 66 = .ok (.iaload, 1) := by decide +kernel
theorem dX9_pair_67 : decode cX9_pair 67 = .ok (.ifCond .le 7, 3) := by decide +kernel
theorem dX9_pair_70 : decode cX9_pair 70 = .ok (.iconst 1, 1) := by decide +kernel
theorem dX9_pair_71 : decode cX9_pair 71 = .ok (.goto 4, 3) := by decide +kernel
theorem dX9_pair_74 : decode cX9_pair 74 = .ok (.iconst 0, 1) := by decide +kernel
theorem dX9_pair_75 : decode cX9_pair 75 = .ok (.istore 4, 2) := by decide +kernel
theorem dX9_pair_77 : decode cX9_pair 77 = .ok (.iinc 5 1, 3) := by decide +kernel
theorem dX9_pair_80 : decode cX9_pair 80 = .ok (.goto (-43), 3) := by decide +kernel
theorem dX9_pair_83 : decode cX9_pair 83 = .ok (.aload_n 0, 1) := by decide +kernel
theorem dX9_pair_84 : decode cX9_pair 84 = .ok (.getfield 13, 3) := by decide +kernel
theorem dX9_pair_87 : decode cX9_pair 87 = .ok (.iconst 2, 1) := by decide +kernel
theorem dX9_pair_88 : decode cX9_pair 88 = .ok (.iload_n 1, 1) := by decide +kernel
theorem dX9_pair_89 : decode cX9_pair 89 = .ok (.iadd, 1) := by decide +kernel
theorem dX9_pair_90 : decode cX9_pair 90 = .ok (.iaload, 1) := by decide +kernel
theorem dX9_pair_91 : decode cX9_pair 91 = .ok (.aload_n 0, 1) := by decide +kernel
theorem dX9_pair_92 : decode cX9_pair 92 = .ok (.getfield 13, 3) := by decide +kernel
theorem dX9_pair_95 : decode cX9_pair 95 = .ok (.iconst 2, 1) := by decide +kernel
theorem dX9_pair_96 : decode cX9_pair 96 = .ok (.iload_n 2, 1) := by decide +kernel
theorem dX9_pair_97 : decode cX9_pair 97 = .ok (.iadd, 1) := by decide +kernel
theorem dX9_pair_98 : decode cX9_pair 98 = .ok (.iaload, 1) := by decide +kernel
theorem dX9_pair_99 : decode cX9_pair 99 = .ok (.if_icmp .eq 32, 3) := by decide +kernel
theorem dX9_pair_102 : decode cX9_pair 102 = .ok (.aload_n 0, 1) := by decide +kernel
theorem dX9_pair_103 : decode cX9_pair 103 = .ok (.iload_n 3, 1) := by decide +kernel
theorem dX9_pair_104 : decode cX9_pair 104 = .ok (.invokevirtual 176, 3) := by decide +kernel
theorem dX9_pair_107 : decode cX9_pair 107 = .ok (.iload_n 1, 1) := by decide +kernel
theorem dX9_pair_108 : decode cX9_pair 108 = .ok (.invokestatic 118, 3) := by decide +kernel
theorem dX9_pair_111 : decode cX9_pair 111 = .ok (.ifCond .ne 20, 3) := by decide +kernel
theorem dX9_pair_114 : decode cX9_pair 114 = .ok (.aload_n 0, 1) := by decide +kernel
theorem dX9_pair_115 : decode cX9_pair 115 = .ok (.iload_n 3, 1) := by decide +kernel
theorem dX9_pair_116 : decode cX9_pair 116 = .ok (.invokevirtual 176, 3) := by decide +kernel
theorem dX9_pair_119 : decode cX9_pair 119 = .ok (.iload_n 2, 1) := by decide +kernel
theorem dX9_pair_120 : decode cX9_pair 120 = .ok (.invokestatic 118, 3) := by decide +kernel
theorem dX9_pair_123 : decode cX9_pair 123 = .ok (.ifCond .ne 8, 3) := by decide +kernel
theorem dX9_pair_126 : decode cX9_pair 126 = .ok (.iload 4, 2) := by decide +kernel
theorem dX9_pair_128 : decode cX9_pair 128 = .ok (.ifCond .eq 6, 3) := by decide +kernel
theorem dX9_pair_131 : decode cX9_pair 131 = .ok (.bipush (-2), 2) := by decide +kernel
theorem dX9_pair_133 : decode cX9_pair 133 = .ok (.ireturn, 1) := by decide +kernel
theorem dX9_pair_134 : decode cX9_pair 134 = .ok (.aload_n 0, 1) := by decide +kernel
theorem dX9_pair_135 : decode cX9_pair 135 = .ok (.getfield 13, 3) := by decide +kernel
theorem dX9_pair_138 : decode cX9_pair 138 = .ok (.bipush 26, 2) := by decide +kernel
theorem dX9_pair_140 : decode cX9_pair 140 = .ok (.iload_n 1, 1) := by decide +kernel
theorem dX9_pair_141 : decode cX9_pair 141 = .ok (.iadd, 1) := by decide +kernel
theorem dX9_pair_142 : decode cX9_pair 142 = .ok (.iaload, 1) := by decide +kernel
theorem dX9_pair_143 : decode cX9_pair 143 = .ok (.istore 5, 2) := by decide +kernel
theorem dX9_pair_145 : decode cX9_pair 145 = .ok (.aload_n 0, 1) := by decide +kernel
theorem dX9_pair_146 : decode cX9_pair 146 = .ok (.getfield 13, 3) := by decide +kernel
theorem dX9_pair_149 : decode cX9_pair 149 = .ok (.bipush 26, 2) := by decide +kernel
theorem dX9_pair_151 : decode cX9_pair 151 = .ok (.iload_n 2, 1) := by decide +kernel
theorem dX9_pair_152 : decode cX9_pair 152 = .ok (.iadd, 1) := by decide +kernel
theorem dX9_pair_153 : decode cX9_pair 153 = .ok (.iaload, 1) := by decide +kernel
theorem dX9_pair_154 : decode cX9_pair 154 = .ok (.istore 6, 2) := by decide +kernel
theorem dX9_pair_156 : decode cX9_pair 156 = .ok (.iload 5, 2) := by decide +kernel
theorem dX9_pair_158 : decode cX9_pair 158 = .ok (.iload 6, 2) := by decide +kernel
theorem dX9_pair_160 : decode cX9_pair 160 = .ok (.iadd, 1) := by decide +kernel
theorem dX9_pair_161 : decode cX9_pair 161 = .ok (.iload 5, 2) := by decide +kernel
theorem dX9_pair_163 : decode cX9_pair 163 = .ok (.iload 6, 2) := by decide +kernel
theorem dX9_pair_165 : decode cX9_pair 165 = .ok (.iconst 1, 1) := by decide +kernel
theorem dX9_pair_166 : decode cX9_pair 166 = .ok (.iadd, 1) := by decide +kernel
theorem dX9_pair_167 : decode cX9_pair 167 = .ok (.invokestatic 188, 3) := by decide +kernel
theorem dX9_pair_170 : decode cX9_pair 170 = .ok (.iload 6, 2) := by decide +kernel
theorem dX9_pair_172 : decode cX9_pair 172 = .ok (.iload 5, 2) := by decide +kernel
theorem dX9_pair_174 : decode cX9_pair 174 = .ok (.iconst 1, 1) := by decide +kernel
theorem dX9_pair_175 : decode cX9_pair 175 = .ok (.iadd, 1) := by decide +kernel
theorem dX9_pair_176 : decode cX9_pair 176 = .ok (.invokestatic 188, 3) := by decide +kernel
theorem dX9_pair_179 : decode cX9_pair 179 = .ok (.invokestatic 191, 3) := by decide +kernel
theorem dX9_pair_182 : decode cX9_pair 182 = .ok (.invokestatic 191, 3) := by decide +kernel
theorem dX9_pair_185 : decode cX9_pair 185 = .ok (.ireturn, 1) := by decide +kernel
theorem dX9_enough_0 : decode cX9_enough 0 = .ok (.aload_n 0, 1) := by decide +kernel
theorem dX9_enough_1 : decode cX9_enough 1 = .ok (.iconst 0, 1) := by decide +kernel
theorem dX9_enough_2 : decode cX9_enough 2 = .ok (.putfield 56, 3) := by decide +kernel
theorem dX9_enough_5 : decode cX9_enough 5 = .ok (.iload_n 1, 1) := by decide +kernel
theorem dX9_enough_6 : decode cX9_enough 6 = .ok (.invokestatic 173, 3) := by decide +kernel
theorem dX9_enough_9 : decode cX9_enough 9 = .ok (.ifCond .ne 5, 3) := by decide +kernel
theorem dX9_enough_12 : decode cX9_enough 12 = .ok (.iconst (-1), 1) := by decide +kernel
theorem dX9_enough_13 : decode cX9_enough 13 = .ok (.ireturn, 1) := by decide +kernel
theorem dX9_enough_14 : decode cX9_enough 14 = .ok (.bipush (-9), 2) := by decide +kernel
theorem dX9_enough_16 : decode cX9_enough 16 = .ok (.istore_n 2, 1) := by decide +kernel
theorem dX9_enough_17 : decode cX9_enough 17 = .ok (.iconst 0, 1) := by decide +kernel
theorem dX9_enough_18 : decode cX9_enough 18 = .ok (.istore_n 3, 1) := by decide +kernel
theorem dX9_enough_19 : decode cX9_enough 19 = .ok (.iload_n 3, 1) := by decide +kernel
theorem dX9_enough_20 : decode cX9_enough 20 = .ok (.iconst 1, 1) := by decide +kernel
theorem dX9_enough_21 : decode cX9_enough 21 = .ok (.aload_n 0, 1) := by decide +kernel
theorem dX9_enough_22 : decode cX9_enough 22 = .ok (.getfield 13, 3) := by decide +kernel
theorem dX9_enough_25 : decode cX9_enough 25 = .ok (.iconst 1, 1) := by decide +kernel
theorem dX9_enough_26 : decode cX9_enough 26 = .ok (.iaload, 1) := by decide +kernel
theorem dX9_enough_27 : decode cX9_enough 27 = .ok (.ishl, 1) := by decide +kernel
theorem dX9_enough_28 : decode cX9_enough 28 = .ok (.if_icmp .ge 87, 3) := by decide +kernel
theorem dX9_enough_31 : decode cX9_enough 31 = .ok (.iload_n 2, 1) := by decide +kernel
theorem dX9_enough_32 : decode cX9_enough 32 = .ok (.bipush (-9), 2) := by decide +kernel
theorem dX9_enough_34 : decode cX9_enough 34 = .ok (.if_icmp .eq 14, 3) := by decide +kernel
theorem dX9_enough_37 : decode cX9_enough 37 = .ok (.iload_n 3, 1) := by decide +kernel
theorem dX9_enough_38 : decode cX9_enough 38 = .ok (.invokestatic 179, 3) := by decide +kernel
theorem dX9_enough_41 : decode cX9_enough 41 = .ok (.iload_n 2, 1) := by decide +kernel
theorem dX9_enough_42 : decode cX9_enough 42 = .ok (.invokestatic 179, 3) := by decide +kernel
theorem dX9_enough_45 : decode cX9_enough 45 = .ok (.if_icmp .ge 7, 3) := by decide +kernel
theorem dX9_enough_48 : decode cX9_enough 48 = .ok (.iconst 1, 1) := by decide +kernel
theorem dX9_enough_49 : decode cX9_enough 49 = .ok (.goto 4, 3) := by decide +kernel
theorem dX9_enough_52 : decode cX9_enough 52 = .ok (.iconst 0, 1) := by decide +kernel
theorem dX9_enough_53 : decode cX9_enough 53 = .ok (.istore 4, 2) := by decide +kernel
theorem dX9_enough_55 : decode cX9_enough 55 = .ok (.iconst 0, 1) := by decide +kernel
theorem dX9_enough_56 : decode cX9_enough 56 = .ok (.istore 5, 2) := by decide +kernel
theorem dX9_enough_58 : decode cX9_enough 58 = .ok (.iload 5, 2) := by decide +kernel
theorem dX9_enough_60 : decode cX9_enough 60 = .ok (.aload_n 0, 1) := by decide +kernel
theorem dX9_enough_61 : decode cX9_enough 61 = .ok (.getfield 13, 3) := by decide +kernel
theorem dX9_enough_64 : decode cX9_enough 64 = .ok (.iconst 0, 1) := by decide +kernel
theorem dX9_enough_65 : decode cX9_enough 65 = .ok (.iaload, 1) := by decide +kernel
theorem dX9_enough_66 : decode cX9_enough 66 = .ok (.if_icmp .ge 32, 3) := by decide +kernel
theorem dX9_enough_69 : decode cX9_enough 69 = .ok (.iload 4, 2) := by decide +kernel
theorem dX9_enough_71 : decode cX9_enough 71 = .ok (.ifCond .eq 27, 3) := by decide +kernel
theorem dX9_enough_74 : decode cX9_enough 74 = .ok (.aload_n 0, 1) := by decide +kernel
theorem dX9_enough_75 : decode cX9_enough 75 = .ok (.iload 5, 2) := by decide +kernel
theorem dX9_enough_77 : decode cX9_enough 77 = .ok (.iload_n 3, 1) := by decide +kernel
theorem dX9_enough_78 : decode cX9_enough 78 = .ok (.invokevirtual 133, 3) := by decide +kernel
theorem dX9_enough_81 : decode cX9_enough 81 = .ok (.iload_n 1, 1) := by decide +kernel
theorem dX9_enough_82 : decode cX9_enough 82 = .ok (.if_icmp .lt 7, 3) := by decide +kernel
theorem dX9_enough_85 : decode cX9_enough 85 = .ok (.iconst 1, 1) := by decide +kernel
theorem dX9_enough_86 : decode cX9_enough 86 = .ok (.goto 4, 3) := by decide +kernel
theorem dX9_enough_89 : decode cX9_enough 89 = .ok (.iconst 0, 1) := by decide +kernel
theorem dX9_enough_90 : decode cX9_enough 90 = .ok (.istore 4, 2) := by decide +kernel
theorem dX9_enough_92 : decode cX9_enough 92 = .ok (.iinc 5 1, 3) := by decide +kernel
theorem dX9_enough_95 : decode cX9_enough 95 = .ok (.goto (-37), 3) := by decide +kernel
theorem dX9_enough_98 : decode cX9_enough 98 = .ok (.iload 4, 2) := by decide +kernel
theorem dX9_enough_100 : decode cX9_enough 100 = .ok (.ifCond .eq 7, 3) := by decide +kernel
theorem dX9_enough_103 : decode cX9_enough 103 = .ok (.iload_n 3, 1) := by decide +kernel
theorem dX9_enough_104 : decode cX9_enough 104 = .ok (.goto 4, 3) := by decide +kernel
theorem dX9_enough_107 : decode cX9_enough 107 = .ok (.iload_n 2, 1) := by decide +kernel
theorem dX9_enough_108 : decode cX9_enough 108 = .ok (.istore_n 2, 1) := by decide +kernel
theorem dX9_enough_109 : decode cX9_enough 109 = .ok (.iinc 3 1, 3) := by decide +kernel
theorem dX9_enough_112 : decode cX9_enough 112 = .ok (.goto (-93), 3) := by decide +kernel
theorem dX9_enough_115 : decode cX9_enough 115 = .ok (.iload_n 2, 1) := by decide +kernel
theorem dX9_enough_116 : decode cX9_enough 116 = .ok (.ireturn, 1) := by decide +kernel
theorem dX9_friends_0 : decode cX9_friends 0 = .ok (.aload_n 0, 1) := by decide +kernel
theorem dX9_friends_1 : decode cX9_friends 1 = .ok (.iconst 0, 1) := by decide +kernel
theorem dX9_friends_2 : decode cX9_friends 2 = .ok (.putfield 56, 3) := by decide +kernel
theorem dX9_friends_5 : decode cX9_friends 5 = .ok (.iload_n 1, 1) := by decide +kernel
theorem dX9_friends_6 : decode cX9_friends 6 = .ok (.invokestatic 173, 3) := by decide +kernel
theorem dX9_friends_9 : decode cX9_friends 9 = .ok (.ifCond .ne 5, 3) := by decide +kernel
