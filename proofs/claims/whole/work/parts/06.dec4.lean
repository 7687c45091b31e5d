theorem dX9_posts_29 : decode cX9_posts 29 = .ok (.iadd, 1) := by decide +kernel
theorem dX9_posts_30 : decode cX9_posts 30 = .ok (.iload_n 3, 1) := by decide +kernel
theorem dX9_posts_31 : decode cX9_posts 31 = .ok (.iadd, 1) := by decide +kernel
theorem dX9_posts_32 : decode cX9_posts 32 = .ok (.iaload, 1) := by decide +kernel
theorem dX9_posts_33 : decode cX9_posts 33 = .ok (.ifCond .le 27, 3) := by decide +kernel
theorem dX9_posts_36 : decode cX9_posts 36 = .ok (.aload_n 0, 1) := by decide +kernel
theorem dX9_posts_37 : decode cX9_posts 37 = .ok (.getfield 13, 3) := by decide +kernel
theorem dX9_posts_40 : decode cX9_posts 40 = .ok (.iconst 2, 1) := by decide +kernel
theorem dX9_posts_41 : decode cX9_posts 41 = .ok (.iload 5, 2) := by decide +kernel
theorem dX9_posts_43 : decode cX9_posts 43 = .ok (.iadd, 1) := by decide +kernel
theorem dX9_posts_44 : decode cX9_posts 44 = .ok (.iaload, 1) := by decide +kernel
theorem dX9_posts_45 : decode cX9_posts 45 = .ok (.aload_n 0, 1) := by decide +kernel
theorem dX9_posts_46 : decode cX9_posts 46 = .ok (.getfield 13, 3) := by decide +kernel
theorem dX9_posts_49 : decode cX9_posts 49 = .ok (.iconst 2, 1) := by decide +kernel
theorem dX9_posts_50 : decode cX9_posts 50 = .ok (.iload_n 2, 1) := by decide +kernel
theorem dX9_posts_51 : decode cX9_posts 51 = .ok (.iadd, 1) := by decide +kernel
theorem dX9_posts_52 : decode cX9_posts 52 = .ok (.iaload, 1) := by decide +kernel
theorem dX9_posts_53 : decode cX9_posts 53 = .ok (.if_icmp .eq 7, 3) := by decide +kernel
theorem dX9_posts_56 : decode cX9_posts 56 = .ok (.iconst 1, 1) := by decide +kernel
theorem dX9_posts_57 : decode cX9_posts 57 = .ok (.goto 4, 3) := by decide +kernel
theorem dX9_posts_60 : decode cX9_posts 60 = .ok (.iconst 0, 1) := by decide +kernel
theorem dX9_posts_61 : decode cX9_posts 61 = .ok (.istore 4, 2) := by decide +kernel
theorem dX9_posts_63 : decode cX9_posts 63 = .ok (.iinc 5 1, 3) := by decide +kernel
theorem dX9_posts_66 : decode cX9_posts 66 = .ok (.goto (-60), 3) := by decide +kernel
theorem dX9_posts_69 : decode cX9_posts 69 = .ok (.aload_n 1, 1) := by decide +kernel
theorem dX9_posts_70 : decode cX9_posts 70 = .ok (.iconst 0, 1) := by decide +kernel
theorem dX9_posts_71 : decode cX9_posts 71 = .ok (.iaload, 1) := by decide +kernel
theorem dX9_posts_72 : decode cX9_posts 72 = .ok (.aload_n 0, 1) := by decide +kernel
theorem dX9_posts_73 : decode cX9_posts 73 = .ok (.getfield 13, 3) := by decide +kernel
theorem dX9_posts_76 : decode cX9_posts 76 = .ok (.bipush 26, 2) := by decide +kernel
theorem dX9_posts_78 : decode cX9_posts 78 = .ok (.iload_n 2, 1) := by decide +kernel
theorem dX9_posts_79 : decode cX9_posts 79 = .ok (.iadd, 1) := by decide +kernel
theorem dX9_posts_80 : decode cX9_posts 80 = .ok (.iaload, 1) := by decide +kernel
theorem dX9_posts_81 : decode cX9_posts 81 = .ok (.iadd, 1) := by decide +kernel
theorem dX9_posts_82 : decode cX9_posts 82 = .ok (.iload 4, 2) := by decide +kernel
theorem dX9_posts_84 : decode cX9_posts 84 = .ok (.ifCond .eq 7, 3) := by decide +kernel
theorem dX9_posts_87 : decode cX9_posts 87 = .ok (.iconst 1, 1) := by decide +kernel
theorem dX9_posts_88 : decode cX9_posts 88 = .ok (.goto 4, 3) := by decide +kernel
theorem dX9_posts_91 : decode cX9_posts 91 = .ok (.iconst 0, 1) := by decide +kernel
theorem dX9_posts_92 : decode cX9_posts 92 = .ok (.iadd, 1) := by decide +kernel
theorem dX9_posts_93 : decode cX9_posts 93 = .ok (.istore 5, 2) := by decide +kernel
theorem dX9_posts_95 : decode cX9_posts 95 = .ok (.aload_n 1, 1) := by decide +kernel
theorem dX9_posts_96 : decode cX9_posts 96 = .ok (.iconst 2, 1) := by decide +kernel
theorem dX9_posts_97 : decode cX9_posts 97 = .ok (.bipush 8, 2) := by decide +kernel
theorem dX9_posts_99 : decode cX9_posts 99 = .ok (.iload_n 2, 1) := by decide +kernel
theorem dX9_posts_100 : decode cX9_posts 100 = .ok (.imul, 1) := by decide +kernel
theorem dX9_posts_101 : decode cX9_posts 101 = .ok (.iadd, 1) := by decide +kernel
theorem dX9_posts_102 : decode cX9_posts 102 = .ok (.iload_n 3, 1) := by decide +kernel
theorem dX9_posts_103 : decode cX9_posts 103 = .ok (.iadd, 1) := by decide +kernel
theorem dX9_posts_104 : decode cX9_posts 104 = .ok (.iload 5, 2) := by decide +kernel
theorem dX9_posts_106 : decode cX9_posts 106 = .ok (.iconst 1, 1) := by decide +kernel
theorem dX9_posts_107 : decode cX9_posts 107 = .ok (.iadd, 1) := by decide +kernel
theorem dX9_posts_108 : decode cX9_posts 108 = .ok (.iastore, 1) := by decide +kernel
theorem dX9_posts_109 : decode cX9_posts 109 = .ok (.iload 5, 2) := by decide +kernel
theorem dX9_posts_111 : decode cX9_posts 111 = .ok (.ireturn, 1) := by decide +kernel
theorem dX9_goes_0 : decode cX9_goes 0 = .ok (.aload_n 1, 1) := by decide +kernel
theorem dX9_goes_1 : decode cX9_goes 1 = .ok (.iconst 0, 1) := by decide +kernel
theorem dX9_goes_2 : decode cX9_goes 2 = .ok (.dup2, 1) := by decide +kernel
theorem dX9_goes_3 : decode cX9_goes 3 = .ok (.iaload, 1) := by decide +kernel
theorem dX9_goes_4 : decode cX9_goes 4 = .ok (.iconst 1, 1) := by decide +kernel
theorem dX9_goes_5 : decode cX9_goes 5 = .ok (.iadd, 1) := by decide +kernel
theorem dX9_goes_6 : decode cX9_goes 6 = .ok (.iastore, 1) := by decide +kernel
theorem dX9_goes_7 : decode cX9_goes 7 = .ok (.iconst 0, 1) := by decide +kernel
theorem dX9_goes_8 : decode cX9_goes 8 = .ok (.istore_n 2, 1) := by decide +kernel
theorem dX9_goes_9 : decode cX9_goes 9 = .ok (.iconst 2, 1) := by decide +kernel
theorem dX9_goes_10 : decode cX9_goes 10 = .ok (.istore_n 3, 1) := by decide +kernel
theorem dX9_goes_11 : decode cX9_goes 11 = .ok (.iload_n 3, 1) := by decide +kernel
theorem dX9_goes_12 : decode cX9_goes 12 = .ok (.bipush 66, 2) := by decide +kernel
theorem dX9_goes_14 : decode cX9_goes 14 = .ok (.if_icmp .ge 27, 3) := by decide +kernel
theorem dX9_goes_17 : decode cX9_goes 17 = .ok (.aload_n 1, 1) := by decide +kernel
theorem dX9_goes_18 : decode cX9_goes 18 = .ok (.iload_n 3, 1) := by decide +kernel
theorem dX9_goes_19 : decode cX9_goes 19 = .ok (.iaload, 1) := by decide +kernel
theorem dX9_goes_20 : decode cX9_goes 20 = .ok (.aload_n 1, 1) := by decide +kernel
theorem dX9_goes_21 : decode cX9_goes 21 = .ok (.iconst 0, 1) := by decide +kernel
theorem dX9_goes_22 : decode cX9_goes 22 = .ok (.iaload, 1) := by decide +kernel
theorem dX9_goes_23 : decode cX9_goes 23 = .ok (.iconst 1, 1) := by decide +kernel
theorem dX9_goes_24 : decode cX9_goes 24 = .ok (.iadd, 1) := by decide +kernel
theorem dX9_goes_25 : decode cX9_goes 25 = .ok (.if_icmp .ne 10, 3) := by decide +kernel
theorem dX9_goes_28 : decode cX9_goes 28 = .ok (.aload_n 1, 1) := by decide +kernel
theorem dX9_goes_29 : decode cX9_goes 29 = .ok (.iload_n 3, 1) := by decide +kernel
theorem dX9_goes_30 : decode cX9_goes 30 = .ok (.iconst (-1), 1) := by decide +kernel
theorem dX9_goes_31 : decode cX9_goes 31 = .ok (.iastore, 1) := by decide +kernel
theorem dX9_goes_32 : decode cX9_goes 32 = .ok (.iinc 2 1, 3) := by decide +kernel
theorem dX9_goes_35 : decode cX9_goes 35 = .ok (.iinc 3 1, 3) := by decide +kernel
theorem dX9_goes_38 : decode cX9_goes 38 = .ok (.goto (-27), 3) := by decide +kernel
theorem dX9_goes_41 : decode cX9_goes 41 = .ok (.iload_n 2, 1) := by decide +kernel
theorem dX9_goes_42 : decode cX9_goes 42 = .ok (.ireturn, 1) := by decide +kernel
theorem dX9_promises_0 : decode cX9_promises 0 = .ok (.aload_n 0, 1) := by decide +kernel
theorem dX9_promises_1 : decode cX9_promises 1 = .ok (.iconst 0, 1) := by decide +kernel
theorem dX9_promises_2 : decode cX9_promises 2 = .ok (.putfield 56, 3) := by decide +kernel
theorem dX9_promises_5 : decode cX9_promises 5 = .ok (.aload_n 0, 1) := by decide +kernel
theorem dX9_promises_6 : decode cX9_promises 6 = .ok (.iload_n 1, 1) := by decide +kernel
theorem dX9_promises_7 : decode cX9_promises 7 = .ok (.invokevirtual 136, 3) := by decide +kernel
theorem dX9_promises_10 : decode cX9_promises 10 = .ok (.ifCond .eq 11, 3) := by decide +kernel
theorem dX9_promises_13 : decode cX9_promises 13 = .ok (.aload_n 0, 1) := by decide +kernel
theorem dX9_promises_14 : decode cX9_promises 14 = .ok (.iload_n 2, 1) := by decide +kernel
theorem dX9_promises_15 : decode cX9_promises 15 = .ok (.invokevirtual 157, 3) := by decide +kernel
theorem dX9_promises_18 : decode cX9_promises 18 = .ok (.ifCond .ne 5, 3) := by decide +kernel
theorem dX9_promises_21 : decode cX9_promises 21 = .ok (.iconst (-1), 1) := by decide +kernel
theorem dX9_promises_22 : decode cX9_promises 22 = .ok (.ireturn, 1) := by decide +kernel
theorem dX9_promises_23 : decode cX9_promises 23 = .ok (.aload_n 0, 1) := by decide +kernel
theorem dX9_promises_24 : decode cX9_promises 24 = .ok (.getfield 22, 3) := by decide +kernel
theorem dX9_promises_27 : decode cX9_promises 27 = .ok (.iconst 2, 1) := by decide +kernel
theorem dX9_promises_28 : decode cX9_promises 28 = .ok (.bipush 8, 2) := by decide +kernel
theorem dX9_promises_30 : decode cX9_promises 30 = .ok (.iload_n 1, 1) := by decide +kernel
theorem dX9_promises_31 : decode cX9_promises 31 = .ok (.imul, 1) := by decide +kernel
theorem dX9_promises_32 : decode cX9_promises 32 = .ok (.iadd, 1) := by decide +kernel
theorem dX9_promises_33 : decode cX9_promises 33 = .ok (.iload_n 2, 1) := by decide +kernel
theorem dX9_promises_34 : decode cX9_promises 34 = .ok (.iadd, 1) := by decide +kernel
theorem dX9_promises_35 : decode cX9_promises 35 = .ok (.iaload, 1) := by decide +kernel
theorem dX9_promises_36 : decode cX9_promises 36 = .ok (.ifCond .eq 6, 3) := by decide +kernel
theorem dX9_promises_39 : decode cX9_promises 39 = .ok (.bipush (-2), 2) := by decide +kernel
theorem dX9_promises_41 : decode cX9_promises 41 = .ok (.ireturn, 1) := by decide +kernel
theorem dX9_promises_42 : decode cX9_promises 42 = .ok (.aload_n 0, 1) := by decide +kernel
theorem dX9_promises_43 : decode cX9_promises 43 = .ok (.invokevirtual 163, 3) := by decide +kernel
theorem dX9_promises_46 : decode cX9_promises 46 = .ok (.aload_n 0, 1) := by decide +kernel
theorem dX9_promises_47 : decode cX9_promises 47 = .ok (.aload_n 0, 1) := by decide +kernel
theorem dX9_promises_48 : decode cX9_promises 48 = .ok (.getfield 22, 3) := by decide +kernel
theorem dX9_promises_51 : decode cX9_promises 51 = .ok (.iload_n 1, 1) := by decide +kernel
theorem dX9_promises_52 : decode cX9_promises 52 = .ok (.iload_n 2, 1) := by decide +kernel
theorem dX9_promises_53 : decode cX9_promises 53 = .ok (.invokevirtual 166, 3) := by decide +kernel
theorem dX9_promises_56 : decode cX9_promises 56 = .ok (.ireturn, 1) := by decide +kernel
theorem dX9_breaks_0 : decode cX9_breaks 0 = .ok (.aload_n 0, 1) := by decide +kernel
theorem dX9_breaks_1 : decode cX9_breaks 1 = .ok (.iconst 0, 1) := by decide +kernel
theorem dX9_breaks_2 : decode cX9_breaks 2 = .ok (.putfield 56, 3) := by decide +kernel
theorem dX9_breaks_5 : decode cX9_breaks 5 = .ok (.aload_n 0, 1) := by decide +kernel
theorem dX9_breaks_6 : decode cX9_breaks 6 = .ok (.iload_n 1, 1) := by decide +kernel
theorem dX9_breaks_7 : decode cX9_breaks 7 = .ok (.invokevirtual 136, 3) := by decide +kernel
theorem dX9_breaks_10 : decode cX9_breaks 10 = .ok (.ifCond .eq 11, 3) := by decide +kernel
theorem dX9_breaks_13 : decode cX9_breaks 13 = .ok (.aload_n 0, 1) := by decide +kernel
theorem dX9_breaks_14 : decode cX9_breaks 14 = .ok (.iload_n 2, 1) := by decide +kernel
theorem dX9_breaks_15 : decode cX9_breaks 15 = .ok (.invokevirtual 157, 3) := by decide +kernel
theorem dX9_breaks_18 : decode cX9_breaks 18 = .ok (.ifCond .ne 5, 3) := by decide +kernel
theorem dX9_breaks_21 : decode cX9_breaks 21 = .ok (.iconst (-1), 1) := by decide +kernel
theorem dX9_breaks_22 : decode cX9_breaks 22 = .ok (.ireturn, 1) := by decide +kernel
theorem dX9_breaks_23 : decode cX9_breaks 23 = .ok (.aload_n 0, 1) := by decide +kernel
theorem dX9_breaks_24 : decode cX9_breaks 24 = .ok (.getfield 22, 3) := by decide +kernel
theorem dX9_breaks_27 : decode cX9_breaks 27 = .ok (.iconst 2, 1) := by decide +kernel
theorem dX9_breaks_28 : decode cX9_breaks 28 = .ok (.bipush 8, 2) := by decide +kernel
theorem dX9_breaks_30 : decode cX9_breaks 30 = .ok (.iload_n 1, 1) := by decide +kernel
theorem dX9_breaks_31 : decode cX9_breaks 31 = .ok (.imul, 1) := by decide +kernel
theorem dX9_breaks_32 : decode cX9_breaks 32 = .ok (.iadd, 1) := by decide +kernel
theorem dX9_breaks_33 : decode cX9_breaks 33 = .ok (.iload_n 2, 1) := by decide +kernel
theorem dX9_breaks_34 : decode cX9_breaks 34 = .ok (.iadd, 1) := by decide +kernel
theorem dX9_breaks_35 : decode cX9_breaks 35 = .ok (.iaload, 1) := by decide +kernel
theorem dX9_breaks_36 : decode cX9_breaks 36 = .ok (.ifCond .ne 6, 3) := by decide +kernel
theorem dX9_breaks_39 : decode cX9_breaks 39 = .ok (.bipush (-2), 2) := by decide +kernel
theorem dX9_breaks_41 : decode cX9_breaks 41 = .ok (.ireturn, 1) := by decide +kernel
theorem dX9_breaks_42 : decode cX9_breaks 42 = .ok (.aload_n 0, 1) := by decide +kernel
theorem dX9_breaks_43 : decode cX9_breaks 43 = .ok (.invokevirtual 163, 3) := by decide +kernel
theorem dX9_breaks_46 : decode cX9_breaks 46 = .ok (.aload_n 0, 1) := by decide +kernel
theorem dX9_breaks_47 : decode cX9_breaks 47 = .ok (.getfield 22, 3) := by decide +kernel
theorem dX9_breaks_50 : decode cX9_breaks 50 = .ok (.iconst 2, 1) := by decide +kernel
theorem dX9_breaks_51 : decode cX9_breaks 51 = .ok (.bipush 8, 2) := by decide +kernel
theorem dX9_breaks_53 : decode cX9_breaks 53 = .ok (.iload_n 1, 1) := by decide +kernel
theorem dX9_breaks_54 : decode cX9_breaks 54 = .ok (.imul, 1) := by decide +kernel
theorem dX9_breaks_55 : decode cX9_breaks 55 = .ok (.iadd, 1) := by decide +kernel
theorem dX9_breaks_56 : decode cX9_breaks 56 = .ok (.iload_n 2, 1) := by decide +kernel
theorem dX9_breaks_57 : decode cX9_breaks 57 = .ok (.iadd, 1) := by decide +kernel
theorem dX9_breaks_58 : decode cX9_breaks 58 = .ok (.iconst 0, 1) := by decide +kernel
theorem dX9_breaks_59 : decode cX9_breaks 59 = .ok (.iastore, 1) := by decide +kernel
theorem dX9_breaks_60 : decode cX9_breaks 60 = .ok (.aload_n 0, 1) := by decide +kernel
theorem dX9_breaks_61 : decode cX9_breaks 61 = .ok (.aload_n 0, 1) := by decide +kernel
theorem dX9_breaks_62 : decode cX9_breaks 62 = .ok (.getfield 22, 3) := by decide +kernel
theorem dX9_breaks_65 : decode cX9_breaks 65 = .ok (.invokevirtual 154, 3) := by decide +kernel
theorem dX9_breaks_68 : decode cX9_breaks 68 = .ok (.ireturn, 1) := by decide +kernel
theorem dX9_days_0 : decode cX9_days 0 = .ok (.aload_n 0, 1) := by decide +kernel
theorem dX9_days_1 : decode cX9_days 1 = .ok (.iconst 0, 1) := by decide +kernel
theorem dX9_days_2 : decode cX9_days 2 = .ok (.putfield 56, 3) := by decide +kernel
theorem dX9_days_5 : decode cX9_days 5 = .ok (.aload_n 0, 1) := by decide +kernel
theorem dX9_days_6 : decode cX9_days 6 = .ok (.getfield 22, 3) := by decide +kernel
theorem dX9_days_9 : decode cX9_days 9 = .ok (.iconst 0, 1) := by decide +kernel
theorem dX9_days_10 : decode cX9_days 10 = .ok (.iaload, 1) := by decide +kernel
theorem dX9_days_11 : decode cX9_days 11 = .ok (.sipush 999, 3) := by decide +kernel
theorem dX9_days_14 : decode cX9_days 14 = .ok (.if_icmp .ne 6, 3) := by decide +kernel
theorem dX9_days_17 : decode cX9_days 17 = .ok (.bipush (-2), 2) := by decide +kernel
theorem dX9_days_19 : decode cX9_days 19 = .ok (.ireturn, 1) := by decide +kernel
theorem dX9_days_20 : decode cX9_days 20 = .ok (.aload_n 0, 1) := by decide +kernel
theorem dX9_days_21 : decode cX9_days 21 = .ok (.invokevirtual 163, 3) := by decide +kernel
theorem dX9_days_24 : decode cX9_days 24 = .ok (.aload_n 0, 1) := by decide +kernel
theorem dX9_days_25 : decode cX9_days 25 = .ok (.aload_n 0, 1) := by decide +kernel
theorem dX9_days_26 : decode cX9_days 26 = .ok (.getfield 22, 3) := by decide +kernel
theorem dX9_days_29 : decode cX9_days 29 = .ok (.invokevirtual 170, 3) := by decide +kernel
theorem dX9_days_32 : decode cX9_days 32 = .ok (.ireturn, 1) := by decide +kernel
theorem dX9_isLoad_0 : decode cX9_isLoad 0 = .ok (.iload_n 0, 1) := by decide +kernel
theorem dX9_isLoad_1 : decode cX9_isLoad 1 = .ok (.iconst 1, 1) := by decide +kernel
theorem dX9_isLoad_2 : decode cX9_isLoad 2 = .ok (.bipush 36, 2) := by decide +kernel
theorem dX9_isLoad_4 : decode cX9_isLoad 4 = .ok (.invokestatic 60, 3) := by decide +kernel
theorem dX9_isLoad_7 : decode cX9_isLoad 7 = .ok (.ireturn, 1) := by decide +kernel
theorem dX9_crosses_0 : decode cX9_crosses 0 = .ok (.aload_n 0, 1) := by decide +kernel
theorem dX9_crosses_1 : decode cX9_crosses 1 = .ok (.iconst 0, 1) := by decide +kernel
theorem dX9_crosses_2 : decode cX9_crosses 2 = .ok (.putfield 56, 3) := by decide +kernel
theorem dX9_crosses_5 : decode cX9_crosses 5 = .ok (.iload_n 1, 1) := by decide +kernel
theorem dX9_crosses_6 : decode cX9_crosses 6 = .ok (.invokestatic 173, 3) := by decide +kernel
theorem dX9_crosses_9 : decode cX9_crosses 9 = .ok (.ifCond .ne 5, 3) := by decide +kernel
theorem dX9_crosses_12 : decode cX9_crosses 12 = .ok (.iconst (-1), 1) := by decide +kernel
theorem dX9_crosses_13 : decode cX9_crosses 13 = .ok (.ireturn, 1) := by decide +kernel
theorem dX9_crosses_14 : decode cX9_crosses 14 = .ok (.aload_n 0, 1) := by decide +kernel
theorem dX9_crosses_15 : decode cX9_crosses 15 = .ok (.aload_n 0, 1) := by decide +kernel
theorem dX9_crosses_16 : decode cX9_crosses 16 = .ok (.getfield 22, 3) := by decide +kernel
theorem dX9_crosses_19 : decode cX9_crosses 19 = .ok (.invokevirtual 154, 3) := by decide +kernel
theorem dX9_crosses_22 : decode cX9_crosses 22 = .ok (.iload_n 1, 1) := by decide +kernel
theorem dX9_crosses_23 : decode cX9_crosses 23 = .ok (.if_icmp .lt 15, 3) := by decide +kernel
theorem dX9_crosses_26 : decode cX9_crosses 26 = .ok (.aload_n 0, 1) := by decide +kernel
theorem dX9_crosses_27 : decode cX9_crosses 27 = .ok (.getfield 22, 3) := by decide +kernel
theorem dX9_crosses_30 : decode cX9_crosses 30 = .ok (.iconst 1, 1) := by decide +kernel
theorem dX9_crosses_31 : decode cX9_crosses 31 = .ok (.iaload, 1) := by decide +kernel
theorem dX9_crosses_32 : decode cX9_crosses 32 = .ok (.sipush 999, 3) := by decide +kernel
theorem dX9_crosses_35 : decode cX9_crosses 35 = .ok (.if_icmp .ne 6, 3) := by decide +kernel
theorem dX9_crosses_38 : decode cX9_crosses 38 = .ok (.bipush (-2), 2) := by decide +kernel
theorem dX9_crosses_40 : decode cX9_crosses 40 = .ok (.ireturn, 1) := by decide +kernel
theorem dX9_crosses_41 : decode cX9_crosses 41 = .ok (.aload_n 0, 1) := by decide +kernel
theorem dX9_crosses_42 : decode cX9_crosses 42 = .ok (.invokevirtual 163, 3) := by decide +kernel
theorem dX9_crosses_45 : decode cX9_crosses 45 = .ok (.aload_n 0, 1) := by decide +kernel
theorem dX9_crosses_46 : decode cX9_crosses 46 = .ok (.getfield 22, 3) := by decide +kernel
theorem dX9_crosses_49 : decode cX9_crosses 49 = .ok (.iconst 1, 1) := by decide +kernel
theorem dX9_crosses_50 : decode cX9_crosses 50 = .ok (.dup2, 1) := by decide +kernel
theorem dX9_crosses_51 : decode cX9_crosses 51 = .ok (.iaload, 1) := by decide +kernel
theorem dX9_crosses_52 : decode cX9_crosses 52 = .ok (.iconst 1, 1) := by decide +kernel
theorem dX9_crosses_53 : decode cX9_crosses 53 = .ok (.iadd, 1) := by decide +kernel
theorem dX9_crosses_54 : decode cX9_crosses 54 = .ok (.iastore, 1) := by decide +kernel
theorem dX9_crosses_55 : decode cX9_crosses 55 = .ok (.aload_n 0, 1) := by decide +kernel
theorem dX9_crosses_56 : decode cX9_crosses 56 = .ok (.getfield 22, 3) := by decide +kernel
theorem dX9_crosses_59 : decode cX9_crosses 59 = .ok (.iconst 1, 1) := by decide +kernel
theorem dX9_crosses_60 : decode cX9_crosses 60 = .ok (.iaload, 1) := by decide +kernel
theorem dX9_crosses_61 : decode cX9_crosses 61 = .ok (.ireturn, 1) := by decide +kernel
theorem dX9_undo_0 : decode cX9_undo 0 = .ok (.aload_n 0, 1) := by decide +kernel
theorem dX9_undo_1 : decode cX9_undo 1 = .ok (.iconst 0, 1) := by decide +kernel
theorem dX9_undo_2 : decode cX9_undo 2 = .ok (.putfield 56, 3) := by decide +kernel
theorem dX9_undo_5 : decode cX9_undo 5 = .ok (.aload_n 0, 1) := by decide +kernel
theorem dX9_undo_6 : decode cX9_undo 6 = .ok (.getfield 115, 3) := by decide +kernel
theorem dX9_undo_9 : decode cX9_undo 9 = .ok (.ifCond .ne 6, 3) := by decide +kernel
theorem dX9_undo_12 : decode cX9_undo 12 = .ok (.bipush (-2), 2) := by decide +kernel
theorem dX9_undo_14 : decode cX9_undo 14 = .ok (.ireturn, 1) := by decide +kernel
theorem dX9_undo_15 : decode cX9_undo 15 = .ok (.aload_n 0, 1) := by decide +kernel
theorem dX9_undo_16 : decode cX9_undo 16 = .ok (.dup, 1) := by decide +kernel
theorem dX9_undo_17 : decode cX9_undo 17 = .ok (.getfield 115, 3) := by decide +kernel
theorem dX9_undo_20 : decode cX9_undo 20 = .ok (.iconst 1, 1) := by decide +kernel
theorem dX9_undo_21 : decode cX9_undo 21 = .ok (.isub, 1) := by decide +kernel
theorem dX9_undo_22 : decode cX9_undo 22 = .ok (.putfield 115, 3) := by decide +kernel
theorem dX9_undo_25 : decode cX9_undo 25 = .ok (.iconst 0, 1) := by decide +kernel
theorem dX9_undo_26 : decode cX9_undo 26 = .ok (.istore_n 1, 1) := by decide +kernel
theorem dX9_undo_27 : decode cX9_undo 27 = .ok (.iload_n 1, 1) := by decide +kernel
theorem dX9_undo_28 : decode cX9_undo 28 = .ok (.bipush 66, 2) := by decide +kernel
theorem dX9_undo_30 : decode cX9_undo 30 = .ok (.if_icmp .ge 29, 3) := by decide +kernel
theorem dX9_undo_33 : decode cX9_undo 33 = .ok (.aload_n 0, 1) := by decide +kernel
theorem dX9_undo_34 : decode cX9_undo 34 = .ok (.getfield 22, 3) := by decide +kernel
theorem dX9_undo_37 : decode cX9_undo 37 = .ok (.iload_n 1, 1) := by decide +kernel
theorem dX9_undo_38 : decode cX9_undo 38 = .ok (.aload_n 0, 1) := by decide +kernel
theorem dX9_undo_39 : decode cX9_undo 39 = .ok (.getfield 38, 3) := by decide +kernel
theorem dX9_undo_42 : decode cX9_undo 42 = .ok (.bipush 66, 2) := by decide +kernel
theorem dX9_undo_44 : decode cX9_undo 44 = .ok (.aload_n 0, 1) := by decide +kernel
theorem dX9_undo_45 : decode cX9_undo 45 = .ok (.getfield 115, 3) := by decide +kernel
theorem dX9_undo_48 : decode cX9_undo 48 = .ok (.imul, 1) := by decide +kernel
theorem dX9_undo_49 : decode cX9_undo 49 = .ok (.iload_n 1, 1) := by decide +kernel
theorem dX9_undo_50 : decode cX9_undo 50 = .ok (.iadd, 1) := by decide +kernel
theorem dX9_undo_51 : decode cX9_undo 51 = .ok (.iaload, 1) := by decide +kernel
theorem dX9_undo_52 : decode cX9_undo 52 = .ok (.iastore, 1) := by decide +kernel
theorem dX9_undo_53 : decode cX9_undo 53 = .ok (.iinc 1 1, 3) := by decide +kernel
theorem dX9_undo_56 : decode cX9_undo 56 = .ok (.goto (-29), 3) := by decide +kernel
theorem dX9_undo_59 : decode cX9_undo 59 = .ok (.aload_n 0, 1) := by decide +kernel
theorem dX9_undo_60 : decode cX9_undo 60 = .ok (.getfield 115, 3) := by decide +kernel
theorem dX9_undo_63 : decode cX9_undo 63 = .ok (.ireturn, 1) := by decide +kernel
theorem dX9_when_0 : decode cX9_when 0 = .ok (.aload_n 0, 1) := by decide +kernel
theorem dX9_when_1 : decode cX9_when 1 = .ok (.iconst 0, 1) := by decide +kernel
theorem dX9_when_2 : decode cX9_when 2 = .ok (.putfield 56, 3) := by decide +kernel
theorem dX9_when_5 : decode cX9_when 5 = .ok (.iload_n 1, 1) := by decide +kernel
theorem dX9_when_6 : decode cX9_when 6 = .ok (.invokestatic 173, 3) := by decide +kernel
theorem dX9_when_9 : decode cX9_when 9 = .ok (.ifCond .ne 5, 3) := by decide +kernel
theorem dX9_when_12 : decode cX9_when 12 = .ok (.iconst (-1), 1) := by decide +kernel
theorem dX9_when_13 : decode cX9_when 13 = .ok (.ireturn, 1) := by decide +kernel
theorem dX9_when_14 : decode cX9_when 14 = .ok (.aload_n 0, 1) := by decide +kernel
theorem dX9_when_15 : decode cX9_when 15 = .ok (.invokevirtual 143, 3) := by decide +kernel
theorem dX9_when_18 : decode cX9_when 18 = .ok (.iconst 0, 1) := by decide +kernel
theorem dX9_when_19 : decode cX9_when 19 = .ok (.istore_n 2, 1) := by decide +kernel
theorem dX9_when_20 : decode cX9_when 20 = .ok (.iload_n 2, 1) := by decide +kernel
theorem dX9_when_21 : decode cX9_when 21 = .ok (.bipush 20, 2) := by decide +kernel
theorem dX9_when_23 : decode cX9_when 23 = .ok (.if_icmp .gt 32, 3) := by decide +kernel
theorem dX9_when_26 : decode cX9_when 26 = .ok (.aload_n 0, 1) := by decide +kernel
theorem dX9_when_27 : decode cX9_when 27 = .ok (.aload_n 0, 1) := by decide +kernel
theorem dX9_when_28 : decode cX9_when 28 = .ok (.getfield 25, 3) := by decide +kernel
theorem dX9_when_31 : decode cX9_when 31 = .ok (.invokevirtual 154, 3) := by decide +kernel
theorem dX9_when_34 : decode cX9_when 34 = .ok (.iload_n 1, 1) := by decide +kernel
theorem dX9_when_35 : decode cX9_when 35 = .ok (.if_icmp .lt 5, 3) := by decide +kernel
theorem dX9_when_38 : decode cX9_when 38 = .ok (.iload_n 2, 1) := by decide +kernel
theorem dX9_when_39 : decode cX9_when 39 = .ok (.ireturn, 1) := by decide +kernel
theorem dX9_when_40 : decode cX9_when 40 = .ok (.aload_n 0, 1) := by decide +kernel
theorem dX9_when_41 : decode cX9_when 41 = .ok (.aload_n 0, 1) := by decide +kernel
theorem dX9_when_42 : decode cX9_when 42 = .ok (.getfield 25, 3) := by decide +kernel
theorem dX9_when_45 : decode cX9_when 45 = .ok (.invokevirtual 170, 3) := by decide +kernel
theorem dX9_when_48 : decode cX9_when 48 = .ok (.pop, 1) := by decide +kernel
theorem dX9_when_49 : decode cX9_when 49 = .ok (.iinc 2 1, 3) := by decide +kernel
theorem dX9_when_52 : decode cX9_when 52 = .ok (.goto (-32), 3) := by decide +kernel
theorem dX9_when_55 : decode cX9_when 55 = .ok (.bipush (-9), 2) := by decide +kernel
theorem dX9_when_57 : decode cX9_when 57 = .ok (.ireturn, 1) := by decide +kernel
theorem dX9_gaveFor_0 : decode cX9_gaveFor 0 = .ok (.iconst 0, 1) := by decide +kernel
theorem dX9_gaveFor_1 : decode cX9_gaveFor 1 = .ok (.istore_n 2, 1) := by decide +kernel
theorem dX9_gaveFor_2 : decode cX9_gaveFor 2 = .ok (.iconst 0, 1) := by decide +kernel
theorem dX9_gaveFor_3 : decode cX9_gaveFor 3 = .ok (.istore_n 3, 1) := by decide +kernel
theorem dX9_gaveFor_4 : decode cX9_gaveFor 4 = .ok (.iload_n 3, 1) := by decide +kernel
theorem dX9_gaveFor_5 : decode cX9_gaveFor 5 = .ok (.aload_n 0, 1) := by decide +kernel
theorem dX9_gaveFor_6 : decode cX9_gaveFor 6 = .ok (.getfield 13, 3) := by decide +kernel
theorem dX9_gaveFor_9 : decode cX9_gaveFor 9 = .ok (.iconst 1, 1) := by decide +kernel
theorem dX9_gaveFor_10 : decode cX9_gaveFor 10 = .ok (.iaload, 1) := by decide +kernel
theorem dX9_gaveFor_11 : decode cX9_gaveFor 11 = .ok (.if_icmp .ge 35, 3) := by decide +kernel
theorem dX9_gaveFor_14 : decode cX9_gaveFor 14 = .ok (.iload_n 2, 1) := by decide +kernel
theorem dX9_gaveFor_15 : decode cX9_gaveFor 15 = .ok (.aload_n 0, 1) := by decide +kernel
theorem dX9_gaveFor_16 : decode cX9_gaveFor 16 = .ok (.getfield 22, 3) := by decide +kernel
theorem dX9_gaveFor_19 : decode cX9_gaveFor 19 = .ok (.iconst 2, 1) := by decide +kernel
theorem dX9_gaveFor_20 : decode cX9_gaveFor 20 = .ok (.bipush 8, 2) := by decide +kernel
theorem dX9_gaveFor_22 : decode cX9_gaveFor 22 = .ok (.iload_n 3, 1) := by decide +kernel
theorem dX9_gaveFor_23 : decode cX9_gaveFor 23 = .ok (.imul, 1) := by decide +kernel
theorem dX9_gaveFor_24 : decode cX9_gaveFor 24 = .ok (.iadd, 1) := by decide +kernel
theorem dX9_gaveFor_25 : decode cX9_gaveFor 25 = .ok (.iload_n 1, 1) := by decide +kernel
theorem dX9_gaveFor_26 : decode cX9_gaveFor 26 = .ok (.iadd, 1) := by decide +kernel
theorem dX9_gaveFor_27 : decode cX9_gaveFor 27 = .ok (.iaload, 1) := by decide +kernel
theorem dX9_gaveFor_28 : decode cX9_gaveFor 28 = .ok (.ifCond .eq 9, 3) := by decide +kernel
theorem dX9_gaveFor_31 : decode cX9_gaveFor 31 = .ok (.iconst 1, 1) := by decide +kernel
theorem dX9_gaveFor_32 : decode cX9_gaveFor 32 = .ok (.iload_n 3, 1) := by decide +kernel
theorem dX9_gaveFor_33 : decode cX9_gaveFor 33 = .ok (.ishl, 1) := by decide +kernel
theorem dX9_gaveFor_34 : decode cX9_gaveFor 34 = .ok (.goto 4, 3) := by decide +kernel
theorem dX9_gaveFor_37 : decode cX9_gaveFor 37 = .ok (.iconst 0, 1) := by decide +kernel
theorem dX9_gaveFor_38 : decode cX9_gaveFor 38 = .ok (.ior, 1) := by decide +kernel
theorem dX9_gaveFor_39 : decode cX9_gaveFor 39 = .ok (.istore_n 2, 1) := by decide +kernel
theorem dX9_gaveFor_40 : decode cX9_gaveFor 40 = .ok (.iinc 3 1, 3) := by decide +kernel
theorem dX9_gaveFor_43 : decode cX9_gaveFor 43 = .ok (.goto (-39), 3) := by decide +kernel
theorem dX9_gaveFor_46 : decode cX9_gaveFor 46 = .ok (.iload_n 2, 1) := by decide +kernel
theorem dX9_gaveFor_47 : decode cX9_gaveFor 47 = .ok (.ireturn, 1) := by decide +kernel
theorem dX9_moreFor_0 : decode cX9_moreFor 0 = .ok (.aload_n 0, 1) := by decide +kernel
theorem dX9_moreFor_1 : decode cX9_moreFor 1 = .ok (.iload_n 1, 1) := by decide +kernel
theorem dX9_moreFor_2 : decode cX9_moreFor 2 = .ok (.invokevirtual 176, 3) := by decide +kernel
theorem dX9_moreFor_5 : decode cX9_moreFor 5 = .ok (.istore_n 3, 1) := by decide +kernel
theorem dX9_moreFor_6 : decode cX9_moreFor 6 = .ok (.bipush (-9), 2) := by decide +kernel
theorem dX9_moreFor_8 : decode cX9_moreFor 8 = .ok (.istore 4, 2) := by decide +kernel
theorem dX9_moreFor_10 : decode cX9_moreFor 10 = .ok (.iconst 0, 1) := by decide +kernel
theorem dX9_moreFor_11 : decode cX9_moreFor 11 = .ok (.istore 5, 2) := by decide +kernel
theorem dX9_moreFor_13 : decode cX9_moreFor 13 = .ok (.iload 5, 2) := by decide +kernel
theorem dX9_moreFor_15 : decode cX9_moreFor 15 = .ok (.iconst 1, 1) := by decide +kernel
theorem dX9_moreFor_16 : decode cX9_moreFor 16 = .ok (.aload_n 0, 1) := by decide +kernel
theorem dX9_moreFor_17 : decode cX9_moreFor 17 = .ok (.getfield 13, 3) := by decide +kernel
theorem dX9_moreFor_20 : decode cX9_moreFor 20 = .ok (.iconst 1, 1) := by decide +kernel
theorem dX9_moreFor_21 : decode cX9_moreFor 21 = .ok (.iaload, 1) := by decide +kernel
theorem dX9_moreFor_22 : decode cX9_moreFor 22 = .ok (.ishl, 1) := by decide +kernel
theorem dX9_moreFor_23 : decode cX9_moreFor 23 = .ok (.if_icmp .ge 60, 3) := by decide +kernel
theorem dX9_moreFor_26 : decode cX9_moreFor 26 = .ok (.iload 5, 2) := by decide +kernel
theorem dX9_moreFor_28 : decode cX9_moreFor 28 = .ok (.invokestatic 179, 3) := by decide +kernel
theorem dX9_moreFor_31 : decode cX9_moreFor 31 = .ok (.istore 6, 2) := by decide +kernel
theorem dX9_moreFor_33 : decode cX9_moreFor 33 = .ok (.iload 5, 2) := by decide +kernel
theorem dX9_moreFor_35 : decode cX9_moreFor 35 = .ok (.iload_n 3, 1) := by decide +kernel
theorem dX9_moreFor_36 : decode cX9_moreFor 36 = .ok (.iand, 1) := by decide +kernel
theorem dX9_moreFor_37 : decode cX9_moreFor 37 = .ok (.ifCond .ne 40, 3) := by decide +kernel
theorem dX9_moreFor_40 : decode cX9_moreFor 40 = .ok (.iload 6, 2) := by decide +kernel
theorem dX9_moreFor_42 : decode cX9_moreFor 42 = .ok (.iconst 3, 1) := by decide +kernel
theorem dX9_moreFor_43 : decode cX9_moreFor 43 = .ok (.if_icmp .ge 34, 3) := by decide +kernel
theorem dX9_moreFor_46 : decode cX9_moreFor 46 = .ok (.iload 4, 2) := by decide +kernel
theorem dX9_moreFor_48 : decode cX9_moreFor 48 = .ok (.bipush (-9), 2) := by decide +kernel
theorem dX9_moreFor_50 : decode cX9_moreFor 50 = .ok (.if_icmp .eq 10, 3) := by decide +kernel
theorem dX9_moreFor_53 : decode cX9_moreFor 53 = .ok (.iload 6, 2) := by decide +kernel
theorem dX9_moreFor_55 : decode cX9_moreFor 55 = .ok (.iload 4, 2) := by decide +kernel
theorem dX9_moreFor_57 : decode cX9_moreFor 57 = .ok (.if_icmp .ge 20, 3) := by decide +kernel
theorem dX9_moreFor_60 : decode cX9_moreFor 60 = .ok (.aload_n 0, 1) := by decide +kernel
theorem dX9_moreFor_61 : decode cX9_moreFor 61 = .ok (.iload_n 1, 1) := by decide +kernel
theorem dX9_moreFor_62 : decode cX9_moreFor 62 = .ok (.iload_n 3, 1) := by decide +kernel
theorem dX9_moreFor_63 : decode cX9_moreFor 63 = .ok (.iload 5, 2) := by decide +kernel
theorem dX9_moreFor_65 : decode cX9_moreFor 65 = .ok (.ior, 1) := by decide +kernel
theorem dX9_moreFor_66 : decode cX9_moreFor 66 = .ok (.invokevirtual 133, 3) := by decide +kernel
theorem dX9_moreFor_69 : decode cX9_moreFor 69 = .ok (.iload_n 2, 1) := by decide +kernel
theorem dX9_moreFor_70 : decode cX9_moreFor 70 = .ok (.if_icmp .lt 7, 3) := by decide +kernel
theorem dX9_moreFor_73 : decode cX9_moreFor 73 = .ok (.iload 6, 2) := by decide +kernel
theorem dX9_moreFor_75 : decode cX9_moreFor 75 = .ok (.istore 4, 2) := by decide +kernel
theorem dX9_moreFor_77 : decode cX9_moreFor 77 = .ok (.iinc 5 1, 3) := by decide +kernel
theorem dX9_moreFor_80 : decode cX9_moreFor 80 = .ok (.goto (-67), 3) := by decide +kernel
theorem dX9_moreFor_83 : decode cX9_moreFor 83 = .ok (.iload 4, 2) := by decide +kernel
theorem dX9_moreFor_85 : decode cX9_moreFor 85 = .ok (.ireturn, 1) := by decide +kernel
theorem dX9_fewest_0 : decode cX9_fewest 0 = .ok (.aload_n 0, 1) := by decide +kernel
theorem dX9_fewest_1 : decode cX9_fewest 1 = .ok (.iconst 0, 1) := by decide +kernel
theorem dX9_fewest_2 : decode cX9_fewest 2 = .ok (.putfield 56, 3) := by decide +kernel
theorem dX9_fewest_5 : decode cX9_fewest 5 = .ok (.iload_n 1, 1) := by decide +kernel
theorem dX9_fewest_6 : decode cX9_fewest 6 = .ok (.invokestatic 173, 3) := by decide +kernel
theorem dX9_fewest_9 : decode cX9_fewest 9 = .ok (.ifCond .eq 16, 3) := by decide +kernel
theorem dX9_fewest_12 : decode cX9_fewest 12 = .ok (.iload_n 2, 1) := by decide +kernel
theorem dX9_fewest_13 : decode cX9_fewest 13 = .ok (.iconst (-1), 1) := by decide +kernel
theorem dX9_fewest_14 : decode cX9_fewest 14 = .ok (.if_icmp .eq 13, 3) := by decide +kernel
theorem dX9_fewest_17 : decode cX9_fewest 17 = .ok (.aload_n 0, 1) := by decide +kernel
theorem dX9_fewest_18 : decode cX9_fewest 18 = .ok (.iload_n 2, 1) := by decide +kernel
theorem dX9_fewest_19 : decode cX9_fewest 19 = .ok (.invokevirtual 157, 3) := by decide +kernel
theorem dX9_fewest_22 : decode cX9_fewest 22 = .ok (.ifCond .ne 5, 3) := by decide +kernel
theorem dX9_fewest_25 : decode cX9_fewest 25 = .ok (.iconst (-1), 1) := by decide +kernel
theorem dX9_fewest_26 : decode cX9_fewest 26 = .ok (.ireturn, 1) := by decide +kernel
theorem dX9_fewest_27 : decode cX9_fewest 27 = .ok (.iload_n 2, 1) := by decide +kernel
theorem dX9_fewest_28 : decode cX9_fewest 28 = .ok (.ifCond .lt 10, 3) := by decide +kernel
theorem dX9_fewest_31 : decode cX9_fewest 31 = .ok (.aload_n 0, 1) := by decide +kernel
theorem dX9_fewest_32 : decode cX9_fewest 32 = .ok (.iload_n 2, 1) := by decide +kernel
theorem dX9_fewest_33 : decode cX9_fewest 33 = .ok (.iload_n 1, 1) := by decide +kernel
theorem dX9_fewest_34 : decode cX9_fewest 34 = .ok (.invokevirtual 182, 3) := by decide +kernel
theorem dX9_fewest_37 : decode cX9_fewest 37 = .ok (.ireturn, 1) := by decide +kernel
theorem dX9_fewest_38 : decode cX9_fewest 38 = .ok (.iconst 0, 1) := by decide +kernel
theorem dX9_fewest_39 : decode cX9_fewest 39 = .ok (.istore_n 3, 1) := by decide +kernel
theorem dX9_fewest_40 : decode cX9_fewest 40 = .ok (.iconst 0, 1) := by decide +kernel
theorem dX9_fewest_41 : decode cX9_fewest 41 = .ok (.istore 4, 2) := by decide +kernel
theorem dX9_fewest_43 : decode cX9_fewest 43 = .ok (.iload 4, 2) := by decide +kernel
theorem dX9_fewest_45 : decode cX9_fewest 45 = .ok (.aload_n 0, 1) := by decide +kernel
theorem dX9_fewest_46 : decode cX9_fewest 46 = .ok (.getfield 13, 3) := by decide +kernel
theorem dX9_fewest_49 : decode cX9_fewest 49 = .ok (.iconst 0, 1) := by decide +kernel
theorem dX9_fewest_50 : decode cX9_fewest 50 = .ok (.iaload, 1) := by decide +kernel
theorem dX9_fewest_51 : decode cX9_fewest 51 = .ok (.if_icmp .ge 33, 3) := by decide +kernel
theorem dX9_fewest_54 : decode cX9_fewest 54 = .ok (.aload_n 0, 1) := by decide +kernel
theorem dX9_fewest_55 : decode cX9_fewest 55 = .ok (.iload 4, 2) := by decide +kernel
theorem dX9_fewest_57 : decode cX9_fewest 57 = .ok (.iload_n 1, 1) := by decide +kernel
theorem dX9_fewest_58 : decode cX9_fewest 58 = .ok (.invokevirtual 182, 3) := by decide +kernel
theorem dX9_fewest_61 : decode cX9_fewest 61 = .ok (.istore 5, 2) := by decide +kernel
theorem dX9_fewest_63 : decode cX9_fewest 63 = .ok (.iload 5, 2) := by decide +kernel
theorem dX9_fewest_65 : decode cX9_fewest 65 = .ok (.bipush (-9), 2) := by decide +kernel
theorem dX9_fewest_67 : decode cX9_fewest 67 = .ok (.if_icmp .ne 6, 3) := by decide +kernel
theorem dX9_fewest_70 : decode cX9_fewest 70 = .ok (.bipush (-9), 2) := by decide +kernel
theorem dX9_fewest_72 : decode cX9_fewest 72 = .ok (.ireturn, 1) := by decide +kernel
theorem dX9_fewest_73 : decode cX9_fewest 73 = .ok (.iload_n 3, 1) := by decide +kernel
theorem dX9_fewest_74 : decode cX9_fewest 74 = .ok (.iload 5, 2) := by decide +kernel
theorem dX9_fewest_76 : decode cX9_fewest 76 = .ok (.iadd, 1) := by decide +kernel
theorem dX9_fewest_77 : decode cX9_fewest 77 = .ok (.istore_n 3, 1) := by decide +kernel
theorem dX9_fewest_78 : decode cX9_fewest 78 = .ok (.iinc 4 1, 3) := by decide +kernel
theorem dX9_fewest_81 : decode cX9_fewest 81 = .ok (.goto (-38), 3) := by decide +kernel
theorem dX9_fewest_84 : decode cX9_fewest 84 = .ok (.iload_n 3, 1) := by decide +kernel
theorem dX9_fewest_85 : decode cX9_fewest 85 = .ok (.ireturn, 1) := by decide +kernel
theorem dX9_canSoon_0 : decode cX9_canSoon 0 = .ok (.aload_n 0, 1) := by decide +kernel
theorem dX9_canSoon_1 : decode cX9_canSoon 1 = .ok (.iload_n 1, 1) := by decide +kernel
theorem dX9_canSoon_2 : decode cX9_canSoon 2 = .ok (.invokevirtual 176, 3) := by decide +kernel
theorem dX9_canSoon_5 : decode cX9_canSoon 5 = .ok (.istore 4, 2) := by decide +kernel
theorem dX9_canSoon_7 : decode cX9_canSoon 7 = .ok (.iconst 0, 1) := by decide +kernel
theorem dX9_canSoon_8 : decode cX9_canSoon 8 = .ok (.istore 5, 2) := by decide +kernel
theorem dX9_canSoon_10 : decode cX9_canSoon 10 = .ok (.iconst 0, 1) := by decide +kernel
theorem dX9_canSoon_11 : decode cX9_canSoon 11 = .ok (.istore 6, 2) := by decide +kernel
theorem dX9_canSoon_13 : decode cX9_canSoon 13 = .ok (.iconst 0, 1) := by decide +kernel
theorem dX9_canSoon_14 : decode cX9_canSoon 14 = .ok (.istore 7, 2) := by decide +kernel
theorem dX9_canSoon_16 : decode cX9_canSoon 16 = .ok (.iload 7, 2) := by decide +kernel
theorem dX9_canSoon_18 : decode cX9_canSoon 18 = .ok (.aload_n 0, 1) := by decide +kernel
theorem dX9_canSoon_19 : decode cX9_canSoon 19 = .ok (.getfield 13, 3) := by decide +kernel
theorem dX9_canSoon_22 : decode cX9_canSoon 22 = .ok (.iconst 1, 1) := by decide +kernel
theorem dX9_canSoon_23 : decode cX9_canSoon 23 = .ok (.iaload, 1) := by decide +kernel
theorem dX9_canSoon_24 : decode cX9_canSoon 24 = .ok (.if_icmp .ge 91, 3) := by decide +kernel
theorem dX9_canSoon_27 : decode cX9_canSoon 27 = .ok (.aload_n 0, 1) := by decide +kernel
theorem dX9_canSoon_28 : decode cX9_canSoon 28 = .ok (.getfield 22, 3) := by decide +kernel
theorem dX9_canSoon_31 : decode cX9_canSoon 31 = .ok (.iconst 2, 1) := by decide +kernel
theorem dX9_canSoon_32 : decode cX9_canSoon 32 = .ok (.bipush 8, 2) := by decide +kernel
theorem dX9_canSoon_34 : decode cX9_canSoon 34 = .ok (.iload 7, 2) := by decide +kernel
theorem dX9_canSoon_36 : decode cX9_canSoon 36 = .ok (.imul, 1) := by decide +kernel
theorem dX9_canSoon_37 : decode cX9_canSoon 37 = .ok (.iadd, 1) := by decide +kernel
theorem dX9_canSoon_38 : decode cX9_canSoon 38 = .ok (.iload_n 1, 1) := by decide +kernel
theorem dX9_canSoon_39 : decode cX9_canSoon 39 = .ok (.iadd, 1) := by decide +kernel
theorem dX9_canSoon_40 : decode cX9_canSoon 40 = .ok (.iaload, 1) := by decide +kernel
theorem dX9_canSoon_41 : decode cX9_canSoon 41 = .ok (.istore 8, 2) := by decide +kernel
theorem dX9_canSoon_43 : decode cX9_canSoon 43 = .ok (.iload 5, 2) := by decide +kernel
theorem dX9_canSoon_45 : decode cX9_canSoon 45 = .ok (.iload 8, 2) := by decide +kernel
theorem dX9_canSoon_47 : decode cX9_canSoon 47 = .ok (.iconst (-1), 1) := by decide +kernel
theorem dX9_canSoon_48 : decode cX9_canSoon 48 = .ok (.if_icmp .eq 23, 3) := by decide +kernel
theorem dX9_canSoon_51 : decode cX9_canSoon 51 = .ok (.iload 8, 2) := by decide +kernel
theorem dX9_canSoon_53 : decode cX9_canSoon 53 = .ok (.ifCond .le 25, 3) := by decide +kernel
theorem dX9_canSoon_56 : decode cX9_canSoon 56 = .ok (.iload 8, 2) := by decide +kernel
theorem dX9_canSoon_58 : decode cX9_canSoon 58 = .ok (.iconst 1, 1) := by decide +kernel
theorem dX9_canSoon_59 : decode cX9_canSoon 59 = .ok (.isub, 1) := by decide +kernel
theorem dX9_canSoon_60 : decode cX9_canSoon 60 = .ok (.aload_n 0, 1) := by decide +kernel
theorem dX9_canSoon_61 : decode cX9_canSoon 61 = .ok (.getfield 22, 3) := by decide +kernel
theorem dX9_canSoon_64 : decode cX9_canSoon 64 = .ok (.iconst 0, 1) := by decide +kernel
theorem dX9_canSoon_65 : decode cX9_canSoon 65 = .ok (.iaload, 1) := by decide +kernel
theorem dX9_canSoon_66 : decode cX9_canSoon 66 = .ok (.iload_n 3, 1) := by decide +kernel
theorem dX9_canSoon_67 : decode cX9_canSoon 67 = .ok (.iadd, 1) := by decide +kernel
theorem dX9_canSoon_68 : decode cX9_canSoon 68 = .ok (.if_icmp .gt 10, 3) := by decide +kernel
theorem dX9_canSoon_71 : decode cX9_canSoon 71 = .ok (.iconst 1, 1) := by decide +kernel
theorem dX9_canSoon_72 : decode cX9_canSoon 72 = .ok (.iload 7, 2) := by decide +kernel
theorem dX9_canSoon_74 : decode cX9_canSoon 74 = .ok (.ishl, 1) := by decide +kernel
theorem dX9_canSoon_75 : decode cX9_canSoon 75 = .ok (.goto 4, 3) := by decide +kernel
theorem dX9_canSoon_78 : decode cX9_canSoon 78 = .ok (.iconst 0, 1) := by decide +kernel
theorem dX9_canSoon_79 : decode cX9_canSoon 79 = .ok (.ior, 1) := by decide +kernel
theorem dX9_canSoon_80 : decode cX9_canSoon 80 = .ok (.istore 5, 2) := by decide +kernel
theorem dX9_canSoon_82 : decode cX9_canSoon 82 = .ok (.iload 6, 2) := by decide +kernel
theorem dX9_canSoon_84 : decode cX9_canSoon 84 = .ok (.aload_n 0, 1) := by decide +kernel
theorem dX9_canSoon_85 : decode cX9_canSoon 85 = .ok (.getfield 13, 3) := by decide +kernel
theorem dX9_canSoon_88 : decode cX9_canSoon 88 = .ok (.bipush 26, 2) := by decide +kernel
theorem dX9_canSoon_90 : decode cX9_canSoon 90 = .ok (.iload 7, 2) := by decide +kernel
theorem dX9_canSoon_92 : decode cX9_canSoon 92 = .ok (.iadd, 1) := by decide +kernel
theorem dX9_canSoon_93 : decode cX9_canSoon 93 = .ok (.iaload, 1) := by decide +kernel
theorem dX9_canSoon_94 : decode cX9_canSoon 94 = .ok (.iload_n 3, 1) := by decide +kernel
theorem dX9_canSoon_95 : decode cX9_canSoon 95 = .ok (.if_icmp .gt 10, 3) := by decide +kernel
theorem dX9_canSoon_98 : decode cX9_canSoon 98 = .ok (.iconst 1, 1) := by decide +kernel
theorem dX9_canSoon_99 : decode cX9_canSoon 99 = .ok (.iload 7, 2) := by decide +kernel
theorem dX9_canSoon_101 : decode cX9_canSoon 101 = .ok (.ishl, 1) := by decide +kernel
theorem dX9_canSoon_102 : decode cX9_canSoon 102 = .ok (.goto 4, 3) := by decide +kernel
theorem dX9_canSoon_105 : decode cX9_canSoon 105 = .ok (.iconst 0, 1) := by decide +kernel
theorem dX9_canSoon_106 : decode cX9_canSoon 106 = .ok (.ior, 1) := by decide +kernel
theorem dX9_canSoon_107 : decode cX9_canSoon 107 = .ok (.istore 6, 2) := by decide +kernel
theorem dX9_canSoon_109 : decode cX9_canSoon 109 = .ok (.iinc 7 1, 3) := by decide +kernel
theorem dX9_canSoon_112 : decode cX9_canSoon 112 = .ok (.goto (-96), 3) := by decide +kernel
theorem dX9_canSoon_115 : decode cX9_canSoon 115 = .ok (.iconst 0, 1) := by decide +kernel
theorem dX9_canSoon_116 : decode cX9_canSoon 116 = .ok (.istore 7, 2) := by decide +kernel
theorem dX9_canSoon_118 : decode cX9_canSoon 118 = .ok (.iload 7, 2) := by decide +kernel
theorem dX9_canSoon_120 : decode cX9_canSoon 120 = .ok (.iconst 1, 1) := by decide +kernel
theorem dX9_canSoon_121 : decode cX9_canSoon 121 = .ok (.aload_n 0, 1) := by decide +kernel
theorem dX9_canSoon_122 : decode cX9_canSoon 122 = .ok (.getfield 13, 3) := by decide +kernel
theorem dX9_canSoon_125 : decode cX9_canSoon 125 = .ok (.iconst 1, 1) := by decide +kernel
theorem dX9_canSoon_126 : decode cX9_canSoon 126 = .ok (.iaload, 1) := by decide +kernel
theorem dX9_canSoon_127 : decode cX9_canSoon 127 = .ok (.ishl, 1) := by decide +kernel
theorem dX9_canSoon_128 : decode cX9_canSoon 128 = .ok (.if_icmp .ge 45, 3) := by decide +kernel
theorem dX9_canSoon_131 : decode cX9_canSoon 131 = .ok (.iload 7, 2) := by decide +kernel
theorem dX9_canSoon_133 : decode cX9_canSoon 133 = .ok (.iload 4, 2) := by decide +kernel
theorem dX9_canSoon_135 : decode cX9_canSoon 135 = .ok (.iand, 1) := by decide +kernel
theorem dX9_canSoon_136 : decode cX9_canSoon 136 = .ok (.ifCond .ne 31, 3) := by decide +kernel
theorem dX9_canSoon_139 : decode cX9_canSoon 139 = .ok (.iload 7, 2) := by decide +kernel
theorem dX9_canSoon_141 : decode cX9_canSoon 141 = .ok (.invokestatic 179, 3) := by decide +kernel
theorem dX9_canSoon_144 : decode cX9_canSoon 144 = .ok (.iconst 3, 1) := by decide +kernel
theorem dX9_canSoon_145 : decode cX9_canSoon 145 = .ok (.if_icmp .ge 22, 3) := by decide +kernel
theorem dX9_canSoon_148 : decode cX9_canSoon 148 = .ok (.aload_n 0, 1) := by decide +kernel
theorem dX9_canSoon_149 : decode cX9_canSoon 149 = .ok (.iload_n 1, 1) := by decide +kernel
theorem dX9_canSoon_150 : decode cX9_canSoon 150 = .ok (.iload 5, 2) := by decide +kernel
theorem dX9_canSoon_152 : decode cX9_canSoon 152 = .ok (.iload 7, 2) := by decide +kernel
theorem dX9_canSoon_154 : decode cX9_canSoon 154 = .ok (.iload 6, 2) := by decide +kernel
theorem dX9_canSoon_156 : decode cX9_canSoon 156 = .ok (.iand, 1) := by decide +kernel
theorem dX9_canSoon_157 : decode cX9_canSoon 157 = .ok (.ior, 1) := by decide +kernel
theorem dX9_canSoon_158 : decode cX9_canSoon 158 = .ok (.invokevirtual 133, 3) := by decide +kernel
theorem dX9_canSoon_161 : decode cX9_canSoon 161 = .ok (.iload_n 2, 1) := by decide +kernel
theorem dX9_canSoon_162 : decode cX9_canSoon 162 = .ok (.if_icmp .lt 5, 3) := by decide +kernel
theorem dX9_canSoon_165 : decode cX9_canSoon 165 = .ok (.iconst 1, 1) := by decide +kernel
theorem dX9_canSoon_166 : decode cX9_canSoon 166 = .ok (.ireturn, 1) := by decide +kernel
theorem dX9_canSoon_167 : decode cX9_canSoon 167 = .ok (.iinc 7 1, 3) := by decide +kernel
theorem dX9_canSoon_170 : decode cX9_canSoon 170 = .ok (.goto (-52), 3) := by decide +kernel
theorem dX9_canSoon_173 : decode cX9_canSoon 173 = .ok (.iconst 0, 1) := by decide +kernel
theorem dX9_canSoon_174 : decode cX9_canSoon 174 = .ok (.ireturn, 1) := by decide +kernel
theorem dX9_soon_0 : decode cX9_soon 0 = .ok (.aload_n 0, 1) := by decide +kernel
theorem dX9_soon_1 : decode cX9_soon 1 = .ok (.iconst 0, 1) := by decide +kernel
theorem dX9_soon_2 : decode cX9_soon 2 = .ok (.putfield 56, 3) := by decide +kernel
theorem dX9_soon_5 : decode cX9_soon 5 = .ok (.iload_n 1, 1) := by decide +kernel
theorem dX9_soon_6 : decode cX9_soon 6 = .ok (.invokestatic 173, 3) := by decide +kernel
theorem dX9_soon_9 : decode cX9_soon 9 = .ok (.ifCond .ne 5, 3) := by decide +kernel
theorem dX9_soon_12 : decode cX9_soon 12 = .ok (.iconst (-1), 1) := by decide +kernel
theorem dX9_soon_13 : decode cX9_soon 13 = .ok (.ireturn, 1) := by decide +kernel
theorem dX9_soon_14 : decode cX9_soon 14 = .ok (.iconst 0, 1) := by decide +kernel
theorem dX9_soon_15 : decode cX9_soon 15 = .ok (.istore_n 2, 1) := by decide +kernel
theorem dX9_soon_16 : decode cX9_soon 16 = .ok (.iload_n 2, 1) := by decide +kernel
theorem dX9_soon_17 : decode cX9_soon 17 = .ok (.bipush 20, 2) := by decide +kernel
theorem dX9_soon_19 : decode cX9_soon 19 = .ok (.if_icmp .gt 50, 3) := by decide +kernel
theorem dX9_soon_22 : decode cX9_soon 22 = .ok (.iconst 1, 1) := by decide +kernel
theorem dX9_soon_23 : decode cX9_soon 23 = .ok (.istore_n 3, 1) := by decide +kernel
theorem dX9_soon_24 : decode cX9_soon 24 = .ok (.iconst 0, 1) := by decide +kernel
theorem dX9_soon_25 : decode cX9_soon 25 = .ok (.istore 4, 2) := by decide +kernel
theorem dX9_soon_27 : decode cX9_soon 27 = .ok (.iload 4, 2) := by decide +kernel
theorem dX9_soon_29 : decode cX9_soon 29 = .ok (.aload_n 0, 1) := by decide +kernel
theorem dX9_soon_30 : decode cX9_soon 30 = .ok (.getfield 13, 3) := by decide +kernel
theorem dX9_soon_33 : decode cX9_soon 33 = .ok (.iconst 0, 1) := by decide +kernel
theorem dX9_soon_34 : decode cX9_soon 34 = .ok (.iaload, 1) := by decide +kernel
theorem dX9_soon_35 : decode cX9_soon 35 = .ok (.if_icmp .ge 22, 3) := by decide +kernel
theorem dX9_soon_38 : decode cX9_soon 38 = .ok (.iload_n 3, 1) := by decide +kernel
theorem dX9_soon_39 : decode cX9_soon 39 = .ok (.ifCond .eq 18, 3) := by decide +kernel
theorem dX9_soon_42 : decode cX9_soon 42 = .ok (.aload_n 0, 1) := by decide +kernel
theorem dX9_soon_43 : decode cX9_soon 43 = .ok (.iload 4, 2) := by decide +kernel
theorem dX9_soon_45 : decode cX9_soon 45 = .ok (.iload_n 1, 1) := by decide +kernel
theorem dX9_soon_46 : decode cX9_soon 46 = .ok (.iload_n 2, 1) := by decide +kernel
theorem dX9_soon_47 : decode cX9_soon 47 = .ok (.invokevirtual 185, 3) := by decide +kernel
theorem dX9_soon_50 : decode cX9_soon 50 = .ok (.istore_n 3, 1) := by decide +kernel
theorem dX9_soon_51 : decode cX9_soon 51 = .ok (.iinc 4 1, 3) := by decide +kernel
theorem dX9_soon_54 : decode cX9_soon 54 = .ok (.goto (-27), 3) := by decide +kernel
theorem dX9_soon_57 : decode cX9_soon 57 = .ok (.iload_n 3, 1) := by decide +kernel
theorem dX9_soon_58 : decode cX9_soon 58 = .ok (.ifCond .eq 5, 3) := by decide +kernel
theorem dX9_soon_61 : decode cX9_soon 61 = .ok (.iload_n 2, 1) := by decide +kernel
theorem dX9_soon_62 : decode cX9_soon 62 = .ok (.ireturn, 1) := by decide +kernel
theorem dX9_soon_63 : decode cX9_soon 63 = .ok (.iinc 2 1, 3) := by decide +kernel
theorem dX9_soon_66 : decode cX9_soon 66 = .ok (.goto (-50), 3) := by decide +kernel
theorem dX9_soon_69 : decode cX9_soon 69 = .ok (.bipush (-9), 2) := by decide +kernel
theorem dX9_soon_71 : decode cX9_soon 71 = .ok (.ireturn, 1) := by decide +kernel
theorem dX9_max_0 : decode cX9_max 0 = .ok (.iload_n 0, 1) := by decide +kernel
theorem dX9_max_1 : decode cX9_max 1 = .ok (.iload_n 1, 1) := by decide +kernel
theorem dX9_max_2 : decode cX9_max 2 = .ok (.if_icmp .le 7, 3) := by decide +kernel
theorem dX9_max_5 : decode cX9_max 5 = .ok (.iload_n 0, 1) := by decide +kernel
theorem dX9_max_6 : decode cX9_max 6 = .ok (.goto 4, 3) := by decide +kernel
theorem dX9_max_9 : decode cX9_max 9 = .ok (.iload_n 1, 1) := by decide +kernel
theorem dX9_max_10 : decode cX9_max 10 = .ok (.ireturn, 1) := by decide +kernel
theorem dX9_min_0 : decode cX9_min 0 = .ok (.iload_n 0, 1) := by decide +kernel
theorem dX9_min_1 : decode cX9_min 1 = .ok (.iload_n 1, 1) := by decide +kernel
theorem dX9_min_2 : decode cX9_min 2 = .ok (.if_icmp .ge 7, 3) := by decide +kernel
theorem dX9_min_5 : decode cX9_min 5 = .ok (.iload_n 0, 1) := by decide +kernel
theorem dX9_min_6 : decode cX9_min 6 = .ok (.goto 4, 3) := by decide +kernel
theorem dX9_min_9 : decode cX9_min 9 = .ok (.iload_n 1, 1) := by decide +kernel
theorem dX9_min_10 : decode cX9_min 10 = .ok (.ireturn, 1) := by decide +kernel
theorem dX9_pair_0 : decode cX9_pair 0 = .ok (.aload_n 0, 1) := by decide +kernel
theorem dX9_pair_1 : decode cX9_pair 1 = .ok (.iconst 0, 1) := by decide +kernel
theorem dX9_pair_2 : decode cX9_pair 2 = .ok (.putfield 56, 3) := by decide +kernel
theorem dX9_pair_5 : decode cX9_pair 5 = .ok (.aload_n 0, 1) := by decide +kernel
theorem dX9_pair_6 : decode cX9_pair 6 = .ok (.iload_n 1, 1) := by decide +kernel
theorem dX9_pair_7 : decode cX9_pair 7 = .ok (.invokevirtual 136, 3) := by decide +kernel
theorem dX9_pair_10 : decode cX9_pair 10 = .ok (.ifCond .eq 19, 3) := by decide +kernel
theorem dX9_pair_13 : decode cX9_pair 13 = .ok (.aload_n 0, 1) := by decide +kernel
theorem dX9_pair_14 : decode cX9_pair 14 = .ok (.iload_n 2, 1) := by decide +kernel
theorem dX9_pair_15 : decode cX9_pair 15 = .ok (.invokevirtual 136, 3) := by decide +kernel
theorem dX9_pair_18 : decode cX9_pair 18 = .ok (.ifCond .eq 11, 3) := by decide +kernel
theorem dX9_pair_21 : decode cX9_pair 21 = .ok (.aload_n 0, 1) := by decide +kernel
theorem dX9_pair_22 : decode cX9_pair 22 = .ok (.iload_n 3, 1) := by decide +kernel
theorem dX9_pair_23 : decode cX9_pair 23 = .ok (.invokevirtual 157, 3) := by decide +kernel
theorem dX9_pair_26 : decode cX9_pair 26 = .ok (.ifCond .ne 5, 3) := by decide +kernel
theorem dX9_pair_29 : decode cX9_pair 29 = .ok (.iconst (-1), 1) := by decide +kernel
theorem dX9_pair_30 : decode cX9_pair 30 = .ok (.ireturn, 1) := by decide +kernel
theorem dX9_pair_31 : decode cX9_pair 31 = .ok (.iconst 0, 1) := by decide +kernel
theorem dX9_pair_32 : decode cX9_pair 32 = .ok (.istore 4, 2) := by decide +kernel
theorem dX9_pair_34 : decode cX9_pair 34 = .ok (.iconst 0, 1) := by decide +kernel
theorem dX9_pair_35 : decode cX9_pair 35 = .ok (.istore 5, 2) := by decide +kernel
theorem dX9_pair_37 : decode cX9_pair 37 = .ok (.iload 5, 2) := by decide +kernel
theorem dX9_pair_39 : decode cX9_pair 39 = .ok (.aload_n 0, 1) := by decide +kernel
theorem dX9_pair_40 : decode cX9_pair 40 = .ok (.getfield 13, 3) := by decide +kernel
theorem dX9_pair_43 : decode cX9_pair 43 = .ok (.iconst 1, 1) := by decide +kernel
theorem dX9_pair_44 : decode cX9_pair 44 = .ok (.iaload, 1) := by decide +kernel
theorem dX9_pair_45 : decode cX9_pair 45 = .ok (.if_icmp .ge 38, 3) := by decide +kernel
theorem dX9_pair_48 : decode cX9_pair 48 = .ok (.iload 4, 2) := by decide +kernel
theorem dX9_pair_50 : decode cX9_pair 50 = .ok (.ifCond .ne 20, 3) := by decide +kernel
theorem dX9_pair_53 : decode cX9_pair 53 = .ok (.aload_n 0, 1) := by decide +kernel
theorem dX9_pair_54 : decode cX9_pair 54 = .ok (.getfield 22, 3) := by decide +kernel
theorem dX9_pair_57 : decode cX9_pair 57 = .ok (.iconst 2, 1) := by decide +kernel
theorem dX9_pair_58 : decode cX9_pair 58 = .ok (.bipush 8, 2) := by decide +kernel
theorem dX9_pair_60 : decode cX9_pair 60 = .ok (.iload 5, 2) := by decide +kernel
theorem dX9_pair_62 : decode cX9_pair 62 = .ok (.imul, 1) := by decide +kernel
theorem dX9_pair_63 : decode cX9_pair 63 = .ok (.iadd, 1) := by decide +kernel
theorem dX9_pair_64 : decode cX9_pair 64 = .ok (.iload_n 3, 1) := by decide +kernel
theorem dX9_pair_65 : decode cX9_pair 65 = .ok (.iadd, 1) := by decide +kernel
theorem dX9_pair_66 : decode cX9_pair 66 = .ok (.iaload, 1) := by decide +kernel
theorem dX9_pair_67 : decode cX9_pair 67 = .ok (.ifCond .le 7, 3) := by decide +kernel
theorem dX9_pair_70 : decode cX9_pair 70 = .ok (.iconst 1, 1) := by decide +kernel
theorem dX9_pair_71 : decode cX9_pair 71 = .ok (.goto 4, 3) := by decide +kernel
theorem dX9_pair_74 : decode cX9_pair 74 = .ok (.iconst 0, 1) := by decide +kernel
theorem dX9_pair_75 : decode cX9_pair 75 = .ok (.istore 4, 2) := by decide +kernel
theorem dX9_pair_77 : decode cX9_pair 77 = .ok (.iinc 5 1, 3) := by decide +kernel
theorem dX9_pair_80 : decode cX9_pair 80 = .ok (.goto (-43), 3) := by decide +kernel
theorem dX9_pair_83 : decode cX9_pair 83 = .ok (.aload_n 0, 1) := by decide +kernel
theorem dX9_pair_84 : decode cX9_pair 84 = .ok (.getfield 13, 3) := by decide +kernel
theorem dX9_pair_87 : decode cX9_pair 87 = .ok (.iconst 2, 1) := by decide +kernel
theorem dX9_pair_88 : decode cX9_pair 88 = .ok (.iload_n 1, 1) := by decide +kernel
theorem dX9_pair_89 : decode cX9_pair 89 = .ok (.iadd, 1) := by decide +kernel
theorem dX9_pair_90 : decode cX9_pair 90 = .ok (.iaload, 1) := by decide +kernel
theorem dX9_pair_91 : decode cX9_pair 91 = .ok (.aload_n 0, 1) := by decide +kernel
theorem dX9_pair_92 : decode cX9_pair 92 = .ok (.getfield 13, 3) := by decide +kernel
theorem dX9_pair_95 : decode cX9_pair 95 = .ok (.iconst 2, 1) := by decide +kernel
theorem dX9_pair_96 : decode cX9_pair 96 = .ok (.iload_n 2, 1) := by decide +kernel
theorem dX9_pair_97 : decode cX9_pair 97 = .ok (.iadd, 1) := by decide +kernel
theorem dX9_pair_98 : decode cX9_pair 98 = .ok (.iaload, 1) := by decide +kernel
theorem dX9_pair_99 : decode cX9_pair 99 = .ok (.if_icmp .eq 32, 3) := by decide +kernel
theorem dX9_pair_102 : decode cX9_pair 102 = .ok (.aload_n 0, 1) := by decide +kernel
theorem dX9_pair_103 : decode cX9_pair 103 = .ok (.iload_n 3, 1) := by decide +kernel
theorem dX9_pair_104 : decode cX9_pair 104 = .ok (.invokevirtual 176, 3) := by decide +kernel
theorem dX9_pair_107 : decode cX9_pair 107 = .ok (.iload_n 1, 1) := by decide +kernel
theorem dX9_pair_108 : decode cX9_pair 108 = .ok (.invokestatic 118, 3) := by decide +kernel
theorem dX9_pair_111 : decode cX9_pair 111 = .ok (.ifCond .ne 20, 3) := by decide +kernel
theorem dX9_pair_114 : decode cX9_pair 114 = .ok (.aload_n 0, 1) := by decide +kernel
theorem dX9_pair_115 : decode cX9_pair 115 = .ok (.iload_n 3, 1) := by decide +kernel
theorem dX9_pair_116 : decode cX9_pair 116 = .ok (.invokevirtual 176, 3) := by decide +kernel
theorem dX9_pair_119 : decode cX9_pair 119 = .ok (.iload_n 2, 1) := by decide +kernel
theorem dX9_pair_120 : decode cX9_pair 120 = .ok (.invokestatic 118, 3) := by decide +kernel
theorem dX9_pair_123 : decode cX9_pair 123 = .ok (.ifCond .ne 8, 3) := by decide +kernel
theorem dX9_pair_126 : decode cX9_pair 126 = .ok (.iload 4, 2) := by decide +kernel
theorem dX9_pair_128 : decode cX9_pair 128 = .ok (.ifCond .eq 6, 3) := by decide +kernel
theorem dX9_pair_131 : decode cX9_pair 131 = .ok (.bipush (-2), 2) := by decide +kernel
theorem dX9_pair_133 : decode cX9_pair 133 = .ok (.ireturn, 1) := by decide +kernel
theorem dX9_pair_134 : decode cX9_pair 134 = .ok (.aload_n 0, 1) := by decide +kernel
theorem dX9_pair_135 : decode cX9_pair 135 = .ok (.getfield 13, 3) := by decide +kernel
theorem dX9_pair_138 : decode cX9_pair 138 = .ok (.bipush 26, 2) := by decide +kernel
theorem dX9_pair_140 : decode cX9_pair 140 = .ok (.iload_n 1, 1) := by decide +kernel
theorem dX9_pair_141 : decode cX9_pair 141 = .ok (.iadd, 1) := by decide +kernel
theorem dX9_pair_142 : decode cX9_pair 142 = .ok (.iaload, 1) := by decide +kernel
theorem dX9_pair_143 : decode cX9_pair 143 = .ok (.istore 5, 2) := by decide +kernel
theorem dX9_pair_145 : decode cX9_pair 145 = .ok (.aload_n 0, 1) := by decide +kernel
theorem dX9_pair_146 : decode cX9_pair 146 = .ok (.getfield 13, 3) := by decide +kernel
theorem dX9_pair_149 : decode cX9_pair 149 = .ok (.bipush 26, 2) := by decide +kernel
theorem dX9_pair_151 : decode cX9_pair 151 = .ok (.iload_n 2, 1) := by decide +kernel
theorem dX9_pair_152 : decode cX9_pair 152 = .ok (.iadd, 1) := by decide +kernel
theorem dX9_pair_153 : decode cX9_pair 153 = .ok (.iaload, 1) := by decide +kernel
theorem dX9_pair_154 : decode cX9_pair 154 = .ok (.istore 6, 2) := by decide +kernel
theorem dX9_pair_156 : decode cX9_pair 156 = .ok (.iload 5, 2) := by decide +kernel
theorem dX9_pair_158 : decode cX9_pair 158 = .ok (.iload 6, 2) := by decide +kernel
theorem dX9_pair_160 : decode cX9_pair 160 = .ok (.iadd, 1) := by decide +kernel
theorem dX9_pair_161 : decode cX9_pair 161 = .ok (.iload 5, 2) := by decide +kernel
theorem dX9_pair_163 : decode cX9_pair 163 = .ok (.iload 6, 2) := by decide +kernel
theorem dX9_pair_165 : decode cX9_pair 165 = .ok (.iconst 1, 1) := by decide +kernel
theorem dX9_pair_166 : decode cX9_pair 166 = .ok (.iadd, 1) := by decide +kernel
theorem dX9_pair_167 : decode cX9_pair 167 = .ok (.invokestatic 188, 3) := by decide +kernel
theorem dX9_pair_170 : decode cX9_pair 170 = .ok (.iload 6, 2) := by decide +kernel
theorem dX9_pair_172 : decode cX9_pair 172 = .ok (.iload 5, 2) := by decide +kernel
theorem dX9_pair_174 : decode cX9_pair 174 = .ok (.iconst 1, 1) := by decide +kernel
theorem dX9_pair_175 : decode cX9_pair 175 = .ok (.iadd, 1) := by decide +kernel
theorem dX9_pair_176 : decode cX9_pair 176 = .ok (.invokestatic 188, 3) := by decide +kernel
theorem dX9_pair_179 : decode cX9_pair 179 = .ok (.invokestatic 191, 3) := by decide +kernel
theorem dX9_pair_182 : decode cX9_pair 182 = .ok (.invokestatic 191, 3) := by decide +kernel
theorem dX9_pair_185 : decode cX9_pair 185 = .ok (.ireturn, 1) := by decide +kernel
theorem dX9_enough_0 : decode cX9_enough 0 = .ok (.aload_n 0, 1) := by decide +kernel
theorem dX9_enough_1 : decode cX9_enough 1 = .ok (.iconst 0, 1) := by decide +kernel
theorem dX9_enough_2 : decode cX9_enough 2 = .ok (.putfield 56, 3) := by decide +kernel
theorem dX9_enough_5 : decode cX9_enough 5 = .ok (.iload_n 1, 1) := by decide +kernel
theorem dX9_enough_6 : decode cX9_enough 6 = .ok (.invokestatic 173, 3) := by decide +kernel
theorem dX9_enough_9 : decode cX9_enough 9 = .ok (.ifCond .ne 5, 3) := by decide +kernel
theorem dX9_enough_12 : decode cX9_enough 12 = .ok (.iconst (-1), 1) := by decide +kernel
theorem dX9_enough_13 : decode cX9_enough 13 = .ok (.ireturn, 1) := by decide +kernel
theorem dX9_enough_14 : decode cX9_enough 14 = .ok (.bipush (-9), 2) := by decide +kernel
theorem dX9_enough_16 : decode cX9_enough 16 = .ok (.istore_n 2, 1) := by decide +kernel
theorem dX9_enough_17 : decode cX9_enough 17 = .ok (.iconst 0, 1) := by decide +kernel
theorem dX9_enough_18 : decode cX9_enough 18 = .ok (.istore_n 3, 1) := by decide +kernel
theorem dX9_enough_19 : decode cX9_enough 19 = .ok (.iload_n 3, 1) := by decide +kernel
theorem dX9_enough_20 : decode cX9_enough 20 = .ok (.iconst 1, 1) := by decide +kernel
theorem dX9_enough_21 : decode cX9_enough 21 = .ok (.aload_n 0, 1) := by decide +kernel
theorem dX9_enough_22 : decode cX9_enough 22 = .ok (.getfield 13, 3) := by decide +kernel
theorem dX9_enough_25 : decode cX9_enough 25 = .ok (.iconst 1, 1) := by decide +kernel
theorem dX9_enough_26 : decode cX9_enough 26 = .ok (.iaload, 1) := by decide +kernel
theorem dX9_enough_27 : decode cX9_enough 27 = .ok (.ishl, 1) := by decide +kernel
theorem dX9_enough_28 : decode cX9_enough 28 = .ok (.if_icmp .ge 87, 3) := by decide +kernel
theorem dX9_enough_31 : decode cX9_enough 31 = .ok (.iload_n 2, 1) := by decide +kernel
theorem dX9_enough_32 : decode cX9_enough 32 = .ok (.bipush (-9), 2) := by decide +kernel
theorem dX9_enough_34 : decode cX9_enough 34 = .ok (.if_icmp .eq 14, 3) := by decide +kernel
theorem dX9_enough_37 : decode cX9_enough 37 = .ok (.iload_n 3, 1) := by decide +kernel
theorem dX9_enough_38 : decode cX9_enough 38 = .ok (.invokestatic 179, 3) := by decide +kernel
theorem dX9_enough_41 : decode cX9_enough 41 = .ok (.iload_n 2, 1) := by decide +kernel
theorem dX9_enough_42 : decode cX9_enough 42 = .ok (.invokestatic 179, 3) := by decide +kernel
theorem dX9_enough_45 : decode cX9_enough 45 = .ok (.if_icmp .ge 7, 3) := by decide +kernel
theorem dX9_enough_48 : decode cX9_enough 48 = .ok (.iconst 1, 1) := by decide +kernel
theorem dX9_enough_49 : decode cX9_enough 49 = .ok (.goto 4, 3) := by decide +kernel
theorem dX9_enough_52 : decode cX9_enough 52 = .ok (.iconst 0, 1) := by decide +kernel
theorem dX9_enough_53 : decode cX9_enough 53 = .ok (.istore 4, 2) := by decide +kernel
theorem dX9_enough_55 : decode cX9_enough 55 = .ok (.iconst 0, 1) := by decide +kernel
theorem dX9_enough_56 : decode cX9_enough 56 = .ok (.istore 5, 2) := by decide +kernel
theorem dX9_enough_58 : decode cX9_enough 58 = .ok (.iload 5, 2) := by decide +kernel
theorem dX9_enough_60 : decode cX9_enough 60 = .ok (.aload_n 0, 1) := by decide +kernel
theorem dX9_enough_61 : decode cX9_enough 61 = .ok (.getfield 13, 3) := by decide +kernel
theorem dX9_enough_64 : decode cX9_enough 64 = .ok (.iconst 0, 1) := by decide +kernel
theorem dX9_enough_65 : decode cX9_enough 65 = .ok (.iaload, 1) := by decide +kernel
theorem dX9_enough_66 : decode cX9_enough 66 = .ok (.if_icmp .ge 32, 3) := by decide +kernel
theorem dX9_enough_69 : decode cX9_enough 69 = .ok (.iload 4, 2) := by decide +kernel
theorem dX9_enough_71 : decode cX9_enough 71 = .ok (.ifCond .eq 27, 3) := by decide +kernel
theorem dX9_enough_74 : decode cX9_enough 74 = .ok (.aload_n 0, 1) := by decide +kernel
theorem dX9_enough_75 : decode cX9_enough 75 = .ok (.iload 5, 2) := by decide +kernel
theorem dX9_enough_77 : decode cX9_enough 77 = .ok (.iload_n 3, 1) := by decide +kernel
theorem dX9_enough_78 : decode cX9_enough 78 = .ok (.invokevirtual 133, 3) := by decide +kernel
theorem dX9_enough_81 : decode cX9_enough 81 = .ok (.iload_n 1, 1) := by decide +kernel
theorem dX9_enough_82 : decode cX9_enough 82 = .ok (.if_icmp .lt 7, 3) := by decide +kernel
theorem dX9_enough_85 : decode cX9_enough 85 = .ok (.iconst 1, 1) := by decide +kernel
theorem dX9_enough_86 : decode cX9_enough 86 = .ok (.goto 4, 3) := by decide +kernel
theorem dX9_enough_89 : decode cX9_enough 89 = .ok (.iconst 0, 1) := by decide +kernel
theorem dX9_enough_90 : decode cX9_enough 90 = .ok (.istore 4, 2) := by decide +kernel
theorem dX9_enough_92 : decode cX9_enough 92 = .ok (.iinc 5 1, 3) := by decide +kernel
theorem dX9_enough_95 : decode cX9_enough 95 = .ok (.goto (-37), 3) := by decide +kernel
theorem dX9_enough_98 : decode cX9_enough 98 = .ok (.iload 4, 2) := by decide +kernel
theorem dX9_enough_100 : decode cX9_enough 100 = .ok (.ifCond .eq 7, 3) := by decide +kernel
theorem dX9_enough_103 : decode cX9_enough 103 = .ok (.iload_n 3, 1) := by decide +kernel
theorem dX9_enough_104 : decode cX9_enough 104 = .ok (.goto 4, 3) := by decide +kernel
theorem dX9_enough_107 : decode cX9_enough 107 = .ok (.iload_n 2, 1) := by decide +kernel
theorem dX9_enough_108 : decode cX9_enough 108 = .ok (.istore_n 2, 1) := by decide +kernel
theorem dX9_enough_109 : decode cX9_enough 109 = .ok (.iinc 3 1, 3) := by decide +kernel
theorem dX9_enough_112 : decode cX9_enough 112 = .ok (.goto (-93), 3) := by decide +kernel
theorem dX9_enough_115 : decode cX9_enough 115 = .ok (.iload_n 2, 1) := by decide +kernel
theorem dX9_enough_116 : decode cX9_enough 116 = .ok (.ireturn, 1) := by decide +kernel
theorem dX9_friends_0 : decode cX9_friends 0 = .ok (.aload_n 0, 1) := by decide +kernel
theorem dX9_friends_1 : decode cX9_friends 1 = .ok (.iconst 0, 1) := by decide +kernel
theorem dX9_friends_2 : decode cX9_friends 2 = .ok (.putfield 56, 3) := by decide +kernel
theorem dX9_friends_5 : decode cX9_friends 5 = .ok (.iload_n 1, 1) := by decide +kernel
theorem dX9_friends_6 : decode cX9_friends 6 = .ok (.invokestatic 173, 3) := by decide +kernel
theorem dX9_friends_9 : decode cX9_friends 9 = .ok (.ifCond .ne 5, 3) := by decide +kernel
theorem dX9_friends_12 : decode cX9_friends 12 = .ok (.iconst (-1), 1) := by decide +kernel
theorem dX9_friends_13 : decode cX9_friends 13 = .ok (.ireturn, 1) := by decide +kernel
theorem dX9_friends_14 : decode cX9_friends 14 = .ok (.iconst 1, 1) := by decide +kernel
theorem dX9_friends_15 : decode cX9_friends 15 = .ok (.aload_n 0, 1) := by decide +kernel
theorem dX9_friends_16 : decode cX9_friends 16 = .ok (.getfield 13, 3) := by decide +kernel
theorem dX9_friends_19 : decode cX9_friends 19 = .ok (.iconst 1, 1) := by decide +kernel
theorem dX9_friends_20 : decode cX9_friends 20 = .ok (.iaload, 1) := by decide +kernel
theorem dX9_friends_21 : decode cX9_friends 21 = .ok (.ishl, 1) := by decide +kernel
theorem dX9_friends_22 : decode cX9_friends 22 = .ok (.istore_n 2, 1) := by decide +kernel
theorem dX9_friends_23 : decode cX9_friends 23 = .ok (.iconst 0, 1) := by decide +kernel
theorem dX9_friends_24 : decode cX9_friends 24 = .ok (.istore_n 3, 1) := by decide +kernel
theorem dX9_friends_25 : decode cX9_friends 25 = .ok (.iload_n 3, 1) := by decide +kernel
theorem dX9_friends_26 : decode cX9_friends 26 = .ok (.iload_n 2, 1) := by decide +kernel
theorem dX9_friends_27 : decode cX9_friends 27 = .ok (.if_icmp .ge 24, 3) := by decide +kernel
theorem dX9_friends_30 : decode cX9_friends 30 = .ok (.aload_n 0, 1) := by decide +kernel
theorem dX9_friends_31 : decode cX9_friends 31 = .ok (.getfield 47, 3) := by decide +kernel
theorem dX9_friends_34 : decode cX9_friends 34 = .ok (.iload_n 3, 1) := by decide +kernel
theorem dX9_friends_35 : decode cX9_friends 35 = .ok (.iload_n 3, 1) := by decide +kernel
theorem dX9_friends_36 : decode cX9_friends 36 = .ok (.ifCond .ne 7, 3) := by decide +kernel
theorem dX9_friends_39 : decode cX9_friends 39 = .ok (.iconst 0, 1) := by decide +kernel
theorem dX9_friends_40 : decode cX9_friends 40 = .ok (.goto 4, 3) := by decide +kernel
theorem dX9_friends_43 : decode cX9_friends 43 = .ok (.iconst (-1), 1) := by decide +kernel
theorem dX9_friends_44 : decode cX9_friends 44 = .ok (.iastore, 1) := by decide +kernel
theorem dX9_friends_45 : decode cX9_friends 45 = .ok (.iinc 3 1, 3) := by decide +kernel
theorem dX9_friends_48 : decode cX9_friends 48 = .ok (.goto (-23), 3) := by decide +kernel
theorem dX9_friends_51 : decode cX9_friends 51 = .ok (.iconst 0, 1) := by decide +kernel
theorem dX9_friends_52 : decode cX9_friends 52 = .ok (.istore_n 3, 1) := by decide +kernel
theorem dX9_friends_53 : decode cX9_friends 53 = .ok (.iconst 0, 1) := by decide +kernel
theorem dX9_friends_54 : decode cX9_friends 54 = .ok (.istore 4, 2) := by decide +kernel
theorem dX9_friends_56 : decode cX9_friends 56 = .ok (.iload 4, 2) := by decide +kernel
theorem dX9_friends_58 : decode cX9_friends 58 = .ok (.aload_n 0, 1) := by decide +kernel
theorem dX9_friends_59 : decode cX9_friends 59 = .ok (.getfield 13, 3) := by decide +kernel
theorem dX9_friends_62 : decode cX9_friends 62 = .ok (.iconst 0, 1) := by decide +kernel
theorem dX9_friends_63 : decode cX9_friends 63 = .ok (.iaload, 1) := by decide +kernel
theorem dX9_friends_64 : decode cX9_friends 64 = .ok (.if_icmp .ge 126, 3) := by decide +kernel
theorem dX9_friends_67 : decode cX9_friends 67 = .ok (.iload_n 2, 1) := by decide +kernel
theorem dX9_friends_68 : decode cX9_friends 68 = .ok (.iconst 1, 1) := by decide +kernel
theorem dX9_friends_69 : decode cX9_friends 69 = .ok (.isub, 1) := by decide +kernel
theorem dX9_friends_70 : decode cX9_friends 70 = .ok (.istore 5, 2) := by decide +kernel
theorem dX9_friends_72 : decode cX9_friends 72 = .ok (.iload 5, 2) := by decide +kernel
theorem dX9_friends_74 : decode cX9_friends 74 = .ok (.ifCond .lt 110, 3) := by decide +kernel
theorem dX9_friends_77 : decode cX9_friends 77 = .ok (.iconst 0, 1) := by decide +kernel
theorem dX9_friends_78 : decode cX9_friends 78 = .ok (.istore 6, 2) := by decide +kernel
theorem dX9_friends_80 : decode cX9_friends 80 = .ok (.iload 6, 2) := by decide +kernel
theorem dX9_friends_82 : decode cX9_friends 82 = .ok (.iload_n 2, 1) := by decide +kernel
theorem dX9_friends_83 : decode cX9_friends 83 = .ok (.if_icmp .ge 95, 3) := by decide +kernel
theorem dX9_friends_86 : decode cX9_friends 86 = .ok (.aload_n 0, 1) := by decide +kernel
theorem dX9_friends_87 : decode cX9_friends 87 = .ok (.getfield 47, 3) := by decide +kernel
theorem dX9_friends_90 : decode cX9_friends 90 = .ok (.iload 5, 2) := by decide +kernel
theorem dX9_friends_92 : decode cX9_friends 92 = .ok (.iaload, 1) := by decide +kernel
theorem dX9_friends_93 : decode cX9_friends 93 = .ok (.ifCond .lt 85, 3) := by decide +kernel
theorem dX9_friends_96 : decode cX9_friends 96 = .ok (.iload 6, 2) := by decide +kernel
theorem dX9_friends_98 : decode cX9_friends 98 = .ok (.iload 5, 2) := by decide +kernel
theorem dX9_friends_100 : decode cX9_friends 100 = .ok (.iand, 1) := by decide +kernel
theorem dX9_friends_101 : decode cX9_friends 101 = .ok (.ifCond .ne 71, 3) := by decide +kernel
theorem dX9_friends_104 : decode cX9_friends 104 = .ok (.iload 6, 2) := by decide +kernel
theorem dX9_friends_106 : decode cX9_friends 106 = .ok (.invokestatic 179, 3) := by decide +kernel
theorem dX9_friends_109 : decode cX9_friends 109 = .ok (.iconst 2, 1) := by decide +kernel
theorem dX9_friends_110 : decode cX9_friends 110 = .ok (.if_icmp .ne 62, 3) := by decide +kernel
theorem dX9_friends_113 : decode cX9_friends 113 = .ok (.aload_n 0, 1) := by decide +kernel
theorem dX9_friends_114 : decode cX9_friends 114 = .ok (.iload 4, 2) := by decide +kernel
theorem dX9_friends_116 : decode cX9_friends 116 = .ok (.iload 6, 2) := by decide +kernel
theorem dX9_friends_118 : decode cX9_friends 118 = .ok (.invokevirtual 133, 3) := by decide +kernel
theorem dX9_friends_121 : decode cX9_friends 121 = .ok (.iload_n 1, 1) := by decide +kernel
theorem dX9_friends_122 : decode cX9_friends 122 = .ok (.if_icmp .lt 50, 3) := by decide +kernel
theorem dX9_friends_125 : decode cX9_friends 125 = .ok (.aload_n 0, 1) := by decide +kernel
theorem dX9_friends_126 : decode cX9_friends 126 = .ok (.getfield 47, 3) := by decide +kernel
theorem dX9_friends_129 : decode cX9_friends 129 = .ok (.iload 5, 2) := by decide +kernel
theorem dX9_friends_131 : decode cX9_friends 131 = .ok (.iload 6, 2) := by decide +kernel
theorem dX9_friends_133 : decode cX9_friends 133 = .ok (.ior, 1) := by decide +kernel
theorem dX9_friends_134 : decode cX9_friends 134 = .ok (.aload_n 0, 1) := by decide +kernel
theorem dX9_friends_135 : decode cX9_friends 135 = .ok (.getfield 47, 3) := by decide +kernel
theorem dX9_friends_138 : decode cX9_friends 138 = .ok (.iload 5, 2) := by decide +kernel
theorem dX9_friends_140 : decode cX9_friends 140 = .ok (.iload 6, 2) := by decide +kernel
theorem dX9_friends_142 : decode cX9_friends 142 = .ok (.ior, 1) := by decide +kernel
theorem dX9_friends_143 : decode cX9_friends 143 = .ok (.iaload, 1) := by decide +kernel
theorem dX9_friends_144 : decode cX9_friends 144 = .ok (.aload_n 0, 1) := by decide +kernel
theorem dX9_friends_145 : decode cX9_friends 145 = .ok (.getfield 47, 3) := by decide +kernel
theorem dX9_friends_148 : decode cX9_friends 148 = .ok (.iload 5, 2) := by decide +kernel
theorem dX9_friends_150 : decode cX9_friends 150 = .ok (.iaload, 1) := by decide +kernel
theorem dX9_friends_151 : decode cX9_friends 151 = .ok (.iconst 1, 1) := by decide +kernel
theorem dX9_friends_152 : decode cX9_friends 152 = .ok (.iadd, 1) := by decide +kernel
theorem dX9_friends_153 : decode cX9_friends 153 = .ok (.invokestatic 188, 3) := by decide +kernel
theorem dX9_friends_156 : decode cX9_friends 156 = .ok (.iastore, 1) := by decide +kernel
theorem dX9_friends_157 : decode cX9_friends 157 = .ok (.iload_n 3, 1) := by decide +kernel
theorem dX9_friends_158 : decode cX9_friends 158 = .ok (.aload_n 0, 1) := by decide +kernel
theorem dX9_friends_159 : decode cX9_friends 159 = .ok (.getfield 47, 3) := by decide +kernel
theorem dX9_friends_162 : decode cX9_friends 162 = .ok (.iload 5, 2) := by decide +kernel
theorem dX9_friends_164 : decode cX9_friends 164 = .ok (.iload 6, 2) := by decide +kernel
theorem dX9_friends_166 : decode cX9_friends 166 = .ok (.ior, 1) := by decide +kernel
theorem dX9_friends_167 : decode cX9_friends 167 = .ok (.iaload, 1) := by decide +kernel
theorem dX9_friends_168 : decode cX9_friends 168 = .ok (.invokestatic 188, 3) := by decide +kernel
theorem dX9_friends_171 : decode cX9_friends 171 = .ok (.istore_n 3, 1) := by decide +kernel
theorem dX9_friends_172 : decode cX9_friends 172 = .ok (.iinc 6 1, 3) := by decide +kernel
theorem dX9_friends_175 : decode cX9_friends 175 = .ok (.goto (-95), 3) := by decide +kernel
theorem dX9_friends_178 : decode cX9_friends 178 = .ok (.iinc 5 (-1), 3) := by decide +kernel
theorem dX9_friends_181 : decode cX9_friends 181 = .ok (.goto (-109), 3) := by decide +kernel
theorem dX9_friends_184 : decode cX9_friends 184 = .ok (.iinc 4 1, 3) := by decide +kernel
theorem dX9_friends_187 : decode cX9_friends 187 = .ok (.goto (-131), 3) := by decide +kernel
theorem dX9_friends_190 : decode cX9_friends 190 = .ok (.iload_n 3, 1) := by decide +kernel
theorem dX9_friends_191 : decode cX9_friends 191 = .ok (.ireturn, 1) := by decide +kernel
theorem dX9_breaksAgain_0 : decode cX9_breaksAgain 0 = .ok (.iload_n 1, 1) := by decide +kernel
theorem dX9_breaksAgain_1 : decode cX9_breaksAgain 1 = .ok (.iconst 2, 1) := by decide +kernel
theorem dX9_breaksAgain_2 : decode cX9_breaksAgain 2 = .ok (.if_icmp .ne 12, 3) := by decide +kernel
theorem dX9_breaksAgain_5 : decode cX9_breaksAgain 5 = .ok (.aload_n 0, 1) := by decide +kernel
theorem dX9_breaksAgain_6 : decode cX9_breaksAgain 6 = .ok (.aload_n 0, 1) := by decide +kernel
theorem dX9_breaksAgain_7 : decode cX9_breaksAgain 7 = .ok (.getfield 25, 3) := by decide +kernel
theorem dX9_breaksAgain_10 : decode cX9_breaksAgain 10 = .ok (.invokevirtual 154, 3) := by decide +kernel
theorem dX9_breaksAgain_13 : decode cX9_breaksAgain 13 = .ok (.ireturn, 1) := by decide +kernel
theorem dX9_breaksAgain_14 : decode cX9_breaksAgain 14 = .ok (.bipush 99, 2) := by decide +kernel
theorem dX9_breaksAgain_16 : decode cX9_breaksAgain 16 = .ok (.istore_n 2, 1) := by decide +kernel
theorem dX9_breaksAgain_17 : decode cX9_breaksAgain 17 = .ok (.iconst 0, 1) := by decide +kernel
theorem dX9_breaksAgain_18 : decode cX9_breaksAgain 18 = .ok (.istore_n 3, 1) := by decide +kernel
theorem dX9_breaksAgain_19 : decode cX9_breaksAgain 19 = .ok (.iload_n 3, 1) := by decide +kernel
theorem dX9_breaksAgain_20 : decode cX9_breaksAgain 20 = .ok (.aload_n 0, 1) := by decide +kernel
theorem dX9_breaksAgain_21 : decode cX9_breaksAgain 21 = .ok (.getfield 13, 3) := by decide +kernel
theorem dX9_breaksAgain_24 : decode cX9_breaksAgain 24 = .ok (.iconst 1, 1) := by decide +kernel
theorem dX9_breaksAgain_25 : decode cX9_breaksAgain 25 = .ok (.iaload, 1) := by decide +kernel
theorem dX9_breaksAgain_26 : decode cX9_breaksAgain 26 = .ok (.if_icmp .ge 61, 3) := by decide +kernel
theorem dX9_breaksAgain_29 : decode cX9_breaksAgain 29 = .ok (.iconst 0, 1) := by decide +kernel
theorem dX9_breaksAgain_30 : decode cX9_breaksAgain 30 = .ok (.istore 4, 2) := by decide +kernel
theorem dX9_breaksAgain_32 : decode cX9_breaksAgain 32 = .ok (.iload 4, 2) := by decide +kernel
theorem dX9_breaksAgain_34 : decode cX9_breaksAgain 34 = .ok (.bipush 66, 2) := by decide +kernel
theorem dX9_breaksAgain_36 : decode cX9_breaksAgain 36 = .ok (.if_icmp .ge 23, 3) := by decide +kernel
theorem dX9_breaksAgain_39 : decode cX9_breaksAgain 39 = .ok (.aload_n 0, 1) := by decide +kernel
theorem dX9_breaksAgain_40 : decode cX9_breaksAgain 40 = .ok (.getfield 28, 3) := by decide +kernel
theorem dX9_breaksAgain_43 : decode cX9_breaksAgain 43 = .ok (.iload 4, 2) := by decide +kernel
theorem dX9_breaksAgain_45 : decode cX9_breaksAgain 45 = .ok (.aload_n 0, 1) := by decide +kernel
theorem dX9_breaksAgain_46 : decode cX9_breaksAgain 46 = .ok (.getfield 25, 3) := by decide +kernel
theorem dX9_breaksAgain_49 : decode cX9_breaksAgain 49 = .ok (.iload 4, 2) := by decide +kernel
theorem dX9_breaksAgain_51 : decode cX9_breaksAgain 51 = .ok (.iaload, 1) := by decide +kernel
theorem dX9_breaksAgain_52 : decode cX9_breaksAgain 52 = .ok (.iastore, 1) := by decide +kernel
theorem dX9_breaksAgain_53 : decode cX9_breaksAgain 53 = .ok (.iinc 4 1, 3) := by decide +kernel
theorem dX9_breaksAgain_56 : decode cX9_breaksAgain 56 = .ok (.goto (-24), 3) := by decide +kernel
theorem dX9_breaksAgain_59 : decode cX9_breaksAgain 59 = .ok (.aload_n 0, 1) := by decide +kernel
theorem dX9_breaksAgain_60 : decode cX9_breaksAgain 60 = .ok (.aload_n 0, 1) := by decide +kernel
theorem dX9_breaksAgain_61 : decode cX9_breaksAgain 61 = .ok (.getfield 28, 3) := by decide +kernel
theorem dX9_breaksAgain_64 : decode cX9_breaksAgain 64 = .ok (.iload_n 3, 1) := by decide +kernel
theorem dX9_breaksAgain_65 : decode cX9_breaksAgain 65 = .ok (.invokevirtual 146, 3) := by decide +kernel
theorem dX9_breaksAgain_68 : decode cX9_breaksAgain 68 = .ok (.iload_n 2, 1) := by decide +kernel
theorem dX9_breaksAgain_69 : decode cX9_breaksAgain 69 = .ok (.aload_n 0, 1) := by decide +kernel
theorem dX9_breaksAgain_70 : decode cX9_breaksAgain 70 = .ok (.aload_n 0, 1) := by decide +kernel
theorem dX9_breaksAgain_71 : decode cX9_breaksAgain 71 = .ok (.getfield 28, 3) := by decide +kernel
theorem dX9_breaksAgain_74 : decode cX9_breaksAgain 74 = .ok (.invokevirtual 154, 3) := by decide +kernel
theorem dX9_breaksAgain_77 : decode cX9_breaksAgain 77 = .ok (.invokestatic 191, 3) := by decide +kernel
theorem dX9_breaksAgain_80 : decode cX9_breaksAgain 80 = .ok (.istore_n 2, 1) := by decide +kernel
theorem dX9_breaksAgain_81 : decode cX9_breaksAgain 81 = .ok (.iinc 3 1, 3) := by decide +kernel
theorem dX9_breaksAgain_84 : decode cX9_breaksAgain 84 = .ok (.goto (-65), 3) := by decide +kernel
theorem dX9_breaksAgain_87 : decode cX9_breaksAgain 87 = .ok (.iload_n 2, 1) := by decide +kernel
theorem dX9_breaksAgain_88 : decode cX9_breaksAgain 88 = .ok (.ireturn, 1) := by decide +kernel
theorem dX9_mends_0 : decode cX9_mends 0 = .ok (.aload_n 0, 1) := by decide +kernel
theorem dX9_mends_1 : decode cX9_mends 1 = .ok (.iload_n 1, 1) := by decide +kernel
theorem dX9_mends_2 : decode cX9_mends 2 = .ok (.invokevirtual 197, 3) := by decide +kernel
theorem dX9_mends_5 : decode cX9_mends 5 = .ok (.istore_n 2, 1) := by decide +kernel
theorem dX9_mends_6 : decode cX9_mends 6 = .ok (.iconst 0, 1) := by decide +kernel
theorem dX9_mends_7 : decode cX9_mends 7 = .ok (.istore_n 3, 1) := by decide +kernel
theorem dX9_mends_8 : decode cX9_mends 8 = .ok (.iload_n 3, 1) := by decide +kernel
theorem dX9_mends_9 : decode cX9_mends 9 = .ok (.aload_n 0, 1) := by decide +kernel
theorem dX9_mends_10 : decode cX9_mends 10 = .ok (.getfield 13, 3) := by decide +kernel
theorem dX9_mends_13 : decode cX9_mends 13 = .ok (.iconst 1, 1) := by decide +kernel
theorem dX9_mends_14 : decode cX9_mends 14 = .ok (.iaload, 1) := by decide +kernel
theorem dX9_mends_15 : decode cX9_mends 15 = .ok (.if_icmp .ge 86, 3) := by decide +kernel
theorem dX9_mends_18 : decode cX9_mends 18 = .ok (.iconst 0, 1) := by decide +kernel
theorem dX9_mends_19 : decode cX9_mends 19 = .ok (.istore 4, 2) := by decide +kernel
theorem dX9_mends_21 : decode cX9_mends 21 = .ok (.iload 4, 2) := by decide +kernel
theorem dX9_mends_23 : decode cX9_mends 23 = .ok (.aload_n 0, 1) := by decide +kernel
theorem dX9_mends_24 : decode cX9_mends 24 = .ok (.getfield 13, 3) := by decide +kernel
theorem dX9_mends_27 : decode cX9_mends 27 = .ok (.iconst 0, 1) := by decide +kernel
theorem dX9_mends_28 : decode cX9_mends 28 = .ok (.iaload, 1) := by decide +kernel
theorem dX9_mends_29 : decode cX9_mends 29 = .ok (.if_icmp .ge 66, 3) := by decide +kernel
theorem dX9_mends_32 : decode cX9_mends 32 = .ok (.aload_n 0, 1) := by decide +kernel
theorem dX9_mends_33 : decode cX9_mends 33 = .ok (.getfield 25, 3) := by decide +kernel
theorem dX9_mends_36 : decode cX9_mends 36 = .ok (.iconst 2, 1) := by decide +kernel
theorem dX9_mends_37 : decode cX9_mends 37 = .ok (.bipush 8, 2) := by decide +kernel
theorem dX9_mends_39 : decode cX9_mends 39 = .ok (.iload_n 3, 1) := by decide +kernel
theorem dX9_mends_40 : decode cX9_mends 40 = .ok (.imul, 1) := by decide +kernel
theorem dX9_mends_41 : decode cX9_mends 41 = .ok (.iadd, 1) := by decide +kernel
theorem dX9_mends_42 : decode cX9_mends 42 = .ok (.iload 4, 2) := by decide +kernel
theorem dX9_mends_44 : decode cX9_mends 44 = .ok (.iadd, 1) := by decide +kernel
theorem dX9_mends_45 : decode cX9_mends 45 = .ok (.iaload, 1) := by decide +kernel
theorem dX9_mends_46 : decode cX9_mends 46 = .ok (.istore 5, 2) := by decide +kernel
theorem dX9_mends_48 : decode cX9_mends 48 = .ok (.aload_n 0, 1) := by decide +kernel
theorem dX9_mends_49 : decode cX9_mends 49 = .ok (.getfield 25, 3) := by decide +kernel
theorem dX9_mends_52 : decode cX9_mends 52 = .ok (.iconst 2, 1) := by decide +kernel
theorem dX9_mends_53 : decode cX9_mends 53 = .ok (.bipush 8, 2) := by decide +kernel
theorem dX9_mends_55 : decode cX9_mends 55 = .ok (.iload_n 3, 1) := by decide +kernel
theorem dX9_mends_56 : decode cX9_mends 56 = .ok (.imul, 1) := by decide +kernel
theorem dX9_mends_57 : decode cX9_mends 57 = .ok (.iadd, 1) := by decide +kernel
theorem dX9_mends_58 : decode cX9_mends 58 = .ok (.iload 4, 2) := by decide +kernel
theorem dX9_mends_60 : decode cX9_mends 60 = .ok (.iadd, 1) := by decide +kernel
theorem dX9_mends_61 : decode cX9_mends 61 = .ok (.iconst (-1), 1) := by decide +kernel
theorem dX9_mends_62 : decode cX9_mends 62 = .ok (.iastore, 1) := by decide +kernel
theorem dX9_mends_63 : decode cX9_mends 63 = .ok (.iload_n 2, 1) := by decide +kernel
theorem dX9_mends_64 : decode cX9_mends 64 = .ok (.aload_n 0, 1) := by decide +kernel
theorem dX9_mends_65 : decode cX9_mends 65 = .ok (.iload_n 1, 1) := by decide +kernel
theorem dX9_mends_66 : decode cX9_mends 66 = .ok (.invokevirtual 197, 3) := by decide +kernel
theorem dX9_mends_69 : decode cX9_mends 69 = .ok (.invokestatic 188, 3) := by decide +kernel
theorem dX9_mends_72 : decode cX9_mends 72 = .ok (.istore_n 2, 1) := by decide +kernel
theorem dX9_mends_73 : decode cX9_mends 73 = .ok (.aload_n 0, 1) := by decide +kernel
theorem dX9_mends_74 : decode cX9_mends 74 = .ok (.getfield 25, 3) := by decide +kernel
theorem dX9_mends_77 : decode cX9_mends 77 = .ok (.iconst 2, 1) := by decide +kernel
theorem dX9_mends_78 : decode cX9_mends 78 = .ok (.bipush 8, 2) := by decide +kernel
theorem dX9_mends_80 : decode cX9_mends 80 = .ok (.iload_n 3, 1) := by decide +kernel
theorem dX9_mends_81 : decode cX9_mends 81 = .ok (.imul, 1) := by decide +kernel
theorem dX9_mends_82 : decode cX9_mends 82 = .ok (.iadd, 1) := by decide +kernel
theorem dX9_mends_83 : decode cX9_mends 83 = .ok (.iload 4, 2) := by decide +kernel
theorem dX9_mends_85 : decode cX9_mends 85 = .ok (.iadd, 1) := by decide +kernel
theorem dX9_mends_86 : decode cX9_mends 86 = .ok (.iload 5, 2) := by decide +kernel
theorem dX9_mends_88 : decode cX9_mends 88 = .ok (.iastore, 1) := by decide +kernel
theorem dX9_mends_89 : decode cX9_mends 89 = .ok (.iinc 4 1, 3) := by decide +kernel
theorem dX9_mends_92 : decode cX9_mends 92 = .ok (.goto (-71), 3) := by decide +kernel
theorem dX9_mends_95 : decode cX9_mends 95 = .ok (.iinc 3 1, 3) := by decide +kernel
theorem dX9_mends_98 : decode cX9_mends 98 = .ok (.goto (-90), 3) := by decide +kernel
theorem dX9_mends_101 : decode cX9_mends 101 = .ok (.iload_n 2, 1) := by decide +kernel
theorem dX9_mends_102 : decode cX9_mends 102 = .ok (.ireturn, 1) := by decide +kernel
theorem dX9_byTurns_0 : decode cX9_byTurns 0 = .ok (.aload_n 0, 1) := by decide +kernel
theorem dX9_byTurns_1 : decode cX9_byTurns 1 = .ok (.iconst 0, 1) := by decide +kernel
theorem dX9_byTurns_2 : decode cX9_byTurns 2 = .ok (.putfield 56, 3) := by decide +kernel
theorem dX9_byTurns_5 : decode cX9_byTurns 5 = .ok (.iload_n 1, 1) := by decide +kernel
theorem dX9_byTurns_6 : decode cX9_byTurns 6 = .ok (.iconst 0, 1) := by decide +kernel
theorem dX9_byTurns_7 : decode cX9_byTurns 7 = .ok (.iconst 3, 1) := by decide +kernel
theorem dX9_byTurns_8 : decode cX9_byTurns 8 = .ok (.invokestatic 60, 3) := by decide +kernel
theorem dX9_byTurns_11 : decode cX9_byTurns 11 = .ok (.ifCond .ne 5, 3) := by decide +kernel
theorem dX9_byTurns_14 : decode cX9_byTurns 14 = .ok (.iconst (-1), 1) := by decide +kernel
theorem dX9_byTurns_15 : decode cX9_byTurns 15 = .ok (.ireturn, 1) := by decide +kernel
theorem dX9_byTurns_16 : decode cX9_byTurns 16 = .ok (.aload_n 0, 1) := by decide +kernel
theorem dX9_byTurns_17 : decode cX9_byTurns 17 = .ok (.getfield 13, 3) := by decide +kernel
theorem dX9_byTurns_20 : decode cX9_byTurns 20 = .ok (.iconst 1, 1) := by decide +kernel
theorem dX9_byTurns_21 : decode cX9_byTurns 21 = .ok (.iaload, 1) := by decide +kernel
theorem dX9_byTurns_22 : decode cX9_byTurns 22 = .ok (.istore_n 2, 1) := by decide +kernel
theorem dX9_byTurns_23 : decode cX9_byTurns 23 = .ok (.iload_n 1, 1) := by decide +kernel
theorem dX9_byTurns_24 : decode cX9_byTurns 24 = .ok (.ifCond .eq 7, 3) := by decide +kernel
theorem dX9_byTurns_27 : decode cX9_byTurns 27 = .ok (.iload_n 2, 1) := by decide +kernel
theorem dX9_byTurns_28 : decode cX9_byTurns 28 = .ok (.ifCond .ne 20, 3) := by decide +kernel
theorem dX9_byTurns_31 : decode cX9_byTurns 31 = .ok (.iload_n 2, 1) := by decide +kernel
theorem dX9_byTurns_32 : decode cX9_byTurns 32 = .ok (.ifCond .ne 7, 3) := by decide +kernel
theorem dX9_byTurns_35 : decode cX9_byTurns 35 = .ok (.iconst 0, 1) := by decide +kernel
theorem dX9_byTurns_36 : decode cX9_byTurns 36 = .ok (.goto 11, 3) := by decide +kernel
theorem dX9_byTurns_39 : decode cX9_byTurns 39 = .ok (.aload_n 0, 1) := by decide +kernel
theorem dX9_byTurns_40 : decode cX9_byTurns 40 = .ok (.aload_n 0, 1) := by decide +kernel
theorem dX9_byTurns_41 : decode cX9_byTurns 41 = .ok (.getfield 22, 3) := by decide +kernel
theorem dX9_byTurns_44 : decode cX9_byTurns 44 = .ok (.invokevirtual 154, 3) := by decide +kernel
theorem dX9_byTurns_47 : decode cX9_byTurns 47 = .ok (.ireturn, 1) := by decide +kernel
theorem dX9_byTurns_48 : decode cX9_byTurns 48 = .ok (.bipush 99, 2) := by decide +kernel
theorem dX9_byTurns_50 : decode cX9_byTurns 50 = .ok (.istore_n 3, 1) := by decide +kernel
theorem dX9_byTurns_51 : decode cX9_byTurns 51 = .ok (.iconst 0, 1) := by decide +kernel
theorem dX9_byTurns_52 : decode cX9_byTurns 52 = .ok (.istore 4, 2) := by decide +kernel
theorem dX9_byTurns_54 : decode cX9_byTurns 54 = .ok (.iload 4, 2) := by decide +kernel
theorem dX9_byTurns_56 : decode cX9_byTurns 56 = .ok (.iload_n 2, 1) := by decide +kernel
theorem dX9_byTurns_57 : decode cX9_byTurns 57 = .ok (.if_icmp .ge 49, 3) := by decide +kernel
theorem dX9_byTurns_60 : decode cX9_byTurns 60 = .ok (.aload_n 0, 1) := by decide +kernel
theorem dX9_byTurns_61 : decode cX9_byTurns 61 = .ok (.invokevirtual 143, 3) := by decide +kernel
theorem dX9_byTurns_64 : decode cX9_byTurns 64 = .ok (.aload_n 0, 1) := by decide +kernel
theorem dX9_byTurns_65 : decode cX9_byTurns 65 = .ok (.aload_n 0, 1) := by decide +kernel
theorem dX9_byTurns_66 : decode cX9_byTurns 66 = .ok (.getfield 25, 3) := by decide +kernel
theorem dX9_byTurns_69 : decode cX9_byTurns 69 = .ok (.iload 4, 2) := by decide +kernel
theorem dX9_byTurns_71 : decode cX9_byTurns 71 = .ok (.invokevirtual 146, 3) := by decide +kernel
theorem dX9_byTurns_74 : decode cX9_byTurns 74 = .ok (.iload_n 3, 1) := by decide +kernel
theorem dX9_byTurns_75 : decode cX9_byTurns 75 = .ok (.iload_n 1, 1) := by decide +kernel
theorem dX9_byTurns_76 : decode cX9_byTurns 76 = .ok (.iconst 1, 1) := by decide +kernel
theorem dX9_byTurns_77 : decode cX9_byTurns 77 = .ok (.if_icmp .ne 14, 3) := by decide +kernel
theorem dX9_byTurns_80 : decode cX9_byTurns 80 = .ok (.aload_n 0, 1) := by decide +kernel
theorem dX9_byTurns_81 : decode cX9_byTurns 81 = .ok (.aload_n 0, 1) := by decide +kernel
theorem dX9_byTurns_82 : decode cX9_byTurns 82 = .ok (.getfield 25, 3) := by decide +kernel
theorem dX9_byTurns_85 : decode cX9_byTurns 85 = .ok (.invokevirtual 154, 3) := by decide +kernel
theorem dX9_byTurns_88 : decode cX9_byTurns 88 = .ok (.goto 8, 3) := by decide +kernel
theorem dX9_byTurns_91 : decode cX9_byTurns 91 = .ok (.aload_n 0, 1) := by decide +kernel
theorem dX9_byTurns_92 : decode cX9_byTurns 92 = .ok (.iload_n 1, 1) := by decide +kernel
theorem dX9_byTurns_93 : decode cX9_byTurns 93 = .ok (.invokevirtual 194, 3) := by decide +kernel
theorem dX9_byTurns_96 : decode cX9_byTurns 96 = .ok (.invokestatic 191, 3) := by decide +kernel
theorem dX9_byTurns_99 : decode cX9_byTurns 99 = .ok (.istore_n 3, 1) := by decide +kernel
theorem dX9_byTurns_100 : decode cX9_byTurns 100 = .ok (.iinc 4 1, 3) := by decide +kernel
theorem dX9_byTurns_103 : decode cX9_byTurns 103 = .ok (.goto (-49), 3) := by decide +kernel
theorem dX9_byTurns_106 : decode cX9_byTurns 106 = .ok (.iload_n 3, 1) := by decide +kernel
theorem dX9_byTurns_107 : decode cX9_byTurns 107 = .ok (.ireturn, 1) := by decide +kernel
theorem dX9_gcd_0 : decode cX9_gcd 0 = .ok (.lload_n 0, 1) := by decide +kernel
theorem dX9_gcd_1 : decode cX9_gcd 1 = .ok (.lstore 4, 2) := by decide +kernel
theorem dX9_gcd_3 : decode cX9_gcd 3 = .ok (.lload_n 2, 1) := by decide +kernel
theorem dX9_gcd_4 : decode cX9_gcd 4 = .ok (.lstore 6, 2) := by decide +kernel
theorem dX9_gcd_6 : decode cX9_gcd 6 = .ok (.lload 6, 2) := by decide +kernel
theorem dX9_gcd_8 : decode cX9_gcd 8 = .ok (.lconst 0, 1) := by decide +kernel
theorem dX9_gcd_9 : decode cX9_gcd 9 = .ok (.lcmp, 1) := by decide +kernel
theorem dX9_gcd_10 : decode cX9_gcd 10 = .ok (.ifCond .eq 21, 3) := by decide +kernel
theorem dX9_gcd_13 : decode cX9_gcd 13 = .ok (.lload 4, 2) := by decide +kernel
theorem dX9_gcd_15 : decode cX9_gcd 15 = .ok (.lload 6, 2) := by decide +kernel
theorem dX9_gcd_17 : decode cX9_gcd 17 = .ok (.lrem, 1) := by decide +kernel
theorem dX9_gcd_18 : decode cX9_gcd 18 = .ok (.lstore 8, 2) := by decide +kernel
theorem dX9_gcd_20 : decode cX9_gcd 20 = .ok (.lload 6, 2) := by decide +kernel
theorem dX9_gcd_22 : decode cX9_gcd 22 = .ok (.lstore 4, 2) := by decide +kernel
theorem dX9_gcd_24 : decode cX9_gcd 24 = .ok (.lload 8, 2) := by decide +kernel
theorem dX9_gcd_26 : decode cX9_gcd 26 = .ok (.lstore 6, 2) := by decide +kernel
theorem dX9_gcd_28 : decode cX9_gcd 28 = .ok (.goto (-22), 3) := by decide +kernel
theorem dX9_gcd_31 : decode cX9_gcd 31 = .ok (.lload 4, 2) := by decide +kernel
theorem dX9_gcd_33 : decode cX9_gcd 33 = .ok (.lreturn, 1) := by decide +kernel
theorem dX9_odds_0 : decode cX9_odds 0 = .ok (.aload_n 0, 1) := by decide +kernel
theorem dX9_odds_1 : decode cX9_odds 1 = .ok (.iconst 0, 1) := by decide +kernel
theorem dX9_odds_2 : decode cX9_odds 2 = .ok (.putfield 56, 3) := by decide +kernel
theorem dX9_odds_5 : decode cX9_odds 5 = .ok (.iload_n 1, 1) := by decide +kernel
theorem dX9_odds_6 : decode cX9_odds 6 = .ok (.iconst 0, 1) := by decide +kernel
theorem dX9_odds_7 : decode cX9_odds 7 = .ok (.bipush 10, 2) := by decide +kernel
theorem dX9_odds_9 : decode cX9_odds 9 = .ok (.invokestatic 60, 3) := by decide +kernel
theorem dX9_odds_12 : decode cX9_odds 12 = .ok (.ifCond .eq 19, 3) := by decide +kernel
theorem dX9_odds_15 : decode cX9_odds 15 = .ok (.iload_n 2, 1) := by decide +kernel
theorem dX9_odds_16 : decode cX9_odds 16 = .ok (.invokestatic 173, 3) := by decide +kernel
theorem dX9_odds_19 : decode cX9_odds 19 = .ok (.ifCond .eq 12, 3) := by decide +kernel
theorem dX9_odds_22 : decode cX9_odds 22 = .ok (.iload_n 3, 1) := by decide +kernel
theorem dX9_odds_23 : decode cX9_odds 23 = .ok (.iconst 0, 1) := by decide +kernel
theorem dX9_odds_24 : decode cX9_odds 24 = .ok (.iconst 1, 1) := by decide +kernel
theorem dX9_odds_25 : decode cX9_odds 25 = .ok (.invokestatic 60, 3) := by decide +kernel
theorem dX9_odds_28 : decode cX9_odds 28 = .ok (.ifCond .ne 5, 3) := by decide +kernel
theorem dX9_odds_31 : decode cX9_odds 31 = .ok (.iconst (-1), 1) := by decide +kernel
theorem dX9_odds_32 : decode cX9_odds 32 = .ok (.ireturn, 1) := by decide +kernel
theorem dX9_odds_33 : decode cX9_odds 33 = .ok (.lconst 0, 1) := by decide +kernel
theorem dX9_odds_34 : decode cX9_odds 34 = .ok (.lstore 4, 2) := by decide +kernel
theorem dX9_odds_36 : decode cX9_odds 36 = .ok (.lconst 1, 1) := by decide +kernel
theorem dX9_odds_37 : decode cX9_odds 37 = .ok (.lstore 6, 2) := by decide +kernel
theorem dX9_odds_39 : decode cX9_odds 39 = .ok (.iconst 0, 1) := by decide +kernel
theorem dX9_odds_40 : decode cX9_odds 40 = .ok (.istore 8, 2) := by decide +kernel
theorem dX9_odds_42 : decode cX9_odds 42 = .ok (.iload 8, 2) := by decide +kernel
theorem dX9_odds_44 : decode cX9_odds 44 = .ok (.iconst 1, 1) := by decide +kernel
theorem dX9_odds_45 : decode cX9_odds 45 = .ok (.aload_n 0, 1) := by decide +kernel
theorem dX9_odds_46 : decode cX9_odds 46 = .ok (.getfield 13, 3) := by decide +kernel
theorem dX9_odds_49 : decode cX9_odds 49 = .ok (.iconst 1, 1) := by decide +kernel
theorem dX9_odds_50 : decode cX9_odds 50 = .ok (.iaload, 1) := by decide +kernel
theorem dX9_odds_51 : decode cX9_odds 51 = .ok (.ishl, 1) := by decide +kernel
theorem dX9_odds_52 : decode cX9_odds 52 = .ok (.if_icmp .ge 115, 3) := by decide +kernel
theorem dX9_odds_55 : decode cX9_odds 55 = .ok (.aload_n 0, 1) := by decide +kernel
theorem dX9_odds_56 : decode cX9_odds 56 = .ok (.invokevirtual 143, 3) := by decide +kernel
theorem dX9_odds_59 : decode cX9_odds 59 = .ok (.lconst 1, 1) := by decide +kernel
theorem dX9_odds_60 : decode cX9_odds 60 = .ok (.lstore 9, 2) := by decide +kernel
theorem dX9_odds_62 : decode cX9_odds 62 = .ok (.lconst 1, 1) := by decide +kernel
theorem dX9_odds_63 : decode cX9_odds 63 = .ok (.lstore 6, 2) := by decide +kernel
theorem dX9_odds_65 : decode cX9_odds 65 = .ok (.iconst 0, 1) := by decide +kernel
theorem dX9_odds_66 : decode cX9_odds 66 = .ok (.istore 11, 2) := by decide +kernel
theorem dX9_odds_68 : decode cX9_odds 68 = .ok (.iload 11, 2) := by decide +kernel
theorem dX9_odds_70 : decode cX9_odds 70 = .ok (.aload_n 0, 1) := by decide +kernel
theorem dX9_odds_71 : decode cX9_odds 71 = .ok (.getfield 13, 3) := by decide +kernel
theorem dX9_odds_74 : decode cX9_odds 74 = .ok (.iconst 1, 1) := by decide +kernel
theorem dX9_odds_75 : decode cX9_odds 75 = .ok (.iaload, 1) := by decide +kernel
theorem dX9_odds_76 : decode cX9_odds 76 = .ok (.if_icmp .ge 62, 3) := by decide +kernel
theorem dX9_odds_79 : decode cX9_odds 79 = .ok (.lload 9, 2) := by decide +kernel
theorem dX9_odds_81 : decode cX9_odds 81 = .ok (.iload 8, 2) := by decide +kernel
theorem dX9_odds_83 : decode cX9_odds 83 = .ok (.iload 11, 2) := by decide +kernel
theorem dX9_odds_85 : decode cX9_odds 85 = .ok (.invokestatic 118, 3) := by decide +kernel
theorem dX9_odds_88 : decode cX9_odds 88 = .ok (.ifCond .eq 8, 3) := by decide +kernel
theorem dX9_odds_91 : decode cX9_odds 91 = .ok (.iload_n 1, 1) := by decide +kernel
theorem dX9_odds_92 : decode cX9_odds 92 = .ok (.i2l, 1) := by decide +kernel
theorem dX9_odds_93 : decode cX9_odds 93 = .ok (.goto 8, 3) := by decide +kernel
theorem dX9_odds_96 : decode cX9_odds 96 = .ok (.bipush 10, 2) := by decide +kernel
theorem dX9_odds_98 : decode cX9_odds 98 = .ok (.iload_n 1, 1) := by decide +kernel
theorem dX9_odds_99 : decode cX9_odds 99 = .ok (.isub, 1) := by decide +kernel
theorem dX9_odds_100 : decode cX9_odds 100 = .ok (.i2l, 1) := by decide +kernel
theorem dX9_odds_101 : decode cX9_odds 101 = .ok (.lmul, 1) := by decide +kernel
theorem dX9_odds_102 : decode cX9_odds 102 = .ok (.lstore 9, 2) := by decide +kernel
theorem dX9_odds_104 : decode cX9_odds 104 = .ok (.lload 6, 2) := by decide +kernel
theorem dX9_odds_106 : decode cX9_odds 106 = .ok (.ldc2_w 200, 3) := by decide +kernel
theorem dX9_odds_109 : decode cX9_odds 109 = .ok (.lmul, 1) := by decide +kernel
theorem dX9_odds_110 : decode cX9_odds 110 = .ok (.lstore 6, 2) := by decide +kernel
theorem dX9_odds_112 : decode cX9_odds 112 = .ok (.iload 8, 2) := by decide +kernel
theorem dX9_odds_114 : decode cX9_odds 114 = .ok (.iload 11, 2) := by decide +kernel
theorem dX9_odds_116 : decode cX9_odds 116 = .ok (.invokestatic 118, 3) := by decide +kernel
theorem dX9_odds_119 : decode cX9_odds 119 = .ok (.ifCond .eq 13, 3) := by decide +kernel
theorem dX9_odds_122 : decode cX9_odds 122 = .ok (.aload_n 0, 1) := by decide +kernel
theorem dX9_odds_123 : decode cX9_odds 123 = .ok (.aload_n 0, 1) := by decide +kernel
theorem dX9_odds_124 : decode cX9_odds 124 = .ok (.getfield 25, 3) := by decide +kernel
theorem dX9_odds_127 : decode cX9_odds 127 = .ok (.iload 11, 2) := by decide +kernel
theorem dX9_odds_129 : decode cX9_odds 129 = .ok (.invokevirtual 146, 3) := by decide +kernel
theorem dX9_odds_132 : decode cX9_odds 132 = .ok (.iinc 11 1, 3) := by decide +kernel
theorem dX9_odds_135 : decode cX9_odds 135 = .ok (.goto (-67), 3) := by decide +kernel
theorem dX9_odds_138 : decode cX9_odds 138 = .ok (.lload 4, 2) := by decide +kernel
theorem dX9_odds_140 : decode cX9_odds 140 = .ok (.aload_n 0, 1) := by decide +kernel
theorem dX9_odds_141 : decode cX9_odds 141 = .ok (.aload_n 0, 1) := by decide +kernel
theorem dX9_odds_142 : decode cX9_odds 142 = .ok (.getfield 25, 3) := by decide +kernel
theorem dX9_odds_145 : decode cX9_odds 145 = .ok (.invokevirtual 154, 3) := by decide +kernel
theorem dX9_odds_148 : decode cX9_odds 148 = .ok (.iload_n 2, 1) := by decide +kernel
theorem dX9_odds_149 : decode cX9_odds 149 = .ok (.if_icmp .lt 8, 3) := by decide +kernel
theorem dX9_odds_152 : decode cX9_odds 152 = .ok (.lload 9, 2) := by decide +kernel
theorem dX9_odds_154 : decode cX9_odds 154 = .ok (.goto 4, 3) := by decide +kernel
theorem dX9_odds_157 : decode cX9_odds 157 = .ok (.lconst 0, 1) := by decide +kernel
theorem dX9_odds_158 : decode cX9_odds 158 = .ok (.ladd, 1) := by decide +kernel
theorem dX9_odds_159 : decode cX9_odds 159 = .ok (.lstore 4, 2) := by decide +kernel
theorem dX9_odds_161 : decode cX9_odds 161 = .ok (.iinc 8 1, 3) := by decide +kernel
theorem dX9_odds_164 : decode cX9_odds 164 = .ok (.goto (-122), 3) := by decide +kernel
theorem dX9_odds_167 : decode cX9_odds 167 = .ok (.lload 4, 2) := by decide +kernel
theorem dX9_odds_169 : decode cX9_odds 169 = .ok (.lload 6, 2) := by decide +kernel
theorem dX9_odds_171 : decode cX9_odds 171 = .ok (.invokestatic 202, 3) := by decide +kernel
theorem dX9_odds_174 : decode cX9_odds 174 = .ok (.lstore 8, 2) := by decide +kernel
theorem dX9_odds_176 : decode cX9_odds 176 = .ok (.iload_n 3, 1) := by decide +kernel
theorem dX9_odds_177 : decode cX9_odds 177 = .ok (.ifCond .ne 11, 3) := by decide +kernel
theorem dX9_odds_180 : decode cX9_odds 180 = .ok (.lload 4, 2) := by decide +kernel
theorem dX9_odds_182 : decode cX9_odds 182 = .ok (.lload 8, 2) := by decide +kernel
theorem dX9_odds_184 : decode cX9_odds 184 = .ok (.ldiv, 1) := by decide +kernel
theorem dX9_odds_185 : decode cX9_odds 185 = .ok (.goto 8, 3) := by decide +kernel
theorem dX9_odds_188 : decode cX9_odds 188 = .ok (.lload 6, 2) := by decide +kernel
theorem dX9_odds_190 : decode cX9_odds 190 = .ok (.lload 8, 2) := by decide +kernel
theorem dX9_odds_192 : decode cX9_odds 192 = .ok (.ldiv, 1) := by decide +kernel
theorem dX9_odds_193 : decode cX9_odds 193 = .ok (.l2i, 1) := by decide +kernel
theorem dX9_odds_194 : decode cX9_odds 194 = .ok (.ireturn, 1) := by decide +kernel
theorem dX9_winter_0 : decode cX9_winter 0 = .ok (.aload_n 0, 1) := by decide +kernel
theorem dX9_winter_1 : decode cX9_winter 1 = .ok (.iconst 0, 1) := by decide +kernel
theorem dX9_winter_2 : decode cX9_winter 2 = .ok (.putfield 56, 3) := by decide +kernel
theorem dX9_winter_5 : decode cX9_winter 5 = .ok (.iload_n 1, 1) := by decide +kernel
theorem dX9_winter_6 : decode cX9_winter 6 = .ok (.iconst 0, 1) := by decide +kernel
theorem dX9_winter_7 : decode cX9_winter 7 = .ok (.bipush 60, 2) := by decide +kernel
theorem dX9_winter_9 : decode cX9_winter 9 = .ok (.invokestatic 60, 3) := by decide +kernel
theorem dX9_winter_12 : decode cX9_winter 12 = .ok (.ifCond .eq 20, 3) := by decide +kernel
theorem dX9_winter_15 : decode cX9_winter 15 = .ok (.iload_n 2, 1) := by decide +kernel
theorem dX9_winter_16 : decode cX9_winter 16 = .ok (.iconst 1, 1) := by decide +kernel
theorem dX9_winter_17 : decode cX9_winter 17 = .ok (.ldc 206, 2) := by decide +kernel
theorem dX9_winter_19 : decode cX9_winter 19 = .ok (.invokestatic 60, 3) := by decide +kernel
theorem dX9_winter_22 : decode cX9_winter 22 = .ok (.ifCond .eq 10, 3) := by decide +kernel
theorem dX9_winter_25 : decode cX9_winter 25 = .ok (.iload_n 3, 1) := by decide +kernel
theorem dX9_winter_26 : decode cX9_winter 26 = .ok (.invokestatic 173, 3) := by decide +kernel
theorem dX9_winter_29 : decode cX9_winter 29 = .ok (.ifCond .ne 5, 3) := by decide +kernel
theorem dX9_winter_32 : decode cX9_winter 32 = .ok (.iconst (-1), 1) := by decide +kernel
theorem dX9_winter_33 : decode cX9_winter 33 = .ok (.ireturn, 1) := by decide +kernel
theorem dX9_winter_34 : decode cX9_winter 34 = .ok (.aload_n 0, 1) := by decide +kernel
theorem dX9_winter_35 : decode cX9_winter 35 = .ok (.invokevirtual 143, 3) := by decide +kernel
theorem dX9_winter_38 : decode cX9_winter 38 = .ok (.iload_n 2, 1) := by decide +kernel
theorem dX9_winter_39 : decode cX9_winter 39 = .ok (.i2l, 1) := by decide +kernel
theorem dX9_winter_40 : decode cX9_winter 40 = .ok (.lstore 4, 2) := by decide +kernel
theorem dX9_winter_42 : decode cX9_winter 42 = .ok (.iconst 0, 1) := by decide +kernel
theorem dX9_winter_43 : decode cX9_winter 43 = .ok (.istore 6, 2) := by decide +kernel
theorem dX9_winter_45 : decode cX9_winter 45 = .ok (.iconst 0, 1) := by decide +kernel
theorem dX9_winter_46 : decode cX9_winter 46 = .ok (.istore 7, 2) := by decide +kernel
theorem dX9_winter_48 : decode cX9_winter 48 = .ok (.iload 7, 2) := by decide +kernel
theorem dX9_winter_50 : decode cX9_winter 50 = .ok (.iload_n 1, 1) := by decide +kernel
theorem dX9_winter_51 : decode cX9_winter 51 = .ok (.if_icmp .ge 141, 3) := by decide +kernel
theorem dX9_winter_54 : decode cX9_winter 54 = .ok (.lload 4, 2) := by decide +kernel
theorem dX9_winter_56 : decode cX9_winter 56 = .ok (.ldc2_w 207, 3) := by decide +kernel
theorem dX9_winter_59 : decode cX9_winter 59 = .ok (.lmul, 1) := by decide +kernel
theorem dX9_winter_60 : decode cX9_winter 60 = .ok (.ldc2_w 209, 3) := by decide +kernel
theorem dX9_winter_63 : decode cX9_winter 63 = .ok (.lrem, 1) := by decide +kernel
theorem dX9_winter_64 : decode cX9_winter 64 = .ok (.lstore 4, 2) := by decide +kernel
theorem dX9_winter_66 : decode cX9_winter 66 = .ok (.aload_n 0, 1) := by decide +kernel
theorem dX9_winter_67 : decode cX9_winter 67 = .ok (.getfield 13, 3) := by decide +kernel
theorem dX9_winter_70 : decode cX9_winter 70 = .ok (.iconst 1, 1) := by decide +kernel
theorem dX9_winter_71 : decode cX9_winter 71 = .ok (.iaload, 1) := by decide +kernel
theorem dX9_winter_72 : decode cX9_winter 72 = .ok (.ifCond .le 83, 3) := by decide +kernel
theorem dX9_winter_75 : decode cX9_winter 75 = .ok (.lload 4, 2) := by decide +kernel
theorem dX9_winter_77 : decode cX9_winter 77 = .ok (.aload_n 0, 1) := by decide +kernel
theorem dX9_winter_78 : decode cX9_winter 78 = .ok (.getfield 13, 3) := by decide +kernel
theorem dX9_winter_81 : decode cX9_winter 81 = .ok (.iconst 1, 1) := by decide +kernel
theorem dX9_winter_82 : decode cX9_winter 82 = .ok (.iaload, 1) := by decide +kernel
theorem dX9_winter_83 : decode cX9_winter 83 = .ok (.i2l, 1) := by decide +kernel
theorem dX9_winter_84 : decode cX9_winter 84 = .ok (.lrem, 1) := by decide +kernel
theorem dX9_winter_85 : decode cX9_winter 85 = .ok (.l2i, 1) := by decide +kernel
theorem dX9_winter_86 : decode cX9_winter 86 = .ok (.istore 8, 2) := by decide +kernel
theorem dX9_winter_88 : decode cX9_winter 88 = .ok (.lload 4, 2) := by decide +kernel
theorem dX9_winter_90 : decode cX9_winter 90 = .ok (.ldc2_w 211, 3) := by decide +kernel
theorem dX9_winter_93 : decode cX9_winter 93 = .ok (.ldiv, 1) := by decide +kernel
theorem dX9_winter_94 : decode cX9_winter 94 = .ok (.aload_n 0, 1) := by decide +kernel
theorem dX9_winter_95 : decode cX9_winter 95 = .ok (.getfield 13, 3) := by decide +kernel
theorem dX9_winter_98 : decode cX9_winter 98 = .ok (.iconst 0, 1) := by decide +kernel
theorem dX9_winter_99 : decode cX9_winter 99 = .ok (.iaload, 1) := by decide +kernel
theorem dX9_winter_100 : decode cX9_winter 100 = .ok (.i2l, 1) := by decide +kernel
theorem dX9_winter_101 : decode cX9_winter 101 = .ok (.lrem, 1) := by decide +kernel
theorem dX9_winter_102 : decode cX9_winter 102 = .ok (.l2i, 1) := by decide +kernel
theorem dX9_winter_103 : decode cX9_winter 103 = .ok (.istore 9, 2) := by decide +kernel
theorem dX9_winter_105 : decode cX9_winter 105 = .ok (.aload_n 0, 1) := by decide +kernel
theorem dX9_winter_106 : decode cX9_winter 106 = .ok (.getfield 25, 3) := by decide +kernel
theorem dX9_winter_109 : decode cX9_winter 109 = .ok (.iconst 2, 1) := by decide +kernel
theorem dX9_winter_110 : decode cX9_winter 110 = .ok (.bipush 8, 2) := by decide +kernel
theorem dX9_winter_112 : decode cX9_winter 112 = .ok (.iload 8, 2) := by decide +kernel
theorem dX9_winter_114 : decode cX9_winter 114 = .ok (.imul, 1) := by decide +kernel
theorem dX9_winter_115 : decode cX9_winter 115 = .ok (.iadd, 1) := by decide +kernel
theorem dX9_winter_116 : decode cX9_winter 116 = .ok (.iload 9, 2) := by decide +kernel
theorem dX9_winter_118 : decode cX9_winter 118 = .ok (.iadd, 1) := by decide +kernel
theorem dX9_winter_119 : decode cX9_winter 119 = .ok (.iaload, 1) := by decide +kernel
theorem dX9_winter_120 : decode cX9_winter 120 = .ok (.ifCond .eq 22, 3) := by decide +kernel
theorem dX9_winter_123 : decode cX9_winter 123 = .ok (.aload_n 0, 1) := by decide +kernel
theorem dX9_winter_124 : decode cX9_winter 124 = .ok (.getfield 25, 3) := by decide +kernel
theorem dX9_winter_127 : decode cX9_winter 127 = .ok (.iconst 2, 1) := by decide +kernel
theorem dX9_winter_128 : decode cX9_winter 128 = .ok (.bipush 8, 2) := by decide +kernel
theorem dX9_winter_130 : decode cX9_winter 130 = .ok (.iload 8, 2) := by decide +kernel
theorem dX9_winter_132 : decode cX9_winter 132 = .ok (.imul, 1) := by decide +kernel
theorem dX9_winter_133 : decode cX9_winter 133 = .ok (.iadd, 1) := by decide +kernel
theorem dX9_winter_134 : decode cX9_winter 134 = .ok (.iload 9, 2) := by decide +kernel
theorem dX9_winter_136 : decode cX9_winter 136 = .ok (.iadd, 1) := by decide +kernel
theorem dX9_winter_137 : decode cX9_winter 137 = .ok (.iconst 0, 1) := by decide +kernel
theorem dX9_winter_138 : decode cX9_winter 138 = .ok (.iastore, 1) := by decide +kernel
theorem dX9_winter_139 : decode cX9_winter 139 = .ok (.goto 16, 3) := by decide +kernel
theorem dX9_winter_142 : decode cX9_winter 142 = .ok (.aload_n 0, 1) := by decide +kernel
theorem dX9_winter_143 : decode cX9_winter 143 = .ok (.aload_n 0, 1) := by decide +kernel
theorem dX9_winter_144 : decode cX9_winter 144 = .ok (.getfield 25, 3) := by decide +kernel
theorem dX9_winter_147 : decode cX9_winter 147 = .ok (.iload 8, 2) := by decide +kernel
theorem dX9_winter_149 : decode cX9_winter 149 = .ok (.iload 9, 2) := by decide +kernel
theorem dX9_winter_151 : decode cX9_winter 151 = .ok (.invokevirtual 166, 3) := by decide +kernel
theorem dX9_winter_154 : decode cX9_winter 154 = .ok (.pop, 1) := by decide +kernel
theorem dX9_winter_155 : decode cX9_winter 155 = .ok (.aload_n 0, 1) := by decide +kernel
theorem dX9_winter_156 : decode cX9_winter 156 = .ok (.aload_n 0, 1) := by decide +kernel
theorem dX9_winter_157 : decode cX9_winter 157 = .ok (.getfield 25, 3) := by decide +kernel
theorem dX9_winter_160 : decode cX9_winter 160 = .ok (.invokevirtual 170, 3) := by decide +kernel
theorem dX9_winter_163 : decode cX9_winter 163 = .ok (.pop, 1) := by decide +kernel
theorem dX9_winter_164 : decode cX9_winter 164 = .ok (.iload 6, 2) := by decide +kernel
theorem dX9_winter_166 : decode cX9_winter 166 = .ok (.aload_n 0, 1) := by decide +kernel
theorem dX9_winter_167 : decode cX9_winter 167 = .ok (.aload_n 0, 1) := by decide +kernel
theorem dX9_winter_168 : decode cX9_winter 168 = .ok (.getfield 25, 3) := by decide +kernel
theorem dX9_winter_171 : decode cX9_winter 171 = .ok (.invokevirtual 154, 3) := by decide +kernel
theorem dX9_winter_174 : decode cX9_winter 174 = .ok (.iload_n 3, 1) := by decide +kernel
theorem dX9_winter_175 : decode cX9_winter 175 = .ok (.if_icmp .lt 7, 3) := by decide +kernel
theorem dX9_winter_178 : decode cX9_winter 178 = .ok (.iconst 1, 1) := by decide +kernel
theorem dX9_winter_179 : decode cX9_winter 179 = .ok (.goto 4, 3) := by decide +kernel
theorem dX9_winter_182 : decode cX9_winter 182 = .ok (.iconst 0, 1) := by decide +kernel
theorem dX9_winter_183 : decode cX9_winter 183 = .ok (.iadd, 1) := by decide +kernel
theorem dX9_winter_184 : decode cX9_winter 184 = .ok (.istore 6, 2) := by decide +kernel
theorem dX9_winter_186 : decode cX9_winter 186 = .ok (.iinc 7 1, 3) := by decide +kernel
theorem dX9_winter_189 : decode cX9_winter 189 = .ok (.goto (-141), 3) := by decide +kernel
theorem dX9_winter_192 : decode cX9_winter 192 = .ok (.iload 6, 2) := by decide +kernel
theorem dX9_winter_194 : decode cX9_winter 194 = .ok (.ireturn, 1) := by decide +kernel
theorem dX9_sees_0 : decode cX9_sees 0 = .ok (.aload_n 0, 1) := by decide +kernel
theorem dX9_sees_1 : decode cX9_sees 1 = .ok (.iconst 0, 1) := by decide +kernel
theorem dX9_sees_2 : decode cX9_sees 2 = .ok (.putfield 56, 3) := by decide +kernel
theorem dX9_sees_5 : decode cX9_sees 5 = .ok (.iload_n 1, 1) := by decide +kernel
theorem dX9_sees_6 : decode cX9_sees 6 = .ok (.invokestatic 173, 3) := by decide +kernel
theorem dX9_sees_9 : decode cX9_sees 9 = .ok (.ifCond .eq 12, 3) := by decide +kernel
theorem dX9_sees_12 : decode cX9_sees 12 = .ok (.iload_n 2, 1) := by decide +kernel
theorem dX9_sees_13 : decode cX9_sees 13 = .ok (.iconst 0, 1) := by decide +kernel
theorem dX9_sees_14 : decode cX9_sees 14 = .ok (.iconst 1, 1) := by decide +kernel
theorem dX9_sees_15 : decode cX9_sees 15 = .ok (.invokestatic 60, 3) := by decide +kernel
theorem dX9_sees_18 : decode cX9_sees 18 = .ok (.ifCond .ne 5, 3) := by decide +kernel
theorem dX9_sees_21 : decode cX9_sees 21 = .ok (.iconst (-1), 1) := by decide +kernel
theorem dX9_sees_22 : decode cX9_sees 22 = .ok (.ireturn, 1) := by decide +kernel
theorem dX9_sees_23 : decode cX9_sees 23 = .ok (.aload_n 0, 1) := by decide +kernel
theorem dX9_sees_24 : decode cX9_sees 24 = .ok (.getfield 112, 3) := by decide +kernel
theorem dX9_sees_27 : decode cX9_sees 27 = .ok (.bipush 6, 2) := by decide +kernel
theorem dX9_sees_29 : decode cX9_sees 29 = .ok (.if_icmp .ne 6, 3) := by decide +kernel
theorem dX9_sees_32 : decode cX9_sees 32 = .ok (.bipush (-3), 2) := by decide +kernel
theorem dX9_sees_34 : decode cX9_sees 34 = .ok (.ireturn, 1) := by decide +kernel
theorem dX9_sees_35 : decode cX9_sees 35 = .ok (.aload_n 0, 1) := by decide +kernel
theorem dX9_sees_36 : decode cX9_sees 36 = .ok (.getfield 41, 3) := by decide +kernel
theorem dX9_sees_39 : decode cX9_sees 39 = .ok (.aload_n 0, 1) := by decide +kernel
theorem dX9_sees_40 : decode cX9_sees 40 = .ok (.getfield 112, 3) := by decide +kernel
theorem dX9_sees_43 : decode cX9_sees 43 = .ok (.iload_n 1, 1) := by decide +kernel
theorem dX9_sees_44 : decode cX9_sees 44 = .ok (.iastore, 1) := by decide +kernel
theorem dX9_sees_45 : decode cX9_sees 45 = .ok (.aload_n 0, 1) := by decide +kernel
theorem dX9_sees_46 : decode cX9_sees 46 = .ok (.getfield 44, 3) := by decide +kernel
theorem dX9_sees_49 : decode cX9_sees 49 = .ok (.aload_n 0, 1) := by decide +kernel
theorem dX9_sees_50 : decode cX9_sees 50 = .ok (.getfield 112, 3) := by decide +kernel
theorem dX9_sees_53 : decode cX9_sees 53 = .ok (.iload_n 2, 1) := by decide +kernel
theorem dX9_sees_54 : decode cX9_sees 54 = .ok (.iastore, 1) := by decide +kernel
theorem dX9_sees_55 : decode cX9_sees 55 = .ok (.aload_n 0, 1) := by decide +kernel
theorem dX9_sees_56 : decode cX9_sees 56 = .ok (.dup, 1) := by decide +kernel
theorem dX9_sees_57 : decode cX9_sees 57 = .ok (.getfield 112, 3) := by decide +kernel
theorem dX9_sees_60 : decode cX9_sees 60 = .ok (.iconst 1, 1) := by decide +kernel
theorem dX9_sees_61 : decode cX9_sees 61 = .ok (.iadd, 1) := by decide +kernel
theorem dX9_sees_62 : decode cX9_sees 62 = .ok (.putfield 112, 3) := by decide +kernel
theorem dX9_sees_65 : decode cX9_sees 65 = .ok (.aload_n 0, 1) := by decide +kernel
theorem dX9_sees_66 : decode cX9_sees 66 = .ok (.getfield 112, 3) := by decide +kernel
theorem dX9_sees_69 : decode cX9_sees 69 = .ok (.ireturn, 1) := by decide +kernel
theorem dX9_forget_0 : decode cX9_forget 0 = .ok (.aload_n 0, 1) := by decide +kernel
theorem dX9_forget_1 : decode cX9_forget 1 = .ok (.iconst 0, 1) := by decide +kernel
theorem dX9_forget_2 : decode cX9_forget 2 = .ok (.putfield 56, 3) := by decide +kernel
theorem dX9_forget_5 : decode cX9_forget 5 = .ok (.aload_n 0, 1) := by decide +kernel
theorem dX9_forget_6 : decode cX9_forget 6 = .ok (.getfield 112, 3) := by decide +kernel
theorem dX9_forget_9 : decode cX9_forget 9 = .ok (.istore_n 1, 1) := by decide +kernel
theorem dX9_forget_10 : decode cX9_forget 10 = .ok (.aload_n 0, 1) := by decide +kernel
theorem dX9_forget_11 : decode cX9_forget 11 = .ok (.iconst 0, 1) := by decide +kernel
theorem dX9_forget_12 : decode cX9_forget 12 = .ok (.putfield 112, 3) := by decide +kernel
theorem dX9_forget_15 : decode cX9_forget 15 = .ok (.iload_n 1, 1) := by decide +kernel
theorem dX9_forget_16 : decode cX9_forget 16 = .ok (.ireturn, 1) := by decide +kernel
theorem dX9_bridgeBy_0 : decode cX9_bridgeBy 0 = .ok (.aload_n 0, 1) := by decide +kernel
theorem dX9_bridgeBy_1 : decode cX9_bridgeBy 1 = .ok (.getfield 13, 3) := by decide +kernel
theorem dX9_bridgeBy_4 : decode cX9_bridgeBy 4 = .ok (.bipush 18, 2) := by decide +kernel
theorem dX9_bridgeBy_6 : decode cX9_bridgeBy 6 = .ok (.iload_n 1, 1) := by decide +kernel
theorem dX9_bridgeBy_7 : decode cX9_bridgeBy 7 = .ok (.iadd, 1) := by decide +kernel
theorem dX9_bridgeBy_8 : decode cX9_bridgeBy 8 = .ok (.iaload, 1) := by decide +kernel
theorem dX9_bridgeBy_9 : decode cX9_bridgeBy 9 = .ok (.istore_n 3, 1) := by decide +kernel
theorem dX9_bridgeBy_10 : decode cX9_bridgeBy 10 = .ok (.aload_n 0, 1) := by decide +kernel
theorem dX9_bridgeBy_11 : decode cX9_bridgeBy 11 = .ok (.getfield 13, 3) := by decide +kernel
theorem dX9_bridgeBy_14 : decode cX9_bridgeBy 14 = .ok (.bipush 18, 2) := by decide +kernel
theorem dX9_bridgeBy_16 : decode cX9_bridgeBy 16 = .ok (.iload_n 1, 1) := by decide +kernel
theorem dX9_bridgeBy_17 : decode cX9_bridgeBy 17 = .ok (.iadd, 1) := by decide +kernel
theorem dX9_bridgeBy_18 : decode cX9_bridgeBy 18 = .ok (.iload_n 2, 1) := by decide +kernel
theorem dX9_bridgeBy_19 : decode cX9_bridgeBy 19 = .ok (.iastore, 1) := by decide +kernel
theorem dX9_bridgeBy_20 : decode cX9_bridgeBy 20 = .ok (.aload_n 0, 1) := by decide +kernel
theorem dX9_bridgeBy_21 : decode cX9_bridgeBy 21 = .ok (.aload_n 0, 1) := by decide +kernel
theorem dX9_bridgeBy_22 : decode cX9_bridgeBy 22 = .ok (.getfield 22, 3) := by decide +kernel
theorem dX9_bridgeBy_25 : decode cX9_bridgeBy 25 = .ok (.invokevirtual 154, 3) := by decide +kernel
theorem dX9_bridgeBy_28 : decode cX9_bridgeBy 28 = .ok (.istore 4, 2) := by decide +kernel
theorem dX9_bridgeBy_30 : decode cX9_bridgeBy 30 = .ok (.aload_n 0, 1) := by decide +kernel
theorem dX9_bridgeBy_31 : decode cX9_bridgeBy 31 = .ok (.getfield 13, 3) := by decide +kernel
theorem dX9_bridgeBy_34 : decode cX9_bridgeBy 34 = .ok (.bipush 18, 2) := by decide +kernel
theorem dX9_bridgeBy_36 : decode cX9_bridgeBy 36 = .ok (.iload_n 1, 1) := by decide +kernel
theorem dX9_bridgeBy_37 : decode cX9_bridgeBy 37 = .ok (.iadd, 1) := by decide +kernel
theorem dX9_bridgeBy_38 : decode cX9_bridgeBy 38 = .ok (.iload_n 3, 1) := by decide +kernel
theorem dX9_bridgeBy_39 : decode cX9_bridgeBy 39 = .ok (.iastore, 1) := by decide +kernel
theorem dX9_bridgeBy_40 : decode cX9_bridgeBy 40 = .ok (.iload 4, 2) := by decide +kernel
theorem dX9_bridgeBy_42 : decode cX9_bridgeBy 42 = .ok (.ireturn, 1) := by decide +kernel
theorem dX9_wordsOf_0 : decode cX9_wordsOf 0 = .ok (.iconst 0, 1) := by decide +kernel
theorem dX9_wordsOf_1 : decode cX9_wordsOf 1 = .ok (.istore_n 2, 1) := by decide +kernel
theorem dX9_wordsOf_2 : decode cX9_wordsOf 2 = .ok (.iconst 1, 1) := by decide +kernel
theorem dX9_wordsOf_3 : decode cX9_wordsOf 3 = .ok (.istore_n 3, 1) := by decide +kernel
theorem dX9_wordsOf_4 : decode cX9_wordsOf 4 = .ok (.iload_n 3, 1) := by decide +kernel
theorem dX9_wordsOf_5 : decode cX9_wordsOf 5 = .ok (.bipush 10, 2) := by decide +kernel
theorem dX9_wordsOf_7 : decode cX9_wordsOf 7 = .ok (.if_icmp .ge 101, 3) := by decide +kernel
theorem dX9_wordsOf_10 : decode cX9_wordsOf 10 = .ok (.aload_n 0, 1) := by decide +kernel
theorem dX9_wordsOf_11 : decode cX9_wordsOf 11 = .ok (.iload_n 1, 1) := by decide +kernel
theorem dX9_wordsOf_12 : decode cX9_wordsOf 12 = .ok (.iload_n 3, 1) := by decide +kernel
theorem dX9_wordsOf_13 : decode cX9_wordsOf 13 = .ok (.invokevirtual 213, 3) := by decide +kernel
theorem dX9_wordsOf_16 : decode cX9_wordsOf 16 = .ok (.istore 4, 2) := by decide +kernel
theorem dX9_wordsOf_18 : decode cX9_wordsOf 18 = .ok (.iconst 1, 1) := by decide +kernel
theorem dX9_wordsOf_19 : decode cX9_wordsOf 19 = .ok (.istore 5, 2) := by decide +kernel
theorem dX9_wordsOf_21 : decode cX9_wordsOf 21 = .ok (.iconst 0, 1) := by decide +kernel
theorem dX9_wordsOf_22 : decode cX9_wordsOf 22 = .ok (.istore 6, 2) := by decide +kernel
theorem dX9_wordsOf_24 : decode cX9_wordsOf 24 = .ok (.iload 6, 2) := by decide +kernel
theorem dX9_wordsOf_26 : decode cX9_wordsOf 26 = .ok (.aload_n 0, 1) := by decide +kernel
theorem dX9_wordsOf_27 : decode cX9_wordsOf 27 = .ok (.getfield 112, 3) := by decide +kernel
theorem dX9_wordsOf_30 : decode cX9_wordsOf 30 = .ok (.if_icmp .ge 57, 3) := by decide +kernel
theorem dX9_wordsOf_33 : decode cX9_wordsOf 33 = .ok (.iload 5, 2) := by decide +kernel
theorem dX9_wordsOf_35 : decode cX9_wordsOf 35 = .ok (.ifCond .eq 43, 3) := by decide +kernel
theorem dX9_wordsOf_38 : decode cX9_wordsOf 38 = .ok (.iload 4, 2) := by decide +kernel
theorem dX9_wordsOf_40 : decode cX9_wordsOf 40 = .ok (.aload_n 0, 1) := by decide +kernel
theorem dX9_wordsOf_41 : decode cX9_wordsOf 41 = .ok (.getfield 41, 3) := by decide +kernel
theorem dX9_wordsOf_44 : decode cX9_wordsOf 44 = .ok (.iload 6, 2) := by decide +kernel
theorem dX9_wordsOf_46 : decode cX9_wordsOf 46 = .ok (.iaload, 1) := by decide +kernel
theorem dX9_wordsOf_47 : decode cX9_wordsOf 47 = .ok (.if_icmp .lt 7, 3) := by decide +kernel
theorem dX9_wordsOf_50 : decode cX9_wordsOf 50 = .ok (.iconst 1, 1) := by decide +kernel
theorem dX9_wordsOf_51 : decode cX9_wordsOf 51 = .ok (.goto 4, 3) := by decide +kernel
theorem dX9_wordsOf_54 : decode cX9_wordsOf 54 = .ok (.iconst 0, 1) := by decide +kernel
theorem dX9_wordsOf_55 : decode cX9_wordsOf 55 = .ok (.aload_n 0, 1) := by decide +kernel
theorem dX9_wordsOf_56 : decode cX9_wordsOf 56 = .ok (.getfield 44, 3) := by decide +kernel
theorem dX9_wordsOf_59 : decode cX9_wordsOf 59 = .ok (.iload 6, 2) := by decide +kernel
theorem dX9_wordsOf_61 : decode cX9_wordsOf 61 = .ok (.iaload, 1) := by decide +kernel
theorem dX9_wordsOf_62 : decode cX9_wordsOf 62 = .ok (.iconst 1, 1) := by decide +kernel
theorem dX9_wordsOf_63 : decode cX9_wordsOf 63 = .ok (.if_icmp .ne 7, 3) := by decide +kernel
theorem dX9_wordsOf_66 : decode cX9_wordsOf 66 = .ok (.iconst 1, 1) := by decide +kernel
theorem dX9_wordsOf_67 : decode cX9_wordsOf 67 = .ok (.goto 4, 3) := by decide +kernel
theorem dX9_wordsOf_70 : decode cX9_wordsOf 70 = .ok (.iconst 0, 1) := by decide +kernel
theorem dX9_wordsOf_71 : decode cX9_wordsOf 71 = .ok (.if_icmp .ne 7, 3) := by decide +kernel
theorem dX9_wordsOf_74 : decode cX9_wordsOf 74 = .ok (.iconst 1, 1) := by decide +kernel
theorem dX9_wordsOf_75 : decode cX9_wordsOf 75 = .ok (.goto 4, 3) := by decide +kernel
theorem dX9_wordsOf_78 : decode cX9_wordsOf 78 = .ok (.iconst 0, 1) := by decide +kernel
theorem dX9_wordsOf_79 : decode cX9_wordsOf 79 = .ok (.istore 5, 2) := by decide +kernel
theorem dX9_wordsOf_81 : decode cX9_wordsOf 81 = .ok (.iinc 6 1, 3) := by decide +kernel
theorem dX9_wordsOf_84 : decode cX9_wordsOf 84 = .ok (.goto (-60), 3) := by decide +kernel
theorem dX9_wordsOf_87 : decode cX9_wordsOf 87 = .ok (.iload_n 2, 1) := by decide +kernel
theorem dX9_wordsOf_88 : decode cX9_wordsOf 88 = .ok (.iload 5, 2) := by decide +kernel
theorem dX9_wordsOf_90 : decode cX9_wordsOf 90 = .ok (.ifCond .eq 9, 3) := by decide +kernel
theorem dX9_wordsOf_93 : decode cX9_wordsOf 93 = .ok (.iconst 1, 1) := by decide +kernel
theorem dX9_wordsOf_94 : decode cX9_wordsOf 94 = .ok (.iload_n 3, 1) := by decide +kernel
theorem dX9_wordsOf_95 : decode cX9_wordsOf 95 = .ok (.ishl, 1) := by decide +kernel
theorem dX9_wordsOf_96 : decode cX9_wordsOf 96 = .ok (.goto 4, 3) := by decide +kernel
theorem dX9_wordsOf_99 : decode cX9_wordsOf 99 = .ok (.iconst 0, 1) := by decide +kernel
theorem dX9_wordsOf_100 : decode cX9_wordsOf 100 = .ok (.ior, 1) := by decide +kernel
theorem dX9_wordsOf_101 : decode cX9_wordsOf 101 = .ok (.istore_n 2, 1) := by decide +kernel
theorem dX9_wordsOf_102 : decode cX9_wordsOf 102 = .ok (.iinc 3 1, 3) := by decide +kernel
theorem dX9_wordsOf_105 : decode cX9_wordsOf 105 = .ok (.goto (-101), 3) := by decide +kernel
theorem dX9_wordsOf_108 : decode cX9_wordsOf 108 = .ok (.iload_n 2, 1) := by decide +kernel
theorem dX9_wordsOf_109 : decode cX9_wordsOf 109 = .ok (.ireturn, 1) := by decide +kernel
theorem dX9_words_0 : decode cX9_words 0 = .ok (.aload_n 0, 1) := by decide +kernel
theorem dX9_words_1 : decode cX9_words 1 = .ok (.iconst 0, 1) := by decide +kernel
theorem dX9_words_2 : decode cX9_words 2 = .ok (.putfield 56, 3) := by decide +kernel
theorem dX9_words_5 : decode cX9_words 5 = .ok (.aload_n 0, 1) := by decide +kernel
theorem dX9_words_6 : decode cX9_words 6 = .ok (.iload_n 1, 1) := by decide +kernel
theorem dX9_words_7 : decode cX9_words 7 = .ok (.invokevirtual 136, 3) := by decide +kernel
theorem dX9_words_10 : decode cX9_words 10 = .ok (.ifCond .eq 12, 3) := by decide +kernel
theorem dX9_words_13 : decode cX9_words 13 = .ok (.iload_n 2, 1) := by decide +kernel
theorem dX9_words_14 : decode cX9_words 14 = .ok (.iconst 0, 1) := by decide +kernel
theorem dX9_words_15 : decode cX9_words 15 = .ok (.iconst 2, 1) := by decide +kernel
theorem dX9_words_16 : decode cX9_words 16 = .ok (.invokestatic 60, 3) := by decide +kernel
theorem dX9_words_19 : decode cX9_words 19 = .ok (.ifCond .ne 5, 3) := by decide +kernel
theorem dX9_words_22 : decode cX9_words 22 = .ok (.iconst (-1), 1) := by decide +kernel
theorem dX9_words_23 : decode cX9_words 23 = .ok (.ireturn, 1) := by decide +kernel
theorem dX9_words_24 : decode cX9_words 24 = .ok (.aload_n 0, 1) := by decide +kernel
theorem dX9_words_25 : decode cX9_words 25 = .ok (.iload_n 1, 1) := by decide +kernel
theorem dX9_words_26 : decode cX9_words 26 = .ok (.invokevirtual 216, 3) := by decide +kernel
theorem dX9_words_29 : decode cX9_words 29 = .ok (.istore_n 3, 1) := by decide +kernel
theorem dX9_words_30 : decode cX9_words 30 = .ok (.iconst 0, 1) := by decide +kernel
theorem dX9_words_31 : decode cX9_words 31 = .ok (.istore 4, 2) := by decide +kernel
theorem dX9_words_33 : decode cX9_words 33 = .ok (.bipush (-9), 2) := by decide +kernel
theorem dX9_words_35 : decode cX9_words 35 = .ok (.istore 5, 2) := by decide +kernel
theorem dX9_words_37 : decode cX9_words 37 = .ok (.bipush (-9), 2) := by decide +kernel
theorem dX9_words_39 : decode cX9_words 39 = .ok (.istore 6, 2) := by decide +kernel
theorem dX9_words_41 : decode cX9_words 41 = .ok (.iconst 1, 1) := by decide +kernel
theorem dX9_words_42 : decode cX9_words 42 = .ok (.istore 7, 2) := by decide +kernel
theorem dX9_words_44 : decode cX9_words 44 = .ok (.iload 7, 2) := by decide +kernel
theorem dX9_words_46 : decode cX9_words 46 = .ok (.bipush 10, 2) := by decide +kernel
theorem dX9_words_48 : decode cX9_words 48 = .ok (.if_icmp .ge 41, 3) := by decide +kernel
theorem dX9_words_51 : decode cX9_words 51 = .ok (.iload_n 3, 1) := by decide +kernel
theorem dX9_words_52 : decode cX9_words 52 = .ok (.iload 7, 2) := by decide +kernel
theorem dX9_words_54 : decode cX9_words 54 = .ok (.invokestatic 118, 3) := by decide +kernel
theorem dX9_words_57 : decode cX9_words 57 = .ok (.ifCond .eq 26, 3) := by decide +kernel
theorem dX9_words_60 : decode cX9_words 60 = .ok (.iinc 4 1, 3) := by decide +kernel
theorem dX9_words_63 : decode cX9_words 63 = .ok (.iload 5, 2) := by decide +kernel
theorem dX9_words_65 : decode cX9_words 65 = .ok (.bipush (-9), 2) := by decide +kernel
theorem dX9_words_67 : decode cX9_words 67 = .ok (.if_icmp .ne 8, 3) := by decide +kernel
theorem dX9_words_70 : decode cX9_words 70 = .ok (.iload 7, 2) := by decide +kernel
theorem dX9_words_72 : decode cX9_words 72 = .ok (.goto 5, 3) := by decide +kernel
theorem dX9_words_75 : decode cX9_words 75 = .ok (.iload 5, 2) := by decide +kernel
theorem dX9_words_77 : decode cX9_words 77 = .ok (.istore 5, 2) := by decide +kernel
theorem dX9_words_79 : decode cX9_words 79 = .ok (.iload 7, 2) := by decide +kernel
theorem dX9_words_81 : decode cX9_words 81 = .ok (.istore 6, 2) := by decide +kernel
theorem dX9_words_83 : decode cX9_words 83 = .ok (.iinc 7 1, 3) := by decide +kernel
theorem dX9_words_86 : decode cX9_words 86 = .ok (.goto (-42), 3) := by decide +kernel
theorem dX9_words_89 : decode cX9_words 89 = .ok (.iload_n 2, 1) := by decide +kernel
theorem dX9_words_90 : decode cX9_words 90 = .ok (.ifCond .ne 8, 3) := by decide +kernel
theorem dX9_words_93 : decode cX9_words 93 = .ok (.iload 4, 2) := by decide +kernel
theorem dX9_words_95 : decode cX9_words 95 = .ok (.goto 15, 3) := by decide +kernel
theorem dX9_words_98 : decode cX9_words 98 = .ok (.iload_n 2, 1) := by decide +kernel
theorem dX9_words_99 : decode cX9_words 99 = .ok (.iconst 1, 1) := by decide +kernel
theorem dX9_words_100 : decode cX9_words 100 = .ok (.if_icmp .ne 8, 3) := by decide +kernel
theorem dX9_words_103 : decode cX9_words 103 = .ok (.iload 5, 2) := by decide +kernel
theorem dX9_words_105 : decode cX9_words 105 = .ok (.goto 5, 3) := by decide +kernel
theorem dX9_words_108 : decode cX9_words 108 = .ok (.iload 6, 2) := by decide +kernel
theorem dX9_words_110 : decode cX9_words 110 = .ok (.ireturn, 1) := by decide +kernel
theorem dX9_next_0 : decode cX9_next 0 = .ok (.aload_n 0, 1) := by decide +kernel
theorem dX9_next_1 : decode cX9_next 1 = .ok (.iconst 0, 1) := by decide +kernel
theorem dX9_next_2 : decode cX9_next 2 = .ok (.putfield 56, 3) := by decide +kernel
theorem dX9_next_5 : decode cX9_next 5 = .ok (.aload_n 0, 1) := by decide +kernel
theorem dX9_next_6 : decode cX9_next 6 = .ok (.iload_n 1, 1) := by decide +kernel
theorem dX9_next_7 : decode cX9_next 7 = .ok (.invokevirtual 136, 3) := by decide +kernel
theorem dX9_next_10 : decode cX9_next 10 = .ok (.ifCond .ne 5, 3) := by decide +kernel
theorem dX9_next_13 : decode cX9_next 13 = .ok (.iconst (-1), 1) := by decide +kernel
theorem dX9_next_14 : decode cX9_next 14 = .ok (.ireturn, 1) := by decide +kernel
theorem dX9_next_15 : decode cX9_next 15 = .ok (.aload_n 0, 1) := by decide +kernel
theorem dX9_next_16 : decode cX9_next 16 = .ok (.iload_n 1, 1) := by decide +kernel
theorem dX9_next_17 : decode cX9_next 17 = .ok (.invokevirtual 216, 3) := by decide +kernel
theorem dX9_next_20 : decode cX9_next 20 = .ok (.istore_n 2, 1) := by decide +kernel
theorem dX9_next_21 : decode cX9_next 21 = .ok (.iconst 0, 1) := by decide +kernel
theorem dX9_next_22 : decode cX9_next 22 = .ok (.istore_n 3, 1) := by decide +kernel
theorem dX9_next_23 : decode cX9_next 23 = .ok (.iconst 1, 1) := by decide +kernel
theorem dX9_next_24 : decode cX9_next 24 = .ok (.istore 4, 2) := by decide +kernel
theorem dX9_next_26 : decode cX9_next 26 = .ok (.iload 4, 2) := by decide +kernel
theorem dX9_next_28 : decode cX9_next 28 = .ok (.bipush 10, 2) := by decide +kernel
theorem dX9_next_30 : decode cX9_next 30 = .ok (.if_icmp .ge 18, 3) := by decide +kernel
theorem dX9_next_33 : decode cX9_next 33 = .ok (.iload_n 3, 1) := by decide +kernel
theorem dX9_next_34 : decode cX9_next 34 = .ok (.iload_n 2, 1) := by decide +kernel
theorem dX9_next_35 : decode cX9_next 35 = .ok (.iload 4, 2) := by decide +kernel
theorem dX9_next_37 : decode cX9_next 37 = .ok (.ishr, 1) := by decide +kernel
theorem dX9_next_38 : decode cX9_next 38 = .ok (.iconst 1, 1) := by decide +kernel
theorem dX9_next_39 : decode cX9_next 39 = .ok (.iand, 1) := by decide +kernel
theorem dX9_next_40 : decode cX9_next 40 = .ok (.iadd, 1) := by decide +kernel
theorem dX9_next_41 : decode cX9_next 41 = .ok (.istore_n 3, 1) := by decide +kernel
theorem dX9_next_42 : decode cX9_next 42 = .ok (.iinc 4 1, 3) := by decide +kernel
theorem dX9_next_45 : decode cX9_next 45 = .ok (.goto (-19), 3) := by decide +kernel
theorem dX9_next_48 : decode cX9_next 48 = .ok (.bipush (-9), 2) := by decide +kernel
theorem dX9_next_50 : decode cX9_next 50 = .ok (.istore 4, 2) := by decide +kernel
theorem dX9_next_52 : decode cX9_next 52 = .ok (.bipush 99, 2) := by decide +kernel
theorem dX9_next_54 : decode cX9_next 54 = .ok (.istore 5, 2) := by decide +kernel
theorem dX9_next_56 : decode cX9_next 56 = .ok (.iconst 1, 1) := by decide +kernel
theorem dX9_next_57 : decode cX9_next 57 = .ok (.istore 6, 2) := by decide +kernel
theorem dX9_next_59 : decode cX9_next 59 = .ok (.iload 6, 2) := by decide +kernel
theorem dX9_next_61 : decode cX9_next 61 = .ok (.bipush 36, 2) := by decide +kernel
