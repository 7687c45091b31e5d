theorem dX1_turnOne_64 : decode cX1_turnOne 64 = .ok (.getfield 12, 3) := by decide +kernel
theorem dX1_turnOne_67 : decode cX1_turnOne 67 = .ok (.iload_n 3, 1) := by decide +kernel
theorem dX1_turnOne_68 : decode cX1_turnOne 68 = .ok (.iload 4, 2) := by decide +kernel
theorem dX1_turnOne_70 : decode cX1_turnOne 70 = .ok (.invokevirtual 62, 3) := by decide +kernel
theorem dX1_turnOne_73 : decode cX1_turnOne 73 = .ok (.goto 18, 3) := by decide +kernel
theorem dX1_turnOne_76 : decode cX1_turnOne 76 = .ok (.aload_n 0, 1) := by decide +kernel
theorem dX1_turnOne_77 : decode cX1_turnOne 77 = .ok (.getfield 12, 3) := by decide +kernel
theorem dX1_turnOne_80 : decode cX1_turnOne 80 = .ok (.aload_n 0, 1) := by decide +kernel
theorem dX1_turnOne_81 : decode cX1_turnOne 81 = .ok (.getfield 18, 3) := by decide +kernel
theorem dX1_turnOne_84 : decode cX1_turnOne 84 = .ok (.iload_n 3, 1) := by decide +kernel
theorem dX1_turnOne_85 : decode cX1_turnOne 85 = .ok (.iload 4, 2) := by decide +kernel
theorem dX1_turnOne_87 : decode cX1_turnOne 87 = .ok (.invokevirtual 108, 3) := by decide +kernel
theorem dX1_turnOne_90 : decode cX1_turnOne 90 = .ok (.pop, 1) := by decide +kernel
theorem dX1_turnOne_91 : decode cX1_turnOne 91 = .ok (.return_, 1) := by decide +kernel
theorem dX1_daysBorne_0 : decode cX1_daysBorne 0 = .ok (.aload_n 0, 1) := by decide +kernel
theorem dX1_daysBorne_1 : decode cX1_daysBorne 1 = .ok (.getfield 12, 3) := by decide +kernel
theorem dX1_daysBorne_4 : decode cX1_daysBorne 4 = .ok (.aload_n 0, 1) := by decide +kernel
theorem dX1_daysBorne_5 : decode cX1_daysBorne 5 = .ok (.getfield 26, 3) := by decide +kernel
theorem dX1_daysBorne_8 : decode cX1_daysBorne 8 = .ok (.invokevirtual 41, 3) := by decide +kernel
theorem dX1_daysBorne_11 : decode cX1_daysBorne 11 = .ok (.iload_n 2, 1) := by decide +kernel
theorem dX1_daysBorne_12 : decode cX1_daysBorne 12 = .ok (.i2l, 1) := by decide +kernel
theorem dX1_daysBorne_13 : decode cX1_daysBorne 13 = .ok (.lstore 4, 2) := by decide +kernel
theorem dX1_daysBorne_15 : decode cX1_daysBorne 15 = .ok (.iconst 0, 1) := by decide +kernel
theorem dX1_daysBorne_16 : decode cX1_daysBorne 16 = .ok (.istore 6, 2) := by decide +kernel
theorem dX1_daysBorne_18 : decode cX1_daysBorne 18 = .ok (.iconst 0, 1) := by decide +kernel
theorem dX1_daysBorne_19 : decode cX1_daysBorne 19 = .ok (.istore 7, 2) := by decide +kernel
theorem dX1_daysBorne_21 : decode cX1_daysBorne 21 = .ok (.iload 7, 2) := by decide +kernel
theorem dX1_daysBorne_23 : decode cX1_daysBorne 23 = .ok (.iload_n 1, 1) := by decide +kernel
theorem dX1_daysBorne_24 : decode cX1_daysBorne 24 = .ok (.if_icmp .ge 54, 3) := by decide +kernel
theorem dX1_daysBorne_27 : decode cX1_daysBorne 27 = .ok (.lload 4, 2) := by decide +kernel
theorem dX1_daysBorne_29 : decode cX1_daysBorne 29 = .ok (.ldc2_w 92, 3) := by decide +kernel
theorem dX1_daysBorne_32 : decode cX1_daysBorne 32 = .ok (.lmul, 1) := by decide +kernel
theorem dX1_daysBorne_33 : decode cX1_daysBorne 33 = .ok (.ldc2_w 94, 3) := by decide +kernel
theorem dX1_daysBorne_36 : decode cX1_daysBorne 36 = .ok (.lrem, 1) := by decide +kernel
theorem dX1_daysBorne_37 : decode cX1_daysBorne 37 = .ok (.lstore 4, 2) := by decide +kernel
theorem dX1_daysBorne_39 : decode cX1_daysBorne 39 = .ok (.aload_n 0, 1) := by decide +kernel
theorem dX1_daysBorne_40 : decode cX1_daysBorne 40 = .ok (.lload 4, 2) := by decide +kernel
theorem dX1_daysBorne_42 : decode cX1_daysBorne 42 = .ok (.invokevirtual 96, 3) := by decide +kernel
theorem dX1_daysBorne_45 : decode cX1_daysBorne 45 = .ok (.aload_n 0, 1) := by decide +kernel
theorem dX1_daysBorne_46 : decode cX1_daysBorne 46 = .ok (.getfield 12, 3) := by decide +kernel
theorem dX1_daysBorne_49 : decode cX1_daysBorne 49 = .ok (.invokevirtual 100, 3) := by decide +kernel
theorem dX1_daysBorne_52 : decode cX1_daysBorne 52 = .ok (.pop, 1) := by decide +kernel
theorem dX1_daysBorne_53 : decode cX1_daysBorne 53 = .ok (.aload_n 0, 1) := by decide +kernel
theorem dX1_daysBorne_54 : decode cX1_daysBorne 54 = .ok (.getfield 22, 3) := by decide +kernel
theorem dX1_daysBorne_57 : decode cX1_daysBorne 57 = .ok (.aload_n 0, 1) := by decide +kernel
theorem dX1_daysBorne_58 : decode cX1_daysBorne 58 = .ok (.getfield 12, 3) := by decide +kernel
theorem dX1_daysBorne_61 : decode cX1_daysBorne 61 = .ok (.iconst 0, 1) := by decide +kernel
theorem dX1_daysBorne_62 : decode cX1_daysBorne 62 = .ok (.invokevirtual 35, 3) := by decide +kernel
theorem dX1_daysBorne_65 : decode cX1_daysBorne 65 = .ok (.iload_n 3, 1) := by decide +kernel
theorem dX1_daysBorne_66 : decode cX1_daysBorne 66 = .ok (.if_icmp .lt 6, 3) := by decide +kernel
theorem dX1_daysBorne_69 : decode cX1_daysBorne 69 = .ok (.iinc 6 1, 3) := by decide +kernel
theorem dX1_daysBorne_72 : decode cX1_daysBorne 72 = .ok (.iinc 7 1, 3) := by decide +kernel
theorem dX1_daysBorne_75 : decode cX1_daysBorne 75 = .ok (.goto (-54), 3) := by decide +kernel
theorem dX1_daysBorne_78 : decode cX1_daysBorne 78 = .ok (.iload 6, 2) := by decide +kernel
theorem dX1_daysBorne_80 : decode cX1_daysBorne 80 = .ok (.ireturn, 1) := by decide +kernel
theorem dX2_see_0 : decode cX2_see 0 = .ok (.aload_n 0, 1) := by decide +kernel
theorem dX2_see_1 : decode cX2_see 1 = .ok (.getfield 19, 3) := by decide +kernel
theorem dX2_see_4 : decode cX2_see 4 = .ok (.bipush 6, 2) := by decide +kernel
theorem dX2_see_6 : decode cX2_see 6 = .ok (.if_icmp .lt 5, 3) := by decide +kernel
theorem dX2_see_9 : decode cX2_see 9 = .ok (.iconst 0, 1) := by decide +kernel
theorem dX2_see_10 : decode cX2_see 10 = .ok (.ireturn, 1) := by decide +kernel
theorem dX2_see_11 : decode cX2_see 11 = .ok (.aload_n 0, 1) := by decide +kernel
theorem dX2_see_12 : decode cX2_see 12 = .ok (.getfield 9, 3) := by decide +kernel
theorem dX2_see_15 : decode cX2_see 15 = .ok (.aload_n 0, 1) := by decide +kernel
theorem dX2_see_16 : decode cX2_see 16 = .ok (.getfield 19, 3) := by decide +kernel
theorem dX2_see_19 : decode cX2_see 19 = .ok (.iload_n 1, 1) := by decide +kernel
theorem dX2_see_20 : decode cX2_see 20 = .ok (.iastore, 1) := by decide +kernel
theorem dX2_see_21 : decode cX2_see 21 = .ok (.aload_n 0, 1) := by decide +kernel
theorem dX2_see_22 : decode cX2_see 22 = .ok (.getfield 15, 3) := by decide +kernel
theorem dX2_see_25 : decode cX2_see 25 = .ok (.aload_n 0, 1) := by decide +kernel
theorem dX2_see_26 : decode cX2_see 26 = .ok (.getfield 19, 3) := by decide +kernel
theorem dX2_see_29 : decode cX2_see 29 = .ok (.iload_n 2, 1) := by decide +kernel
theorem dX2_see_30 : decode cX2_see 30 = .ok (.bastore, 1) := by decide +kernel
theorem dX2_see_31 : decode cX2_see 31 = .ok (.aload_n 0, 1) := by decide +kernel
theorem dX2_see_32 : decode cX2_see 32 = .ok (.dup, 1) := by decide +kernel
theorem dX2_see_33 : decode cX2_see 33 = .ok (.getfield 19, 3) := by decide +kernel
theorem dX2_see_36 : decode cX2_see 36 = .ok (.iconst 1, 1) := by decide +kernel
theorem dX2_see_37 : decode cX2_see 37 = .ok (.iadd, 1) := by decide +kernel
theorem dX2_see_38 : decode cX2_see 38 = .ok (.putfield 19, 3) := by decide +kernel
theorem dX2_see_41 : decode cX2_see 41 = .ok (.iconst 1, 1) := by decide +kernel
theorem dX2_see_42 : decode cX2_see 42 = .ok (.ireturn, 1) := by decide +kernel
theorem dX2_bridgeWith_0 : decode cX2_bridgeWith 0 = .ok (.bipush 36, 2) := by decide +kernel
theorem dX2_bridgeWith_2 : decode cX2_bridgeWith 2 = .ok (.istore_n 3, 1) := by decide +kernel
theorem dX2_bridgeWith_3 : decode cX2_bridgeWith 3 = .ok (.iconst 0, 1) := by decide +kernel
theorem dX2_bridgeWith_4 : decode cX2_bridgeWith 4 = .ok (.istore 4, 2) := by decide +kernel
theorem dX2_bridgeWith_6 : decode cX2_bridgeWith 6 = .ok (.iload 4, 2) := by decide +kernel
theorem dX2_bridgeWith_8 : decode cX2_bridgeWith 8 = .ok (.aload_n 0, 1) := by decide +kernel
theorem dX2_bridgeWith_9 : decode cX2_bridgeWith 9 = .ok (.getfield 32, 3) := by decide +kernel
theorem dX2_bridgeWith_12 : decode cX2_bridgeWith 12 = .ok (.getfield 56, 3) := by decide +kernel
theorem dX2_bridgeWith_15 : decode cX2_bridgeWith 15 = .ok (.if_icmp .ge 35, 3) := by decide +kernel
theorem dX2_bridgeWith_18 : decode cX2_bridgeWith 18 = .ok (.iload_n 3, 1) := by decide +kernel
theorem dX2_bridgeWith_19 : decode cX2_bridgeWith 19 = .ok (.aload_n 0, 1) := by decide +kernel
theorem dX2_bridgeWith_20 : decode cX2_bridgeWith 20 = .ok (.getfield 36, 3) := by decide +kernel
theorem dX2_bridgeWith_23 : decode cX2_bridgeWith 23 = .ok (.iload 4, 2) := by decide +kernel
theorem dX2_bridgeWith_25 : decode cX2_bridgeWith 25 = .ok (.aload_n 0, 1) := by decide +kernel
theorem dX2_bridgeWith_26 : decode cX2_bridgeWith 26 = .ok (.getfield 40, 3) := by decide +kernel
theorem dX2_bridgeWith_29 : decode cX2_bridgeWith 29 = .ok (.getfield 61, 3) := by decide +kernel
theorem dX2_bridgeWith_32 : decode cX2_bridgeWith 32 = .ok (.iload 4, 2) := by decide +kernel
theorem dX2_bridgeWith_34 : decode cX2_bridgeWith 34 = .ok (.iaload, 1) := by decide +kernel
theorem dX2_bridgeWith_35 : decode cX2_bridgeWith 35 = .ok (.iload_n 1, 1) := by decide +kernel
theorem dX2_bridgeWith_36 : decode cX2_bridgeWith 36 = .ok (.iload_n 2, 1) := by decide +kernel
theorem dX2_bridgeWith_37 : decode cX2_bridgeWith 37 = .ok (.invokevirtual 66, 3) := by decide +kernel
theorem dX2_bridgeWith_40 : decode cX2_bridgeWith 40 = .ok (.invokestatic 72, 3) := by decide +kernel
theorem dX2_bridgeWith_43 : decode cX2_bridgeWith 43 = .ok (.istore_n 3, 1) := by decide +kernel
theorem dX2_bridgeWith_44 : decode cX2_bridgeWith 44 = .ok (.iinc 4 1, 3) := by decide +kernel
theorem dX2_bridgeWith_47 : decode cX2_bridgeWith 47 = .ok (.goto (-41), 3) := by decide +kernel
theorem dX2_bridgeWith_50 : decode cX2_bridgeWith 50 = .ok (.iload_n 3, 1) := by decide +kernel
theorem dX2_bridgeWith_51 : decode cX2_bridgeWith 51 = .ok (.ireturn, 1) := by decide +kernel
theorem dX2_agrees_0 : decode cX2_agrees 0 = .ok (.iconst 0, 1) := by decide +kernel
theorem dX2_agrees_1 : decode cX2_agrees 1 = .ok (.istore_n 2, 1) := by decide +kernel
theorem dX2_agrees_2 : decode cX2_agrees 2 = .ok (.iload_n 2, 1) := by decide +kernel
theorem dX2_agrees_3 : decode cX2_agrees 3 = .ok (.aload_n 0, 1) := by decide +kernel
theorem dX2_agrees_4 : decode cX2_agrees 4 = .ok (.getfield 19, 3) := by decide +kernel
theorem dX2_agrees_7 : decode cX2_agrees 7 = .ok (.if_icmp .ge 35, 3) := by decide +kernel
theorem dX2_agrees_10 : decode cX2_agrees 10 = .ok (.iload_n 1, 1) := by decide +kernel
theorem dX2_agrees_11 : decode cX2_agrees 11 = .ok (.aload_n 0, 1) := by decide +kernel
theorem dX2_agrees_12 : decode cX2_agrees 12 = .ok (.getfield 9, 3) := by decide +kernel
theorem dX2_agrees_15 : decode cX2_agrees 15 = .ok (.iload_n 2, 1) := by decide +kernel
theorem dX2_agrees_16 : decode cX2_agrees 16 = .ok (.iaload, 1) := by decide +kernel
theorem dX2_agrees_17 : decode cX2_agrees 17 = .ok (.if_icmp .lt 7, 3) := by decide +kernel
theorem dX2_agrees_20 : decode cX2_agrees 20 = .ok (.iconst 1, 1) := by decide +kernel
theorem dX2_agrees_21 : decode cX2_agrees 21 = .ok (.goto 4, 3) := by decide +kernel
theorem dX2_agrees_24 : decode cX2_agrees 24 = .ok (.iconst 0, 1) := by decide +kernel
theorem dX2_agrees_25 : decode cX2_agrees 25 = .ok (.aload_n 0, 1) := by decide +kernel
theorem dX2_agrees_26 : decode cX2_agrees 26 = .ok (.getfield 15, 3) := by decide +kernel
theorem dX2_agrees_29 : decode cX2_agrees 29 = .ok (.iload_n 2, 1) := by decide +kernel
theorem dX2_agrees_30 : decode cX2_agrees 30 = .ok (.baload, 1) := by decide +kernel
theorem dX2_agrees_31 : decode cX2_agrees 31 = .ok (.if_icmp .eq 5, 3) := by decide +kernel
theorem dX2_agrees_34 : decode cX2_agrees 34 = .ok (.iconst 0, 1) := by decide +kernel
theorem dX2_agrees_35 : decode cX2_agrees 35 = .ok (.ireturn, 1) := by decide +kernel
theorem dX2_agrees_36 : decode cX2_agrees 36 = .ok (.iinc 2 1, 3) := by decide +kernel
theorem dX2_agrees_39 : decode cX2_agrees 39 = .ok (.goto (-37), 3) := by decide +kernel
theorem dX2_agrees_42 : decode cX2_agrees 42 = .ok (.iconst 1, 1) := by decide +kernel
theorem dX2_agrees_43 : decode cX2_agrees 43 = .ok (.ireturn, 1) := by decide +kernel
theorem dX2_gather_0 : decode cX2_gather 0 = .ok (.iconst 0, 1) := by decide +kernel
theorem dX2_gather_1 : decode cX2_gather 1 = .ok (.istore_n 2, 1) := by decide +kernel
theorem dX2_gather_2 : decode cX2_gather 2 = .ok (.aload_n 0, 1) := by decide +kernel
theorem dX2_gather_3 : decode cX2_gather 3 = .ok (.bipush (-9), 2) := by decide +kernel
theorem dX2_gather_5 : decode cX2_gather 5 = .ok (.putfield 26, 3) := by decide +kernel
theorem dX2_gather_8 : decode cX2_gather 8 = .ok (.aload_n 0, 1) := by decide +kernel
theorem dX2_gather_9 : decode cX2_gather 9 = .ok (.bipush (-9), 2) := by decide +kernel
theorem dX2_gather_11 : decode cX2_gather 11 = .ok (.putfield 29, 3) := by decide +kernel
theorem dX2_gather_14 : decode cX2_gather 14 = .ok (.iconst 1, 1) := by decide +kernel
theorem dX2_gather_15 : decode cX2_gather 15 = .ok (.istore_n 3, 1) := by decide +kernel
theorem dX2_gather_16 : decode cX2_gather 16 = .ok (.iload_n 3, 1) := by decide +kernel
theorem dX2_gather_17 : decode cX2_gather 17 = .ok (.bipush 9, 2) := by decide +kernel
theorem dX2_gather_19 : decode cX2_gather 19 = .ok (.if_icmp .gt 63, 3) := by decide +kernel
theorem dX2_gather_22 : decode cX2_gather 22 = .ok (.aload_n 0, 1) := by decide +kernel
theorem dX2_gather_23 : decode cX2_gather 23 = .ok (.iload_n 1, 1) := by decide +kernel
theorem dX2_gather_24 : decode cX2_gather 24 = .ok (.iload_n 3, 1) := by decide +kernel
theorem dX2_gather_25 : decode cX2_gather 25 = .ok (.invokevirtual 44, 3) := by decide +kernel
theorem dX2_gather_28 : decode cX2_gather 28 = .ok (.istore 4, 2) := by decide +kernel
theorem dX2_gather_30 : decode cX2_gather 30 = .ok (.aload_n 0, 1) := by decide +kernel
theorem dX2_gather_31 : decode cX2_gather 31 = .ok (.iload 4, 2) := by decide +kernel
theorem dX2_gather_33 : decode cX2_gather 33 = .ok (.invokevirtual 48, 3) := by decide +kernel
theorem dX2_gather_36 : decode cX2_gather 36 = .ok (.ifCond .eq 40, 3) := by decide +kernel
theorem dX2_gather_39 : decode cX2_gather 39 = .ok (.aload_n 0, 1) := by decide +kernel
theorem dX2_gather_40 : decode cX2_gather 40 = .ok (.getfield 23, 3) := by decide +kernel
theorem dX2_gather_43 : decode cX2_gather 43 = .ok (.iload_n 2, 1) := by decide +kernel
theorem dX2_gather_44 : decode cX2_gather 44 = .ok (.iload 4, 2) := by decide +kernel
theorem dX2_gather_46 : decode cX2_gather 46 = .ok (.iastore, 1) := by decide +kernel
theorem dX2_gather_47 : decode cX2_gather 47 = .ok (.iinc 2 1, 3) := by decide +kernel
theorem dX2_gather_50 : decode cX2_gather 50 = .ok (.aload_n 0, 1) := by decide +kernel
theorem dX2_gather_51 : decode cX2_gather 51 = .ok (.aload_n 0, 1) := by decide +kernel
theorem dX2_gather_52 : decode cX2_gather 52 = .ok (.getfield 26, 3) := by decide +kernel
theorem dX2_gather_55 : decode cX2_gather 55 = .ok (.bipush (-9), 2) := by decide +kernel
theorem dX2_gather_57 : decode cX2_gather 57 = .ok (.if_icmp .ne 7, 3) := by decide +kernel
theorem dX2_gather_60 : decode cX2_gather 60 = .ok (.iload_n 3, 1) := by decide +kernel
theorem dX2_gather_61 : decode cX2_gather 61 = .ok (.goto 7, 3) := by decide +kernel
theorem dX2_gather_64 : decode cX2_gather 64 = .ok (.aload_n 0, 1) := by decide +kernel
theorem dX2_gather_65 : decode cX2_gather 65 = .ok (.getfield 26, 3) := by decide +kernel
theorem dX2_gather_68 : decode cX2_gather 68 = .ok (.putfield 26, 3) := by decide +kernel
theorem dX2_gather_71 : decode cX2_gather 71 = .ok (.aload_n 0, 1) := by decide +kernel
theorem dX2_gather_72 : decode cX2_gather 72 = .ok (.iload_n 3, 1) := by decide +kernel
theorem dX2_gather_73 : decode cX2_gather 73 = .ok (.putfield 29, 3) := by decide +kernel
theorem dX2_gather_76 : decode cX2_gather 76 = .ok (.iinc 3 1, 3) := by decide +kernel
theorem dX2_gather_79 : decode cX2_gather 79 = .ok (.goto (-63), 3) := by decide +kernel
theorem dX2_gather_82 : decode cX2_gather 82 = .ok (.iload_n 2, 1) := by decide +kernel
theorem dX2_gather_83 : decode cX2_gather 83 = .ok (.ireturn, 1) := by decide +kernel
theorem dX2_leastWord_0 : decode cX2_leastWord 0 = .ok (.aload_n 0, 1) := by decide +kernel
theorem dX2_leastWord_1 : decode cX2_leastWord 1 = .ok (.iload_n 1, 1) := by decide +kernel
theorem dX2_leastWord_2 : decode cX2_leastWord 2 = .ok (.invokevirtual 52, 3) := by decide +kernel
theorem dX2_leastWord_5 : decode cX2_leastWord 5 = .ok (.pop, 1) := by decide +kernel
theorem dX2_leastWord_6 : decode cX2_leastWord 6 = .ok (.aload_n 0, 1) := by decide +kernel
theorem dX2_leastWord_7 : decode cX2_leastWord 7 = .ok (.getfield 26, 3) := by decide +kernel
theorem dX2_leastWord_10 : decode cX2_leastWord 10 = .ok (.ireturn, 1) := by decide +kernel
theorem dX2_greatestWord_0 : decode cX2_greatestWord 0 = .ok (.aload_n 0, 1) := by decide +kernel
theorem dX2_greatestWord_1 : decode cX2_greatestWord 1 = .ok (.iload_n 1, 1) := by decide +kernel
theorem dX2_greatestWord_2 : decode cX2_greatestWord 2 = .ok (.invokevirtual 52, 3) := by decide +kernel
theorem dX2_greatestWord_5 : decode cX2_greatestWord 5 = .ok (.pop, 1) := by decide +kernel
theorem dX2_greatestWord_6 : decode cX2_greatestWord 6 = .ok (.aload_n 0, 1) := by decide +kernel
theorem dX2_greatestWord_7 : decode cX2_greatestWord 7 = .ok (.getfield 29, 3) := by decide +kernel
theorem dX2_greatestWord_10 : decode cX2_greatestWord 10 = .ok (.ireturn, 1) := by decide +kernel
theorem dX2_howManyBear_0 : decode cX2_howManyBear 0 = .ok (.iconst 0, 1) := by decide +kernel
theorem dX2_howManyBear_1 : decode cX2_howManyBear 1 = .ok (.istore_n 3, 1) := by decide +kernel
theorem dX2_howManyBear_2 : decode cX2_howManyBear 2 = .ok (.iconst 0, 1) := by decide +kernel
theorem dX2_howManyBear_3 : decode cX2_howManyBear 3 = .ok (.istore 4, 2) := by decide +kernel
theorem dX2_howManyBear_5 : decode cX2_howManyBear 5 = .ok (.iload 4, 2) := by decide +kernel
theorem dX2_howManyBear_7 : decode cX2_howManyBear 7 = .ok (.iload_n 2, 1) := by decide +kernel
theorem dX2_howManyBear_8 : decode cX2_howManyBear 8 = .ok (.if_icmp .ge 23, 3) := by decide +kernel
theorem dX2_howManyBear_11 : decode cX2_howManyBear 11 = .ok (.aload_n 0, 1) := by decide +kernel
theorem dX2_howManyBear_12 : decode cX2_howManyBear 12 = .ok (.getfield 23, 3) := by decide +kernel
theorem dX2_howManyBear_15 : decode cX2_howManyBear 15 = .ok (.iload 4, 2) := by decide +kernel
theorem dX2_howManyBear_17 : decode cX2_howManyBear 17 = .ok (.iaload, 1) := by decide +kernel
theorem dX2_howManyBear_18 : decode cX2_howManyBear 18 = .ok (.iload_n 1, 1) := by decide +kernel
theorem dX2_howManyBear_19 : decode cX2_howManyBear 19 = .ok (.if_icmp .lt 6, 3) := by decide +kernel
theorem dX2_howManyBear_22 : decode cX2_howManyBear 22 = .ok (.iinc 3 1, 3) := by decide +kernel
theorem dX2_howManyBear_25 : decode cX2_howManyBear 25 = .ok (.iinc 4 1, 3) := by decide +kernel
theorem dX2_howManyBear_28 : decode cX2_howManyBear 28 = .ok (.goto (-23), 3) := by decide +kernel
theorem dX2_howManyBear_31 : decode cX2_howManyBear 31 = .ok (.iload_n 3, 1) := by decide +kernel
theorem dX2_howManyBear_32 : decode cX2_howManyBear 32 = .ok (.ireturn, 1) := by decide +kernel
theorem dX2_bestTry_0 : decode cX2_bestTry 0 = .ok (.aload_n 0, 1) := by decide +kernel
theorem dX2_bestTry_1 : decode cX2_bestTry 1 = .ok (.iload_n 1, 1) := by decide +kernel
theorem dX2_bestTry_2 : decode cX2_bestTry 2 = .ok (.invokevirtual 52, 3) := by decide +kernel
theorem dX2_bestTry_5 : decode cX2_bestTry 5 = .ok (.istore_n 2, 1) := by decide +kernel
theorem dX2_bestTry_6 : decode cX2_bestTry 6 = .ok (.iload_n 2, 1) := by decide +kernel
theorem dX2_bestTry_7 : decode cX2_bestTry 7 = .ok (.iconst 1, 1) := by decide +kernel
theorem dX2_bestTry_8 : decode cX2_bestTry 8 = .ok (.if_icmp .gt 6, 3) := by decide +kernel
theorem dX2_bestTry_11 : decode cX2_bestTry 11 = .ok (.bipush (-9), 2) := by decide +kernel
theorem dX2_bestTry_13 : decode cX2_bestTry 13 = .ok (.ireturn, 1) := by decide +kernel
theorem dX2_bestTry_14 : decode cX2_bestTry 14 = .ok (.bipush (-9), 2) := by decide +kernel
theorem dX2_bestTry_16 : decode cX2_bestTry 16 = .ok (.istore_n 3, 1) := by decide +kernel
theorem dX2_bestTry_17 : decode cX2_bestTry 17 = .ok (.bipush 10, 2) := by decide +kernel
theorem dX2_bestTry_19 : decode cX2_bestTry 19 = .ok (.istore 4, 2) := by decide +kernel
theorem dX2_bestTry_21 : decode cX2_bestTry 21 = .ok (.iconst 1, 1) := by decide +kernel
theorem dX2_bestTry_22 : decode cX2_bestTry 22 = .ok (.istore 5, 2) := by decide +kernel
theorem dX2_bestTry_24 : decode cX2_bestTry 24 = .ok (.iload 5, 2) := by decide +kernel
theorem dX2_bestTry_26 : decode cX2_bestTry 26 = .ok (.bipush 36, 2) := by decide +kernel
theorem dX2_bestTry_28 : decode cX2_bestTry 28 = .ok (.if_icmp .gt 43, 3) := by decide +kernel
theorem dX2_bestTry_31 : decode cX2_bestTry 31 = .ok (.aload_n 0, 1) := by decide +kernel
theorem dX2_bestTry_32 : decode cX2_bestTry 32 = .ok (.iload 5, 2) := by decide +kernel
theorem dX2_bestTry_34 : decode cX2_bestTry 34 = .ok (.iload_n 2, 1) := by decide +kernel
theorem dX2_bestTry_35 : decode cX2_bestTry 35 = .ok (.invokevirtual 77, 3) := by decide +kernel
theorem dX2_bestTry_38 : decode cX2_bestTry 38 = .ok (.istore 6, 2) := by decide +kernel
theorem dX2_bestTry_40 : decode cX2_bestTry 40 = .ok (.iload 6, 2) := by decide +kernel
theorem dX2_bestTry_42 : decode cX2_bestTry 42 = .ok (.iload_n 2, 1) := by decide +kernel
theorem dX2_bestTry_43 : decode cX2_bestTry 43 = .ok (.iload 6, 2) := by decide +kernel
theorem dX2_bestTry_45 : decode cX2_bestTry 45 = .ok (.isub, 1) := by decide +kernel
theorem dX2_bestTry_46 : decode cX2_bestTry 46 = .ok (.invokestatic 80, 3) := by decide +kernel
theorem dX2_bestTry_49 : decode cX2_bestTry 49 = .ok (.istore 7, 2) := by decide +kernel
theorem dX2_bestTry_51 : decode cX2_bestTry 51 = .ok (.iload 7, 2) := by decide +kernel
theorem dX2_bestTry_53 : decode cX2_bestTry 53 = .ok (.iload 4, 2) := by decide +kernel
theorem dX2_bestTry_55 : decode cX2_bestTry 55 = .ok (.if_icmp .ge 10, 3) := by decide +kernel
theorem dX2_bestTry_58 : decode cX2_bestTry 58 = .ok (.iload 7, 2) := by decide +kernel
theorem dX2_bestTry_60 : decode cX2_bestTry 60 = .ok (.istore 4, 2) := by decide +kernel
theorem dX2_bestTry_62 : decode cX2_bestTry 62 = .ok (.iload 5, 2) := by decide +kernel
theorem dX2_bestTry_64 : decode cX2_bestTry 64 = .ok (.istore_n 3, 1) := by decide +kernel
theorem dX2_bestTry_65 : decode cX2_bestTry 65 = .ok (.iinc 5 1, 3) := by decide +kernel
theorem dX2_bestTry_68 : decode cX2_bestTry 68 = .ok (.goto (-44), 3) := by decide +kernel
theorem dX2_bestTry_71 : decode cX2_bestTry 71 = .ok (.iload_n 3, 1) := by decide +kernel
theorem dX2_bestTry_72 : decode cX2_bestTry 72 = .ok (.ireturn, 1) := by decide +kernel
theorem dX3_lose_0 : decode cX3_lose 0 = .ok (.aload_n 0, 1) := by decide +kernel
theorem dX3_lose_1 : decode cX3_lose 1 = .ok (.iconst 0, 1) := by decide +kernel
theorem dX3_lose_2 : decode cX3_lose 2 = .ok (.putfield 17, 3) := by decide +kernel
theorem dX3_lose_5 : decode cX3_lose 5 = .ok (.return_, 1) := by decide +kernel
theorem dX8_type_0 : decode cX8_type 0 = .ok (.iload_n 1, 1) := by decide +kernel
theorem dX8_type_1 : decode cX8_type 1 = .ok (.iconst 0, 1) := by decide +kernel
theorem dX8_type_2 : decode cX8_type 2 = .ok (.sipush 255, 3) := by decide +kernel
theorem dX8_type_5 : decode cX8_type 5 = .ok (.invokestatic 94, 3) := by decide +kernel
theorem dX8_type_8 : decode cX8_type 8 = .ok (.ifCond .ne 5, 3) := by decide +kernel
theorem dX8_type_11 : decode cX8_type 11 = .ok (.iconst (-1), 1) := by decide +kernel
theorem dX8_type_12 : decode cX8_type 12 = .ok (.ireturn, 1) := by decide +kernel
theorem dX8_type_13 : decode cX8_type 13 = .ok (.aload_n 0, 1) := by decide +kernel
theorem dX8_type_14 : decode cX8_type 14 = .ok (.getfield 13, 3) := by decide +kernel
theorem dX8_type_17 : decode cX8_type 17 = .ok (.bipush 120, 2) := by decide +kernel
theorem dX8_type_19 : decode cX8_type 19 = .ok (.if_icmp .lt 6, 3) := by decide +kernel
theorem dX8_type_22 : decode cX8_type 22 = .ok (.bipush (-3), 2) := by decide +kernel
theorem dX8_type_24 : decode cX8_type 24 = .ok (.ireturn, 1) := by decide +kernel
theorem dX8_type_25 : decode cX8_type 25 = .ok (.aload_n 0, 1) := by decide +kernel
theorem dX8_type_26 : decode cX8_type 26 = .ok (.getfield 9, 3) := by decide +kernel
theorem dX8_type_29 : decode cX8_type 29 = .ok (.aload_n 0, 1) := by decide +kernel
theorem dX8_type_30 : decode cX8_type 30 = .ok (.getfield 13, 3) := by decide +kernel
theorem dX8_type_33 : decode cX8_type 33 = .ok (.iload_n 1, 1) := by decide +kernel
theorem dX8_type_34 : decode cX8_type 34 = .ok (.iastore, 1) := by decide +kernel
theorem dX8_type_35 : decode cX8_type 35 = .ok (.aload_n 0, 1) := by decide +kernel
theorem dX8_type_36 : decode cX8_type 36 = .ok (.dup, 1) := by decide +kernel
theorem dX8_type_37 : decode cX8_type 37 = .ok (.getfield 13, 3) := by decide +kernel
theorem dX8_type_40 : decode cX8_type 40 = .ok (.iconst 1, 1) := by decide +kernel
theorem dX8_type_41 : decode cX8_type 41 = .ok (.iadd, 1) := by decide +kernel
theorem dX8_type_42 : decode cX8_type 42 = .ok (.putfield 13, 3) := by decide +kernel
theorem dX8_type_45 : decode cX8_type 45 = .ok (.aload_n 0, 1) := by decide +kernel
theorem dX8_type_46 : decode cX8_type 46 = .ok (.getfield 13, 3) := by decide +kernel
theorem dX8_type_49 : decode cX8_type 49 = .ok (.ireturn, 1) := by decide +kernel
theorem dX8_clear_0 : decode cX8_clear 0 = .ok (.aload_n 0, 1) := by decide +kernel
theorem dX8_clear_1 : decode cX8_clear 1 = .ok (.getfield 13, 3) := by decide +kernel
theorem dX8_clear_4 : decode cX8_clear 4 = .ok (.istore_n 1, 1) := by decide +kernel
theorem dX8_clear_5 : decode cX8_clear 5 = .ok (.aload_n 0, 1) := by decide +kernel
theorem dX8_clear_6 : decode cX8_clear 6 = .ok (.iconst 0, 1) := by decide +kernel
theorem dX8_clear_7 : decode cX8_clear 7 = .ok (.putfield 13, 3) := by decide +kernel
theorem dX8_clear_10 : decode cX8_clear 10 = .ok (.iload_n 1, 1) := by decide +kernel
theorem dX8_clear_11 : decode cX8_clear 11 = .ok (.ireturn, 1) := by decide +kernel
theorem dX8_planksOf_0 : decode cX8_planksOf 0 = .ok (.iconst 0, 1) := by decide +kernel
theorem dX8_planksOf_1 : decode cX8_planksOf 1 = .ok (.istore_n 3, 1) := by decide +kernel
theorem dX8_planksOf_2 : decode cX8_planksOf 2 = .ok (.iconst 0, 1) := by decide +kernel
theorem dX8_planksOf_3 : decode cX8_planksOf 3 = .ok (.istore 4, 2) := by decide +kernel
theorem dX8_planksOf_5 : decode cX8_planksOf 5 = .ok (.iload 4, 2) := by decide +kernel
theorem dX8_planksOf_7 : decode cX8_planksOf 7 = .ok (.aload_n 0, 1) := by decide +kernel
theorem dX8_planksOf_8 : decode cX8_planksOf 8 = .ok (.getfield 24, 3) := by decide +kernel
theorem dX8_planksOf_11 : decode cX8_planksOf 11 = .ok (.getfield 289, 3) := by decide +kernel
theorem dX8_planksOf_14 : decode cX8_planksOf 14 = .ok (.if_icmp .ge 27, 3) := by decide +kernel
theorem dX8_planksOf_17 : decode cX8_planksOf 17 = .ok (.aload_n 1, 1) := by decide +kernel
theorem dX8_planksOf_18 : decode cX8_planksOf 18 = .ok (.iload 4, 2) := by decide +kernel
theorem dX8_planksOf_20 : decode cX8_planksOf 20 = .ok (.iaload, 1) := by decide +kernel
theorem dX8_planksOf_21 : decode cX8_planksOf 21 = .ok (.iload_n 2, 1) := by decide +kernel
theorem dX8_planksOf_22 : decode cX8_planksOf 22 = .ok (.invokestatic 307, 3) := by decide +kernel
theorem dX8_planksOf_25 : decode cX8_planksOf 25 = .ok (.ifCond .eq 10, 3) := by decide +kernel
theorem dX8_planksOf_28 : decode cX8_planksOf 28 = .ok (.iload_n 3, 1) := by decide +kernel
theorem dX8_planksOf_29 : decode cX8_planksOf 29 = .ok (.iconst 1, 1) := by decide +kernel
theorem dX8_planksOf_30 : decode cX8_planksOf 30 = .ok (.iload 4, 2) := by decide +kernel
theorem dX8_planksOf_32 : decode cX8_planksOf 32 = .ok (.ishl, 1) := by decide +kernel
theorem dX8_planksOf_33 : decode cX8_planksOf 33 = .ok (.ior, 1) := by decide +kernel
theorem dX8_planksOf_34 : decode cX8_planksOf 34 = .ok (.istore_n 3, 1) := by decide +kernel
theorem dX8_planksOf_35 : decode cX8_planksOf 35 = .ok (.iinc 4 1, 3) := by decide +kernel
theorem dX8_planksOf_38 : decode cX8_planksOf 38 = .ok (.goto (-33), 3) := by decide +kernel
theorem dX8_planksOf_41 : decode cX8_planksOf 41 = .ok (.iload_n 3, 1) := by decide +kernel
theorem dX8_planksOf_42 : decode cX8_planksOf 42 = .ok (.ireturn, 1) := by decide +kernel
theorem dX8_person_0 : decode cX8_person 0 = .ok (.aload_n 0, 1) := by decide +kernel
theorem dX8_person_1 : decode cX8_person 1 = .ok (.getfield 24, 3) := by decide +kernel
theorem dX8_person_4 : decode cX8_person 4 = .ok (.iload_n 1, 1) := by decide +kernel
theorem dX8_person_5 : decode cX8_person 5 = .ok (.invokevirtual 117, 3) := by decide +kernel
theorem dX8_person_8 : decode cX8_person 8 = .ok (.ifCond .ne 5, 3) := by decide +kernel
theorem dX8_person_11 : decode cX8_person 11 = .ok (.iconst (-1), 1) := by decide +kernel
theorem dX8_person_12 : decode cX8_person 12 = .ok (.ireturn, 1) := by decide +kernel
theorem dX8_person_13 : decode cX8_person 13 = .ok (.iload_n 2, 1) := by decide +kernel
theorem dX8_person_14 : decode cX8_person 14 = .ok (.tableswitch 157 0 7 #[46, 56, 66, 76, 86, 99, 112, 125], 46) := by decide +kernel
theorem dX8_person_60 : decode cX8_person 60 = .ok (.aload_n 0, 1) := by decide +kernel
theorem dX8_person_61 : decode cX8_person 61 = .ok (.getfield 24, 3) := by decide +kernel
theorem dX8_person_64 : decode cX8_person 64 = .ok (.getfield 121, 3) := by decide +kernel
theorem dX8_person_67 : decode cX8_person 67 = .ok (.iload_n 1, 1) := by decide +kernel
theorem dX8_person_68 : decode cX8_person 68 = .ok (.iaload, 1) := by decide +kernel
theorem dX8_person_69 : decode cX8_person 69 = .ok (.ireturn, 1) := by decide +kernel
theorem dX8_person_70 : decode cX8_person 70 = .ok (.aload_n 0, 1) := by decide +kernel
theorem dX8_person_71 : decode cX8_person 71 = .ok (.getfield 24, 3) := by decide +kernel
theorem dX8_person_74 : decode cX8_person 74 = .ok (.getfield 124, 3) := by decide +kernel
theorem dX8_person_77 : decode cX8_person 77 = .ok (.iload_n 1, 1) := by decide +kernel
theorem dX8_person_78 : decode cX8_person 78 = .ok (.iaload, 1) := by decide +kernel
theorem dX8_person_79 : decode cX8_person 79 = .ok (.ireturn, 1) := by decide +kernel
theorem dX8_person_80 : decode cX8_person 80 = .ok (.aload_n 0, 1) := by decide +kernel
theorem dX8_person_81 : decode cX8_person 81 = .ok (.getfield 24, 3) := by decide +kernel
theorem dX8_person_84 : decode cX8_person 84 = .ok (.getfield 127, 3) := by decide +kernel
theorem dX8_person_87 : decode cX8_person 87 = .ok (.iload_n 1, 1) := by decide +kernel
theorem dX8_person_88 : decode cX8_person 88 = .ok (.iaload, 1) := by decide +kernel
theorem dX8_person_89 : decode cX8_person 89 = .ok (.ireturn, 1) := by decide +kernel
theorem dX8_person_90 : decode cX8_person 90 = .ok (.aload_n 0, 1) := by decide +kernel
theorem dX8_person_91 : decode cX8_person 91 = .ok (.getfield 24, 3) := by decide +kernel
theorem dX8_person_94 : decode cX8_person 94 = .ok (.getfield 130, 3) := by decide +kernel
theorem dX8_person_97 : decode cX8_person 97 = .ok (.iload_n 1, 1) := by decide +kernel
theorem dX8_person_98 : decode cX8_person 98 = .ok (.iaload, 1) := by decide +kernel
theorem dX8_person_99 : decode cX8_person 99 = .ok (.ireturn, 1) := by decide +kernel
theorem dX8_person_100 : decode cX8_person 100 = .ok (.aload_n 0, 1) := by decide +kernel
theorem dX8_person_101 : decode cX8_person 101 = .ok (.aload_n 0, 1) := by decide +kernel
theorem dX8_person_102 : decode cX8_person 102 = .ok (.getfield 48, 3) := by decide +kernel
theorem dX8_person_105 : decode cX8_person 105 = .ok (.getfield 133, 3) := by decide +kernel
theorem dX8_person_108 : decode cX8_person 108 = .ok (.iload_n 1, 1) := by decide +kernel
theorem dX8_person_109 : decode cX8_person 109 = .ok (.invokevirtual 136, 3) := by decide +kernel
theorem dX8_person_112 : decode cX8_person 112 = .ok (.ireturn, 1) := by decide +kernel
theorem dX8_person_113 : decode cX8_person 113 = .ok (.aload_n 0, 1) := by decide +kernel
theorem dX8_person_114 : decode cX8_person 114 = .ok (.aload_n 0, 1) := by decide +kernel
theorem dX8_person_115 : decode cX8_person 115 = .ok (.getfield 48, 3) := by decide +kernel
theorem dX8_person_118 : decode cX8_person 118 = .ok (.getfield 140, 3) := by decide +kernel
theorem dX8_person_121 : decode cX8_person 121 = .ok (.iload_n 1, 1) := by decide +kernel
theorem dX8_person_122 : decode cX8_person 122 = .ok (.invokevirtual 136, 3) := by decide +kernel
theorem dX8_person_125 : decode cX8_person 125 = .ok (.ireturn, 1) := by decide +kernel
theorem dX8_person_126 : decode cX8_person 126 = .ok (.aload_n 0, 1) := by decide +kernel
theorem dX8_person_127 : decode cX8_person 127 = .ok (.getfield 41, 3) := by decide +kernel
theorem dX8_person_130 : decode cX8_person 130 = .ok (.aload_n 0, 1) := by decide +kernel
theorem dX8_person_131 : decode cX8_person 131 = .ok (.getfield 48, 3) := by decide +kernel
theorem dX8_person_134 : decode cX8_person 134 = .ok (.iload_n 1, 1) := by decide +kernel
theorem dX8_person_135 : decode cX8_person 135 = .ok (.invokevirtual 143, 3) := by decide +kernel
theorem dX8_person_138 : decode cX8_person 138 = .ok (.ireturn, 1) := by decide +kernel
theorem dX8_person_139 : decode cX8_person 139 = .ok (.iconst 0, 1) := by decide +kernel
theorem dX8_person_140 : decode cX8_person 140 = .ok (.aload_n 0, 1) := by decide +kernel
theorem dX8_person_141 : decode cX8_person 141 = .ok (.getfield 41, 3) := by decide +kernel
theorem dX8_person_144 : decode cX8_person 144 = .ok (.aload_n 0, 1) := by decide +kernel
theorem dX8_person_145 : decode cX8_person 145 = .ok (.getfield 48, 3) := by decide +kernel
theorem dX8_person_148 : decode cX8_person 148 = .ok (.iconst 0, 1) := by decide +kernel
theorem dX8_person_149 : decode cX8_person 149 = .ok (.invokevirtual 147, 3) := by decide +kernel
theorem dX8_person_152 : decode cX8_person 152 = .ok (.aload_n 0, 1) := by decide +kernel
theorem dX8_person_153 : decode cX8_person 153 = .ok (.getfield 41, 3) := by decide +kernel
theorem dX8_person_156 : decode cX8_person 156 = .ok (.aload_n 0, 1) := by decide +kernel
theorem dX8_person_157 : decode cX8_person 157 = .ok (.getfield 48, 3) := by decide +kernel
theorem dX8_person_160 : decode cX8_person 160 = .ok (.iconst 1, 1) := by decide +kernel
theorem dX8_person_161 : decode cX8_person 161 = .ok (.iload_n 1, 1) := by decide +kernel
theorem dX8_person_162 : decode cX8_person 162 = .ok (.ishl, 1) := by decide +kernel
theorem dX8_person_163 : decode cX8_person 163 = .ok (.invokevirtual 147, 3) := by decide +kernel
theorem dX8_person_166 : decode cX8_person 166 = .ok (.isub, 1) := by decide +kernel
theorem dX8_person_167 : decode cX8_person 167 = .ok (.invokestatic 150, 3) := by decide +kernel
theorem dX8_person_170 : decode cX8_person 170 = .ok (.ireturn, 1) := by decide +kernel
theorem dX8_person_171 : decode cX8_person 171 = .ok (.iconst (-1), 1) := by decide +kernel
theorem dX8_person_172 : decode cX8_person 172 = .ok (.ireturn, 1) := by decide +kernel
theorem dX8_plank_0 : decode cX8_plank 0 = .ok (.aload_n 0, 1) := by decide +kernel
theorem dX8_plank_1 : decode cX8_plank 1 = .ok (.getfield 24, 3) := by decide +kernel
theorem dX8_plank_4 : decode cX8_plank 4 = .ok (.iload_n 1, 1) := by decide +kernel
theorem dX8_plank_5 : decode cX8_plank 5 = .ok (.invokevirtual 156, 3) := by decide +kernel
theorem dX8_plank_8 : decode cX8_plank 8 = .ok (.ifCond .ne 5, 3) := by decide +kernel
theorem dX8_plank_11 : decode cX8_plank 11 = .ok (.iconst (-1), 1) := by decide +kernel
theorem dX8_plank_12 : decode cX8_plank 12 = .ok (.ireturn, 1) := by decide +kernel
theorem dX8_plank_13 : decode cX8_plank 13 = .ok (.iload_n 2, 1) := by decide +kernel
theorem dX8_plank_14 : decode cX8_plank 14 = .ok (.tableswitch 82 0 2 #[26, 44, 63], 26) := by decide +kernel
theorem dX8_plank_40 : decode cX8_plank 40 = .ok (.aload_n 0, 1) := by decide +kernel
theorem dX8_plank_41 : decode cX8_plank 41 = .ok (.getfield 41, 3) := by decide +kernel
theorem dX8_plank_44 : decode cX8_plank 44 = .ok (.iload_n 1, 1) := by decide +kernel
theorem dX8_plank_45 : decode cX8_plank 45 = .ok (.aload_n 0, 1) := by decide +kernel
theorem dX8_plank_46 : decode cX8_plank 46 = .ok (.getfield 48, 3) := by decide +kernel
theorem dX8_plank_49 : decode cX8_plank 49 = .ok (.getfield 133, 3) := by decide +kernel
theorem dX8_plank_52 : decode cX8_plank 52 = .ok (.iload_n 1, 1) := by decide +kernel
theorem dX8_plank_53 : decode cX8_plank 53 = .ok (.iaload, 1) := by decide +kernel
theorem dX8_plank_54 : decode cX8_plank 54 = .ok (.invokevirtual 159, 3) := by decide +kernel
theorem dX8_plank_57 : decode cX8_plank 57 = .ok (.ireturn, 1) := by decide +kernel
theorem dX8_plank_58 : decode cX8_plank 58 = .ok (.aload_n 0, 1) := by decide +kernel
theorem dX8_plank_59 : decode cX8_plank 59 = .ok (.getfield 41, 3) := by decide +kernel
theorem dX8_plank_62 : decode cX8_plank 62 = .ok (.iload_n 1, 1) := by decide +kernel
theorem dX8_plank_63 : decode cX8_plank 63 = .ok (.aload_n 0, 1) := by decide +kernel
theorem dX8_plank_64 : decode cX8_plank 64 = .ok (.getfield 48, 3) := by decide +kernel
theorem dX8_plank_67 : decode cX8_plank 67 = .ok (.getfield 133, 3) := by decide +kernel
theorem dX8_plank_70 : decode cX8_plank 70 = .ok (.iload_n 1, 1) := by decide +kernel
theorem dX8_plank_71 : decode cX8_plank 71 = .ok (.iaload, 1) := by decide +kernel
theorem dX8_plank_72 : decode cX8_plank 72 = .ok (.iconst 0, 1) := by decide +kernel
theorem dX8_plank_73 : decode cX8_plank 73 = .ok (.invokevirtual 162, 3) := by decide +kernel
theorem dX8_plank_76 : decode cX8_plank 76 = .ok (.ireturn, 1) := by decide +kernel
theorem dX8_plank_77 : decode cX8_plank 77 = .ok (.aload_n 0, 1) := by decide +kernel
theorem dX8_plank_78 : decode cX8_plank 78 = .ok (.getfield 41, 3) := by decide +kernel
theorem dX8_plank_81 : decode cX8_plank 81 = .ok (.iload_n 1, 1) := by decide +kernel
theorem dX8_plank_82 : decode cX8_plank 82 = .ok (.aload_n 0, 1) := by decide +kernel
theorem dX8_plank_83 : decode cX8_plank 83 = .ok (.getfield 48, 3) := by decide +kernel
theorem dX8_plank_86 : decode cX8_plank 86 = .ok (.getfield 133, 3) := by decide +kernel
theorem dX8_plank_89 : decode cX8_plank 89 = .ok (.iload_n 1, 1) := by decide +kernel
theorem dX8_plank_90 : decode cX8_plank 90 = .ok (.iaload, 1) := by decide +kernel
theorem dX8_plank_91 : decode cX8_plank 91 = .ok (.iconst 1, 1) := by decide +kernel
theorem dX8_plank_92 : decode cX8_plank 92 = .ok (.invokevirtual 162, 3) := by decide +kernel
theorem dX8_plank_95 : decode cX8_plank 95 = .ok (.ireturn, 1) := by decide +kernel
theorem dX8_plank_96 : decode cX8_plank 96 = .ok (.iconst (-1), 1) := by decide +kernel
theorem dX8_plank_97 : decode cX8_plank 97 = .ok (.ireturn, 1) := by decide +kernel
theorem dX8_hold_0 : decode cX8_hold 0 = .ok (.aload_n 0, 1) := by decide +kernel
theorem dX8_hold_1 : decode cX8_hold 1 = .ok (.getfield 24, 3) := by decide +kernel
theorem dX8_hold_4 : decode cX8_hold 4 = .ok (.iload_n 1, 1) := by decide +kernel
theorem dX8_hold_5 : decode cX8_hold 5 = .ok (.invokevirtual 117, 3) := by decide +kernel
theorem dX8_hold_8 : decode cX8_hold 8 = .ok (.ifCond .eq 14, 3) := by decide +kernel
theorem dX8_hold_11 : decode cX8_hold 11 = .ok (.aload_n 0, 1) := by decide +kernel
theorem dX8_hold_12 : decode cX8_hold 12 = .ok (.getfield 24, 3) := by decide +kernel
theorem dX8_hold_15 : decode cX8_hold 15 = .ok (.iload_n 2, 1) := by decide +kernel
theorem dX8_hold_16 : decode cX8_hold 16 = .ok (.invokevirtual 156, 3) := by decide +kernel
theorem dX8_hold_19 : decode cX8_hold 19 = .ok (.ifCond .ne 5, 3) := by decide +kernel
theorem dX8_hold_22 : decode cX8_hold 22 = .ok (.iconst (-1), 1) := by decide +kernel
theorem dX8_hold_23 : decode cX8_hold 23 = .ok (.ireturn, 1) := by decide +kernel
theorem dX8_hold_24 : decode cX8_hold 24 = .ok (.aload_n 0, 1) := by decide +kernel
theorem dX8_hold_25 : decode cX8_hold 25 = .ok (.getfield 24, 3) := by decide +kernel
theorem dX8_hold_28 : decode cX8_hold 28 = .ok (.iload_n 1, 1) := by decide +kernel
theorem dX8_hold_29 : decode cX8_hold 29 = .ok (.aload_n 0, 1) := by decide +kernel
theorem dX8_hold_30 : decode cX8_hold 30 = .ok (.getfield 24, 3) := by decide +kernel
theorem dX8_hold_33 : decode cX8_hold 33 = .ok (.getfield 127, 3) := by decide +kernel
theorem dX8_hold_36 : decode cX8_hold 36 = .ok (.iload_n 1, 1) := by decide +kernel
theorem dX8_hold_37 : decode cX8_hold 37 = .ok (.iaload, 1) := by decide +kernel
theorem dX8_hold_38 : decode cX8_hold 38 = .ok (.iload_n 2, 1) := by decide +kernel
theorem dX8_hold_39 : decode cX8_hold 39 = .ok (.aload_n 0, 1) := by decide +kernel
theorem dX8_hold_40 : decode cX8_hold 40 = .ok (.getfield 48, 3) := by decide +kernel
theorem dX8_hold_43 : decode cX8_hold 43 = .ok (.getfield 133, 3) := by decide +kernel
theorem dX8_hold_46 : decode cX8_hold 46 = .ok (.iload_n 2, 1) := by decide +kernel
theorem dX8_hold_47 : decode cX8_hold 47 = .ok (.iaload, 1) := by decide +kernel
theorem dX8_hold_48 : decode cX8_hold 48 = .ok (.invokevirtual 166, 3) := by decide +kernel
theorem dX8_hold_51 : decode cX8_hold 51 = .ok (.ireturn, 1) := by decide +kernel
theorem dX8_now_0 : decode cX8_now 0 = .ok (.iload_n 1, 1) := by decide +kernel
theorem dX8_now_1 : decode cX8_now 1 = .ok (.tableswitch 96 0 5 #[39, 47, 60, 72, 80, 88], 39) := by decide +kernel
theorem dX8_now_40 : decode cX8_now 40 = .ok (.aload_n 0, 1) := by decide +kernel
theorem dX8_now_41 : decode cX8_now 41 = .ok (.getfield 48, 3) := by decide +kernel
theorem dX8_now_44 : decode cX8_now 44 = .ok (.getfield 170, 3) := by decide +kernel
theorem dX8_now_47 : decode cX8_now 47 = .ok (.ireturn, 1) := by decide +kernel
theorem dX8_now_48 : decode cX8_now 48 = .ok (.aload_n 0, 1) := by decide +kernel
theorem dX8_now_49 : decode cX8_now 49 = .ok (.getfield 41, 3) := by decide +kernel
theorem dX8_now_52 : decode cX8_now 52 = .ok (.aload_n 0, 1) := by decide +kernel
theorem dX8_now_53 : decode cX8_now 53 = .ok (.getfield 48, 3) := by decide +kernel
theorem dX8_now_56 : decode cX8_now 56 = .ok (.iconst 0, 1) := by decide +kernel
theorem dX8_now_57 : decode cX8_now 57 = .ok (.invokevirtual 147, 3) := by decide +kernel
theorem dX8_now_60 : decode cX8_now 60 = .ok (.ireturn, 1) := by decide +kernel
theorem dX8_now_61 : decode cX8_now 61 = .ok (.aload_n 0, 1) := by decide +kernel
theorem dX8_now_62 : decode cX8_now 62 = .ok (.getfield 41, 3) := by decide +kernel
theorem dX8_now_65 : decode cX8_now 65 = .ok (.aload_n 0, 1) := by decide +kernel
theorem dX8_now_66 : decode cX8_now 66 = .ok (.getfield 48, 3) := by decide +kernel
theorem dX8_now_69 : decode cX8_now 69 = .ok (.invokevirtual 173, 3) := by decide +kernel
theorem dX8_now_72 : decode cX8_now 72 = .ok (.ireturn, 1) := by decide +kernel
theorem dX8_now_73 : decode cX8_now 73 = .ok (.aload_n 0, 1) := by decide +kernel
theorem dX8_now_74 : decode cX8_now 74 = .ok (.getfield 48, 3) := by decide +kernel
theorem dX8_now_77 : decode cX8_now 77 = .ok (.getfield 177, 3) := by decide +kernel
theorem dX8_now_80 : decode cX8_now 80 = .ok (.ireturn, 1) := by decide +kernel
theorem dX8_now_81 : decode cX8_now 81 = .ok (.aload_n 0, 1) := by decide +kernel
theorem dX8_now_82 : decode cX8_now 82 = .ok (.getfield 48, 3) := by decide +kernel
theorem dX8_now_85 : decode cX8_now 85 = .ok (.invokevirtual 180, 3) := by decide +kernel
theorem dX8_now_88 : decode cX8_now 88 = .ok (.ireturn, 1) := by decide +kernel
theorem dX8_now_89 : decode cX8_now 89 = .ok (.aload_n 0, 1) := by decide +kernel
theorem dX8_now_90 : decode cX8_now 90 = .ok (.getfield 55, 3) := by decide +kernel
theorem dX8_now_93 : decode cX8_now 93 = .ok (.getfield 184, 3) := by decide +kernel
theorem dX8_now_96 : decode cX8_now 96 = .ok (.ireturn, 1) := by decide +kernel
theorem dX8_now_97 : decode cX8_now 97 = .ok (.iconst (-1), 1) := by decide +kernel
theorem dX8_now_98 : decode cX8_now 98 = .ok (.ireturn, 1) := by decide +kernel
theorem dX8_when_0 : decode cX8_when 0 = .ok (.iload_n 1, 1) := by decide +kernel
theorem dX8_when_1 : decode cX8_when 1 = .ok (.invokestatic 206, 3) := by decide +kernel
theorem dX8_when_4 : decode cX8_when 4 = .ok (.ifCond .eq 14, 3) := by decide +kernel
theorem dX8_when_7 : decode cX8_when 7 = .ok (.aload_n 0, 1) := by decide +kernel
theorem dX8_when_8 : decode cX8_when 8 = .ok (.getfield 72, 3) := by decide +kernel
theorem dX8_when_11 : decode cX8_when 11 = .ok (.iload_n 1, 1) := by decide +kernel
theorem dX8_when_12 : decode cX8_when 12 = .ok (.invokevirtual 212, 3) := by decide +kernel
theorem dX8_when_15 : decode cX8_when 15 = .ok (.goto 4, 3) := by decide +kernel
theorem dX8_when_18 : decode cX8_when 18 = .ok (.iconst (-1), 1) := by decide +kernel
theorem dX8_when_19 : decode cX8_when 19 = .ok (.ireturn, 1) := by decide +kernel
theorem dX8_fewest_0 : decode cX8_fewest 0 = .ok (.iload_n 1, 1) := by decide +kernel
theorem dX8_fewest_1 : decode cX8_fewest 1 = .ok (.invokestatic 206, 3) := by decide +kernel
theorem dX8_fewest_4 : decode cX8_fewest 4 = .ok (.ifCond .ne 5, 3) := by decide +kernel
theorem dX8_fewest_7 : decode cX8_fewest 7 = .ok (.iconst (-1), 1) := by decide +kernel
theorem dX8_fewest_8 : decode cX8_fewest 8 = .ok (.ireturn, 1) := by decide +kernel
theorem dX8_fewest_9 : decode cX8_fewest 9 = .ok (.iload_n 2, 1) := by decide +kernel
theorem dX8_fewest_10 : decode cX8_fewest 10 = .ok (.iconst (-1), 1) := by decide +kernel
theorem dX8_fewest_11 : decode cX8_fewest 11 = .ok (.if_icmp .ne 12, 3) := by decide +kernel
theorem dX8_fewest_14 : decode cX8_fewest 14 = .ok (.aload_n 0, 1) := by decide +kernel
theorem dX8_fewest_15 : decode cX8_fewest 15 = .ok (.getfield 72, 3) := by decide +kernel
theorem dX8_fewest_18 : decode cX8_fewest 18 = .ok (.iload_n 1, 1) := by decide +kernel
theorem dX8_fewest_19 : decode cX8_fewest 19 = .ok (.invokevirtual 215, 3) := by decide +kernel
theorem dX8_fewest_22 : decode cX8_fewest 22 = .ok (.ireturn, 1) := by decide +kernel
theorem dX8_fewest_23 : decode cX8_fewest 23 = .ok (.aload_n 0, 1) := by decide +kernel
theorem dX8_fewest_24 : decode cX8_fewest 24 = .ok (.getfield 24, 3) := by decide +kernel
theorem dX8_fewest_27 : decode cX8_fewest 27 = .ok (.iload_n 2, 1) := by decide +kernel
theorem dX8_fewest_28 : decode cX8_fewest 28 = .ok (.invokevirtual 156, 3) := by decide +kernel
theorem dX8_fewest_31 : decode cX8_fewest 31 = .ok (.ifCond .eq 15, 3) := by decide +kernel
theorem dX8_fewest_34 : decode cX8_fewest 34 = .ok (.aload_n 0, 1) := by decide +kernel
theorem dX8_fewest_35 : decode cX8_fewest 35 = .ok (.getfield 72, 3) := by decide +kernel
theorem dX8_fewest_38 : decode cX8_fewest 38 = .ok (.iload_n 1, 1) := by decide +kernel
theorem dX8_fewest_39 : decode cX8_fewest 39 = .ok (.iload_n 2, 1) := by decide +kernel
theorem dX8_fewest_40 : decode cX8_fewest 40 = .ok (.invokevirtual 218, 3) := by decide +kernel
theorem dX8_fewest_43 : decode cX8_fewest 43 = .ok (.goto 4, 3) := by decide +kernel
theorem dX8_fewest_46 : decode cX8_fewest 46 = .ok (.iconst (-1), 1) := by decide +kernel
theorem dX8_fewest_47 : decode cX8_fewest 47 = .ok (.ireturn, 1) := by decide +kernel
theorem dX8_soon_0 : decode cX8_soon 0 = .ok (.iload_n 1, 1) := by decide +kernel
theorem dX8_soon_1 : decode cX8_soon 1 = .ok (.invokestatic 206, 3) := by decide +kernel
theorem dX8_soon_4 : decode cX8_soon 4 = .ok (.ifCond .eq 14, 3) := by decide +kernel
theorem dX8_soon_7 : decode cX8_soon 7 = .ok (.aload_n 0, 1) := by decide +kernel
theorem dX8_soon_8 : decode cX8_soon 8 = .ok (.getfield 72, 3) := by decide +kernel
theorem dX8_soon_11 : decode cX8_soon 11 = .ok (.iload_n 1, 1) := by decide +kernel
theorem dX8_soon_12 : decode cX8_soon 12 = .ok (.invokevirtual 221, 3) := by decide +kernel
theorem dX8_soon_15 : decode cX8_soon 15 = .ok (.goto 4, 3) := by decide +kernel
theorem dX8_soon_18 : decode cX8_soon 18 = .ok (.iconst (-1), 1) := by decide +kernel
theorem dX8_soon_19 : decode cX8_soon 19 = .ok (.ireturn, 1) := by decide +kernel
theorem dX8_pair_0 : decode cX8_pair 0 = .ok (.aload_n 0, 1) := by decide +kernel
theorem dX8_pair_1 : decode cX8_pair 1 = .ok (.getfield 24, 3) := by decide +kernel
theorem dX8_pair_4 : decode cX8_pair 4 = .ok (.iload_n 1, 1) := by decide +kernel
theorem dX8_pair_5 : decode cX8_pair 5 = .ok (.invokevirtual 117, 3) := by decide +kernel
theorem dX8_pair_8 : decode cX8_pair 8 = .ok (.ifCond .eq 25, 3) := by decide +kernel
theorem dX8_pair_11 : decode cX8_pair 11 = .ok (.aload_n 0, 1) := by decide +kernel
theorem dX8_pair_12 : decode cX8_pair 12 = .ok (.getfield 24, 3) := by decide +kernel
theorem dX8_pair_15 : decode cX8_pair 15 = .ok (.iload_n 2, 1) := by decide +kernel
theorem dX8_pair_16 : decode cX8_pair 16 = .ok (.invokevirtual 117, 3) := by decide +kernel
theorem dX8_pair_19 : decode cX8_pair 19 = .ok (.ifCond .eq 14, 3) := by decide +kernel
theorem dX8_pair_22 : decode cX8_pair 22 = .ok (.aload_n 0, 1) := by decide +kernel
theorem dX8_pair_23 : decode cX8_pair 23 = .ok (.getfield 24, 3) := by decide +kernel
theorem dX8_pair_26 : decode cX8_pair 26 = .ok (.iload_n 3, 1) := by decide +kernel
theorem dX8_pair_27 : decode cX8_pair 27 = .ok (.invokevirtual 156, 3) := by decide +kernel
theorem dX8_pair_30 : decode cX8_pair 30 = .ok (.ifCond .ne 5, 3) := by decide +kernel
theorem dX8_pair_33 : decode cX8_pair 33 = .ok (.iconst (-1), 1) := by decide +kernel
theorem dX8_pair_34 : decode cX8_pair 34 = .ok (.ireturn, 1) := by decide +kernel
theorem dX8_pair_35 : decode cX8_pair 35 = .ok (.aload_n 0, 1) := by decide +kernel
theorem dX8_pair_36 : decode cX8_pair 36 = .ok (.getfield 24, 3) := by decide +kernel
theorem dX8_pair_39 : decode cX8_pair 39 = .ok (.getfield 121, 3) := by decide +kernel
theorem dX8_pair_42 : decode cX8_pair 42 = .ok (.iload_n 1, 1) := by decide +kernel
theorem dX8_pair_43 : decode cX8_pair 43 = .ok (.iaload, 1) := by decide +kernel
theorem dX8_pair_44 : decode cX8_pair 44 = .ok (.aload_n 0, 1) := by decide +kernel
theorem dX8_pair_45 : decode cX8_pair 45 = .ok (.getfield 24, 3) := by decide +kernel
theorem dX8_pair_48 : decode cX8_pair 48 = .ok (.getfield 121, 3) := by decide +kernel
theorem dX8_pair_51 : decode cX8_pair 51 = .ok (.iload_n 2, 1) := by decide +kernel
theorem dX8_pair_52 : decode cX8_pair 52 = .ok (.iaload, 1) := by decide +kernel
theorem dX8_pair_53 : decode cX8_pair 53 = .ok (.if_icmp .eq 39, 3) := by decide +kernel
theorem dX8_pair_56 : decode cX8_pair 56 = .ok (.aload_n 0, 1) := by decide +kernel
theorem dX8_pair_57 : decode cX8_pair 57 = .ok (.getfield 48, 3) := by decide +kernel
theorem dX8_pair_60 : decode cX8_pair 60 = .ok (.iload_n 1, 1) := by decide +kernel
theorem dX8_pair_61 : decode cX8_pair 61 = .ok (.iload_n 3, 1) := by decide +kernel
theorem dX8_pair_62 : decode cX8_pair 62 = .ok (.invokevirtual 187, 3) := by decide +kernel
theorem dX8_pair_65 : decode cX8_pair 65 = .ok (.ifCond .ne 27, 3) := by decide +kernel
theorem dX8_pair_68 : decode cX8_pair 68 = .ok (.aload_n 0, 1) := by decide +kernel
theorem dX8_pair_69 : decode cX8_pair 69 = .ok (.getfield 48, 3) := by decide +kernel
theorem dX8_pair_72 : decode cX8_pair 72 = .ok (.iload_n 2, 1) := by decide +kernel
theorem dX8_pair_73 : decode cX8_pair 73 = .ok (.iload_n 3, 1) := by decide +kernel
theorem dX8_pair_74 : decode cX8_pair 74 = .ok (.invokevirtual 187, 3) := by decide +kernel
theorem dX8_pair_77 : decode cX8_pair 77 = .ok (.ifCond .ne 15, 3) := by decide +kernel
theorem dX8_pair_80 : decode cX8_pair 80 = .ok (.aload_n 0, 1) := by decide +kernel
theorem dX8_pair_81 : decode cX8_pair 81 = .ok (.getfield 48, 3) := by decide +kernel
theorem dX8_pair_84 : decode cX8_pair 84 = .ok (.getfield 140, 3) := by decide +kernel
theorem dX8_pair_87 : decode cX8_pair 87 = .ok (.iload_n 3, 1) := by decide +kernel
theorem dX8_pair_88 : decode cX8_pair 88 = .ok (.iaload, 1) := by decide +kernel
theorem dX8_pair_89 : decode cX8_pair 89 = .ok (.ifCond .eq 6, 3) := by decide +kernel
theorem dX8_pair_92 : decode cX8_pair 92 = .ok (.bipush (-2), 2) := by decide +kernel
theorem dX8_pair_94 : decode cX8_pair 94 = .ok (.ireturn, 1) := by decide +kernel
theorem dX8_pair_95 : decode cX8_pair 95 = .ok (.aload_n 0, 1) := by decide +kernel
theorem dX8_pair_96 : decode cX8_pair 96 = .ok (.getfield 24, 3) := by decide +kernel
theorem dX8_pair_99 : decode cX8_pair 99 = .ok (.getfield 130, 3) := by decide +kernel
theorem dX8_pair_102 : decode cX8_pair 102 = .ok (.iload_n 1, 1) := by decide +kernel
theorem dX8_pair_103 : decode cX8_pair 103 = .ok (.iaload, 1) := by decide +kernel
theorem dX8_pair_104 : decode cX8_pair 104 = .ok (.istore 4, 2) := by decide +kernel
theorem dX8_pair_106 : decode cX8_pair 106 = .ok (.aload_n 0, 1) := by decide +kernel
theorem dX8_pair_107 : decode cX8_pair 107 = .ok (.getfield 24, 3) := by decide +kernel
theorem dX8_pair_110 : decode cX8_pair 110 = .ok (.getfield 130, 3) := by decide +kernel
theorem dX8_pair_113 : decode cX8_pair 113 = .ok (.iload_n 2, 1) := by decide +kernel
theorem dX8_pair_114 : decode cX8_pair 114 = .ok (.iaload, 1) := by decide +kernel
theorem dX8_pair_115 : decode cX8_pair 115 = .ok (.istore 5, 2) := by decide +kernel
theorem dX8_pair_117 : decode cX8_pair 117 = .ok (.iload 4, 2) := by decide +kernel
theorem dX8_pair_119 : decode cX8_pair 119 = .ok (.iload 5, 2) := by decide +kernel
theorem dX8_pair_121 : decode cX8_pair 121 = .ok (.iconst 1, 1) := by decide +kernel
theorem dX8_pair_122 : decode cX8_pair 122 = .ok (.iadd, 1) := by decide +kernel
theorem dX8_pair_123 : decode cX8_pair 123 = .ok (.invokestatic 150, 3) := by decide +kernel
theorem dX8_pair_126 : decode cX8_pair 126 = .ok (.iload 4, 2) := by decide +kernel
theorem dX8_pair_128 : decode cX8_pair 128 = .ok (.iconst 1, 1) := by decide +kernel
theorem dX8_pair_129 : decode cX8_pair 129 = .ok (.iadd, 1) := by decide +kernel
theorem dX8_pair_130 : decode cX8_pair 130 = .ok (.iload 5, 2) := by decide +kernel
theorem dX8_pair_132 : decode cX8_pair 132 = .ok (.invokestatic 150, 3) := by decide +kernel
theorem dX8_pair_135 : decode cX8_pair 135 = .ok (.invokestatic 224, 3) := by decide +kernel
theorem dX8_pair_138 : decode cX8_pair 138 = .ok (.istore 6, 2) := by decide +kernel
theorem dX8_pair_140 : decode cX8_pair 140 = .ok (.iload 6, 2) := by decide +kernel
theorem dX8_pair_142 : decode cX8_pair 142 = .ok (.iload 4, 2) := by decide +kernel
theorem dX8_pair_144 : decode cX8_pair 144 = .ok (.iload 5, 2) := by decide +kernel
theorem dX8_pair_146 : decode cX8_pair 146 = .ok (.iadd, 1) := by decide +kernel
theorem dX8_pair_147 : decode cX8_pair 147 = .ok (.invokestatic 224, 3) := by decide +kernel
theorem dX8_pair_150 : decode cX8_pair 150 = .ok (.ireturn, 1) := by decide +kernel
theorem dX8_enough_0 : decode cX8_enough 0 = .ok (.iload_n 1, 1) := by decide +kernel
theorem dX8_enough_1 : decode cX8_enough 1 = .ok (.invokestatic 206, 3) := by decide +kernel
theorem dX8_enough_4 : decode cX8_enough 4 = .ok (.ifCond .eq 14, 3) := by decide +kernel
theorem dX8_enough_7 : decode cX8_enough 7 = .ok (.aload_n 0, 1) := by decide +kernel
theorem dX8_enough_8 : decode cX8_enough 8 = .ok (.getfield 72, 3) := by decide +kernel
theorem dX8_enough_11 : decode cX8_enough 11 = .ok (.iload_n 1, 1) := by decide +kernel
theorem dX8_enough_12 : decode cX8_enough 12 = .ok (.invokevirtual 227, 3) := by decide +kernel
theorem dX8_enough_15 : decode cX8_enough 15 = .ok (.goto 4, 3) := by decide +kernel
theorem dX8_enough_18 : decode cX8_enough 18 = .ok (.iconst (-1), 1) := by decide +kernel
theorem dX8_enough_19 : decode cX8_enough 19 = .ok (.ireturn, 1) := by decide +kernel
theorem dX8_byTurns_0 : decode cX8_byTurns 0 = .ok (.iload_n 1, 1) := by decide +kernel
theorem dX8_byTurns_1 : decode cX8_byTurns 1 = .ok (.iconst 0, 1) := by decide +kernel
theorem dX8_byTurns_2 : decode cX8_byTurns 2 = .ok (.iconst 3, 1) := by decide +kernel
theorem dX8_byTurns_3 : decode cX8_byTurns 3 = .ok (.invokestatic 94, 3) := by decide +kernel
theorem dX8_byTurns_6 : decode cX8_byTurns 6 = .ok (.ifCond .eq 14, 3) := by decide +kernel
theorem dX8_byTurns_9 : decode cX8_byTurns 9 = .ok (.aload_n 0, 1) := by decide +kernel
theorem dX8_byTurns_10 : decode cX8_byTurns 10 = .ok (.getfield 79, 3) := by decide +kernel
theorem dX8_byTurns_13 : decode cX8_byTurns 13 = .ok (.iload_n 1, 1) := by decide +kernel
theorem dX8_byTurns_14 : decode cX8_byTurns 14 = .ok (.invokevirtual 233, 3) := by decide +kernel
theorem dX8_byTurns_17 : decode cX8_byTurns 17 = .ok (.goto 4, 3) := by decide +kernel
theorem dX8_byTurns_20 : decode cX8_byTurns 20 = .ok (.iconst (-1), 1) := by decide +kernel
theorem dX8_byTurns_21 : decode cX8_byTurns 21 = .ok (.ireturn, 1) := by decide +kernel
theorem dX8_odds_0 : decode cX8_odds 0 = .ok (.iload_n 1, 1) := by decide +kernel
theorem dX8_odds_1 : decode cX8_odds 1 = .ok (.iconst 0, 1) := by decide +kernel
theorem dX8_odds_2 : decode cX8_odds 2 = .ok (.bipush 10, 2) := by decide +kernel
theorem dX8_odds_4 : decode cX8_odds 4 = .ok (.invokestatic 94, 3) := by decide +kernel
theorem dX8_odds_7 : decode cX8_odds 7 = .ok (.ifCond .eq 19, 3) := by decide +kernel
theorem dX8_odds_10 : decode cX8_odds 10 = .ok (.iload_n 2, 1) := by decide +kernel
theorem dX8_odds_11 : decode cX8_odds 11 = .ok (.invokestatic 206, 3) := by decide +kernel
theorem dX8_odds_14 : decode cX8_odds 14 = .ok (.ifCond .eq 12, 3) := by decide +kernel
theorem dX8_odds_17 : decode cX8_odds 17 = .ok (.iload_n 3, 1) := by decide +kernel
theorem dX8_odds_18 : decode cX8_odds 18 = .ok (.iconst 0, 1) := by decide +kernel
theorem dX8_odds_19 : decode cX8_odds 19 = .ok (.iconst 1, 1) := by decide +kernel
theorem dX8_odds_20 : decode cX8_odds 20 = .ok (.invokestatic 94, 3) := by decide +kernel
theorem dX8_odds_23 : decode cX8_odds 23 = .ok (.ifCond .ne 5, 3) := by decide +kernel
theorem dX8_odds_26 : decode cX8_odds 26 = .ok (.iconst (-1), 1) := by decide +kernel
theorem dX8_odds_27 : decode cX8_odds 27 = .ok (.ireturn, 1) := by decide +kernel
theorem dX8_odds_28 : decode cX8_odds 28 = .ok (.aload_n 0, 1) := by decide +kernel
theorem dX8_odds_29 : decode cX8_odds 29 = .ok (.getfield 79, 3) := by decide +kernel
theorem dX8_odds_32 : decode cX8_odds 32 = .ok (.iload_n 1, 1) := by decide +kernel
theorem dX8_odds_33 : decode cX8_odds 33 = .ok (.iload_n 2, 1) := by decide +kernel
theorem dX8_odds_34 : decode cX8_odds 34 = .ok (.invokevirtual 236, 3) := by decide +kernel
theorem dX8_odds_37 : decode cX8_odds 37 = .ok (.istore 4, 2) := by decide +kernel
theorem dX8_odds_39 : decode cX8_odds 39 = .ok (.bipush 10, 2) := by decide +kernel
theorem dX8_odds_41 : decode cX8_odds 41 = .ok (.aload_n 0, 1) := by decide +kernel
theorem dX8_odds_42 : decode cX8_odds 42 = .ok (.getfield 24, 3) := by decide +kernel
theorem dX8_odds_45 : decode cX8_odds 45 = .ok (.getfield 239, 3) := by decide +kernel
theorem dX8_odds_48 : decode cX8_odds 48 = .ok (.invokestatic 242, 3) := by decide +kernel
theorem dX8_odds_51 : decode cX8_odds 51 = .ok (.istore 5, 2) := by decide +kernel
theorem dX8_odds_53 : decode cX8_odds 53 = .ok (.iload 4, 2) := by decide +kernel
theorem dX8_odds_55 : decode cX8_odds 55 = .ok (.iload 5, 2) := by decide +kernel
theorem dX8_odds_57 : decode cX8_odds 57 = .ok (.invokestatic 245, 3) := by decide +kernel
theorem dX8_odds_60 : decode cX8_odds 60 = .ok (.istore 6, 2) := by decide +kernel
theorem dX8_odds_62 : decode cX8_odds 62 = .ok (.iload 6, 2) := by decide +kernel
theorem dX8_odds_64 : decode cX8_odds 64 = .ok (.ifCond .gt 5, 3) := by decide +kernel
theorem dX8_odds_67 : decode cX8_odds 67 = .ok (.iconst (-1), 1) := by decide +kernel
theorem dX8_odds_68 : decode cX8_odds 68 = .ok (.ireturn, 1) := by decide +kernel
theorem dX8_odds_69 : decode cX8_odds 69 = .ok (.iload_n 3, 1) := by decide +kernel
theorem dX8_odds_70 : decode cX8_odds 70 = .ok (.ifCond .ne 8, 3) := by decide +kernel
theorem dX8_odds_73 : decode cX8_odds 73 = .ok (.iload 4, 2) := by decide +kernel
theorem dX8_odds_75 : decode cX8_odds 75 = .ok (.goto 5, 3) := by decide +kernel
theorem dX8_odds_78 : decode cX8_odds 78 = .ok (.iload 5, 2) := by decide +kernel
theorem dX8_odds_80 : decode cX8_odds 80 = .ok (.iload 6, 2) := by decide +kernel
theorem dX8_odds_82 : decode cX8_odds 82 = .ok (.idiv, 1) := by decide +kernel
theorem dX8_odds_83 : decode cX8_odds 83 = .ok (.ireturn, 1) := by decide +kernel
theorem dX8_winter_0 : decode cX8_winter 0 = .ok (.iload_n 1, 1) := by decide +kernel
theorem dX8_winter_1 : decode cX8_winter 1 = .ok (.iconst 0, 1) := by decide +kernel
theorem dX8_winter_2 : decode cX8_winter 2 = .ok (.bipush 60, 2) := by decide +kernel
theorem dX8_winter_4 : decode cX8_winter 4 = .ok (.invokestatic 94, 3) := by decide +kernel
theorem dX8_winter_7 : decode cX8_winter 7 = .ok (.ifCond .eq 20, 3) := by decide +kernel
theorem dX8_winter_10 : decode cX8_winter 10 = .ok (.iload_n 2, 1) := by decide +kernel
theorem dX8_winter_11 : decode cX8_winter 11 = .ok (.iconst 1, 1) := by decide +kernel
theorem dX8_winter_12 : decode cX8_winter 12 = .ok (.ldc 248, 2) := by decide +kernel
theorem dX8_winter_14 : decode cX8_winter 14 = .ok (.invokestatic 94, 3) := by decide +kernel
theorem dX8_winter_17 : decode cX8_winter 17 = .ok (.ifCond .eq 10, 3) := by decide +kernel
theorem dX8_winter_20 : decode cX8_winter 20 = .ok (.iload_n 3, 1) := by decide +kernel
theorem dX8_winter_21 : decode cX8_winter 21 = .ok (.invokestatic 206, 3) := by decide +kernel
theorem dX8_winter_24 : decode cX8_winter 24 = .ok (.ifCond .ne 5, 3) := by decide +kernel
theorem dX8_winter_27 : decode cX8_winter 27 = .ok (.iconst (-1), 1) := by decide +kernel
theorem dX8_winter_28 : decode cX8_winter 28 = .ok (.ireturn, 1) := by decide +kernel
theorem dX8_winter_29 : decode cX8_winter 29 = .ok (.aload_n 0, 1) := by decide +kernel
theorem dX8_winter_30 : decode cX8_winter 30 = .ok (.getfield 79, 3) := by decide +kernel
theorem dX8_winter_33 : decode cX8_winter 33 = .ok (.iload_n 1, 1) := by decide +kernel
theorem dX8_winter_34 : decode cX8_winter 34 = .ok (.iload_n 2, 1) := by decide +kernel
theorem dX8_winter_35 : decode cX8_winter 35 = .ok (.iload_n 3, 1) := by decide +kernel
theorem dX8_winter_36 : decode cX8_winter 36 = .ok (.invokevirtual 249, 3) := by decide +kernel
theorem dX8_winter_39 : decode cX8_winter 39 = .ok (.ireturn, 1) := by decide +kernel
theorem dX8_sees_0 : decode cX8_sees 0 = .ok (.iload_n 1, 1) := by decide +kernel
theorem dX8_sees_1 : decode cX8_sees 1 = .ok (.invokestatic 206, 3) := by decide +kernel
theorem dX8_sees_4 : decode cX8_sees 4 = .ok (.ifCond .eq 12, 3) := by decide +kernel
theorem dX8_sees_7 : decode cX8_sees 7 = .ok (.iload_n 2, 1) := by decide +kernel
theorem dX8_sees_8 : decode cX8_sees 8 = .ok (.iconst 0, 1) := by decide +kernel
theorem dX8_sees_9 : decode cX8_sees 9 = .ok (.iconst 1, 1) := by decide +kernel
theorem dX8_sees_10 : decode cX8_sees 10 = .ok (.invokestatic 94, 3) := by decide +kernel
theorem dX8_sees_13 : decode cX8_sees 13 = .ok (.ifCond .ne 5, 3) := by decide +kernel
theorem dX8_sees_16 : decode cX8_sees 16 = .ok (.iconst (-1), 1) := by decide +kernel
theorem dX8_sees_17 : decode cX8_sees 17 = .ok (.ireturn, 1) := by decide +kernel
theorem dX8_sees_18 : decode cX8_sees 18 = .ok (.aload_n 0, 1) := by decide +kernel
theorem dX8_sees_19 : decode cX8_sees 19 = .ok (.getfield 86, 3) := by decide +kernel
theorem dX8_sees_22 : decode cX8_sees 22 = .ok (.iload_n 1, 1) := by decide +kernel
theorem dX8_sees_23 : decode cX8_sees 23 = .ok (.iload_n 2, 1) := by decide +kernel
theorem dX8_sees_24 : decode cX8_sees 24 = .ok (.iconst 1, 1) := by decide +kernel
theorem dX8_sees_25 : decode cX8_sees 25 = .ok (.if_icmp .ne 7, 3) := by decide +kernel
theorem dX8_sees_28 : decode cX8_sees 28 = .ok (.iconst 1, 1) := by decide +kernel
theorem dX8_sees_29 : decode cX8_sees 29 = .ok (.goto 4, 3) := by decide +kernel
theorem dX8_sees_32 : decode cX8_sees 32 = .ok (.iconst 0, 1) := by decide +kernel
theorem dX8_sees_33 : decode cX8_sees 33 = .ok (.invokevirtual 252, 3) := by decide +kernel
theorem dX8_sees_36 : decode cX8_sees 36 = .ok (.ifCond .eq 13, 3) := by decide +kernel
theorem dX8_sees_39 : decode cX8_sees 39 = .ok (.aload_n 0, 1) := by decide +kernel
theorem dX8_sees_40 : decode cX8_sees 40 = .ok (.getfield 86, 3) := by decide +kernel
theorem dX8_sees_43 : decode cX8_sees 43 = .ok (.getfield 114, 3) := by decide +kernel
theorem dX8_sees_46 : decode cX8_sees 46 = .ok (.goto 5, 3) := by decide +kernel
theorem dX8_sees_49 : decode cX8_sees 49 = .ok (.bipush (-3), 2) := by decide +kernel
theorem dX8_sees_51 : decode cX8_sees 51 = .ok (.ireturn, 1) := by decide +kernel
theorem dX8_forget_0 : decode cX8_forget 0 = .ok (.aload_n 0, 1) := by decide +kernel
theorem dX8_forget_1 : decode cX8_forget 1 = .ok (.getfield 86, 3) := by decide +kernel
theorem dX8_forget_4 : decode cX8_forget 4 = .ok (.getfield 114, 3) := by decide +kernel
theorem dX8_forget_7 : decode cX8_forget 7 = .ok (.istore_n 1, 1) := by decide +kernel
theorem dX8_forget_8 : decode cX8_forget 8 = .ok (.aload_n 0, 1) := by decide +kernel
theorem dX8_forget_9 : decode cX8_forget 9 = .ok (.getfield 86, 3) := by decide +kernel
theorem dX8_forget_12 : decode cX8_forget 12 = .ok (.iconst 0, 1) := by decide +kernel
theorem dX8_forget_13 : decode cX8_forget 13 = .ok (.putfield 114, 3) := by decide +kernel
theorem dX8_forget_16 : decode cX8_forget 16 = .ok (.iload_n 1, 1) := by decide +kernel
theorem dX8_forget_17 : decode cX8_forget 17 = .ok (.ireturn, 1) := by decide +kernel
theorem dX8_words_0 : decode cX8_words 0 = .ok (.aload_n 0, 1) := by decide +kernel
theorem dX8_words_1 : decode cX8_words 1 = .ok (.getfield 24, 3) := by decide +kernel
theorem dX8_words_4 : decode cX8_words 4 = .ok (.iload_n 1, 1) := by decide +kernel
theorem dX8_words_5 : decode cX8_words 5 = .ok (.invokevirtual 117, 3) := by decide +kernel
theorem dX8_words_8 : decode cX8_words 8 = .ok (.ifCond .ne 5, 3) := by decide +kernel
theorem dX8_words_11 : decode cX8_words 11 = .ok (.iconst (-1), 1) := by decide +kernel
theorem dX8_words_12 : decode cX8_words 12 = .ok (.ireturn, 1) := by decide +kernel
theorem dX8_words_13 : decode cX8_words 13 = .ok (.iload_n 2, 1) := by decide +kernel
theorem dX8_words_14 : decode cX8_words 14 = .ok (.tableswitch 53 0 2 #[26, 35, 44], 26) := by decide +kernel
theorem dX8_words_40 : decode cX8_words 40 = .ok (.aload_n 0, 1) := by decide +kernel
theorem dX8_words_41 : decode cX8_words 41 = .ok (.getfield 86, 3) := by decide +kernel
theorem dX8_words_44 : decode cX8_words 44 = .ok (.iload_n 1, 1) := by decide +kernel
theorem dX8_words_45 : decode cX8_words 45 = .ok (.invokevirtual 256, 3) := by decide +kernel
theorem dX8_words_48 : decode cX8_words 48 = .ok (.ireturn, 1) := by decide +kernel
theorem dX8_words_49 : decode cX8_words 49 = .ok (.aload_n 0, 1) := by decide +kernel
theorem dX8_words_50 : decode cX8_words 50 = .ok (.getfield 86, 3) := by decide +kernel
theorem dX8_words_53 : decode cX8_words 53 = .ok (.iload_n 1, 1) := by decide +kernel
theorem dX8_words_54 : decode cX8_words 54 = .ok (.invokevirtual 259, 3) := by decide +kernel
theorem dX8_words_57 : decode cX8_words 57 = .ok (.ireturn, 1) := by decide +kernel
theorem dX8_words_58 : decode cX8_words 58 = .ok (.aload_n 0, 1) := by decide +kernel
theorem dX8_words_59 : decode cX8_words 59 = .ok (.getfield 86, 3) := by decide +kernel
theorem dX8_words_62 : decode cX8_words 62 = .ok (.iload_n 1, 1) := by decide +kernel
theorem dX8_words_63 : decode cX8_words 63 = .ok (.invokevirtual 262, 3) := by decide +kernel
theorem dX8_words_66 : decode cX8_words 66 = .ok (.ireturn, 1) := by decide +kernel
theorem dX8_words_67 : decode cX8_words 67 = .ok (.iconst (-1), 1) := by decide +kernel
theorem dX8_words_68 : decode cX8_words 68 = .ok (.ireturn, 1) := by decide +kernel
theorem dX8_next_0 : decode cX8_next 0 = .ok (.aload_n 0, 1) := by decide +kernel
theorem dX8_next_1 : decode cX8_next 1 = .ok (.getfield 24, 3) := by decide +kernel
theorem dX8_next_4 : decode cX8_next 4 = .ok (.iload_n 1, 1) := by decide +kernel
theorem dX8_next_5 : decode cX8_next 5 = .ok (.invokevirtual 117, 3) := by decide +kernel
theorem dX8_next_8 : decode cX8_next 8 = .ok (.ifCond .eq 14, 3) := by decide +kernel
theorem dX8_next_11 : decode cX8_next 11 = .ok (.aload_n 0, 1) := by decide +kernel
theorem dX8_next_12 : decode cX8_next 12 = .ok (.getfield 86, 3) := by decide +kernel
theorem dX8_next_15 : decode cX8_next 15 = .ok (.iload_n 1, 1) := by decide +kernel
theorem dX8_next_16 : decode cX8_next 16 = .ok (.invokevirtual 265, 3) := by decide +kernel
theorem dX8_next_19 : decode cX8_next 19 = .ok (.goto 4, 3) := by decide +kernel
theorem dX8_next_22 : decode cX8_next 22 = .ok (.iconst (-1), 1) := by decide +kernel
theorem dX8_next_23 : decode cX8_next 23 = .ok (.ireturn, 1) := by decide +kernel
theorem dX8_rateAsPerson_0 : decode cX8_rateAsPerson 0 = .ok (.aload_n 0, 1) := by decide +kernel
theorem dX8_rateAsPerson_1 : decode cX8_rateAsPerson 1 = .ok (.dup, 1) := by decide +kernel
theorem dX8_rateAsPerson_2 : decode cX8_rateAsPerson 2 = .ok (.getfield 90, 3) := by decide +kernel
theorem dX8_rateAsPerson_5 : decode cX8_rateAsPerson 5 = .ok (.lconst 1, 1) := by decide +kernel
theorem dX8_rateAsPerson_6 : decode cX8_rateAsPerson 6 = .ok (.ladd, 1) := by decide +kernel
theorem dX8_rateAsPerson_7 : decode cX8_rateAsPerson 7 = .ok (.putfield 90, 3) := by decide +kernel
theorem dX8_rateAsPerson_10 : decode cX8_rateAsPerson 10 = .ok (.aload_n 0, 1) := by decide +kernel
theorem dX8_rateAsPerson_11 : decode cX8_rateAsPerson 11 = .ok (.getfield 24, 3) := by decide +kernel
theorem dX8_rateAsPerson_14 : decode cX8_rateAsPerson 14 = .ok (.getfield 127, 3) := by decide +kernel
theorem dX8_rateAsPerson_17 : decode cX8_rateAsPerson 17 = .ok (.iload_n 1, 1) := by decide +kernel
theorem dX8_rateAsPerson_18 : decode cX8_rateAsPerson 18 = .ok (.iaload, 1) := by decide +kernel
theorem dX8_rateAsPerson_19 : decode cX8_rateAsPerson 19 = .ok (.ireturn, 1) := by decide +kernel
theorem dX8_rateAsPlain_0 : decode cX8_rateAsPlain 0 = .ok (.aload_n 0, 1) := by decide +kernel
theorem dX8_rateAsPlain_1 : decode cX8_rateAsPlain 1 = .ok (.dup, 1) := by decide +kernel
theorem dX8_rateAsPlain_2 : decode cX8_rateAsPlain 2 = .ok (.getfield 90, 3) := by decide +kernel
theorem dX8_rateAsPlain_5 : decode cX8_rateAsPlain 5 = .ok (.ldc2_w 292, 3) := by decide +kernel
theorem dX8_rateAsPlain_8 : decode cX8_rateAsPlain 8 = .ok (.ladd, 1) := by decide +kernel
theorem dX8_rateAsPlain_9 : decode cX8_rateAsPlain 9 = .ok (.putfield 90, 3) := by decide +kernel
theorem dX8_rateAsPlain_12 : decode cX8_rateAsPlain 12 = .ok (.aload_n 0, 1) := by decide +kernel
theorem dX8_rateAsPlain_13 : decode cX8_rateAsPlain 13 = .ok (.iload_n 1, 1) := by decide +kernel
theorem dX8_rateAsPlain_14 : decode cX8_rateAsPlain 14 = .ok (.invokevirtual 269, 3) := by decide +kernel
theorem dX8_rateAsPlain_17 : decode cX8_rateAsPlain 17 = .ok (.aload_n 0, 1) := by decide +kernel
theorem dX8_rateAsPlain_18 : decode cX8_rateAsPlain 18 = .ok (.getfield 24, 3) := by decide +kernel
theorem dX8_rateAsPlain_21 : decode cX8_rateAsPlain 21 = .ok (.getfield 130, 3) := by decide +kernel
theorem dX8_rateAsPlain_24 : decode cX8_rateAsPlain 24 = .ok (.iload_n 1, 1) := by decide +kernel
theorem dX8_rateAsPlain_25 : decode cX8_rateAsPlain 25 = .ok (.iaload, 1) := by decide +kernel
theorem dX8_rateAsPlain_26 : decode cX8_rateAsPlain 26 = .ok (.iadd, 1) := by decide +kernel
theorem dX8_rateAsPlain_27 : decode cX8_rateAsPlain 27 = .ok (.ireturn, 1) := by decide +kernel
theorem dX8_rateAsChild_0 : decode cX8_rateAsChild 0 = .ok (.aload_n 0, 1) := by decide +kernel
theorem dX8_rateAsChild_1 : decode cX8_rateAsChild 1 = .ok (.dup, 1) := by decide +kernel
theorem dX8_rateAsChild_2 : decode cX8_rateAsChild 2 = .ok (.getfield 90, 3) := by decide +kernel
theorem dX8_rateAsChild_5 : decode cX8_rateAsChild 5 = .ok (.ldc2_w 294, 3) := by decide +kernel
theorem dX8_rateAsChild_8 : decode cX8_rateAsChild 8 = .ok (.ladd, 1) := by decide +kernel
theorem dX8_rateAsChild_9 : decode cX8_rateAsChild 9 = .ok (.putfield 90, 3) := by decide +kernel
theorem dX8_rateAsChild_12 : decode cX8_rateAsChild 12 = .ok (.iconst 2, 1) := by decide +kernel
theorem dX8_rateAsChild_13 : decode cX8_rateAsChild 13 = .ok (.aload_n 0, 1) := by decide +kernel
theorem dX8_rateAsChild_14 : decode cX8_rateAsChild 14 = .ok (.iload_n 1, 1) := by decide +kernel
theorem dX8_rateAsChild_15 : decode cX8_rateAsChild 15 = .ok (.invokevirtual 272, 3) := by decide +kernel
theorem dX8_rateAsChild_18 : decode cX8_rateAsChild 18 = .ok (.imul, 1) := by decide +kernel
theorem dX8_rateAsChild_19 : decode cX8_rateAsChild 19 = .ok (.ireturn, 1) := by decide +kernel
theorem dX8_rateAsSworn_0 : decode cX8_rateAsSworn 0 = .ok (.aload_n 0, 1) := by decide +kernel
theorem dX8_rateAsSworn_1 : decode cX8_rateAsSworn 1 = .ok (.dup, 1) := by decide +kernel
theorem dX8_rateAsSworn_2 : decode cX8_rateAsSworn 2 = .ok (.getfield 90, 3) := by decide +kernel
theorem dX8_rateAsSworn_5 : decode cX8_rateAsSworn 5 = .ok (.ldc2_w 296, 3) := by decide +kernel
theorem dX8_rateAsSworn_8 : decode cX8_rateAsSworn 8 = .ok (.ladd, 1) := by decide +kernel
theorem dX8_rateAsSworn_9 : decode cX8_rateAsSworn 9 = .ok (.putfield 90, 3) := by decide +kernel
theorem dX8_rateAsSworn_12 : decode cX8_rateAsSworn 12 = .ok (.aload_n 0, 1) := by decide +kernel
theorem dX8_rateAsSworn_13 : decode cX8_rateAsSworn 13 = .ok (.iload_n 1, 1) := by decide +kernel
theorem dX8_rateAsSworn_14 : decode cX8_rateAsSworn 14 = .ok (.invokevirtual 269, 3) := by decide +kernel
theorem dX8_rateAsSworn_17 : decode cX8_rateAsSworn 17 = .ok (.aload_n 0, 1) := by decide +kernel
theorem dX8_rateAsSworn_18 : decode cX8_rateAsSworn 18 = .ok (.aload_n 0, 1) := by decide +kernel
theorem dX8_rateAsSworn_19 : decode cX8_rateAsSworn 19 = .ok (.getfield 48, 3) := by decide +kernel
theorem dX8_rateAsSworn_22 : decode cX8_rateAsSworn 22 = .ok (.getfield 133, 3) := by decide +kernel
theorem dX8_rateAsSworn_25 : decode cX8_rateAsSworn 25 = .ok (.iload_n 1, 1) := by decide +kernel
theorem dX8_rateAsSworn_26 : decode cX8_rateAsSworn 26 = .ok (.invokevirtual 136, 3) := by decide +kernel
theorem dX8_rateAsSworn_29 : decode cX8_rateAsSworn 29 = .ok (.invokestatic 298, 3) := by decide +kernel
theorem dX8_rateAsSworn_32 : decode cX8_rateAsSworn 32 = .ok (.iadd, 1) := by decide +kernel
theorem dX8_rateAsSworn_33 : decode cX8_rateAsSworn 33 = .ok (.ireturn, 1) := by decide +kernel
theorem dX8_rateAsMerchant_0 : decode cX8_rateAsMerchant 0 = .ok (.aload_n 0, 1) := by decide +kernel
theorem dX8_rateAsMerchant_1 : decode cX8_rateAsMerchant 1 = .ok (.dup, 1) := by decide +kernel
theorem dX8_rateAsMerchant_2 : decode cX8_rateAsMerchant 2 = .ok (.getfield 90, 3) := by decide +kernel
theorem dX8_rateAsMerchant_5 : decode cX8_rateAsMerchant 5 = .ok (.ldc2_w 303, 3) := by decide +kernel
theorem dX8_rateAsMerchant_8 : decode cX8_rateAsMerchant 8 = .ok (.ladd, 1) := by decide +kernel
theorem dX8_rateAsMerchant_9 : decode cX8_rateAsMerchant 9 = .ok (.putfield 90, 3) := by decide +kernel
theorem dX8_rateAsMerchant_12 : decode cX8_rateAsMerchant 12 = .ok (.aload_n 0, 1) := by decide +kernel
theorem dX8_rateAsMerchant_13 : decode cX8_rateAsMerchant 13 = .ok (.aload_n 0, 1) := by decide +kernel
theorem dX8_rateAsMerchant_14 : decode cX8_rateAsMerchant 14 = .ok (.getfield 48, 3) := by decide +kernel
theorem dX8_rateAsMerchant_17 : decode cX8_rateAsMerchant 17 = .ok (.getfield 133, 3) := by decide +kernel
theorem dX8_rateAsMerchant_20 : decode cX8_rateAsMerchant 20 = .ok (.iload_n 1, 1) := by decide +kernel
theorem dX8_rateAsMerchant_21 : decode cX8_rateAsMerchant 21 = .ok (.invokevirtual 136, 3) := by decide +kernel
theorem dX8_rateAsMerchant_24 : decode cX8_rateAsMerchant 24 = .ok (.aload_n 0, 1) := by decide +kernel
theorem dX8_rateAsMerchant_25 : decode cX8_rateAsMerchant 25 = .ok (.aload_n 0, 1) := by decide +kernel
theorem dX8_rateAsMerchant_26 : decode cX8_rateAsMerchant 26 = .ok (.getfield 48, 3) := by decide +kernel
theorem dX8_rateAsMerchant_29 : decode cX8_rateAsMerchant 29 = .ok (.getfield 140, 3) := by decide +kernel
theorem dX8_rateAsMerchant_32 : decode cX8_rateAsMerchant 32 = .ok (.iload_n 1, 1) := by decide +kernel
theorem dX8_rateAsMerchant_33 : decode cX8_rateAsMerchant 33 = .ok (.invokevirtual 136, 3) := by decide +kernel
theorem dX8_rateAsMerchant_36 : decode cX8_rateAsMerchant 36 = .ok (.ior, 1) := by decide +kernel
theorem dX8_rateAsMerchant_37 : decode cX8_rateAsMerchant 37 = .ok (.istore_n 2, 1) := by decide +kernel
theorem dX8_rateAsMerchant_38 : decode cX8_rateAsMerchant 38 = .ok (.aload_n 0, 1) := by decide +kernel
theorem dX8_rateAsMerchant_39 : decode cX8_rateAsMerchant 39 = .ok (.iload_n 1, 1) := by decide +kernel
theorem dX8_rateAsMerchant_40 : decode cX8_rateAsMerchant 40 = .ok (.invokevirtual 269, 3) := by decide +kernel
theorem dX8_rateAsMerchant_43 : decode cX8_rateAsMerchant 43 = .ok (.iload_n 2, 1) := by decide +kernel
theorem dX8_rateAsMerchant_44 : decode cX8_rateAsMerchant 44 = .ok (.invokestatic 298, 3) := by decide +kernel
theorem dX8_rateAsMerchant_47 : decode cX8_rateAsMerchant 47 = .ok (.isub, 1) := by decide +kernel
theorem dX8_rateAsMerchant_48 : decode cX8_rateAsMerchant 48 = .ok (.ireturn, 1) := by decide +kernel
theorem dX8_rateAsLiar_0 : decode cX8_rateAsLiar 0 = .ok (.aload_n 0, 1) := by decide +kernel
theorem dX8_rateAsLiar_1 : decode cX8_rateAsLiar 1 = .ok (.dup, 1) := by decide +kernel
theorem dX8_rateAsLiar_2 : decode cX8_rateAsLiar 2 = .ok (.getfield 90, 3) := by decide +kernel
theorem dX8_rateAsLiar_5 : decode cX8_rateAsLiar 5 = .ok (.ldc2_w 305, 3) := by decide +kernel
theorem dX8_rateAsLiar_8 : decode cX8_rateAsLiar 8 = .ok (.ladd, 1) := by decide +kernel
theorem dX8_rateAsLiar_9 : decode cX8_rateAsLiar 9 = .ok (.putfield 90, 3) := by decide +kernel
theorem dX8_rateAsLiar_12 : decode cX8_rateAsLiar 12 = .ok (.iconst 3, 1) := by decide +kernel
theorem dX8_rateAsLiar_13 : decode cX8_rateAsLiar 13 = .ok (.aload_n 0, 1) := by decide +kernel
theorem dX8_rateAsLiar_14 : decode cX8_rateAsLiar 14 = .ok (.iload_n 1, 1) := by decide +kernel
theorem dX8_rateAsLiar_15 : decode cX8_rateAsLiar 15 = .ok (.invokevirtual 281, 3) := by decide +kernel
theorem dX8_rateAsLiar_18 : decode cX8_rateAsLiar 18 = .ok (.imul, 1) := by decide +kernel
theorem dX8_rateAsLiar_19 : decode cX8_rateAsLiar 19 = .ok (.iload_n 1, 1) := by decide +kernel
theorem dX8_rateAsLiar_20 : decode cX8_rateAsLiar 20 = .ok (.iadd, 1) := by decide +kernel
theorem dX8_rateAsLiar_21 : decode cX8_rateAsLiar 21 = .ok (.ireturn, 1) := by decide +kernel
theorem dX8_rate_0 : decode cX8_rate 0 = .ok (.aload_n 0, 1) := by decide +kernel
theorem dX8_rate_1 : decode cX8_rate 1 = .ok (.getfield 24, 3) := by decide +kernel
theorem dX8_rate_4 : decode cX8_rate 4 = .ok (.iload_n 2, 1) := by decide +kernel
theorem dX8_rate_5 : decode cX8_rate 5 = .ok (.invokevirtual 117, 3) := by decide +kernel
theorem dX8_rate_8 : decode cX8_rate 8 = .ok (.ifCond .ne 7, 3) := by decide +kernel
theorem dX8_rate_11 : decode cX8_rate 11 = .ok (.ldc_w 268, 3) := by decide +kernel
theorem dX8_rate_14 : decode cX8_rate 14 = .ok (.ireturn, 1) := by decide +kernel
theorem dX8_rate_15 : decode cX8_rate 15 = .ok (.iload_n 1, 1) := by decide +kernel
theorem dX8_rate_16 : decode cX8_rate 16 = .ok (.tableswitch 76 0 5 #[40, 46, 52, 58, 64, 70], 40) := by decide +kernel
theorem dX8_rate_56 : decode cX8_rate 56 = .ok (.aload_n 0, 1) := by decide +kernel
theorem dX8_rate_57 : decode cX8_rate 57 = .ok (.iload_n 2, 1) := by decide +kernel
theorem dX8_rate_58 : decode cX8_rate 58 = .ok (.invokevirtual 269, 3) := by decide +kernel
theorem dX8_rate_61 : decode cX8_rate 61 = .ok (.ireturn, 1) := by decide +kernel
theorem dX8_rate_62 : decode cX8_rate 62 = .ok (.aload_n 0, 1) := by decide +kernel
theorem dX8_rate_63 : decode cX8_rate 63 = .ok (.iload_n 2, 1) := by decide +kernel
theorem dX8_rate_64 : decode cX8_rate 64 = .ok (.invokevirtual 272, 3) := by decide +kernel
theorem dX8_rate_67 : decode cX8_rate 67 = .ok (.ireturn, 1) := by decide +kernel
theorem dX8_rate_68 : decode cX8_rate 68 = .ok (.aload_n 0, 1) := by decide +kernel
theorem dX8_rate_69 : decode cX8_rate 69 = .ok (.iload_n 2, 1) := by decide +kernel
theorem dX8_rate_70 : decode cX8_rate 70 = .ok (.invokevirtual 275, 3) := by decide +kernel
theorem dX8_rate_73 : decode cX8_rate 73 = .ok (.ireturn, 1) := by decide +kernel
theorem dX8_rate_74 : decode cX8_rate 74 = .ok (.aload_n 0, 1) := by decide +kernel
theorem dX8_rate_75 : decode cX8_rate 75 = .ok (.iload_n 2, 1) := by decide +kernel
theorem dX8_rate_76 : decode cX8_rate 76 = .ok (.invokevirtual 278, 3) := by decide +kernel
theorem dX8_rate_79 : decode cX8_rate 79 = .ok (.ireturn, 1) := by decide +kernel
theorem dX8_rate_80 : decode cX8_rate 80 = .ok (.aload_n 0, 1) := by decide +kernel
theorem dX8_rate_81 : decode cX8_rate 81 = .ok (.iload_n 2, 1) := by decide +kernel
theorem dX8_rate_82 : decode cX8_rate 82 = .ok (.invokevirtual 281, 3) := by decide +kernel
theorem dX8_rate_85 : decode cX8_rate 85 = .ok (.ireturn, 1) := by decide +kernel
theorem dX8_rate_86 : decode cX8_rate 86 = .ok (.aload_n 0, 1) := by decide +kernel
theorem dX8_rate_87 : decode cX8_rate 87 = .ok (.iload_n 2, 1) := by decide +kernel
theorem dX8_rate_88 : decode cX8_rate 88 = .ok (.invokevirtual 284, 3) := by decide +kernel
theorem dX8_rate_91 : decode cX8_rate 91 = .ok (.ireturn, 1) := by decide +kernel
theorem dX8_rate_92 : decode cX8_rate 92 = .ok (.ldc_w 268, 3) := by decide +kernel
theorem dX8_rate_95 : decode cX8_rate 95 = .ok (.ireturn, 1) := by decide +kernel
theorem dX8_count_0 : decode cX8_count 0 = .ok (.iload_n 1, 1) := by decide +kernel
theorem dX8_count_1 : decode cX8_count 1 = .ok (.tableswitch 60 0 3 #[31, 39, 47, 55], 31) := by decide +kernel
theorem dX8_count_32 : decode cX8_count 32 = .ok (.aload_n 0, 1) := by decide +kernel
theorem dX8_count_33 : decode cX8_count 33 = .ok (.getfield 24, 3) := by decide +kernel
theorem dX8_count_36 : decode cX8_count 36 = .ok (.getfield 289, 3) := by decide +kernel
theorem dX8_count_39 : decode cX8_count 39 = .ok (.ireturn, 1) := by decide +kernel
theorem dX8_count_40 : decode cX8_count 40 = .ok (.aload_n 0, 1) := by decide +kernel
theorem dX8_count_41 : decode cX8_count 41 = .ok (.getfield 24, 3) := by decide +kernel
theorem dX8_count_44 : decode cX8_count 44 = .ok (.getfield 239, 3) := by decide +kernel
theorem dX8_count_47 : decode cX8_count 47 = .ok (.ireturn, 1) := by decide +kernel
theorem dX8_count_48 : decode cX8_count 48 = .ok (.aload_n 0, 1) := by decide +kernel
theorem dX8_count_49 : decode cX8_count 49 = .ok (.getfield 86, 3) := by decide +kernel
theorem dX8_count_52 : decode cX8_count 52 = .ok (.getfield 114, 3) := by decide +kernel
theorem dX8_count_55 : decode cX8_count 55 = .ok (.ireturn, 1) := by decide +kernel
theorem dX8_count_56 : decode cX8_count 56 = .ok (.aload_n 0, 1) := by decide +kernel
theorem dX8_count_57 : decode cX8_count 57 = .ok (.getfield 13, 3) := by decide +kernel
theorem dX8_count_60 : decode cX8_count 60 = .ok (.ireturn, 1) := by decide +kernel
theorem dX8_count_61 : decode cX8_count 61 = .ok (.iconst (-1), 1) := by decide +kernel
theorem dX8_count_62 : decode cX8_count 62 = .ok (.ireturn, 1) := by decide +kernel
theorem dX8_trace_0 : decode cX8_trace 0 = .ok (.aload_n 0, 1) := by decide +kernel
theorem dX8_trace_1 : decode cX8_trace 1 = .ok (.getfield 90, 3) := by decide +kernel
theorem dX8_trace_4 : decode cX8_trace 4 = .ok (.lreturn, 1) := by decide +kernel
theorem dX9_in_0 : decode cX9_in 0 = .ok (.iload_n 0, 1) := by decide +kernel
theorem dX9_in_1 : decode cX9_in 1 = .ok (.iload_n 1, 1) := by decide +kernel
theorem dX9_in_2 : decode cX9_in 2 = .ok (.if_icmp .lt 12, 3) := by decide +kernel
theorem dX9_in_5 : decode cX9_in 5 = .ok (.iload_n 0, 1) := by decide +kernel
theorem dX9_in_6 : decode cX9_in 6 = .ok (.iload_n 2, 1) := by decide +kernel
theorem dX9_in_7 : decode cX9_in 7 = .ok (.if_icmp .gt 7, 3) := by decide +kernel
theorem dX9_in_10 : decode cX9_in 10 = .ok (.iconst 1, 1) := by decide +kernel
theorem dX9_in_11 : decode cX9_in 11 = .ok (.goto 4, 3) := by decide +kernel
theorem dX9_in_14 : decode cX9_in 14 = .ok (.iconst 0, 1) := by decide +kernel
theorem dX9_in_15 : decode cX9_in 15 = .ok (.ireturn, 1) := by decide +kernel
theorem dX9_has_0 : decode cX9_has 0 = .ok (.iload_n 0, 1) := by decide +kernel
theorem dX9_has_1 : decode cX9_has 1 = .ok (.iload_n 1, 1) := by decide +kernel
theorem dX9_has_2 : decode cX9_has 2 = .ok (.ishr, 1) := by decide +kernel
theorem dX9_has_3 : decode cX9_has 3 = .ok (.iconst 1, 1) := by decide +kernel
theorem dX9_has_4 : decode cX9_has 4 = .ok (.iand, 1) := by decide +kernel
theorem dX9_has_5 : decode cX9_has 5 = .ok (.iconst 1, 1) := by decide +kernel
theorem dX9_has_6 : decode cX9_has 6 = .ok (.if_icmp .ne 7, 3) := by decide +kernel
theorem dX9_has_9 : decode cX9_has 9 = .ok (.iconst 1, 1) := by decide +kernel
theorem dX9_has_10 : decode cX9_has 10 = .ok (.goto 4, 3) := by decide +kernel
theorem dX9_has_13 : decode cX9_has 13 = .ok (.iconst 0, 1) := by decide +kernel
theorem dX9_has_14 : decode cX9_has 14 = .ok (.ireturn, 1) := by decide +kernel
theorem dX9_ones_0 : decode cX9_ones 0 = .ok (.iconst 0, 1) := by decide +kernel
theorem dX9_ones_1 : decode cX9_ones 1 = .ok (.istore_n 1, 1) := by decide +kernel
theorem dX9_ones_2 : decode cX9_ones 2 = .ok (.iconst 0, 1) := by decide +kernel
theorem dX9_ones_3 : decode cX9_ones 3 = .ok (.istore_n 2, 1) := by decide +kernel
theorem dX9_ones_4 : decode cX9_ones 4 = .ok (.iload_n 2, 1) := by decide +kernel
theorem dX9_ones_5 : decode cX9_ones 5 = .ok (.bipush 9, 2) := by decide +kernel
theorem dX9_ones_7 : decode cX9_ones 7 = .ok (.if_icmp .ge 17, 3) := by decide +kernel
theorem dX9_ones_10 : decode cX9_ones 10 = .ok (.iload_n 1, 1) := by decide +kernel
theorem dX9_ones_11 : decode cX9_ones 11 = .ok (.iload_n 0, 1) := by decide +kernel
theorem dX9_ones_12 : decode cX9_ones 12 = .ok (.iload_n 2, 1) := by decide +kernel
theorem dX9_ones_13 : decode cX9_ones 13 = .ok (.ishr, 1) := by decide +kernel
theorem dX9_ones_14 : decode cX9_ones 14 = .ok (.iconst 1, 1) := by decide +kernel
theorem dX9_ones_15 : decode cX9_ones 15 = .ok (.iand, 1) := by decide +kernel
theorem dX9_ones_16 : decode cX9_ones 16 = .ok (.iadd, 1) := by decide +kernel
theorem dX9_ones_17 : decode cX9_ones 17 = .ok (.istore_n 1, 1) := by decide +kernel
theorem dX9_ones_18 : decode cX9_ones 18 = .ok (.iinc 2 1, 3) := by decide +kernel
theorem dX9_ones_21 : decode cX9_ones 21 = .ok (.goto (-17), 3) := by decide +kernel
theorem dX9_ones_24 : decode cX9_ones 24 = .ok (.iload_n 1, 1) := by decide +kernel
theorem dX9_ones_25 : decode cX9_ones 25 = .ok (.ireturn, 1) := by decide +kernel
theorem dX9_type_0 : decode cX9_type 0 = .ok (.aload_n 0, 1) := by decide +kernel
theorem dX9_type_1 : decode cX9_type 1 = .ok (.iconst 0, 1) := by decide +kernel
theorem dX9_type_2 : decode cX9_type 2 = .ok (.putfield 56, 3) := by decide +kernel
theorem dX9_type_5 : decode cX9_type 5 = .ok (.iload_n 1, 1) := by decide +kernel
theorem dX9_type_6 : decode cX9_type 6 = .ok (.iconst 0, 1) := by decide +kernel
theorem dX9_type_7 : decode cX9_type 7 = .ok (.sipush 255, 3) := by decide +kernel
theorem dX9_type_10 : decode cX9_type 10 = .ok (.invokestatic 60, 3) := by decide +kernel
theorem dX9_type_13 : decode cX9_type 13 = .ok (.ifCond .ne 5, 3) := by decide +kernel
theorem dX9_type_16 : decode cX9_type 16 = .ok (.iconst (-1), 1) := by decide +kernel
theorem dX9_type_17 : decode cX9_type 17 = .ok (.ireturn, 1) := by decide +kernel
theorem dX9_type_18 : decode cX9_type 18 = .ok (.aload_n 0, 1) := by decide +kernel
theorem dX9_type_19 : decode cX9_type 19 = .ok (.getfield 64, 3) := by decide +kernel
theorem dX9_type_22 : decode cX9_type 22 = .ok (.bipush 120, 2) := by decide +kernel
theorem dX9_type_24 : decode cX9_type 24 = .ok (.if_icmp .ne 6, 3) := by decide +kernel
theorem dX9_type_27 : decode cX9_type 27 = .ok (.bipush (-3), 2) := by decide +kernel
theorem dX9_type_29 : decode cX9_type 29 = .ok (.ireturn, 1) := by decide +kernel
theorem dX9_type_30 : decode cX9_type 30 = .ok (.aload_n 0, 1) := by decide +kernel
theorem dX9_type_31 : decode cX9_type 31 = .ok (.getfield 7, 3) := by decide +kernel
theorem dX9_type_34 : decode cX9_type 34 = .ok (.aload_n 0, 1) := by decide +kernel
theorem dX9_type_35 : decode cX9_type 35 = .ok (.getfield 64, 3) := by decide +kernel
theorem dX9_type_38 : decode cX9_type 38 = .ok (.iload_n 1, 1) := by decide +kernel
theorem dX9_type_39 : decode cX9_type 39 = .ok (.iastore, 1) := by decide +kernel
theorem dX9_type_40 : decode cX9_type 40 = .ok (.aload_n 0, 1) := by decide +kernel
theorem dX9_type_41 : decode cX9_type 41 = .ok (.dup, 1) := by decide +kernel
theorem dX9_type_42 : decode cX9_type 42 = .ok (.getfield 64, 3) := by decide +kernel
theorem dX9_type_45 : decode cX9_type 45 = .ok (.iconst 1, 1) := by decide +kernel
theorem dX9_type_46 : decode cX9_type 46 = .ok (.iadd, 1) := by decide +kernel
theorem dX9_type_47 : decode cX9_type 47 = .ok (.putfield 64, 3) := by decide +kernel
theorem dX9_type_50 : decode cX9_type 50 = .ok (.aload_n 0, 1) := by decide +kernel
theorem dX9_type_51 : decode cX9_type 51 = .ok (.getfield 64, 3) := by decide +kernel
theorem dX9_type_54 : decode cX9_type 54 = .ok (.ireturn, 1) := by decide +kernel
theorem dX9_clear_0 : decode cX9_clear 0 = .ok (.aload_n 0, 1) := by decide +kernel
theorem dX9_clear_1 : decode cX9_clear 1 = .ok (.iconst 0, 1) := by decide +kernel
theorem dX9_clear_2 : decode cX9_clear 2 = .ok (.putfield 56, 3) := by decide +kernel
theorem dX9_clear_5 : decode cX9_clear 5 = .ok (.aload_n 0, 1) := by decide +kernel
theorem dX9_clear_6 : decode cX9_clear 6 = .ok (.getfield 64, 3) := by decide +kernel
theorem dX9_clear_9 : decode cX9_clear 9 = .ok (.istore_n 1, 1) := by decide +kernel
theorem dX9_clear_10 : decode cX9_clear 10 = .ok (.aload_n 0, 1) := by decide +kernel
theorem dX9_clear_11 : decode cX9_clear 11 = .ok (.iconst 0, 1) := by decide +kernel
theorem dX9_clear_12 : decode cX9_clear 12 = .ok (.putfield 64, 3) := by decide +kernel
theorem dX9_clear_15 : decode cX9_clear 15 = .ok (.iload_n 1, 1) := by decide +kernel
theorem dX9_clear_16 : decode cX9_clear 16 = .ok (.ireturn, 1) := by decide +kernel
theorem dX9_letterAt_0 : decode cX9_letterAt 0 = .ok (.iload_n 1, 1) := by decide +kernel
theorem dX9_letterAt_1 : decode cX9_letterAt 1 = .ok (.aload_n 0, 1) := by decide +kernel
theorem dX9_letterAt_2 : decode cX9_letterAt 2 = .ok (.getfield 64, 3) := by decide +kernel
theorem dX9_letterAt_5 : decode cX9_letterAt 5 = .ok (.if_icmp .ge 12, 3) := by decide +kernel
theorem dX9_letterAt_8 : decode cX9_letterAt 8 = .ok (.aload_n 0, 1) := by decide +kernel
theorem dX9_letterAt_9 : decode cX9_letterAt 9 = .ok (.getfield 7, 3) := by decide +kernel
theorem dX9_letterAt_12 : decode cX9_letterAt 12 = .ok (.iload_n 1, 1) := by decide +kernel
theorem dX9_letterAt_13 : decode cX9_letterAt 13 = .ok (.iaload, 1) := by decide +kernel
theorem dX9_letterAt_14 : decode cX9_letterAt 14 = .ok (.goto 4, 3) := by decide +kernel
theorem dX9_letterAt_17 : decode cX9_letterAt 17 = .ok (.iconst (-1), 1) := by decide +kernel
theorem dX9_letterAt_18 : decode cX9_letterAt 18 = .ok (.ireturn, 1) := by decide +kernel
theorem dX9_kindOf_0 : decode cX9_kindOf 0 = .ok (.iload_n 0, 1) := by decide +kernel
theorem dX9_kindOf_1 : decode cX9_kindOf 1 = .ok (.bipush 112, 2) := by decide +kernel
theorem dX9_kindOf_3 : decode cX9_kindOf 3 = .ok (.if_icmp .ne 7, 3) := by decide +kernel
theorem dX9_kindOf_6 : decode cX9_kindOf 6 = .ok (.iconst 1, 1) := by decide +kernel
theorem dX9_kindOf_7 : decode cX9_kindOf 7 = .ok (.goto 44, 3) := by decide +kernel
theorem dX9_kindOf_10 : decode cX9_kindOf 10 = .ok (.iload_n 0, 1) := by decide +kernel
theorem dX9_kindOf_11 : decode cX9_kindOf 11 = .ok (.bipush 99, 2) := by decide +kernel
theorem dX9_kindOf_13 : decode cX9_kindOf 13 = .ok (.if_icmp .ne 7, 3) := by decide +kernel
theorem dX9_kindOf_16 : decode cX9_kindOf 16 = .ok (.iconst 2, 1) := by decide +kernel
theorem dX9_kindOf_17 : decode cX9_kindOf 17 = .ok (.goto 34, 3) := by decide +kernel
theorem dX9_kindOf_20 : decode cX9_kindOf 20 = .ok (.iload_n 0, 1) := by decide +kernel
theorem dX9_kindOf_21 : decode cX9_kindOf 21 = .ok (.bipush 115, 2) := by decide +kernel
theorem dX9_kindOf_23 : decode cX9_kindOf 23 = .ok (.if_icmp .ne 7, 3) := by decide +kernel
theorem dX9_kindOf_26 : decode cX9_kindOf 26 = .ok (.iconst 3, 1) := by decide +kernel
theorem dX9_kindOf_27 : decode cX9_kindOf 27 = .ok (.goto 24, 3) := by decide +kernel
theorem dX9_kindOf_30 : decode cX9_kindOf 30 = .ok (.iload_n 0, 1) := by decide +kernel
theorem dX9_kindOf_31 : decode cX9_kindOf 31 = .ok (.bipush 109, 2) := by decide +kernel
theorem dX9_kindOf_33 : decode cX9_kindOf 33 = .ok (.if_icmp .ne 7, 3) := by decide +kernel
theorem dX9_kindOf_36 : decode cX9_kindOf 36 = .ok (.iconst 4, 1) := by decide +kernel
theorem dX9_kindOf_37 : decode cX9_kindOf 37 = .ok (.goto 14, 3) := by decide +kernel
theorem dX9_kindOf_40 : decode cX9_kindOf 40 = .ok (.iload_n 0, 1) := by decide +kernel
theorem dX9_kindOf_41 : decode cX9_kindOf 41 = .ok (.bipush 108, 2) := by decide +kernel
theorem dX9_kindOf_43 : decode cX9_kindOf 43 = .ok (.if_icmp .ne 7, 3) := by decide +kernel
theorem dX9_kindOf_46 : decode cX9_kindOf 46 = .ok (.iconst 5, 1) := by decide +kernel
theorem dX9_kindOf_47 : decode cX9_kindOf 47 = .ok (.goto 4, 3) := by decide +kernel
theorem dX9_kindOf_50 : decode cX9_kindOf 50 = .ok (.iconst 0, 1) := by decide +kernel
theorem dX9_kindOf_51 : decode cX9_kindOf 51 = .ok (.ireturn, 1) := by decide +kernel
theorem dX9_advances_0 : decode cX9_advances 0 = .ok (.aload_n 0, 1) := by decide +kernel
theorem dX9_advances_1 : decode cX9_advances 1 = .ok (.aload_n 0, 1) := by decide +kernel
theorem dX9_advances_2 : decode cX9_advances 2 = .ok (.getfield 67, 3) := by decide +kernel
theorem dX9_advances_5 : decode cX9_advances 5 = .ok (.invokevirtual 70, 3) := by decide +kernel
theorem dX9_advances_8 : decode cX9_advances 8 = .ok (.bipush 32, 2) := by decide +kernel
theorem dX9_advances_10 : decode cX9_advances 10 = .ok (.if_icmp .ne 16, 3) := by decide +kernel
theorem dX9_advances_13 : decode cX9_advances 13 = .ok (.aload_n 0, 1) := by decide +kernel
theorem dX9_advances_14 : decode cX9_advances 14 = .ok (.dup, 1) := by decide +kernel
theorem dX9_advances_15 : decode cX9_advances 15 = .ok (.getfield 67, 3) := by decide +kernel
theorem dX9_advances_18 : decode cX9_advances 18 = .ok (.iconst 1, 1) := by decide +kernel
theorem dX9_advances_19 : decode cX9_advances 19 = .ok (.iadd, 1) := by decide +kernel
theorem dX9_advances_20 : decode cX9_advances 20 = .ok (.putfield 67, 3) := by decide +kernel
theorem dX9_advances_23 : decode cX9_advances 23 = .ok (.goto (-23), 3) := by decide +kernel
theorem dX9_advances_26 : decode cX9_advances 26 = .ok (.aload_n 0, 1) := by decide +kernel
theorem dX9_advances_27 : decode cX9_advances 27 = .ok (.aload_n 0, 1) := by decide +kernel
theorem dX9_advances_28 : decode cX9_advances 28 = .ok (.getfield 67, 3) := by decide +kernel
theorem dX9_advances_31 : decode cX9_advances 31 = .ok (.putfield 74, 3) := by decide +kernel
theorem dX9_advances_34 : decode cX9_advances 34 = .ok (.aload_n 0, 1) := by decide +kernel
theorem dX9_advances_35 : decode cX9_advances 35 = .ok (.aload_n 0, 1) := by decide +kernel
theorem dX9_advances_36 : decode cX9_advances 36 = .ok (.getfield 67, 3) := by decide +kernel
theorem dX9_advances_39 : decode cX9_advances 39 = .ok (.invokevirtual 70, 3) := by decide +kernel
theorem dX9_advances_42 : decode cX9_advances 42 = .ok (.istore_n 1, 1) := by decide +kernel
theorem dX9_advances_43 : decode cX9_advances 43 = .ok (.iload_n 1, 1) := by decide +kernel
theorem dX9_advances_44 : decode cX9_advances 44 = .ok (.ifCond .ge 11, 3) := by decide +kernel
theorem dX9_advances_47 : decode cX9_advances 47 = .ok (.aload_n 0, 1) := by decide +kernel
theorem dX9_advances_48 : decode cX9_advances 48 = .ok (.iconst 0, 1) := by decide +kernel
theorem dX9_advances_49 : decode cX9_advances 49 = .ok (.putfield 77, 3) := by decide +kernel
theorem dX9_advances_52 : decode cX9_advances 52 = .ok (.goto 194, 3) := by decide +kernel
theorem dX9_advances_55 : decode cX9_advances 55 = .ok (.iload_n 1, 1) := by decide +kernel
theorem dX9_advances_56 : decode cX9_advances 56 = .ok (.bipush 48, 2) := by decide +kernel
theorem dX9_advances_58 : decode cX9_advances 58 = .ok (.bipush 57, 2) := by decide +kernel
theorem dX9_advances_60 : decode cX9_advances 60 = .ok (.invokestatic 60, 3) := by decide +kernel
theorem dX9_advances_63 : decode cX9_advances 63 = .ok (.ifCond .eq 118, 3) := by decide +kernel
theorem dX9_advances_66 : decode cX9_advances 66 = .ok (.aload_n 0, 1) := by decide +kernel
theorem dX9_advances_67 : decode cX9_advances 67 = .ok (.iconst 0, 1) := by decide +kernel
theorem dX9_advances_68 : decode cX9_advances 68 = .ok (.putfield 80, 3) := by decide +kernel
theorem dX9_advances_71 : decode cX9_advances 71 = .ok (.aload_n 0, 1) := by decide +kernel
theorem dX9_advances_72 : decode cX9_advances 72 = .ok (.aload_n 0, 1) := by decide +kernel
theorem dX9_advances_73 : decode cX9_advances 73 = .ok (.getfield 67, 3) := by decide +kernel
theorem dX9_advances_76 : decode cX9_advances 76 = .ok (.invokevirtual 70, 3) := by decide +kernel
theorem dX9_advances_79 : decode cX9_advances 79 = .ok (.bipush 48, 2) := by decide +kernel
theorem dX9_advances_81 : decode cX9_advances 81 = .ok (.bipush 57, 2) := by decide +kernel
theorem dX9_advances_83 : decode cX9_advances 83 = .ok (.invokestatic 60, 3) := by decide +kernel
theorem dX9_advances_86 : decode cX9_advances 86 = .ok (.ifCond .eq 55, 3) := by decide +kernel
theorem dX9_advances_89 : decode cX9_advances 89 = .ok (.aload_n 0, 1) := by decide +kernel
theorem dX9_advances_90 : decode cX9_advances 90 = .ok (.aload_n 0, 1) := by decide +kernel
theorem dX9_advances_91 : decode cX9_advances 91 = .ok (.getfield 80, 3) := by decide +kernel
theorem dX9_advances_94 : decode cX9_advances 94 = .ok (.bipush 99, 2) := by decide +kernel
theorem dX9_advances_96 : decode cX9_advances 96 = .ok (.if_icmp .le 10, 3) := by decide +kernel
theorem dX9_advances_99 : decode cX9_advances 99 = .ok (.aload_n 0, 1) := by decide +kernel
theorem dX9_advances_100 : decode cX9_advances 100 = .ok (.getfield 80, 3) := by decide +kernel
theorem dX9_advances_103 : decode cX9_advances 103 = .ok (.goto 22, 3) := by decide +kernel
theorem dX9_advances_106 : decode cX9_advances 106 = .ok (.bipush 10, 2) := by decide +kernel
theorem dX9_advances_108 : decode cX9_advances 108 = .ok (.aload_n 0, 1) := by decide +kernel
theorem dX9_advances_109 : decode cX9_advances 109 = .ok (.getfield 80, 3) := by decide +kernel
theorem dX9_advances_112 : decode cX9_advances 112 = .ok (.imul, 1) := by decide +kernel
theorem dX9_advances_113 : decode cX9_advances 113 = .ok (.aload_n 0, 1) := by decide +kernel
theorem dX9_advances_114 : decode cX9_advances 114 = .ok (.aload_n 0, 1) := by decide +kernel
theorem dX9_advances_115 : decode cX9_advances 115 = .ok (.getfield 67, 3) := by decide +kernel
theorem dX9_advances_118 : decode cX9_advances 118 = .ok (.invokevirtual 70, 3) := by decide +kernel
theorem dX9_advances_121 : decode cX9_advances 121 = .ok (.iadd, 1) := by decide +kernel
theorem dX9_advances_122 : decode cX9_advances 122 = .ok (.bipush 48, 2) := by decide +kernel
theorem dX9_advances_124 : decode cX9_advances 124 = .ok (.isub, 1) := by decide +kernel
theorem dX9_advances_125 : decode cX9_advances 125 = .ok (.putfield 80, 3) := by decide +kernel
theorem dX9_advances_128 : decode cX9_advances 128 = .ok (.aload_n 0, 1) := by decide +kernel
theorem dX9_advances_129 : decode cX9_advances 129 = .ok (.dup, 1) := by decide +kernel
theorem dX9_advances_130 : decode cX9_advances 130 = .ok (.getfield 67, 3) := by decide +kernel
theorem dX9_advances_133 : decode cX9_advances 133 = .ok (.iconst 1, 1) := by decide +kernel
theorem dX9_advances_134 : decode cX9_advances 134 = .ok (.iadd, 1) := by decide +kernel
theorem dX9_advances_135 : decode cX9_advances 135 = .ok (.putfield 67, 3) := by decide +kernel
theorem dX9_advances_138 : decode cX9_advances 138 = .ok (.goto (-67), 3) := by decide +kernel
theorem dX9_advances_141 : decode cX9_advances 141 = .ok (.aload_n 0, 1) := by decide +kernel
theorem dX9_advances_142 : decode cX9_advances 142 = .ok (.aload_n 0, 1) := by decide +kernel
theorem dX9_advances_143 : decode cX9_advances 143 = .ok (.getfield 80, 3) := by decide +kernel
theorem dX9_advances_146 : decode cX9_advances 146 = .ok (.bipush 99, 2) := by decide +kernel
theorem dX9_advances_148 : decode cX9_advances 148 = .ok (.if_icmp .gt 22, 3) := by decide +kernel
theorem dX9_advances_151 : decode cX9_advances 151 = .ok (.iload_n 1, 1) := by decide +kernel
theorem dX9_advances_152 : decode cX9_advances 152 = .ok (.bipush 48, 2) := by decide +kernel
theorem dX9_advances_154 : decode cX9_advances 154 = .ok (.if_icmp .ne 20, 3) := by decide +kernel
theorem dX9_advances_157 : decode cX9_advances 157 = .ok (.aload_n 0, 1) := by decide +kernel
theorem dX9_advances_158 : decode cX9_advances 158 = .ok (.getfield 67, 3) := by decide +kernel
theorem dX9_advances_161 : decode cX9_advances 161 = .ok (.aload_n 0, 1) := by decide +kernel
theorem dX9_advances_162 : decode cX9_advances 162 = .ok (.getfield 74, 3) := by decide +kernel
theorem dX9_advances_165 : decode cX9_advances 165 = .ok (.isub, 1) := by decide +kernel
theorem dX9_advances_166 : decode cX9_advances 166 = .ok (.iconst 1, 1) := by decide +kernel
theorem dX9_advances_167 : decode cX9_advances 167 = .ok (.if_icmp .le 7, 3) := by decide +kernel
theorem dX9_advances_170 : decode cX9_advances 170 = .ok (.iconst 4, 1) := by decide +kernel
theorem dX9_advances_171 : decode cX9_advances 171 = .ok (.goto 4, 3) := by decide +kernel
theorem dX9_advances_174 : decode cX9_advances 174 = .ok (.iconst 2, 1) := by decide +kernel
theorem dX9_advances_175 : decode cX9_advances 175 = .ok (.putfield 77, 3) := by decide +kernel
theorem dX9_advances_178 : decode cX9_advances 178 = .ok (.goto 68, 3) := by decide +kernel
theorem dX9_advances_181 : decode cX9_advances 181 = .ok (.aload_n 0, 1) := by decide +kernel
theorem dX9_advances_182 : decode cX9_advances 182 = .ok (.dup, 1) := by decide +kernel
theorem dX9_advances_183 : decode cX9_advances 183 = .ok (.getfield 67, 3) := by decide +kernel
theorem dX9_advances_186 : decode cX9_advances 186 = .ok (.iconst 1, 1) := by decide +kernel
theorem dX9_advances_187 : decode cX9_advances 187 = .ok (.iadd, 1) := by decide +kernel
theorem dX9_advances_188 : decode cX9_advances 188 = .ok (.putfield 67, 3) := by decide +kernel
theorem dX9_advances_191 : decode cX9_advances 191 = .ok (.aload_n 0, 1) := by decide +kernel
theorem dX9_advances_192 : decode cX9_advances 192 = .ok (.iload_n 1, 1) := by decide +kernel
theorem dX9_advances_193 : decode cX9_advances 193 = .ok (.putfield 80, 3) := by decide +kernel
theorem dX9_advances_196 : decode cX9_advances 196 = .ok (.aload_n 0, 1) := by decide +kernel
theorem dX9_advances_197 : decode cX9_advances 197 = .ok (.iload_n 1, 1) := by decide +kernel
theorem dX9_advances_198 : decode cX9_advances 198 = .ok (.bipush 59, 2) := by decide +kernel
theorem dX9_advances_200 : decode cX9_advances 200 = .ok (.if_icmp .ne 7, 3) := by decide +kernel
theorem dX9_advances_203 : decode cX9_advances 203 = .ok (.iconst 3, 1) := by decide +kernel
theorem dX9_advances_204 : decode cX9_advances 204 = .ok (.goto 39, 3) := by decide +kernel
theorem dX9_advances_207 : decode cX9_advances 207 = .ok (.iload_n 1, 1) := by decide +kernel
theorem dX9_advances_208 : decode cX9_advances 208 = .ok (.bipush 110, 2) := by decide +kernel
theorem dX9_advances_210 : decode cX9_advances 210 = .ok (.if_icmp .eq 28, 3) := by decide +kernel
theorem dX9_advances_213 : decode cX9_advances 213 = .ok (.iload_n 1, 1) := by decide +kernel
theorem dX9_advances_214 : decode cX9_advances 214 = .ok (.bipush 117, 2) := by decide +kernel
theorem dX9_advances_216 : decode cX9_advances 216 = .ok (.if_icmp .eq 22, 3) := by decide +kernel
theorem dX9_advances_219 : decode cX9_advances 219 = .ok (.iload_n 1, 1) := by decide +kernel
theorem dX9_advances_220 : decode cX9_advances 220 = .ok (.bipush 118, 2) := by decide +kernel
theorem dX9_advances_222 : decode cX9_advances 222 = .ok (.if_icmp .eq 16, 3) := by decide +kernel
theorem dX9_advances_225 : decode cX9_advances 225 = .ok (.iload_n 1, 1) := by decide +kernel
theorem dX9_advances_226 : decode cX9_advances 226 = .ok (.bipush 120, 2) := by decide +kernel
theorem dX9_advances_228 : decode cX9_advances 228 = .ok (.if_icmp .eq 10, 3) := by decide +kernel
theorem dX9_advances_231 : decode cX9_advances 231 = .ok (.iload_n 1, 1) := by decide +kernel
theorem dX9_advances_232 : decode cX9_advances 232 = .ok (.invokestatic 83, 3) := by decide +kernel
theorem dX9_advances_235 : decode cX9_advances 235 = .ok (.ifCond .le 7, 3) := by decide +kernel
theorem dX9_advances_238 : decode cX9_advances 238 = .ok (.iconst 1, 1) := by decide +kernel
theorem dX9_advances_239 : decode cX9_advances 239 = .ok (.goto 4, 3) := by decide +kernel
theorem dX9_advances_242 : decode cX9_advances 242 = .ok (.iconst 4, 1) := by decide +kernel
theorem dX9_advances_243 : decode cX9_advances 243 = .ok (.putfield 77, 3) := by decide +kernel
theorem dX9_advances_246 : decode cX9_advances 246 = .ok (.return_, 1) := by decide +kernel
theorem dX9_isWell_0 : decode cX9_isWell 0 = .ok (.aload_n 0, 1) := by decide +kernel
theorem dX9_isWell_1 : decode cX9_isWell 1 = .ok (.getfield 86, 3) := by decide +kernel
theorem dX9_isWell_4 : decode cX9_isWell 4 = .ok (.ifCond .ge 7, 3) := by decide +kernel
theorem dX9_isWell_7 : decode cX9_isWell 7 = .ok (.iconst 1, 1) := by decide +kernel
theorem dX9_isWell_8 : decode cX9_isWell 8 = .ok (.goto 4, 3) := by decide +kernel
theorem dX9_isWell_11 : decode cX9_isWell 11 = .ok (.iconst 0, 1) := by decide +kernel
theorem dX9_isWell_12 : decode cX9_isWell 12 = .ok (.ireturn, 1) := by decide +kernel
theorem dX9_takes_0 : decode cX9_takes 0 = .ok (.aload_n 0, 1) := by decide +kernel
theorem dX9_takes_1 : decode cX9_takes 1 = .ok (.invokevirtual 89, 3) := by decide +kernel
theorem dX9_takes_4 : decode cX9_takes 4 = .ok (.ifCond .ne 5, 3) := by decide +kernel
theorem dX9_takes_7 : decode cX9_takes 7 = .ok (.iconst 0, 1) := by decide +kernel
theorem dX9_takes_8 : decode cX9_takes 8 = .ok (.ireturn, 1) := by decide +kernel
theorem dX9_takes_9 : decode cX9_takes 9 = .ok (.iload_n 1, 1) := by decide +kernel
theorem dX9_takes_10 : decode cX9_takes 10 = .ok (.ifCond .ne 13, 3) := by decide +kernel
theorem dX9_takes_13 : decode cX9_takes 13 = .ok (.aload_n 0, 1) := by decide +kernel
theorem dX9_takes_14 : decode cX9_takes 14 = .ok (.aload_n 0, 1) := by decide +kernel
theorem dX9_takes_15 : decode cX9_takes 15 = .ok (.getfield 74, 3) := by decide +kernel
theorem dX9_takes_18 : decode cX9_takes 18 = .ok (.putfield 86, 3) := by decide +kernel
theorem dX9_takes_21 : decode cX9_takes 21 = .ok (.iconst 0, 1) := by decide +kernel
theorem dX9_takes_22 : decode cX9_takes 22 = .ok (.ireturn, 1) := by decide +kernel
theorem dX9_takes_23 : decode cX9_takes 23 = .ok (.aload_n 0, 1) := by decide +kernel
theorem dX9_takes_24 : decode cX9_takes 24 = .ok (.getfield 80, 3) := by decide +kernel
theorem dX9_takes_27 : decode cX9_takes 27 = .ok (.istore_n 2, 1) := by decide +kernel
theorem dX9_takes_28 : decode cX9_takes 28 = .ok (.aload_n 0, 1) := by decide +kernel
theorem dX9_takes_29 : decode cX9_takes 29 = .ok (.invokevirtual 93, 3) := by decide +kernel
theorem dX9_takes_32 : decode cX9_takes 32 = .ok (.iload_n 2, 1) := by decide +kernel
theorem dX9_takes_33 : decode cX9_takes 33 = .ok (.ireturn, 1) := by decide +kernel
theorem dX9_number_0 : decode cX9_number 0 = .ok (.aload_n 0, 1) := by decide +kernel
theorem dX9_number_1 : decode cX9_number 1 = .ok (.aload_n 0, 1) := by decide +kernel
theorem dX9_number_2 : decode cX9_number 2 = .ok (.getfield 77, 3) := by decide +kernel
theorem dX9_number_5 : decode cX9_number 5 = .ok (.iconst 2, 1) := by decide +kernel
theorem dX9_number_6 : decode cX9_number 6 = .ok (.if_icmp .ne 19, 3) := by decide +kernel
theorem dX9_number_9 : decode cX9_number 9 = .ok (.aload_n 0, 1) := by decide +kernel
theorem dX9_number_10 : decode cX9_number 10 = .ok (.getfield 80, 3) := by decide +kernel
theorem dX9_number_13 : decode cX9_number 13 = .ok (.iload_n 1, 1) := by decide +kernel
theorem dX9_number_14 : decode cX9_number 14 = .ok (.iload_n 2, 1) := by decide +kernel
theorem dX9_number_15 : decode cX9_number 15 = .ok (.invokestatic 60, 3) := by decide +kernel
theorem dX9_number_18 : decode cX9_number 18 = .ok (.ifCond .eq 7, 3) := by decide +kernel
theorem dX9_number_21 : decode cX9_number 21 = .ok (.iconst 1, 1) := by decide +kernel
theorem dX9_number_22 : decode cX9_number 22 = .ok (.goto 4, 3) := by decide +kernel
theorem dX9_number_25 : decode cX9_number 25 = .ok (.iconst 0, 1) := by decide +kernel
theorem dX9_number_26 : decode cX9_number 26 = .ok (.invokevirtual 96, 3) := by decide +kernel
theorem dX9_number_29 : decode cX9_number 29 = .ok (.ireturn, 1) := by decide +kernel
theorem dX9_begins_0 : decode cX9_begins 0 = .ok (.iconst 0, 1) := by decide +kernel
theorem dX9_begins_1 : decode cX9_begins 1 = .ok (.istore_n 1, 1) := by decide +kernel
theorem dX9_begins_2 : decode cX9_begins 2 = .ok (.iload_n 1, 1) := by decide +kernel
theorem dX9_begins_3 : decode cX9_begins 3 = .ok (.bipush 34, 2) := by decide +kernel
theorem dX9_begins_5 : decode cX9_begins 5 = .ok (.if_icmp .ge 16, 3) := by decide +kernel
theorem dX9_begins_8 : decode cX9_begins 8 = .ok (.aload_n 0, 1) := by decide +kernel
theorem dX9_begins_9 : decode cX9_begins 9 = .ok (.getfield 16, 3) := by decide +kernel
theorem dX9_begins_12 : decode cX9_begins 12 = .ok (.iload_n 1, 1) := by decide +kernel
theorem dX9_begins_13 : decode cX9_begins 13 = .ok (.iconst 0, 1) := by decide +kernel
theorem dX9_begins_14 : decode cX9_begins 14 = .ok (.iastore, 1) := by decide +kernel
theorem dX9_begins_15 : decode cX9_begins 15 = .ok (.iinc 1 1, 3) := by decide +kernel
theorem dX9_begins_18 : decode cX9_begins 18 = .ok (.goto (-16), 3) := by decide +kernel
theorem dX9_begins_21 : decode cX9_begins 21 = .ok (.iconst 0, 1) := by decide +kernel
theorem dX9_begins_22 : decode cX9_begins 22 = .ok (.istore_n 1, 1) := by decide +kernel
theorem dX9_begins_23 : decode cX9_begins 23 = .ok (.iload_n 1, 1) := by decide +kernel
theorem dX9_begins_24 : decode cX9_begins 24 = .ok (.bipush 66, 2) := by decide +kernel
theorem dX9_begins_26 : decode cX9_begins 26 = .ok (.if_icmp .ge 16, 3) := by decide +kernel
theorem dX9_begins_29 : decode cX9_begins 29 = .ok (.aload_n 0, 1) := by decide +kernel
theorem dX9_begins_30 : decode cX9_begins 30 = .ok (.getfield 19, 3) := by decide +kernel
theorem dX9_begins_33 : decode cX9_begins 33 = .ok (.iload_n 1, 1) := by decide +kernel
theorem dX9_begins_34 : decode cX9_begins 34 = .ok (.iconst 0, 1) := by decide +kernel
theorem dX9_begins_35 : decode cX9_begins 35 = .ok (.iastore, 1) := by decide +kernel
theorem dX9_begins_36 : decode cX9_begins 36 = .ok (.iinc 1 1, 3) := by decide +kernel
theorem dX9_begins_39 : decode cX9_begins 39 = .ok (.goto (-16), 3) := by decide +kernel
theorem dX9_begins_42 : decode cX9_begins 42 = .ok (.aload_n 0, 1) := by decide +kernel
theorem dX9_begins_43 : decode cX9_begins 43 = .ok (.getfield 16, 3) := by decide +kernel
theorem dX9_begins_46 : decode cX9_begins 46 = .ok (.iconst 0, 1) := by decide +kernel
theorem dX9_begins_47 : decode cX9_begins 47 = .ok (.iconst 3, 1) := by decide +kernel
theorem dX9_begins_48 : decode cX9_begins 48 = .ok (.iastore, 1) := by decide +kernel
theorem dX9_begins_49 : decode cX9_begins 49 = .ok (.return_, 1) := by decide +kernel
theorem dX9_mayBegin_0 : decode cX9_mayBegin 0 = .ok (.aload_n 0, 1) := by decide +kernel
theorem dX9_mayBegin_1 : decode cX9_mayBegin 1 = .ok (.getfield 80, 3) := by decide +kernel
theorem dX9_mayBegin_4 : decode cX9_mayBegin 4 = .ok (.bipush 110, 2) := by decide +kernel
theorem dX9_mayBegin_6 : decode cX9_mayBegin 6 = .ok (.if_icmp .ne 15, 3) := by decide +kernel
theorem dX9_mayBegin_9 : decode cX9_mayBegin 9 = .ok (.iload_n 1, 1) := by decide +kernel
theorem dX9_mayBegin_10 : decode cX9_mayBegin 10 = .ok (.ifCond .ne 7, 3) := by decide +kernel
theorem dX9_mayBegin_13 : decode cX9_mayBegin 13 = .ok (.iconst 1, 1) := by decide +kernel
theorem dX9_mayBegin_14 : decode cX9_mayBegin 14 = .ok (.goto 58, 3) := by decide +kernel
theorem dX9_mayBegin_17 : decode cX9_mayBegin 17 = .ok (.iconst 0, 1) := by decide +kernel
theorem dX9_mayBegin_18 : decode cX9_mayBegin 18 = .ok (.goto 54, 3) := by decide +kernel
theorem dX9_mayBegin_21 : decode cX9_mayBegin 21 = .ok (.aload_n 0, 1) := by decide +kernel
theorem dX9_mayBegin_22 : decode cX9_mayBegin 22 = .ok (.getfield 80, 3) := by decide +kernel
theorem dX9_mayBegin_25 : decode cX9_mayBegin 25 = .ok (.bipush 117, 2) := by decide +kernel
theorem dX9_mayBegin_27 : decode cX9_mayBegin 27 = .ok (.if_icmp .eq 12, 3) := by decide +kernel
theorem dX9_mayBegin_30 : decode cX9_mayBegin 30 = .ok (.aload_n 0, 1) := by decide +kernel
theorem dX9_mayBegin_31 : decode cX9_mayBegin 31 = .ok (.getfield 80, 3) := by decide +kernel
theorem dX9_mayBegin_34 : decode cX9_mayBegin 34 = .ok (.bipush 118, 2) := by decide +kernel
theorem dX9_mayBegin_36 : decode cX9_mayBegin 36 = .ok (.if_icmp .ne 22, 3) := by decide +kernel
theorem dX9_mayBegin_39 : decode cX9_mayBegin 39 = .ok (.aload_n 0, 1) := by decide +kernel
theorem dX9_mayBegin_40 : decode cX9_mayBegin 40 = .ok (.getfield 16, 3) := by decide +kernel
theorem dX9_mayBegin_43 : decode cX9_mayBegin 43 = .ok (.iconst 1, 1) := by decide +kernel
theorem dX9_mayBegin_44 : decode cX9_mayBegin 44 = .ok (.iaload, 1) := by decide +kernel
theorem dX9_mayBegin_45 : decode cX9_mayBegin 45 = .ok (.bipush 8, 2) := by decide +kernel
theorem dX9_mayBegin_47 : decode cX9_mayBegin 47 = .ok (.if_icmp .ge 7, 3) := by decide +kernel
theorem dX9_mayBegin_50 : decode cX9_mayBegin 50 = .ok (.iconst 1, 1) := by decide +kernel
theorem dX9_mayBegin_51 : decode cX9_mayBegin 51 = .ok (.goto 21, 3) := by decide +kernel
theorem dX9_mayBegin_54 : decode cX9_mayBegin 54 = .ok (.iconst 0, 1) := by decide +kernel
theorem dX9_mayBegin_55 : decode cX9_mayBegin 55 = .ok (.goto 17, 3) := by decide +kernel
theorem dX9_mayBegin_58 : decode cX9_mayBegin 58 = .ok (.aload_n 0, 1) := by decide +kernel
theorem dX9_mayBegin_59 : decode cX9_mayBegin 59 = .ok (.getfield 80, 3) := by decide +kernel
theorem dX9_mayBegin_62 : decode cX9_mayBegin 62 = .ok (.bipush 120, 2) := by decide +kernel
theorem dX9_mayBegin_64 : decode cX9_mayBegin 64 = .ok (.if_icmp .ne 7, 3) := by decide +kernel
theorem dX9_mayBegin_67 : decode cX9_mayBegin 67 = .ok (.iconst 1, 1) := by decide +kernel
theorem dX9_mayBegin_68 : decode cX9_mayBegin 68 = .ok (.goto 4, 3) := by decide +kernel
theorem dX9_mayBegin_71 : decode cX9_mayBegin 71 = .ok (.iconst 0, 1) := by decide +kernel
theorem dX9_mayBegin_72 : decode cX9_mayBegin 72 = .ok (.ireturn, 1) := by decide +kernel
theorem dX9_readsItem_0 : decode cX9_readsItem 0 = .ok (.iload_n 1, 1) := by decide +kernel
theorem dX9_readsItem_1 : decode cX9_readsItem 1 = .ok (.bipush 110, 2) := by decide +kernel
theorem dX9_readsItem_3 : decode cX9_readsItem 3 = .ok (.if_icmp .ne 19, 3) := by decide +kernel
theorem dX9_readsItem_6 : decode cX9_readsItem 6 = .ok (.aload_n 0, 1) := by decide +kernel
theorem dX9_readsItem_7 : decode cX9_readsItem 7 = .ok (.getfield 16, 3) := by decide +kernel
theorem dX9_readsItem_10 : decode cX9_readsItem 10 = .ok (.iconst 0, 1) := by decide +kernel
theorem dX9_readsItem_11 : decode cX9_readsItem 11 = .ok (.aload_n 0, 1) := by decide +kernel
theorem dX9_readsItem_12 : decode cX9_readsItem 12 = .ok (.iconst 1, 1) := by decide +kernel
theorem dX9_readsItem_13 : decode cX9_readsItem 13 = .ok (.bipush 8, 2) := by decide +kernel
theorem dX9_readsItem_15 : decode cX9_readsItem 15 = .ok (.invokevirtual 100, 3) := by decide +kernel
theorem dX9_readsItem_18 : decode cX9_readsItem 18 = .ok (.iastore, 1) := by decide +kernel
theorem dX9_readsItem_19 : decode cX9_readsItem 19 = .ok (.goto 217, 3) := by decide +kernel
theorem dX9_readsItem_22 : decode cX9_readsItem 22 = .ok (.iload_n 1, 1) := by decide +kernel
theorem dX9_readsItem_23 : decode cX9_readsItem 23 = .ok (.bipush 120, 2) := by decide +kernel
theorem dX9_readsItem_25 : decode cX9_readsItem 25 = .ok (.if_icmp .ne 105, 3) := by decide +kernel
theorem dX9_readsItem_28 : decode cX9_readsItem 28 = .ok (.aload_n 0, 1) := by decide +kernel
theorem dX9_readsItem_29 : decode cX9_readsItem 29 = .ok (.iconst 0, 1) := by decide +kernel
theorem dX9_readsItem_30 : decode cX9_readsItem 30 = .ok (.aload_n 0, 1) := by decide +kernel
theorem dX9_readsItem_31 : decode cX9_readsItem 31 = .ok (.getfield 16, 3) := by decide +kernel
theorem dX9_readsItem_34 : decode cX9_readsItem 34 = .ok (.iconst 1, 1) := by decide +kernel
theorem dX9_readsItem_35 : decode cX9_readsItem 35 = .ok (.iaload, 1) := by decide +kernel
theorem dX9_readsItem_36 : decode cX9_readsItem 36 = .ok (.iconst 1, 1) := by decide +kernel
theorem dX9_readsItem_37 : decode cX9_readsItem 37 = .ok (.isub, 1) := by decide +kernel
theorem dX9_readsItem_38 : decode cX9_readsItem 38 = .ok (.invokevirtual 100, 3) := by decide +kernel
theorem dX9_readsItem_41 : decode cX9_readsItem 41 = .ok (.istore_n 2, 1) := by decide +kernel
theorem dX9_readsItem_42 : decode cX9_readsItem 42 = .ok (.aload_n 0, 1) := by decide +kernel
theorem dX9_readsItem_43 : decode cX9_readsItem 43 = .ok (.invokevirtual 89, 3) := by decide +kernel
theorem dX9_readsItem_46 : decode cX9_readsItem 46 = .ok (.ifCond .eq 53, 3) := by decide +kernel
theorem dX9_readsItem_49 : decode cX9_readsItem 49 = .ok (.aload_n 0, 1) := by decide +kernel
theorem dX9_readsItem_50 : decode cX9_readsItem 50 = .ok (.getfield 77, 3) := by decide +kernel
theorem dX9_readsItem_53 : decode cX9_readsItem 53 = .ok (.iconst 2, 1) := by decide +kernel
theorem dX9_readsItem_54 : decode cX9_readsItem 54 = .ok (.if_icmp .ne 45, 3) := by decide +kernel
theorem dX9_readsItem_57 : decode cX9_readsItem 57 = .ok (.aload_n 0, 1) := by decide +kernel
theorem dX9_readsItem_58 : decode cX9_readsItem 58 = .ok (.getfield 80, 3) := by decide +kernel
theorem dX9_readsItem_61 : decode cX9_readsItem 61 = .ok (.iconst 0, 1) := by decide +kernel
theorem dX9_readsItem_62 : decode cX9_readsItem 62 = .ok (.aload_n 0, 1) := by decide +kernel
theorem dX9_readsItem_63 : decode cX9_readsItem 63 = .ok (.getfield 16, 3) := by decide +kernel
theorem dX9_readsItem_66 : decode cX9_readsItem 66 = .ok (.iconst 0, 1) := by decide +kernel
theorem dX9_readsItem_67 : decode cX9_readsItem 67 = .ok (.iaload, 1) := by decide +kernel
theorem dX9_readsItem_68 : decode cX9_readsItem 68 = .ok (.iconst 1, 1) := by decide +kernel
theorem dX9_readsItem_69 : decode cX9_readsItem 69 = .ok (.isub, 1) := by decide +kernel
theorem dX9_readsItem_70 : decode cX9_readsItem 70 = .ok (.invokestatic 60, 3) := by decide +kernel
theorem dX9_readsItem_73 : decode cX9_readsItem 73 = .ok (.ifCond .eq 26, 3) := by decide +kernel
theorem dX9_readsItem_76 : decode cX9_readsItem 76 = .ok (.aload_n 0, 1) := by decide +kernel
theorem dX9_readsItem_77 : decode cX9_readsItem 77 = .ok (.getfield 19, 3) := by decide +kernel
theorem dX9_readsItem_80 : decode cX9_readsItem 80 = .ok (.iconst 2, 1) := by decide +kernel
theorem dX9_readsItem_81 : decode cX9_readsItem 81 = .ok (.bipush 8, 2) := by decide +kernel
theorem dX9_readsItem_83 : decode cX9_readsItem 83 = .ok (.iload_n 2, 1) := by decide +kernel
theorem dX9_readsItem_84 : decode cX9_readsItem 84 = .ok (.imul, 1) := by decide +kernel
theorem dX9_readsItem_85 : decode cX9_readsItem 85 = .ok (.iadd, 1) := by decide +kernel
theorem dX9_readsItem_86 : decode cX9_readsItem 86 = .ok (.aload_n 0, 1) := by decide +kernel
theorem dX9_readsItem_87 : decode cX9_readsItem 87 = .ok (.getfield 80, 3) := by decide +kernel
theorem dX9_readsItem_90 : decode cX9_readsItem 90 = .ok (.iadd, 1) := by decide +kernel
theorem dX9_readsItem_91 : decode cX9_readsItem 91 = .ok (.iaload, 1) := by decide +kernel
theorem dX9_readsItem_92 : decode cX9_readsItem 92 = .ok (.ifCond .ne 7, 3) := by decide +kernel
theorem dX9_readsItem_95 : decode cX9_readsItem 95 = .ok (.iconst 1, 1) := by decide +kernel
theorem dX9_readsItem_96 : decode cX9_readsItem 96 = .ok (.goto 4, 3) := by decide +kernel
theorem dX9_readsItem_99 : decode cX9_readsItem 99 = .ok (.iconst 0, 1) := by decide +kernel
theorem dX9_readsItem_100 : decode cX9_readsItem 100 = .ok (.istore_n 3, 1) := by decide +kernel
theorem dX9_readsItem_101 : decode cX9_readsItem 101 = .ok (.aload_n 0, 1) := by decide +kernel
theorem dX9_readsItem_102 : decode cX9_readsItem 102 = .ok (.iload_n 3, 1) := by decide +kernel
theorem dX9_readsItem_103 : decode cX9_readsItem 103 = .ok (.invokevirtual 96, 3) := by decide +kernel
theorem dX9_readsItem_106 : decode cX9_readsItem 106 = .ok (.istore 4, 2) := by decide +kernel
theorem dX9_readsItem_108 : decode cX9_readsItem 108 = .ok (.iload_n 3, 1) := by decide +kernel
theorem dX9_readsItem_109 : decode cX9_readsItem 109 = .ok (.ifCond .eq 18, 3) := by decide +kernel
theorem dX9_readsItem_112 : decode cX9_readsItem 112 = .ok (.aload_n 0, 1) := by decide +kernel
theorem dX9_readsItem_113 : decode cX9_readsItem 113 = .ok (.getfield 19, 3) := by decide +kernel
theorem dX9_readsItem_116 : decode cX9_readsItem 116 = .ok (.iconst 2, 1) := by decide +kernel
theorem dX9_readsItem_117 : decode cX9_readsItem 117 = .ok (.bipush 8, 2) := by decide +kernel
theorem dX9_readsItem_119 : decode cX9_readsItem 119 = .ok (.iload_n 2, 1) := by decide +kernel
theorem dX9_readsItem_120 : decode cX9_readsItem 120 = .ok (.imul, 1) := by decide +kernel
theorem dX9_readsItem_121 : decode cX9_readsItem 121 = .ok (.iadd, 1) := by decide +kernel
theorem dX9_readsItem_122 : decode cX9_readsItem 122 = .ok (.iload 4, 2) := by decide +kernel
theorem dX9_readsItem_124 : decode cX9_readsItem 124 = .ok (.iadd, 1) := by decide +kernel
theorem dX9_readsItem_125 : decode cX9_readsItem 125 = .ok (.iconst (-1), 1) := by decide +kernel
theorem dX9_readsItem_126 : decode cX9_readsItem 126 = .ok (.iastore, 1) := by decide +kernel
theorem dX9_readsItem_127 : decode cX9_readsItem 127 = .ok (.goto 109, 3) := by decide +kernel
theorem dX9_readsItem_130 : decode cX9_readsItem 130 = .ok (.aload_n 0, 1) := by decide +kernel
theorem dX9_readsItem_131 : decode cX9_readsItem 131 = .ok (.getfield 16, 3) := by decide +kernel
theorem dX9_readsItem_134 : decode cX9_readsItem 134 = .ok (.iconst 1, 1) := by decide +kernel
theorem dX9_readsItem_135 : decode cX9_readsItem 135 = .ok (.iaload, 1) := by decide +kernel
theorem dX9_readsItem_136 : decode cX9_readsItem 136 = .ok (.istore_n 2, 1) := by decide +kernel
theorem dX9_readsItem_137 : decode cX9_readsItem 137 = .ok (.aload_n 0, 1) := by decide +kernel
theorem dX9_readsItem_138 : decode cX9_readsItem 138 = .ok (.getfield 16, 3) := by decide +kernel
theorem dX9_readsItem_141 : decode cX9_readsItem 141 = .ok (.iconst 2, 1) := by decide +kernel
theorem dX9_readsItem_142 : decode cX9_readsItem 142 = .ok (.iload_n 2, 1) := by decide +kernel
theorem dX9_readsItem_143 : decode cX9_readsItem 143 = .ok (.iadd, 1) := by decide +kernel
theorem dX9_readsItem_144 : decode cX9_readsItem 144 = .ok (.iload_n 1, 1) := by decide +kernel
theorem dX9_readsItem_145 : decode cX9_readsItem 145 = .ok (.bipush 117, 2) := by decide +kernel
theorem dX9_readsItem_147 : decode cX9_readsItem 147 = .ok (.if_icmp .ne 7, 3) := by decide +kernel
theorem dX9_readsItem_150 : decode cX9_readsItem 150 = .ok (.iconst 0, 1) := by decide +kernel
theorem dX9_readsItem_151 : decode cX9_readsItem 151 = .ok (.goto 4, 3) := by decide +kernel
theorem dX9_readsItem_154 : decode cX9_readsItem 154 = .ok (.iconst 1, 1) := by decide +kernel
theorem dX9_readsItem_155 : decode cX9_readsItem 155 = .ok (.iastore, 1) := by decide +kernel
theorem dX9_readsItem_156 : decode cX9_readsItem 156 = .ok (.aload_n 0, 1) := by decide +kernel
theorem dX9_readsItem_157 : decode cX9_readsItem 157 = .ok (.getfield 16, 3) := by decide +kernel
theorem dX9_readsItem_160 : decode cX9_readsItem 160 = .ok (.bipush 10, 2) := by decide +kernel
theorem dX9_readsItem_162 : decode cX9_readsItem 162 = .ok (.iload_n 2, 1) := by decide +kernel
theorem dX9_readsItem_163 : decode cX9_readsItem 163 = .ok (.iadd, 1) := by decide +kernel
theorem dX9_readsItem_164 : decode cX9_readsItem 164 = .ok (.aload_n 0, 1) := by decide +kernel
theorem dX9_readsItem_165 : decode cX9_readsItem 165 = .ok (.aload_n 0, 1) := by decide +kernel
theorem dX9_readsItem_166 : decode cX9_readsItem 166 = .ok (.getfield 77, 3) := by decide +kernel
theorem dX9_readsItem_169 : decode cX9_readsItem 169 = .ok (.iconst 1, 1) := by decide +kernel
theorem dX9_readsItem_170 : decode cX9_readsItem 170 = .ok (.if_icmp .ne 17, 3) := by decide +kernel
theorem dX9_readsItem_173 : decode cX9_readsItem 173 = .ok (.aload_n 0, 1) := by decide +kernel
theorem dX9_readsItem_174 : decode cX9_readsItem 174 = .ok (.getfield 80, 3) := by decide +kernel
theorem dX9_readsItem_177 : decode cX9_readsItem 177 = .ok (.invokestatic 83, 3) := by decide +kernel
theorem dX9_readsItem_180 : decode cX9_readsItem 180 = .ok (.ifCond .le 7, 3) := by decide +kernel
theorem dX9_readsItem_183 : decode cX9_readsItem 183 = .ok (.iconst 1, 1) := by decide +kernel
theorem dX9_readsItem_184 : decode cX9_readsItem 184 = .ok (.goto 4, 3) := by decide +kernel
theorem dX9_readsItem_187 : decode cX9_readsItem 187 = .ok (.iconst 0, 1) := by decide +kernel
theorem dX9_readsItem_188 : decode cX9_readsItem 188 = .ok (.invokevirtual 96, 3) := by decide +kernel
theorem dX9_readsItem_191 : decode cX9_readsItem 191 = .ok (.invokestatic 83, 3) := by decide +kernel
theorem dX9_readsItem_194 : decode cX9_readsItem 194 = .ok (.iastore, 1) := by decide +kernel
theorem dX9_readsItem_195 : decode cX9_readsItem 195 = .ok (.aload_n 0, 1) := by decide +kernel
theorem dX9_readsItem_196 : decode cX9_readsItem 196 = .ok (.getfield 16, 3) := by decide +kernel
theorem dX9_readsItem_199 : decode cX9_readsItem 199 = .ok (.bipush 18, 2) := by decide +kernel
theorem dX9_readsItem_201 : decode cX9_readsItem 201 = .ok (.iload_n 2, 1) := by decide +kernel
theorem dX9_readsItem_202 : decode cX9_readsItem 202 = .ok (.iadd, 1) := by decide +kernel
theorem dX9_readsItem_203 : decode cX9_readsItem 203 = .ok (.aload_n 0, 1) := by decide +kernel
theorem dX9_readsItem_204 : decode cX9_readsItem 204 = .ok (.iconst 1, 1) := by decide +kernel
theorem dX9_readsItem_205 : decode cX9_readsItem 205 = .ok (.bipush 9, 2) := by decide +kernel
theorem dX9_readsItem_207 : decode cX9_readsItem 207 = .ok (.invokevirtual 100, 3) := by decide +kernel
theorem dX9_readsItem_210 : decode cX9_readsItem 210 = .ok (.iastore, 1) := by decide +kernel
theorem dX9_readsItem_211 : decode cX9_readsItem 211 = .ok (.aload_n 0, 1) := by decide +kernel
theorem dX9_readsItem_212 : decode cX9_readsItem 212 = .ok (.getfield 16, 3) := by decide +kernel
theorem dX9_readsItem_215 : decode cX9_readsItem 215 = .ok (.bipush 26, 2) := by decide +kernel
theorem dX9_readsItem_217 : decode cX9_readsItem 217 = .ok (.iload_n 2, 1) := by decide +kernel
theorem dX9_readsItem_218 : decode cX9_readsItem 218 = .ok (.iadd, 1) := by decide +kernel
theorem dX9_readsItem_219 : decode cX9_readsItem 219 = .ok (.aload_n 0, 1) := by decide +kernel
theorem dX9_readsItem_220 : decode cX9_readsItem 220 = .ok (.iconst 1, 1) := by decide +kernel
theorem dX9_readsItem_221 : decode cX9_readsItem 221 = .ok (.iconst 5, 1) := by decide +kernel
theorem dX9_readsItem_222 : decode cX9_readsItem 222 = .ok (.invokevirtual 100, 3) := by decide +kernel
theorem dX9_readsItem_225 : decode cX9_readsItem 225 = .ok (.iastore, 1) := by decide +kernel
theorem dX9_readsItem_226 : decode cX9_readsItem 226 = .ok (.aload_n 0, 1) := by decide +kernel
theorem dX9_readsItem_227 : decode cX9_readsItem 227 = .ok (.getfield 16, 3) := by decide +kernel
theorem dX9_readsItem_230 : decode cX9_readsItem 230 = .ok (.iconst 1, 1) := by decide +kernel
theorem dX9_readsItem_231 : decode cX9_readsItem 231 = .ok (.dup2, 1) := by decide +kernel
theorem dX9_readsItem_232 : decode cX9_readsItem 232 = .ok (.iaload, 1) := by decide +kernel
theorem dX9_readsItem_233 : decode cX9_readsItem 233 = .ok (.iconst 1, 1) := by decide +kernel
theorem dX9_readsItem_234 : decode cX9_readsItem 234 = .ok (.iadd, 1) := by decide +kernel
theorem dX9_readsItem_235 : decode cX9_readsItem 235 = .ok (.iastore, 1) := by decide +kernel
theorem dX9_readsItem_236 : decode cX9_readsItem 236 = .ok (.return_, 1) := by decide +kernel
theorem dX9_settles_0 : decode cX9_settles 0 = .ok (.iconst 0, 1) := by decide +kernel
theorem dX9_settles_1 : decode cX9_settles 1 = .ok (.istore_n 1, 1) := by decide +kernel
theorem dX9_settles_2 : decode cX9_settles 2 = .ok (.iload_n 1, 1) := by decide +kernel
theorem dX9_settles_3 : decode cX9_settles 3 = .ok (.bipush 34, 2) := by decide +kernel
theorem dX9_settles_5 : decode cX9_settles 5 = .ok (.if_icmp .ge 21, 3) := by decide +kernel
theorem dX9_settles_8 : decode cX9_settles 8 = .ok (.aload_n 0, 1) := by decide +kernel
theorem dX9_settles_9 : decode cX9_settles 9 = .ok (.getfield 13, 3) := by decide +kernel
theorem dX9_settles_12 : decode cX9_settles 12 = .ok (.iload_n 1, 1) := by decide +kernel
theorem dX9_settles_13 : decode cX9_settles 13 = .ok (.aload_n 0, 1) := by decide +kernel
theorem dX9_settles_14 : decode cX9_settles 14 = .ok (.getfield 16, 3) := by decide +kernel
theorem dX9_settles_17 : decode cX9_settles 17 = .ok (.iload_n 1, 1) := by decide +kernel
theorem dX9_settles_18 : decode cX9_settles 18 = .ok (.iaload, 1) := by decide +kernel
theorem dX9_settles_19 : decode cX9_settles 19 = .ok (.iastore, 1) := by decide +kernel
theorem dX9_settles_20 : decode cX9_settles 20 = .ok (.iinc 1 1, 3) := by decide +kernel
theorem dX9_settles_23 : decode cX9_settles 23 = .ok (.goto (-21), 3) := by decide +kernel
theorem dX9_settles_26 : decode cX9_settles 26 = .ok (.iconst 0, 1) := by decide +kernel
theorem dX9_settles_27 : decode cX9_settles 27 = .ok (.istore_n 1, 1) := by decide +kernel
theorem dX9_settles_28 : decode cX9_settles 28 = .ok (.iload_n 1, 1) := by decide +kernel
theorem dX9_settles_29 : decode cX9_settles 29 = .ok (.bipush 66, 2) := by decide +kernel
theorem dX9_settles_31 : decode cX9_settles 31 = .ok (.if_icmp .ge 21, 3) := by decide +kernel
theorem dX9_settles_34 : decode cX9_settles 34 = .ok (.aload_n 0, 1) := by decide +kernel
theorem dX9_settles_35 : decode cX9_settles 35 = .ok (.getfield 22, 3) := by decide +kernel
theorem dX9_settles_38 : decode cX9_settles 38 = .ok (.iload_n 1, 1) := by decide +kernel
theorem dX9_settles_39 : decode cX9_settles 39 = .ok (.aload_n 0, 1) := by decide +kernel
theorem dX9_settles_40 : decode cX9_settles 40 = .ok (.getfield 19, 3) := by decide +kernel
theorem dX9_settles_43 : decode cX9_settles 43 = .ok (.iload_n 1, 1) := by decide +kernel
theorem dX9_settles_44 : decode cX9_settles 44 = .ok (.iaload, 1) := by decide +kernel
theorem dX9_settles_45 : decode cX9_settles 45 = .ok (.iastore, 1) := by decide +kernel
theorem dX9_settles_46 : decode cX9_settles 46 = .ok (.iinc 1 1, 3) := by decide +kernel
theorem dX9_settles_49 : decode cX9_settles 49 = .ok (.goto (-21), 3) := by decide +kernel
theorem dX9_settles_52 : decode cX9_settles 52 = .ok (.aload_n 0, 1) := by decide +kernel
theorem dX9_settles_53 : decode cX9_settles 53 = .ok (.iconst 0, 1) := by decide +kernel
theorem dX9_settles_54 : decode cX9_settles 54 = .ok (.putfield 64, 3) := by decide +kernel
theorem dX9_settles_57 : decode cX9_settles 57 = .ok (.aload_n 0, 1) := by decide +kernel
theorem dX9_settles_58 : decode cX9_settles 58 = .ok (.iconst 0, 1) := by decide +kernel
theorem dX9_settles_59 : decode cX9_settles 59 = .ok (.putfield 112, 3) := by decide +kernel
theorem dX9_settles_62 : decode cX9_settles 62 = .ok (.aload_n 0, 1) := by decide +kernel
theorem dX9_settles_63 : decode cX9_settles 63 = .ok (.iconst 0, 1) := by decide +kernel
theorem dX9_settles_64 : decode cX9_settles 64 = .ok (.putfield 115, 3) := by decide +kernel
theorem dX9_settles_67 : decode cX9_settles 67 = .ok (.aload_n 0, 1) := by decide +kernel
theorem dX9_settles_68 : decode cX9_settles 68 = .ok (.getfield 34, 3) := by decide +kernel
theorem dX9_settles_71 : decode cX9_settles 71 = .ok (.iconst 0, 1) := by decide +kernel
theorem dX9_settles_72 : decode cX9_settles 72 = .ok (.iconst 0, 1) := by decide +kernel
theorem dX9_settles_73 : decode cX9_settles 73 = .ok (.bastore, 1) := by decide +kernel
theorem dX9_settles_74 : decode cX9_settles 74 = .ok (.aload_n 0, 1) := by decide +kernel
theorem dX9_settles_75 : decode cX9_settles 75 = .ok (.getfield 34, 3) := by decide +kernel
theorem dX9_settles_78 : decode cX9_settles 78 = .ok (.iconst 1, 1) := by decide +kernel
theorem dX9_settles_79 : decode cX9_settles 79 = .ok (.iconst 0, 1) := by decide +kernel
theorem dX9_settles_80 : decode cX9_settles 80 = .ok (.bastore, 1) := by decide +kernel
theorem dX9_settles_81 : decode cX9_settles 81 = .ok (.return_, 1) := by decide +kernel
theorem dX9_gorge_0 : decode cX9_gorge 0 = .ok (.aload_n 0, 1) := by decide +kernel
theorem dX9_gorge_1 : decode cX9_gorge 1 = .ok (.iconst 0, 1) := by decide +kernel
theorem dX9_gorge_2 : decode cX9_gorge 2 = .ok (.putfield 56, 3) := by decide +kernel
theorem dX9_gorge_5 : decode cX9_gorge 5 = .ok (.aload_n 0, 1) := by decide +kernel
theorem dX9_gorge_6 : decode cX9_gorge 6 = .ok (.iconst (-1), 1) := by decide +kernel
theorem dX9_gorge_7 : decode cX9_gorge 7 = .ok (.putfield 86, 3) := by decide +kernel
theorem dX9_gorge_10 : decode cX9_gorge 10 = .ok (.aload_n 0, 1) := by decide +kernel
theorem dX9_gorge_11 : decode cX9_gorge 11 = .ok (.iconst 0, 1) := by decide +kernel
theorem dX9_gorge_12 : decode cX9_gorge 12 = .ok (.putfield 67, 3) := by decide +kernel
theorem dX9_gorge_15 : decode cX9_gorge 15 = .ok (.aload_n 0, 1) := by decide +kernel
theorem dX9_gorge_16 : decode cX9_gorge 16 = .ok (.invokevirtual 50, 3) := by decide +kernel
theorem dX9_gorge_19 : decode cX9_gorge 19 = .ok (.iconst 0, 1) := by decide +kernel
theorem dX9_gorge_20 : decode cX9_gorge 20 = .ok (.istore_n 1, 1) := by decide +kernel
theorem dX9_gorge_21 : decode cX9_gorge 21 = .ok (.aload_n 0, 1) := by decide +kernel
theorem dX9_gorge_22 : decode cX9_gorge 22 = .ok (.invokevirtual 93, 3) := by decide +kernel
theorem dX9_gorge_25 : decode cX9_gorge 25 = .ok (.aload_n 0, 1) := by decide +kernel
