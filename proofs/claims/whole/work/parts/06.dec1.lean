theorem dX8_within_0 : decode cX8_within 0 = .ok (.iload_n 0, 1) := by decide +kernel
theorem dX8_within_1 : decode cX8_within 1 = .ok (.iload_n 1, 1) := by decide +kernel
theorem dX8_within_2 : decode cX8_within 2 = .ok (.if_icmp .lt 12, 3) := by decide +kernel
theorem dX8_within_5 : decode cX8_within 5 = .ok (.iload_n 0, 1) := by decide +kernel
theorem dX8_within_6 : decode cX8_within 6 = .ok (.iload_n 2, 1) := by decide +kernel
theorem dX8_within_7 : decode cX8_within 7 = .ok (.if_icmp .gt 7, 3) := by decide +kernel
theorem dX8_within_10 : decode cX8_within 10 = .ok (.iconst 1, 1) := by decide +kernel
theorem dX8_within_11 : decode cX8_within 11 = .ok (.goto 4, 3) := by decide +kernel
theorem dX8_within_14 : decode cX8_within 14 = .ok (.iconst 0, 1) := by decide +kernel
theorem dX8_within_15 : decode cX8_within 15 = .ok (.ireturn, 1) := by decide +kernel
theorem dX8_has_0 : decode cX8_has 0 = .ok (.iload_n 0, 1) := by decide +kernel
theorem dX8_has_1 : decode cX8_has 1 = .ok (.iload_n 1, 1) := by decide +kernel
theorem dX8_has_2 : decode cX8_has 2 = .ok (.ishr, 1) := by decide +kernel
theorem dX8_has_3 : decode cX8_has 3 = .ok (.iconst 1, 1) := by decide +kernel
theorem dX8_has_4 : decode cX8_has 4 = .ok (.iand, 1) := by decide +kernel
theorem dX8_has_5 : decode cX8_has 5 = .ok (.ifCond .eq 7, 3) := by decide +kernel
theorem dX8_has_8 : decode cX8_has 8 = .ok (.iconst 1, 1) := by decide +kernel
theorem dX8_has_9 : decode cX8_has 9 = .ok (.goto 4, 3) := by decide +kernel
theorem dX8_has_12 : decode cX8_has 12 = .ok (.iconst 0, 1) := by decide +kernel
theorem dX8_has_13 : decode cX8_has 13 = .ok (.ireturn, 1) := by decide +kernel
theorem dJ6_bitCount_0f7a4_0 : decode cJ6_bitCount_0f7a4 0 = .ok (.iload_n 0, 1) := by decide +kernel
theorem dJ6_bitCount_0f7a4_1 : decode cJ6_bitCount_0f7a4 1 = .ok (.iload_n 0, 1) := by decide +kernel
theorem dJ6_bitCount_0f7a4_2 : decode cJ6_bitCount_0f7a4 2 = .ok (.iconst 1, 1) := by decide +kernel
theorem dJ6_bitCount_0f7a4_3 : decode cJ6_bitCount_0f7a4 3 = .ok (.iushr, 1) := by decide +kernel
theorem dJ6_bitCount_0f7a4_4 : decode cJ6_bitCount_0f7a4 4 = .ok (.ldc_w 265, 3) := by decide +kernel
theorem dJ6_bitCount_0f7a4_7 : decode cJ6_bitCount_0f7a4 7 = .ok (.iand, 1) := by decide +kernel
theorem dJ6_bitCount_0f7a4_8 : decode cJ6_bitCount_0f7a4 8 = .ok (.isub, 1) := by decide +kernel
theorem dJ6_bitCount_0f7a4_9 : decode cJ6_bitCount_0f7a4 9 = .ok (.istore_n 0, 1) := by decide +kernel
theorem dJ6_bitCount_0f7a4_10 : decode cJ6_bitCount_0f7a4 10 = .ok (.iload_n 0, 1) := by decide +kernel
theorem dJ6_bitCount_0f7a4_11 : decode cJ6_bitCount_0f7a4 11 = .ok (.ldc_w 266, 3) := by decide +kernel
theorem dJ6_bitCount_0f7a4_14 : decode cJ6_bitCount_0f7a4 14 = .ok (.iand, 1) := by decide +kernel
theorem dJ6_bitCount_0f7a4_15 : decode cJ6_bitCount_0f7a4 15 = .ok (.iload_n 0, 1) := by decide +kernel
theorem dJ6_bitCount_0f7a4_16 : decode cJ6_bitCount_0f7a4 16 = .ok (.iconst 2, 1) := by decide +kernel
theorem dJ6_bitCount_0f7a4_17 : decode cJ6_bitCount_0f7a4 17 = .ok (.iushr, 1) := by decide +kernel
theorem dJ6_bitCount_0f7a4_18 : decode cJ6_bitCount_0f7a4 18 = .ok (.ldc_w 266, 3) := by decide +kernel
theorem dJ6_bitCount_0f7a4_21 : decode cJ6_bitCount_0f7a4 21 = .ok (.iand, 1) := by decide +kernel
theorem dJ6_bitCount_0f7a4_22 : decode cJ6_bitCount_0f7a4 22 = .ok (.iadd, 1) := by decide +kernel
theorem dJ6_bitCount_0f7a4_23 : decode cJ6_bitCount_0f7a4 23 = .ok (.istore_n 0, 1) := by decide +kernel
theorem dJ6_bitCount_0f7a4_24 : decode cJ6_bitCount_0f7a4 24 = .ok (.iload_n 0, 1) := by decide +kernel
theorem dJ6_bitCount_0f7a4_25 : decode cJ6_bitCount_0f7a4 25 = .ok (.iload_n 0, 1) := by decide +kernel
theorem dJ6_bitCount_0f7a4_26 : decode cJ6_bitCount_0f7a4 26 = .ok (.iconst 4, 1) := by decide +kernel
theorem dJ6_bitCount_0f7a4_27 : decode cJ6_bitCount_0f7a4 27 = .ok (.iushr, 1) := by decide +kernel
theorem dJ6_bitCount_0f7a4_28 : decode cJ6_bitCount_0f7a4 28 = .ok (.iadd, 1) := by decide +kernel
theorem dJ6_bitCount_0f7a4_29 : decode cJ6_bitCount_0f7a4 29 = .ok (.ldc_w 267, 3) := by decide +kernel
theorem dJ6_bitCount_0f7a4_32 : decode cJ6_bitCount_0f7a4 32 = .ok (.iand, 1) := by decide +kernel
theorem dJ6_bitCount_0f7a4_33 : decode cJ6_bitCount_0f7a4 33 = .ok (.istore_n 0, 1) := by decide +kernel
theorem dJ6_bitCount_0f7a4_34 : decode cJ6_bitCount_0f7a4 34 = .ok (.iload_n 0, 1) := by decide +kernel
theorem dJ6_bitCount_0f7a4_35 : decode cJ6_bitCount_0f7a4 35 = .ok (.iload_n 0, 1) := by decide +kernel
theorem dJ6_bitCount_0f7a4_36 : decode cJ6_bitCount_0f7a4 36 = .ok (.bipush 8, 2) := by decide +kernel
theorem dJ6_bitCount_0f7a4_38 : decode cJ6_bitCount_0f7a4 38 = .ok (.iushr, 1) := by decide +kernel
theorem dJ6_bitCount_0f7a4_39 : decode cJ6_bitCount_0f7a4 39 = .ok (.iadd, 1) := by decide +kernel
theorem dJ6_bitCount_0f7a4_40 : decode cJ6_bitCount_0f7a4 40 = .ok (.istore_n 0, 1) := by decide +kernel
theorem dJ6_bitCount_0f7a4_41 : decode cJ6_bitCount_0f7a4 41 = .ok (.iload_n 0, 1) := by decide +kernel
theorem dJ6_bitCount_0f7a4_42 : decode cJ6_bitCount_0f7a4 42 = .ok (.iload_n 0, 1) := by decide +kernel
theorem dJ6_bitCount_0f7a4_43 : decode cJ6_bitCount_0f7a4 43 = .ok (.bipush 16, 2) := by decide +kernel
theorem dJ6_bitCount_0f7a4_45 : decode cJ6_bitCount_0f7a4 45 = .ok (.iushr, 1) := by decide +kernel
theorem dJ6_bitCount_0f7a4_46 : decode cJ6_bitCount_0f7a4 46 = .ok (.iadd, 1) := by decide +kernel
theorem dJ6_bitCount_0f7a4_47 : decode cJ6_bitCount_0f7a4 47 = .ok (.istore_n 0, 1) := by decide +kernel
theorem dJ6_bitCount_0f7a4_48 : decode cJ6_bitCount_0f7a4 48 = .ok (.iload_n 0, 1) := by decide +kernel
theorem dJ6_bitCount_0f7a4_49 : decode cJ6_bitCount_0f7a4 49 = .ok (.bipush 63, 2) := by decide +kernel
theorem dJ6_bitCount_0f7a4_51 : decode cJ6_bitCount_0f7a4 51 = .ok (.iand, 1) := by decide +kernel
theorem dJ6_bitCount_0f7a4_52 : decode cJ6_bitCount_0f7a4 52 = .ok (.ireturn, 1) := by decide +kernel
theorem dX8_isLoad_0 : decode cX8_isLoad 0 = .ok (.iload_n 0, 1) := by decide +kernel
theorem dX8_isLoad_1 : decode cX8_isLoad 1 = .ok (.iconst 1, 1) := by decide +kernel
theorem dX8_isLoad_2 : decode cX8_isLoad 2 = .ok (.bipush 36, 2) := by decide +kernel
theorem dX8_isLoad_4 : decode cX8_isLoad 4 = .ok (.invokestatic 94, 3) := by decide +kernel
theorem dX8_isLoad_7 : decode cX8_isLoad 7 = .ok (.ireturn, 1) := by decide +kernel
theorem dX8_power_0 : decode cX8_power 0 = .ok (.iconst 1, 1) := by decide +kernel
theorem dX8_power_1 : decode cX8_power 1 = .ok (.istore_n 2, 1) := by decide +kernel
theorem dX8_power_2 : decode cX8_power 2 = .ok (.iconst 0, 1) := by decide +kernel
theorem dX8_power_3 : decode cX8_power 3 = .ok (.istore_n 3, 1) := by decide +kernel
theorem dX8_power_4 : decode cX8_power 4 = .ok (.iload_n 3, 1) := by decide +kernel
theorem dX8_power_5 : decode cX8_power 5 = .ok (.iload_n 1, 1) := by decide +kernel
theorem dX8_power_6 : decode cX8_power 6 = .ok (.if_icmp .ge 13, 3) := by decide +kernel
theorem dX8_power_9 : decode cX8_power 9 = .ok (.iload_n 2, 1) := by decide +kernel
theorem dX8_power_10 : decode cX8_power 10 = .ok (.iload_n 0, 1) := by decide +kernel
theorem dX8_power_11 : decode cX8_power 11 = .ok (.imul, 1) := by decide +kernel
theorem dX8_power_12 : decode cX8_power 12 = .ok (.istore_n 2, 1) := by decide +kernel
theorem dX8_power_13 : decode cX8_power 13 = .ok (.iinc 3 1, 3) := by decide +kernel
theorem dX8_power_16 : decode cX8_power 16 = .ok (.goto (-12), 3) := by decide +kernel
theorem dX8_power_19 : decode cX8_power 19 = .ok (.iload_n 2, 1) := by decide +kernel
theorem dX8_power_20 : decode cX8_power 20 = .ok (.ireturn, 1) := by decide +kernel
theorem dX8_commonDivisor_0 : decode cX8_commonDivisor 0 = .ok (.iload_n 0, 1) := by decide +kernel
theorem dX8_commonDivisor_1 : decode cX8_commonDivisor 1 = .ok (.istore_n 2, 1) := by decide +kernel
theorem dX8_commonDivisor_2 : decode cX8_commonDivisor 2 = .ok (.iload_n 1, 1) := by decide +kernel
theorem dX8_commonDivisor_3 : decode cX8_commonDivisor 3 = .ok (.istore_n 3, 1) := by decide +kernel
theorem dX8_commonDivisor_4 : decode cX8_commonDivisor 4 = .ok (.iconst 0, 1) := by decide +kernel
theorem dX8_commonDivisor_5 : decode cX8_commonDivisor 5 = .ok (.istore 4, 2) := by decide +kernel
theorem dX8_commonDivisor_7 : decode cX8_commonDivisor 7 = .ok (.iload 4, 2) := by decide +kernel
theorem dX8_commonDivisor_9 : decode cX8_commonDivisor 9 = .ok (.bipush 64, 2) := by decide +kernel
theorem dX8_commonDivisor_11 : decode cX8_commonDivisor 11 = .ok (.if_icmp .ge 23, 3) := by decide +kernel
theorem dX8_commonDivisor_14 : decode cX8_commonDivisor 14 = .ok (.iload_n 3, 1) := by decide +kernel
theorem dX8_commonDivisor_15 : decode cX8_commonDivisor 15 = .ok (.ifCond .eq 19, 3) := by decide +kernel
theorem dX8_commonDivisor_18 : decode cX8_commonDivisor 18 = .ok (.iload_n 2, 1) := by decide +kernel
theorem dX8_commonDivisor_19 : decode cX8_commonDivisor 19 = .ok (.iload_n 3, 1) := by decide +kernel
theorem dX8_commonDivisor_20 : decode cX8_commonDivisor 20 = .ok (.irem, 1) := by decide +kernel
theorem dX8_commonDivisor_21 : decode cX8_commonDivisor 21 = .ok (.istore 5, 2) := by decide +kernel
theorem dX8_commonDivisor_23 : decode cX8_commonDivisor 23 = .ok (.iload_n 3, 1) := by decide +kernel
theorem dX8_commonDivisor_24 : decode cX8_commonDivisor 24 = .ok (.istore_n 2, 1) := by decide +kernel
theorem dX8_commonDivisor_25 : decode cX8_commonDivisor 25 = .ok (.iload 5, 2) := by decide +kernel
theorem dX8_commonDivisor_27 : decode cX8_commonDivisor 27 = .ok (.istore_n 3, 1) := by decide +kernel
theorem dX8_commonDivisor_28 : decode cX8_commonDivisor 28 = .ok (.iinc 4 1, 3) := by decide +kernel
theorem dX8_commonDivisor_31 : decode cX8_commonDivisor 31 = .ok (.goto (-24), 3) := by decide +kernel
theorem dX8_commonDivisor_34 : decode cX8_commonDivisor 34 = .ok (.iload_n 2, 1) := by decide +kernel
theorem dX8_commonDivisor_35 : decode cX8_commonDivisor 35 = .ok (.ireturn, 1) := by decide +kernel
theorem dX0_leave_0 : decode cX0_leave 0 = .ok (.aload_n 0, 1) := by decide +kernel
theorem dX0_leave_1 : decode cX0_leave 1 = .ok (.iconst 3, 1) := by decide +kernel
theorem dX0_leave_2 : decode cX0_leave 2 = .ok (.putfield 9, 3) := by decide +kernel
theorem dX0_leave_5 : decode cX0_leave 5 = .ok (.aload_n 0, 1) := by decide +kernel
theorem dX0_leave_6 : decode cX0_leave 6 = .ok (.iconst 0, 1) := by decide +kernel
theorem dX0_leave_7 : decode cX0_leave 7 = .ok (.putfield 15, 3) := by decide +kernel
theorem dX0_leave_10 : decode cX0_leave 10 = .ok (.aload_n 0, 1) := by decide +kernel
theorem dX0_leave_11 : decode cX0_leave 11 = .ok (.iconst 0, 1) := by decide +kernel
theorem dX0_leave_12 : decode cX0_leave 12 = .ok (.putfield 18, 3) := by decide +kernel
theorem dX0_leave_15 : decode cX0_leave 15 = .ok (.iconst 0, 1) := by decide +kernel
theorem dX0_leave_16 : decode cX0_leave 16 = .ok (.istore_n 1, 1) := by decide +kernel
theorem dX0_leave_17 : decode cX0_leave 17 = .ok (.iload_n 1, 1) := by decide +kernel
theorem dX0_leave_18 : decode cX0_leave 18 = .ok (.bipush 8, 2) := by decide +kernel
theorem dX0_leave_20 : decode cX0_leave 20 = .ok (.if_icmp .ge 16, 3) := by decide +kernel
theorem dX0_leave_23 : decode cX0_leave 23 = .ok (.aload_n 0, 1) := by decide +kernel
theorem dX0_leave_24 : decode cX0_leave 24 = .ok (.getfield 34, 3) := by decide +kernel
theorem dX0_leave_27 : decode cX0_leave 27 = .ok (.iload_n 1, 1) := by decide +kernel
theorem dX0_leave_28 : decode cX0_leave 28 = .ok (.iconst 0, 1) := by decide +kernel
theorem dX0_leave_29 : decode cX0_leave 29 = .ok (.iastore, 1) := by decide +kernel
theorem dX0_leave_30 : decode cX0_leave 30 = .ok (.iinc 1 1, 3) := by decide +kernel
theorem dX0_leave_33 : decode cX0_leave 33 = .ok (.goto (-16), 3) := by decide +kernel
theorem dX0_leave_36 : decode cX0_leave 36 = .ok (.return_, 1) := by decide +kernel
theorem dX0_join_0 : decode cX0_join 0 = .ok (.aload_n 0, 1) := by decide +kernel
theorem dX0_join_1 : decode cX0_join 1 = .ok (.getfield 15, 3) := by decide +kernel
theorem dX0_join_4 : decode cX0_join 4 = .ok (.bipush 8, 2) := by decide +kernel
theorem dX0_join_6 : decode cX0_join 6 = .ok (.if_icmp .lt 4, 3) := by decide +kernel
theorem dX0_join_9 : decode cX0_join 9 = .ok (.return_, 1) := by decide +kernel
theorem dX0_join_10 : decode cX0_join 10 = .ok (.aload_n 0, 1) := by decide +kernel
theorem dX0_join_11 : decode cX0_join 11 = .ok (.getfield 21, 3) := by decide +kernel
theorem dX0_join_14 : decode cX0_join 14 = .ok (.aload_n 0, 1) := by decide +kernel
theorem dX0_join_15 : decode cX0_join 15 = .ok (.getfield 15, 3) := by decide +kernel
theorem dX0_join_18 : decode cX0_join 18 = .ok (.iload_n 1, 1) := by decide +kernel
theorem dX0_join_19 : decode cX0_join 19 = .ok (.iastore, 1) := by decide +kernel
theorem dX0_join_20 : decode cX0_join 20 = .ok (.aload_n 0, 1) := by decide +kernel
theorem dX0_join_21 : decode cX0_join 21 = .ok (.getfield 25, 3) := by decide +kernel
theorem dX0_join_24 : decode cX0_join 24 = .ok (.aload_n 0, 1) := by decide +kernel
theorem dX0_join_25 : decode cX0_join 25 = .ok (.getfield 15, 3) := by decide +kernel
theorem dX0_join_28 : decode cX0_join 28 = .ok (.iload_n 2, 1) := by decide +kernel
theorem dX0_join_29 : decode cX0_join 29 = .ok (.iastore, 1) := by decide +kernel
theorem dX0_join_30 : decode cX0_join 30 = .ok (.aload_n 0, 1) := by decide +kernel
theorem dX0_join_31 : decode cX0_join 31 = .ok (.getfield 28, 3) := by decide +kernel
theorem dX0_join_34 : decode cX0_join 34 = .ok (.aload_n 0, 1) := by decide +kernel
theorem dX0_join_35 : decode cX0_join 35 = .ok (.getfield 15, 3) := by decide +kernel
theorem dX0_join_38 : decode cX0_join 38 = .ok (.iload_n 3, 1) := by decide +kernel
theorem dX0_join_39 : decode cX0_join 39 = .ok (.iastore, 1) := by decide +kernel
theorem dX0_join_40 : decode cX0_join 40 = .ok (.aload_n 0, 1) := by decide +kernel
theorem dX0_join_41 : decode cX0_join 41 = .ok (.getfield 31, 3) := by decide +kernel
theorem dX0_join_44 : decode cX0_join 44 = .ok (.aload_n 0, 1) := by decide +kernel
theorem dX0_join_45 : decode cX0_join 45 = .ok (.getfield 15, 3) := by decide +kernel
theorem dX0_join_48 : decode cX0_join 48 = .ok (.iload 4, 2) := by decide +kernel
theorem dX0_join_50 : decode cX0_join 50 = .ok (.iastore, 1) := by decide +kernel
theorem dX0_join_51 : decode cX0_join 51 = .ok (.iload_n 2, 1) := by decide +kernel
theorem dX0_join_52 : decode cX0_join 52 = .ok (.iconst 3, 1) := by decide +kernel
theorem dX0_join_53 : decode cX0_join 53 = .ok (.if_icmp .ne 18, 3) := by decide +kernel
theorem dX0_join_56 : decode cX0_join 56 = .ok (.aload_n 0, 1) := by decide +kernel
theorem dX0_join_57 : decode cX0_join 57 = .ok (.dup, 1) := by decide +kernel
theorem dX0_join_58 : decode cX0_join 58 = .ok (.getfield 18, 3) := by decide +kernel
theorem dX0_join_61 : decode cX0_join 61 = .ok (.iconst 1, 1) := by decide +kernel
theorem dX0_join_62 : decode cX0_join 62 = .ok (.aload_n 0, 1) := by decide +kernel
theorem dX0_join_63 : decode cX0_join 63 = .ok (.getfield 15, 3) := by decide +kernel
theorem dX0_join_66 : decode cX0_join 66 = .ok (.ishl, 1) := by decide +kernel
theorem dX0_join_67 : decode cX0_join 67 = .ok (.ior, 1) := by decide +kernel
theorem dX0_join_68 : decode cX0_join 68 = .ok (.putfield 18, 3) := by decide +kernel
theorem dX0_join_71 : decode cX0_join 71 = .ok (.aload_n 0, 1) := by decide +kernel
theorem dX0_join_72 : decode cX0_join 72 = .ok (.dup, 1) := by decide +kernel
theorem dX0_join_73 : decode cX0_join 73 = .ok (.getfield 15, 3) := by decide +kernel
theorem dX0_join_76 : decode cX0_join 76 = .ok (.iconst 1, 1) := by decide +kernel
theorem dX0_join_77 : decode cX0_join 77 = .ok (.iadd, 1) := by decide +kernel
theorem dX0_join_78 : decode cX0_join 78 = .ok (.putfield 15, 3) := by decide +kernel
theorem dX0_join_81 : decode cX0_join 81 = .ok (.return_, 1) := by decide +kernel
theorem dX0_become_0 : decode cX0_become 0 = .ok (.aload_n 0, 1) := by decide +kernel
theorem dX0_become_1 : decode cX0_become 1 = .ok (.aload_n 1, 1) := by decide +kernel
theorem dX0_become_2 : decode cX0_become 2 = .ok (.getfield 9, 3) := by decide +kernel
theorem dX0_become_5 : decode cX0_become 5 = .ok (.putfield 9, 3) := by decide +kernel
theorem dX0_become_8 : decode cX0_become 8 = .ok (.aload_n 0, 1) := by decide +kernel
theorem dX0_become_9 : decode cX0_become 9 = .ok (.aload_n 1, 1) := by decide +kernel
theorem dX0_become_10 : decode cX0_become 10 = .ok (.getfield 15, 3) := by decide +kernel
theorem dX0_become_13 : decode cX0_become 13 = .ok (.putfield 15, 3) := by decide +kernel
theorem dX0_become_16 : decode cX0_become 16 = .ok (.aload_n 0, 1) := by decide +kernel
theorem dX0_become_17 : decode cX0_become 17 = .ok (.aload_n 1, 1) := by decide +kernel
theorem dX0_become_18 : decode cX0_become 18 = .ok (.getfield 18, 3) := by decide +kernel
theorem dX0_become_21 : decode cX0_become 21 = .ok (.putfield 18, 3) := by decide +kernel
theorem dX0_become_24 : decode cX0_become 24 = .ok (.aload_n 1, 1) := by decide +kernel
theorem dX0_become_25 : decode cX0_become 25 = .ok (.getfield 21, 3) := by decide +kernel
theorem dX0_become_28 : decode cX0_become 28 = .ok (.iconst 0, 1) := by decide +kernel
theorem dX0_become_29 : decode cX0_become 29 = .ok (.aload_n 0, 1) := by decide +kernel
theorem dX0_become_30 : decode cX0_become 30 = .ok (.getfield 21, 3) := by decide +kernel
theorem dX0_become_33 : decode cX0_become 33 = .ok (.iconst 0, 1) := by decide +kernel
theorem dX0_become_34 : decode cX0_become 34 = .ok (.bipush 8, 2) := by decide +kernel
theorem dX0_become_36 : decode cX0_become 36 = .ok (.invokestatic 37, 3) := by decide +kernel
theorem dX0_become_39 : decode cX0_become 39 = .ok (.aload_n 1, 1) := by decide +kernel
theorem dX0_become_40 : decode cX0_become 40 = .ok (.getfield 25, 3) := by decide +kernel
theorem dX0_become_43 : decode cX0_become 43 = .ok (.iconst 0, 1) := by decide +kernel
theorem dX0_become_44 : decode cX0_become 44 = .ok (.aload_n 0, 1) := by decide +kernel
theorem dX0_become_45 : decode cX0_become 45 = .ok (.getfield 25, 3) := by decide +kernel
theorem dX0_become_48 : decode cX0_become 48 = .ok (.iconst 0, 1) := by decide +kernel
theorem dX0_become_49 : decode cX0_become 49 = .ok (.bipush 8, 2) := by decide +kernel
theorem dX0_become_51 : decode cX0_become 51 = .ok (.invokestatic 37, 3) := by decide +kernel
theorem dX0_become_54 : decode cX0_become 54 = .ok (.aload_n 1, 1) := by decide +kernel
theorem dX0_become_55 : decode cX0_become 55 = .ok (.getfield 28, 3) := by decide +kernel
theorem dX0_become_58 : decode cX0_become 58 = .ok (.iconst 0, 1) := by decide +kernel
theorem dX0_become_59 : decode cX0_become 59 = .ok (.aload_n 0, 1) := by decide +kernel
theorem dX0_become_60 : decode cX0_become 60 = .ok (.getfield 28, 3) := by decide +kernel
theorem dX0_become_63 : decode cX0_become 63 = .ok (.iconst 0, 1) := by decide +kernel
theorem dX0_become_64 : decode cX0_become 64 = .ok (.bipush 8, 2) := by decide +kernel
theorem dX0_become_66 : decode cX0_become 66 = .ok (.invokestatic 37, 3) := by decide +kernel
theorem dX0_become_69 : decode cX0_become 69 = .ok (.aload_n 1, 1) := by decide +kernel
theorem dX0_become_70 : decode cX0_become 70 = .ok (.getfield 31, 3) := by decide +kernel
theorem dX0_become_73 : decode cX0_become 73 = .ok (.iconst 0, 1) := by decide +kernel
theorem dX0_become_74 : decode cX0_become 74 = .ok (.aload_n 0, 1) := by decide +kernel
theorem dX0_become_75 : decode cX0_become 75 = .ok (.getfield 31, 3) := by decide +kernel
theorem dX0_become_78 : decode cX0_become 78 = .ok (.iconst 0, 1) := by decide +kernel
theorem dX0_become_79 : decode cX0_become 79 = .ok (.bipush 8, 2) := by decide +kernel
theorem dX0_become_81 : decode cX0_become 81 = .ok (.invokestatic 37, 3) := by decide +kernel
theorem dX0_become_84 : decode cX0_become 84 = .ok (.aload_n 1, 1) := by decide +kernel
theorem dX0_become_85 : decode cX0_become 85 = .ok (.getfield 34, 3) := by decide +kernel
theorem dX0_become_88 : decode cX0_become 88 = .ok (.iconst 0, 1) := by decide +kernel
theorem dX0_become_89 : decode cX0_become 89 = .ok (.aload_n 0, 1) := by decide +kernel
theorem dX0_become_90 : decode cX0_become 90 = .ok (.getfield 34, 3) := by decide +kernel
theorem dX0_become_93 : decode cX0_become 93 = .ok (.iconst 0, 1) := by decide +kernel
theorem dX0_become_94 : decode cX0_become 94 = .ok (.bipush 8, 2) := by decide +kernel
theorem dX0_become_96 : decode cX0_become 96 = .ok (.invokestatic 37, 3) := by decide +kernel
theorem dX0_become_99 : decode cX0_become 99 = .ok (.return_, 1) := by decide +kernel
theorem dX0_everyone_0 : decode cX0_everyone 0 = .ok (.iconst 1, 1) := by decide +kernel
theorem dX0_everyone_1 : decode cX0_everyone 1 = .ok (.aload_n 0, 1) := by decide +kernel
theorem dX0_everyone_2 : decode cX0_everyone 2 = .ok (.getfield 15, 3) := by decide +kernel
theorem dX0_everyone_5 : decode cX0_everyone 5 = .ok (.ishl, 1) := by decide +kernel
theorem dX0_everyone_6 : decode cX0_everyone 6 = .ok (.iconst 1, 1) := by decide +kernel
theorem dX0_everyone_7 : decode cX0_everyone 7 = .ok (.isub, 1) := by decide +kernel
theorem dX0_everyone_8 : decode cX0_everyone 8 = .ok (.ireturn, 1) := by decide +kernel
theorem dX0_holdBy_0 : decode cX0_holdBy 0 = .ok (.aload_n 0, 1) := by decide +kernel
theorem dX0_holdBy_1 : decode cX0_holdBy 1 = .ok (.getfield 25, 3) := by decide +kernel
theorem dX0_holdBy_4 : decode cX0_holdBy 4 = .ok (.iload_n 1, 1) := by decide +kernel
theorem dX0_holdBy_5 : decode cX0_holdBy 5 = .ok (.iaload, 1) := by decide +kernel
theorem dX0_holdBy_6 : decode cX0_holdBy 6 = .ok (.tableswitch 69 2 5 #[30, 69, 36, 51], 30) := by decide +kernel
theorem dX0_holdBy_36 : decode cX0_holdBy 36 = .ok (.iload_n 2, 1) := by decide +kernel
theorem dX0_holdBy_37 : decode cX0_holdBy 37 = .ok (.iconst 3, 1) := by decide +kernel
theorem dX0_holdBy_38 : decode cX0_holdBy 38 = .ok (.invokestatic 43, 3) := by decide +kernel
theorem dX0_holdBy_41 : decode cX0_holdBy 41 = .ok (.ireturn, 1) := by decide +kernel
theorem dX0_holdBy_42 : decode cX0_holdBy 42 = .ok (.iload_n 3, 1) := by decide +kernel
theorem dX0_holdBy_43 : decode cX0_holdBy 43 = .ok (.iconst 1, 1) := by decide +kernel
theorem dX0_holdBy_44 : decode cX0_holdBy 44 = .ok (.iand, 1) := by decide +kernel
theorem dX0_holdBy_45 : decode cX0_holdBy 45 = .ok (.iconst 1, 1) := by decide +kernel
theorem dX0_holdBy_46 : decode cX0_holdBy 46 = .ok (.if_icmp .ne 9, 3) := by decide +kernel
theorem dX0_holdBy_49 : decode cX0_holdBy 49 = .ok (.iconst 2, 1) := by decide +kernel
theorem dX0_holdBy_50 : decode cX0_holdBy 50 = .ok (.iload_n 2, 1) := by decide +kernel
theorem dX0_holdBy_51 : decode cX0_holdBy 51 = .ok (.imul, 1) := by decide +kernel
theorem dX0_holdBy_52 : decode cX0_holdBy 52 = .ok (.goto 4, 3) := by decide +kernel
theorem dX0_holdBy_55 : decode cX0_holdBy 55 = .ok (.iload_n 2, 1) := by decide +kernel
theorem dX0_holdBy_56 : decode cX0_holdBy 56 = .ok (.ireturn, 1) := by decide +kernel
theorem dX0_holdBy_57 : decode cX0_holdBy 57 = .ok (.iload 4, 2) := by decide +kernel
theorem dX0_holdBy_59 : decode cX0_holdBy 59 = .ok (.aload_n 0, 1) := by decide +kernel
theorem dX0_holdBy_60 : decode cX0_holdBy 60 = .ok (.getfield 18, 3) := by decide +kernel
theorem dX0_holdBy_63 : decode cX0_holdBy 63 = .ok (.iand, 1) := by decide +kernel
theorem dX0_holdBy_64 : decode cX0_holdBy 64 = .ok (.ifCond .eq 7, 3) := by decide +kernel
theorem dX0_holdBy_67 : decode cX0_holdBy 67 = .ok (.iconst 0, 1) := by decide +kernel
theorem dX0_holdBy_68 : decode cX0_holdBy 68 = .ok (.goto 6, 3) := by decide +kernel
theorem dX0_holdBy_71 : decode cX0_holdBy 71 = .ok (.iconst 2, 1) := by decide +kernel
theorem dX0_holdBy_72 : decode cX0_holdBy 72 = .ok (.iload_n 2, 1) := by decide +kernel
theorem dX0_holdBy_73 : decode cX0_holdBy 73 = .ok (.imul, 1) := by decide +kernel
theorem dX0_holdBy_74 : decode cX0_holdBy 74 = .ok (.ireturn, 1) := by decide +kernel
theorem dX0_holdBy_75 : decode cX0_holdBy 75 = .ok (.iload_n 2, 1) := by decide +kernel
theorem dX0_holdBy_76 : decode cX0_holdBy 76 = .ok (.ireturn, 1) := by decide +kernel
theorem dX0_hasPerson_0 : decode cX0_hasPerson 0 = .ok (.iload_n 1, 1) := by decide +kernel
theorem dX0_hasPerson_1 : decode cX0_hasPerson 1 = .ok (.ifCond .lt 15, 3) := by decide +kernel
theorem dX0_hasPerson_4 : decode cX0_hasPerson 4 = .ok (.iload_n 1, 1) := by decide +kernel
theorem dX0_hasPerson_5 : decode cX0_hasPerson 5 = .ok (.aload_n 0, 1) := by decide +kernel
theorem dX0_hasPerson_6 : decode cX0_hasPerson 6 = .ok (.getfield 15, 3) := by decide +kernel
theorem dX0_hasPerson_9 : decode cX0_hasPerson 9 = .ok (.if_icmp .ge 7, 3) := by decide +kernel
theorem dX0_hasPerson_12 : decode cX0_hasPerson 12 = .ok (.iconst 1, 1) := by decide +kernel
theorem dX0_hasPerson_13 : decode cX0_hasPerson 13 = .ok (.goto 4, 3) := by decide +kernel
theorem dX0_hasPerson_16 : decode cX0_hasPerson 16 = .ok (.iconst 0, 1) := by decide +kernel
theorem dX0_hasPerson_17 : decode cX0_hasPerson 17 = .ok (.ireturn, 1) := by decide +kernel
theorem dX0_hasPlank_0 : decode cX0_hasPlank 0 = .ok (.iload_n 1, 1) := by decide +kernel
theorem dX0_hasPlank_1 : decode cX0_hasPlank 1 = .ok (.ifCond .lt 15, 3) := by decide +kernel
theorem dX0_hasPlank_4 : decode cX0_hasPlank 4 = .ok (.iload_n 1, 1) := by decide +kernel
theorem dX0_hasPlank_5 : decode cX0_hasPlank 5 = .ok (.aload_n 0, 1) := by decide +kernel
theorem dX0_hasPlank_6 : decode cX0_hasPlank 6 = .ok (.getfield 9, 3) := by decide +kernel
theorem dX0_hasPlank_9 : decode cX0_hasPlank 9 = .ok (.if_icmp .ge 7, 3) := by decide +kernel
theorem dX0_hasPlank_12 : decode cX0_hasPlank 12 = .ok (.iconst 1, 1) := by decide +kernel
theorem dX0_hasPlank_13 : decode cX0_hasPlank 13 = .ok (.goto 4, 3) := by decide +kernel
theorem dX0_hasPlank_16 : decode cX0_hasPlank 16 = .ok (.iconst 0, 1) := by decide +kernel
theorem dX0_hasPlank_17 : decode cX0_hasPlank 17 = .ok (.ireturn, 1) := by decide +kernel
theorem dX5_begin_0 : decode cX5_begin 0 = .ok (.aload_n 0, 1) := by decide +kernel
theorem dX5_begin_1 : decode cX5_begin 1 = .ok (.iconst 0, 1) := by decide +kernel
theorem dX5_begin_2 : decode cX5_begin 2 = .ok (.putfield 9, 3) := by decide +kernel
theorem dX5_begin_5 : decode cX5_begin 5 = .ok (.aload_n 0, 1) := by decide +kernel
theorem dX5_begin_6 : decode cX5_begin 6 = .ok (.iconst 0, 1) := by decide +kernel
theorem dX5_begin_7 : decode cX5_begin 7 = .ok (.putfield 15, 3) := by decide +kernel
theorem dX5_begin_10 : decode cX5_begin 10 = .ok (.iconst 0, 1) := by decide +kernel
theorem dX5_begin_11 : decode cX5_begin 11 = .ok (.istore_n 2, 1) := by decide +kernel
theorem dX5_begin_12 : decode cX5_begin 12 = .ok (.iload_n 2, 1) := by decide +kernel
theorem dX5_begin_13 : decode cX5_begin 13 = .ok (.bipush 8, 2) := by decide +kernel
theorem dX5_begin_15 : decode cX5_begin 15 = .ok (.if_icmp .ge 28, 3) := by decide +kernel
theorem dX5_begin_18 : decode cX5_begin 18 = .ok (.aload_n 0, 1) := by decide +kernel
theorem dX5_begin_19 : decode cX5_begin 19 = .ok (.getfield 18, 3) := by decide +kernel
theorem dX5_begin_22 : decode cX5_begin 22 = .ok (.iload_n 2, 1) := by decide +kernel
theorem dX5_begin_23 : decode cX5_begin 23 = .ok (.aload_n 1, 1) := by decide +kernel
theorem dX5_begin_24 : decode cX5_begin 24 = .ok (.getfield 28, 3) := by decide +kernel
theorem dX5_begin_27 : decode cX5_begin 27 = .ok (.iload_n 2, 1) := by decide +kernel
theorem dX5_begin_28 : decode cX5_begin 28 = .ok (.iaload, 1) := by decide +kernel
theorem dX5_begin_29 : decode cX5_begin 29 = .ok (.iastore, 1) := by decide +kernel
theorem dX5_begin_30 : decode cX5_begin 30 = .ok (.aload_n 0, 1) := by decide +kernel
theorem dX5_begin_31 : decode cX5_begin 31 = .ok (.getfield 22, 3) := by decide +kernel
theorem dX5_begin_34 : decode cX5_begin 34 = .ok (.iload_n 2, 1) := by decide +kernel
theorem dX5_begin_35 : decode cX5_begin 35 = .ok (.iconst 0, 1) := by decide +kernel
theorem dX5_begin_36 : decode cX5_begin 36 = .ok (.iastore, 1) := by decide +kernel
theorem dX5_begin_37 : decode cX5_begin 37 = .ok (.iinc 2 1, 3) := by decide +kernel
theorem dX5_begin_40 : decode cX5_begin 40 = .ok (.goto (-28), 3) := by decide +kernel
theorem dX5_begin_43 : decode cX5_begin 43 = .ok (.return_, 1) := by decide +kernel
theorem dX5_lettersUnderWay_0 : decode cX5_lettersUnderWay 0 = .ok (.iconst 0, 1) := by decide +kernel
theorem dX5_lettersUnderWay_1 : decode cX5_lettersUnderWay 1 = .ok (.istore_n 1, 1) := by decide +kernel
theorem dX5_lettersUnderWay_2 : decode cX5_lettersUnderWay 2 = .ok (.iconst 0, 1) := by decide +kernel
theorem dX5_lettersUnderWay_3 : decode cX5_lettersUnderWay 3 = .ok (.istore_n 2, 1) := by decide +kernel
theorem dX5_lettersUnderWay_4 : decode cX5_lettersUnderWay 4 = .ok (.iload_n 2, 1) := by decide +kernel
theorem dX5_lettersUnderWay_5 : decode cX5_lettersUnderWay 5 = .ok (.bipush 8, 2) := by decide +kernel
theorem dX5_lettersUnderWay_7 : decode cX5_lettersUnderWay 7 = .ok (.if_icmp .ge 21, 3) := by decide +kernel
theorem dX5_lettersUnderWay_10 : decode cX5_lettersUnderWay 10 = .ok (.iload_n 1, 1) := by decide +kernel
theorem dX5_lettersUnderWay_11 : decode cX5_lettersUnderWay 11 = .ok (.aload_n 0, 1) := by decide +kernel
theorem dX5_lettersUnderWay_12 : decode cX5_lettersUnderWay 12 = .ok (.getfield 22, 3) := by decide +kernel
theorem dX5_lettersUnderWay_15 : decode cX5_lettersUnderWay 15 = .ok (.iload_n 2, 1) := by decide +kernel
theorem dX5_lettersUnderWay_16 : decode cX5_lettersUnderWay 16 = .ok (.iaload, 1) := by decide +kernel
theorem dX5_lettersUnderWay_17 : decode cX5_lettersUnderWay 17 = .ok (.invokestatic 60, 3) := by decide +kernel
theorem dX5_lettersUnderWay_20 : decode cX5_lettersUnderWay 20 = .ok (.iadd, 1) := by decide +kernel
theorem dX5_lettersUnderWay_21 : decode cX5_lettersUnderWay 21 = .ok (.istore_n 1, 1) := by decide +kernel
theorem dX5_lettersUnderWay_22 : decode cX5_lettersUnderWay 22 = .ok (.iinc 2 1, 3) := by decide +kernel
theorem dX5_lettersUnderWay_25 : decode cX5_lettersUnderWay 25 = .ok (.goto (-21), 3) := by decide +kernel
theorem dX5_lettersUnderWay_28 : decode cX5_lettersUnderWay 28 = .ok (.iload_n 1, 1) := by decide +kernel
theorem dX5_lettersUnderWay_29 : decode cX5_lettersUnderWay 29 = .ok (.ireturn, 1) := by decide +kernel
theorem dX5_gave_0 : decode cX5_gave 0 = .ok (.aload_n 0, 1) := by decide +kernel
theorem dX5_gave_1 : decode cX5_gave 1 = .ok (.getfield 18, 3) := by decide +kernel
theorem dX5_gave_4 : decode cX5_gave 4 = .ok (.iload_n 2, 1) := by decide +kernel
theorem dX5_gave_5 : decode cX5_gave 5 = .ok (.iaload, 1) := by decide +kernel
theorem dX5_gave_6 : decode cX5_gave 6 = .ok (.aload_n 0, 1) := by decide +kernel
theorem dX5_gave_7 : decode cX5_gave 7 = .ok (.getfield 22, 3) := by decide +kernel
theorem dX5_gave_10 : decode cX5_gave 10 = .ok (.iload_n 2, 1) := by decide +kernel
theorem dX5_gave_11 : decode cX5_gave 11 = .ok (.iaload, 1) := by decide +kernel
theorem dX5_gave_12 : decode cX5_gave 12 = .ok (.ior, 1) := by decide +kernel
theorem dX5_gave_13 : decode cX5_gave 13 = .ok (.iload_n 1, 1) := by decide +kernel
theorem dX5_gave_14 : decode cX5_gave 14 = .ok (.invokestatic 39, 3) := by decide +kernel
theorem dX5_gave_17 : decode cX5_gave 17 = .ok (.ireturn, 1) := by decide +kernel
theorem dX5_become_0 : decode cX5_become 0 = .ok (.aload_n 0, 1) := by decide +kernel
theorem dX5_become_1 : decode cX5_become 1 = .ok (.aload_n 1, 1) := by decide +kernel
theorem dX5_become_2 : decode cX5_become 2 = .ok (.getfield 9, 3) := by decide +kernel
theorem dX5_become_5 : decode cX5_become 5 = .ok (.putfield 9, 3) := by decide +kernel
theorem dX5_become_8 : decode cX5_become 8 = .ok (.aload_n 0, 1) := by decide +kernel
theorem dX5_become_9 : decode cX5_become 9 = .ok (.aload_n 1, 1) := by decide +kernel
theorem dX5_become_10 : decode cX5_become 10 = .ok (.getfield 15, 3) := by decide +kernel
theorem dX5_become_13 : decode cX5_become 13 = .ok (.putfield 15, 3) := by decide +kernel
theorem dX5_become_16 : decode cX5_become 16 = .ok (.aload_n 1, 1) := by decide +kernel
theorem dX5_become_17 : decode cX5_become 17 = .ok (.getfield 18, 3) := by decide +kernel
theorem dX5_become_20 : decode cX5_become 20 = .ok (.iconst 0, 1) := by decide +kernel
theorem dX5_become_21 : decode cX5_become 21 = .ok (.aload_n 0, 1) := by decide +kernel
theorem dX5_become_22 : decode cX5_become 22 = .ok (.getfield 18, 3) := by decide +kernel
theorem dX5_become_25 : decode cX5_become 25 = .ok (.iconst 0, 1) := by decide +kernel
theorem dX5_become_26 : decode cX5_become 26 = .ok (.bipush 8, 2) := by decide +kernel
theorem dX5_become_28 : decode cX5_become 28 = .ok (.invokestatic 33, 3) := by decide +kernel
theorem dX5_become_31 : decode cX5_become 31 = .ok (.aload_n 1, 1) := by decide +kernel
theorem dX5_become_32 : decode cX5_become 32 = .ok (.getfield 22, 3) := by decide +kernel
theorem dX5_become_35 : decode cX5_become 35 = .ok (.iconst 0, 1) := by decide +kernel
theorem dX5_become_36 : decode cX5_become 36 = .ok (.aload_n 0, 1) := by decide +kernel
theorem dX5_become_37 : decode cX5_become 37 = .ok (.getfield 22, 3) := by decide +kernel
theorem dX5_become_40 : decode cX5_become 40 = .ok (.iconst 0, 1) := by decide +kernel
theorem dX5_become_41 : decode cX5_become 41 = .ok (.bipush 8, 2) := by decide +kernel
theorem dX5_become_43 : decode cX5_become 43 = .ok (.invokestatic 33, 3) := by decide +kernel
theorem dX5_become_46 : decode cX5_become 46 = .ok (.aload_n 1, 1) := by decide +kernel
theorem dX5_become_47 : decode cX5_become 47 = .ok (.getfield 25, 3) := by decide +kernel
theorem dX5_become_50 : decode cX5_become 50 = .ok (.iconst 0, 1) := by decide +kernel
theorem dX5_become_51 : decode cX5_become 51 = .ok (.aload_n 0, 1) := by decide +kernel
theorem dX5_become_52 : decode cX5_become 52 = .ok (.getfield 25, 3) := by decide +kernel
theorem dX5_become_55 : decode cX5_become 55 = .ok (.iconst 0, 1) := by decide +kernel
theorem dX5_become_56 : decode cX5_become 56 = .ok (.bipush 64, 2) := by decide +kernel
theorem dX5_become_58 : decode cX5_become 58 = .ok (.invokestatic 33, 3) := by decide +kernel
theorem dX5_become_61 : decode cX5_become 61 = .ok (.return_, 1) := by decide +kernel
theorem dX5_meetsAnother_0 : decode cX5_meetsAnother 0 = .ok (.iconst 0, 1) := by decide +kernel
theorem dX5_meetsAnother_1 : decode cX5_meetsAnother 1 = .ok (.istore 4, 2) := by decide +kernel
theorem dX5_meetsAnother_3 : decode cX5_meetsAnother 3 = .ok (.iload 4, 2) := by decide +kernel
theorem dX5_meetsAnother_5 : decode cX5_meetsAnother 5 = .ok (.aload_n 1, 1) := by decide +kernel
theorem dX5_meetsAnother_6 : decode cX5_meetsAnother 6 = .ok (.getfield 50, 3) := by decide +kernel
theorem dX5_meetsAnother_9 : decode cX5_meetsAnother 9 = .ok (.if_icmp .ge 41, 3) := by decide +kernel
theorem dX5_meetsAnother_12 : decode cX5_meetsAnother 12 = .ok (.aload_n 0, 1) := by decide +kernel
theorem dX5_meetsAnother_13 : decode cX5_meetsAnother 13 = .ok (.getfield 22, 3) := by decide +kernel
theorem dX5_meetsAnother_16 : decode cX5_meetsAnother 16 = .ok (.iload_n 3, 1) := by decide +kernel
theorem dX5_meetsAnother_17 : decode cX5_meetsAnother 17 = .ok (.iaload, 1) := by decide +kernel
theorem dX5_meetsAnother_18 : decode cX5_meetsAnother 18 = .ok (.iload 4, 2) := by decide +kernel
theorem dX5_meetsAnother_20 : decode cX5_meetsAnother 20 = .ok (.invokestatic 39, 3) := by decide +kernel
theorem dX5_meetsAnother_23 : decode cX5_meetsAnother 23 = .ok (.ifCond .eq 21, 3) := by decide +kernel
theorem dX5_meetsAnother_26 : decode cX5_meetsAnother 26 = .ok (.aload_n 1, 1) := by decide +kernel
theorem dX5_meetsAnother_27 : decode cX5_meetsAnother 27 = .ok (.getfield 53, 3) := by decide +kernel
theorem dX5_meetsAnother_30 : decode cX5_meetsAnother 30 = .ok (.iload 4, 2) := by decide +kernel
theorem dX5_meetsAnother_32 : decode cX5_meetsAnother 32 = .ok (.iaload, 1) := by decide +kernel
theorem dX5_meetsAnother_33 : decode cX5_meetsAnother 33 = .ok (.aload_n 1, 1) := by decide +kernel
theorem dX5_meetsAnother_34 : decode cX5_meetsAnother 34 = .ok (.getfield 53, 3) := by decide +kernel
theorem dX5_meetsAnother_37 : decode cX5_meetsAnother 37 = .ok (.iload_n 2, 1) := by decide +kernel
theorem dX5_meetsAnother_38 : decode cX5_meetsAnother 38 = .ok (.iaload, 1) := by decide +kernel
theorem dX5_meetsAnother_39 : decode cX5_meetsAnother 39 = .ok (.if_icmp .eq 5, 3) := by decide +kernel
theorem dX5_meetsAnother_42 : decode cX5_meetsAnother 42 = .ok (.iconst 1, 1) := by decide +kernel
theorem dX5_meetsAnother_43 : decode cX5_meetsAnother 43 = .ok (.ireturn, 1) := by decide +kernel
theorem dX5_meetsAnother_44 : decode cX5_meetsAnother 44 = .ok (.iinc 4 1, 3) := by decide +kernel
theorem dX5_meetsAnother_47 : decode cX5_meetsAnother 47 = .ok (.goto (-44), 3) := by decide +kernel
theorem dX5_meetsAnother_50 : decode cX5_meetsAnother 50 = .ok (.iconst 0, 1) := by decide +kernel
theorem dX5_meetsAnother_51 : decode cX5_meetsAnother 51 = .ok (.ireturn, 1) := by decide +kernel
theorem dX5_post_0 : decode cX5_post 0 = .ok (.aload_n 0, 1) := by decide +kernel
theorem dX5_post_1 : decode cX5_post 1 = .ok (.getfield 9, 3) := by decide +kernel
theorem dX5_post_4 : decode cX5_post 4 = .ok (.aload_n 1, 1) := by decide +kernel
theorem dX5_post_5 : decode cX5_post 5 = .ok (.getfield 43, 3) := by decide +kernel
theorem dX5_post_8 : decode cX5_post 8 = .ok (.iload_n 2, 1) := by decide +kernel
theorem dX5_post_9 : decode cX5_post 9 = .ok (.iaload, 1) := by decide +kernel
theorem dX5_post_10 : decode cX5_post 10 = .ok (.iadd, 1) := by decide +kernel
theorem dX5_post_11 : decode cX5_post 11 = .ok (.aload_n 0, 1) := by decide +kernel
theorem dX5_post_12 : decode cX5_post 12 = .ok (.aload_n 1, 1) := by decide +kernel
theorem dX5_post_13 : decode cX5_post 13 = .ok (.iload_n 2, 1) := by decide +kernel
theorem dX5_post_14 : decode cX5_post 14 = .ok (.iload_n 3, 1) := by decide +kernel
theorem dX5_post_15 : decode cX5_post 15 = .ok (.invokevirtual 46, 3) := by decide +kernel
theorem dX5_post_18 : decode cX5_post 18 = .ok (.ifCond .eq 7, 3) := by decide +kernel
theorem dX5_post_21 : decode cX5_post 21 = .ok (.iconst 1, 1) := by decide +kernel
theorem dX5_post_22 : decode cX5_post 22 = .ok (.goto 4, 3) := by decide +kernel
theorem dX5_post_25 : decode cX5_post 25 = .ok (.iconst 0, 1) := by decide +kernel
theorem dX5_post_26 : decode cX5_post 26 = .ok (.iadd, 1) := by decide +kernel
theorem dX5_post_27 : decode cX5_post 27 = .ok (.istore 4, 2) := by decide +kernel
theorem dX5_post_29 : decode cX5_post 29 = .ok (.aload_n 0, 1) := by decide +kernel
theorem dX5_post_30 : decode cX5_post 30 = .ok (.getfield 22, 3) := by decide +kernel
theorem dX5_post_33 : decode cX5_post 33 = .ok (.iload_n 3, 1) := by decide +kernel
theorem dX5_post_34 : decode cX5_post 34 = .ok (.dup2, 1) := by decide +kernel
theorem dX5_post_35 : decode cX5_post 35 = .ok (.iaload, 1) := by decide +kernel
theorem dX5_post_36 : decode cX5_post 36 = .ok (.iconst 1, 1) := by decide +kernel
theorem dX5_post_37 : decode cX5_post 37 = .ok (.iload_n 2, 1) := by decide +kernel
theorem dX5_post_38 : decode cX5_post 38 = .ok (.ishl, 1) := by decide +kernel
theorem dX5_post_39 : decode cX5_post 39 = .ok (.ior, 1) := by decide +kernel
theorem dX5_post_40 : decode cX5_post 40 = .ok (.iastore, 1) := by decide +kernel
theorem dX5_post_41 : decode cX5_post 41 = .ok (.aload_n 0, 1) := by decide +kernel
theorem dX5_post_42 : decode cX5_post 42 = .ok (.getfield 25, 3) := by decide +kernel
theorem dX5_post_45 : decode cX5_post 45 = .ok (.iload_n 3, 1) := by decide +kernel
theorem dX5_post_46 : decode cX5_post 46 = .ok (.bipush 8, 2) := by decide +kernel
theorem dX5_post_48 : decode cX5_post 48 = .ok (.imul, 1) := by decide +kernel
theorem dX5_post_49 : decode cX5_post 49 = .ok (.iload_n 2, 1) := by decide +kernel
theorem dX5_post_50 : decode cX5_post 50 = .ok (.iadd, 1) := by decide +kernel
theorem dX5_post_51 : decode cX5_post 51 = .ok (.iload 4, 2) := by decide +kernel
theorem dX5_post_53 : decode cX5_post 53 = .ok (.iastore, 1) := by decide +kernel
theorem dX5_post_54 : decode cX5_post 54 = .ok (.iload 4, 2) := by decide +kernel
theorem dX5_post_56 : decode cX5_post 56 = .ok (.ireturn, 1) := by decide +kernel
theorem dX5_drop_0 : decode cX5_drop 0 = .ok (.aload_n 0, 1) := by decide +kernel
theorem dX5_drop_1 : decode cX5_drop 1 = .ok (.getfield 18, 3) := by decide +kernel
theorem dX5_drop_4 : decode cX5_drop 4 = .ok (.iload_n 2, 1) := by decide +kernel
theorem dX5_drop_5 : decode cX5_drop 5 = .ok (.dup2, 1) := by decide +kernel
theorem dX5_drop_6 : decode cX5_drop 6 = .ok (.iaload, 1) := by decide +kernel
theorem dX5_drop_7 : decode cX5_drop 7 = .ok (.iconst 1, 1) := by decide +kernel
theorem dX5_drop_8 : decode cX5_drop 8 = .ok (.iload_n 1, 1) := by decide +kernel
theorem dX5_drop_9 : decode cX5_drop 9 = .ok (.ishl, 1) := by decide +kernel
theorem dX5_drop_10 : decode cX5_drop 10 = .ok (.iconst (-1), 1) := by decide +kernel
theorem dX5_drop_11 : decode cX5_drop 11 = .ok (.ixor, 1) := by decide +kernel
theorem dX5_drop_12 : decode cX5_drop 12 = .ok (.iand, 1) := by decide +kernel
theorem dX5_drop_13 : decode cX5_drop 13 = .ok (.iastore, 1) := by decide +kernel
theorem dX5_drop_14 : decode cX5_drop 14 = .ok (.aload_n 0, 1) := by decide +kernel
theorem dX5_drop_15 : decode cX5_drop 15 = .ok (.getfield 22, 3) := by decide +kernel
theorem dX5_drop_18 : decode cX5_drop 18 = .ok (.iload_n 2, 1) := by decide +kernel
theorem dX5_drop_19 : decode cX5_drop 19 = .ok (.dup2, 1) := by decide +kernel
theorem dX5_drop_20 : decode cX5_drop 20 = .ok (.iaload, 1) := by decide +kernel
theorem dX5_drop_21 : decode cX5_drop 21 = .ok (.iconst 1, 1) := by decide +kernel
theorem dX5_drop_22 : decode cX5_drop 22 = .ok (.iload_n 1, 1) := by decide +kernel
theorem dX5_drop_23 : decode cX5_drop 23 = .ok (.ishl, 1) := by decide +kernel
theorem dX5_drop_24 : decode cX5_drop 24 = .ok (.iconst (-1), 1) := by decide +kernel
theorem dX5_drop_25 : decode cX5_drop 25 = .ok (.ixor, 1) := by decide +kernel
theorem dX5_drop_26 : decode cX5_drop 26 = .ok (.iand, 1) := by decide +kernel
theorem dX5_drop_27 : decode cX5_drop 27 = .ok (.iastore, 1) := by decide +kernel
theorem dX5_drop_28 : decode cX5_drop 28 = .ok (.return_, 1) := by decide +kernel
theorem dX5_cameBy_0 : decode cX5_cameBy 0 = .ok (.aload_n 0, 1) := by decide +kernel
theorem dX5_cameBy_1 : decode cX5_cameBy 1 = .ok (.getfield 18, 3) := by decide +kernel
theorem dX5_cameBy_4 : decode cX5_cameBy 4 = .ok (.iload_n 1, 1) := by decide +kernel
theorem dX5_cameBy_5 : decode cX5_cameBy 5 = .ok (.iaload, 1) := by decide +kernel
theorem dX5_cameBy_6 : decode cX5_cameBy 6 = .ok (.istore_n 3, 1) := by decide +kernel
theorem dX5_cameBy_7 : decode cX5_cameBy 7 = .ok (.aload_n 0, 1) := by decide +kernel
theorem dX5_cameBy_8 : decode cX5_cameBy 8 = .ok (.getfield 22, 3) := by decide +kernel
theorem dX5_cameBy_11 : decode cX5_cameBy 11 = .ok (.iload_n 1, 1) := by decide +kernel
theorem dX5_cameBy_12 : decode cX5_cameBy 12 = .ok (.iaload, 1) := by decide +kernel
theorem dX5_cameBy_13 : decode cX5_cameBy 13 = .ok (.ifCond .ne 5, 3) := by decide +kernel
theorem dX5_cameBy_16 : decode cX5_cameBy 16 = .ok (.iload_n 3, 1) := by decide +kernel
theorem dX5_cameBy_17 : decode cX5_cameBy 17 = .ok (.ireturn, 1) := by decide +kernel
theorem dX5_cameBy_18 : decode cX5_cameBy 18 = .ok (.iconst 0, 1) := by decide +kernel
theorem dX5_cameBy_19 : decode cX5_cameBy 19 = .ok (.istore 4, 2) := by decide +kernel
theorem dX5_cameBy_21 : decode cX5_cameBy 21 = .ok (.iload 4, 2) := by decide +kernel
theorem dX5_cameBy_23 : decode cX5_cameBy 23 = .ok (.bipush 8, 2) := by decide +kernel
theorem dX5_cameBy_25 : decode cX5_cameBy 25 = .ok (.if_icmp .ge 46, 3) := by decide +kernel
theorem dX5_cameBy_28 : decode cX5_cameBy 28 = .ok (.aload_n 0, 1) := by decide +kernel
theorem dX5_cameBy_29 : decode cX5_cameBy 29 = .ok (.getfield 22, 3) := by decide +kernel
theorem dX5_cameBy_32 : decode cX5_cameBy 32 = .ok (.iload_n 1, 1) := by decide +kernel
theorem dX5_cameBy_33 : decode cX5_cameBy 33 = .ok (.iaload, 1) := by decide +kernel
theorem dX5_cameBy_34 : decode cX5_cameBy 34 = .ok (.iload 4, 2) := by decide +kernel
theorem dX5_cameBy_36 : decode cX5_cameBy 36 = .ok (.invokestatic 39, 3) := by decide +kernel
theorem dX5_cameBy_39 : decode cX5_cameBy 39 = .ok (.ifCond .eq 26, 3) := by decide +kernel
theorem dX5_cameBy_42 : decode cX5_cameBy 42 = .ok (.aload_n 0, 1) := by decide +kernel
theorem dX5_cameBy_43 : decode cX5_cameBy 43 = .ok (.getfield 25, 3) := by decide +kernel
theorem dX5_cameBy_46 : decode cX5_cameBy 46 = .ok (.iload_n 1, 1) := by decide +kernel
theorem dX5_cameBy_47 : decode cX5_cameBy 47 = .ok (.bipush 8, 2) := by decide +kernel
theorem dX5_cameBy_49 : decode cX5_cameBy 49 = .ok (.imul, 1) := by decide +kernel
theorem dX5_cameBy_50 : decode cX5_cameBy 50 = .ok (.iload 4, 2) := by decide +kernel
theorem dX5_cameBy_52 : decode cX5_cameBy 52 = .ok (.iadd, 1) := by decide +kernel
theorem dX5_cameBy_53 : decode cX5_cameBy 53 = .ok (.iaload, 1) := by decide +kernel
theorem dX5_cameBy_54 : decode cX5_cameBy 54 = .ok (.iload_n 2, 1) := by decide +kernel
theorem dX5_cameBy_55 : decode cX5_cameBy 55 = .ok (.if_icmp .gt 10, 3) := by decide +kernel
theorem dX5_cameBy_58 : decode cX5_cameBy 58 = .ok (.iload_n 3, 1) := by decide +kernel
theorem dX5_cameBy_59 : decode cX5_cameBy 59 = .ok (.iconst 1, 1) := by decide +kernel
theorem dX5_cameBy_60 : decode cX5_cameBy 60 = .ok (.iload 4, 2) := by decide +kernel
theorem dX5_cameBy_62 : decode cX5_cameBy 62 = .ok (.ishl, 1) := by decide +kernel
theorem dX5_cameBy_63 : decode cX5_cameBy 63 = .ok (.ior, 1) := by decide +kernel
theorem dX5_cameBy_64 : decode cX5_cameBy 64 = .ok (.istore_n 3, 1) := by decide +kernel
theorem dX5_cameBy_65 : decode cX5_cameBy 65 = .ok (.iinc 4 1, 3) := by decide +kernel
theorem dX5_cameBy_68 : decode cX5_cameBy 68 = .ok (.goto (-47), 3) := by decide +kernel
theorem dX5_cameBy_71 : decode cX5_cameBy 71 = .ok (.iload_n 3, 1) := by decide +kernel
theorem dX5_cameBy_72 : decode cX5_cameBy 72 = .ok (.ireturn, 1) := by decide +kernel
theorem dX5_pass_0 : decode cX5_pass 0 = .ok (.aload_n 0, 1) := by decide +kernel
theorem dX5_pass_1 : decode cX5_pass 1 = .ok (.dup, 1) := by decide +kernel
theorem dX5_pass_2 : decode cX5_pass 2 = .ok (.getfield 9, 3) := by decide +kernel
theorem dX5_pass_5 : decode cX5_pass 5 = .ok (.iconst 1, 1) := by decide +kernel
theorem dX5_pass_6 : decode cX5_pass 6 = .ok (.iadd, 1) := by decide +kernel
theorem dX5_pass_7 : decode cX5_pass 7 = .ok (.putfield 9, 3) := by decide +kernel
theorem dX5_pass_10 : decode cX5_pass 10 = .ok (.iconst 0, 1) := by decide +kernel
theorem dX5_pass_11 : decode cX5_pass 11 = .ok (.istore_n 1, 1) := by decide +kernel
theorem dX5_pass_12 : decode cX5_pass 12 = .ok (.iconst 0, 1) := by decide +kernel
theorem dX5_pass_13 : decode cX5_pass 13 = .ok (.istore_n 2, 1) := by decide +kernel
theorem dX5_pass_14 : decode cX5_pass 14 = .ok (.iload_n 2, 1) := by decide +kernel
theorem dX5_pass_15 : decode cX5_pass 15 = .ok (.bipush 8, 2) := by decide +kernel
theorem dX5_pass_17 : decode cX5_pass 17 = .ok (.if_icmp .ge 54, 3) := by decide +kernel
theorem dX5_pass_20 : decode cX5_pass 20 = .ok (.aload_n 0, 1) := by decide +kernel
theorem dX5_pass_21 : decode cX5_pass 21 = .ok (.iload_n 2, 1) := by decide +kernel
theorem dX5_pass_22 : decode cX5_pass 22 = .ok (.aload_n 0, 1) := by decide +kernel
theorem dX5_pass_23 : decode cX5_pass 23 = .ok (.getfield 9, 3) := by decide +kernel
theorem dX5_pass_26 : decode cX5_pass 26 = .ok (.invokevirtual 56, 3) := by decide +kernel
theorem dX5_pass_29 : decode cX5_pass 29 = .ok (.istore_n 3, 1) := by decide +kernel
theorem dX5_pass_30 : decode cX5_pass 30 = .ok (.iload_n 1, 1) := by decide +kernel
theorem dX5_pass_31 : decode cX5_pass 31 = .ok (.iload_n 3, 1) := by decide +kernel
theorem dX5_pass_32 : decode cX5_pass 32 = .ok (.aload_n 0, 1) := by decide +kernel
theorem dX5_pass_33 : decode cX5_pass 33 = .ok (.getfield 18, 3) := by decide +kernel
theorem dX5_pass_36 : decode cX5_pass 36 = .ok (.iload_n 2, 1) := by decide +kernel
theorem dX5_pass_37 : decode cX5_pass 37 = .ok (.iaload, 1) := by decide +kernel
theorem dX5_pass_38 : decode cX5_pass 38 = .ok (.iconst (-1), 1) := by decide +kernel
theorem dX5_pass_39 : decode cX5_pass 39 = .ok (.ixor, 1) := by decide +kernel
theorem dX5_pass_40 : decode cX5_pass 40 = .ok (.iand, 1) := by decide +kernel
theorem dX5_pass_41 : decode cX5_pass 41 = .ok (.invokestatic 60, 3) := by decide +kernel
theorem dX5_pass_44 : decode cX5_pass 44 = .ok (.iadd, 1) := by decide +kernel
theorem dX5_pass_45 : decode cX5_pass 45 = .ok (.istore_n 1, 1) := by decide +kernel
theorem dX5_pass_46 : decode cX5_pass 46 = .ok (.aload_n 0, 1) := by decide +kernel
theorem dX5_pass_47 : decode cX5_pass 47 = .ok (.getfield 18, 3) := by decide +kernel
theorem dX5_pass_50 : decode cX5_pass 50 = .ok (.iload_n 2, 1) := by decide +kernel
theorem dX5_pass_51 : decode cX5_pass 51 = .ok (.iload_n 3, 1) := by decide +kernel
theorem dX5_pass_52 : decode cX5_pass 52 = .ok (.iastore, 1) := by decide +kernel
theorem dX5_pass_53 : decode cX5_pass 53 = .ok (.aload_n 0, 1) := by decide +kernel
theorem dX5_pass_54 : decode cX5_pass 54 = .ok (.getfield 22, 3) := by decide +kernel
theorem dX5_pass_57 : decode cX5_pass 57 = .ok (.iload_n 2, 1) := by decide +kernel
theorem dX5_pass_58 : decode cX5_pass 58 = .ok (.dup2, 1) := by decide +kernel
theorem dX5_pass_59 : decode cX5_pass 59 = .ok (.iaload, 1) := by decide +kernel
theorem dX5_pass_60 : decode cX5_pass 60 = .ok (.iload_n 3, 1) := by decide +kernel
theorem dX5_pass_61 : decode cX5_pass 61 = .ok (.iconst (-1), 1) := by decide +kernel
theorem dX5_pass_62 : decode cX5_pass 62 = .ok (.ixor, 1) := by decide +kernel
theorem dX5_pass_63 : decode cX5_pass 63 = .ok (.iand, 1) := by decide +kernel
theorem dX5_pass_64 : decode cX5_pass 64 = .ok (.iastore, 1) := by decide +kernel
theorem dX5_pass_65 : decode cX5_pass 65 = .ok (.iinc 2 1, 3) := by decide +kernel
theorem dX5_pass_68 : decode cX5_pass 68 = .ok (.goto (-54), 3) := by decide +kernel
theorem dX5_pass_71 : decode cX5_pass 71 = .ok (.iload_n 1, 1) := by decide +kernel
theorem dX5_pass_72 : decode cX5_pass 72 = .ok (.ireturn, 1) := by decide +kernel
theorem dX7_together_0 : decode cX7_together 0 = .ok (.iload_n 0, 1) := by decide +kernel
theorem dX7_together_1 : decode cX7_together 1 = .ok (.ifCond .le 13, 3) := by decide +kernel
theorem dX7_together_4 : decode cX7_together 4 = .ok (.iload_n 1, 1) := by decide +kernel
theorem dX7_together_5 : decode cX7_together 5 = .ok (.ifCond .le 9, 3) := by decide +kernel
theorem dX7_together_8 : decode cX7_together 8 = .ok (.iload_n 0, 1) := by decide +kernel
theorem dX7_together_9 : decode cX7_together 9 = .ok (.iload_n 1, 1) := by decide +kernel
theorem dX7_together_10 : decode cX7_together 10 = .ok (.iadd, 1) := by decide +kernel
theorem dX7_together_11 : decode cX7_together 11 = .ok (.goto 4, 3) := by decide +kernel
theorem dX7_together_14 : decode cX7_together 14 = .ok (.iconst 0, 1) := by decide +kernel
theorem dX7_together_15 : decode cX7_together 15 = .ok (.ireturn, 1) := by decide +kernel
theorem dX7_bestOfTwo_0 : decode cX7_bestOfTwo 0 = .ok (.iconst 0, 1) := by decide +kernel
theorem dX7_bestOfTwo_1 : decode cX7_bestOfTwo 1 = .ok (.istore 5, 2) := by decide +kernel
theorem dX7_bestOfTwo_3 : decode cX7_bestOfTwo 3 = .ok (.iconst 0, 1) := by decide +kernel
theorem dX7_bestOfTwo_4 : decode cX7_bestOfTwo 4 = .ok (.istore 6, 2) := by decide +kernel
theorem dX7_bestOfTwo_6 : decode cX7_bestOfTwo 6 = .ok (.iconst 0, 1) := by decide +kernel
theorem dX7_bestOfTwo_7 : decode cX7_bestOfTwo 7 = .ok (.istore 7, 2) := by decide +kernel
theorem dX7_bestOfTwo_9 : decode cX7_bestOfTwo 9 = .ok (.iconst 0, 1) := by decide +kernel
theorem dX7_bestOfTwo_10 : decode cX7_bestOfTwo 10 = .ok (.istore 8, 2) := by decide +kernel
theorem dX7_bestOfTwo_12 : decode cX7_bestOfTwo 12 = .ok (.iconst 0, 1) := by decide +kernel
theorem dX7_bestOfTwo_13 : decode cX7_bestOfTwo 13 = .ok (.istore 9, 2) := by decide +kernel
theorem dX7_bestOfTwo_15 : decode cX7_bestOfTwo 15 = .ok (.iload 9, 2) := by decide +kernel
theorem dX7_bestOfTwo_17 : decode cX7_bestOfTwo 17 = .ok (.aload_n 0, 1) := by decide +kernel
theorem dX7_bestOfTwo_18 : decode cX7_bestOfTwo 18 = .ok (.getfield 15, 3) := by decide +kernel
theorem dX7_bestOfTwo_21 : decode cX7_bestOfTwo 21 = .ok (.getfield 29, 3) := by decide +kernel
theorem dX7_bestOfTwo_24 : decode cX7_bestOfTwo 24 = .ok (.if_icmp .ge 129, 3) := by decide +kernel
theorem dX7_bestOfTwo_27 : decode cX7_bestOfTwo 27 = .ok (.iload_n 2, 1) := by decide +kernel
theorem dX7_bestOfTwo_28 : decode cX7_bestOfTwo 28 = .ok (.iload 9, 2) := by decide +kernel
theorem dX7_bestOfTwo_30 : decode cX7_bestOfTwo 30 = .ok (.invokestatic 33, 3) := by decide +kernel
theorem dX7_bestOfTwo_33 : decode cX7_bestOfTwo 33 = .ok (.ifCond .ne 6, 3) := by decide +kernel
theorem dX7_bestOfTwo_36 : decode cX7_bestOfTwo 36 = .ok (.goto 111, 3) := by decide +kernel
theorem dX7_bestOfTwo_39 : decode cX7_bestOfTwo 39 = .ok (.aload_n 0, 1) := by decide +kernel
theorem dX7_bestOfTwo_40 : decode cX7_bestOfTwo 40 = .ok (.getfield 15, 3) := by decide +kernel
theorem dX7_bestOfTwo_43 : decode cX7_bestOfTwo 43 = .ok (.iload 9, 2) := by decide +kernel
theorem dX7_bestOfTwo_45 : decode cX7_bestOfTwo 45 = .ok (.iload 9, 2) := by decide +kernel
theorem dX7_bestOfTwo_47 : decode cX7_bestOfTwo 47 = .ok (.iload_n 3, 1) := by decide +kernel
theorem dX7_bestOfTwo_48 : decode cX7_bestOfTwo 48 = .ok (.if_icmp .ne 8, 3) := by decide +kernel
theorem dX7_bestOfTwo_51 : decode cX7_bestOfTwo 51 = .ok (.iload 4, 2) := by decide +kernel
theorem dX7_bestOfTwo_53 : decode cX7_bestOfTwo 53 = .ok (.goto 13, 3) := by decide +kernel
theorem dX7_bestOfTwo_56 : decode cX7_bestOfTwo 56 = .ok (.aload_n 0, 1) := by decide +kernel
theorem dX7_bestOfTwo_57 : decode cX7_bestOfTwo 57 = .ok (.getfield 15, 3) := by decide +kernel
theorem dX7_bestOfTwo_60 : decode cX7_bestOfTwo 60 = .ok (.getfield 37, 3) := by decide +kernel
theorem dX7_bestOfTwo_63 : decode cX7_bestOfTwo 63 = .ok (.iload 9, 2) := by decide +kernel
theorem dX7_bestOfTwo_65 : decode cX7_bestOfTwo 65 = .ok (.iaload, 1) := by decide +kernel
theorem dX7_bestOfTwo_66 : decode cX7_bestOfTwo 66 = .ok (.iload_n 1, 1) := by decide +kernel
theorem dX7_bestOfTwo_67 : decode cX7_bestOfTwo 67 = .ok (.iload_n 2, 1) := by decide +kernel
theorem dX7_bestOfTwo_68 : decode cX7_bestOfTwo 68 = .ok (.invokevirtual 40, 3) := by decide +kernel
theorem dX7_bestOfTwo_71 : decode cX7_bestOfTwo 71 = .ok (.istore 10, 2) := by decide +kernel
theorem dX7_bestOfTwo_73 : decode cX7_bestOfTwo 73 = .ok (.aload_n 0, 1) := by decide +kernel
theorem dX7_bestOfTwo_74 : decode cX7_bestOfTwo 74 = .ok (.getfield 15, 3) := by decide +kernel
theorem dX7_bestOfTwo_77 : decode cX7_bestOfTwo 77 = .ok (.getfield 43, 3) := by decide +kernel
theorem dX7_bestOfTwo_80 : decode cX7_bestOfTwo 80 = .ok (.iload 9, 2) := by decide +kernel
theorem dX7_bestOfTwo_82 : decode cX7_bestOfTwo 82 = .ok (.iaload, 1) := by decide +kernel
theorem dX7_bestOfTwo_83 : decode cX7_bestOfTwo 83 = .ok (.iconst 3, 1) := by decide +kernel
theorem dX7_bestOfTwo_84 : decode cX7_bestOfTwo 84 = .ok (.if_icmp .ne 29, 3) := by decide +kernel
theorem dX7_bestOfTwo_87 : decode cX7_bestOfTwo 87 = .ok (.iload 8, 2) := by decide +kernel
theorem dX7_bestOfTwo_89 : decode cX7_bestOfTwo 89 = .ok (.iload 7, 2) := by decide +kernel
theorem dX7_bestOfTwo_91 : decode cX7_bestOfTwo 91 = .ok (.iload 10, 2) := by decide +kernel
theorem dX7_bestOfTwo_93 : decode cX7_bestOfTwo 93 = .ok (.invokestatic 46, 3) := by decide +kernel
theorem dX7_bestOfTwo_96 : decode cX7_bestOfTwo 96 = .ok (.invokestatic 52, 3) := by decide +kernel
theorem dX7_bestOfTwo_99 : decode cX7_bestOfTwo 99 = .ok (.istore 8, 2) := by decide +kernel
theorem dX7_bestOfTwo_101 : decode cX7_bestOfTwo 101 = .ok (.iload 7, 2) := by decide +kernel
theorem dX7_bestOfTwo_103 : decode cX7_bestOfTwo 103 = .ok (.iload 10, 2) := by decide +kernel
theorem dX7_bestOfTwo_105 : decode cX7_bestOfTwo 105 = .ok (.invokestatic 52, 3) := by decide +kernel
theorem dX7_bestOfTwo_108 : decode cX7_bestOfTwo 108 = .ok (.istore 7, 2) := by decide +kernel
theorem dX7_bestOfTwo_110 : decode cX7_bestOfTwo 110 = .ok (.goto 37, 3) := by decide +kernel
theorem dX7_bestOfTwo_113 : decode cX7_bestOfTwo 113 = .ok (.aload_n 0, 1) := by decide +kernel
theorem dX7_bestOfTwo_114 : decode cX7_bestOfTwo 114 = .ok (.getfield 15, 3) := by decide +kernel
theorem dX7_bestOfTwo_117 : decode cX7_bestOfTwo 117 = .ok (.getfield 55, 3) := by decide +kernel
theorem dX7_bestOfTwo_120 : decode cX7_bestOfTwo 120 = .ok (.iload 9, 2) := by decide +kernel
theorem dX7_bestOfTwo_122 : decode cX7_bestOfTwo 122 = .ok (.iaload, 1) := by decide +kernel
theorem dX7_bestOfTwo_123 : decode cX7_bestOfTwo 123 = .ok (.ifCond .ne 15, 3) := by decide +kernel
theorem dX7_bestOfTwo_126 : decode cX7_bestOfTwo 126 = .ok (.iload 5, 2) := by decide +kernel
theorem dX7_bestOfTwo_128 : decode cX7_bestOfTwo 128 = .ok (.iload 10, 2) := by decide +kernel
theorem dX7_bestOfTwo_130 : decode cX7_bestOfTwo 130 = .ok (.invokestatic 52, 3) := by decide +kernel
theorem dX7_bestOfTwo_133 : decode cX7_bestOfTwo 133 = .ok (.istore 5, 2) := by decide +kernel
theorem dX7_bestOfTwo_135 : decode cX7_bestOfTwo 135 = .ok (.goto 12, 3) := by decide +kernel
theorem dX7_bestOfTwo_138 : decode cX7_bestOfTwo 138 = .ok (.iload 6, 2) := by decide +kernel
theorem dX7_bestOfTwo_140 : decode cX7_bestOfTwo 140 = .ok (.iload 10, 2) := by decide +kernel
theorem dX7_bestOfTwo_142 : decode cX7_bestOfTwo 142 = .ok (.invokestatic 52, 3) := by decide +kernel
theorem dX7_bestOfTwo_145 : decode cX7_bestOfTwo 145 = .ok (.istore 6, 2) := by decide +kernel
theorem dX7_bestOfTwo_147 : decode cX7_bestOfTwo 147 = .ok (.iinc 9 1, 3) := by decide +kernel
theorem dX7_bestOfTwo_150 : decode cX7_bestOfTwo 150 = .ok (.goto (-135), 3) := by decide +kernel
theorem dX7_bestOfTwo_153 : decode cX7_bestOfTwo 153 = .ok (.iload 5, 2) := by decide +kernel
theorem dX7_bestOfTwo_155 : decode cX7_bestOfTwo 155 = .ok (.iload 6, 2) := by decide +kernel
theorem dX7_bestOfTwo_157 : decode cX7_bestOfTwo 157 = .ok (.invokestatic 58, 3) := by decide +kernel
theorem dX7_bestOfTwo_160 : decode cX7_bestOfTwo 160 = .ok (.iload 7, 2) := by decide +kernel
theorem dX7_bestOfTwo_162 : decode cX7_bestOfTwo 162 = .ok (.iload 8, 2) := by decide +kernel
theorem dX7_bestOfTwo_164 : decode cX7_bestOfTwo 164 = .ok (.invokestatic 58, 3) := by decide +kernel
theorem dX7_bestOfTwo_167 : decode cX7_bestOfTwo 167 = .ok (.invokestatic 52, 3) := by decide +kernel
theorem dX7_bestOfTwo_170 : decode cX7_bestOfTwo 170 = .ok (.istore 9, 2) := by decide +kernel
theorem dX7_bestOfTwo_172 : decode cX7_bestOfTwo 172 = .ok (.iload 9, 2) := by decide +kernel
theorem dX7_bestOfTwo_174 : decode cX7_bestOfTwo 174 = .ok (.iload 7, 2) := by decide +kernel
theorem dX7_bestOfTwo_176 : decode cX7_bestOfTwo 176 = .ok (.iload 5, 2) := by decide +kernel
theorem dX7_bestOfTwo_178 : decode cX7_bestOfTwo 178 = .ok (.iload 6, 2) := by decide +kernel
theorem dX7_bestOfTwo_180 : decode cX7_bestOfTwo 180 = .ok (.invokestatic 52, 3) := by decide +kernel
theorem dX7_bestOfTwo_183 : decode cX7_bestOfTwo 183 = .ok (.invokestatic 58, 3) := by decide +kernel
theorem dX7_bestOfTwo_186 : decode cX7_bestOfTwo 186 = .ok (.invokestatic 52, 3) := by decide +kernel
theorem dX7_bestOfTwo_189 : decode cX7_bestOfTwo 189 = .ok (.ireturn, 1) := by decide +kernel
theorem dX7_reckonAll_0 : decode cX7_reckonAll 0 = .ok (.iconst 0, 1) := by decide +kernel
theorem dX7_reckonAll_1 : decode cX7_reckonAll 1 = .ok (.istore_n 1, 1) := by decide +kernel
theorem dX7_reckonAll_2 : decode cX7_reckonAll 2 = .ok (.iload_n 1, 1) := by decide +kernel
theorem dX7_reckonAll_3 : decode cX7_reckonAll 3 = .ok (.aload_n 0, 1) := by decide +kernel
theorem dX7_reckonAll_4 : decode cX7_reckonAll 4 = .ok (.getfield 15, 3) := by decide +kernel
theorem dX7_reckonAll_7 : decode cX7_reckonAll 7 = .ok (.invokevirtual 19, 3) := by decide +kernel
theorem dX7_reckonAll_10 : decode cX7_reckonAll 10 = .ok (.if_icmp .gt 41, 3) := by decide +kernel
theorem dX7_reckonAll_13 : decode cX7_reckonAll 13 = .ok (.aload_n 0, 1) := by decide +kernel
theorem dX7_reckonAll_14 : decode cX7_reckonAll 14 = .ok (.getfield 11, 3) := by decide +kernel
theorem dX7_reckonAll_17 : decode cX7_reckonAll 17 = .ok (.iload_n 1, 1) := by decide +kernel
theorem dX7_reckonAll_18 : decode cX7_reckonAll 18 = .ok (.aload_n 0, 1) := by decide +kernel
theorem dX7_reckonAll_19 : decode cX7_reckonAll 19 = .ok (.iconst 0, 1) := by decide +kernel
theorem dX7_reckonAll_20 : decode cX7_reckonAll 20 = .ok (.iload_n 1, 1) := by decide +kernel
theorem dX7_reckonAll_21 : decode cX7_reckonAll 21 = .ok (.iconst (-1), 1) := by decide +kernel
theorem dX7_reckonAll_22 : decode cX7_reckonAll 22 = .ok (.iconst 0, 1) := by decide +kernel
theorem dX7_reckonAll_23 : decode cX7_reckonAll 23 = .ok (.invokevirtual 25, 3) := by decide +kernel
theorem dX7_reckonAll_26 : decode cX7_reckonAll 26 = .ok (.iastore, 1) := by decide +kernel
theorem dX7_reckonAll_27 : decode cX7_reckonAll 27 = .ok (.aload_n 0, 1) := by decide +kernel
theorem dX7_reckonAll_28 : decode cX7_reckonAll 28 = .ok (.getfield 11, 3) := by decide +kernel
theorem dX7_reckonAll_31 : decode cX7_reckonAll 31 = .ok (.sipush 256, 3) := by decide +kernel
theorem dX7_reckonAll_34 : decode cX7_reckonAll 34 = .ok (.iload_n 1, 1) := by decide +kernel
theorem dX7_reckonAll_35 : decode cX7_reckonAll 35 = .ok (.iadd, 1) := by decide +kernel
theorem dX7_reckonAll_36 : decode cX7_reckonAll 36 = .ok (.aload_n 0, 1) := by decide +kernel
theorem dX7_reckonAll_37 : decode cX7_reckonAll 37 = .ok (.iconst 1, 1) := by decide +kernel
theorem dX7_reckonAll_38 : decode cX7_reckonAll 38 = .ok (.iload_n 1, 1) := by decide +kernel
theorem dX7_reckonAll_39 : decode cX7_reckonAll 39 = .ok (.iconst (-1), 1) := by decide +kernel
theorem dX7_reckonAll_40 : decode cX7_reckonAll 40 = .ok (.iconst 0, 1) := by decide +kernel
theorem dX7_reckonAll_41 : decode cX7_reckonAll 41 = .ok (.invokevirtual 25, 3) := by decide +kernel
theorem dX7_reckonAll_44 : decode cX7_reckonAll 44 = .ok (.iastore, 1) := by decide +kernel
theorem dX7_reckonAll_45 : decode cX7_reckonAll 45 = .ok (.iinc 1 1, 3) := by decide +kernel
theorem dX7_reckonAll_48 : decode cX7_reckonAll 48 = .ok (.goto (-46), 3) := by decide +kernel
theorem dX7_reckonAll_51 : decode cX7_reckonAll 51 = .ok (.return_, 1) := by decide +kernel
theorem dX7_of_0 : decode cX7_of 0 = .ok (.aload_n 0, 1) := by decide +kernel
theorem dX7_of_1 : decode cX7_of 1 = .ok (.getfield 11, 3) := by decide +kernel
theorem dX7_of_4 : decode cX7_of 4 = .ok (.iload_n 1, 1) := by decide +kernel
theorem dX7_of_5 : decode cX7_of 5 = .ok (.iconst 1, 1) := by decide +kernel
theorem dX7_of_6 : decode cX7_of 6 = .ok (.iand, 1) := by decide +kernel
theorem dX7_of_7 : decode cX7_of 7 = .ok (.sipush 256, 3) := by decide +kernel
theorem dX7_of_10 : decode cX7_of 10 = .ok (.imul, 1) := by decide +kernel
theorem dX7_of_11 : decode cX7_of 11 = .ok (.iload_n 2, 1) := by decide +kernel
theorem dX7_of_12 : decode cX7_of 12 = .ok (.sipush 255, 3) := by decide +kernel
theorem dX7_of_15 : decode cX7_of 15 = .ok (.iand, 1) := by decide +kernel
theorem dX7_of_16 : decode cX7_of 16 = .ok (.iadd, 1) := by decide +kernel
theorem dX7_of_17 : decode cX7_of 17 = .ok (.iaload, 1) := by decide +kernel
theorem dX7_of_18 : decode cX7_of 18 = .ok (.ireturn, 1) := by decide +kernel
theorem dX7_falling_0 : decode cX7_falling 0 = .ok (.iconst 0, 1) := by decide +kernel
theorem dX7_falling_1 : decode cX7_falling 1 = .ok (.istore_n 3, 1) := by decide +kernel
theorem dX7_falling_2 : decode cX7_falling 2 = .ok (.iconst 0, 1) := by decide +kernel
theorem dX7_falling_3 : decode cX7_falling 3 = .ok (.istore 4, 2) := by decide +kernel
theorem dX7_falling_5 : decode cX7_falling 5 = .ok (.iload 4, 2) := by decide +kernel
theorem dX7_falling_7 : decode cX7_falling 7 = .ok (.aload_n 0, 1) := by decide +kernel
theorem dX7_falling_8 : decode cX7_falling 8 = .ok (.getfield 15, 3) := by decide +kernel
theorem dX7_falling_11 : decode cX7_falling 11 = .ok (.getfield 69, 3) := by decide +kernel
theorem dX7_falling_14 : decode cX7_falling 14 = .ok (.if_icmp .ge 54, 3) := by decide +kernel
theorem dX7_falling_17 : decode cX7_falling 17 = .ok (.aload_n 0, 1) := by decide +kernel
theorem dX7_falling_18 : decode cX7_falling 18 = .ok (.iload 4, 2) := by decide +kernel
theorem dX7_falling_20 : decode cX7_falling 20 = .ok (.aload_n 1, 1) := by decide +kernel
theorem dX7_falling_21 : decode cX7_falling 21 = .ok (.getfield 61, 3) := by decide +kernel
theorem dX7_falling_24 : decode cX7_falling 24 = .ok (.iload 4, 2) := by decide +kernel
theorem dX7_falling_26 : decode cX7_falling 26 = .ok (.iaload, 1) := by decide +kernel
theorem dX7_falling_27 : decode cX7_falling 27 = .ok (.invokevirtual 66, 3) := by decide +kernel
theorem dX7_falling_30 : decode cX7_falling 30 = .ok (.ifCond .le 32, 3) := by decide +kernel
theorem dX7_falling_33 : decode cX7_falling 33 = .ok (.aload_n 0, 1) := by decide +kernel
theorem dX7_falling_34 : decode cX7_falling 34 = .ok (.iload 4, 2) := by decide +kernel
theorem dX7_falling_36 : decode cX7_falling 36 = .ok (.aload_n 1, 1) := by decide +kernel
theorem dX7_falling_37 : decode cX7_falling 37 = .ok (.getfield 61, 3) := by decide +kernel
theorem dX7_falling_40 : decode cX7_falling 40 = .ok (.iload 4, 2) := by decide +kernel
theorem dX7_falling_42 : decode cX7_falling 42 = .ok (.iaload, 1) := by decide +kernel
theorem dX7_falling_43 : decode cX7_falling 43 = .ok (.iconst 1, 1) := by decide +kernel
theorem dX7_falling_44 : decode cX7_falling 44 = .ok (.iload_n 2, 1) := by decide +kernel
theorem dX7_falling_45 : decode cX7_falling 45 = .ok (.ishl, 1) := by decide +kernel
theorem dX7_falling_46 : decode cX7_falling 46 = .ok (.iconst (-1), 1) := by decide +kernel
theorem dX7_falling_47 : decode cX7_falling 47 = .ok (.ixor, 1) := by decide +kernel
theorem dX7_falling_48 : decode cX7_falling 48 = .ok (.iand, 1) := by decide +kernel
theorem dX7_falling_49 : decode cX7_falling 49 = .ok (.invokevirtual 66, 3) := by decide +kernel
theorem dX7_falling_52 : decode cX7_falling 52 = .ok (.ifCond .ne 10, 3) := by decide +kernel
theorem dX7_falling_55 : decode cX7_falling 55 = .ok (.iload_n 3, 1) := by decide +kernel
theorem dX7_falling_56 : decode cX7_falling 56 = .ok (.iconst 1, 1) := by decide +kernel
theorem dX7_falling_57 : decode cX7_falling 57 = .ok (.iload 4, 2) := by decide +kernel
theorem dX7_falling_59 : decode cX7_falling 59 = .ok (.ishl, 1) := by decide +kernel
theorem dX7_falling_60 : decode cX7_falling 60 = .ok (.ior, 1) := by decide +kernel
theorem dX7_falling_61 : decode cX7_falling 61 = .ok (.istore_n 3, 1) := by decide +kernel
theorem dX7_falling_62 : decode cX7_falling 62 = .ok (.iinc 4 1, 3) := by decide +kernel
theorem dX7_falling_65 : decode cX7_falling 65 = .ok (.goto (-60), 3) := by decide +kernel
theorem dX7_falling_68 : decode cX7_falling 68 = .ok (.iload_n 3, 1) := by decide +kernel
theorem dX7_falling_69 : decode cX7_falling 69 = .ok (.ireturn, 1) := by decide +kernel
theorem dX7_bridge_0 : decode cX7_bridge 0 = .ok (.aload_n 0, 1) := by decide +kernel
theorem dX7_bridge_1 : decode cX7_bridge 1 = .ok (.iconst 0, 1) := by decide +kernel
theorem dX7_bridge_2 : decode cX7_bridge 2 = .ok (.aload_n 1, 1) := by decide +kernel
theorem dX7_bridge_3 : decode cX7_bridge 3 = .ok (.getfield 61, 3) := by decide +kernel
theorem dX7_bridge_6 : decode cX7_bridge 6 = .ok (.iconst 0, 1) := by decide +kernel
theorem dX7_bridge_7 : decode cX7_bridge 7 = .ok (.iaload, 1) := by decide +kernel
theorem dX7_bridge_8 : decode cX7_bridge 8 = .ok (.iload_n 2, 1) := by decide +kernel
theorem dX7_bridge_9 : decode cX7_bridge 9 = .ok (.iconst (-1), 1) := by decide +kernel
theorem dX7_bridge_10 : decode cX7_bridge 10 = .ok (.ixor, 1) := by decide +kernel
theorem dX7_bridge_11 : decode cX7_bridge 11 = .ok (.iand, 1) := by decide +kernel
theorem dX7_bridge_12 : decode cX7_bridge 12 = .ok (.invokevirtual 66, 3) := by decide +kernel
theorem dX7_bridge_15 : decode cX7_bridge 15 = .ok (.istore_n 3, 1) := by decide +kernel
theorem dX7_bridge_16 : decode cX7_bridge 16 = .ok (.iconst 1, 1) := by decide +kernel
theorem dX7_bridge_17 : decode cX7_bridge 17 = .ok (.istore 4, 2) := by decide +kernel
theorem dX7_bridge_19 : decode cX7_bridge 19 = .ok (.iload 4, 2) := by decide +kernel
theorem dX7_bridge_21 : decode cX7_bridge 21 = .ok (.aload_n 0, 1) := by decide +kernel
theorem dX7_bridge_22 : decode cX7_bridge 22 = .ok (.getfield 15, 3) := by decide +kernel
theorem dX7_bridge_25 : decode cX7_bridge 25 = .ok (.getfield 69, 3) := by decide +kernel
theorem dX7_bridge_28 : decode cX7_bridge 28 = .ok (.if_icmp .ge 35, 3) := by decide +kernel
theorem dX7_bridge_31 : decode cX7_bridge 31 = .ok (.iload_n 3, 1) := by decide +kernel
theorem dX7_bridge_32 : decode cX7_bridge 32 = .ok (.ifCond .le 31, 3) := by decide +kernel
theorem dX7_bridge_35 : decode cX7_bridge 35 = .ok (.iload_n 3, 1) := by decide +kernel
theorem dX7_bridge_36 : decode cX7_bridge 36 = .ok (.aload_n 0, 1) := by decide +kernel
theorem dX7_bridge_37 : decode cX7_bridge 37 = .ok (.iload 4, 2) := by decide +kernel
theorem dX7_bridge_39 : decode cX7_bridge 39 = .ok (.aload_n 1, 1) := by decide +kernel
theorem dX7_bridge_40 : decode cX7_bridge 40 = .ok (.getfield 61, 3) := by decide +kernel
theorem dX7_bridge_43 : decode cX7_bridge 43 = .ok (.iload 4, 2) := by decide +kernel
theorem dX7_bridge_45 : decode cX7_bridge 45 = .ok (.iaload, 1) := by decide +kernel
theorem dX7_bridge_46 : decode cX7_bridge 46 = .ok (.iload_n 2, 1) := by decide +kernel
theorem dX7_bridge_47 : decode cX7_bridge 47 = .ok (.iconst (-1), 1) := by decide +kernel
theorem dX7_bridge_48 : decode cX7_bridge 48 = .ok (.ixor, 1) := by decide +kernel
theorem dX7_bridge_49 : decode cX7_bridge 49 = .ok (.iand, 1) := by decide +kernel
theorem dX7_bridge_50 : decode cX7_bridge 50 = .ok (.invokevirtual 66, 3) := by decide +kernel
theorem dX7_bridge_53 : decode cX7_bridge 53 = .ok (.invokestatic 46, 3) := by decide +kernel
theorem dX7_bridge_56 : decode cX7_bridge 56 = .ok (.istore_n 3, 1) := by decide +kernel
theorem dX7_bridge_57 : decode cX7_bridge 57 = .ok (.iinc 4 1, 3) := by decide +kernel
theorem dX7_bridge_60 : decode cX7_bridge 60 = .ok (.goto (-41), 3) := by decide +kernel
theorem dX7_bridge_63 : decode cX7_bridge 63 = .ok (.iload_n 3, 1) := by decide +kernel
theorem dX7_bridge_64 : decode cX7_bridge 64 = .ok (.ireturn, 1) := by decide +kernel
theorem dX7_standing_0 : decode cX7_standing 0 = .ok (.iconst 0, 1) := by decide +kernel
theorem dX7_standing_1 : decode cX7_standing 1 = .ok (.istore 4, 2) := by decide +kernel
theorem dX7_standing_3 : decode cX7_standing 3 = .ok (.iconst 0, 1) := by decide +kernel
theorem dX7_standing_4 : decode cX7_standing 4 = .ok (.istore 5, 2) := by decide +kernel
theorem dX7_standing_6 : decode cX7_standing 6 = .ok (.iload 5, 2) := by decide +kernel
theorem dX7_standing_8 : decode cX7_standing 8 = .ok (.aload_n 0, 1) := by decide +kernel
theorem dX7_standing_9 : decode cX7_standing 9 = .ok (.getfield 15, 3) := by decide +kernel
theorem dX7_standing_12 : decode cX7_standing 12 = .ok (.getfield 29, 3) := by decide +kernel
theorem dX7_standing_15 : decode cX7_standing 15 = .ok (.if_icmp .ge 91, 3) := by decide +kernel
theorem dX7_standing_18 : decode cX7_standing 18 = .ok (.aload_n 0, 1) := by decide +kernel
theorem dX7_standing_19 : decode cX7_standing 19 = .ok (.getfield 15, 3) := by decide +kernel
theorem dX7_standing_22 : decode cX7_standing 22 = .ok (.getfield 55, 3) := by decide +kernel
theorem dX7_standing_25 : decode cX7_standing 25 = .ok (.iload 5, 2) := by decide +kernel
theorem dX7_standing_27 : decode cX7_standing 27 = .ok (.iaload, 1) := by decide +kernel
theorem dX7_standing_28 : decode cX7_standing 28 = .ok (.iload_n 3, 1) := by decide +kernel
theorem dX7_standing_29 : decode cX7_standing 29 = .ok (.if_icmp .eq 17, 3) := by decide +kernel
theorem dX7_standing_32 : decode cX7_standing 32 = .ok (.aload_n 0, 1) := by decide +kernel
theorem dX7_standing_33 : decode cX7_standing 33 = .ok (.getfield 15, 3) := by decide +kernel
theorem dX7_standing_36 : decode cX7_standing 36 = .ok (.getfield 43, 3) := by decide +kernel
theorem dX7_standing_39 : decode cX7_standing 39 = .ok (.iload 5, 2) := by decide +kernel
theorem dX7_standing_41 : decode cX7_standing 41 = .ok (.iaload, 1) := by decide +kernel
theorem dX7_standing_42 : decode cX7_standing 42 = .ok (.iconst 3, 1) := by decide +kernel
theorem dX7_standing_43 : decode cX7_standing 43 = .ok (.if_icmp .ne 7, 3) := by decide +kernel
theorem dX7_standing_46 : decode cX7_standing 46 = .ok (.iconst 1, 1) := by decide +kernel
theorem dX7_standing_47 : decode cX7_standing 47 = .ok (.goto 4, 3) := by decide +kernel
theorem dX7_standing_50 : decode cX7_standing 50 = .ok (.iconst 0, 1) := by decide +kernel
theorem dX7_standing_51 : decode cX7_standing 51 = .ok (.istore 6, 2) := by decide +kernel
theorem dX7_standing_53 : decode cX7_standing 53 = .ok (.iload_n 2, 1) := by decide +kernel
theorem dX7_standing_54 : decode cX7_standing 54 = .ok (.iload 5, 2) := by decide +kernel
theorem dX7_standing_56 : decode cX7_standing 56 = .ok (.invokestatic 33, 3) := by decide +kernel
theorem dX7_standing_59 : decode cX7_standing 59 = .ok (.ifCond .eq 41, 3) := by decide +kernel
theorem dX7_standing_62 : decode cX7_standing 62 = .ok (.iload 6, 2) := by decide +kernel
theorem dX7_standing_64 : decode cX7_standing 64 = .ok (.ifCond .eq 36, 3) := by decide +kernel
theorem dX7_standing_67 : decode cX7_standing 67 = .ok (.aload_n 0, 1) := by decide +kernel
theorem dX7_standing_68 : decode cX7_standing 68 = .ok (.getfield 15, 3) := by decide +kernel
theorem dX7_standing_71 : decode cX7_standing 71 = .ok (.iload 5, 2) := by decide +kernel
theorem dX7_standing_73 : decode cX7_standing 73 = .ok (.aload_n 0, 1) := by decide +kernel
theorem dX7_standing_74 : decode cX7_standing 74 = .ok (.getfield 15, 3) := by decide +kernel
theorem dX7_standing_77 : decode cX7_standing 77 = .ok (.getfield 37, 3) := by decide +kernel
theorem dX7_standing_80 : decode cX7_standing 80 = .ok (.iload 5, 2) := by decide +kernel
theorem dX7_standing_82 : decode cX7_standing 82 = .ok (.iaload, 1) := by decide +kernel
theorem dX7_standing_83 : decode cX7_standing 83 = .ok (.iload_n 1, 1) := by decide +kernel
theorem dX7_standing_84 : decode cX7_standing 84 = .ok (.iload_n 2, 1) := by decide +kernel
theorem dX7_standing_85 : decode cX7_standing 85 = .ok (.invokevirtual 40, 3) := by decide +kernel
theorem dX7_standing_88 : decode cX7_standing 88 = .ok (.ifCond .le 12, 3) := by decide +kernel
theorem dX7_standing_91 : decode cX7_standing 91 = .ok (.iload 4, 2) := by decide +kernel
theorem dX7_standing_93 : decode cX7_standing 93 = .ok (.iconst 1, 1) := by decide +kernel
theorem dX7_standing_94 : decode cX7_standing 94 = .ok (.iload 5, 2) := by decide +kernel
theorem dX7_standing_96 : decode cX7_standing 96 = .ok (.ishl, 1) := by decide +kernel
theorem dX7_standing_97 : decode cX7_standing 97 = .ok (.ior, 1) := by decide +kernel
theorem dX7_standing_98 : decode cX7_standing 98 = .ok (.istore 4, 2) := by decide +kernel
theorem dX7_standing_100 : decode cX7_standing 100 = .ok (.iinc 5 1, 3) := by decide +kernel
theorem dX7_standing_103 : decode cX7_standing 103 = .ok (.goto (-97), 3) := by decide +kernel
theorem dX7_standing_106 : decode cX7_standing 106 = .ok (.iload 4, 2) := by decide +kernel
theorem dX7_standing_108 : decode cX7_standing 108 = .ok (.ireturn, 1) := by decide +kernel
theorem dX7_lying_0 : decode cX7_lying 0 = .ok (.iconst 0, 1) := by decide +kernel
theorem dX7_lying_1 : decode cX7_lying 1 = .ok (.istore_n 2, 1) := by decide +kernel
theorem dX7_lying_2 : decode cX7_lying 2 = .ok (.iconst 0, 1) := by decide +kernel
theorem dX7_lying_3 : decode cX7_lying 3 = .ok (.istore_n 3, 1) := by decide +kernel
theorem dX7_lying_4 : decode cX7_lying 4 = .ok (.iload_n 3, 1) := by decide +kernel
theorem dX7_lying_5 : decode cX7_lying 5 = .ok (.aload_n 0, 1) := by decide +kernel
theorem dX7_lying_6 : decode cX7_lying 6 = .ok (.getfield 15, 3) := by decide +kernel
theorem dX7_lying_9 : decode cX7_lying 9 = .ok (.getfield 69, 3) := by decide +kernel
theorem dX7_lying_12 : decode cX7_lying 12 = .ok (.if_icmp .ge 29, 3) := by decide +kernel
theorem dX7_lying_15 : decode cX7_lying 15 = .ok (.aload_n 0, 1) := by decide +kernel
theorem dX7_lying_16 : decode cX7_lying 16 = .ok (.iload_n 3, 1) := by decide +kernel
theorem dX7_lying_17 : decode cX7_lying 17 = .ok (.aload_n 1, 1) := by decide +kernel
theorem dX7_lying_18 : decode cX7_lying 18 = .ok (.getfield 61, 3) := by decide +kernel
theorem dX7_lying_21 : decode cX7_lying 21 = .ok (.iload_n 3, 1) := by decide +kernel
theorem dX7_lying_22 : decode cX7_lying 22 = .ok (.iaload, 1) := by decide +kernel
theorem dX7_lying_23 : decode cX7_lying 23 = .ok (.invokevirtual 66, 3) := by decide +kernel
theorem dX7_lying_26 : decode cX7_lying 26 = .ok (.ifCond .le 9, 3) := by decide +kernel
theorem dX7_lying_29 : decode cX7_lying 29 = .ok (.iload_n 2, 1) := by decide +kernel
theorem dX7_lying_30 : decode cX7_lying 30 = .ok (.iconst 1, 1) := by decide +kernel
theorem dX7_lying_31 : decode cX7_lying 31 = .ok (.iload_n 3, 1) := by decide +kernel
theorem dX7_lying_32 : decode cX7_lying 32 = .ok (.ishl, 1) := by decide +kernel
theorem dX7_lying_33 : decode cX7_lying 33 = .ok (.ior, 1) := by decide +kernel
theorem dX7_lying_34 : decode cX7_lying 34 = .ok (.istore_n 2, 1) := by decide +kernel
theorem dX7_lying_35 : decode cX7_lying 35 = .ok (.iinc 3 1, 3) := by decide +kernel
theorem dX7_lying_38 : decode cX7_lying 38 = .ok (.goto (-34), 3) := by decide +kernel
theorem dX7_lying_41 : decode cX7_lying 41 = .ok (.iload_n 2, 1) := by decide +kernel
theorem dX7_lying_42 : decode cX7_lying 42 = .ok (.ireturn, 1) := by decide +kernel
theorem dX6_takeNumber_0 : decode cX6_takeNumber 0 = .ok (.aload_n 0, 1) := by decide +kernel
theorem dX6_takeNumber_1 : decode cX6_takeNumber 1 = .ok (.iconst 0, 1) := by decide +kernel
theorem dX6_takeNumber_2 : decode cX6_takeNumber 2 = .ok (.putfield 24, 3) := by decide +kernel
theorem dX6_takeNumber_5 : decode cX6_takeNumber 5 = .ok (.aload_n 0, 1) := by decide +kernel
theorem dX6_takeNumber_6 : decode cX6_takeNumber 6 = .ok (.getfield 15, 3) := by decide +kernel
theorem dX6_takeNumber_9 : decode cX6_takeNumber 9 = .ok (.aload_n 0, 1) := by decide +kernel
theorem dX6_takeNumber_10 : decode cX6_takeNumber 10 = .ok (.getfield 9, 3) := by decide +kernel
theorem dX6_takeNumber_13 : decode cX6_takeNumber 13 = .ok (.if_icmp .ge 82, 3) := by decide +kernel
theorem dX6_takeNumber_16 : decode cX6_takeNumber 16 = .ok (.aload_n 0, 1) := by decide +kernel
theorem dX6_takeNumber_17 : decode cX6_takeNumber 17 = .ok (.getfield 27, 3) := by decide +kernel
theorem dX6_takeNumber_20 : decode cX6_takeNumber 20 = .ok (.aload_n 0, 1) := by decide +kernel
theorem dX6_takeNumber_21 : decode cX6_takeNumber 21 = .ok (.getfield 15, 3) := by decide +kernel
theorem dX6_takeNumber_24 : decode cX6_takeNumber 24 = .ok (.iaload, 1) := by decide +kernel
theorem dX6_takeNumber_25 : decode cX6_takeNumber 25 = .ok (.bipush 48, 2) := by decide +kernel
theorem dX6_takeNumber_27 : decode cX6_takeNumber 27 = .ok (.if_icmp .lt 68, 3) := by decide +kernel
theorem dX6_takeNumber_30 : decode cX6_takeNumber 30 = .ok (.aload_n 0, 1) := by decide +kernel
theorem dX6_takeNumber_31 : decode cX6_takeNumber 31 = .ok (.getfield 27, 3) := by decide +kernel
theorem dX6_takeNumber_34 : decode cX6_takeNumber 34 = .ok (.aload_n 0, 1) := by decide +kernel
theorem dX6_takeNumber_35 : decode cX6_takeNumber 35 = .ok (.getfield 15, 3) := by decide +kernel
theorem dX6_takeNumber_38 : decode cX6_takeNumber 38 = .ok (.iaload, 1) := by decide +kernel
theorem dX6_takeNumber_39 : decode cX6_takeNumber 39 = .ok (.bipush 57, 2) := by decide +kernel
theorem dX6_takeNumber_41 : decode cX6_takeNumber 41 = .ok (.if_icmp .gt 54, 3) := by decide +kernel
theorem dX6_takeNumber_44 : decode cX6_takeNumber 44 = .ok (.aload_n 0, 1) := by decide +kernel
theorem dX6_takeNumber_45 : decode cX6_takeNumber 45 = .ok (.aload_n 0, 1) := by decide +kernel
theorem dX6_takeNumber_46 : decode cX6_takeNumber 46 = .ok (.getfield 24, 3) := by decide +kernel
theorem dX6_takeNumber_49 : decode cX6_takeNumber 49 = .ok (.bipush 10, 2) := by decide +kernel
theorem dX6_takeNumber_51 : decode cX6_takeNumber 51 = .ok (.if_icmp .ge 26, 3) := by decide +kernel
theorem dX6_takeNumber_54 : decode cX6_takeNumber 54 = .ok (.aload_n 0, 1) := by decide +kernel
theorem dX6_takeNumber_55 : decode cX6_takeNumber 55 = .ok (.getfield 24, 3) := by decide +kernel
theorem dX6_takeNumber_58 : decode cX6_takeNumber 58 = .ok (.bipush 10, 2) := by decide +kernel
theorem dX6_takeNumber_60 : decode cX6_takeNumber 60 = .ok (.imul, 1) := by decide +kernel
theorem dX6_takeNumber_61 : decode cX6_takeNumber 61 = .ok (.aload_n 0, 1) := by decide +kernel
theorem dX6_takeNumber_62 : decode cX6_takeNumber 62 = .ok (.getfield 27, 3) := by decide +kernel
theorem dX6_takeNumber_65 : decode cX6_takeNumber 65 = .ok (.aload_n 0, 1) := by decide +kernel
theorem dX6_takeNumber_66 : decode cX6_takeNumber 66 = .ok (.getfield 15, 3) := by decide +kernel
theorem dX6_takeNumber_69 : decode cX6_takeNumber 69 = .ok (.iaload, 1) := by decide +kernel
theorem dX6_takeNumber_70 : decode cX6_takeNumber 70 = .ok (.iadd, 1) := by decide +kernel
theorem dX6_takeNumber_71 : decode cX6_takeNumber 71 = .ok (.bipush 48, 2) := by decide +kernel
theorem dX6_takeNumber_73 : decode cX6_takeNumber 73 = .ok (.isub, 1) := by decide +kernel
theorem dX6_takeNumber_74 : decode cX6_takeNumber 74 = .ok (.goto 5, 3) := by decide +kernel
theorem dX6_takeNumber_77 : decode cX6_takeNumber 77 = .ok (.bipush 100, 2) := by decide +kernel
theorem dX6_takeNumber_79 : decode cX6_takeNumber 79 = .ok (.putfield 24, 3) := by decide +kernel
theorem dX6_takeNumber_82 : decode cX6_takeNumber 82 = .ok (.aload_n 0, 1) := by decide +kernel
theorem dX6_takeNumber_83 : decode cX6_takeNumber 83 = .ok (.dup, 1) := by decide +kernel
theorem dX6_takeNumber_84 : decode cX6_takeNumber 84 = .ok (.getfield 15, 3) := by decide +kernel
theorem dX6_takeNumber_87 : decode cX6_takeNumber 87 = .ok (.iconst 1, 1) := by decide +kernel
theorem dX6_takeNumber_88 : decode cX6_takeNumber 88 = .ok (.iadd, 1) := by decide +kernel
theorem dX6_takeNumber_89 : decode cX6_takeNumber 89 = .ok (.putfield 15, 3) := by decide +kernel
theorem dX6_takeNumber_92 : decode cX6_takeNumber 92 = .ok (.goto (-87), 3) := by decide +kernel
theorem dX6_takeNumber_95 : decode cX6_takeNumber 95 = .ok (.aload_n 0, 1) := by decide +kernel
theorem dX6_takeNumber_96 : decode cX6_takeNumber 96 = .ok (.getfield 15, 3) := by decide +kernel
theorem dX6_takeNumber_99 : decode cX6_takeNumber 99 = .ok (.aload_n 0, 1) := by decide +kernel
theorem dX6_takeNumber_100 : decode cX6_takeNumber 100 = .ok (.getfield 18, 3) := by decide +kernel
theorem dX6_takeNumber_103 : decode cX6_takeNumber 103 = .ok (.isub, 1) := by decide +kernel
theorem dX6_takeNumber_104 : decode cX6_takeNumber 104 = .ok (.iconst 1, 1) := by decide +kernel
theorem dX6_takeNumber_105 : decode cX6_takeNumber 105 = .ok (.if_icmp .le 21, 3) := by decide +kernel
theorem dX6_takeNumber_108 : decode cX6_takeNumber 108 = .ok (.aload_n 0, 1) := by decide +kernel
theorem dX6_takeNumber_109 : decode cX6_takeNumber 109 = .ok (.getfield 27, 3) := by decide +kernel
theorem dX6_takeNumber_112 : decode cX6_takeNumber 112 = .ok (.aload_n 0, 1) := by decide +kernel
theorem dX6_takeNumber_113 : decode cX6_takeNumber 113 = .ok (.getfield 18, 3) := by decide +kernel
theorem dX6_takeNumber_116 : decode cX6_takeNumber 116 = .ok (.iaload, 1) := by decide +kernel
theorem dX6_takeNumber_117 : decode cX6_takeNumber 117 = .ok (.bipush 48, 2) := by decide +kernel
theorem dX6_takeNumber_119 : decode cX6_takeNumber 119 = .ok (.if_icmp .ne 7, 3) := by decide +kernel
theorem dX6_takeNumber_122 : decode cX6_takeNumber 122 = .ok (.iconst 1, 1) := by decide +kernel
theorem dX6_takeNumber_123 : decode cX6_takeNumber 123 = .ok (.goto 4, 3) := by decide +kernel
theorem dX6_takeNumber_126 : decode cX6_takeNumber 126 = .ok (.iconst 0, 1) := by decide +kernel
theorem dX6_takeNumber_127 : decode cX6_takeNumber 127 = .ok (.istore_n 1, 1) := by decide +kernel
theorem dX6_takeNumber_128 : decode cX6_takeNumber 128 = .ok (.aload_n 0, 1) := by decide +kernel
theorem dX6_takeNumber_129 : decode cX6_takeNumber 129 = .ok (.aload_n 0, 1) := by decide +kernel
theorem dX6_takeNumber_130 : decode cX6_takeNumber 130 = .ok (.getfield 24, 3) := by decide +kernel
theorem dX6_takeNumber_133 : decode cX6_takeNumber 133 = .ok (.bipush 99, 2) := by decide +kernel
theorem dX6_takeNumber_135 : decode cX6_takeNumber 135 = .ok (.if_icmp .gt 7, 3) := by decide +kernel
theorem dX6_takeNumber_138 : decode cX6_takeNumber 138 = .ok (.iload_n 1, 1) := by decide +kernel
theorem dX6_takeNumber_139 : decode cX6_takeNumber 139 = .ok (.ifCond .eq 8, 3) := by decide +kernel
theorem dX6_takeNumber_142 : decode cX6_takeNumber 142 = .ok (.bipush (-3), 2) := by decide +kernel
theorem dX6_takeNumber_144 : decode cX6_takeNumber 144 = .ok (.goto 5, 3) := by decide +kernel
theorem dX6_takeNumber_147 : decode cX6_takeNumber 147 = .ok (.bipush (-2), 2) := by decide +kernel
theorem dX6_takeNumber_149 : decode cX6_takeNumber 149 = .ok (.putfield 21, 3) := by decide +kernel
theorem dX6_takeNumber_152 : decode cX6_takeNumber 152 = .ok (.return_, 1) := by decide +kernel
theorem dX6_advance_0 : decode cX6_advance 0 = .ok (.aload_n 0, 1) := by decide +kernel
theorem dX6_advance_1 : decode cX6_advance 1 = .ok (.getfield 15, 3) := by decide +kernel
theorem dX6_advance_4 : decode cX6_advance 4 = .ok (.aload_n 0, 1) := by decide +kernel
theorem dX6_advance_5 : decode cX6_advance 5 = .ok (.getfield 9, 3) := by decide +kernel
theorem dX6_advance_8 : decode cX6_advance 8 = .ok (.if_icmp .ge 30, 3) := by decide +kernel
theorem dX6_advance_11 : decode cX6_advance 11 = .ok (.aload_n 0, 1) := by decide +kernel
theorem dX6_advance_12 : decode cX6_advance 12 = .ok (.getfield 27, 3) := by decide +kernel
theorem dX6_advance_15 : decode cX6_advance 15 = .ok (.aload_n 0, 1) := by decide +kernel
theorem dX6_advance_16 : decode cX6_advance 16 = .ok (.getfield 15, 3) := by decide +kernel
theorem dX6_advance_19 : decode cX6_advance 19 = .ok (.iaload, 1) := by decide +kernel
theorem dX6_advance_20 : decode cX6_advance 20 = .ok (.bipush 32, 2) := by decide +kernel
theorem dX6_advance_22 : decode cX6_advance 22 = .ok (.if_icmp .ne 16, 3) := by decide +kernel
theorem dX6_advance_25 : decode cX6_advance 25 = .ok (.aload_n 0, 1) := by decide +kernel
theorem dX6_advance_26 : decode cX6_advance 26 = .ok (.dup, 1) := by decide +kernel
theorem dX6_advance_27 : decode cX6_advance 27 = .ok (.getfield 15, 3) := by decide +kernel
theorem dX6_advance_30 : decode cX6_advance 30 = .ok (.iconst 1, 1) := by decide +kernel
theorem dX6_advance_31 : decode cX6_advance 31 = .ok (.iadd, 1) := by decide +kernel
theorem dX6_advance_32 : decode cX6_advance 32 = .ok (.putfield 15, 3) := by decide +kernel
theorem dX6_advance_35 : decode cX6_advance 35 = .ok (.goto (-35), 3) := by decide +kernel
theorem dX6_advance_38 : decode cX6_advance 38 = .ok (.aload_n 0, 1) := by decide +kernel
theorem dX6_advance_39 : decode cX6_advance 39 = .ok (.aload_n 0, 1) := by decide +kernel
theorem dX6_advance_40 : decode cX6_advance 40 = .ok (.getfield 15, 3) := by decide +kernel
theorem dX6_advance_43 : decode cX6_advance 43 = .ok (.putfield 18, 3) := by decide +kernel
theorem dX6_advance_46 : decode cX6_advance 46 = .ok (.aload_n 0, 1) := by decide +kernel
theorem dX6_advance_47 : decode cX6_advance 47 = .ok (.getfield 15, 3) := by decide +kernel
theorem dX6_advance_50 : decode cX6_advance 50 = .ok (.aload_n 0, 1) := by decide +kernel
theorem dX6_advance_51 : decode cX6_advance 51 = .ok (.getfield 9, 3) := by decide +kernel
theorem dX6_advance_54 : decode cX6_advance 54 = .ok (.if_icmp .lt 9, 3) := by decide +kernel
theorem dX6_advance_57 : decode cX6_advance 57 = .ok (.aload_n 0, 1) := by decide +kernel
theorem dX6_advance_58 : decode cX6_advance 58 = .ok (.iconst (-1), 1) := by decide +kernel
theorem dX6_advance_59 : decode cX6_advance 59 = .ok (.putfield 21, 3) := by decide +kernel
theorem dX6_advance_62 : decode cX6_advance 62 = .ok (.return_, 1) := by decide +kernel
theorem dX6_advance_63 : decode cX6_advance 63 = .ok (.aload_n 0, 1) := by decide +kernel
theorem dX6_advance_64 : decode cX6_advance 64 = .ok (.getfield 27, 3) := by decide +kernel
theorem dX6_advance_67 : decode cX6_advance 67 = .ok (.aload_n 0, 1) := by decide +kernel
theorem dX6_advance_68 : decode cX6_advance 68 = .ok (.getfield 15, 3) := by decide +kernel
theorem dX6_advance_71 : decode cX6_advance 71 = .ok (.iaload, 1) := by decide +kernel
theorem dX6_advance_72 : decode cX6_advance 72 = .ok (.istore_n 1, 1) := by decide +kernel
theorem dX6_advance_73 : decode cX6_advance 73 = .ok (.iload_n 1, 1) := by decide +kernel
theorem dX6_advance_74 : decode cX6_advance 74 = .ok (.bipush 48, 2) := by decide +kernel
theorem dX6_advance_76 : decode cX6_advance 76 = .ok (.if_icmp .lt 14, 3) := by decide +kernel
theorem dX6_advance_79 : decode cX6_advance 79 = .ok (.iload_n 1, 1) := by decide +kernel
theorem dX6_advance_80 : decode cX6_advance 80 = .ok (.bipush 57, 2) := by decide +kernel
theorem dX6_advance_82 : decode cX6_advance 82 = .ok (.if_icmp .gt 8, 3) := by decide +kernel
theorem dX6_advance_85 : decode cX6_advance 85 = .ok (.aload_n 0, 1) := by decide +kernel
theorem dX6_advance_86 : decode cX6_advance 86 = .ok (.invokevirtual 98, 3) := by decide +kernel
theorem dX6_advance_89 : decode cX6_advance 89 = .ok (.return_, 1) := by decide +kernel
theorem dX6_advance_90 : decode cX6_advance 90 = .ok (.aload_n 0, 1) := by decide +kernel
theorem dX6_advance_91 : decode cX6_advance 91 = .ok (.dup, 1) := by decide +kernel
theorem dX6_advance_92 : decode cX6_advance 92 = .ok (.getfield 15, 3) := by decide +kernel
theorem dX6_advance_95 : decode cX6_advance 95 = .ok (.iconst 1, 1) := by decide +kernel
theorem dX6_advance_96 : decode cX6_advance 96 = .ok (.iadd, 1) := by decide +kernel
theorem dX6_advance_97 : decode cX6_advance 97 = .ok (.putfield 15, 3) := by decide +kernel
theorem dX6_advance_100 : decode cX6_advance 100 = .ok (.aload_n 0, 1) := by decide +kernel
theorem dX6_advance_101 : decode cX6_advance 101 = .ok (.ldc 101, 2) := by decide +kernel
theorem dX6_advance_103 : decode cX6_advance 103 = .ok (.iload_n 1, 1) := by decide +kernel
theorem dX6_advance_104 : decode cX6_advance 104 = .ok (.i2c, 1) := by decide +kernel
theorem dX6_advance_105 : decode cX6_advance 105 = .ok (.invokevirtual 78, 3) := by decide +kernel
theorem dX6_advance_108 : decode cX6_advance 108 = .ok (.ifCond .lt 7, 3) := by decide +kernel
theorem dX6_advance_111 : decode cX6_advance 111 = .ok (.iload_n 1, 1) := by decide +kernel
theorem dX6_advance_112 : decode cX6_advance 112 = .ok (.goto 5, 3) := by decide +kernel
theorem dX6_advance_115 : decode cX6_advance 115 = .ok (.bipush (-3), 2) := by decide +kernel
theorem dX6_advance_117 : decode cX6_advance 117 = .ok (.putfield 21, 3) := by decide +kernel
theorem dX6_advance_120 : decode cX6_advance 120 = .ok (.return_, 1) := by decide +kernel
theorem dX6_readNumber_0 : decode cX6_readNumber 0 = .ok (.aload_n 0, 1) := by decide +kernel
theorem dX6_readNumber_1 : decode cX6_readNumber 1 = .ok (.invokevirtual 46, 3) := by decide +kernel
theorem dX6_readNumber_4 : decode cX6_readNumber 4 = .ok (.aload_n 0, 1) := by decide +kernel
theorem dX6_readNumber_5 : decode cX6_readNumber 5 = .ok (.getfield 21, 3) := by decide +kernel
theorem dX6_readNumber_8 : decode cX6_readNumber 8 = .ok (.bipush (-2), 2) := by decide +kernel
theorem dX6_readNumber_10 : decode cX6_readNumber 10 = .ok (.if_icmp .ne 19, 3) := by decide +kernel
theorem dX6_readNumber_13 : decode cX6_readNumber 13 = .ok (.aload_n 0, 1) := by decide +kernel
theorem dX6_readNumber_14 : decode cX6_readNumber 14 = .ok (.getfield 24, 3) := by decide +kernel
theorem dX6_readNumber_17 : decode cX6_readNumber 17 = .ok (.iload_n 1, 1) := by decide +kernel
theorem dX6_readNumber_18 : decode cX6_readNumber 18 = .ok (.iload_n 2, 1) := by decide +kernel
theorem dX6_readNumber_19 : decode cX6_readNumber 19 = .ok (.invokestatic 94, 3) := by decide +kernel
theorem dX6_readNumber_22 : decode cX6_readNumber 22 = .ok (.ifCond .eq 7, 3) := by decide +kernel
theorem dX6_readNumber_25 : decode cX6_readNumber 25 = .ok (.iconst 1, 1) := by decide +kernel
theorem dX6_readNumber_26 : decode cX6_readNumber 26 = .ok (.goto 4, 3) := by decide +kernel
theorem dX6_readNumber_29 : decode cX6_readNumber 29 = .ok (.iconst 0, 1) := by decide +kernel
theorem dX6_readNumber_30 : decode cX6_readNumber 30 = .ok (.ireturn, 1) := by decide +kernel
theorem dX6_readPlanks_0 : decode cX6_readPlanks 0 = .ok (.aload_n 0, 1) := by decide +kernel
theorem dX6_readPlanks_1 : decode cX6_readPlanks 1 = .ok (.iconst 1, 1) := by decide +kernel
theorem dX6_readPlanks_2 : decode cX6_readPlanks 2 = .ok (.bipush 8, 2) := by decide +kernel
theorem dX6_readPlanks_4 : decode cX6_readPlanks 4 = .ok (.invokevirtual 66, 3) := by decide +kernel
theorem dX6_readPlanks_7 : decode cX6_readPlanks 7 = .ok (.ifCond .ne 5, 3) := by decide +kernel
theorem dX6_readPlanks_10 : decode cX6_readPlanks 10 = .ok (.iconst 0, 1) := by decide +kernel
theorem dX6_readPlanks_11 : decode cX6_readPlanks 11 = .ok (.ireturn, 1) := by decide +kernel
theorem dX6_readPlanks_12 : decode cX6_readPlanks 12 = .ok (.aload_n 0, 1) := by decide +kernel
theorem dX6_readPlanks_13 : decode cX6_readPlanks 13 = .ok (.getfield 31, 3) := by decide +kernel
theorem dX6_readPlanks_16 : decode cX6_readPlanks 16 = .ok (.aload_n 0, 1) := by decide +kernel
theorem dX6_readPlanks_17 : decode cX6_readPlanks 17 = .ok (.getfield 24, 3) := by decide +kernel
theorem dX6_readPlanks_20 : decode cX6_readPlanks 20 = .ok (.putfield 70, 3) := by decide +kernel
theorem dX6_readPlanks_23 : decode cX6_readPlanks 23 = .ok (.iconst 1, 1) := by decide +kernel
theorem dX6_readPlanks_24 : decode cX6_readPlanks 24 = .ok (.ireturn, 1) := by decide +kernel
theorem dX6_readEnd_0 : decode cX6_readEnd 0 = .ok (.aload_n 0, 1) := by decide +kernel
theorem dX6_readEnd_1 : decode cX6_readEnd 1 = .ok (.invokevirtual 46, 3) := by decide +kernel
theorem dX6_readEnd_4 : decode cX6_readEnd 4 = .ok (.aload_n 0, 1) := by decide +kernel
theorem dX6_readEnd_5 : decode cX6_readEnd 5 = .ok (.getfield 21, 3) := by decide +kernel
theorem dX6_readEnd_8 : decode cX6_readEnd 8 = .ok (.bipush 59, 2) := by decide +kernel
theorem dX6_readEnd_10 : decode cX6_readEnd 10 = .ok (.if_icmp .ne 7, 3) := by decide +kernel
theorem dX6_readEnd_13 : decode cX6_readEnd 13 = .ok (.iconst 1, 1) := by decide +kernel
theorem dX6_readEnd_14 : decode cX6_readEnd 14 = .ok (.goto 4, 3) := by decide +kernel
theorem dX6_readEnd_17 : decode cX6_readEnd 17 = .ok (.iconst 0, 1) := by decide +kernel
theorem dX6_readEnd_18 : decode cX6_readEnd 18 = .ok (.ireturn, 1) := by decide +kernel
theorem dX6_readPerson_0 : decode cX6_readPerson 0 = .ok (.aload_n 0, 1) := by decide +kernel
theorem dX6_readPerson_1 : decode cX6_readPerson 1 = .ok (.getfield 31, 3) := by decide +kernel
theorem dX6_readPerson_4 : decode cX6_readPerson 4 = .ok (.getfield 73, 3) := by decide +kernel
theorem dX6_readPerson_7 : decode cX6_readPerson 7 = .ok (.bipush 8, 2) := by decide +kernel
theorem dX6_readPerson_9 : decode cX6_readPerson 9 = .ok (.if_icmp .lt 5, 3) := by decide +kernel
theorem dX6_readPerson_12 : decode cX6_readPerson 12 = .ok (.iconst 0, 1) := by decide +kernel
theorem dX6_readPerson_13 : decode cX6_readPerson 13 = .ok (.ireturn, 1) := by decide +kernel
theorem dX6_readPerson_14 : decode cX6_readPerson 14 = .ok (.aload_n 0, 1) := by decide +kernel
theorem dX6_readPerson_15 : decode cX6_readPerson 15 = .ok (.invokevirtual 46, 3) := by decide +kernel
theorem dX6_readPerson_18 : decode cX6_readPerson 18 = .ok (.aload_n 0, 1) := by decide +kernel
theorem dX6_readPerson_19 : decode cX6_readPerson 19 = .ok (.getfield 21, 3) := by decide +kernel
theorem dX6_readPerson_22 : decode cX6_readPerson 22 = .ok (.ifCond .ge 7, 3) := by decide +kernel
theorem dX6_readPerson_25 : decode cX6_readPerson 25 = .ok (.iconst 0, 1) := by decide +kernel
theorem dX6_readPerson_26 : decode cX6_readPerson 26 = .ok (.goto 15, 3) := by decide +kernel
theorem dX6_readPerson_29 : decode cX6_readPerson 29 = .ok (.ldc 76, 2) := by decide +kernel
theorem dX6_readPerson_31 : decode cX6_readPerson 31 = .ok (.aload_n 0, 1) := by decide +kernel
theorem dX6_readPerson_32 : decode cX6_readPerson 32 = .ok (.getfield 21, 3) := by decide +kernel
theorem dX6_readPerson_35 : decode cX6_readPerson 35 = .ok (.i2c, 1) := by decide +kernel
theorem dX6_readPerson_36 : decode cX6_readPerson 36 = .ok (.invokevirtual 78, 3) := by decide +kernel
theorem dX6_readPerson_39 : decode cX6_readPerson 39 = .ok (.iconst 1, 1) := by decide +kernel
theorem dX6_readPerson_40 : decode cX6_readPerson 40 = .ok (.iadd, 1) := by decide +kernel
theorem dX6_readPerson_41 : decode cX6_readPerson 41 = .ok (.istore_n 2, 1) := by decide +kernel
theorem dX6_readPerson_42 : decode cX6_readPerson 42 = .ok (.iload_n 2, 1) := by decide +kernel
theorem dX6_readPerson_43 : decode cX6_readPerson 43 = .ok (.ifCond .eq 13, 3) := by decide +kernel
theorem dX6_readPerson_46 : decode cX6_readPerson 46 = .ok (.aload_n 0, 1) := by decide +kernel
theorem dX6_readPerson_47 : decode cX6_readPerson 47 = .ok (.iconst 1, 1) := by decide +kernel
theorem dX6_readPerson_48 : decode cX6_readPerson 48 = .ok (.bipush 9, 2) := by decide +kernel
theorem dX6_readPerson_50 : decode cX6_readPerson 50 = .ok (.invokevirtual 66, 3) := by decide +kernel
theorem dX6_readPerson_53 : decode cX6_readPerson 53 = .ok (.ifCond .ne 5, 3) := by decide +kernel
theorem dX6_readPerson_56 : decode cX6_readPerson 56 = .ok (.iconst 0, 1) := by decide +kernel
theorem dX6_readPerson_57 : decode cX6_readPerson 57 = .ok (.ireturn, 1) := by decide +kernel
theorem dX6_readPerson_58 : decode cX6_readPerson 58 = .ok (.aload_n 0, 1) := by decide +kernel
theorem dX6_readPerson_59 : decode cX6_readPerson 59 = .ok (.getfield 24, 3) := by decide +kernel
theorem dX6_readPerson_62 : decode cX6_readPerson 62 = .ok (.istore_n 3, 1) := by decide +kernel
theorem dX6_readPerson_63 : decode cX6_readPerson 63 = .ok (.aload_n 0, 1) := by decide +kernel
theorem dX6_readPerson_64 : decode cX6_readPerson 64 = .ok (.iconst 1, 1) := by decide +kernel
theorem dX6_readPerson_65 : decode cX6_readPerson 65 = .ok (.iconst 5, 1) := by decide +kernel
theorem dX6_readPerson_66 : decode cX6_readPerson 66 = .ok (.invokevirtual 66, 3) := by decide +kernel
theorem dX6_readPerson_69 : decode cX6_readPerson 69 = .ok (.ifCond .ne 5, 3) := by decide +kernel
theorem dX6_readPerson_72 : decode cX6_readPerson 72 = .ok (.iconst 0, 1) := by decide +kernel
theorem dX6_readPerson_73 : decode cX6_readPerson 73 = .ok (.ireturn, 1) := by decide +kernel
theorem dX6_readPerson_74 : decode cX6_readPerson 74 = .ok (.aload_n 0, 1) := by decide +kernel
theorem dX6_readPerson_75 : decode cX6_readPerson 75 = .ok (.getfield 31, 3) := by decide +kernel
theorem dX6_readPerson_78 : decode cX6_readPerson 78 = .ok (.iload_n 1, 1) := by decide +kernel
theorem dX6_readPerson_79 : decode cX6_readPerson 79 = .ok (.iload_n 2, 1) := by decide +kernel
theorem dX6_readPerson_80 : decode cX6_readPerson 80 = .ok (.iload_n 3, 1) := by decide +kernel
theorem dX6_readPerson_81 : decode cX6_readPerson 81 = .ok (.aload_n 0, 1) := by decide +kernel
theorem dX6_readPerson_82 : decode cX6_readPerson 82 = .ok (.getfield 24, 3) := by decide +kernel
theorem dX6_readPerson_85 : decode cX6_readPerson 85 = .ok (.invokevirtual 84, 3) := by decide +kernel
theorem dX6_readPerson_88 : decode cX6_readPerson 88 = .ok (.iconst 1, 1) := by decide +kernel
theorem dX6_readPerson_89 : decode cX6_readPerson 89 = .ok (.ireturn, 1) := by decide +kernel
theorem dX6_readPromise_0 : decode cX6_readPromise 0 = .ok (.aload_n 0, 1) := by decide +kernel
theorem dX6_readPromise_1 : decode cX6_readPromise 1 = .ok (.iconst 0, 1) := by decide +kernel
theorem dX6_readPromise_2 : decode cX6_readPromise 2 = .ok (.aload_n 0, 1) := by decide +kernel
theorem dX6_readPromise_3 : decode cX6_readPromise 3 = .ok (.getfield 31, 3) := by decide +kernel
theorem dX6_readPromise_6 : decode cX6_readPromise 6 = .ok (.getfield 73, 3) := by decide +kernel
theorem dX6_readPromise_9 : decode cX6_readPromise 9 = .ok (.iconst 1, 1) := by decide +kernel
theorem dX6_readPromise_10 : decode cX6_readPromise 10 = .ok (.isub, 1) := by decide +kernel
theorem dX6_readPromise_11 : decode cX6_readPromise 11 = .ok (.invokevirtual 66, 3) := by decide +kernel
theorem dX6_readPromise_14 : decode cX6_readPromise 14 = .ok (.ifCond .ne 5, 3) := by decide +kernel
theorem dX6_readPromise_17 : decode cX6_readPromise 17 = .ok (.iconst 0, 1) := by decide +kernel
theorem dX6_readPromise_18 : decode cX6_readPromise 18 = .ok (.ireturn, 1) := by decide +kernel
theorem dX6_readPromise_19 : decode cX6_readPromise 19 = .ok (.aload_n 0, 1) := by decide +kernel
theorem dX6_readPromise_20 : decode cX6_readPromise 20 = .ok (.getfield 24, 3) := by decide +kernel
theorem dX6_readPromise_23 : decode cX6_readPromise 23 = .ok (.istore_n 1, 1) := by decide +kernel
theorem dX6_readPromise_24 : decode cX6_readPromise 24 = .ok (.aload_n 0, 1) := by decide +kernel
theorem dX6_readPromise_25 : decode cX6_readPromise 25 = .ok (.iconst 0, 1) := by decide +kernel
theorem dX6_readPromise_26 : decode cX6_readPromise 26 = .ok (.aload_n 0, 1) := by decide +kernel
theorem dX6_readPromise_27 : decode cX6_readPromise 27 = .ok (.getfield 31, 3) := by decide +kernel
theorem dX6_readPromise_30 : decode cX6_readPromise 30 = .ok (.getfield 70, 3) := by decide +kernel
theorem dX6_readPromise_33 : decode cX6_readPromise 33 = .ok (.iconst 1, 1) := by decide +kernel
theorem dX6_readPromise_34 : decode cX6_readPromise 34 = .ok (.isub, 1) := by decide +kernel
theorem dX6_readPromise_35 : decode cX6_readPromise 35 = .ok (.invokevirtual 66, 3) := by decide +kernel
theorem dX6_readPromise_38 : decode cX6_readPromise 38 = .ok (.ifCond .eq 22, 3) := by decide +kernel
theorem dX6_readPromise_41 : decode cX6_readPromise 41 = .ok (.aload_n 0, 1) := by decide +kernel
theorem dX6_readPromise_42 : decode cX6_readPromise 42 = .ok (.getfield 31, 3) := by decide +kernel
theorem dX6_readPromise_45 : decode cX6_readPromise 45 = .ok (.getfield 88, 3) := by decide +kernel
theorem dX6_readPromise_48 : decode cX6_readPromise 48 = .ok (.aload_n 0, 1) := by decide +kernel
theorem dX6_readPromise_49 : decode cX6_readPromise 49 = .ok (.getfield 24, 3) := by decide +kernel
theorem dX6_readPromise_52 : decode cX6_readPromise 52 = .ok (.iaload, 1) := by decide +kernel
theorem dX6_readPromise_53 : decode cX6_readPromise 53 = .ok (.iload_n 1, 1) := by decide +kernel
theorem dX6_readPromise_54 : decode cX6_readPromise 54 = .ok (.invokestatic 91, 3) := by decide +kernel
theorem dX6_readPromise_57 : decode cX6_readPromise 57 = .ok (.ifCond .eq 5, 3) := by decide +kernel
theorem dX6_readPromise_60 : decode cX6_readPromise 60 = .ok (.iconst 0, 1) := by decide +kernel
theorem dX6_readPromise_61 : decode cX6_readPromise 61 = .ok (.ireturn, 1) := by decide +kernel
theorem dX6_readPromise_62 : decode cX6_readPromise 62 = .ok (.aload_n 0, 1) := by decide +kernel
theorem dX6_readPromise_63 : decode cX6_readPromise 63 = .ok (.getfield 31, 3) := by decide +kernel
theorem dX6_readPromise_66 : decode cX6_readPromise 66 = .ok (.getfield 88, 3) := by decide +kernel
theorem dX6_readPromise_69 : decode cX6_readPromise 69 = .ok (.aload_n 0, 1) := by decide +kernel
theorem dX6_readPromise_70 : decode cX6_readPromise 70 = .ok (.getfield 24, 3) := by decide +kernel
theorem dX6_readPromise_73 : decode cX6_readPromise 73 = .ok (.dup2, 1) := by decide +kernel
theorem dX6_readPromise_74 : decode cX6_readPromise 74 = .ok (.iaload, 1) := by decide +kernel
theorem dX6_readPromise_75 : decode cX6_readPromise 75 = .ok (.iconst 1, 1) := by decide +kernel
theorem dX6_readPromise_76 : decode cX6_readPromise 76 = .ok (.iload_n 1, 1) := by decide +kernel
theorem dX6_readPromise_77 : decode cX6_readPromise 77 = .ok (.ishl, 1) := by decide +kernel
theorem dX6_readPromise_78 : decode cX6_readPromise 78 = .ok (.ior, 1) := by decide +kernel
theorem dX6_readPromise_79 : decode cX6_readPromise 79 = .ok (.iastore, 1) := by decide +kernel
theorem dX6_readPromise_80 : decode cX6_readPromise 80 = .ok (.iconst 1, 1) := by decide +kernel
theorem dX6_readPromise_81 : decode cX6_readPromise 81 = .ok (.ireturn, 1) := by decide +kernel
theorem dX6_readItem_0 : decode cX6_readItem 0 = .ok (.aload_n 0, 1) := by decide +kernel
theorem dX6_readItem_1 : decode cX6_readItem 1 = .ok (.getfield 21, 3) := by decide +kernel
theorem dX6_readItem_4 : decode cX6_readItem 4 = .ok (.lookupswitch 130 #[(110, 44), (117, 68), (118, 89), (120, 110)], 44) := by decide +kernel
theorem dX6_readItem_48 : decode cX6_readItem 48 = .ok (.iload_n 1, 1) := by decide +kernel
theorem dX6_readItem_49 : decode cX6_readItem 49 = .ok (.ifCond .ne 21, 3) := by decide +kernel
theorem dX6_readItem_52 : decode cX6_readItem 52 = .ok (.aload_n 0, 1) := by decide +kernel
theorem dX6_readItem_53 : decode cX6_readItem 53 = .ok (.invokevirtual 53, 3) := by decide +kernel
theorem dX6_readItem_56 : decode cX6_readItem 56 = .ok (.ifCond .eq 14, 3) := by decide +kernel
theorem dX6_readItem_59 : decode cX6_readItem 59 = .ok (.aload_n 0, 1) := by decide +kernel
theorem dX6_readItem_60 : decode cX6_readItem 60 = .ok (.invokevirtual 57, 3) := by decide +kernel
theorem dX6_readItem_63 : decode cX6_readItem 63 = .ok (.ifCond .eq 7, 3) := by decide +kernel
theorem dX6_readItem_66 : decode cX6_readItem 66 = .ok (.iconst 1, 1) := by decide +kernel
theorem dX6_readItem_67 : decode cX6_readItem 67 = .ok (.goto 4, 3) := by decide +kernel
theorem dX6_readItem_70 : decode cX6_readItem 70 = .ok (.iconst 0, 1) := by decide +kernel
theorem dX6_readItem_71 : decode cX6_readItem 71 = .ok (.ireturn, 1) := by decide +kernel
theorem dX6_readItem_72 : decode cX6_readItem 72 = .ok (.aload_n 0, 1) := by decide +kernel
theorem dX6_readItem_73 : decode cX6_readItem 73 = .ok (.iconst 0, 1) := by decide +kernel
theorem dX6_readItem_74 : decode cX6_readItem 74 = .ok (.invokevirtual 60, 3) := by decide +kernel
theorem dX6_readItem_77 : decode cX6_readItem 77 = .ok (.ifCond .eq 14, 3) := by decide +kernel
theorem dX6_readItem_80 : decode cX6_readItem 80 = .ok (.aload_n 0, 1) := by decide +kernel
theorem dX6_readItem_81 : decode cX6_readItem 81 = .ok (.invokevirtual 57, 3) := by decide +kernel
theorem dX6_readItem_84 : decode cX6_readItem 84 = .ok (.ifCond .eq 7, 3) := by decide +kernel
theorem dX6_readItem_87 : decode cX6_readItem 87 = .ok (.iconst 1, 1) := by decide +kernel
theorem dX6_readItem_88 : decode cX6_readItem 88 = .ok (.goto 4, 3) := by decide +kernel
theorem dX6_readItem_91 : decode cX6_readItem 91 = .ok (.iconst 0, 1) := by decide +kernel
theorem dX6_readItem_92 : decode cX6_readItem 92 = .ok (.ireturn, 1) := by decide +kernel
theorem dX6_readItem_93 : decode cX6_readItem 93 = .ok (.aload_n 0, 1) := by decide +kernel
theorem dX6_readItem_94 : decode cX6_readItem 94 = .ok (.iconst 1, 1) := by decide +kernel
theorem dX6_readItem_95 : decode cX6_readItem 95 = .ok (.invokevirtual 60, 3) := by decide +kernel
theorem dX6_readItem_98 : decode cX6_readItem 98 = .ok (.ifCond .eq 14, 3) := by decide +kernel
theorem dX6_readItem_101 : decode cX6_readItem 101 = .ok (.aload_n 0, 1) := by decide +kernel
theorem dX6_readItem_102 : decode cX6_readItem 102 = .ok (.invokevirtual 57, 3) := by decide +kernel
theorem dX6_readItem_105 : decode cX6_readItem 105 = .ok (.ifCond .eq 7, 3) := by decide +kernel
theorem dX6_readItem_108 : decode cX6_readItem 108 = .ok (.iconst 1, 1) := by decide +kernel
theorem dX6_readItem_109 : decode cX6_readItem 109 = .ok (.goto 4, 3) := by decide +kernel
theorem dX6_readItem_112 : decode cX6_readItem 112 = .ok (.iconst 0, 1) := by decide +kernel
theorem dX6_readItem_113 : decode cX6_readItem 113 = .ok (.ireturn, 1) := by decide +kernel
theorem dX6_readItem_114 : decode cX6_readItem 114 = .ok (.aload_n 0, 1) := by decide +kernel
theorem dX6_readItem_115 : decode cX6_readItem 115 = .ok (.invokevirtual 63, 3) := by decide +kernel
theorem dX6_readItem_118 : decode cX6_readItem 118 = .ok (.ifCond .eq 14, 3) := by decide +kernel
theorem dX6_readItem_121 : decode cX6_readItem 121 = .ok (.aload_n 0, 1) := by decide +kernel
theorem dX6_readItem_122 : decode cX6_readItem 122 = .ok (.invokevirtual 57, 3) := by decide +kernel
theorem dX6_readItem_125 : decode cX6_readItem 125 = .ok (.ifCond .eq 7, 3) := by decide +kernel
theorem dX6_readItem_128 : decode cX6_readItem 128 = .ok (.iconst 1, 1) := by decide +kernel
theorem dX6_readItem_129 : decode cX6_readItem 129 = .ok (.goto 4, 3) := by decide +kernel
theorem dX6_readItem_132 : decode cX6_readItem 132 = .ok (.iconst 0, 1) := by decide +kernel
theorem dX6_readItem_133 : decode cX6_readItem 133 = .ok (.ireturn, 1) := by decide +kernel
theorem dX6_readItem_134 : decode cX6_readItem 134 = .ok (.iconst 0, 1) := by decide +kernel
theorem dX6_readItem_135 : decode cX6_readItem 135 = .ok (.ireturn, 1) := by decide +kernel
theorem dX6_readAll_0 : decode cX6_readAll 0 = .ok (.aload_n 0, 1) := by decide +kernel
theorem dX6_readAll_1 : decode cX6_readAll 1 = .ok (.iload_n 1, 1) := by decide +kernel
theorem dX6_readAll_2 : decode cX6_readAll 2 = .ok (.aload_n 0, 1) := by decide +kernel
theorem dX6_readAll_3 : decode cX6_readAll 3 = .ok (.getfield 27, 3) := by decide +kernel
theorem dX6_readAll_6 : decode cX6_readAll 6 = .ok (.arraylength, 1) := by decide +kernel
theorem dX6_readAll_7 : decode cX6_readAll 7 = .ok (.invokestatic 35, 3) := by decide +kernel
theorem dX6_readAll_10 : decode cX6_readAll 10 = .ok (.putfield 9, 3) := by decide +kernel
theorem dX6_readAll_13 : decode cX6_readAll 13 = .ok (.aload_n 0, 1) := by decide +kernel
theorem dX6_readAll_14 : decode cX6_readAll 14 = .ok (.iconst 0, 1) := by decide +kernel
theorem dX6_readAll_15 : decode cX6_readAll 15 = .ok (.putfield 15, 3) := by decide +kernel
theorem dX6_readAll_18 : decode cX6_readAll 18 = .ok (.aload_n 0, 1) := by decide +kernel
theorem dX6_readAll_19 : decode cX6_readAll 19 = .ok (.getfield 31, 3) := by decide +kernel
theorem dX6_readAll_22 : decode cX6_readAll 22 = .ok (.invokevirtual 41, 3) := by decide +kernel
theorem dX6_readAll_25 : decode cX6_readAll 25 = .ok (.iconst 0, 1) := by decide +kernel
theorem dX6_readAll_26 : decode cX6_readAll 26 = .ok (.istore_n 2, 1) := by decide +kernel
theorem dX6_readAll_27 : decode cX6_readAll 27 = .ok (.iload_n 2, 1) := by decide +kernel
theorem dX6_readAll_28 : decode cX6_readAll 28 = .ok (.aload_n 0, 1) := by decide +kernel
theorem dX6_readAll_29 : decode cX6_readAll 29 = .ok (.getfield 9, 3) := by decide +kernel
theorem dX6_readAll_32 : decode cX6_readAll 32 = .ok (.if_icmp .gt 39, 3) := by decide +kernel
theorem dX6_readAll_35 : decode cX6_readAll 35 = .ok (.aload_n 0, 1) := by decide +kernel
theorem dX6_readAll_36 : decode cX6_readAll 36 = .ok (.invokevirtual 46, 3) := by decide +kernel
theorem dX6_readAll_39 : decode cX6_readAll 39 = .ok (.aload_n 0, 1) := by decide +kernel
theorem dX6_readAll_40 : decode cX6_readAll 40 = .ok (.getfield 21, 3) := by decide +kernel
theorem dX6_readAll_43 : decode cX6_readAll 43 = .ok (.iconst (-1), 1) := by decide +kernel
theorem dX6_readAll_44 : decode cX6_readAll 44 = .ok (.if_icmp .ne 5, 3) := by decide +kernel
theorem dX6_readAll_47 : decode cX6_readAll 47 = .ok (.iload_n 2, 1) := by decide +kernel
theorem dX6_readAll_48 : decode cX6_readAll 48 = .ok (.ireturn, 1) := by decide +kernel
theorem dX6_readAll_49 : decode cX6_readAll 49 = .ok (.aload_n 0, 1) := by decide +kernel
theorem dX6_readAll_50 : decode cX6_readAll 50 = .ok (.iload_n 2, 1) := by decide +kernel
theorem dX6_readAll_51 : decode cX6_readAll 51 = .ok (.invokevirtual 49, 3) := by decide +kernel
theorem dX6_readAll_54 : decode cX6_readAll 54 = .ok (.ifCond .ne 11, 3) := by decide +kernel
theorem dX6_readAll_57 : decode cX6_readAll 57 = .ok (.bipush (-10), 2) := by decide +kernel
theorem dX6_readAll_59 : decode cX6_readAll 59 = .ok (.aload_n 0, 1) := by decide +kernel
theorem dX6_readAll_60 : decode cX6_readAll 60 = .ok (.getfield 18, 3) := by decide +kernel
theorem dX6_readAll_63 : decode cX6_readAll 63 = .ok (.isub, 1) := by decide +kernel
theorem dX6_readAll_64 : decode cX6_readAll 64 = .ok (.ireturn, 1) := by decide +kernel
theorem dX6_readAll_65 : decode cX6_readAll 65 = .ok (.iinc 2 1, 3) := by decide +kernel
theorem dX6_readAll_68 : decode cX6_readAll 68 = .ok (.goto (-41), 3) := by decide +kernel
theorem dX6_readAll_71 : decode cX6_readAll 71 = .ok (.bipush (-10), 2) := by decide +kernel
theorem dX6_readAll_73 : decode cX6_readAll 73 = .ok (.aload_n 0, 1) := by decide +kernel
theorem dX6_readAll_74 : decode cX6_readAll 74 = .ok (.getfield 9, 3) := by decide +kernel
theorem dX6_readAll_77 : decode cX6_readAll 77 = .ok (.isub, 1) := by decide +kernel
theorem dX6_readAll_78 : decode cX6_readAll 78 = .ok (.ireturn, 1) := by decide +kernel
theorem dX4_bearsBehind_0 : decode cX4_bearsBehind 0 = .ok (.iconst 0, 1) := by decide +kernel
theorem dX4_bearsBehind_1 : decode cX4_bearsBehind 1 = .ok (.istore_n 3, 1) := by decide +kernel
theorem dX4_bearsBehind_2 : decode cX4_bearsBehind 2 = .ok (.iload_n 3, 1) := by decide +kernel
theorem dX4_bearsBehind_3 : decode cX4_bearsBehind 3 = .ok (.aload_n 0, 1) := by decide +kernel
theorem dX4_bearsBehind_4 : decode cX4_bearsBehind 4 = .ok (.getfield 9, 3) := by decide +kernel
theorem dX4_bearsBehind_7 : decode cX4_bearsBehind 7 = .ok (.getfield 27, 3) := by decide +kernel
theorem dX4_bearsBehind_10 : decode cX4_bearsBehind 10 = .ok (.if_icmp .ge 40, 3) := by decide +kernel
theorem dX4_bearsBehind_13 : decode cX4_bearsBehind 13 = .ok (.aload_n 0, 1) := by decide +kernel
theorem dX4_bearsBehind_14 : decode cX4_bearsBehind 14 = .ok (.getfield 15, 3) := by decide +kernel
theorem dX4_bearsBehind_17 : decode cX4_bearsBehind 17 = .ok (.iload_n 3, 1) := by decide +kernel
theorem dX4_bearsBehind_18 : decode cX4_bearsBehind 18 = .ok (.aload_n 0, 1) := by decide +kernel
theorem dX4_bearsBehind_19 : decode cX4_bearsBehind 19 = .ok (.getfield 19, 3) := by decide +kernel
theorem dX4_bearsBehind_22 : decode cX4_bearsBehind 22 = .ok (.iload_n 3, 1) := by decide +kernel
theorem dX4_bearsBehind_23 : decode cX4_bearsBehind 23 = .ok (.aload_n 0, 1) := by decide +kernel
theorem dX4_bearsBehind_24 : decode cX4_bearsBehind 24 = .ok (.getfield 19, 3) := by decide +kernel
theorem dX4_bearsBehind_27 : decode cX4_bearsBehind 27 = .ok (.getfield 33, 3) := by decide +kernel
theorem dX4_bearsBehind_30 : decode cX4_bearsBehind 30 = .ok (.iload_n 1, 1) := by decide +kernel
theorem dX4_bearsBehind_31 : decode cX4_bearsBehind 31 = .ok (.iadd, 1) := by decide +kernel
theorem dX4_bearsBehind_32 : decode cX4_bearsBehind 32 = .ok (.invokevirtual 38, 3) := by decide +kernel
theorem dX4_bearsBehind_35 : decode cX4_bearsBehind 35 = .ok (.invokevirtual 42, 3) := by decide +kernel
theorem dX4_bearsBehind_38 : decode cX4_bearsBehind 38 = .ok (.iload_n 2, 1) := by decide +kernel
theorem dX4_bearsBehind_39 : decode cX4_bearsBehind 39 = .ok (.if_icmp .ge 5, 3) := by decide +kernel
theorem dX4_bearsBehind_42 : decode cX4_bearsBehind 42 = .ok (.iconst 0, 1) := by decide +kernel
theorem dX4_bearsBehind_43 : decode cX4_bearsBehind 43 = .ok (.ireturn, 1) := by decide +kernel
theorem dX4_bearsBehind_44 : decode cX4_bearsBehind 44 = .ok (.iinc 3 1, 3) := by decide +kernel
theorem dX4_bearsBehind_47 : decode cX4_bearsBehind 47 = .ok (.goto (-45), 3) := by decide +kernel
theorem dX4_bearsBehind_50 : decode cX4_bearsBehind 50 = .ok (.iconst 1, 1) := by decide +kernel
theorem dX4_bearsBehind_51 : decode cX4_bearsBehind 51 = .ok (.ireturn, 1) := by decide +kernel
theorem dX4_firstBorne_0 : decode cX4_firstBorne 0 = .ok (.iconst 0, 1) := by decide +kernel
theorem dX4_firstBorne_1 : decode cX4_firstBorne 1 = .ok (.istore_n 2, 1) := by decide +kernel
theorem dX4_firstBorne_2 : decode cX4_firstBorne 2 = .ok (.iload_n 2, 1) := by decide +kernel
theorem dX4_firstBorne_3 : decode cX4_firstBorne 3 = .ok (.bipush 20, 2) := by decide +kernel
theorem dX4_firstBorne_5 : decode cX4_firstBorne 5 = .ok (.if_icmp .gt 20, 3) := by decide +kernel
theorem dX4_firstBorne_8 : decode cX4_firstBorne 8 = .ok (.aload_n 0, 1) := by decide +kernel
theorem dX4_firstBorne_9 : decode cX4_firstBorne 9 = .ok (.iload_n 2, 1) := by decide +kernel
theorem dX4_firstBorne_10 : decode cX4_firstBorne 10 = .ok (.iload_n 1, 1) := by decide +kernel
theorem dX4_firstBorne_11 : decode cX4_firstBorne 11 = .ok (.invokevirtual 23, 3) := by decide +kernel
theorem dX4_firstBorne_14 : decode cX4_firstBorne 14 = .ok (.ifCond .eq 5, 3) := by decide +kernel
theorem dX4_firstBorne_17 : decode cX4_firstBorne 17 = .ok (.iload_n 2, 1) := by decide +kernel
theorem dX4_firstBorne_18 : decode cX4_firstBorne 18 = .ok (.ireturn, 1) := by decide +kernel
theorem dX4_firstBorne_19 : decode cX4_firstBorne 19 = .ok (.iinc 2 1, 3) := by decide +kernel
theorem dX4_firstBorne_22 : decode cX4_firstBorne 22 = .ok (.goto (-20), 3) := by decide +kernel
theorem dX4_firstBorne_25 : decode cX4_firstBorne 25 = .ok (.bipush (-9), 2) := by decide +kernel
theorem dX4_firstBorne_27 : decode cX4_firstBorne 27 = .ok (.ireturn, 1) := by decide +kernel
theorem dX4_fewestAdded_0 : decode cX4_fewestAdded 0 = .ok (.aload_n 0, 1) := by decide +kernel
theorem dX4_fewestAdded_1 : decode cX4_fewestAdded 1 = .ok (.getfield 15, 3) := by decide +kernel
theorem dX4_fewestAdded_4 : decode cX4_fewestAdded 4 = .ok (.iload_n 2, 1) := by decide +kernel
theorem dX4_fewestAdded_5 : decode cX4_fewestAdded 5 = .ok (.iload_n 3, 1) := by decide +kernel
theorem dX4_fewestAdded_6 : decode cX4_fewestAdded 6 = .ok (.invokevirtual 42, 3) := by decide +kernel
theorem dX4_fewestAdded_9 : decode cX4_fewestAdded 9 = .ok (.iload_n 1, 1) := by decide +kernel
theorem dX4_fewestAdded_10 : decode cX4_fewestAdded 10 = .ok (.if_icmp .lt 5, 3) := by decide +kernel
theorem dX4_fewestAdded_13 : decode cX4_fewestAdded 13 = .ok (.iconst 0, 1) := by decide +kernel
theorem dX4_fewestAdded_14 : decode cX4_fewestAdded 14 = .ok (.ireturn, 1) := by decide +kernel
theorem dX4_fewestAdded_15 : decode cX4_fewestAdded 15 = .ok (.bipush (-9), 2) := by decide +kernel
theorem dX4_fewestAdded_17 : decode cX4_fewestAdded 17 = .ok (.istore 5, 2) := by decide +kernel
theorem dX4_fewestAdded_19 : decode cX4_fewestAdded 19 = .ok (.iconst 0, 1) := by decide +kernel
theorem dX4_fewestAdded_20 : decode cX4_fewestAdded 20 = .ok (.istore 6, 2) := by decide +kernel
theorem dX4_fewestAdded_22 : decode cX4_fewestAdded 22 = .ok (.iload 6, 2) := by decide +kernel
theorem dX4_fewestAdded_24 : decode cX4_fewestAdded 24 = .ok (.aload_n 0, 1) := by decide +kernel
theorem dX4_fewestAdded_25 : decode cX4_fewestAdded 25 = .ok (.getfield 9, 3) := by decide +kernel
theorem dX4_fewestAdded_28 : decode cX4_fewestAdded 28 = .ok (.getfield 65, 3) := by decide +kernel
theorem dX4_fewestAdded_31 : decode cX4_fewestAdded 31 = .ok (.if_icmp .ge 109, 3) := by decide +kernel
theorem dX4_fewestAdded_34 : decode cX4_fewestAdded 34 = .ok (.iload 4, 2) := by decide +kernel
theorem dX4_fewestAdded_36 : decode cX4_fewestAdded 36 = .ok (.iload 6, 2) := by decide +kernel
theorem dX4_fewestAdded_38 : decode cX4_fewestAdded 38 = .ok (.invokestatic 68, 3) := by decide +kernel
theorem dX4_fewestAdded_41 : decode cX4_fewestAdded 41 = .ok (.ifCond .ne 6, 3) := by decide +kernel
theorem dX4_fewestAdded_44 : decode cX4_fewestAdded 44 = .ok (.goto 90, 3) := by decide +kernel
theorem dX4_fewestAdded_47 : decode cX4_fewestAdded 47 = .ok (.iload_n 3, 1) := by decide +kernel
theorem dX4_fewestAdded_48 : decode cX4_fewestAdded 48 = .ok (.iconst 1, 1) := by decide +kernel
theorem dX4_fewestAdded_49 : decode cX4_fewestAdded 49 = .ok (.iload 6, 2) := by decide +kernel
theorem dX4_fewestAdded_51 : decode cX4_fewestAdded 51 = .ok (.ishl, 1) := by decide +kernel
theorem dX4_fewestAdded_52 : decode cX4_fewestAdded 52 = .ok (.ior, 1) := by decide +kernel
theorem dX4_fewestAdded_53 : decode cX4_fewestAdded 53 = .ok (.istore 7, 2) := by decide +kernel
theorem dX4_fewestAdded_55 : decode cX4_fewestAdded 55 = .ok (.aload_n 0, 1) := by decide +kernel
theorem dX4_fewestAdded_56 : decode cX4_fewestAdded 56 = .ok (.getfield 15, 3) := by decide +kernel
theorem dX4_fewestAdded_59 : decode cX4_fewestAdded 59 = .ok (.iload_n 2, 1) := by decide +kernel
theorem dX4_fewestAdded_60 : decode cX4_fewestAdded 60 = .ok (.iload 7, 2) := by decide +kernel
theorem dX4_fewestAdded_62 : decode cX4_fewestAdded 62 = .ok (.invokevirtual 42, 3) := by decide +kernel
theorem dX4_fewestAdded_65 : decode cX4_fewestAdded 65 = .ok (.iload_n 1, 1) := by decide +kernel
theorem dX4_fewestAdded_66 : decode cX4_fewestAdded 66 = .ok (.if_icmp .lt 5, 3) := by decide +kernel
theorem dX4_fewestAdded_69 : decode cX4_fewestAdded 69 = .ok (.iconst 1, 1) := by decide +kernel
theorem dX4_fewestAdded_70 : decode cX4_fewestAdded 70 = .ok (.ireturn, 1) := by decide +kernel
theorem dX4_fewestAdded_71 : decode cX4_fewestAdded 71 = .ok (.iload 6, 2) := by decide +kernel
theorem dX4_fewestAdded_73 : decode cX4_fewestAdded 73 = .ok (.iconst 1, 1) := by decide +kernel
theorem dX4_fewestAdded_74 : decode cX4_fewestAdded 74 = .ok (.iadd, 1) := by decide +kernel
theorem dX4_fewestAdded_75 : decode cX4_fewestAdded 75 = .ok (.istore 8, 2) := by decide +kernel
theorem dX4_fewestAdded_77 : decode cX4_fewestAdded 77 = .ok (.iload 8, 2) := by decide +kernel
theorem dX4_fewestAdded_79 : decode cX4_fewestAdded 79 = .ok (.aload_n 0, 1) := by decide +kernel
theorem dX4_fewestAdded_80 : decode cX4_fewestAdded 80 = .ok (.getfield 9, 3) := by decide +kernel
theorem dX4_fewestAdded_83 : decode cX4_fewestAdded 83 = .ok (.getfield 65, 3) := by decide +kernel
theorem dX4_fewestAdded_86 : decode cX4_fewestAdded 86 = .ok (.if_icmp .ge 48, 3) := by decide +kernel
theorem dX4_fewestAdded_89 : decode cX4_fewestAdded 89 = .ok (.iload 5, 2) := by decide +kernel
theorem dX4_fewestAdded_91 : decode cX4_fewestAdded 91 = .ok (.bipush (-9), 2) := by decide +kernel
theorem dX4_fewestAdded_93 : decode cX4_fewestAdded 93 = .ok (.if_icmp .ne 41, 3) := by decide +kernel
theorem dX4_fewestAdded_96 : decode cX4_fewestAdded 96 = .ok (.iload 4, 2) := by decide +kernel
theorem dX4_fewestAdded_98 : decode cX4_fewestAdded 98 = .ok (.iload 8, 2) := by decide +kernel
theorem dX4_fewestAdded_100 : decode cX4_fewestAdded 100 = .ok (.invokestatic 68, 3) := by decide +kernel
theorem dX4_fewestAdded_103 : decode cX4_fewestAdded 103 = .ok (.ifCond .eq 25, 3) := by decide +kernel
theorem dX4_fewestAdded_106 : decode cX4_fewestAdded 106 = .ok (.aload_n 0, 1) := by decide +kernel
theorem dX4_fewestAdded_107 : decode cX4_fewestAdded 107 = .ok (.getfield 15, 3) := by decide +kernel
theorem dX4_fewestAdded_110 : decode cX4_fewestAdded 110 = .ok (.iload_n 2, 1) := by decide +kernel
theorem dX4_fewestAdded_111 : decode cX4_fewestAdded 111 = .ok (.iload 7, 2) := by decide +kernel
theorem dX4_fewestAdded_113 : decode cX4_fewestAdded 113 = .ok (.iconst 1, 1) := by decide +kernel
theorem dX4_fewestAdded_114 : decode cX4_fewestAdded 114 = .ok (.iload 8, 2) := by decide +kernel
theorem dX4_fewestAdded_116 : decode cX4_fewestAdded 116 = .ok (.ishl, 1) := by decide +kernel
theorem dX4_fewestAdded_117 : decode cX4_fewestAdded 117 = .ok (.ior, 1) := by decide +kernel
theorem dX4_fewestAdded_118 : decode cX4_fewestAdded 118 = .ok (.invokevirtual 42, 3) := by decide +kernel
theorem dX4_fewestAdded_121 : decode cX4_fewestAdded 121 = .ok (.iload_n 1, 1) := by decide +kernel
theorem dX4_fewestAdded_122 : decode cX4_fewestAdded 122 = .ok (.if_icmp .lt 6, 3) := by decide +kernel
theorem dX4_fewestAdded_125 : decode cX4_fewestAdded 125 = .ok (.iconst 2, 1) := by decide +kernel
theorem dX4_fewestAdded_126 : decode cX4_fewestAdded 126 = .ok (.istore 5, 2) := by decide +kernel
theorem dX4_fewestAdded_128 : decode cX4_fewestAdded 128 = .ok (.iinc 8 1, 3) := by decide +kernel
theorem dX4_fewestAdded_131 : decode cX4_fewestAdded 131 = .ok (.goto (-54), 3) := by decide +kernel
theorem dX4_fewestAdded_134 : decode cX4_fewestAdded 134 = .ok (.iinc 6 1, 3) := by decide +kernel
theorem dX4_fewestAdded_137 : decode cX4_fewestAdded 137 = .ok (.goto (-115), 3) := by decide +kernel
theorem dX4_fewestAdded_140 : decode cX4_fewestAdded 140 = .ok (.iload 5, 2) := by decide +kernel
theorem dX4_fewestAdded_142 : decode cX4_fewestAdded 142 = .ok (.ireturn, 1) := by decide +kernel
theorem dX4_moreFor_0 : decode cX4_moreFor 0 = .ok (.aload_n 0, 1) := by decide +kernel
theorem dX4_moreFor_1 : decode cX4_moreFor 1 = .ok (.getfield 19, 3) := by decide +kernel
theorem dX4_moreFor_4 : decode cX4_moreFor 4 = .ok (.getfield 50, 3) := by decide +kernel
theorem dX4_moreFor_7 : decode cX4_moreFor 7 = .ok (.iload_n 2, 1) := by decide +kernel
theorem dX4_moreFor_8 : decode cX4_moreFor 8 = .ok (.iaload, 1) := by decide +kernel
theorem dX4_moreFor_9 : decode cX4_moreFor 9 = .ok (.aload_n 0, 1) := by decide +kernel
theorem dX4_moreFor_10 : decode cX4_moreFor 10 = .ok (.getfield 19, 3) := by decide +kernel
theorem dX4_moreFor_13 : decode cX4_moreFor 13 = .ok (.getfield 54, 3) := by decide +kernel
theorem dX4_moreFor_16 : decode cX4_moreFor 16 = .ok (.iload_n 2, 1) := by decide +kernel
theorem dX4_moreFor_17 : decode cX4_moreFor 17 = .ok (.iaload, 1) := by decide +kernel
theorem dX4_moreFor_18 : decode cX4_moreFor 18 = .ok (.ior, 1) := by decide +kernel
theorem dX4_moreFor_19 : decode cX4_moreFor 19 = .ok (.istore_n 3, 1) := by decide +kernel
theorem dX4_moreFor_20 : decode cX4_moreFor 20 = .ok (.aload_n 0, 1) := by decide +kernel
theorem dX4_moreFor_21 : decode cX4_moreFor 21 = .ok (.iload_n 1, 1) := by decide +kernel
theorem dX4_moreFor_22 : decode cX4_moreFor 22 = .ok (.iload_n 2, 1) := by decide +kernel
theorem dX4_moreFor_23 : decode cX4_moreFor 23 = .ok (.iload_n 3, 1) := by decide +kernel
theorem dX4_moreFor_24 : decode cX4_moreFor 24 = .ok (.aload_n 0, 1) := by decide +kernel
theorem dX4_moreFor_25 : decode cX4_moreFor 25 = .ok (.getfield 9, 3) := by decide +kernel
theorem dX4_moreFor_28 : decode cX4_moreFor 28 = .ok (.invokevirtual 57, 3) := by decide +kernel
theorem dX4_moreFor_31 : decode cX4_moreFor 31 = .ok (.iload_n 3, 1) := by decide +kernel
theorem dX4_moreFor_32 : decode cX4_moreFor 32 = .ok (.iconst (-1), 1) := by decide +kernel
theorem dX4_moreFor_33 : decode cX4_moreFor 33 = .ok (.ixor, 1) := by decide +kernel
theorem dX4_moreFor_34 : decode cX4_moreFor 34 = .ok (.iand, 1) := by decide +kernel
theorem dX4_moreFor_35 : decode cX4_moreFor 35 = .ok (.invokevirtual 61, 3) := by decide +kernel
theorem dX4_moreFor_38 : decode cX4_moreFor 38 = .ok (.ireturn, 1) := by decide +kernel
theorem dX4_moreForAll_0 : decode cX4_moreForAll 0 = .ok (.iconst 0, 1) := by decide +kernel
theorem dX4_moreForAll_1 : decode cX4_moreForAll 1 = .ok (.istore_n 2, 1) := by decide +kernel
theorem dX4_moreForAll_2 : decode cX4_moreForAll 2 = .ok (.iconst 0, 1) := by decide +kernel
theorem dX4_moreForAll_3 : decode cX4_moreForAll 3 = .ok (.istore_n 3, 1) := by decide +kernel
theorem dX4_moreForAll_4 : decode cX4_moreForAll 4 = .ok (.iload_n 3, 1) := by decide +kernel
theorem dX4_moreForAll_5 : decode cX4_moreForAll 5 = .ok (.aload_n 0, 1) := by decide +kernel
theorem dX4_moreForAll_6 : decode cX4_moreForAll 6 = .ok (.getfield 9, 3) := by decide +kernel
theorem dX4_moreForAll_9 : decode cX4_moreForAll 9 = .ok (.getfield 27, 3) := by decide +kernel
theorem dX4_moreForAll_12 : decode cX4_moreForAll 12 = .ok (.if_icmp .ge 32, 3) := by decide +kernel
theorem dX4_moreForAll_15 : decode cX4_moreForAll 15 = .ok (.aload_n 0, 1) := by decide +kernel
theorem dX4_moreForAll_16 : decode cX4_moreForAll 16 = .ok (.iload_n 1, 1) := by decide +kernel
theorem dX4_moreForAll_17 : decode cX4_moreForAll 17 = .ok (.iload_n 3, 1) := by decide +kernel
theorem dX4_moreForAll_18 : decode cX4_moreForAll 18 = .ok (.invokevirtual 47, 3) := by decide +kernel
theorem dX4_moreForAll_21 : decode cX4_moreForAll 21 = .ok (.istore 4, 2) := by decide +kernel
theorem dX4_moreForAll_23 : decode cX4_moreForAll 23 = .ok (.iload 4, 2) := by decide +kernel
theorem dX4_moreForAll_25 : decode cX4_moreForAll 25 = .ok (.bipush (-9), 2) := by decide +kernel
theorem dX4_moreForAll_27 : decode cX4_moreForAll 27 = .ok (.if_icmp .ne 6, 3) := by decide +kernel
theorem dX4_moreForAll_30 : decode cX4_moreForAll 30 = .ok (.bipush (-9), 2) := by decide +kernel
theorem dX4_moreForAll_32 : decode cX4_moreForAll 32 = .ok (.ireturn, 1) := by decide +kernel
theorem dX4_moreForAll_33 : decode cX4_moreForAll 33 = .ok (.iload_n 2, 1) := by decide +kernel
theorem dX4_moreForAll_34 : decode cX4_moreForAll 34 = .ok (.iload 4, 2) := by decide +kernel
theorem dX4_moreForAll_36 : decode cX4_moreForAll 36 = .ok (.iadd, 1) := by decide +kernel
theorem dX4_moreForAll_37 : decode cX4_moreForAll 37 = .ok (.istore_n 2, 1) := by decide +kernel
theorem dX4_moreForAll_38 : decode cX4_moreForAll 38 = .ok (.iinc 3 1, 3) := by decide +kernel
theorem dX4_moreForAll_41 : decode cX4_moreForAll 41 = .ok (.goto (-37), 3) := by decide +kernel
theorem dX4_moreForAll_44 : decode cX4_moreForAll 44 = .ok (.iload_n 2, 1) := by decide +kernel
theorem dX4_moreForAll_45 : decode cX4_moreForAll 45 = .ok (.ireturn, 1) := by decide +kernel
theorem dX4_quickEnough_0 : decode cX4_quickEnough 0 = .ok (.iconst 0, 1) := by decide +kernel
theorem dX4_quickEnough_1 : decode cX4_quickEnough 1 = .ok (.istore_n 2, 1) := by decide +kernel
theorem dX4_quickEnough_2 : decode cX4_quickEnough 2 = .ok (.iconst 0, 1) := by decide +kernel
theorem dX4_quickEnough_3 : decode cX4_quickEnough 3 = .ok (.istore_n 3, 1) := by decide +kernel
theorem dX4_quickEnough_4 : decode cX4_quickEnough 4 = .ok (.iload_n 3, 1) := by decide +kernel
theorem dX4_quickEnough_5 : decode cX4_quickEnough 5 = .ok (.aload_n 0, 1) := by decide +kernel
theorem dX4_quickEnough_6 : decode cX4_quickEnough 6 = .ok (.getfield 9, 3) := by decide +kernel
theorem dX4_quickEnough_9 : decode cX4_quickEnough 9 = .ok (.getfield 65, 3) := by decide +kernel
theorem dX4_quickEnough_12 : decode cX4_quickEnough 12 = .ok (.if_icmp .ge 28, 3) := by decide +kernel
theorem dX4_quickEnough_15 : decode cX4_quickEnough 15 = .ok (.aload_n 0, 1) := by decide +kernel
theorem dX4_quickEnough_16 : decode cX4_quickEnough 16 = .ok (.getfield 9, 3) := by decide +kernel
theorem dX4_quickEnough_19 : decode cX4_quickEnough 19 = .ok (.getfield 78, 3) := by decide +kernel
theorem dX4_quickEnough_22 : decode cX4_quickEnough 22 = .ok (.iload_n 3, 1) := by decide +kernel
theorem dX4_quickEnough_23 : decode cX4_quickEnough 23 = .ok (.iaload, 1) := by decide +kernel
theorem dX4_quickEnough_24 : decode cX4_quickEnough 24 = .ok (.iload_n 1, 1) := by decide +kernel
theorem dX4_quickEnough_25 : decode cX4_quickEnough 25 = .ok (.if_icmp .gt 9, 3) := by decide +kernel
theorem dX4_quickEnough_28 : decode cX4_quickEnough 28 = .ok (.iload_n 2, 1) := by decide +kernel
theorem dX4_quickEnough_29 : decode cX4_quickEnough 29 = .ok (.iconst 1, 1) := by decide +kernel
theorem dX4_quickEnough_30 : decode cX4_quickEnough 30 = .ok (.iload_n 3, 1) := by decide +kernel
theorem dX4_quickEnough_31 : decode cX4_quickEnough 31 = .ok (.ishl, 1) := by decide +kernel
theorem dX4_quickEnough_32 : decode cX4_quickEnough 32 = .ok (.ior, 1) := by decide +kernel
theorem dX4_quickEnough_33 : decode cX4_quickEnough 33 = .ok (.istore_n 2, 1) := by decide +kernel
theorem dX4_quickEnough_34 : decode cX4_quickEnough 34 = .ok (.iinc 3 1, 3) := by decide +kernel
theorem dX4_quickEnough_37 : decode cX4_quickEnough 37 = .ok (.goto (-33), 3) := by decide +kernel
theorem dX4_quickEnough_40 : decode cX4_quickEnough 40 = .ok (.iload_n 2, 1) := by decide +kernel
theorem dX4_quickEnough_41 : decode cX4_quickEnough 41 = .ok (.ireturn, 1) := by decide +kernel
theorem dX4_possibleBehind_0 : decode cX4_possibleBehind 0 = .ok (.aload_n 0, 1) := by decide +kernel
theorem dX4_possibleBehind_1 : decode cX4_possibleBehind 1 = .ok (.iload_n 1, 1) := by decide +kernel
theorem dX4_possibleBehind_2 : decode cX4_possibleBehind 2 = .ok (.invokevirtual 74, 3) := by decide +kernel
theorem dX4_possibleBehind_5 : decode cX4_possibleBehind 5 = .ok (.istore_n 3, 1) := by decide +kernel
theorem dX4_possibleBehind_6 : decode cX4_possibleBehind 6 = .ok (.iconst 0, 1) := by decide +kernel
theorem dX4_possibleBehind_7 : decode cX4_possibleBehind 7 = .ok (.istore 4, 2) := by decide +kernel
theorem dX4_possibleBehind_9 : decode cX4_possibleBehind 9 = .ok (.iload 4, 2) := by decide +kernel
theorem dX4_possibleBehind_11 : decode cX4_possibleBehind 11 = .ok (.aload_n 0, 1) := by decide +kernel
theorem dX4_possibleBehind_12 : decode cX4_possibleBehind 12 = .ok (.getfield 9, 3) := by decide +kernel
theorem dX4_possibleBehind_15 : decode cX4_possibleBehind 15 = .ok (.getfield 27, 3) := by decide +kernel
theorem dX4_possibleBehind_18 : decode cX4_possibleBehind 18 = .ok (.if_icmp .ge 74, 3) := by decide +kernel
theorem dX4_possibleBehind_21 : decode cX4_possibleBehind 21 = .ok (.aload_n 0, 1) := by decide +kernel
theorem dX4_possibleBehind_22 : decode cX4_possibleBehind 22 = .ok (.getfield 19, 3) := by decide +kernel
theorem dX4_possibleBehind_25 : decode cX4_possibleBehind 25 = .ok (.iload 4, 2) := by decide +kernel
theorem dX4_possibleBehind_27 : decode cX4_possibleBehind 27 = .ok (.aload_n 0, 1) := by decide +kernel
theorem dX4_possibleBehind_28 : decode cX4_possibleBehind 28 = .ok (.getfield 19, 3) := by decide +kernel
theorem dX4_possibleBehind_31 : decode cX4_possibleBehind 31 = .ok (.getfield 33, 3) := by decide +kernel
theorem dX4_possibleBehind_34 : decode cX4_possibleBehind 34 = .ok (.iload_n 1, 1) := by decide +kernel
theorem dX4_possibleBehind_35 : decode cX4_possibleBehind 35 = .ok (.iadd, 1) := by decide +kernel
theorem dX4_possibleBehind_36 : decode cX4_possibleBehind 36 = .ok (.invokevirtual 38, 3) := by decide +kernel
theorem dX4_possibleBehind_39 : decode cX4_possibleBehind 39 = .ok (.istore 5, 2) := by decide +kernel
theorem dX4_possibleBehind_41 : decode cX4_possibleBehind 41 = .ok (.iload_n 3, 1) := by decide +kernel
theorem dX4_possibleBehind_42 : decode cX4_possibleBehind 42 = .ok (.aload_n 0, 1) := by decide +kernel
theorem dX4_possibleBehind_43 : decode cX4_possibleBehind 43 = .ok (.getfield 19, 3) := by decide +kernel
theorem dX4_possibleBehind_46 : decode cX4_possibleBehind 46 = .ok (.getfield 50, 3) := by decide +kernel
theorem dX4_possibleBehind_49 : decode cX4_possibleBehind 49 = .ok (.iload 4, 2) := by decide +kernel
theorem dX4_possibleBehind_51 : decode cX4_possibleBehind 51 = .ok (.iaload, 1) := by decide +kernel
theorem dX4_possibleBehind_52 : decode cX4_possibleBehind 52 = .ok (.aload_n 0, 1) := by decide +kernel
theorem dX4_possibleBehind_53 : decode cX4_possibleBehind 53 = .ok (.getfield 19, 3) := by decide +kernel
theorem dX4_possibleBehind_56 : decode cX4_possibleBehind 56 = .ok (.getfield 54, 3) := by decide +kernel
theorem dX4_possibleBehind_59 : decode cX4_possibleBehind 59 = .ok (.iload 4, 2) := by decide +kernel
theorem dX4_possibleBehind_61 : decode cX4_possibleBehind 61 = .ok (.iaload, 1) := by decide +kernel
theorem dX4_possibleBehind_62 : decode cX4_possibleBehind 62 = .ok (.ior, 1) := by decide +kernel
theorem dX4_possibleBehind_63 : decode cX4_possibleBehind 63 = .ok (.iconst (-1), 1) := by decide +kernel
theorem dX4_possibleBehind_64 : decode cX4_possibleBehind 64 = .ok (.ixor, 1) := by decide +kernel
theorem dX4_possibleBehind_65 : decode cX4_possibleBehind 65 = .ok (.iand, 1) := by decide +kernel
theorem dX4_possibleBehind_66 : decode cX4_possibleBehind 66 = .ok (.istore 6, 2) := by decide +kernel
theorem dX4_possibleBehind_68 : decode cX4_possibleBehind 68 = .ok (.aload_n 0, 1) := by decide +kernel
theorem dX4_possibleBehind_69 : decode cX4_possibleBehind 69 = .ok (.iload_n 2, 1) := by decide +kernel
theorem dX4_possibleBehind_70 : decode cX4_possibleBehind 70 = .ok (.iload 4, 2) := by decide +kernel
theorem dX4_possibleBehind_72 : decode cX4_possibleBehind 72 = .ok (.iload 5, 2) := by decide +kernel
theorem dX4_possibleBehind_74 : decode cX4_possibleBehind 74 = .ok (.iload 6, 2) := by decide +kernel
theorem dX4_possibleBehind_76 : decode cX4_possibleBehind 76 = .ok (.invokevirtual 61, 3) := by decide +kernel
theorem dX4_possibleBehind_79 : decode cX4_possibleBehind 79 = .ok (.bipush (-9), 2) := by decide +kernel
theorem dX4_possibleBehind_81 : decode cX4_possibleBehind 81 = .ok (.if_icmp .ne 5, 3) := by decide +kernel
theorem dX4_possibleBehind_84 : decode cX4_possibleBehind 84 = .ok (.iconst 0, 1) := by decide +kernel
theorem dX4_possibleBehind_85 : decode cX4_possibleBehind 85 = .ok (.ireturn, 1) := by decide +kernel
theorem dX4_possibleBehind_86 : decode cX4_possibleBehind 86 = .ok (.iinc 4 1, 3) := by decide +kernel
theorem dX4_possibleBehind_89 : decode cX4_possibleBehind 89 = .ok (.goto (-80), 3) := by decide +kernel
theorem dX4_possibleBehind_92 : decode cX4_possibleBehind 92 = .ok (.iconst 1, 1) := by decide +kernel
theorem dX4_possibleBehind_93 : decode cX4_possibleBehind 93 = .ok (.ireturn, 1) := by decide +kernel
theorem dX4_firstPossible_0 : decode cX4_firstPossible 0 = .ok (.iconst 0, 1) := by decide +kernel
theorem dX4_firstPossible_1 : decode cX4_firstPossible 1 = .ok (.istore_n 2, 1) := by decide +kernel
theorem dX4_firstPossible_2 : decode cX4_firstPossible 2 = .ok (.iload_n 2, 1) := by decide +kernel
theorem dX4_firstPossible_3 : decode cX4_firstPossible 3 = .ok (.bipush 20, 2) := by decide +kernel
theorem dX4_firstPossible_5 : decode cX4_firstPossible 5 = .ok (.if_icmp .gt 20, 3) := by decide +kernel
theorem dX4_firstPossible_8 : decode cX4_firstPossible 8 = .ok (.aload_n 0, 1) := by decide +kernel
theorem dX4_firstPossible_9 : decode cX4_firstPossible 9 = .ok (.iload_n 2, 1) := by decide +kernel
theorem dX4_firstPossible_10 : decode cX4_firstPossible 10 = .ok (.iload_n 1, 1) := by decide +kernel
theorem dX4_firstPossible_11 : decode cX4_firstPossible 11 = .ok (.invokevirtual 71, 3) := by decide +kernel
theorem dX4_firstPossible_14 : decode cX4_firstPossible 14 = .ok (.ifCond .eq 5, 3) := by decide +kernel
