theorem dX8_rateAsPlain_5 : decode cX8_rateAsPlain 5 = .ok (.ldc2_w 292, 3) := by decide +kernel
theorem dX8_rateAsPlain_8 : decode cX8_rateAsPlain 8 = .ok (.ladd, 1) := by decide +kernel
theorem dX8_rateAsPlain_9 : decode cX8_rateAsPlain 9 = .ok (.putfield 90, 3) := by decide +kernel
theorem dX8_rateAsPlain_12 : decode cX8_rateAsPlain 12 = .ok (.aload_n 0, 1) := by decide +kernel
theorem dX8_rateAsPlain_13 : decode cX8_rateAsPlain 13 = .ok (.iload_n 1, 1) := by decide +kernel
theorem dX8_rateAsPlain_14 : decode cX8_rateAsPlain 14 = .ok (.invokevirtual 269, 3) := by decide +kernel
theorem dX8_rateAsPlain_17 : decode cX8_rateAsPlain 17 = .ok (.aload_n 0, 1) := by decide +kernel
theorem dX8_rateAsPlain_18 : decode cX8_rateAsPlain 18 = .ok (.getfield 24, 3) := by decide +kernel
theorem dX8_rateAsPlain_21 : decode cX8_rateAsPlain 21 = .ok (.getfield 130, 3) := by decide +kernel
theorem dX8_rateAsPlain_24 : decode cX8_rateAsPlain 24 = .ok (.iload_n 1, 1) := by decide +kernel
theorem dX8_rateAsPlain_25 : decode cX8_rateAsPlain 25 = .ok (.iaload, 1) := by decide +kernel
theorem dX8_rateAsPlain_26 : decode cX8_rateAsPlain 26 = .ok (.iadd, 1) := by decide +kernel
theorem dX8_rateAsPlain_27 : decode cX8_rateAsPlain 27 = .ok (.ireturn, 1) := by decide +kernel
theorem dX8_rateAsChild_0 : decode cX8_rateAsChild 0 = .ok (.aload_n 0, 1) := by decide +kernel
theorem dX8_rateAsChild_1 : decode cX8_rateAsChild 1 = .ok (.dup, 1) := by decide +kernel
theorem dX8_rateAsChild_2 : decode cX8_rateAsChild 2 = .ok (.getfield 90, 3) := by decide +kernel
theorem dX8_rateAsChild_5 : decode cX8_rateAsChild 5 = .ok (.ldc2_w 294, 3) := by decide +kernel
theorem dX8_rateAsChild_8 : decode cX8_rateAsChild 8 = .ok (.ladd, 1) := by decide +kernel
theorem dX8_rateAsChild_9 : decode cX8_rateAsChild 9 = .ok (.putfield 90, 3) := by decide +kernel
theorem dX8_rateAsChild_12 : decode cX8_rateAsChild 12 = .ok (.iconst 2, 1) := by decide +kernel
theorem dX8_rateAsChild_13 : decode cX8_rateAsChild 13 = .ok (.aload_n 0, 1) := by decide +kernel
theorem dX8_rateAsChild_14 : decode cX8_rateAsChild 14 = .ok (.iload_n 1, 1) := by decide +kernel
theorem dX8_rateAsChild_15 : decode cX8_rateAsChild 15 = .ok (.invokevirtual 272, 3) := by decide +kernel
theorem dX8_rateAsChild_18 : decode cX8_rateAsChild 18 = .ok (.imul, 1) := by decide +kernel
theorem dX8_rateAsChild_19 : decode cX8_rateAsChild 19 = .ok (.ireturn, 1) := by decide +kernel
theorem dX8_rateAsSworn_0 : decode cX8_rateAsSworn 0 = .ok (.aload_n 0, 1) := by decide +kernel
theorem dX8_rateAsSworn_1 : decode cX8_rateAsSworn 1 = .ok (.dup, 1) := by decide +kernel
theorem dX8_rateAsSworn_2 : decode cX8_rateAsSworn 2 = .ok (.getfield 90, 3) := by decide +kernel
theorem dX8_rateAsSworn_5 : decode cX8_rateAsSworn 5 = .ok (.ldc2_w 296, 3) := by decide +kernel
theorem dX8_rateAsSworn_8 : decode cX8_rateAsSworn 8 = .ok (.ladd, 1) := by decide +kernel
theorem dX8_rateAsSworn_9 : decode cX8_rateAsSworn 9 = .ok (.putfield 90, 3) := by decide +kernel
theorem dX8_rateAsSworn_12 : decode cX8_rateAsSworn 12 = .ok (.aload_n 0, 1) := by decide +kernel
theorem dX8_rateAsSworn_13 : decode cX8_rateAsSworn 13 = .ok (.iload_n 1, 1) := by decide +kernel
theorem dX8_rateAsSworn_14 : decode cX8_rateAsSworn 14 = .ok (.invokevirtual 269, 3) := by decide +kernel
theorem dX8_rateAsSworn_17 : decode cX8_rateAsSworn 17 = .ok (.aload_n 0, 1) := by decide +kernel
theorem dX8_rateAsSworn_18 : decode cX8_rateAsSworn 18 = .ok (.aload_n 0, 1) := by decide +kernel
theorem dX8_rateAsSworn_19 : decode cX8_rateAsSworn 19 = .ok (.getfield 48, 3) := by decide +kernel
theorem dX8_rateAsSworn_22 : decode cX8_rateAsSworn 22 = .ok (.getfield 133, 3) := by decide +kernel
theorem dX8_rateAsSworn_25 : decode cX8_rateAsSworn 25 = .ok (.iload_n 1, 1) := by decide +kernel
theorem dX8_rateAsSworn_26 : decode cX8_rateAsSworn 26 = .ok (.invokevirtual 136, 3) := by decide +kernel
theorem dX8_rateAsSworn_29 : decode cX8_rateAsSworn 29 = .ok (.invokestatic 298, 3) := by decide +kernel
theorem dX8_rateAsSworn_32 : decode cX8_rateAsSworn 32 = .ok (.iadd, 1) := by decide +kernel
theorem dX8_rateAsSworn_33 : decode cX8_rateAsSworn 33 = .ok (.ireturn, 1) := by decide +kernel
theorem dX8_rateAsMerchant_0 : decode cX8_rateAsMerchant 0 = .ok (.aload_n 0, 1) := by decide +kernel
theorem dX8_rateAsMerchant_1 : decode cX8_rateAsMerchant 1 = .ok (.dup, 1) := by decide +kernel
theorem dX8_rateAsMerchant_2 : decode cX8_rateAsMerchant 2 = .ok (.getfield 90, 3) := by decide +kernel
theorem dX8_rateAsMerchant_5 : decode cX8_rateAsMerchant 5 = .ok (.ldc2_w 303, 3) := by decide +kernel
theorem dX8_rateAsMerchant_8 : decode cX8_rateAsMerchant 8 = .ok (.ladd, 1) := by decide +kernel
theorem dX8_rateAsMerchant_9 : decode cX8_rateAsMerchant 9 = .ok (.putfield 90, 3) := by decide +kernel
theorem dX8_rateAsMerchant_12 : decode cX8_rateAsMerchant 12 = .ok (.aload_n 0, 1) := by decide +kernel
theorem dX8_rateAsMerchant_13 : decode cX8_rateAsMerchant 13 = .ok (.aload_n 0, 1) := by decide +kernel
theorem dX8_rateAsMerchant_14 : decode cX8_rateAsMerchant 14 = .ok (.getfield 48, 3) := by decide +kernel
theorem dX8_rateAsMerchant_17 : decode cX8_rateAsMerchant 17 = .ok (.getfield 133, 3) := by decide +kernel
theorem dX8_rateAsMerchant_20 : decode cX8_rateAsMerchant 20 = .ok (.iload_n 1, 1) := by decide +kernel
theorem dX8_rateAsMerchant_21 : decode cX8_rateAsMerchant 21 = .ok (.invokevirtual 136, 3) := by decide +kernel
theorem dX8_rateAsMerchant_24 : decode cX8_rateAsMerchant 24 = .ok (.aload_n 0, 1) := by decide +kernel
theorem dX8_rateAsMerchant_25 : decode cX8_rateAsMerchant 25 = .ok (.aload_n 0, 1) := by decide +kernel
theorem dX8_rateAsMerchant_26 : decode cX8_rateAsMerchant 26 = .ok (.getfield 48, 3) := by decide +kernel
theorem dX8_rateAsMerchant_29 : decode cX8_rateAsMerchant 29 = .ok (.getfield 140, 3) := by decide +kernel
theorem dX8_rateAsMerchant_32 : decode cX8_rateAsMerchant 32 = .ok (.iload_n 1, 1) := by decide +kernel
theorem dX8_rateAsMerchant_33 : decode cX8_rateAsMerchant 33 = .ok (.invokevirtual 136, 3) := by decide +kernel
theorem dX8_rateAsMerchant_36 : decode cX8_rateAsMerchant 36 = .ok (.ior, 1) := by decide +kernel
theorem dX8_rateAsMerchant_37 : decode cX8_rateAsMerchant 37 = .ok (.istore_n 2, 1) := by decide +kernel
theorem dX8_rateAsMerchant_38 : decode cX8_rateAsMerchant 38 = .ok (.aload_n 0, 1) := by decide +kernel
theorem dX8_rateAsMerchant_39 : decode cX8_rateAsMerchant 39 = .ok (.iload_n 1, 1) := by decide +kernel
theorem dX8_rateAsMerchant_40 : decode cX8_rateAsMerchant 40 = .ok (.invokevirtual 269, 3) := by decide +kernel
theorem dX8_rateAsMerchant_43 : decode cX8_rateAsMerchant 43 = .ok (.iload_n 2, 1) := by decide +kernel
theorem dX8_rateAsMerchant_44 : decode cX8_rateAsMerchant 44 = .ok (.invokestatic 298, 3) := by decide +kernel
theorem dX8_rateAsMerchant_47 : decode cX8_rateAsMerchant 47 = .ok (.isub, 1) := by decide +kernel
theorem dX8_rateAsMerchant_48 : decode cX8_rateAsMerchant 48 = .ok (.ireturn, 1) := by decide +kernel
theorem dX8_rateAsLiar_0 : decode cX8_rateAsLiar 0 = .ok (.aload_n 0, 1) := by decide +kernel
theorem dX8_rateAsLiar_1 : decode cX8_rateAsLiar 1 = .ok (.dup, 1) := by decide +kernel
theorem dX8_rateAsLiar_2 : decode cX8_rateAsLiar 2 = .ok (.getfield 90, 3) := by decide +kernel
theorem dX8_rateAsLiar_5 : decode cX8_rateAsLiar 5 = .ok (.ldc2_w 305, 3) := by decide +kernel
theorem dX8_rateAsLiar_8 : decode cX8_rateAsLiar 8 = .ok (.ladd, 1) := by decide +kernel
theorem dX8_rateAsLiar_9 : decode cX8_rateAsLiar 9 = .ok (.putfield 90, 3) := by decide +kernel
theorem dX8_rateAsLiar_12 : decode cX8_rateAsLiar 12 = .ok (.iconst 3, 1) := by decide +kernel
theorem dX8_rateAsLiar_13 : decode cX8_rateAsLiar 13 = .ok (.aload_n 0, 1) := by decide +kernel
theorem dX8_rateAsLiar_14 : decode cX8_rateAsLiar 14 = .ok (.iload_n 1, 1) := by decide +kernel
theorem dX8_rateAsLiar_15 : decode cX8_rateAsLiar 15 = .ok (.invokevirtual 281, 3) := by decide +kernel
theorem dX8_rateAsLiar_18 : decode cX8_rateAsLiar 18 = .ok (.imul, 1) := by decide +kernel
theorem dX8_rateAsLiar_19 : decode cX8_rateAsLiar 19 = .ok (.iload_n 1, 1) := by decide +kernel
theorem dX8_rateAsLiar_20 : decode cX8_rateAsLiar 20 = .ok (.iadd, 1) := by decide +kernel
theorem dX8_rateAsLiar_21 : decode cX8_rateAsLiar 21 = .ok (.ireturn, 1) := by decide +kernel
theorem dX8_rate_0 : decode cX8_rate 0 = .ok (.aload_n 0, 1) := by decide +kernel
theorem dX8_rate_1 : decode cX8_rate 1 = .ok (.getfield 24, 3) := by decide +kernel
theorem dX8_rate_4 : decode cX8_rate 4 = .ok (.iload_n 2, 1) := by decide +kernel
theorem dX8_rate_5 : decode cX8_rate 5 = .ok (.invokevirtual 117, 3) := by decide +kernel
theorem dX8_rate_8 : decode cX8_rate 8 = .ok (.ifCond .ne 7, 3) := by decide +kernel
theorem dX8_rate_11 : decode cX8_rate 11 = .ok (.ldc_w 268, 3) := by decide +kernel
theorem dX8_rate_14 : decode cX8_rate 14 = .ok (.ireturn, 1) := by decide +kernel
theorem dX8_rate_15 : decode cX8_rate 15 = .ok (.iload_n 1, 1) := by decide +kernel
theorem dX8_rate_16 : decode cX8_rate 16 = .ok (.tableswitch 76 0 5 #[40, 46, 52, 58, 64, 70], 40) := by decide +kernel
theorem dX8_rate_56 : decode cX8_rate 56 = .ok (.aload_n 0, 1) := by decide +kernel
theorem dX8_rate_57 : decode cX8_rate 57 = .ok (.iload_n 2, 1) := by decide +kernel
theorem dX8_rate_58 : decode cX8_rate 58 = .ok (.invokevirtual 269, 3) := by decide +kernel
theorem dX8_rate_61 : decode cX8_rate 61 = .ok (.ireturn, 1) := by decide +kernel
theorem dX8_rate_62 : decode cX8_rate 62 = .ok (.aload_n 0, 1) := by decide +kernel
theorem dX8_rate_63 : decode cX8_rate 63 = .ok (.iload_n 2, 1) := by decide +kernel
theorem dX8_rate_64 : decode cX8_rate 64 = .ok (.invokevirtual 272, 3) := by decide +kernel
theorem dX8_rate_67 : decode cX8_rate 67 = .ok (.ireturn, 1) := by decide +kernel
theorem dX8_rate_68 : decode cX8_rate 68 = .ok (.aload_n 0, 1) := by decide +kernel
theorem dX8_rate_69 : decode cX8_rate 69 = .ok (.iload_n 2, 1) := by decide +kernel
theorem dX8_rate_70 : decode cX8_rate 70 = .ok (.invokevirtual 275, 3) := by decide +kernel
theorem dX8_rate_73 : decode cX8_rate 73 = .ok (.ireturn, 1) := by decide +kernel
theorem dX8_rate_74 : decode cX8_rate 74 = .ok (.aload_n 0, 1) := by decide +kernel
theorem dX8_rate_75 : decode cX8_rate 75 = .ok (.iload_n 2, 1) := by decide +kernel
theorem dX8_rate_76 : decode cX8_rate 76 = .ok (.invokevirtual 278, 3) := by decide +kernel
theorem dX8_rate_79 : decode cX8_rate 79 = .ok (.ireturn, 1) := by decide +kernel
theorem dX8_rate_80 : decode cX8_rate 80 = .ok (.aload_n 0, 1) := by decide +kernel
theorem dX8_rate_81 : decode cX8_rate 81 = .ok (.iload_n 2, 1) := by decide +kernel
theorem dX8_rate_82 : decode cX8_rate 82 = .ok (.invokevirtual 281, 3) := by decide +kernel
theorem dX8_rate_85 : decode cX8_rate 85 = .ok (.ireturn, 1) := by decide +kernel
theorem dX8_rate_86 : decode cX8_rate 86 = .ok (.aload_n 0, 1) := by decide +kernel
theorem dX8_rate_87 : decode cX8_rate 87 = .ok (.iload_n 2, 1) := by decide +kernel
theorem dX8_rate_88 : decode cX8_rate 88 = .ok (.invokevirtual 284, 3) := by decide +kernel
theorem dX8_rate_91 : decode cX8_rate 91 = .ok (.ireturn, 1) := by decide +kernel
theorem dX8_rate_92 : decode cX8_rate 92 = .ok (.ldc_w 268, 3) := by decide +kernel
theorem dX8_rate_95 : decode cX8_rate 95 = .ok (.ireturn, 1) := by decide +kernel
theorem dX8_keep_0 : decode cX8_keep 0 = .ok (.iload_n 1, 1) := by decide +kernel
theorem dX8_keep_1 : decode cX8_keep 1 = .ok (.iconst 0, 1) := by decide +kernel
theorem dX8_keep_2 : decode cX8_keep 2 = .ok (.iconst 1, 1) := by decide +kernel
theorem dX8_keep_3 : decode cX8_keep 3 = .ok (.invokestatic 94, 3) := by decide +kernel
theorem dX8_keep_6 : decode cX8_keep 6 = .ok (.ifCond .ne 5, 3) := by decide +kernel
theorem dX8_keep_9 : decode cX8_keep 9 = .ok (.iconst (-1), 1) := by decide +kernel
theorem dX8_keep_10 : decode cX8_keep 10 = .ok (.ireturn, 1) := by decide +kernel
theorem dX8_keep_11 : decode cX8_keep 11 = .ok (.aload_n 0, 1) := by decide +kernel
theorem dX8_keep_12 : decode cX8_keep 12 = .ok (.getfield 59, 3) := by decide +kernel
theorem dX8_keep_15 : decode cX8_keep 15 = .ok (.iload_n 1, 1) := by decide +kernel
theorem dX8_keep_16 : decode cX8_keep 16 = .ok (.aaload, 1) := by decide +kernel
theorem dX8_keep_17 : decode cX8_keep 17 = .ok (.aload_n 0, 1) := by decide +kernel
theorem dX8_keep_18 : decode cX8_keep 18 = .ok (.getfield 48, 3) := by decide +kernel
theorem dX8_keep_21 : decode cX8_keep 21 = .ok (.invokevirtual 287, 3) := by decide +kernel
theorem dX8_keep_24 : decode cX8_keep 24 = .ok (.aload_n 0, 1) := by decide +kernel
theorem dX8_keep_25 : decode cX8_keep 25 = .ok (.getfield 63, 3) := by decide +kernel
theorem dX8_keep_28 : decode cX8_keep 28 = .ok (.iload_n 1, 1) := by decide +kernel
theorem dX8_keep_29 : decode cX8_keep 29 = .ok (.iconst 1, 1) := by decide +kernel
theorem dX8_keep_30 : decode cX8_keep 30 = .ok (.bastore, 1) := by decide +kernel
theorem dX8_keep_31 : decode cX8_keep 31 = .ok (.aload_n 0, 1) := by decide +kernel
theorem dX8_keep_32 : decode cX8_keep 32 = .ok (.getfield 48, 3) := by decide +kernel
theorem dX8_keep_35 : decode cX8_keep 35 = .ok (.getfield 170, 3) := by decide +kernel
theorem dX8_keep_38 : decode cX8_keep 38 = .ok (.ireturn, 1) := by decide +kernel
theorem dX8_back_0 : decode cX8_back 0 = .ok (.iload_n 1, 1) := by decide +kernel
theorem dX8_back_1 : decode cX8_back 1 = .ok (.iconst 0, 1) := by decide +kernel
theorem dX8_back_2 : decode cX8_back 2 = .ok (.iconst 1, 1) := by decide +kernel
theorem dX8_back_3 : decode cX8_back 3 = .ok (.invokestatic 94, 3) := by decide +kernel
theorem dX8_back_6 : decode cX8_back 6 = .ok (.ifCond .ne 5, 3) := by decide +kernel
theorem dX8_back_9 : decode cX8_back 9 = .ok (.iconst (-1), 1) := by decide +kernel
theorem dX8_back_10 : decode cX8_back 10 = .ok (.ireturn, 1) := by decide +kernel
theorem dX8_back_11 : decode cX8_back 11 = .ok (.aload_n 0, 1) := by decide +kernel
theorem dX8_back_12 : decode cX8_back 12 = .ok (.getfield 63, 3) := by decide +kernel
theorem dX8_back_15 : decode cX8_back 15 = .ok (.iload_n 1, 1) := by decide +kernel
theorem dX8_back_16 : decode cX8_back 16 = .ok (.baload, 1) := by decide +kernel
theorem dX8_back_17 : decode cX8_back 17 = .ok (.ifCond .ne 6, 3) := by decide +kernel
theorem dX8_back_20 : decode cX8_back 20 = .ok (.bipush (-2), 2) := by decide +kernel
theorem dX8_back_22 : decode cX8_back 22 = .ok (.ireturn, 1) := by decide +kernel
theorem dX8_back_23 : decode cX8_back 23 = .ok (.aload_n 0, 1) := by decide +kernel
theorem dX8_back_24 : decode cX8_back 24 = .ok (.getfield 48, 3) := by decide +kernel
theorem dX8_back_27 : decode cX8_back 27 = .ok (.aload_n 0, 1) := by decide +kernel
theorem dX8_back_28 : decode cX8_back 28 = .ok (.getfield 59, 3) := by decide +kernel
theorem dX8_back_31 : decode cX8_back 31 = .ok (.iload_n 1, 1) := by decide +kernel
theorem dX8_back_32 : decode cX8_back 32 = .ok (.aaload, 1) := by decide +kernel
theorem dX8_back_33 : decode cX8_back 33 = .ok (.invokevirtual 287, 3) := by decide +kernel
theorem dX8_back_36 : decode cX8_back 36 = .ok (.aload_n 0, 1) := by decide +kernel
theorem dX8_back_37 : decode cX8_back 37 = .ok (.getfield 55, 3) := by decide +kernel
theorem dX8_back_40 : decode cX8_back 40 = .ok (.invokevirtual 111, 3) := by decide +kernel
theorem dX8_back_43 : decode cX8_back 43 = .ok (.aload_n 0, 1) := by decide +kernel
theorem dX8_back_44 : decode cX8_back 44 = .ok (.getfield 48, 3) := by decide +kernel
theorem dX8_back_47 : decode cX8_back 47 = .ok (.getfield 170, 3) := by decide +kernel
theorem dX8_back_50 : decode cX8_back 50 = .ok (.ireturn, 1) := by decide +kernel
theorem dX8_count_0 : decode cX8_count 0 = .ok (.iload_n 1, 1) := by decide +kernel
theorem dX8_count_1 : decode cX8_count 1 = .ok (.tableswitch 60 0 3 #[31, 39, 47, 55], 31) := by decide +kernel
theorem dX8_count_32 : decode cX8_count 32 = .ok (.aload_n 0, 1) := by decide +kernel
theorem dX8_count_33 : decode cX8_count 33 = .ok (.getfield 24, 3) := by decide +kernel
theorem dX8_count_36 : decode cX8_count 36 = .ok (.getfield 289, 3) := by decide +kernel
theorem dX8_count_39 : decode cX8_count 39 = .ok (.ireturn, 1) := by decide +kernel
theorem dX8_count_40 : decode cX8_count 40 = .ok (.aload_n 0, 1) := by decide +kernel
theorem dX8_count_41 : decode cX8_count 41 = .ok (.getfield 24, 3) := by decide +kernel
theorem dX8_count_44 : decode cX8_count 44 = .ok (.getfield 239, 3) := by decide +kernel
theorem dX8_count_47 : decode cX8_count 47 = .ok (.ireturn, 1) := by decide +kernel
theorem dX8_count_48 : decode cX8_count 48 = .ok (.aload_n 0, 1) := by decide +kernel
theorem dX8_count_49 : decode cX8_count 49 = .ok (.getfield 86, 3) := by decide +kernel
theorem dX8_count_52 : decode cX8_count 52 = .ok (.getfield 114, 3) := by decide +kernel
theorem dX8_count_55 : decode cX8_count 55 = .ok (.ireturn, 1) := by decide +kernel
theorem dX8_count_56 : decode cX8_count 56 = .ok (.aload_n 0, 1) := by decide +kernel
theorem dX8_count_57 : decode cX8_count 57 = .ok (.getfield 13, 3) := by decide +kernel
theorem dX8_count_60 : decode cX8_count 60 = .ok (.ireturn, 1) := by decide +kernel
theorem dX8_count_61 : decode cX8_count 61 = .ok (.iconst (-1), 1) := by decide +kernel
theorem dX8_count_62 : decode cX8_count 62 = .ok (.ireturn, 1) := by decide +kernel
theorem dX8_trace_0 : decode cX8_trace 0 = .ok (.aload_n 0, 1) := by decide +kernel
theorem dX8_trace_1 : decode cX8_trace 1 = .ok (.getfield 90, 3) := by decide +kernel
theorem dX8_trace_4 : decode cX8_trace 4 = .ok (.lreturn, 1) := by decide +kernel
theorem dX9_in_0 : decode cX9_in 0 = .ok (.iload_n 0, 1) := by decide +kernel
theorem dX9_in_1 : decode cX9_in 1 = .ok (.iload_n 1, 1) := by decide +kernel
theorem dX9_in_2 : decode cX9_in 2 = .ok (.if_icmp .lt 12, 3) := by decide +kernel
theorem dX9_in_5 : decode cX9_in 5 = .ok (.iload_n 0, 1) := by decide +kernel
theorem dX9_in_6 : decode cX9_in 6 = .ok (.iload_n 2, 1) := by decide +kernel
theorem dX9_in_7 : decode cX9_in 7 = .ok (.if_icmp .gt 7, 3) := by decide +kernel
theorem dX9_in_10 : decode cX9_in 10 = .ok (.iconst 1, 1) := by decide +kernel
theorem dX9_in_11 : decode cX9_in 11 = .ok (.goto 4, 3) := by decide +kernel
theorem dX9_in_14 : decode cX9_in 14 = .ok (.iconst 0, 1) := by decide +kernel
theorem dX9_in_15 : decode cX9_in 15 = .ok (.ireturn, 1) := by decide +kernel
theorem dX9_has_0 : decode cX9_has 0 = .ok (.iload_n 0, 1) := by decide +kernel
theorem dX9_has_1 : decode cX9_has 1 = .ok (.iload_n 1, 1) := by decide +kernel
theorem dX9_has_2 : decode cX9_has 2 = .ok (.ishr, 1) := by decide +kernel
theorem dX9_has_3 : decode cX9_has 3 = .ok (.iconst 1, 1) := by decide +kernel
theorem dX9_has_4 : decode cX9_has 4 = .ok (.iand, 1) := by decide +kernel
theorem dX9_has_5 : decode cX9_has 5 = .ok (.iconst 1, 1) := by decide +kernel
theorem dX9_has_6 : decode cX9_has 6 = .ok (.if_icmp .ne 7, 3) := by decide +kernel
theorem dX9_has_9 : decode cX9_has 9 = .ok (.iconst 1, 1) := by decide +kernel
theorem dX9_has_10 : decode cX9_has 10 = .ok (.goto 4, 3) := by decide +kernel
theorem dX9_has_13 : decode cX9_has 13 = .ok (.iconst 0, 1) := by decide +kernel
theorem dX9_has_14 : decode cX9_has 14 = .ok (.ireturn, 1) := by decide +kernel
theorem dX9_ones_0 : decode cX9_ones 0 = .ok (.iconst 0, 1) := by decide +kernel
theorem dX9_ones_1 : decode cX9_ones 1 = .ok (.istore_n 1, 1) := by decide +kernel
theorem dX9_ones_2 : decode cX9_ones 2 = .ok (.iconst 0, 1) := by decide +kernel
theorem dX9_ones_3 : decode cX9_ones 3 = .ok (.istore_n 2, 1) := by decide +kernel
theorem dX9_ones_4 : decode cX9_ones 4 = .ok (.iload_n 2, 1) := by decide +kernel
theorem dX9_ones_5 : decode cX9_ones 5 = .ok (.bipush 9, 2) := by decide +kernel
theorem dX9_ones_7 : decode cX9_ones 7 = .ok (.if_icmp .ge 17, 3) := by decide +kernel
theorem dX9_ones_10 : decode cX9_ones 10 = .ok (.iload_n 1, 1) := by decide +kernel
theorem dX9_ones_11 : decode cX9_ones 11 = .ok (.iload_n 0, 1) := by decide +kernel
theorem dX9_ones_12 : decode cX9_ones 12 = .ok (.iload_n 2, 1) := by decide +kernel
theorem dX9_ones_13 : decode cX9_ones 13 = .ok (.ishr, 1) := by decide +kernel
theorem dX9_ones_14 : decode cX9_ones 14 = .ok (.iconst 1, 1) := by decide +kernel
theorem dX9_ones_15 : decode cX9_ones 15 = .ok (.iand, 1) := by decide +kernel
theorem dX9_ones_16 : decode cX9_ones 16 = .ok (.iadd, 1) := by decide +kernel
theorem dX9_ones_17 : decode cX9_ones 17 = .ok (.istore_n 1, 1) := by decide +kernel
theorem dX9_ones_18 : decode cX9_ones 18 = .ok (.iinc 2 1, 3) := by decide +kernel
theorem dX9_ones_21 : decode cX9_ones 21 = .ok (.goto (-17), 3) := by decide +kernel
theorem dX9_ones_24 : decode cX9_ones 24 = .ok (.iload_n 1, 1) := by decide +kernel
theorem dX9_ones_25 : decode cX9_ones 25 = .ok (.ireturn, 1) := by decide +kernel
theorem dX9_type_0 : decode cX9_type 0 = .ok (.aload_n 0, 1) := by decide +kernel
theorem dX9_type_1 : decode cX9_type 1 = .ok (.iconst 0, 1) := by decide +kernel
theorem dX9_type_2 : decode cX9_type 2 = .ok (.putfield 56, 3) := by decide +kernel
theorem dX9_type_5 : decode cX9_type 5 = .ok (.iload_n 1, 1) := by decide +kernel
theorem dX9_type_6 : decode cX9_type 6 = .ok (.iconst 0, 1) := by decide +kernel
theorem dX9_type_7 : decode cX9_type 7 = .ok (.sipush 255, 3) := by decide +kernel
theorem dX9_type_10 : decode cX9_type 10 = .ok (.invokestatic 60, 3) := by decide +kernel
theorem dX9_type_13 : decode cX9_type 13 = .ok (.ifCond .ne 5, 3) := by decide +kernel
theorem dX9_type_16 : decode cX9_type 16 = .ok (.iconst (-1), 1) := by decide +kernel
theorem dX9_type_17 : decode cX9_type 17 = .ok (.ireturn, 1) := by decide +kernel
theorem dX9_type_18 : decode cX9_type 18 = .ok (.aload_n 0, 1) := by decide +kernel
theorem dX9_type_19 : decode cX9_type 19 = .ok (.getfield 64, 3) := by decide +kernel
theorem dX9_type_22 : decode cX9_type 22 = .ok (.bipush 120, 2) := by decide +kernel
theorem dX9_type_24 : decode cX9_type 24 = .ok (.if_icmp .ne 6, 3) := by decide +kernel
theorem dX9_type_27 : decode cX9_type 27 = .ok (.bipush (-3), 2) := by decide +kernel
theorem dX9_type_29 : decode cX9_type 29 = .ok (.ireturn, 1) := by decide +kernel
theorem dX9_type_30 : decode cX9_type 30 = .ok (.aload_n 0, 1) := by decide +kernel
theorem dX9_type_31 : decode cX9_type 31 = .ok (.getfield 7, 3) := by decide +kernel
theorem dX9_type_34 : decode cX9_type 34 = .ok (.aload_n 0, 1) := by decide +kernel
theorem dX9_type_35 : decode cX9_type 35 = .ok (.getfield 64, 3) := by decide +kernel
theorem dX9_type_38 : decode cX9_type 38 = .ok (.iload_n 1, 1) := by decide +kernel
theorem dX9_type_39 : decode cX9_type 39 = .ok (.iastore, 1) := by decide +kernel
theorem dX9_type_40 : decode cX9_type 40 = .ok (.aload_n 0, 1) := by decide +kernel
theorem dX9_type_41 : decode cX9_type 41 = .ok (.dup, 1) := by decide +kernel
theorem dX9_type_42 : decode cX9_type 42 = .ok (.getfield 64, 3) := by decide +kernel
theorem dX9_type_45 : decode cX9_type 45 = .ok (.iconst 1, 1) := by decide +kernel
theorem dX9_type_46 : decode cX9_type 46 = .ok (.iadd, 1) := by decide +kernel
theorem dX9_type_47 : decode cX9_type 47 = .ok (.putfield 64, 3) := by decide +kernel
theorem dX9_type_50 : decode cX9_type 50 = .ok (.aload_n 0, 1) := by decide +kernel
theorem dX9_type_51 : decode cX9_type 51 = .ok (.getfield 64, 3) := by decide +kernel
theorem dX9_type_54 : decode cX9_type 54 = .ok (.ireturn, 1) := by decide +kernel
theorem dX9_clear_0 : decode cX9_clear 0 = .ok (.aload_n 0, 1) := by decide +kernel
theorem dX9_clear_1 : decode cX9_clear 1 = .ok (.iconst 0, 1) := by decide +kernel
theorem dX9_clear_2 : decode cX9_clear 2 = .ok (.putfield 56, 3) := by decide +kernel
theorem dX9_clear_5 : decode cX9_clear 5 = .ok (.aload_n 0, 1) := by decide +kernel
theorem dX9_clear_6 : decode cX9_clear 6 = .ok (.getfield 64, 3) := by decide +kernel
theorem dX9_clear_9 : decode cX9_clear 9 = .ok (.istore_n 1, 1) := by decide +kernel
theorem dX9_clear_10 : decode cX9_clear 10 = .ok (.aload_n 0, 1) := by decide +kernel
theorem dX9_clear_11 : decode cX9_clear 11 = .ok (.iconst 0, 1) := by decide +kernel
theorem dX9_clear_12 : decode cX9_clear 12 = .ok (.putfield 64, 3) := by decide +kernel
theorem dX9_clear_15 : decode cX9_clear 15 = .ok (.iload_n 1, 1) := by decide +kernel
theorem dX9_clear_16 : decode cX9_clear 16 = .ok (.ireturn, 1) := by decide +kernel
theorem dX9_letterAt_0 : decode cX9_letterAt 0 = .ok (.iload_n 1, 1) := by decide +kernel
theorem dX9_letterAt_1 : decode cX9_letterAt 1 = .ok (.aload_n 0, 1) := by decide +kernel
theorem dX9_letterAt_2 : decode cX9_letterAt 2 = .ok (.getfield 64, 3) := by decide +kernel
theorem dX9_letterAt_5 : decode cX9_letterAt 5 = .ok (.if_icmp .ge 12, 3) := by decide +kernel
theorem dX9_letterAt_8 : decode cX9_letterAt 8 = .ok (.aload_n 0, 1) := by decide +kernel
theorem dX9_letterAt_9 : decode cX9_letterAt 9 = .ok (.getfield 7, 3) := by decide +kernel
theorem dX9_letterAt_12 : decode cX9_letterAt 12 = .ok (.iload_n 1, 1) := by decide +kernel
theorem dX9_letterAt_13 : decode cX9_letterAt 13 = .ok (.iaload, 1) := by decide +kernel
theorem dX9_letterAt_14 : decode cX9_letterAt 14 = .ok (.goto 4, 3) := by decide +kernel
theorem dX9_letterAt_17 : decode cX9_letterAt 17 = .ok (.iconst (-1), 1) := by decide +kernel
theorem dX9_letterAt_18 : decode cX9_letterAt 18 = .ok (.ireturn, 1) := by decide +kernel
theorem dX9_kindOf_0 : decode cX9_kindOf 0 = .ok (.iload_n 0, 1) := by decide +kernel
theorem dX9_kindOf_1 : decode cX9_kindOf 1 = .ok (.bipush 112, 2) := by decide +kernel
theorem dX9_kindOf_3 : decode cX9_kindOf 3 = .ok (.if_icmp .ne 7, 3) := by decide +kernel
theorem dX9_kindOf_6 : decode cX9_kindOf 6 = .ok (.iconst 1, 1) := by decide +kernel
theorem dX9_kindOf_7 : decode cX9_kindOf 7 = .ok (.goto 44, 3) := by decide +kernel
theorem dX9_kindOf_10 : decode cX9_kindOf 10 = .ok (.iload_n 0, 1) := by decide +kernel
theorem dX9_kindOf_11 : decode cX9_kindOf 11 = .ok (.bipush 99, 2) := by decide +kernel
theorem dX9_kindOf_13 : decode cX9_kindOf 13 = .ok (.if_icmp .ne 7, 3) := by decide +kernel
theorem dX9_kindOf_16 : decode cX9_kindOf 16 = .ok (.iconst 2, 1) := by decide +kernel
theorem dX9_kindOf_17 : decode cX9_kindOf 17 = .ok (.goto 34, 3) := by decide +kernel
theorem dX9_kindOf_20 : decode cX9_kindOf 20 = .ok (.iload_n 0, 1) := by decide +kernel
theorem dX9_kindOf_21 : decode cX9_kindOf 21 = .ok (.bipush 115, 2) := by decide +kernel
theorem dX9_kindOf_23 : decode cX9_kindOf 23 = .ok (.if_icmp .ne 7, 3) := by decide +kernel
theorem dX9_kindOf_26 : decode cX9_kindOf 26 = .ok (.iconst 3, 1) := by decide +kernel
theorem dX9_kindOf_27 : decode cX9_kindOf 27 = .ok (.goto 24, 3) := by decide +kernel
theorem dX9_kindOf_30 : decode cX9_kindOf 30 = .ok (.iload_n 0, 1) := by decide +kernel
theorem dX9_kindOf_31 : decode cX9_kindOf 31 = .ok (.bipush 109, 2) := by decide +kernel
theorem dX9_kindOf_33 : decode cX9_kindOf 33 = .ok (.if_icmp .ne 7, 3) := by decide +kernel
theorem dX9_kindOf_36 : decode cX9_kindOf 36 = .ok (.iconst 4, 1) := by decide +kernel
theorem dX9_kindOf_37 : decode cX9_kindOf 37 = .ok (.goto 14, 3) := by decide +kernel
theorem dX9_kindOf_40 : decode cX9_kindOf 40 = .ok (.iload_n 0, 1) := by decide +kernel
theorem dX9_kindOf_41 : decode cX9_kindOf 41 = .ok (.bipush 108, 2) := by decide +kernel
theorem dX9_kindOf_43 : decode cX9_kindOf 43 = .ok (.if_icmp .ne 7, 3) := by decide +kernel
theorem dX9_kindOf_46 : decode cX9_kindOf 46 = .ok (.iconst 5, 1) := by decide +kernel
theorem dX9_kindOf_47 : decode cX9_kindOf 47 = .ok (.goto 4, 3) := by decide +kernel
theorem dX9_kindOf_50 : decode cX9_kindOf 50 = .ok (.iconst 0, 1) := by decide +kernel
theorem dX9_kindOf_51 : decode cX9_kindOf 51 = .ok (.ireturn, 1) := by decide +kernel
theorem dX9_advances_0 : decode cX9_advances 0 = .ok (.aload_n 0, 1) := by decide +kernel
theorem dX9_advances_1 : decode cX9_advances 1 = .ok (.aload_n 0, 1) := by decide +kernel
theorem dX9_advances_2 : decode cX9_advances 2 = .ok (.getfield 67, 3) := by decide +kernel
theorem dX9_advances_5 : decode cX9_advances 5 = .ok (.invokevirtual 70, 3) := by decide +kernel
theorem dX9_advances_8 : decode cX9_advances 8 = .ok (.bipush 32, 2) := by decide +kernel
theorem dX9_advances_10 : decode cX9_advances 10 = .ok (.if_icmp .ne 16, 3) := by decide +kernel
theorem dX9_advances_13 : decode cX9_advances 13 = .ok (.aload_n 0, 1) := by decide +kernel
theorem dX9_advances_14 : decode cX9_advances 14 = .ok (.dup, 1) := by decide +kernel
theorem dX9_advances_15 : decode cX9_advances 15 = .ok (.getfield 67, 3) := by decide +kernel
theorem dX9_advances_18 : decode cX9_advances 18 = .ok (.iconst 1, 1) := by decide +kernel
theorem dX9_advances_19 : decode cX9_advances 19 = .ok (.iadd, 1) := by decide +kernel
theorem dX9_advances_20 : decode cX9_advances 20 = .ok (.putfield 67, 3) := by decide +kernel
theorem dX9_advances_23 : decode cX9_advances 23 = .ok (.goto (-23), 3) := by decide +kernel
theorem dX9_advances_26 : decode cX9_advances 26 = .ok (.aload_n 0, 1) := by decide +kernel
theorem dX9_advances_27 : decode cX9_advances 27 = .ok (.aload_n 0, 1) := by decide +kernel
theorem dX9_advances_28 : decode cX9_advances 28 = .ok (.getfield 67, 3) := by decide +kernel
theorem dX9_advances_31 : decode cX9_advances 31 = .ok (.putfield 74, 3) := by decide +kernel
theorem dX9_advances_34 : decode cX9_advances 34 = .ok (.aload_n 0, 1) := by decide +kernel
theorem dX9_advances_35 : decode cX9_advances 35 = .ok (.aload_n 0, 1) := by decide +kernel
theorem dX9_advances_36 : decode cX9_advances 36 = .ok (.getfield 67, 3) := by decide +kernel
theorem dX9_advances_39 : decode cX9_advances 39 = .ok (.invokevirtual 70, 3) := by decide +kernel
theorem dX9_advances_42 : decode cX9_advances 42 = .ok (.istore_n 1, 1) := by decide +kernel
theorem dX9_advances_43 : decode cX9_advances 43 = .ok (.iload_n 1, 1) := by decide +kernel
theorem dX9_advances_44 : decode cX9_advances 44 = .ok (.ifCond .ge 11, 3) := by decide +kernel
theorem dX9_advances_47 : decode cX9_advances 47 = .ok (.aload_n 0, 1) := by decide +kernel
theorem dX9_advances_48 : decode cX9_advances 48 = .ok (.iconst 0, 1) := by decide +kernel
theorem dX9_advances_49 : decode cX9_advances 49 = .ok (.putfield 77, 3) := by decide +kernel
theorem dX9_advances_52 : decode cX9_advances 52 = .ok (.goto 194, 3) := by decide +kernel
theorem dX9_advances_55 : decode cX9_advances 55 = .ok (.iload_n 1, 1) := by decide +kernel
theorem dX9_advances_56 : decode cX9_advances 56 = .ok (.bipush 48, 2) := by decide +kernel
theorem dX9_advances_58 : decode cX9_advances 58 = .ok (.bipush 57, 2) := by decide +kernel
theorem dX9_advances_60 : decode cX9_advances 60 = .ok (.invokestatic 60, 3) := by decide +kernel
theorem dX9_advances_63 : decode cX9_advances 63 = .ok (.ifCond .eq 118, 3) := by decide +kernel
theorem dX9_advances_66 : decode cX9_advances 66 = .ok (.aload_n 0, 1) := by decide +kernel
theorem dX9_advances_67 : decode cX9_advances 67 = .ok (.iconst 0, 1) := by decide +kernel
theorem dX9_advances_68 : decode cX9_advances 68 = .ok (.putfield 80, 3) := by decide +kernel
theorem dX9_advances_71 : decode cX9_advances 71 = .ok (.aload_n 0, 1) := by decide +kernel
theorem dX9_advances_72 : decode cX9_advances 72 = .ok (.aload_n 0, 1) := by decide +kernel
theorem dX9_advances_73 : decode cX9_advances 73 = .ok (.getfield 67, 3) := by decide +kernel
theorem dX9_advances_76 : decode cX9_advances 76 = .ok (.invokevirtual 70, 3) := by decide +kernel
theorem dX9_advances_79 : decode cX9_advances 79 = .ok (.bipush 48, 2) := by decide +kernel
theorem dX9_advances_81 : decode cX9_advances 81 = .ok (.bipush 57, 2) := by decide +kernel
theorem dX9_advances_83 : decode cX9_advances 83 = .ok (.invokestatic 60, 3) := by decide +kernel
theorem dX9_advances_86 : decode cX9_advances 86 = .ok (.ifCond .eq 55, 3) := by decide +kernel
theorem dX9_advances_89 : decode cX9_advances 89 = .ok (.aload_n 0, 1) := by decide +kernel
theorem dX9_advances_90 : decode cX9_advances 90 = .ok (.aload_n 0, 1) := by decide +kernel
theorem dX9_advances_91 : decode cX9_advances 91 = .ok (.getfield 80, 3) := by decide +kernel
theorem dX9_advances_94 : decode cX9_advances 94 = .ok (.bipush 99, 2) := by decide +kernel
theorem dX9_advances_96 : decode cX9_advances 96 = .ok (.if_icmp .le 10, 3) := by decide +kernel
theorem dX9_advances_99 : decode cX9_advances 99 = .ok (.aload_n 0, 1) := by decide +kernel
theorem dX9_advances_100 : decode cX9_advances 100 = .ok (.getfield 80, 3) := by decide +kernel
theorem dX9_advances_103 : decode cX9_advances 103 = .ok (.goto 22, 3) := by decide +kernel
theorem dX9_advances_106 : decode cX9_advances 106 = .ok (.bipush 10, 2) := by decide +kernel
theorem dX9_advances_108 : decode cX9_advances 108 = .ok (.aload_n 0, 1) := by decide +kernel
theorem dX9_advances_109 : decode cX9_advances 109 = .ok (.getfield 80, 3) := by decide +kernel
theorem dX9_advances_112 : decode cX9_advances 112 = .ok (.imul, 1) := by decide +kernel
theorem dX9_advances_113 : decode cX9_advances 113 = .ok (.aload_n 0, 1) := by decide +kernel
theorem dX9_advances_114 : decode cX9_advances 114 = .ok (.aload_n 0, 1) := by decide +kernel
theorem dX9_advances_115 : decode cX9_advances 115 = .ok (.getfield 67, 3) := by decide +kernel
theorem dX9_advances_118 : decode cX9_advances 118 = .ok (.invokevirtual 70, 3) := by decide +kernel
theorem dX9_advances_121 : decode cX9_advances 121 = .ok (.iadd, 1) := by decide +kernel
theorem dX9_advances_122 : decode cX9_advances 122 = .ok (.bipush 48, 2) := by decide +kernel
theorem dX9_advances_124 : decode cX9_advances 124 = .ok (.isub, 1) := by decide +kernel
theorem dX9_advances_125 : decode cX9_advances 125 = .ok (.putfield 80, 3) := by decide +kernel
theorem dX9_advances_128 : decode cX9_advances 128 = .ok (.aload_n 0, 1) := by decide +kernel
theorem dX9_advances_129 : decode cX9_advances 129 = .ok (.dup, 1) := by decide +kernel
theorem dX9_advances_130 : decode cX9_advances 130 = .ok (.getfield 67, 3) := by decide +kernel
theorem dX9_advances_133 : decode cX9_advances 133 = .ok (.iconst 1, 1) := by decide +kernel
theorem dX9_advances_134 : decode cX9_advances 134 = .ok (.iadd, 1) := by decide +kernel
theorem dX9_advances_135 : decode cX9_advances 135 = .ok (.putfield 67, 3) := by decide +kernel
theorem dX9_advances_138 : decode cX9_advances 138 = .ok (.goto (-67), 3) := by decide +kernel
theorem dX9_advances_141 : decode cX9_advances 141 = .ok (.aload_n 0, 1) := by decide +kernel
theorem dX9_advances_142 : decode cX9_advances 142 = .ok (.aload_n 0, 1) := by decide +kernel
theorem dX9_advances_143 : decode cX9_advances 143 = .ok (.getfield 80, 3) := by decide +kernel
theorem dX9_advances_146 : decode cX9_advances 146 = .ok (.bipush 99, 2) := by decide +kernel
theorem dX9_advances_148 : decode cX9_advances 148 = .ok (.if_icmp .gt 22, 3) := by decide +kernel
theorem dX9_advances_151 : decode cX9_advances 151 = .ok (.iload_n 1, 1) := by decide +kernel
theorem dX9_advances_152 : decode cX9_advances 152 = .ok (.bipush 48, 2) := by decide +kernel
theorem dX9_advances_154 : decode cX9_advances 154 = .ok (.if_icmp .ne 20, 3) := by decide +kernel
theorem dX9_advances_157 : decode cX9_advances 157 = .ok (.aload_n 0, 1) := by decide +kernel
theorem dX9_advances_158 : decode cX9_advances 158 = .ok (.getfield 67, 3) := by decide +kernel
theorem dX9_advances_161 : decode cX9_advances 161 = .ok (.aload_n 0, 1) := by decide +kernel
theorem dX9_advances_162 : decode cX9_advances 162 = .ok (.getfield 74, 3) := by decide +kernel
theorem dX9_advances_165 : decode cX9_advances 165 = .ok (.isub, 1) := by decide +kernel
theorem dX9_advances_166 : decode cX9_advances 166 = .ok (.iconst 1, 1) := by decide +kernel
theorem dX9_advances_167 : decode cX9_advances 167 = .ok (.if_icmp .le 7, 3) := by decide +kernel
theorem dX9_advances_170 : decode cX9_advances 170 = .ok (.iconst 4, 1) := by decide +kernel
theorem dX9_advances_171 : decode cX9_advances 171 = .ok (.goto 4, 3) := by decide +kernel
theorem dX9_advances_174 : decode cX9_advances 174 = .ok (.iconst 2, 1) := by decide +kernel
theorem dX9_advances_175 : decode cX9_advances 175 = .ok (.putfield 77, 3) := by decide +kernel
theorem dX9_advances_178 : decode cX9_advances 178 = .ok (.goto 68, 3) := by decide +kernel
theorem dX9_advances_181 : decode cX9_advances 181 = .ok (.aload_n 0, 1) := by decide +kernel
theorem dX9_advances_182 : decode cX9_advances 182 = .ok (.dup, 1) := by decide +kernel
theorem dX9_advances_183 : decode cX9_advances 183 = .ok (.getfield 67, 3) := by decide +kernel
theorem dX9_advances_186 : decode cX9_advances 186 = .ok (.iconst 1, 1) := by decide +kernel
theorem dX9_advances_187 : decode cX9_advances 187 = .ok (.iadd, 1) := by decide +kernel
theorem dX9_advances_188 : decode cX9_advances 188 = .ok (.putfield 67, 3) := by decide +kernel
theorem dX9_advances_191 : decode cX9_advances 191 = .ok (.aload_n 0, 1) := by decide +kernel
theorem dX9_advances_192 : decode cX9_advances 192 = .ok (.iload_n 1, 1) := by decide +kernel
theorem dX9_advances_193 : decode cX9_advances 193 = .ok (.putfield 80, 3) := by decide +kernel
theorem dX9_advances_196 : decode cX9_advances 196 = .ok (.aload_n 0, 1) := by decide +kernel
theorem dX9_advances_197 : decode cX9_advances 197 = .ok (.iload_n 1, 1) := by decide +kernel
theorem dX9_advances_198 : decode cX9_advances 198 = .ok (.bipush 59, 2) := by decide +kernel
theorem dX9_advances_200 : decode cX9_advances 200 = .ok (.if_icmp .ne 7, 3) := by decide +kernel
theorem dX9_advances_203 : decode cX9_advances 203 = .ok (.iconst 3, 1) := by decide +kernel
theorem dX9_advances_204 : decode cX9_advances 204 = .ok (.goto 39, 3) := by decide +kernel
theorem dX9_advances_207 : decode cX9_advances 207 = .ok (.iload_n 1, 1) := by decide +kernel
theorem dX9_advances_208 : decode cX9_advances 208 = .ok (.bipush 110, 2) := by decide +kernel
theorem dX9_advances_210 : decode cX9_advances 210 = .ok (.if_icmp .eq 28, 3) := by decide +kernel
theorem dX9_advances_213 : decode cX9_advances 213 = .ok (.iload_n 1, 1) := by decide +kernel
theorem dX9_advances_214 : decode cX9_advances 214 = .ok (.bipush 117, 2) := by decide +kernel
theorem dX9_advances_216 : decode cX9_advances 216 = .ok (.if_icmp .eq 22, 3) := by decide +kernel
theorem dX9_advances_219 : decode cX9_advances 219 = .ok (.iload_n 1, 1) := by decide +kernel
theorem dX9_advances_220 : decode cX9_advances 220 = .ok (.bipush 118, 2) := by decide +kernel
theorem dX9_advances_222 : decode cX9_advances 222 = .ok (.if_icmp .eq 16, 3) := by decide +kernel
theorem dX9_advances_225 : decode cX9_advances 225 = .ok (.iload_n 1, 1) := by decide +kernel
theorem dX9_advances_226 : decode cX9_advances 226 = .ok (.bipush 120, 2) := by decide +kernel
theorem dX9_advances_228 : decode cX9_advances 228 = .ok (.if_icmp .eq 10, 3) := by decide +kernel
theorem dX9_advances_231 : decode cX9_advances 231 = .ok (.iload_n 1, 1) := by decide +kernel
theorem dX9_advances_232 : decode cX9_advances 232 = .ok (.invokestatic 83, 3) := by decide +kernel
theorem dX9_advances_235 : decode cX9_advances 235 = .ok (.ifCond .le 7, 3) := by decide +kernel
theorem dX9_advances_238 : decode cX9_advances 238 = .ok (.iconst 1, 1) := by decide +kernel
theorem dX9_advances_239 : decode cX9_advances 239 = .ok (.goto 4, 3) := by decide +kernel
theorem dX9_advances_242 : decode cX9_advances 242 = .ok (.iconst 4, 1) := by decide +kernel
theorem dX9_advances_243 : decode cX9_advances 243 = .ok (.putfield 77, 3) := by decide +kernel
theorem dX9_advances_246 : decode cX9_advances 246 = .ok (.return_, 1) := by decide +kernel
theorem dX9_isWell_0 : decode cX9_isWell 0 = .ok (.aload_n 0, 1) := by decide +kernel
theorem dX9_isWell_1 : decode cX9_isWell 1 = .ok (.getfield 86, 3) := by decide +kernel
theorem dX9_isWell_4 : decode cX9_isWell 4 = .ok (.ifCond .ge 7, 3) := by decide +kernel
theorem dX9_isWell_7 : decode cX9_isWell 7 = .ok (.iconst 1, 1) := by decide +kernel
theorem dX9_isWell_8 : decode cX9_isWell 8 = .ok (.goto 4, 3) := by decide +kernel
theorem dX9_isWell_11 : decode cX9_isWell 11 = .ok (.iconst 0, 1) := by decide +kernel
theorem dX9_isWell_12 : decode cX9_isWell 12 = .ok (.ireturn, 1) := by decide +kernel
theorem dX9_takes_0 : decode cX9_takes 0 = .ok (.aload_n 0, 1) := by decide +kernel
theorem dX9_takes_1 : decode cX9_takes 1 = .ok (.invokevirtual 89, 3) := by decide +kernel
theorem dX9_takes_4 : decode cX9_takes 4 = .ok (.ifCond .ne 5, 3) := by decide +kernel
theorem dX9_takes_7 : decode cX9_takes 7 = .ok (.iconst 0, 1) := by decide +kernel
theorem dX9_takes_8 : decode cX9_takes 8 = .ok (.ireturn, 1) := by decide +kernel
theorem dX9_takes_9 : decode cX9_takes 9 = .ok (.iload_n 1, 1) := by decide +kernel
theorem dX9_takes_10 : decode cX9_takes 10 = .ok (.ifCond .ne 13, 3) := by decide +kernel
theorem dX9_takes_13 : decode cX9_takes 13 = .ok (.aload_n 0, 1) := by decide +kernel
theorem dX9_takes_14 : decode cX9_takes 14 = .ok (.aload_n 0, 1) := by decide +kernel
theorem dX9_takes_15 : decode cX9_takes 15 = .ok (.getfield 74, 3) := by decide +kernel
theorem dX9_takes_18 : decode cX9_takes 18 = .ok (.putfield 86, 3) := by decide +kernel
theorem dX9_takes_21 : decode cX9_takes 21 = .ok (.iconst 0, 1) := by decide +kernel
theorem dX9_takes_22 : decode cX9_takes 22 = .ok (.ireturn, 1) := by decide +kernel
theorem dX9_takes_23 : decode cX9_takes 23 = .ok (.aload_n 0, 1) := by decide +kernel
theorem dX9_takes_24 : decode cX9_takes 24 = .ok (.getfield 80, 3) := by decide +kernel
theorem dX9_takes_27 : decode cX9_takes 27 = .ok (.istore_n 2, 1) := by decide +kernel
theorem dX9_takes_28 : decode cX9_takes 28 = .ok (.aload_n 0, 1) := by decide +kernel
theorem dX9_takes_29 : decode cX9_takes 29 = .ok (.invokevirtual 93, 3) := by decide +kernel
theorem dX9_takes_32 : decode cX9_takes 32 = .ok (.iload_n 2, 1) := by decide +kernel
theorem dX9_takes_33 : decode cX9_takes 33 = .ok (.ireturn, 1) := by decide +kernel
theorem dX9_number_0 : decode cX9_number 0 = .ok (.aload_n 0, 1) := by decide +kernel
theorem dX9_number_1 : decode cX9_number 1 = .ok (.aload_n 0, 1) := by decide +kernel
theorem dX9_number_2 : decode cX9_number 2 = .ok (.getfield 77, 3) := by decide +kernel
theorem dX9_number_5 : decode cX9_number 5 = .ok (.iconst 2, 1) := by decide +kernel
theorem dX9_number_6 : decode cX9_number 6 = .ok (.if_icmp .ne 19, 3) := by decide +kernel
theorem dX9_number_9 : decode cX9_number 9 = .ok (.aload_n 0, 1) := by decide +kernel
theorem dX9_number_10 : decode cX9_number 10 = .ok (.getfield 80, 3) := by decide +kernel
theorem dX9_number_13 : decode cX9_number 13 = .ok (.iload_n 1, 1) := by decide +kernel
theorem dX9_number_14 : decode cX9_number 14 = .ok (.iload_n 2, 1) := by decide +kernel
theorem dX9_number_15 : decode cX9_number 15 = .ok (.invokestatic 60, 3) := by decide +kernel
theorem dX9_number_18 : decode cX9_number 18 = .ok (.ifCond .eq 7, 3) := by decide +kernel
theorem dX9_number_21 : decode cX9_number 21 = .ok (.iconst 1, 1) := by decide +kernel
theorem dX9_number_22 : decode cX9_number 22 = .ok (.goto 4, 3) := by decide +kernel
theorem dX9_number_25 : decode cX9_number 25 = .ok (.iconst 0, 1) := by decide +kernel
theorem dX9_number_26 : decode cX9_number 26 = .ok (.invokevirtual 96, 3) := by decide +kernel
theorem dX9_number_29 : decode cX9_number 29 = .ok (.ireturn, 1) := by decide +kernel
theorem dX9_begins_0 : decode cX9_begins 0 = .ok (.iconst 0, 1) := by decide +kernel
theorem dX9_begins_1 : decode cX9_begins 1 = .ok (.istore_n 1, 1) := by decide +kernel
theorem dX9_begins_2 : decode cX9_begins 2 = .ok (.iload_n 1, 1) := by decide +kernel
theorem dX9_begins_3 : decode cX9_begins 3 = .ok (.bipush 34, 2) := by decide +kernel
theorem dX9_begins_5 : decode cX9_begins 5 = .ok (.if_icmp .ge 16, 3) := by decide +kernel
theorem dX9_begins_8 : decode cX9_begins 8 = .ok (.aload_n 0, 1) := by decide +kernel
theorem dX9_begins_9 : decode cX9_begins 9 = .ok (.getfield 16, 3) := by decide +kernel
theorem dX9_begins_12 : decode cX9_begins 12 = .ok (.iload_n 1, 1) := by decide +kernel
theorem dX9_begins_13 : decode cX9_begins 13 = .ok (.iconst 0, 1) := by decide +kernel
theorem dX9_begins_14 : decode cX9_begins 14 = .ok (.iastore, 1) := by decide +kernel
theorem dX9_begins_15 : decode cX9_begins 15 = .ok (.iinc 1 1, 3) := by decide +kernel
theorem dX9_begins_18 : decode cX9_begins 18 = .ok (.goto (-16), 3) := by decide +kernel
theorem dX9_begins_21 : decode cX9_begins 21 = .ok (.iconst 0, 1) := by decide +kernel
theorem dX9_begins_22 : decode cX9_begins 22 = .ok (.istore_n 1, 1) := by decide +kernel
theorem dX9_begins_23 : decode cX9_begins 23 = .ok (.iload_n 1, 1) := by decide +kernel
theorem dX9_begins_24 : decode cX9_begins 24 = .ok (.bipush 66, 2) := by decide +kernel
theorem dX9_begins_26 : decode cX9_begins 26 = .ok (.if_icmp .ge 16, 3) := by decide +kernel
theorem dX9_begins_29 : decode cX9_begins 29 = .ok (.aload_n 0, 1) := by decide +kernel
theorem dX9_begins_30 : decode cX9_begins 30 = .ok (.getfield 19, 3) := by decide +kernel
theorem dX9_begins_33 : decode cX9_begins 33 = .ok (.iload_n 1, 1) := by decide +kernel
theorem dX9_begins_34 : decode cX9_begins 34 = .ok (.iconst 0, 1) := by decide +kernel
theorem dX9_begins_35 : decode cX9_begins 35 = .ok (.iastore, 1) := by decide +kernel
theorem dX9_begins_36 : decode cX9_begins 36 = .ok (.iinc 1 1, 3) := by decide +kernel
theorem dX9_begins_39 : decode cX9_begins 39 = .ok (.goto (-16), 3) := by decide +kernel
theorem dX9_begins_42 : decode cX9_begins 42 = .ok (.aload_n 0, 1) := by decide +kernel
theorem dX9_begins_43 : decode cX9_begins 43 = .ok (.getfield 16, 3) := by decide +kernel
theorem dX9_begins_46 : decode cX9_begins 46 = .ok (.iconst 0, 1) := by decide +kernel
theorem dX9_begins_47 : decode cX9_begins 47 = .ok (.iconst 3, 1) := by decide +kernel
theorem dX9_begins_48 : decode cX9_begins 48 = .ok (.iastore, 1) := by decide +kernel
theorem dX9_begins_49 : decode cX9_begins 49 = .ok (.return_, 1) := by decide +kernel
theorem dX9_mayBegin_0 : decode cX9_mayBegin 0 = .ok (.aload_n 0, 1) := by decide +kernel
theorem dX9_mayBegin_1 : decode cX9_mayBegin 1 = .ok (.getfield 80, 3) := by decide +kernel
theorem dX9_mayBegin_4 : decode cX9_mayBegin 4 = .ok (.bipush 110, 2) := by decide +kernel
theorem dX9_mayBegin_6 : decode cX9_mayBegin 6 = .ok (.if_icmp .ne 15, 3) := by decide +kernel
theorem dX9_mayBegin_9 : decode cX9_mayBegin 9 = .ok (.iload_n 1, 1) := by decide +kernel
theorem dX9_mayBegin_10 : decode cX9_mayBegin 10 = .ok (.ifCond .ne 7, 3) := by decide +kernel
theorem dX9_mayBegin_13 : decode cX9_mayBegin 13 = .ok (.iconst 1, 1) := by decide +kernel
theorem dX9_mayBegin_14 : decode cX9_mayBegin 14 = .ok (.goto 58, 3) := by decide +kernel
theorem dX9_mayBegin_17 : decode cX9_mayBegin 17 = .ok (.iconst 0, 1) := by decide +kernel
theorem dX9_mayBegin_18 : decode cX9_mayBegin 18 = .ok (.goto 54, 3) := by decide +kernel
theorem dX9_mayBegin_21 : decode cX9_mayBegin 21 = .ok (.aload_n 0, 1) := by decide +kernel
theorem dX9_mayBegin_22 : decode cX9_mayBegin 22 = .ok (.getfield 80, 3) := by decide +kernel
theorem dX9_mayBegin_25 : decode cX9_mayBegin 25 = .ok (.bipush 117, 2) := by decide +kernel
theorem dX9_mayBegin_27 : decode cX9_mayBegin 27 = .ok (.if_icmp .eq 12, 3) := by decide +kernel
theorem dX9_mayBegin_30 : decode cX9_mayBegin 30 = .ok (.aload_n 0, 1) := by decide +kernel
theorem dX9_mayBegin_31 : decode cX9_mayBegin 31 = .ok (.getfield 80, 3) := by decide +kernel
theorem dX9_mayBegin_34 : decode cX9_mayBegin 34 = .ok (.bipush 118, 2) := by decide +kernel
theorem dX9_mayBegin_36 : decode cX9_mayBegin 36 = .ok (.if_icmp .ne 22, 3) := by decide +kernel
theorem dX9_mayBegin_39 : decode cX9_mayBegin 39 = .ok (.aload_n 0, 1) := by decide +kernel
theorem dX9_mayBegin_40 : decode cX9_mayBegin 40 = .ok (.getfield 16, 3) := by decide +kernel
theorem dX9_mayBegin_43 : decode cX9_mayBegin 43 = .ok (.iconst 1, 1) := by decide +kernel
theorem dX9_mayBegin_44 : decode cX9_mayBegin 44 = .ok (.iaload, 1) := by decide +kernel
theorem dX9_mayBegin_45 : decode cX9_mayBegin 45 = .ok (.bipush 8, 2) := by decide +kernel
theorem dX9_mayBegin_47 : decode cX9_mayBegin 47 = .ok (.if_icmp .ge 7, 3) := by decide +kernel
theorem dX9_mayBegin_50 : decode cX9_mayBegin 50 = .ok (.iconst 1, 1) := by decide +kernel
theorem dX9_mayBegin_51 : decode cX9_mayBegin 51 = .ok (.goto 21, 3) := by decide +kernel
theorem dX9_mayBegin_54 : decode cX9_mayBegin 54 = .ok (.iconst 0, 1) := by decide +kernel
theorem dX9_mayBegin_55 : decode cX9_mayBegin 55 = .ok (.goto 17, 3) := by decide +kernel
theorem dX9_mayBegin_58 : decode cX9_mayBegin 58 = .ok (.aload_n 0, 1) := by decide +kernel
theorem dX9_mayBegin_59 : decode cX9_mayBegin 59 = .ok (.getfield 80, 3) := by decide +kernel
theorem dX9_mayBegin_62 : decode cX9_mayBegin 62 = .ok (.bipush 120, 2) := by decide +kernel
theorem dX9_mayBegin_64 : decode cX9_mayBegin 64 = .ok (.if_icmp .ne 7, 3) := by decide +kernel
theorem dX9_mayBegin_67 : decode cX9_mayBegin 67 = .ok (.iconst 1, 1) := by decide +kernel
theorem dX9_mayBegin_68 : decode cX9_mayBegin 68 = .ok (.goto 4, 3) := by decide +kernel
theorem dX9_mayBegin_71 : decode cX9_mayBegin 71 = .ok (.iconst 0, 1) := by decide +kernel
theorem dX9_mayBegin_72 : decode cX9_mayBegin 72 = .ok (.ireturn, 1) := by decide +kernel
theorem dX9_readsItem_0 : decode cX9_readsItem 0 = .ok (.iload_n 1, 1) := by decide +kernel
theorem dX9_readsItem_1 : decode cX9_readsItem 1 = .ok (.bipush 110, 2) := by decide +kernel
theorem dX9_readsItem_3 : decode cX9_readsItem 3 = .ok (.if_icmp .ne 19, 3) := by decide +kernel
theorem dX9_readsItem_6 : decode cX9_readsItem 6 = .ok (.aload_n 0, 1) := by decide +kernel
theorem dX9_readsItem_7 : decode cX9_readsItem 7 = .ok (.getfield 16, 3) := by decide +kernel
theorem dX9_readsItem_10 : decode cX9_readsItem 10 = .ok (.iconst 0, 1) := by decide +kernel
theorem dX9_readsItem_11 : decode cX9_readsItem 11 = .ok (.aload_n 0, 1) := by decide +kernel
theorem dX9_readsItem_12 : decode cX9_readsItem 12 = .ok (.iconst 1, 1) := by decide +kernel
theorem dX9_readsItem_13 : decode cX9_readsItem 13 = .ok (.bipush 8, 2) := by decide +kernel
theorem dX9_readsItem_15 : decode cX9_readsItem 15 = .ok (.invokevirtual 100, 3) := by decide +kernel
theorem dX9_readsItem_18 : decode cX9_readsItem 18 = .ok (.iastore, 1) := by decide +kernel
theorem dX9_readsItem_19 : decode cX9_readsItem 19 = .ok (.goto 217, 3) := by decide +kernel
theorem dX9_readsItem_22 : decode cX9_readsItem 22 = .ok (.iload_n 1, 1) := by decide +kernel
theorem dX9_readsItem_23 : decode cX9_readsItem 23 = .ok (.bipush 120, 2) := by decide +kernel
theorem dX9_readsItem_25 : decode cX9_readsItem 25 = .ok (.if_icmp .ne 105, 3) := by decide +kernel
theorem dX9_readsItem_28 : decode cX9_readsItem 28 = .ok (.aload_n 0, 1) := by decide +kernel
theorem dX9_readsItem_29 : decode cX9_readsItem 29 = .ok (.iconst 0, 1) := by decide +kernel
theorem dX9_readsItem_30 : decode cX9_readsItem 30 = .ok (.aload_n 0, 1) := by decide +kernel
theorem dX9_readsItem_31 : decode cX9_readsItem 31 = .ok (.getfield 16, 3) := by decide +kernel
theorem dX9_readsItem_34 : decode cX9_readsItem 34 = .ok (.iconst 1, 1) := by decide +kernel
theorem dX9_readsItem_35 : decode cX9_readsItem 35 = .ok (.iaload, 1) := by decide +kernel
theorem dX9_readsItem_36 : decode cX9_readsItem 36 = .ok (.iconst 1, 1) := by decide +kernel
theorem dX9_readsItem_37 : decode cX9_readsItem 37 = .ok (.isub, 1) := by decide +kernel
theorem dX9_readsItem_38 : decode cX9_readsItem 38 = .ok (.invokevirtual 100, 3) := by decide +kernel
theorem dX9_readsItem_41 : decode cX9_readsItem 41 = .ok (.istore_n 2, 1) := by decide +kernel
theorem dX9_readsItem_42 : decode cX9_readsItem 42 = .ok (.aload_n 0, 1) := by decide +kernel
theorem dX9_readsItem_43 : decode cX9_readsItem 43 = .ok (.invokevirtual 89, 3) := by decide +kernel
theorem dX9_readsItem_46 : decode cX9_readsItem 46 = .ok (.ifCond .eq 53, 3) := by decide +kernel
theorem dX9_readsItem_49 : decode cX9_readsItem 49 = .ok (.aload_n 0, 1) := by decide +kernel
theorem dX9_readsItem_50 : decode cX9_readsItem 50 = .ok (.getfield 77, 3) := by decide +kernel
theorem dX9_readsItem_53 : decode cX9_readsItem 53 = .ok (.iconst 2, 1) := by decide +kernel
theorem dX9_readsItem_54 : decode cX9_readsItem 54 = .ok (.if_icmp .ne 45, 3) := by decide +kernel
theorem dX9_readsItem_57 : decode cX9_readsItem 57 = .ok (.aload_n 0, 1) := by decide +kernel
theorem dX9_readsItem_58 : decode cX9_readsItem 58 = .ok (.getfield 80, 3) := by decide +kernel
theorem dX9_readsItem_61 : decode cX9_readsItem 61 = .ok (.iconst 0, 1) := by decide +kernel
theorem dX9_readsItem_62 : decode cX9_readsItem 62 = .ok (.aload_n 0, 1) := by decide +kernel
theorem dX9_readsItem_63 : decode cX9_readsItem 63 = .ok (.getfield 16, 3) := by decide +kernel
theorem dX9_readsItem_66 : decode cX9_readsItem 66 = .ok (.iconst 0, 1) := by decide +kernel
theorem dX9_readsItem_67 : decode cX9_readsItem 67 = .ok (.iaload, 1) := by decide +kernel
theorem dX9_readsItem_68 : decode cX9_readsItem 68 = .ok (.iconst 1, 1) := by decide +kernel
theorem dX9_readsItem_69 : decode cX9_readsItem 69 = .ok (.isub, 1) := by decide +kernel
theorem dX9_readsItem_70 : decode cX9_readsItem 70 = .ok (.invokestatic 60, 3) := by decide +kernel
theorem dX9_readsItem_73 : decode cX9_readsItem 73 = .ok (.ifCond .eq 26, 3) := by decide +kernel
theorem dX9_readsItem_76 : decode cX9_readsItem 76 = .ok (.aload_n 0, 1) := by decide +kernel
theorem dX9_readsItem_77 : decode cX9_readsItem 77 = .ok (.getfield 19, 3) := by decide +kernel
theorem dX9_readsItem_80 : decode cX9_readsItem 80 = .ok (.iconst 2, 1) := by decide +kernel
theorem dX9_readsItem_81 : decode cX9_readsItem 81 = .ok (.bipush 8, 2) := by decide +kernel
theorem dX9_readsItem_83 : decode cX9_readsItem 83 = .ok (.iload_n 2, 1) := by decide +kernel
theorem dX9_readsItem_84 : decode cX9_readsItem 84 = .ok (.imul, 1) := by decide +kernel
theorem dX9_readsItem_85 : decode cX9_readsItem 85 = .ok (.iadd, 1) := by decide +kernel
theorem dX9_readsItem_86 : decode cX9_readsItem 86 = .ok (.aload_n 0, 1) := by decide +kernel
theorem dX9_readsItem_87 : decode cX9_readsItem 87 = .ok (.getfield 80, 3) := by decide +kernel
theorem dX9_readsItem_90 : decode cX9_readsItem 90 = .ok (.iadd, 1) := by decide +kernel
theorem dX9_readsItem_91 : decode cX9_readsItem 91 = .ok (.iaload, 1) := by decide +kernel
theorem dX9_readsItem_92 : decode cX9_readsItem 92 = .ok (.ifCond .ne 7, 3) := by decide +kernel
theorem dX9_readsItem_95 : decode cX9_readsItem 95 = .ok (.iconst 1, 1) := by decide +kernel
theorem dX9_readsItem_96 : decode cX9_readsItem 96 = .ok (.goto 4, 3) := by decide +kernel
theorem dX9_readsItem_99 : decode cX9_readsItem 99 = .ok (.iconst 0, 1) := by decide +kernel
theorem dX9_readsItem_100 : decode cX9_readsItem 100 = .ok (.istore_n 3, 1) := by decide +kernel
theorem dX9_readsItem_101 : decode cX9_readsItem 101 = .ok (.aload_n 0, 1) := by decide +kernel
theorem dX9_readsItem_102 : decode cX9_readsItem 102 = .ok (.iload_n 3, 1) := by decide +kernel
theorem dX9_readsItem_103 : decode cX9_readsItem 103 = .ok (.invokevirtual 96, 3) := by decide +kernel
theorem dX9_readsItem_106 : decode cX9_readsItem 106 = .ok (.istore 4, 2) := by decide +kernel
theorem dX9_readsItem_108 : decode cX9_readsItem 108 = .ok (.iload_n 3, 1) := by decide +kernel
theorem dX9_readsItem_109 : decode cX9_readsItem 109 = .ok (.ifCond .eq 18, 3) := by decide +kernel
theorem dX9_readsItem_112 : decode cX9_readsItem 112 = .ok (.aload_n 0, 1) := by decide +kernel
theorem dX9_readsItem_113 : decode cX9_readsItem 113 = .ok (.getfield 19, 3) := by decide +kernel
theorem dX9_readsItem_116 : decode cX9_readsItem 116 = .ok (.iconst 2, 1) := by decide +kernel
theorem dX9_readsItem_117 : decode cX9_readsItem 117 = .ok (.bipush 8, 2) := by decide +kernel
theorem dX9_readsItem_119 : decode cX9_readsItem 119 = .ok (.iload_n 2, 1) := by decide +kernel
theorem dX9_readsItem_120 : decode cX9_readsItem 120 = .ok (.imul, 1) := by decide +kernel
theorem dX9_readsItem_121 : decode cX9_readsItem 121 = .ok (.iadd, 1) := by decide +kernel
theorem dX9_readsItem_122 : decode cX9_readsItem 122 = .ok (.iload 4, 2) := by decide +kernel
theorem dX9_readsItem_124 : decode cX9_readsItem 124 = .ok (.iadd, 1) := by decide +kernel
theorem dX9_readsItem_125 : decode cX9_readsItem 125 = .ok (.iconst (-1), 1) := by decide +kernel
theorem dX9_readsItem_126 : decode cX9_readsItem 126 = .ok (.iastore, 1) := by decide +kernel
theorem dX9_readsItem_127 : decode cX9_readsItem 127 = .ok (.goto 109, 3) := by decide +kernel
theorem dX9_readsItem_130 : decode cX9_readsItem 130 = .ok (.aload_n 0, 1) := by decide +kernel
theorem dX9_readsItem_131 : decode cX9_readsItem 131 = .ok (.getfield 16, 3) := by decide +kernel
theorem dX9_readsItem_134 : decode cX9_readsItem 134 = .ok (.iconst 1, 1) := by decide +kernel
theorem dX9_readsItem_135 : decode cX9_readsItem 135 = .ok (.iaload, 1) := by decide +kernel
theorem dX9_readsItem_136 : decode cX9_readsItem 136 = .ok (.istore_n 2, 1) := by decide +kernel
theorem dX9_readsItem_137 : decode cX9_readsItem 137 = .ok (.aload_n 0, 1) := by decide +kernel
theorem dX9_readsItem_138 : decode cX9_readsItem 138 = .ok (.getfield 16, 3) := by decide +kernel
theorem dX9_readsItem_141 : decode cX9_readsItem 141 = .ok (.iconst 2, 1) := by decide +kernel
theorem dX9_readsItem_142 : decode cX9_readsItem 142 = .ok (.iload_n 2, 1) := by decide +kernel
theorem dX9_readsItem_143 : decode cX9_readsItem 143 = .ok (.iadd, 1) := by decide +kernel
theorem dX9_readsItem_144 : decode cX9_readsItem 144 = .ok (.iload_n 1, 1) := by decide +kernel
theorem dX9_readsItem_145 : decode cX9_readsItem 145 = .ok (.bipush 117, 2) := by decide +kernel
theorem dX9_readsItem_147 : decode cX9_readsItem 147 = .ok (.if_icmp .ne 7, 3) := by decide +kernel
theorem dX9_readsItem_150 : decode cX9_readsItem 150 = .ok (.iconst 0, 1) := by decide +kernel
theorem dX9_readsItem_151 : decode cX9_readsItem 151 = .ok (.goto 4, 3) := by decide +kernel
theorem dX9_readsItem_154 : decode cX9_readsItem 154 = .ok (.iconst 1, 1) := by decide +kernel
theorem dX9_readsItem_155 : decode cX9_readsItem 155 = .ok (.iastore, 1) := by decide +kernel
theorem dX9_readsItem_156 : decode cX9_readsItem 156 = .ok (.aload_n 0, 1) := by decide +kernel
theorem dX9_readsItem_157 : decode cX9_readsItem 157 = .ok (.getfield 16, 3) := by decide +kernel
theorem dX9_readsItem_160 : decode cX9_readsItem 160 = .ok (.bipush 10, 2) := by decide +kernel
theorem dX9_readsItem_162 : decode cX9_readsItem 162 = .ok (.iload_n 2, 1) := by decide +kernel
theorem dX9_readsItem_163 : decode cX9_readsItem 163 = .ok (.iadd, 1) := by decide +kernel
theorem dX9_readsItem_164 : decode cX9_readsItem 164 = .ok (.aload_n 0, 1) := by decide +kernel
theorem dX9_readsItem_165 : decode cX9_readsItem 165 = .ok (.aload_n 0, 1) := by decide +kernel
theorem dX9_readsItem_166 : decode cX9_readsItem 166 = .ok (.getfield 77, 3) := by decide +kernel
theorem dX9_readsItem_169 : decode cX9_readsItem 169 = .ok (.iconst 1, 1) := by decide +kernel
theorem dX9_readsItem_170 : decode cX9_readsItem 170 = .ok (.if_icmp .ne 17, 3) := by decide +kernel
theorem dX9_readsItem_173 : decode cX9_readsItem 173 = .ok (.aload_n 0, 1) := by decide +kernel
theorem dX9_readsItem_174 : decode cX9_readsItem 174 = .ok (.getfield 80, 3) := by decide +kernel
theorem dX9_readsItem_177 : decode cX9_readsItem 177 = .ok (.invokestatic 83, 3) := by decide +kernel
theorem dX9_readsItem_180 : decode cX9_readsItem 180 = .ok (.ifCond .le 7, 3) := by decide +kernel
theorem dX9_readsItem_183 : decode cX9_readsItem 183 = .ok (.iconst 1, 1) := by decide +kernel
theorem dX9_readsItem_184 : decode cX9_readsItem 184 = .ok (.goto 4, 3) := by decide +kernel
theorem dX9_readsItem_187 : decode cX9_readsItem 187 = .ok (.iconst 0, 1) := by decide +kernel
theorem dX9_readsItem_188 : decode cX9_readsItem 188 = .ok (.invokevirtual 96, 3) := by decide +kernel
theorem dX9_readsItem_191 : decode cX9_readsItem 191 = .ok (.invokestatic 83, 3) := by decide +kernel
theorem dX9_readsItem_194 : decode cX9_readsItem 194 = .ok (.iastore, 1) := by decide +kernel
theorem dX9_readsItem_195 : decode cX9_readsItem 195 = .ok (.aload_n 0, 1) := by decide +kernel
theorem dX9_readsItem_196 : decode cX9_readsItem 196 = .ok (.getfield 16, 3) := by decide +kernel
theorem dX9_readsItem_199 : decode cX9_readsItem 199 = .ok (.bipush 18, 2) := by decide +kernel
theorem dX9_readsItem_201 : decode cX9_readsItem 201 = .ok (.iload_n 2, 1) := by decide +kernel
theorem dX9_readsItem_202 : decode cX9_readsItem 202 = .ok (.iadd, 1) := by decide +kernel
theorem dX9_readsItem_203 : decode cX9_readsItem 203 = .ok (.aload_n 0, 1) := by decide +kernel
theorem dX9_readsItem_204 : decode cX9_readsItem 204 = .ok (.iconst 1, 1) := by decide +kernel
theorem dX9_readsItem_205 : decode cX9_readsItem 205 = .ok (.bipush 9, 2) := by decide +kernel
theorem dX9_readsItem_207 : decode cX9_readsItem 207 = .ok (.invokevirtual 100, 3) := by decide +kernel
theorem dX9_readsItem_210 : decode cX9_readsItem 210 = .ok (.iastore, 1) := by decide +kernel
theorem dX9_readsItem_211 : decode cX9_readsItem 211 = .ok (.aload_n 0, 1) := by decide +kernel
theorem dX9_readsItem_212 : decode cX9_readsItem 212 = .ok (.getfield 16, 3) := by decide +kernel
theorem dX9_readsItem_215 : decode cX9_readsItem 215 = .ok (.bipush 26, 2) := by decide +kernel
theorem dX9_readsItem_217 : decode cX9_readsItem 217 = .ok (.iload_n 2, 1) := by decide +kernel
theorem dX9_readsItem_218 : decode cX9_readsItem 218 = .ok (.iadd, 1) := by decide +kernel
theorem dX9_readsItem_219 : decode cX9_readsItem 219 = .ok (.aload_n 0, 1) := by decide +kernel
theorem dX9_readsItem_220 : decode cX9_readsItem 220 = .ok (.iconst 1, 1) := by decide +kernel
theorem dX9_readsItem_221 : decode cX9_readsItem 221 = .ok (.iconst 5, 1) := by decide +kernel
theorem dX9_readsItem_222 : decode cX9_readsItem 222 = .ok (.invokevirtual 100, 3) := by decide +kernel
theorem dX9_readsItem_225 : decode cX9_readsItem 225 = .ok (.iastore, 1) := by decide +kernel
theorem dX9_readsItem_226 : decode cX9_readsItem 226 = .ok (.aload_n 0, 1) := by decide +kernel
theorem dX9_readsItem_227 : decode cX9_readsItem 227 = .ok (.getfield 16, 3) := by decide +kernel
theorem dX9_readsItem_230 : decode cX9_readsItem 230 = .ok (.iconst 1, 1) := by decide +kernel
theorem dX9_readsItem_231 : decode cX9_readsItem 231 = .ok (.dup2, 1) := by decide +kernel
theorem dX9_readsItem_232 : decode cX9_readsItem 232 = .ok (.iaload, 1) := by decide +kernel
theorem dX9_readsItem_233 : decode cX9_readsItem 233 = .ok (.iconst 1, 1) := by decide +kernel
theorem dX9_readsItem_234 : decode cX9_readsItem 234 = .ok (.iadd, 1) := by decide +kernel
theorem dX9_readsItem_235 : decode cX9_readsItem 235 = .ok (.iastore, 1) := by decide +kernel
theorem dX9_readsItem_236 : decode cX9_readsItem 236 = .ok (.return_, 1) := by decide +kernel
theorem dX9_settles_0 : decode cX9_settles 0 = .ok (.iconst 0, 1) := by decide +kernel
theorem dX9_settles_1 : decode cX9_settles 1 = .ok (.istore_n 1, 1) := by decide +kernel
theorem dX9_settles_2 : decode cX9_settles 2 = .ok (.iload_n 1, 1) := by decide +kernel
theorem dX9_settles_3 : decode cX9_settles 3 = .ok (.bipush 34, 2) := by decide +kernel
theorem dX9_settles_5 : decode cX9_settles 5 = .ok (.if_icmp .ge 21, 3) := by decide +kernel
theorem dX9_settles_8 : decode cX9_settles 8 = .ok (.aload_n 0, 1) := by decide +kernel
theorem dX9_settles_9 : decode cX9_settles 9 = .ok (.getfield 13, 3) := by decide +kernel
theorem dX9_settles_12 : decode cX9_settles 12 = .ok (.iload_n 1, 1) := by decide +kernel
theorem dX9_settles_13 : decode cX9_settles 13 = .ok (.aload_n 0, 1) := by decide +kernel
theorem dX9_settles_14 : decode cX9_settles 14 = .ok (.getfield 16, 3) := by decide +kernel
theorem dX9_settles_17 : decode cX9_settles 17 = .ok (.iload_n 1, 1) := by decide +kernel
theorem dX9_settles_18 : decode cX9_settles 18 = .ok (.iaload, 1) := by decide +kernel
theorem dX9_settles_19 : decode cX9_settles 19 = .ok (.iastore, 1) := by decide +kernel
theorem dX9_settles_20 : decode cX9_settles 20 = .ok (.iinc 1 1, 3) := by decide +kernel
theorem dX9_settles_23 : decode cX9_settles 23 = .ok (.goto (-21), 3) := by decide +kernel
theorem dX9_settles_26 : decode cX9_settles 26 = .ok (.iconst 0, 1) := by decide +kernel
theorem dX9_settles_27 : decode cX9_settles 27 = .ok (.istore_n 1, 1) := by decide +kernel
theorem dX9_settles_28 : decode cX9_settles 28 = .ok (.iload_n 1, 1) := by decide +kernel
theorem dX9_settles_29 : decode cX9_settles 29 = .ok (.bipush 66, 2) := by decide +kernel
theorem dX9_settles_31 : decode cX9_settles 31 = .ok (.if_icmp .ge 21, 3) := by decide +kernel
theorem dX9_settles_34 : decode cX9_settles 34 = .ok (.aload_n 0, 1) := by decide +kernel
theorem dX9_settles_35 : decode cX9_settles 35 = .ok (.getfield 22, 3) := by decide +kernel
theorem dX9_settles_38 : decode cX9_settles 38 = .ok (.iload_n 1, 1) := by decide +kernel
theorem dX9_settles_39 : decode cX9_settles 39 = .ok (.aload_n 0, 1) := by decide +kernel
theorem dX9_settles_40 : decode cX9_settles 40 = .ok (.getfield 19, 3) := by decide +kernel
theorem dX9_settles_43 : decode cX9_settles 43 = .ok (.iload_n 1, 1) := by decide +kernel
theorem dX9_settles_44 : decode cX9_settles 44 = .ok (.iaload, 1) := by decide +kernel
theorem dX9_settles_45 : decode cX9_settles 45 = .ok (.iastore, 1) := by decide +kernel
theorem dX9_settles_46 : decode cX9_settles 46 = .ok (.iinc 1 1, 3) := by decide +kernel
theorem dX9_settles_49 : decode cX9_settles 49 = .ok (.goto (-21), 3) := by decide +kernel
theorem dX9_settles_52 : decode cX9_settles 52 = .ok (.aload_n 0, 1) := by decide +kernel
theorem dX9_settles_53 : decode cX9_settles 53 = .ok (.iconst 0, 1) := by decide +kernel
theorem dX9_settles_54 : decode cX9_settles 54 = .ok (.putfield 64, 3) := by decide +kernel
theorem dX9_settles_57 : decode cX9_settles 57 = .ok (.aload_n 0, 1) := by decide +kernel
theorem dX9_settles_58 : decode cX9_settles 58 = .ok (.iconst 0, 1) := by decide +kernel
theorem dX9_settles_59 : decode cX9_settles 59 = .ok (.putfield 112, 3) := by decide +kernel
theorem dX9_settles_62 : decode cX9_settles 62 = .ok (.aload_n 0, 1) := by decide +kernel
theorem dX9_settles_63 : decode cX9_settles 63 = .ok (.iconst 0, 1) := by decide +kernel
theorem dX9_settles_64 : decode cX9_settles 64 = .ok (.putfield 115, 3) := by decide +kernel
theorem dX9_settles_67 : decode cX9_settles 67 = .ok (.aload_n 0, 1) := by decide +kernel
theorem dX9_settles_68 : decode cX9_settles 68 = .ok (.getfield 34, 3) := by decide +kernel
theorem dX9_settles_71 : decode cX9_settles 71 = .ok (.iconst 0, 1) := by decide +kernel
theorem dX9_settles_72 : decode cX9_settles 72 = .ok (.iconst 0, 1) := by decide +kernel
theorem dX9_settles_73 : decode cX9_settles 73 = .ok (.bastore, 1) := by decide +kernel
theorem dX9_settles_74 : decode cX9_settles 74 = .ok (.aload_n 0, 1) := by decide +kernel
theorem dX9_settles_75 : decode cX9_settles 75 = .ok (.getfield 34, 3) := by decide +kernel
theorem dX9_settles_78 : decode cX9_settles 78 = .ok (.iconst 1, 1) := by decide +kernel
theorem dX9_settles_79 : decode cX9_settles 79 = .ok (.iconst 0, 1) := by decide +kernel
theorem dX9_settles_80 : decode cX9_settles 80 = .ok (.bastore, 1) := by decide +kernel
theorem dX9_settles_81 : decode cX9_settles 81 = .ok (.return_, 1) := by decide +kernel
theorem dX9_gorge_0 : decode cX9_gorge 0 = .ok (.aload_n 0, 1) := by decide +kernel
theorem dX9_gorge_1 : decode cX9_gorge 1 = .ok (.iconst 0, 1) := by decide +kernel
theorem dX9_gorge_2 : decode cX9_gorge 2 = .ok (.putfield 56, 3) := by decide +kernel
theorem dX9_gorge_5 : decode cX9_gorge 5 = .ok (.aload_n 0, 1) := by decide +kernel
theorem dX9_gorge_6 : decode cX9_gorge 6 = .ok (.iconst (-1), 1) := by decide +kernel
theorem dX9_gorge_7 : decode cX9_gorge 7 = .ok (.putfield 86, 3) := by decide +kernel
theorem dX9_gorge_10 : decode cX9_gorge 10 = .ok (.aload_n 0, 1) := by decide +kernel
theorem dX9_gorge_11 : decode cX9_gorge 11 = .ok (.iconst 0, 1) := by decide +kernel
theorem dX9_gorge_12 : decode cX9_gorge 12 = .ok (.putfield 67, 3) := by decide +kernel
theorem dX9_gorge_15 : decode cX9_gorge 15 = .ok (.aload_n 0, 1) := by decide +kernel
theorem dX9_gorge_16 : decode cX9_gorge 16 = .ok (.invokevirtual 50, 3) := by decide +kernel
theorem dX9_gorge_19 : decode cX9_gorge 19 = .ok (.iconst 0, 1) := by decide +kernel
theorem dX9_gorge_20 : decode cX9_gorge 20 = .ok (.istore_n 1, 1) := by decide +kernel
theorem dX9_gorge_21 : decode cX9_gorge 21 = .ok (.aload_n 0, 1) := by decide +kernel
theorem dX9_gorge_22 : decode cX9_gorge 22 = .ok (.invokevirtual 93, 3) := by decide +kernel
theorem dX9_gorge_25 : decode cX9_gorge 25 = .ok (.aload_n 0, 1) := by decide +kernel
theorem dX9_gorge_26 : decode cX9_gorge 26 = .ok (.invokevirtual 89, 3) := by decide +kernel
theorem dX9_gorge_29 : decode cX9_gorge 29 = .ok (.ifCond .eq 72, 3) := by decide +kernel
theorem dX9_gorge_32 : decode cX9_gorge 32 = .ok (.aload_n 0, 1) := by decide +kernel
theorem dX9_gorge_33 : decode cX9_gorge 33 = .ok (.getfield 77, 3) := by decide +kernel
theorem dX9_gorge_36 : decode cX9_gorge 36 = .ok (.ifCond .eq 65, 3) := by decide +kernel
theorem dX9_gorge_39 : decode cX9_gorge 39 = .ok (.aload_n 0, 1) := by decide +kernel
theorem dX9_gorge_40 : decode cX9_gorge 40 = .ok (.aload_n 0, 1) := by decide +kernel
theorem dX9_gorge_41 : decode cX9_gorge 41 = .ok (.getfield 77, 3) := by decide +kernel
theorem dX9_gorge_44 : decode cX9_gorge 44 = .ok (.iconst 1, 1) := by decide +kernel
theorem dX9_gorge_45 : decode cX9_gorge 45 = .ok (.if_icmp .ne 15, 3) := by decide +kernel
theorem dX9_gorge_48 : decode cX9_gorge 48 = .ok (.aload_n 0, 1) := by decide +kernel
theorem dX9_gorge_49 : decode cX9_gorge 49 = .ok (.iload_n 1, 1) := by decide +kernel
theorem dX9_gorge_50 : decode cX9_gorge 50 = .ok (.invokevirtual 104, 3) := by decide +kernel
theorem dX9_gorge_53 : decode cX9_gorge 53 = .ok (.ifCond .eq 7, 3) := by decide +kernel
theorem dX9_gorge_56 : decode cX9_gorge 56 = .ok (.iconst 1, 1) := by decide +kernel
theorem dX9_gorge_57 : decode cX9_gorge 57 = .ok (.goto 4, 3) := by decide +kernel
theorem dX9_gorge_60 : decode cX9_gorge 60 = .ok (.iconst 0, 1) := by decide +kernel
theorem dX9_gorge_61 : decode cX9_gorge 61 = .ok (.invokevirtual 96, 3) := by decide +kernel
theorem dX9_gorge_64 : decode cX9_gorge 64 = .ok (.istore_n 2, 1) := by decide +kernel
theorem dX9_gorge_65 : decode cX9_gorge 65 = .ok (.aload_n 0, 1) := by decide +kernel
theorem dX9_gorge_66 : decode cX9_gorge 66 = .ok (.invokevirtual 89, 3) := by decide +kernel
theorem dX9_gorge_69 : decode cX9_gorge 69 = .ok (.ifCond .eq 8, 3) := by decide +kernel
theorem dX9_gorge_72 : decode cX9_gorge 72 = .ok (.aload_n 0, 1) := by decide +kernel
theorem dX9_gorge_73 : decode cX9_gorge 73 = .ok (.iload_n 2, 1) := by decide +kernel
theorem dX9_gorge_74 : decode cX9_gorge 74 = .ok (.invokevirtual 108, 3) := by decide +kernel
theorem dX9_gorge_77 : decode cX9_gorge 77 = .ok (.aload_n 0, 1) := by decide +kernel
theorem dX9_gorge_78 : decode cX9_gorge 78 = .ok (.aload_n 0, 1) := by decide +kernel
theorem dX9_gorge_79 : decode cX9_gorge 79 = .ok (.getfield 77, 3) := by decide +kernel
theorem dX9_gorge_82 : decode cX9_gorge 82 = .ok (.iconst 3, 1) := by decide +kernel
theorem dX9_gorge_83 : decode cX9_gorge 83 = .ok (.if_icmp .ne 7, 3) := by decide +kernel
theorem dX9_gorge_86 : decode cX9_gorge 86 = .ok (.iconst 1, 1) := by decide +kernel
theorem dX9_gorge_87 : decode cX9_gorge 87 = .ok (.goto 4, 3) := by decide +kernel
theorem dX9_gorge_90 : decode cX9_gorge 90 = .ok (.iconst 0, 1) := by decide +kernel
theorem dX9_gorge_91 : decode cX9_gorge 91 = .ok (.invokevirtual 96, 3) := by decide +kernel
theorem dX9_gorge_94 : decode cX9_gorge 94 = .ok (.pop, 1) := by decide +kernel
theorem dX9_gorge_95 : decode cX9_gorge 95 = .ok (.iinc 1 1, 3) := by decide +kernel
theorem dX9_gorge_98 : decode cX9_gorge 98 = .ok (.goto (-73), 3) := by decide +kernel
theorem dX9_gorge_101 : decode cX9_gorge 101 = .ok (.aload_n 0, 1) := by decide +kernel
theorem dX9_gorge_102 : decode cX9_gorge 102 = .ok (.invokevirtual 89, 3) := by decide +kernel
theorem dX9_gorge_105 : decode cX9_gorge 105 = .ok (.ifCond .ne 11, 3) := by decide +kernel
theorem dX9_gorge_108 : decode cX9_gorge 108 = .ok (.bipush (-10), 2) := by decide +kernel
theorem dX9_gorge_110 : decode cX9_gorge 110 = .ok (.aload_n 0, 1) := by decide +kernel
theorem dX9_gorge_111 : decode cX9_gorge 111 = .ok (.getfield 86, 3) := by decide +kernel
theorem dX9_gorge_114 : decode cX9_gorge 114 = .ok (.isub, 1) := by decide +kernel
theorem dX9_gorge_115 : decode cX9_gorge 115 = .ok (.ireturn, 1) := by decide +kernel
theorem dX9_gorge_116 : decode cX9_gorge 116 = .ok (.aload_n 0, 1) := by decide +kernel
theorem dX9_gorge_117 : decode cX9_gorge 117 = .ok (.invokevirtual 53, 3) := by decide +kernel
theorem dX9_gorge_120 : decode cX9_gorge 120 = .ok (.iload_n 1, 1) := by decide +kernel
theorem dX9_gorge_121 : decode cX9_gorge 121 = .ok (.ireturn, 1) := by decide +kernel
theorem dX9_isPerson_0 : decode cX9_isPerson 0 = .ok (.iload_n 1, 1) := by decide +kernel
theorem dX9_isPerson_1 : decode cX9_isPerson 1 = .ok (.iconst 0, 1) := by decide +kernel
theorem dX9_isPerson_2 : decode cX9_isPerson 2 = .ok (.aload_n 0, 1) := by decide +kernel
theorem dX9_isPerson_3 : decode cX9_isPerson 3 = .ok (.getfield 13, 3) := by decide +kernel
theorem dX9_isPerson_6 : decode cX9_isPerson 6 = .ok (.iconst 1, 1) := by decide +kernel
theorem dX9_isPerson_7 : decode cX9_isPerson 7 = .ok (.iaload, 1) := by decide +kernel
theorem dX9_isPerson_8 : decode cX9_isPerson 8 = .ok (.iconst 1, 1) := by decide +kernel
theorem dX9_isPerson_9 : decode cX9_isPerson 9 = .ok (.isub, 1) := by decide +kernel
theorem dX9_isPerson_10 : decode cX9_isPerson 10 = .ok (.invokestatic 60, 3) := by decide +kernel
theorem dX9_isPerson_13 : decode cX9_isPerson 13 = .ok (.ireturn, 1) := by decide +kernel
theorem dX9_isPlank_0 : decode cX9_isPlank 0 = .ok (.iload_n 1, 1) := by decide +kernel
theorem dX9_isPlank_1 : decode cX9_isPlank 1 = .ok (.iconst 0, 1) := by decide +kernel
theorem dX9_isPlank_2 : decode cX9_isPlank 2 = .ok (.aload_n 0, 1) := by decide +kernel
theorem dX9_isPlank_3 : decode cX9_isPlank 3 = .ok (.getfield 13, 3) := by decide +kernel
theorem dX9_isPlank_6 : decode cX9_isPlank 6 = .ok (.iconst 0, 1) := by decide +kernel
theorem dX9_isPlank_7 : decode cX9_isPlank 7 = .ok (.iaload, 1) := by decide +kernel
theorem dX9_isPlank_8 : decode cX9_isPlank 8 = .ok (.iconst 1, 1) := by decide +kernel
theorem dX9_isPlank_9 : decode cX9_isPlank 9 = .ok (.isub, 1) := by decide +kernel
theorem dX9_isPlank_10 : decode cX9_isPlank 10 = .ok (.invokestatic 60, 3) := by decide +kernel
theorem dX9_isPlank_13 : decode cX9_isPlank 13 = .ok (.ireturn, 1) := by decide +kernel
theorem dX9_cameFor_0 : decode cX9_cameFor 0 = .ok (.iconst 0, 1) := by decide +kernel
theorem dX9_cameFor_1 : decode cX9_cameFor 1 = .ok (.istore_n 3, 1) := by decide +kernel
theorem dX9_cameFor_2 : decode cX9_cameFor 2 = .ok (.iconst 0, 1) := by decide +kernel
theorem dX9_cameFor_3 : decode cX9_cameFor 3 = .ok (.istore 4, 2) := by decide +kernel
theorem dX9_cameFor_5 : decode cX9_cameFor 5 = .ok (.iload 4, 2) := by decide +kernel
theorem dX9_cameFor_7 : decode cX9_cameFor 7 = .ok (.aload_n 0, 1) := by decide +kernel
theorem dX9_cameFor_8 : decode cX9_cameFor 8 = .ok (.getfield 13, 3) := by decide +kernel
theorem dX9_cameFor_11 : decode cX9_cameFor 11 = .ok (.iconst 1, 1) := by decide +kernel
theorem dX9_cameFor_12 : decode cX9_cameFor 12 = .ok (.iaload, 1) := by decide +kernel
theorem dX9_cameFor_13 : decode cX9_cameFor 13 = .ok (.if_icmp .ge 35, 3) := by decide +kernel
theorem dX9_cameFor_16 : decode cX9_cameFor 16 = .ok (.iload_n 3, 1) := by decide +kernel
theorem dX9_cameFor_17 : decode cX9_cameFor 17 = .ok (.aload_n 1, 1) := by decide +kernel
theorem dX9_cameFor_18 : decode cX9_cameFor 18 = .ok (.iconst 2, 1) := by decide +kernel
theorem dX9_cameFor_19 : decode cX9_cameFor 19 = .ok (.bipush 8, 2) := by decide +kernel
theorem dX9_cameFor_21 : decode cX9_cameFor 21 = .ok (.iload 4, 2) := by decide +kernel
theorem dX9_cameFor_23 : decode cX9_cameFor 23 = .ok (.imul, 1) := by decide +kernel
theorem dX9_cameFor_24 : decode cX9_cameFor 24 = .ok (.iadd, 1) := by decide +kernel
theorem dX9_cameFor_25 : decode cX9_cameFor 25 = .ok (.iload_n 2, 1) := by decide +kernel
theorem dX9_cameFor_26 : decode cX9_cameFor 26 = .ok (.iadd, 1) := by decide +kernel
theorem dX9_cameFor_27 : decode cX9_cameFor 27 = .ok (.iaload, 1) := by decide +kernel
theorem dX9_cameFor_28 : decode cX9_cameFor 28 = .ok (.iconst (-1), 1) := by decide +kernel
theorem dX9_cameFor_29 : decode cX9_cameFor 29 = .ok (.if_icmp .ne 10, 3) := by decide +kernel
theorem dX9_cameFor_32 : decode cX9_cameFor 32 = .ok (.iconst 1, 1) := by decide +kernel
theorem dX9_cameFor_33 : decode cX9_cameFor 33 = .ok (.iload 4, 2) := by decide +kernel
theorem dX9_cameFor_35 : decode cX9_cameFor 35 = .ok (.ishl, 1) := by decide +kernel
theorem dX9_cameFor_36 : decode cX9_cameFor 36 = .ok (.goto 4, 3) := by decide +kernel
theorem dX9_cameFor_39 : decode cX9_cameFor 39 = .ok (.iconst 0, 1) := by decide +kernel
theorem dX9_cameFor_40 : decode cX9_cameFor 40 = .ok (.ior, 1) := by decide +kernel
theorem dX9_cameFor_41 : decode cX9_cameFor 41 = .ok (.istore_n 3, 1) := by decide +kernel
theorem dX9_cameFor_42 : decode cX9_cameFor 42 = .ok (.iinc 4 1, 3) := by decide +kernel
theorem dX9_cameFor_45 : decode cX9_cameFor 45 = .ok (.goto (-40), 3) := by decide +kernel
theorem dX9_cameFor_48 : decode cX9_cameFor 48 = .ok (.iload_n 3, 1) := by decide +kernel
theorem dX9_cameFor_49 : decode cX9_cameFor 49 = .ok (.ireturn, 1) := by decide +kernel
theorem dX9_holdOf_0 : decode cX9_holdOf 0 = .ok (.aload_n 0, 1) := by decide +kernel
theorem dX9_holdOf_1 : decode cX9_holdOf 1 = .ok (.getfield 13, 3) := by decide +kernel
theorem dX9_holdOf_4 : decode cX9_holdOf 4 = .ok (.bipush 10, 2) := by decide +kernel
theorem dX9_holdOf_6 : decode cX9_holdOf 6 = .ok (.iload_n 1, 1) := by decide +kernel
theorem dX9_holdOf_7 : decode cX9_holdOf 7 = .ok (.iadd, 1) := by decide +kernel
theorem dX9_holdOf_8 : decode cX9_holdOf 8 = .ok (.iaload, 1) := by decide +kernel
theorem dX9_holdOf_9 : decode cX9_holdOf 9 = .ok (.istore 4, 2) := by decide +kernel
theorem dX9_holdOf_11 : decode cX9_holdOf 11 = .ok (.aload_n 0, 1) := by decide +kernel
theorem dX9_holdOf_12 : decode cX9_holdOf 12 = .ok (.getfield 13, 3) := by decide +kernel
theorem dX9_holdOf_15 : decode cX9_holdOf 15 = .ok (.bipush 18, 2) := by decide +kernel
theorem dX9_holdOf_17 : decode cX9_holdOf 17 = .ok (.iload_n 1, 1) := by decide +kernel
theorem dX9_holdOf_18 : decode cX9_holdOf 18 = .ok (.iadd, 1) := by decide +kernel
theorem dX9_holdOf_19 : decode cX9_holdOf 19 = .ok (.iaload, 1) := by decide +kernel
theorem dX9_holdOf_20 : decode cX9_holdOf 20 = .ok (.istore 5, 2) := by decide +kernel
theorem dX9_holdOf_22 : decode cX9_holdOf 22 = .ok (.iload 4, 2) := by decide +kernel
theorem dX9_holdOf_24 : decode cX9_holdOf 24 = .ok (.iconst 2, 1) := by decide +kernel
theorem dX9_holdOf_25 : decode cX9_holdOf 25 = .ok (.if_icmp .ne 16, 3) := by decide +kernel
theorem dX9_holdOf_28 : decode cX9_holdOf 28 = .ok (.iload 5, 2) := by decide +kernel
theorem dX9_holdOf_30 : decode cX9_holdOf 30 = .ok (.iconst 3, 1) := by decide +kernel
theorem dX9_holdOf_31 : decode cX9_holdOf 31 = .ok (.if_icmp .ge 8, 3) := by decide +kernel
theorem dX9_holdOf_34 : decode cX9_holdOf 34 = .ok (.iload 5, 2) := by decide +kernel
theorem dX9_holdOf_36 : decode cX9_holdOf 36 = .ok (.goto 4, 3) := by decide +kernel
theorem dX9_holdOf_39 : decode cX9_holdOf 39 = .ok (.iconst 3, 1) := by decide +kernel
theorem dX9_holdOf_40 : decode cX9_holdOf 40 = .ok (.ireturn, 1) := by decide +kernel
theorem dX9_holdOf_41 : decode cX9_holdOf 41 = .ok (.iload 4, 2) := by decide +kernel
theorem dX9_holdOf_43 : decode cX9_holdOf 43 = .ok (.iconst 4, 1) := by decide +kernel
theorem dX9_holdOf_44 : decode cX9_holdOf 44 = .ok (.if_icmp .ne 20, 3) := by decide +kernel
theorem dX9_holdOf_47 : decode cX9_holdOf 47 = .ok (.iload_n 2, 1) := by decide +kernel
theorem dX9_holdOf_48 : decode cX9_holdOf 48 = .ok (.iconst 2, 1) := by decide +kernel
theorem dX9_holdOf_49 : decode cX9_holdOf 49 = .ok (.irem, 1) := by decide +kernel
theorem dX9_holdOf_50 : decode cX9_holdOf 50 = .ok (.iconst 1, 1) := by decide +kernel
theorem dX9_holdOf_51 : decode cX9_holdOf 51 = .ok (.if_icmp .ne 10, 3) := by decide +kernel
theorem dX9_holdOf_54 : decode cX9_holdOf 54 = .ok (.iconst 2, 1) := by decide +kernel
theorem dX9_holdOf_55 : decode cX9_holdOf 55 = .ok (.iload 5, 2) := by decide +kernel
theorem dX9_holdOf_57 : decode cX9_holdOf 57 = .ok (.imul, 1) := by decide +kernel
theorem dX9_holdOf_58 : decode cX9_holdOf 58 = .ok (.goto 5, 3) := by decide +kernel
theorem dX9_holdOf_61 : decode cX9_holdOf 61 = .ok (.iload 5, 2) := by decide +kernel
theorem dX9_holdOf_63 : decode cX9_holdOf 63 = .ok (.ireturn, 1) := by decide +kernel
theorem dX9_holdOf_64 : decode cX9_holdOf 64 = .ok (.iload 4, 2) := by decide +kernel
theorem dX9_holdOf_66 : decode cX9_holdOf 66 = .ok (.iconst 5, 1) := by decide +kernel
theorem dX9_holdOf_67 : decode cX9_holdOf 67 = .ok (.if_icmp .eq 6, 3) := by decide +kernel
theorem dX9_holdOf_70 : decode cX9_holdOf 70 = .ok (.iload 5, 2) := by decide +kernel
theorem dX9_holdOf_72 : decode cX9_holdOf 72 = .ok (.ireturn, 1) := by decide +kernel
theorem dX9_holdOf_73 : decode cX9_holdOf 73 = .ok (.iconst 0, 1) := by decide +kernel
theorem dX9_holdOf_74 : decode cX9_holdOf 74 = .ok (.istore 6, 2) := by decide +kernel
theorem dX9_holdOf_76 : decode cX9_holdOf 76 = .ok (.iconst 0, 1) := by decide +kernel
theorem dX9_holdOf_77 : decode cX9_holdOf 77 = .ok (.istore 7, 2) := by decide +kernel
theorem dX9_holdOf_79 : decode cX9_holdOf 79 = .ok (.iload 7, 2) := by decide +kernel
theorem dX9_holdOf_81 : decode cX9_holdOf 81 = .ok (.aload_n 0, 1) := by decide +kernel
theorem dX9_holdOf_82 : decode cX9_holdOf 82 = .ok (.getfield 13, 3) := by decide +kernel
theorem dX9_holdOf_85 : decode cX9_holdOf 85 = .ok (.iconst 1, 1) := by decide +kernel
theorem dX9_holdOf_86 : decode cX9_holdOf 86 = .ok (.iaload, 1) := by decide +kernel
theorem dX9_holdOf_87 : decode cX9_holdOf 87 = .ok (.if_icmp .ge 44, 3) := by decide +kernel
theorem dX9_holdOf_90 : decode cX9_holdOf 90 = .ok (.iload 6, 2) := by decide +kernel
theorem dX9_holdOf_92 : decode cX9_holdOf 92 = .ok (.ifCond .ne 26, 3) := by decide +kernel
theorem dX9_holdOf_95 : decode cX9_holdOf 95 = .ok (.iload_n 3, 1) := by decide +kernel
theorem dX9_holdOf_96 : decode cX9_holdOf 96 = .ok (.iload 7, 2) := by decide +kernel
theorem dX9_holdOf_98 : decode cX9_holdOf 98 = .ok (.invokestatic 118, 3) := by decide +kernel
theorem dX9_holdOf_101 : decode cX9_holdOf 101 = .ok (.ifCond .eq 21, 3) := by decide +kernel
theorem dX9_holdOf_104 : decode cX9_holdOf 104 = .ok (.aload_n 0, 1) := by decide +kernel
theorem dX9_holdOf_105 : decode cX9_holdOf 105 = .ok (.getfield 13, 3) := by decide +kernel
theorem dX9_holdOf_108 : decode cX9_holdOf 108 = .ok (.bipush 10, 2) := by decide +kernel
theorem dX9_holdOf_110 : decode cX9_holdOf 110 = .ok (.iload 7, 2) := by decide +kernel
theorem dX9_holdOf_112 : decode cX9_holdOf 112 = .ok (.iadd, 1) := by decide +kernel
theorem dX9_holdOf_113 : decode cX9_holdOf 113 = .ok (.iaload, 1) := by decide +kernel
theorem dX9_holdOf_114 : decode cX9_holdOf 114 = .ok (.iconst 3, 1) := by decide +kernel
theorem dX9_holdOf_115 : decode cX9_holdOf 115 = .ok (.if_icmp .ne 7, 3) := by decide +kernel
theorem dX9_holdOf_118 : decode cX9_holdOf 118 = .ok (.iconst 1, 1) := by decide +kernel
theorem dX9_holdOf_119 : decode cX9_holdOf 119 = .ok (.goto 4, 3) := by decide +kernel
theorem dX9_holdOf_122 : decode cX9_holdOf 122 = .ok (.iconst 0, 1) := by decide +kernel
theorem dX9_holdOf_123 : decode cX9_holdOf 123 = .ok (.istore 6, 2) := by decide +kernel
theorem dX9_holdOf_125 : decode cX9_holdOf 125 = .ok (.iinc 7 1, 3) := by decide +kernel
theorem dX9_holdOf_128 : decode cX9_holdOf 128 = .ok (.goto (-49), 3) := by decide +kernel
theorem dX9_holdOf_131 : decode cX9_holdOf 131 = .ok (.iload 6, 2) := by decide +kernel
theorem dX9_holdOf_133 : decode cX9_holdOf 133 = .ok (.ifCond .eq 7, 3) := by decide +kernel
theorem dX9_holdOf_136 : decode cX9_holdOf 136 = .ok (.iconst 0, 1) := by decide +kernel
theorem dX9_holdOf_137 : decode cX9_holdOf 137 = .ok (.goto 7, 3) := by decide +kernel
theorem dX9_holdOf_140 : decode cX9_holdOf 140 = .ok (.iconst 2, 1) := by decide +kernel
theorem dX9_holdOf_141 : decode cX9_holdOf 141 = .ok (.iload 5, 2) := by decide +kernel
theorem dX9_holdOf_143 : decode cX9_holdOf 143 = .ok (.imul, 1) := by decide +kernel
theorem dX9_holdOf_144 : decode cX9_holdOf 144 = .ok (.ireturn, 1) := by decide +kernel
theorem dX9_standing_0 : decode cX9_standing 0 = .ok (.iconst 0, 1) := by decide +kernel
theorem dX9_standing_1 : decode cX9_standing 1 = .ok (.istore 4, 2) := by decide +kernel
theorem dX9_standing_3 : decode cX9_standing 3 = .ok (.iconst 0, 1) := by decide +kernel
theorem dX9_standing_4 : decode cX9_standing 4 = .ok (.istore 5, 2) := by decide +kernel
theorem dX9_standing_6 : decode cX9_standing 6 = .ok (.iload 5, 2) := by decide +kernel
theorem dX9_standing_8 : decode cX9_standing 8 = .ok (.aload_n 0, 1) := by decide +kernel
theorem dX9_standing_9 : decode cX9_standing 9 = .ok (.getfield 13, 3) := by decide +kernel
theorem dX9_standing_12 : decode cX9_standing 12 = .ok (.iconst 1, 1) := by decide +kernel
theorem dX9_standing_13 : decode cX9_standing 13 = .ok (.iaload, 1) := by decide +kernel
theorem dX9_standing_14 : decode cX9_standing 14 = .ok (.if_icmp .ge 81, 3) := by decide +kernel
theorem dX9_standing_17 : decode cX9_standing 17 = .ok (.aload_n 0, 1) := by decide +kernel
theorem dX9_standing_18 : decode cX9_standing 18 = .ok (.getfield 13, 3) := by decide +kernel
theorem dX9_standing_21 : decode cX9_standing 21 = .ok (.iconst 2, 1) := by decide +kernel
theorem dX9_standing_22 : decode cX9_standing 22 = .ok (.iload 5, 2) := by decide +kernel
theorem dX9_standing_24 : decode cX9_standing 24 = .ok (.iadd, 1) := by decide +kernel
theorem dX9_standing_25 : decode cX9_standing 25 = .ok (.iaload, 1) := by decide +kernel
theorem dX9_standing_26 : decode cX9_standing 26 = .ok (.iload_n 3, 1) := by decide +kernel
theorem dX9_standing_27 : decode cX9_standing 27 = .ok (.if_icmp .eq 17, 3) := by decide +kernel
theorem dX9_standing_30 : decode cX9_standing 30 = .ok (.aload_n 0, 1) := by decide +kernel
theorem dX9_standing_31 : decode cX9_standing 31 = .ok (.getfield 13, 3) := by decide +kernel
theorem dX9_standing_34 : decode cX9_standing 34 = .ok (.bipush 10, 2) := by decide +kernel
theorem dX9_standing_36 : decode cX9_standing 36 = .ok (.iload 5, 2) := by decide +kernel
theorem dX9_standing_38 : decode cX9_standing 38 = .ok (.iadd, 1) := by decide +kernel
theorem dX9_standing_39 : decode cX9_standing 39 = .ok (.iaload, 1) := by decide +kernel
theorem dX9_standing_40 : decode cX9_standing 40 = .ok (.iconst 3, 1) := by decide +kernel
theorem dX9_standing_41 : decode cX9_standing 41 = .ok (.if_icmp .ne 7, 3) := by decide +kernel
theorem dX9_standing_44 : decode cX9_standing 44 = .ok (.iconst 1, 1) := by decide +kernel
theorem dX9_standing_45 : decode cX9_standing 45 = .ok (.goto 4, 3) := by decide +kernel
theorem dX9_standing_48 : decode cX9_standing 48 = .ok (.iconst 0, 1) := by decide +kernel
theorem dX9_standing_49 : decode cX9_standing 49 = .ok (.istore 6, 2) := by decide +kernel
theorem dX9_standing_51 : decode cX9_standing 51 = .ok (.iload 4, 2) := by decide +kernel
theorem dX9_standing_53 : decode cX9_standing 53 = .ok (.iload 6, 2) := by decide +kernel
theorem dX9_standing_55 : decode cX9_standing 55 = .ok (.ifCond .eq 30, 3) := by decide +kernel
theorem dX9_standing_58 : decode cX9_standing 58 = .ok (.iload_n 2, 1) := by decide +kernel
theorem dX9_standing_59 : decode cX9_standing 59 = .ok (.iload 5, 2) := by decide +kernel
theorem dX9_standing_61 : decode cX9_standing 61 = .ok (.invokestatic 118, 3) := by decide +kernel
theorem dX9_standing_64 : decode cX9_standing 64 = .ok (.ifCond .eq 21, 3) := by decide +kernel
theorem dX9_standing_67 : decode cX9_standing 67 = .ok (.aload_n 0, 1) := by decide +kernel
theorem dX9_standing_68 : decode cX9_standing 68 = .ok (.iload 5, 2) := by decide +kernel
theorem dX9_standing_70 : decode cX9_standing 70 = .ok (.iload_n 1, 1) := by decide +kernel
theorem dX9_standing_71 : decode cX9_standing 71 = .ok (.iload_n 2, 1) := by decide +kernel
theorem dX9_standing_72 : decode cX9_standing 72 = .ok (.invokevirtual 122, 3) := by decide +kernel
theorem dX9_standing_75 : decode cX9_standing 75 = .ok (.ifCond .le 10, 3) := by decide +kernel
theorem dX9_standing_78 : decode cX9_standing 78 = .ok (.iconst 1, 1) := by decide +kernel
theorem dX9_standing_79 : decode cX9_standing 79 = .ok (.iload 5, 2) := by decide +kernel
theorem dX9_standing_81 : decode cX9_standing 81 = .ok (.ishl, 1) := by decide +kernel
theorem dX9_standing_82 : decode cX9_standing 82 = .ok (.goto 4, 3) := by decide +kernel
theorem dX9_standing_85 : decode cX9_standing 85 = .ok (.iconst 0, 1) := by decide +kernel
theorem dX9_standing_86 : decode cX9_standing 86 = .ok (.ior, 1) := by decide +kernel
theorem dX9_standing_87 : decode cX9_standing 87 = .ok (.istore 4, 2) := by decide +kernel
theorem dX9_standing_89 : decode cX9_standing 89 = .ok (.iinc 5 1, 3) := by decide +kernel
theorem dX9_standing_92 : decode cX9_standing 92 = .ok (.goto (-86), 3) := by decide +kernel
theorem dX9_standing_95 : decode cX9_standing 95 = .ok (.iload 4, 2) := by decide +kernel
theorem dX9_standing_97 : decode cX9_standing 97 = .ok (.ireturn, 1) := by decide +kernel
theorem dX9_bearsBy_0 : decode cX9_bearsBy 0 = .ok (.aload_n 0, 1) := by decide +kernel
theorem dX9_bearsBy_1 : decode cX9_bearsBy 1 = .ok (.iload_n 1, 1) := by decide +kernel
theorem dX9_bearsBy_2 : decode cX9_bearsBy 2 = .ok (.iload_n 2, 1) := by decide +kernel
theorem dX9_bearsBy_3 : decode cX9_bearsBy 3 = .ok (.iconst 0, 1) := by decide +kernel
theorem dX9_bearsBy_4 : decode cX9_bearsBy 4 = .ok (.invokevirtual 126, 3) := by decide +kernel
theorem dX9_bearsBy_7 : decode cX9_bearsBy 7 = .ok (.istore_n 3, 1) := by decide +kernel
theorem dX9_bearsBy_8 : decode cX9_bearsBy 8 = .ok (.aload_n 0, 1) := by decide +kernel
theorem dX9_bearsBy_9 : decode cX9_bearsBy 9 = .ok (.iload_n 1, 1) := by decide +kernel
theorem dX9_bearsBy_10 : decode cX9_bearsBy 10 = .ok (.iload_n 2, 1) := by decide +kernel
theorem dX9_bearsBy_11 : decode cX9_bearsBy 11 = .ok (.iconst 1, 1) := by decide +kernel
theorem dX9_bearsBy_12 : decode cX9_bearsBy 12 = .ok (.invokevirtual 126, 3) := by decide +kernel
theorem dX9_bearsBy_15 : decode cX9_bearsBy 15 = .ok (.istore 4, 2) := by decide +kernel
theorem dX9_bearsBy_17 : decode cX9_bearsBy 17 = .ok (.iconst 0, 1) := by decide +kernel
theorem dX9_bearsBy_18 : decode cX9_bearsBy 18 = .ok (.istore 5, 2) := by decide +kernel
theorem dX9_bearsBy_20 : decode cX9_bearsBy 20 = .ok (.iconst 0, 1) := by decide +kernel
theorem dX9_bearsBy_21 : decode cX9_bearsBy 21 = .ok (.istore 6, 2) := by decide +kernel
theorem dX9_bearsBy_23 : decode cX9_bearsBy 23 = .ok (.iload 6, 2) := by decide +kernel
theorem dX9_bearsBy_25 : decode cX9_bearsBy 25 = .ok (.aload_n 0, 1) := by decide +kernel
theorem dX9_bearsBy_26 : decode cX9_bearsBy 26 = .ok (.getfield 13, 3) := by decide +kernel
theorem dX9_bearsBy_29 : decode cX9_bearsBy 29 = .ok (.iconst 1, 1) := by decide +kernel
theorem dX9_bearsBy_30 : decode cX9_bearsBy 30 = .ok (.iaload, 1) := by decide +kernel
theorem dX9_bearsBy_31 : decode cX9_bearsBy 31 = .ok (.if_icmp .ge 94, 3) := by decide +kernel
theorem dX9_bearsBy_34 : decode cX9_bearsBy 34 = .ok (.iconst 0, 1) := by decide +kernel
theorem dX9_bearsBy_35 : decode cX9_bearsBy 35 = .ok (.istore 7, 2) := by decide +kernel
theorem dX9_bearsBy_37 : decode cX9_bearsBy 37 = .ok (.iload 7, 2) := by decide +kernel
theorem dX9_bearsBy_39 : decode cX9_bearsBy 39 = .ok (.aload_n 0, 1) := by decide +kernel
theorem dX9_bearsBy_40 : decode cX9_bearsBy 40 = .ok (.getfield 13, 3) := by decide +kernel
theorem dX9_bearsBy_43 : decode cX9_bearsBy 43 = .ok (.iconst 1, 1) := by decide +kernel
theorem dX9_bearsBy_44 : decode cX9_bearsBy 44 = .ok (.iaload, 1) := by decide +kernel
theorem dX9_bearsBy_45 : decode cX9_bearsBy 45 = .ok (.if_icmp .ge 74, 3) := by decide +kernel
theorem dX9_bearsBy_48 : decode cX9_bearsBy 48 = .ok (.iload 6, 2) := by decide +kernel
theorem dX9_bearsBy_50 : decode cX9_bearsBy 50 = .ok (.iload 7, 2) := by decide +kernel
theorem dX9_bearsBy_52 : decode cX9_bearsBy 52 = .ok (.if_icmp .eq 42, 3) := by decide +kernel
theorem dX9_bearsBy_55 : decode cX9_bearsBy 55 = .ok (.iload_n 3, 1) := by decide +kernel
theorem dX9_bearsBy_56 : decode cX9_bearsBy 56 = .ok (.iload 6, 2) := by decide +kernel
theorem dX9_bearsBy_58 : decode cX9_bearsBy 58 = .ok (.invokestatic 118, 3) := by decide +kernel
theorem dX9_bearsBy_61 : decode cX9_bearsBy 61 = .ok (.ifCond .eq 33, 3) := by decide +kernel
theorem dX9_bearsBy_64 : decode cX9_bearsBy 64 = .ok (.iload 4, 2) := by decide +kernel
theorem dX9_bearsBy_66 : decode cX9_bearsBy 66 = .ok (.iload 7, 2) := by decide +kernel
theorem dX9_bearsBy_68 : decode cX9_bearsBy 68 = .ok (.invokestatic 118, 3) := by decide +kernel
theorem dX9_bearsBy_71 : decode cX9_bearsBy 71 = .ok (.ifCond .eq 23, 3) := by decide +kernel
theorem dX9_bearsBy_74 : decode cX9_bearsBy 74 = .ok (.aload_n 0, 1) := by decide +kernel
theorem dX9_bearsBy_75 : decode cX9_bearsBy 75 = .ok (.iload 6, 2) := by decide +kernel
theorem dX9_bearsBy_77 : decode cX9_bearsBy 77 = .ok (.iload_n 1, 1) := by decide +kernel
theorem dX9_bearsBy_78 : decode cX9_bearsBy 78 = .ok (.iload_n 2, 1) := by decide +kernel
theorem dX9_bearsBy_79 : decode cX9_bearsBy 79 = .ok (.invokevirtual 122, 3) := by decide +kernel
theorem dX9_bearsBy_82 : decode cX9_bearsBy 82 = .ok (.aload_n 0, 1) := by decide +kernel
theorem dX9_bearsBy_83 : decode cX9_bearsBy 83 = .ok (.iload 7, 2) := by decide +kernel
theorem dX9_bearsBy_85 : decode cX9_bearsBy 85 = .ok (.iload_n 1, 1) := by decide +kernel
theorem dX9_bearsBy_86 : decode cX9_bearsBy 86 = .ok (.iload_n 2, 1) := by decide +kernel
theorem dX9_bearsBy_87 : decode cX9_bearsBy 87 = .ok (.invokevirtual 122, 3) := by decide +kernel
theorem dX9_bearsBy_90 : decode cX9_bearsBy 90 = .ok (.iadd, 1) := by decide +kernel
theorem dX9_bearsBy_91 : decode cX9_bearsBy 91 = .ok (.goto 4, 3) := by decide +kernel
theorem dX9_bearsBy_94 : decode cX9_bearsBy 94 = .ok (.iconst 0, 1) := by decide +kernel
theorem dX9_bearsBy_95 : decode cX9_bearsBy 95 = .ok (.istore 8, 2) := by decide +kernel
theorem dX9_bearsBy_97 : decode cX9_bearsBy 97 = .ok (.iload 8, 2) := by decide +kernel
theorem dX9_bearsBy_99 : decode cX9_bearsBy 99 = .ok (.iload 5, 2) := by decide +kernel
theorem dX9_bearsBy_101 : decode cX9_bearsBy 101 = .ok (.if_icmp .le 8, 3) := by decide +kernel
theorem dX9_bearsBy_104 : decode cX9_bearsBy 104 = .ok (.iload 8, 2) := by decide +kernel
theorem dX9_bearsBy_106 : decode cX9_bearsBy 106 = .ok (.goto 5, 3) := by decide +kernel
theorem dX9_bearsBy_109 : decode cX9_bearsBy 109 = .ok (.iload 5, 2) := by decide +kernel
theorem dX9_bearsBy_111 : decode cX9_bearsBy 111 = .ok (.istore 5, 2) := by decide +kernel
theorem dX9_bearsBy_113 : decode cX9_bearsBy 113 = .ok (.iinc 7 1, 3) := by decide +kernel
theorem dX9_bearsBy_116 : decode cX9_bearsBy 116 = .ok (.goto (-79), 3) := by decide +kernel
theorem dX9_bearsBy_119 : decode cX9_bearsBy 119 = .ok (.iinc 6 1, 3) := by decide +kernel
theorem dX9_bearsBy_122 : decode cX9_bearsBy 122 = .ok (.goto (-99), 3) := by decide +kernel
theorem dX9_bearsBy_125 : decode cX9_bearsBy 125 = .ok (.iload 5, 2) := by decide +kernel
theorem dX9_bearsBy_127 : decode cX9_bearsBy 127 = .ok (.ireturn, 1) := by decide +kernel
theorem dX9_bridge_0 : decode cX9_bridge 0 = .ok (.bipush 99, 2) := by decide +kernel
theorem dX9_bridge_2 : decode cX9_bridge 2 = .ok (.istore_n 2, 1) := by decide +kernel
theorem dX9_bridge_3 : decode cX9_bridge 3 = .ok (.iconst 0, 1) := by decide +kernel
theorem dX9_bridge_4 : decode cX9_bridge 4 = .ok (.istore_n 3, 1) := by decide +kernel
theorem dX9_bridge_5 : decode cX9_bridge 5 = .ok (.iload_n 3, 1) := by decide +kernel
theorem dX9_bridge_6 : decode cX9_bridge 6 = .ok (.aload_n 0, 1) := by decide +kernel
theorem dX9_bridge_7 : decode cX9_bridge 7 = .ok (.getfield 13, 3) := by decide +kernel
theorem dX9_bridge_10 : decode cX9_bridge 10 = .ok (.iconst 0, 1) := by decide +kernel
theorem dX9_bridge_11 : decode cX9_bridge 11 = .ok (.iaload, 1) := by decide +kernel
theorem dX9_bridge_12 : decode cX9_bridge 12 = .ok (.if_icmp .ge 35, 3) := by decide +kernel
theorem dX9_bridge_15 : decode cX9_bridge 15 = .ok (.aload_n 0, 1) := by decide +kernel
theorem dX9_bridge_16 : decode cX9_bridge 16 = .ok (.iload_n 3, 1) := by decide +kernel
theorem dX9_bridge_17 : decode cX9_bridge 17 = .ok (.aload_n 0, 1) := by decide +kernel
theorem dX9_bridge_18 : decode cX9_bridge 18 = .ok (.aload_n 1, 1) := by decide +kernel
theorem dX9_bridge_19 : decode cX9_bridge 19 = .ok (.iload_n 3, 1) := by decide +kernel
theorem dX9_bridge_20 : decode cX9_bridge 20 = .ok (.invokevirtual 129, 3) := by decide +kernel
theorem dX9_bridge_23 : decode cX9_bridge 23 = .ok (.invokevirtual 133, 3) := by decide +kernel
theorem dX9_bridge_26 : decode cX9_bridge 26 = .ok (.istore 4, 2) := by decide +kernel
theorem dX9_bridge_28 : decode cX9_bridge 28 = .ok (.iload 4, 2) := by decide +kernel
theorem dX9_bridge_30 : decode cX9_bridge 30 = .ok (.iload_n 2, 1) := by decide +kernel
theorem dX9_bridge_31 : decode cX9_bridge 31 = .ok (.if_icmp .ge 8, 3) := by decide +kernel
theorem dX9_bridge_34 : decode cX9_bridge 34 = .ok (.iload 4, 2) := by decide +kernel
theorem dX9_bridge_36 : decode cX9_bridge 36 = .ok (.goto 4, 3) := by decide +kernel
theorem dX9_bridge_39 : decode cX9_bridge 39 = .ok (.iload_n 2, 1) := by decide +kernel
theorem dX9_bridge_40 : decode cX9_bridge 40 = .ok (.istore_n 2, 1) := by decide +kernel
theorem dX9_bridge_41 : decode cX9_bridge 41 = .ok (.iinc 3 1, 3) := by decide +kernel
theorem dX9_bridge_44 : decode cX9_bridge 44 = .ok (.goto (-39), 3) := by decide +kernel
theorem dX9_bridge_47 : decode cX9_bridge 47 = .ok (.iload_n 2, 1) := by decide +kernel
theorem dX9_bridge_48 : decode cX9_bridge 48 = .ok (.ireturn, 1) := by decide +kernel
theorem dX9_lying_0 : decode cX9_lying 0 = .ok (.iconst 0, 1) := by decide +kernel
theorem dX9_lying_1 : decode cX9_lying 1 = .ok (.istore_n 2, 1) := by decide +kernel
theorem dX9_lying_2 : decode cX9_lying 2 = .ok (.iconst 0, 1) := by decide +kernel
theorem dX9_lying_3 : decode cX9_lying 3 = .ok (.istore_n 3, 1) := by decide +kernel
theorem dX9_lying_4 : decode cX9_lying 4 = .ok (.iload_n 3, 1) := by decide +kernel
theorem dX9_lying_5 : decode cX9_lying 5 = .ok (.aload_n 0, 1) := by decide +kernel
theorem dX9_lying_6 : decode cX9_lying 6 = .ok (.getfield 13, 3) := by decide +kernel
theorem dX9_lying_9 : decode cX9_lying 9 = .ok (.iconst 0, 1) := by decide +kernel
theorem dX9_lying_10 : decode cX9_lying 10 = .ok (.iaload, 1) := by decide +kernel
theorem dX9_lying_11 : decode cX9_lying 11 = .ok (.if_icmp .ge 33, 3) := by decide +kernel
theorem dX9_lying_14 : decode cX9_lying 14 = .ok (.iload_n 2, 1) := by decide +kernel
theorem dX9_lying_15 : decode cX9_lying 15 = .ok (.aload_n 0, 1) := by decide +kernel
theorem dX9_lying_16 : decode cX9_lying 16 = .ok (.iload_n 3, 1) := by decide +kernel
theorem dX9_lying_17 : decode cX9_lying 17 = .ok (.aload_n 0, 1) := by decide +kernel
theorem dX9_lying_18 : decode cX9_lying 18 = .ok (.aload_n 1, 1) := by decide +kernel
theorem dX9_lying_19 : decode cX9_lying 19 = .ok (.iload_n 3, 1) := by decide +kernel
theorem dX9_lying_20 : decode cX9_lying 20 = .ok (.invokevirtual 129, 3) := by decide +kernel
theorem dX9_lying_23 : decode cX9_lying 23 = .ok (.invokevirtual 133, 3) := by decide +kernel
theorem dX9_lying_26 : decode cX9_lying 26 = .ok (.ifCond .le 9, 3) := by decide +kernel
theorem dX9_lying_29 : decode cX9_lying 29 = .ok (.iconst 1, 1) := by decide +kernel
theorem dX9_lying_30 : decode cX9_lying 30 = .ok (.iload_n 3, 1) := by decide +kernel
theorem dX9_lying_31 : decode cX9_lying 31 = .ok (.ishl, 1) := by decide +kernel
theorem dX9_lying_32 : decode cX9_lying 32 = .ok (.goto 4, 3) := by decide +kernel
theorem dX9_lying_35 : decode cX9_lying 35 = .ok (.iconst 0, 1) := by decide +kernel
theorem dX9_lying_36 : decode cX9_lying 36 = .ok (.ior, 1) := by decide +kernel
theorem dX9_lying_37 : decode cX9_lying 37 = .ok (.istore_n 2, 1) := by decide +kernel
theorem dX9_lying_38 : decode cX9_lying 38 = .ok (.iinc 3 1, 3) := by decide +kernel
theorem dX9_lying_41 : decode cX9_lying 41 = .ok (.goto (-37), 3) := by decide +kernel
theorem dX9_lying_44 : decode cX9_lying 44 = .ok (.iload_n 2, 1) := by decide +kernel
theorem dX9_lying_45 : decode cX9_lying 45 = .ok (.ireturn, 1) := by decide +kernel
theorem dX9_asNow_0 : decode cX9_asNow 0 = .ok (.iconst 0, 1) := by decide +kernel
theorem dX9_asNow_1 : decode cX9_asNow 1 = .ok (.istore_n 1, 1) := by decide +kernel
theorem dX9_asNow_2 : decode cX9_asNow 2 = .ok (.iload_n 1, 1) := by decide +kernel
theorem dX9_asNow_3 : decode cX9_asNow 3 = .ok (.bipush 66, 2) := by decide +kernel
theorem dX9_asNow_5 : decode cX9_asNow 5 = .ok (.if_icmp .ge 21, 3) := by decide +kernel
theorem dX9_asNow_8 : decode cX9_asNow 8 = .ok (.aload_n 0, 1) := by decide +kernel
theorem dX9_asNow_9 : decode cX9_asNow 9 = .ok (.getfield 25, 3) := by decide +kernel
theorem dX9_asNow_12 : decode cX9_asNow 12 = .ok (.iload_n 1, 1) := by decide +kernel
theorem dX9_asNow_13 : decode cX9_asNow 13 = .ok (.aload_n 0, 1) := by decide +kernel
theorem dX9_asNow_14 : decode cX9_asNow 14 = .ok (.getfield 22, 3) := by decide +kernel
theorem dX9_asNow_17 : decode cX9_asNow 17 = .ok (.iload_n 1, 1) := by decide +kernel
theorem dX9_asNow_18 : decode cX9_asNow 18 = .ok (.iaload, 1) := by decide +kernel
theorem dX9_asNow_19 : decode cX9_asNow 19 = .ok (.iastore, 1) := by decide +kernel
theorem dX9_asNow_20 : decode cX9_asNow 20 = .ok (.iinc 1 1, 3) := by decide +kernel
theorem dX9_asNow_23 : decode cX9_asNow 23 = .ok (.goto (-21), 3) := by decide +kernel
theorem dX9_asNow_26 : decode cX9_asNow 26 = .ok (.return_, 1) := by decide +kernel
theorem dX9_allBroken_0 : decode cX9_allBroken 0 = .ok (.iconst 0, 1) := by decide +kernel
theorem dX9_allBroken_1 : decode cX9_allBroken 1 = .ok (.istore_n 3, 1) := by decide +kernel
theorem dX9_allBroken_2 : decode cX9_allBroken 2 = .ok (.iload_n 3, 1) := by decide +kernel
theorem dX9_allBroken_3 : decode cX9_allBroken 3 = .ok (.bipush 8, 2) := by decide +kernel
theorem dX9_allBroken_5 : decode cX9_allBroken 5 = .ok (.if_icmp .ge 20, 3) := by decide +kernel
theorem dX9_allBroken_8 : decode cX9_allBroken 8 = .ok (.aload_n 1, 1) := by decide +kernel
theorem dX9_allBroken_9 : decode cX9_allBroken 9 = .ok (.iconst 2, 1) := by decide +kernel
theorem dX9_allBroken_10 : decode cX9_allBroken 10 = .ok (.bipush 8, 2) := by decide +kernel
theorem dX9_allBroken_12 : decode cX9_allBroken 12 = .ok (.iload_n 2, 1) := by decide +kernel
theorem dX9_allBroken_13 : decode cX9_allBroken 13 = .ok (.imul, 1) := by decide +kernel
theorem dX9_allBroken_14 : decode cX9_allBroken 14 = .ok (.iadd, 1) := by decide +kernel
theorem dX9_allBroken_15 : decode cX9_allBroken 15 = .ok (.iload_n 3, 1) := by decide +kernel
theorem dX9_allBroken_16 : decode cX9_allBroken 16 = .ok (.iadd, 1) := by decide +kernel
theorem dX9_allBroken_17 : decode cX9_allBroken 17 = .ok (.iconst 0, 1) := by decide +kernel
theorem dX9_allBroken_18 : decode cX9_allBroken 18 = .ok (.iastore, 1) := by decide +kernel
theorem dX9_allBroken_19 : decode cX9_allBroken 19 = .ok (.iinc 3 1, 3) := by decide +kernel
theorem dX9_allBroken_22 : decode cX9_allBroken 22 = .ok (.goto (-20), 3) := by decide +kernel
theorem dX9_allBroken_25 : decode cX9_allBroken 25 = .ok (.return_, 1) := by decide +kernel
theorem dX9_given_0 : decode cX9_given 0 = .ok (.iconst 0, 1) := by decide +kernel
theorem dX9_given_1 : decode cX9_given 1 = .ok (.istore_n 3, 1) := by decide +kernel
theorem dX9_given_2 : decode cX9_given 2 = .ok (.iconst 0, 1) := by decide +kernel
theorem dX9_given_3 : decode cX9_given 3 = .ok (.istore 4, 2) := by decide +kernel
theorem dX9_given_5 : decode cX9_given 5 = .ok (.iload 4, 2) := by decide +kernel
theorem dX9_given_7 : decode cX9_given 7 = .ok (.aload_n 0, 1) := by decide +kernel
theorem dX9_given_8 : decode cX9_given 8 = .ok (.getfield 13, 3) := by decide +kernel
theorem dX9_given_11 : decode cX9_given 11 = .ok (.iconst 0, 1) := by decide +kernel
theorem dX9_given_12 : decode cX9_given 12 = .ok (.iaload, 1) := by decide +kernel
theorem dX9_given_13 : decode cX9_given 13 = .ok (.if_icmp .ge 56, 3) := by decide +kernel
theorem dX9_given_16 : decode cX9_given 16 = .ok (.aload_n 0, 1) := by decide +kernel
theorem dX9_given_17 : decode cX9_given 17 = .ok (.getfield 22, 3) := by decide +kernel
theorem dX9_given_20 : decode cX9_given 20 = .ok (.iconst 2, 1) := by decide +kernel
theorem dX9_given_21 : decode cX9_given 21 = .ok (.bipush 8, 2) := by decide +kernel
theorem dX9_given_23 : decode cX9_given 23 = .ok (.iload_n 1, 1) := by decide +kernel
theorem dX9_given_24 : decode cX9_given 24 = .ok (.imul, 1) := by decide +kernel
theorem dX9_given_25 : decode cX9_given 25 = .ok (.iadd, 1) := by decide +kernel
theorem dX9_given_26 : decode cX9_given 26 = .ok (.iload 4, 2) := by decide +kernel
theorem dX9_given_28 : decode cX9_given 28 = .ok (.iadd, 1) := by decide +kernel
theorem dX9_given_29 : decode cX9_given 29 = .ok (.iaload, 1) := by decide +kernel
theorem dX9_given_30 : decode cX9_given 30 = .ok (.istore 5, 2) := by decide +kernel
theorem dX9_given_32 : decode cX9_given 32 = .ok (.iload_n 3, 1) := by decide +kernel
theorem dX9_given_33 : decode cX9_given 33 = .ok (.iload 5, 2) := by decide +kernel
theorem dX9_given_35 : decode cX9_given 35 = .ok (.ifCond .eq 25, 3) := by decide +kernel
theorem dX9_given_38 : decode cX9_given 38 = .ok (.iload 5, 2) := by decide +kernel
theorem dX9_given_40 : decode cX9_given 40 = .ok (.iconst (-1), 1) := by decide +kernel
theorem dX9_given_41 : decode cX9_given 41 = .ok (.if_icmp .ne 7, 3) := by decide +kernel
theorem dX9_given_44 : decode cX9_given 44 = .ok (.iconst 1, 1) := by decide +kernel
theorem dX9_given_45 : decode cX9_given 45 = .ok (.goto 4, 3) := by decide +kernel
theorem dX9_given_48 : decode cX9_given 48 = .ok (.iconst 0, 1) := by decide +kernel
theorem dX9_given_49 : decode cX9_given 49 = .ok (.iload_n 2, 1) := by decide +kernel
theorem dX9_given_50 : decode cX9_given 50 = .ok (.if_icmp .ne 10, 3) := by decide +kernel
theorem dX9_given_53 : decode cX9_given 53 = .ok (.iconst 1, 1) := by decide +kernel
theorem dX9_given_54 : decode cX9_given 54 = .ok (.iload 4, 2) := by decide +kernel
theorem dX9_given_56 : decode cX9_given 56 = .ok (.ishl, 1) := by decide +kernel
theorem dX9_given_57 : decode cX9_given 57 = .ok (.goto 4, 3) := by decide +kernel
theorem dX9_given_60 : decode cX9_given 60 = .ok (.iconst 0, 1) := by decide +kernel
theorem dX9_given_61 : decode cX9_given 61 = .ok (.ior, 1) := by decide +kernel
theorem dX9_given_62 : decode cX9_given 62 = .ok (.istore_n 3, 1) := by decide +kernel
theorem dX9_given_63 : decode cX9_given 63 = .ok (.iinc 4 1, 3) := by decide +kernel
theorem dX9_given_66 : decode cX9_given 66 = .ok (.goto (-61), 3) := by decide +kernel
theorem dX9_given_69 : decode cX9_given 69 = .ok (.iload_n 3, 1) := by decide +kernel
theorem dX9_given_70 : decode cX9_given 70 = .ok (.ireturn, 1) := by decide +kernel
theorem dX9_person_0 : decode cX9_person 0 = .ok (.aload_n 0, 1) := by decide +kernel
theorem dX9_person_1 : decode cX9_person 1 = .ok (.iconst 0, 1) := by decide +kernel
theorem dX9_person_2 : decode cX9_person 2 = .ok (.putfield 56, 3) := by decide +kernel
theorem dX9_person_5 : decode cX9_person 5 = .ok (.aload_n 0, 1) := by decide +kernel
theorem dX9_person_6 : decode cX9_person 6 = .ok (.iload_n 1, 1) := by decide +kernel
theorem dX9_person_7 : decode cX9_person 7 = .ok (.invokevirtual 136, 3) := by decide +kernel
theorem dX9_person_10 : decode cX9_person 10 = .ok (.ifCond .eq 13, 3) := by decide +kernel
theorem dX9_person_13 : decode cX9_person 13 = .ok (.iload_n 2, 1) := by decide +kernel
theorem dX9_person_14 : decode cX9_person 14 = .ok (.iconst 0, 1) := by decide +kernel
theorem dX9_person_15 : decode cX9_person 15 = .ok (.bipush 7, 2) := by decide +kernel
theorem dX9_person_17 : decode cX9_person 17 = .ok (.invokestatic 60, 3) := by decide +kernel
theorem dX9_person_20 : decode cX9_person 20 = .ok (.ifCond .ne 5, 3) := by decide +kernel
theorem dX9_person_23 : decode cX9_person 23 = .ok (.iconst (-1), 1) := by decide +kernel
theorem dX9_person_24 : decode cX9_person 24 = .ok (.ireturn, 1) := by decide +kernel
theorem dX9_person_25 : decode cX9_person 25 = .ok (.iload_n 2, 1) := by decide +kernel
theorem dX9_person_26 : decode cX9_person 26 = .ok (.iconst 4, 1) := by decide +kernel
theorem dX9_person_27 : decode cX9_person 27 = .ok (.if_icmp .ge 62, 3) := by decide +kernel
theorem dX9_person_30 : decode cX9_person 30 = .ok (.iload_n 2, 1) := by decide +kernel
theorem dX9_person_31 : decode cX9_person 31 = .ok (.ifCond .ne 14, 3) := by decide +kernel
theorem dX9_person_34 : decode cX9_person 34 = .ok (.aload_n 0, 1) := by decide +kernel
theorem dX9_person_35 : decode cX9_person 35 = .ok (.getfield 13, 3) := by decide +kernel
theorem dX9_person_38 : decode cX9_person 38 = .ok (.iconst 2, 1) := by decide +kernel
theorem dX9_person_39 : decode cX9_person 39 = .ok (.iload_n 1, 1) := by decide +kernel
theorem dX9_person_40 : decode cX9_person 40 = .ok (.iadd, 1) := by decide +kernel
theorem dX9_person_41 : decode cX9_person 41 = .ok (.iaload, 1) := by decide +kernel
theorem dX9_person_42 : decode cX9_person 42 = .ok (.goto 46, 3) := by decide +kernel
theorem dX9_person_45 : decode cX9_person 45 = .ok (.iload_n 2, 1) := by decide +kernel
theorem dX9_person_46 : decode cX9_person 46 = .ok (.iconst 1, 1) := by decide +kernel
theorem dX9_person_47 : decode cX9_person 47 = .ok (.if_icmp .ne 15, 3) := by decide +kernel
theorem dX9_person_50 : decode cX9_person 50 = .ok (.aload_n 0, 1) := by decide +kernel
theorem dX9_person_51 : decode cX9_person 51 = .ok (.getfield 13, 3) := by decide +kernel
theorem dX9_person_54 : decode cX9_person 54 = .ok (.bipush 10, 2) := by decide +kernel
theorem dX9_person_56 : decode cX9_person 56 = .ok (.iload_n 1, 1) := by decide +kernel
theorem dX9_person_57 : decode cX9_person 57 = .ok (.iadd, 1) := by decide +kernel
theorem dX9_person_58 : decode cX9_person 58 = .ok (.iaload, 1) := by decide +kernel
theorem dX9_person_59 : decode cX9_person 59 = .ok (.goto 29, 3) := by decide +kernel
theorem dX9_person_62 : decode cX9_person 62 = .ok (.iload_n 2, 1) := by decide +kernel
theorem dX9_person_63 : decode cX9_person 63 = .ok (.iconst 2, 1) := by decide +kernel
theorem dX9_person_64 : decode cX9_person 64 = .ok (.if_icmp .ne 15, 3) := by decide +kernel
theorem dX9_person_67 : decode cX9_person 67 = .ok (.aload_n 0, 1) := by decide +kernel
theorem dX9_person_68 : decode cX9_person 68 = .ok (.getfield 13, 3) := by decide +kernel
theorem dX9_person_71 : decode cX9_person 71 = .ok (.bipush 18, 2) := by decide +kernel
theorem dX9_person_73 : decode cX9_person 73 = .ok (.iload_n 1, 1) := by decide +kernel
theorem dX9_person_74 : decode cX9_person 74 = .ok (.iadd, 1) := by decide +kernel
theorem dX9_person_75 : decode cX9_person 75 = .ok (.iaload, 1) := by decide +kernel
theorem dX9_person_76 : decode cX9_person 76 = .ok (.goto 12, 3) := by decide +kernel
theorem dX9_person_79 : decode cX9_person 79 = .ok (.aload_n 0, 1) := by decide +kernel
theorem dX9_person_80 : decode cX9_person 80 = .ok (.getfield 13, 3) := by decide +kernel
theorem dX9_person_83 : decode cX9_person 83 = .ok (.bipush 26, 2) := by decide +kernel
theorem dX9_person_85 : decode cX9_person 85 = .ok (.iload_n 1, 1) := by decide +kernel
theorem dX9_person_86 : decode cX9_person 86 = .ok (.iadd, 1) := by decide +kernel
theorem dX9_person_87 : decode cX9_person 87 = .ok (.iaload, 1) := by decide +kernel
theorem dX9_person_88 : decode cX9_person 88 = .ok (.ireturn, 1) := by decide +kernel
theorem dX9_person_89 : decode cX9_person 89 = .ok (.iload_n 2, 1) := by decide +kernel
theorem dX9_person_90 : decode cX9_person 90 = .ok (.bipush 6, 2) := by decide +kernel
theorem dX9_person_92 : decode cX9_person 92 = .ok (.if_icmp .ge 19, 3) := by decide +kernel
theorem dX9_person_95 : decode cX9_person 95 = .ok (.aload_n 0, 1) := by decide +kernel
theorem dX9_person_96 : decode cX9_person 96 = .ok (.iload_n 1, 1) := by decide +kernel
theorem dX9_person_97 : decode cX9_person 97 = .ok (.iload_n 2, 1) := by decide +kernel
theorem dX9_person_98 : decode cX9_person 98 = .ok (.iconst 4, 1) := by decide +kernel
theorem dX9_person_99 : decode cX9_person 99 = .ok (.if_icmp .ne 7, 3) := by decide +kernel
theorem dX9_person_102 : decode cX9_person 102 = .ok (.iconst 1, 1) := by decide +kernel
theorem dX9_person_103 : decode cX9_person 103 = .ok (.goto 4, 3) := by decide +kernel
theorem dX9_person_106 : decode cX9_person 106 = .ok (.iconst 0, 1) := by decide +kernel
theorem dX9_person_107 : decode cX9_person 107 = .ok (.invokevirtual 139, 3) := by decide +kernel
theorem dX9_person_110 : decode cX9_person 110 = .ok (.ireturn, 1) := by decide +kernel
theorem dX9_person_111 : decode cX9_person 111 = .ok (.aload_n 0, 1) := by decide +kernel
theorem dX9_person_112 : decode cX9_person 112 = .ok (.invokevirtual 143, 3) := by decide +kernel
theorem dX9_person_115 : decode cX9_person 115 = .ok (.aload_n 0, 1) := by decide +kernel
theorem dX9_person_116 : decode cX9_person 116 = .ok (.aload_n 0, 1) := by decide +kernel
theorem dX9_person_117 : decode cX9_person 117 = .ok (.getfield 25, 3) := by decide +kernel
theorem dX9_person_120 : decode cX9_person 120 = .ok (.iload_n 1, 1) := by decide +kernel
theorem dX9_person_121 : decode cX9_person 121 = .ok (.invokevirtual 146, 3) := by decide +kernel
theorem dX9_person_124 : decode cX9_person 124 = .ok (.iload_n 2, 1) := by decide +kernel
theorem dX9_person_125 : decode cX9_person 125 = .ok (.bipush 6, 2) := by decide +kernel
theorem dX9_person_127 : decode cX9_person 127 = .ok (.if_icmp .ne 23, 3) := by decide +kernel
theorem dX9_person_130 : decode cX9_person 130 = .ok (.aload_n 0, 1) := by decide +kernel
theorem dX9_person_131 : decode cX9_person 131 = .ok (.aload_n 0, 1) := by decide +kernel
theorem dX9_person_132 : decode cX9_person 132 = .ok (.getfield 22, 3) := by decide +kernel
theorem dX9_person_135 : decode cX9_person 135 = .ok (.invokevirtual 150, 3) := by decide +kernel
theorem dX9_person_138 : decode cX9_person 138 = .ok (.aload_n 0, 1) := by decide +kernel
theorem dX9_person_139 : decode cX9_person 139 = .ok (.aload_n 0, 1) := by decide +kernel
theorem dX9_person_140 : decode cX9_person 140 = .ok (.getfield 25, 3) := by decide +kernel
theorem dX9_person_143 : decode cX9_person 143 = .ok (.invokevirtual 150, 3) := by decide +kernel
theorem dX9_person_146 : decode cX9_person 146 = .ok (.iconst (-1), 1) := by decide +kernel
theorem dX9_person_147 : decode cX9_person 147 = .ok (.ixor, 1) := by decide +kernel
theorem dX9_person_148 : decode cX9_person 148 = .ok (.iand, 1) := by decide +kernel
theorem dX9_person_149 : decode cX9_person 149 = .ok (.ireturn, 1) := by decide +kernel
theorem dX9_person_150 : decode cX9_person 150 = .ok (.aload_n 0, 1) := by decide +kernel
theorem dX9_person_151 : decode cX9_person 151 = .ok (.aload_n 0, 1) := by decide +kernel
theorem dX9_person_152 : decode cX9_person 152 = .ok (.getfield 22, 3) := by decide +kernel
theorem dX9_person_155 : decode cX9_person 155 = .ok (.invokevirtual 154, 3) := by decide +kernel
theorem dX9_person_158 : decode cX9_person 158 = .ok (.aload_n 0, 1) := by decide +kernel
theorem dX9_person_159 : decode cX9_person 159 = .ok (.aload_n 0, 1) := by decide +kernel
theorem dX9_person_160 : decode cX9_person 160 = .ok (.getfield 25, 3) := by decide +kernel
theorem dX9_person_163 : decode cX9_person 163 = .ok (.invokevirtual 154, 3) := by decide +kernel
theorem dX9_person_166 : decode cX9_person 166 = .ok (.isub, 1) := by decide +kernel
theorem dX9_person_167 : decode cX9_person 167 = .ok (.istore_n 3, 1) := by decide +kernel
theorem dX9_person_168 : decode cX9_person 168 = .ok (.iload_n 3, 1) := by decide +kernel
theorem dX9_person_169 : decode cX9_person 169 = .ok (.ifCond .ge 7, 3) := by decide +kernel
theorem dX9_person_172 : decode cX9_person 172 = .ok (.iconst 0, 1) := by decide +kernel
theorem dX9_person_173 : decode cX9_person 173 = .ok (.goto 4, 3) := by decide +kernel
theorem dX9_person_176 : decode cX9_person 176 = .ok (.iload_n 3, 1) := by decide +kernel
theorem dX9_person_177 : decode cX9_person 177 = .ok (.ireturn, 1) := by decide +kernel
theorem dX9_plank_0 : decode cX9_plank 0 = .ok (.aload_n 0, 1) := by decide +kernel
theorem dX9_plank_1 : decode cX9_plank 1 = .ok (.iconst 0, 1) := by decide +kernel
theorem dX9_plank_2 : decode cX9_plank 2 = .ok (.putfield 56, 3) := by decide +kernel
theorem dX9_plank_5 : decode cX9_plank 5 = .ok (.aload_n 0, 1) := by decide +kernel
theorem dX9_plank_6 : decode cX9_plank 6 = .ok (.iload_n 1, 1) := by decide +kernel
theorem dX9_plank_7 : decode cX9_plank 7 = .ok (.invokevirtual 157, 3) := by decide +kernel
theorem dX9_plank_10 : decode cX9_plank 10 = .ok (.ifCond .eq 12, 3) := by decide +kernel
theorem dX9_plank_13 : decode cX9_plank 13 = .ok (.iload_n 2, 1) := by decide +kernel
theorem dX9_plank_14 : decode cX9_plank 14 = .ok (.iconst 0, 1) := by decide +kernel
theorem dX9_plank_15 : decode cX9_plank 15 = .ok (.iconst 2, 1) := by decide +kernel
theorem dX9_plank_16 : decode cX9_plank 16 = .ok (.invokestatic 60, 3) := by decide +kernel
theorem dX9_plank_19 : decode cX9_plank 19 = .ok (.ifCond .ne 5, 3) := by decide +kernel
theorem dX9_plank_22 : decode cX9_plank 22 = .ok (.iconst (-1), 1) := by decide +kernel
theorem dX9_plank_23 : decode cX9_plank 23 = .ok (.ireturn, 1) := by decide +kernel
theorem dX9_plank_24 : decode cX9_plank 24 = .ok (.aload_n 0, 1) := by decide +kernel
theorem dX9_plank_25 : decode cX9_plank 25 = .ok (.aload_n 0, 1) := by decide +kernel
theorem dX9_plank_26 : decode cX9_plank 26 = .ok (.getfield 22, 3) := by decide +kernel
theorem dX9_plank_29 : decode cX9_plank 29 = .ok (.iload_n 1, 1) := by decide +kernel
theorem dX9_plank_30 : decode cX9_plank 30 = .ok (.invokevirtual 129, 3) := by decide +kernel
theorem dX9_plank_33 : decode cX9_plank 33 = .ok (.istore_n 3, 1) := by decide +kernel
theorem dX9_plank_34 : decode cX9_plank 34 = .ok (.iload_n 2, 1) := by decide +kernel
theorem dX9_plank_35 : decode cX9_plank 35 = .ok (.ifCond .ne 12, 3) := by decide +kernel
theorem dX9_plank_38 : decode cX9_plank 38 = .ok (.aload_n 0, 1) := by decide +kernel
theorem dX9_plank_39 : decode cX9_plank 39 = .ok (.iload_n 1, 1) := by decide +kernel
theorem dX9_plank_40 : decode cX9_plank 40 = .ok (.iload_n 3, 1) := by decide +kernel
theorem dX9_plank_41 : decode cX9_plank 41 = .ok (.invokevirtual 133, 3) := by decide +kernel
theorem dX9_plank_44 : decode cX9_plank 44 = .ok (.goto 12, 3) := by decide +kernel
theorem dX9_plank_47 : decode cX9_plank 47 = .ok (.aload_n 0, 1) := by decide +kernel
theorem dX9_plank_48 : decode cX9_plank 48 = .ok (.iload_n 1, 1) := by decide +kernel
theorem dX9_plank_49 : decode cX9_plank 49 = .ok (.iload_n 3, 1) := by decide +kernel
theorem dX9_plank_50 : decode cX9_plank 50 = .ok (.iload_n 2, 1) := by decide +kernel
theorem dX9_plank_51 : decode cX9_plank 51 = .ok (.iconst 1, 1) := by decide +kernel
theorem dX9_plank_52 : decode cX9_plank 52 = .ok (.isub, 1) := by decide +kernel
theorem dX9_plank_53 : decode cX9_plank 53 = .ok (.invokevirtual 126, 3) := by decide +kernel
theorem dX9_plank_56 : decode cX9_plank 56 = .ok (.ireturn, 1) := by decide +kernel
theorem dX9_hold_0 : decode cX9_hold 0 = .ok (.aload_n 0, 1) := by decide +kernel
theorem dX9_hold_1 : decode cX9_hold 1 = .ok (.iconst 0, 1) := by decide +kernel
theorem dX9_hold_2 : decode cX9_hold 2 = .ok (.putfield 56, 3) := by decide +kernel
theorem dX9_hold_5 : decode cX9_hold 5 = .ok (.aload_n 0, 1) := by decide +kernel
theorem dX9_hold_6 : decode cX9_hold 6 = .ok (.iload_n 1, 1) := by decide +kernel
theorem dX9_hold_7 : decode cX9_hold 7 = .ok (.invokevirtual 136, 3) := by decide +kernel
theorem dX9_hold_10 : decode cX9_hold 10 = .ok (.ifCond .eq 29, 3) := by decide +kernel
theorem dX9_hold_13 : decode cX9_hold 13 = .ok (.aload_n 0, 1) := by decide +kernel
theorem dX9_hold_14 : decode cX9_hold 14 = .ok (.iload_n 2, 1) := by decide +kernel
theorem dX9_hold_15 : decode cX9_hold 15 = .ok (.invokevirtual 157, 3) := by decide +kernel
theorem dX9_hold_18 : decode cX9_hold 18 = .ok (.ifCond .eq 21, 3) := by decide +kernel
theorem dX9_hold_21 : decode cX9_hold 21 = .ok (.aload_n 0, 1) := by decide +kernel
theorem dX9_hold_22 : decode cX9_hold 22 = .ok (.iload_n 1, 1) := by decide +kernel
theorem dX9_hold_23 : decode cX9_hold 23 = .ok (.iload_n 2, 1) := by decide +kernel
theorem dX9_hold_24 : decode cX9_hold 24 = .ok (.aload_n 0, 1) := by decide +kernel
theorem dX9_hold_25 : decode cX9_hold 25 = .ok (.aload_n 0, 1) := by decide +kernel
theorem dX9_hold_26 : decode cX9_hold 26 = .ok (.getfield 22, 3) := by decide +kernel
theorem dX9_hold_29 : decode cX9_hold 29 = .ok (.iload_n 2, 1) := by decide +kernel
theorem dX9_hold_30 : decode cX9_hold 30 = .ok (.invokevirtual 129, 3) := by decide +kernel
theorem dX9_hold_33 : decode cX9_hold 33 = .ok (.invokevirtual 122, 3) := by decide +kernel
theorem dX9_hold_36 : decode cX9_hold 36 = .ok (.goto 4, 3) := by decide +kernel
theorem dX9_hold_39 : decode cX9_hold 39 = .ok (.iconst (-1), 1) := by decide +kernel
theorem dX9_hold_40 : decode cX9_hold 40 = .ok (.ireturn, 1) := by decide +kernel
theorem dX9_underWay_0 : decode cX9_underWay 0 = .ok (.iconst 0, 1) := by decide +kernel
theorem dX9_underWay_1 : decode cX9_underWay 1 = .ok (.istore_n 2, 1) := by decide +kernel
theorem dX9_underWay_2 : decode cX9_underWay 2 = .ok (.iconst 2, 1) := by decide +kernel
theorem dX9_underWay_3 : decode cX9_underWay 3 = .ok (.istore_n 3, 1) := by decide +kernel
theorem dX9_underWay_4 : decode cX9_underWay 4 = .ok (.iload_n 3, 1) := by decide +kernel
theorem dX9_underWay_5 : decode cX9_underWay 5 = .ok (.bipush 66, 2) := by decide +kernel
theorem dX9_underWay_7 : decode cX9_underWay 7 = .ok (.if_icmp .ge 23, 3) := by decide +kernel
theorem dX9_underWay_10 : decode cX9_underWay 10 = .ok (.iload_n 2, 1) := by decide +kernel
theorem dX9_underWay_11 : decode cX9_underWay 11 = .ok (.aload_n 1, 1) := by decide +kernel
theorem dX9_underWay_12 : decode cX9_underWay 12 = .ok (.iload_n 3, 1) := by decide +kernel
theorem dX9_underWay_13 : decode cX9_underWay 13 = .ok (.iaload, 1) := by decide +kernel
theorem dX9_underWay_14 : decode cX9_underWay 14 = .ok (.ifCond .le 7, 3) := by decide +kernel
theorem dX9_underWay_17 : decode cX9_underWay 17 = .ok (.iconst 1, 1) := by decide +kernel
theorem dX9_underWay_18 : decode cX9_underWay 18 = .ok (.goto 4, 3) := by decide +kernel
theorem dX9_underWay_21 : decode cX9_underWay 21 = .ok (.iconst 0, 1) := by decide +kernel
theorem dX9_underWay_22 : decode cX9_underWay 22 = .ok (.iadd, 1) := by decide +kernel
theorem dX9_underWay_23 : decode cX9_underWay 23 = .ok (.istore_n 2, 1) := by decide +kernel
theorem dX9_underWay_24 : decode cX9_underWay 24 = .ok (.iinc 3 1, 3) := by decide +kernel
theorem dX9_underWay_27 : decode cX9_underWay 27 = .ok (.goto (-23), 3) := by decide +kernel
theorem dX9_underWay_30 : decode cX9_underWay 30 = .ok (.iload_n 2, 1) := by decide +kernel
theorem dX9_underWay_31 : decode cX9_underWay 31 = .ok (.ireturn, 1) := by decide +kernel
theorem dX9_now_0 : decode cX9_now 0 = .ok (.aload_n 0, 1) := by decide +kernel
theorem dX9_now_1 : decode cX9_now 1 = .ok (.iconst 0, 1) := by decide +kernel
theorem dX9_now_2 : decode cX9_now 2 = .ok (.putfield 56, 3) := by decide +kernel
theorem dX9_now_5 : decode cX9_now 5 = .ok (.iload_n 1, 1) := by decide +kernel
theorem dX9_now_6 : decode cX9_now 6 = .ok (.iconst 0, 1) := by decide +kernel
theorem dX9_now_7 : decode cX9_now 7 = .ok (.iconst 5, 1) := by decide +kernel
theorem dX9_now_8 : decode cX9_now 8 = .ok (.invokestatic 60, 3) := by decide +kernel
theorem dX9_now_11 : decode cX9_now 11 = .ok (.ifCond .ne 5, 3) := by decide +kernel
theorem dX9_now_14 : decode cX9_now 14 = .ok (.iconst (-1), 1) := by decide +kernel
theorem dX9_now_15 : decode cX9_now 15 = .ok (.ireturn, 1) := by decide +kernel
theorem dX9_now_16 : decode cX9_now 16 = .ok (.iload_n 1, 1) := by decide +kernel
theorem dX9_now_17 : decode cX9_now 17 = .ok (.iconst 3, 1) := by decide +kernel
theorem dX9_now_18 : decode cX9_now 18 = .ok (.if_icmp .ge 41, 3) := by decide +kernel
theorem dX9_now_21 : decode cX9_now 21 = .ok (.iload_n 1, 1) := by decide +kernel
theorem dX9_now_22 : decode cX9_now 22 = .ok (.ifCond .ne 12, 3) := by decide +kernel
theorem dX9_now_25 : decode cX9_now 25 = .ok (.aload_n 0, 1) := by decide +kernel
theorem dX9_now_26 : decode cX9_now 26 = .ok (.getfield 22, 3) := by decide +kernel
theorem dX9_now_29 : decode cX9_now 29 = .ok (.iconst 0, 1) := by decide +kernel
theorem dX9_now_30 : decode cX9_now 30 = .ok (.iaload, 1) := by decide +kernel
theorem dX9_now_31 : decode cX9_now 31 = .ok (.goto 27, 3) := by decide +kernel
theorem dX9_now_34 : decode cX9_now 34 = .ok (.iload_n 1, 1) := by decide +kernel
theorem dX9_now_35 : decode cX9_now 35 = .ok (.iconst 1, 1) := by decide +kernel
theorem dX9_now_36 : decode cX9_now 36 = .ok (.if_icmp .ne 14, 3) := by decide +kernel
theorem dX9_now_39 : decode cX9_now 39 = .ok (.aload_n 0, 1) := by decide +kernel
theorem dX9_now_40 : decode cX9_now 40 = .ok (.aload_n 0, 1) := by decide +kernel
theorem dX9_now_41 : decode cX9_now 41 = .ok (.getfield 22, 3) := by decide +kernel
theorem dX9_now_44 : decode cX9_now 44 = .ok (.invokevirtual 154, 3) := by decide +kernel
theorem dX9_now_47 : decode cX9_now 47 = .ok (.goto 11, 3) := by decide +kernel
theorem dX9_now_50 : decode cX9_now 50 = .ok (.aload_n 0, 1) := by decide +kernel
theorem dX9_now_51 : decode cX9_now 51 = .ok (.aload_n 0, 1) := by decide +kernel
theorem dX9_now_52 : decode cX9_now 52 = .ok (.getfield 22, 3) := by decide +kernel
theorem dX9_now_55 : decode cX9_now 55 = .ok (.invokevirtual 150, 3) := by decide +kernel
theorem dX9_now_58 : decode cX9_now 58 = .ok (.ireturn, 1) := by decide +kernel
theorem dX9_now_59 : decode cX9_now 59 = .ok (.iload_n 1, 1) := by decide +kernel
theorem dX9_now_60 : decode cX9_now 60 = .ok (.iconst 3, 1) := by decide +kernel
theorem dX9_now_61 : decode cX9_now 61 = .ok (.if_icmp .ne 12, 3) := by decide +kernel
theorem dX9_now_64 : decode cX9_now 64 = .ok (.aload_n 0, 1) := by decide +kernel
theorem dX9_now_65 : decode cX9_now 65 = .ok (.getfield 22, 3) := by decide +kernel
theorem dX9_now_68 : decode cX9_now 68 = .ok (.iconst 1, 1) := by decide +kernel
theorem dX9_now_69 : decode cX9_now 69 = .ok (.iaload, 1) := by decide +kernel
theorem dX9_now_70 : decode cX9_now 70 = .ok (.goto 23, 3) := by decide +kernel
theorem dX9_now_73 : decode cX9_now 73 = .ok (.iload_n 1, 1) := by decide +kernel
theorem dX9_now_74 : decode cX9_now 74 = .ok (.iconst 4, 1) := by decide +kernel
theorem dX9_now_75 : decode cX9_now 75 = .ok (.if_icmp .ne 14, 3) := by decide +kernel
theorem dX9_now_78 : decode cX9_now 78 = .ok (.aload_n 0, 1) := by decide +kernel
theorem dX9_now_79 : decode cX9_now 79 = .ok (.aload_n 0, 1) := by decide +kernel
theorem dX9_now_80 : decode cX9_now 80 = .ok (.getfield 22, 3) := by decide +kernel
theorem dX9_now_83 : decode cX9_now 83 = .ok (.invokevirtual 160, 3) := by decide +kernel
theorem dX9_now_86 : decode cX9_now 86 = .ok (.goto 7, 3) := by decide +kernel
theorem dX9_now_89 : decode cX9_now 89 = .ok (.aload_n 0, 1) := by decide +kernel
theorem dX9_now_90 : decode cX9_now 90 = .ok (.getfield 115, 3) := by decide +kernel
theorem dX9_now_93 : decode cX9_now 93 = .ok (.ireturn, 1) := by decide +kernel
theorem dX9_notes_0 : decode cX9_notes 0 = .ok (.aload_n 0, 1) := by decide +kernel
theorem dX9_notes_1 : decode cX9_notes 1 = .ok (.getfield 115, 3) := by decide +kernel
theorem dX9_notes_4 : decode cX9_notes 4 = .ok (.bipush 10, 2) := by decide +kernel
theorem dX9_notes_6 : decode cX9_notes 6 = .ok (.if_icmp .ne 39, 3) := by decide +kernel
theorem dX9_notes_9 : decode cX9_notes 9 = .ok (.iconst 0, 1) := by decide +kernel
theorem dX9_notes_10 : decode cX9_notes 10 = .ok (.istore_n 1, 1) := by decide +kernel
theorem dX9_notes_11 : decode cX9_notes 11 = .ok (.iload_n 1, 1) := by decide +kernel
theorem dX9_notes_12 : decode cX9_notes 12 = .ok (.sipush 594, 3) := by decide +kernel
theorem dX9_notes_15 : decode cX9_notes 15 = .ok (.if_icmp .ge 24, 3) := by decide +kernel
theorem dX9_notes_18 : decode cX9_notes 18 = .ok (.aload_n 0, 1) := by decide +kernel
theorem dX9_notes_19 : decode cX9_notes 19 = .ok (.getfield 38, 3) := by decide +kernel
theorem dX9_notes_22 : decode cX9_notes 22 = .ok (.iload_n 1, 1) := by decide +kernel
theorem dX9_notes_23 : decode cX9_notes 23 = .ok (.aload_n 0, 1) := by decide +kernel
theorem dX9_notes_24 : decode cX9_notes 24 = .ok (.getfield 38, 3) := by decide +kernel
theorem dX9_notes_27 : decode cX9_notes 27 = .ok (.iload_n 1, 1) := by decide +kernel
theorem dX9_notes_28 : decode cX9_notes 28 = .ok (.bipush 66, 2) := by decide +kernel
theorem dX9_notes_30 : decode cX9_notes 30 = .ok (.iadd, 1) := by decide +kernel
theorem dX9_notes_31 : decode cX9_notes 31 = .ok (.iaload, 1) := by decide +kernel
theorem dX9_notes_32 : decode cX9_notes 32 = .ok (.iastore, 1) := by decide +kernel
theorem dX9_notes_33 : decode cX9_notes 33 = .ok (.iinc 1 1, 3) := by decide +kernel
theorem dX9_notes_36 : decode cX9_notes 36 = .ok (.goto (-25), 3) := by decide +kernel
theorem dX9_notes_39 : decode cX9_notes 39 = .ok (.aload_n 0, 1) := by decide +kernel
theorem dX9_notes_40 : decode cX9_notes 40 = .ok (.bipush 9, 2) := by decide +kernel
theorem dX9_notes_42 : decode cX9_notes 42 = .ok (.putfield 115, 3) := by decide +kernel
theorem dX9_notes_45 : decode cX9_notes 45 = .ok (.iconst 0, 1) := by decide +kernel
theorem dX9_notes_46 : decode cX9_notes 46 = .ok (.istore_n 1, 1) := by decide +kernel
theorem dX9_notes_47 : decode cX9_notes 47 = .ok (.iload_n 1, 1) := by decide +kernel
theorem dX9_notes_48 : decode cX9_notes 48 = .ok (.bipush 66, 2) := by decide +kernel
theorem dX9_notes_50 : decode cX9_notes 50 = .ok (.if_icmp .ge 29, 3) := by decide +kernel
theorem dX9_notes_53 : decode cX9_notes 53 = .ok (.aload_n 0, 1) := by decide +kernel
theorem dX9_notes_54 : decode cX9_notes 54 = .ok (.getfield 38, 3) := by decide +kernel
theorem dX9_notes_57 : decode cX9_notes 57 = .ok (.bipush 66, 2) := by decide +kernel
theorem dX9_notes_59 : decode cX9_notes 59 = .ok (.aload_n 0, 1) := by decide +kernel
theorem dX9_notes_60 : decode cX9_notes 60 = .ok (.getfield 115, 3) := by decide +kernel
theorem dX9_notes_63 : decode cX9_notes 63 = .ok (.imul, 1) := by decide +kernel
theorem dX9_notes_64 : decode cX9_notes 64 = .ok (.iload_n 1, 1) := by decide +kernel
theorem dX9_notes_65 : decode cX9_notes 65 = .ok (.iadd, 1) := by decide +kernel
theorem dX9_notes_66 : decode cX9_notes 66 = .ok (.aload_n 0, 1) := by decide +kernel
theorem dX9_notes_67 : decode cX9_notes 67 = .ok (.getfield 22, 3) := by decide +kernel
theorem dX9_notes_70 : decode cX9_notes 70 = .ok (.iload_n 1, 1) := by decide +kernel
theorem dX9_notes_71 : decode cX9_notes 71 = .ok (.iaload, 1) := by decide +kernel
theorem dX9_notes_72 : decode cX9_notes 72 = .ok (.iastore, 1) := by decide +kernel
theorem dX9_notes_73 : decode cX9_notes 73 = .ok (.iinc 1 1, 3) := by decide +kernel
theorem dX9_notes_76 : decode cX9_notes 76 = .ok (.goto (-29), 3) := by decide +kernel
theorem dX9_notes_79 : decode cX9_notes 79 = .ok (.aload_n 0, 1) := by decide +kernel
theorem dX9_notes_80 : decode cX9_notes 80 = .ok (.dup, 1) := by decide +kernel
theorem dX9_notes_81 : decode cX9_notes 81 = .ok (.getfield 115, 3) := by decide +kernel
theorem dX9_notes_84 : decode cX9_notes 84 = .ok (.iconst 1, 1) := by decide +kernel
theorem dX9_notes_85 : decode cX9_notes 85 = .ok (.iadd, 1) := by decide +kernel
theorem dX9_notes_86 : decode cX9_notes 86 = .ok (.putfield 115, 3) := by decide +kernel
theorem dX9_notes_89 : decode cX9_notes 89 = .ok (.return_, 1) := by decide +kernel
theorem dX9_posts_0 : decode cX9_posts 0 = .ok (.iconst 0, 1) := by decide +kernel
theorem dX9_posts_1 : decode cX9_posts 1 = .ok (.istore 4, 2) := by decide +kernel
theorem dX9_posts_3 : decode cX9_posts 3 = .ok (.iconst 0, 1) := by decide +kernel
theorem dX9_posts_4 : decode cX9_posts 4 = .ok (.istore 5, 2) := by decide +kernel
theorem dX9_posts_6 : decode cX9_posts 6 = .ok (.iload 5, 2) := by decide +kernel
theorem dX9_posts_8 : decode cX9_posts 8 = .ok (.aload_n 0, 1) := by decide +kernel
theorem dX9_posts_9 : decode cX9_posts 9 = .ok (.getfield 13, 3) := by decide +kernel
theorem dX9_posts_12 : decode cX9_posts 12 = .ok (.iconst 1, 1) := by decide +kernel
theorem dX9_posts_13 : decode cX9_posts 13 = .ok (.iaload, 1) := by decide +kernel
theorem dX9_posts_14 : decode cX9_posts 14 = .ok (.if_icmp .ge 55, 3) := by decide +kernel
theorem dX9_posts_17 : decode cX9_posts 17 = .ok (.iload 4, 2) := by decide +kernel
theorem dX9_posts_19 : decode cX9_posts 19 = .ok (.ifCond .ne 37, 3) := by decide +kernel
theorem dX9_posts_22 : decode cX9_posts 22 = .ok (.aload_n 1, 1) := by decide +kernel
theorem dX9_posts_23 : decode cX9_posts 23 = .ok (.iconst 2, 1) := by decide +kernel
theorem dX9_posts_24 : decode cX9_posts 24 = .ok (.bipush 8, 2) := by decide +kernel
theorem dX9_posts_26 : decode cX9_posts 26 = .ok (.iload 5, 2) := by decide +kernel
theorem dX9_posts_28 : decode cX9_posts 28 = .ok (.imul, 1) := by decide +kernel
