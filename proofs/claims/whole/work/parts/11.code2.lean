theorem dX11_load_99 : decode cX11_load 99 = .ok (.ireturn, 1) := by decide +kernel
theorem dX11_times_0 : decode cX11_times 0 = .ok (.aload_n 0, 1) := by decide +kernel
theorem dX11_times_1 : decode cX11_times 1 = .ok (.iload_n 1, 1) := by decide +kernel
theorem dX11_times_2 : decode cX11_times 2 = .ok (.invokevirtual 196, 3) := by decide +kernel
theorem dX11_times_5 : decode cX11_times 5 = .ok (.ifCond .eq 25, 3) := by decide +kernel
theorem dX11_times_8 : decode cX11_times 8 = .ok (.iload_n 2, 1) := by decide +kernel
theorem dX11_times_9 : decode cX11_times 9 = .ok (.iconst 0, 1) := by decide +kernel
theorem dX11_times_10 : decode cX11_times 10 = .ok (.aload_n 0, 1) := by decide +kernel
theorem dX11_times_11 : decode cX11_times 11 = .ok (.getfield 43, 3) := by decide +kernel
theorem dX11_times_14 : decode cX11_times 14 = .ok (.getfield 199, 3) := by decide +kernel
theorem dX11_times_17 : decode cX11_times 17 = .ok (.iload_n 1, 1) := by decide +kernel
theorem dX11_times_18 : decode cX11_times 18 = .ok (.aaload, 1) := by decide +kernel
theorem dX11_times_19 : decode cX11_times 19 = .ok (.getfield 206, 3) := by decide +kernel
theorem dX11_times_22 : decode cX11_times 22 = .ok (.iconst 1, 1) := by decide +kernel
theorem dX11_times_23 : decode cX11_times 23 = .ok (.isub, 1) := by decide +kernel
theorem dX11_times_24 : decode cX11_times 24 = .ok (.invokestatic 76, 3) := by decide +kernel
theorem dX11_times_27 : decode cX11_times 27 = .ok (.ifCond .ne 9, 3) := by decide +kernel
theorem dX11_times_30 : decode cX11_times 30 = .ok (.aload_n 0, 1) := by decide +kernel
theorem dX11_times_31 : decode cX11_times 31 = .ok (.iconst 1, 1) := by decide +kernel
theorem dX11_times_32 : decode cX11_times 32 = .ok (.invokevirtual 88, 3) := by decide +kernel
theorem dX11_times_35 : decode cX11_times 35 = .ok (.ireturn, 1) := by decide +kernel
theorem dX11_times_36 : decode cX11_times 36 = .ok (.aload_n 0, 1) := by decide +kernel
theorem dX11_times_37 : decode cX11_times 37 = .ok (.getfield 43, 3) := by decide +kernel
theorem dX11_times_40 : decode cX11_times 40 = .ok (.aload_n 0, 1) := by decide +kernel
theorem dX11_times_41 : decode cX11_times 41 = .ok (.getfield 22, 3) := by decide +kernel
theorem dX11_times_44 : decode cX11_times 44 = .ok (.iload_n 1, 1) := by decide +kernel
theorem dX11_times_45 : decode cX11_times 45 = .ok (.iload_n 2, 1) := by decide +kernel
theorem dX11_times_46 : decode cX11_times 46 = .ok (.invokevirtual 215, 3) := by decide +kernel
theorem dX11_times_49 : decode cX11_times 49 = .ok (.aload_n 0, 1) := by decide +kernel
theorem dX11_times_50 : decode cX11_times 50 = .ok (.aload_n 0, 1) := by decide +kernel
theorem dX11_times_51 : decode cX11_times 51 = .ok (.getfield 43, 3) := by decide +kernel
theorem dX11_times_54 : decode cX11_times 54 = .ok (.getfield 219, 3) := by decide +kernel
theorem dX11_times_57 : decode cX11_times 57 = .ok (.invokevirtual 223, 3) := by decide +kernel
theorem dX11_times_60 : decode cX11_times 60 = .ok (.ireturn, 1) := by decide +kernel
theorem dX11_factor_0 : decode cX11_factor 0 = .ok (.aload_n 0, 1) := by decide +kernel
theorem dX11_factor_1 : decode cX11_factor 1 = .ok (.getfield 43, 3) := by decide +kernel
theorem dX11_factor_4 : decode cX11_factor 4 = .ok (.aload_n 0, 1) := by decide +kernel
theorem dX11_factor_5 : decode cX11_factor 5 = .ok (.getfield 22, 3) := by decide +kernel
theorem dX11_factor_8 : decode cX11_factor 8 = .ok (.invokevirtual 227, 3) := by decide +kernel
theorem dX11_factor_11 : decode cX11_factor 11 = .ok (.ifCond .ne 10, 3) := by decide +kernel
theorem dX11_factor_14 : decode cX11_factor 14 = .ok (.aload_n 0, 1) := by decide +kernel
theorem dX11_factor_15 : decode cX11_factor 15 = .ok (.bipush 6, 2) := by decide +kernel
theorem dX11_factor_17 : decode cX11_factor 17 = .ok (.invokevirtual 88, 3) := by decide +kernel
theorem dX11_factor_20 : decode cX11_factor 20 = .ok (.ireturn, 1) := by decide +kernel
theorem dX11_factor_21 : decode cX11_factor 21 = .ok (.aload_n 0, 1) := by decide +kernel
theorem dX11_factor_22 : decode cX11_factor 22 = .ok (.aload_n 0, 1) := by decide +kernel
theorem dX11_factor_23 : decode cX11_factor 23 = .ok (.getfield 43, 3) := by decide +kernel
theorem dX11_factor_26 : decode cX11_factor 26 = .ok (.getfield 231, 3) := by decide +kernel
theorem dX11_factor_29 : decode cX11_factor 29 = .ok (.invokevirtual 223, 3) := by decide +kernel
theorem dX11_factor_32 : decode cX11_factor 32 = .ok (.ireturn, 1) := by decide +kernel
theorem dX11_weakest_0 : decode cX11_weakest 0 = .ok (.aload_n 0, 1) := by decide +kernel
theorem dX11_weakest_1 : decode cX11_weakest 1 = .ok (.getfield 43, 3) := by decide +kernel
theorem dX11_weakest_4 : decode cX11_weakest 4 = .ok (.aload_n 0, 1) := by decide +kernel
theorem dX11_weakest_5 : decode cX11_weakest 5 = .ok (.getfield 22, 3) := by decide +kernel
theorem dX11_weakest_8 : decode cX11_weakest 8 = .ok (.invokevirtual 227, 3) := by decide +kernel
theorem dX11_weakest_11 : decode cX11_weakest 11 = .ok (.ifCond .ne 10, 3) := by decide +kernel
theorem dX11_weakest_14 : decode cX11_weakest 14 = .ok (.aload_n 0, 1) := by decide +kernel
theorem dX11_weakest_15 : decode cX11_weakest 15 = .ok (.bipush 6, 2) := by decide +kernel
theorem dX11_weakest_17 : decode cX11_weakest 17 = .ok (.invokevirtual 88, 3) := by decide +kernel
theorem dX11_weakest_20 : decode cX11_weakest 20 = .ok (.ireturn, 1) := by decide +kernel
theorem dX11_weakest_21 : decode cX11_weakest 21 = .ok (.aload_n 0, 1) := by decide +kernel
theorem dX11_weakest_22 : decode cX11_weakest 22 = .ok (.bipush 10, 2) := by decide +kernel
theorem dX11_weakest_24 : decode cX11_weakest 24 = .ok (.aload_n 0, 1) := by decide +kernel
theorem dX11_weakest_25 : decode cX11_weakest 25 = .ok (.getfield 43, 3) := by decide +kernel
theorem dX11_weakest_28 : decode cX11_weakest 28 = .ok (.getfield 234, 3) := by decide +kernel
theorem dX11_weakest_31 : decode cX11_weakest 31 = .ok (.imul, 1) := by decide +kernel
theorem dX11_weakest_32 : decode cX11_weakest 32 = .ok (.aload_n 0, 1) := by decide +kernel
theorem dX11_weakest_33 : decode cX11_weakest 33 = .ok (.getfield 43, 3) := by decide +kernel
theorem dX11_weakest_36 : decode cX11_weakest 36 = .ok (.getfield 237, 3) := by decide +kernel
theorem dX11_weakest_39 : decode cX11_weakest 39 = .ok (.iadd, 1) := by decide +kernel
theorem dX11_weakest_40 : decode cX11_weakest 40 = .ok (.invokevirtual 99, 3) := by decide +kernel
theorem dX11_weakest_43 : decode cX11_weakest 43 = .ok (.ireturn, 1) := by decide +kernel
theorem dX11_refuse_0 : decode cX11_refuse 0 = .ok (.aload_n 0, 1) := by decide +kernel
theorem dX11_refuse_1 : decode cX11_refuse 1 = .ok (.iload_n 1, 1) := by decide +kernel
theorem dX11_refuse_2 : decode cX11_refuse 2 = .ok (.putfield 9, 3) := by decide +kernel
theorem dX11_refuse_5 : decode cX11_refuse 5 = .ok (.iconst (-1), 1) := by decide +kernel
theorem dX11_refuse_6 : decode cX11_refuse 6 = .ok (.ireturn, 1) := by decide +kernel
theorem dX11_deny_0 : decode cX11_deny 0 = .ok (.aload_n 0, 1) := by decide +kernel
theorem dX11_deny_1 : decode cX11_deny 1 = .ok (.iload_n 1, 1) := by decide +kernel
theorem dX11_deny_2 : decode cX11_deny 2 = .ok (.putfield 9, 3) := by decide +kernel
theorem dX11_deny_5 : decode cX11_deny 5 = .ok (.iconst 0, 1) := by decide +kernel
theorem dX11_deny_6 : decode cX11_deny 6 = .ok (.ireturn, 1) := by decide +kernel
theorem dX11_give_0 : decode cX11_give 0 = .ok (.aload_n 0, 1) := by decide +kernel
theorem dX11_give_1 : decode cX11_give 1 = .ok (.iconst 0, 1) := by decide +kernel
theorem dX11_give_2 : decode cX11_give 2 = .ok (.putfield 9, 3) := by decide +kernel
theorem dX11_give_5 : decode cX11_give 5 = .ok (.iload_n 1, 1) := by decide +kernel
theorem dX11_give_6 : decode cX11_give 6 = .ok (.ireturn, 1) := by decide +kernel
theorem dX11_allow_0 : decode cX11_allow 0 = .ok (.aload_n 0, 1) := by decide +kernel
theorem dX11_allow_1 : decode cX11_allow 1 = .ok (.iconst 0, 1) := by decide +kernel
theorem dX11_allow_2 : decode cX11_allow 2 = .ok (.putfield 9, 3) := by decide +kernel
theorem dX11_allow_5 : decode cX11_allow 5 = .ok (.iconst 1, 1) := by decide +kernel
theorem dX11_allow_6 : decode cX11_allow 6 = .ok (.ireturn, 1) := by decide +kernel
theorem dX11_giveShare_0 : decode cX11_giveShare 0 = .ok (.aload_n 0, 1) := by decide +kernel
theorem dX11_giveShare_1 : decode cX11_giveShare 1 = .ok (.getfield 16, 3) := by decide +kernel
theorem dX11_giveShare_4 : decode cX11_giveShare 4 = .ok (.aload_n 1, 1) := by decide +kernel
theorem dX11_giveShare_5 : decode cX11_giveShare 5 = .ok (.invokevirtual 240, 3) := by decide +kernel
theorem dX11_giveShare_8 : decode cX11_giveShare 8 = .ok (.aload_n 0, 1) := by decide +kernel
theorem dX11_giveShare_9 : decode cX11_giveShare 9 = .ok (.aload_n 0, 1) := by decide +kernel
theorem dX11_giveShare_10 : decode cX11_giveShare 10 = .ok (.getfield 16, 3) := by decide +kernel
theorem dX11_giveShare_13 : decode cX11_giveShare 13 = .ok (.getfield 62, 3) := by decide +kernel
theorem dX11_giveShare_16 : decode cX11_giveShare 16 = .ok (.invokevirtual 99, 3) := by decide +kernel
theorem dX11_giveShare_19 : decode cX11_giveShare 19 = .ok (.ireturn, 1) := by decide +kernel
theorem dX11_giveRatio_0 : decode cX11_giveRatio 0 = .ok (.aload_n 0, 1) := by decide +kernel
theorem dX11_giveRatio_1 : decode cX11_giveRatio 1 = .ok (.getfield 16, 3) := by decide +kernel
theorem dX11_giveRatio_4 : decode cX11_giveRatio 4 = .ok (.iconst 0, 1) := by decide +kernel
theorem dX11_giveRatio_5 : decode cX11_giveRatio 5 = .ok (.aload_n 1, 1) := by decide +kernel
theorem dX11_giveRatio_6 : decode cX11_giveRatio 6 = .ok (.invokevirtual 244, 3) := by decide +kernel
theorem dX11_giveRatio_9 : decode cX11_giveRatio 9 = .ok (.aload_n 0, 1) := by decide +kernel
theorem dX11_giveRatio_10 : decode cX11_giveRatio 10 = .ok (.aload_n 0, 1) := by decide +kernel
theorem dX11_giveRatio_11 : decode cX11_giveRatio 11 = .ok (.getfield 16, 3) := by decide +kernel
theorem dX11_giveRatio_14 : decode cX11_giveRatio 14 = .ok (.getfield 62, 3) := by decide +kernel
theorem dX11_giveRatio_17 : decode cX11_giveRatio 17 = .ok (.invokevirtual 99, 3) := by decide +kernel
theorem dX11_giveRatio_20 : decode cX11_giveRatio 20 = .ok (.ireturn, 1) := by decide +kernel
theorem dX11_isSection_0 : decode cX11_isSection 0 = .ok (.iload_n 1, 1) := by decide +kernel
theorem dX11_isSection_1 : decode cX11_isSection 1 = .ok (.iconst 0, 1) := by decide +kernel
theorem dX11_isSection_2 : decode cX11_isSection 2 = .ok (.iconst 3, 1) := by decide +kernel
theorem dX11_isSection_3 : decode cX11_isSection 3 = .ok (.invokestatic 76, 3) := by decide +kernel
theorem dX11_isSection_6 : decode cX11_isSection 6 = .ok (.ireturn, 1) := by decide +kernel
theorem dX11_isRod_0 : decode cX11_isRod 0 = .ok (.aload_n 0, 1) := by decide +kernel
theorem dX11_isRod_1 : decode cX11_isRod 1 = .ok (.iload_n 1, 1) := by decide +kernel
theorem dX11_isRod_2 : decode cX11_isRod 2 = .ok (.invokevirtual 69, 3) := by decide +kernel
theorem dX11_isRod_5 : decode cX11_isRod 5 = .ok (.ifCond .eq 26, 3) := by decide +kernel
theorem dX11_isRod_8 : decode cX11_isRod 8 = .ok (.iload_n 2, 1) := by decide +kernel
theorem dX11_isRod_9 : decode cX11_isRod 9 = .ok (.iconst 0, 1) := by decide +kernel
theorem dX11_isRod_10 : decode cX11_isRod 10 = .ok (.aload_n 0, 1) := by decide +kernel
theorem dX11_isRod_11 : decode cX11_isRod 11 = .ok (.getfield 22, 3) := by decide +kernel
theorem dX11_isRod_14 : decode cX11_isRod 14 = .ok (.iload_n 1, 1) := by decide +kernel
theorem dX11_isRod_15 : decode cX11_isRod 15 = .ok (.aaload, 1) := by decide +kernel
theorem dX11_isRod_16 : decode cX11_isRod 16 = .ok (.getfield 102, 3) := by decide +kernel
theorem dX11_isRod_19 : decode cX11_isRod 19 = .ok (.iconst 1, 1) := by decide +kernel
theorem dX11_isRod_20 : decode cX11_isRod 20 = .ok (.isub, 1) := by decide +kernel
theorem dX11_isRod_21 : decode cX11_isRod 21 = .ok (.invokestatic 76, 3) := by decide +kernel
theorem dX11_isRod_24 : decode cX11_isRod 24 = .ok (.ifCond .eq 7, 3) := by decide +kernel
theorem dX11_isRod_27 : decode cX11_isRod 27 = .ok (.iconst 1, 1) := by decide +kernel
theorem dX11_isRod_28 : decode cX11_isRod 28 = .ok (.goto 4, 3) := by decide +kernel
theorem dX11_isRod_31 : decode cX11_isRod 31 = .ok (.iconst 0, 1) := by decide +kernel
theorem dX11_isRod_32 : decode cX11_isRod 32 = .ok (.ireturn, 1) := by decide +kernel
theorem dX11_isSpan_0 : decode cX11_isSpan 0 = .ok (.iload_n 1, 1) := by decide +kernel
theorem dX11_isSpan_1 : decode cX11_isSpan 1 = .ok (.iconst 0, 1) := by decide +kernel
theorem dX11_isSpan_2 : decode cX11_isSpan 2 = .ok (.aload_n 0, 1) := by decide +kernel
theorem dX11_isSpan_3 : decode cX11_isSpan 3 = .ok (.getfield 43, 3) := by decide +kernel
theorem dX11_isSpan_6 : decode cX11_isSpan 6 = .ok (.getfield 188, 3) := by decide +kernel
theorem dX11_isSpan_9 : decode cX11_isSpan 9 = .ok (.iconst 1, 1) := by decide +kernel
theorem dX11_isSpan_10 : decode cX11_isSpan 10 = .ok (.isub, 1) := by decide +kernel
theorem dX11_isSpan_11 : decode cX11_isSpan 11 = .ok (.invokestatic 76, 3) := by decide +kernel
theorem dX11_isSpan_14 : decode cX11_isSpan 14 = .ok (.ireturn, 1) := by decide +kernel
theorem dX11_isFromTo_0 : decode cX11_isFromTo 0 = .ok (.iload_n 0, 1) := by decide +kernel
theorem dX11_isFromTo_1 : decode cX11_isFromTo 1 = .ok (.iload_n 1, 1) := by decide +kernel
theorem dX11_isFromTo_2 : decode cX11_isFromTo 2 = .ok (.if_icmp .lt 12, 3) := by decide +kernel
theorem dX11_isFromTo_5 : decode cX11_isFromTo 5 = .ok (.iload_n 0, 1) := by decide +kernel
theorem dX11_isFromTo_6 : decode cX11_isFromTo 6 = .ok (.iload_n 2, 1) := by decide +kernel
theorem dX11_isFromTo_7 : decode cX11_isFromTo 7 = .ok (.if_icmp .gt 7, 3) := by decide +kernel
theorem dX11_isFromTo_10 : decode cX11_isFromTo 10 = .ok (.iconst 1, 1) := by decide +kernel
theorem dX11_isFromTo_11 : decode cX11_isFromTo 11 = .ok (.goto 4, 3) := by decide +kernel
theorem dX11_isFromTo_14 : decode cX11_isFromTo 14 = .ok (.iconst 0, 1) := by decide +kernel
theorem dX11_isFromTo_15 : decode cX11_isFromTo 15 = .ok (.ireturn, 1) := by decide +kernel
theorem dX11_isNear_0 : decode cX11_isNear 0 = .ok (.iload_n 0, 1) := by decide +kernel
theorem dX11_isNear_1 : decode cX11_isNear 1 = .ok (.ldc 248, 2) := by decide +kernel
theorem dX11_isNear_3 : decode cX11_isNear 3 = .ok (.ldc 249, 2) := by decide +kernel
theorem dX11_isNear_5 : decode cX11_isNear 5 = .ok (.invokestatic 76, 3) := by decide +kernel
theorem dX11_isNear_8 : decode cX11_isNear 8 = .ok (.ireturn, 1) := by decide +kernel
theorem dX11_walkTo_0 : decode cX11_walkTo 0 = .ok (.aload_n 0, 1) := by decide +kernel
theorem dX11_walkTo_1 : decode cX11_walkTo 1 = .ok (.iload_n 1, 1) := by decide +kernel
theorem dX11_walkTo_2 : decode cX11_walkTo 2 = .ok (.invokevirtual 69, 3) := by decide +kernel
theorem dX11_walkTo_5 : decode cX11_walkTo 5 = .ok (.ifCond .ne 5, 3) := by decide +kernel
theorem dX11_walkTo_8 : decode cX11_walkTo 8 = .ok (.iconst 1, 1) := by decide +kernel
theorem dX11_walkTo_9 : decode cX11_walkTo 9 = .ok (.ireturn, 1) := by decide +kernel
theorem dX11_walkTo_10 : decode cX11_walkTo 10 = .ok (.iload_n 2, 1) := by decide +kernel
theorem dX11_walkTo_11 : decode cX11_walkTo 11 = .ok (.invokestatic 150, 3) := by decide +kernel
theorem dX11_walkTo_14 : decode cX11_walkTo 14 = .ok (.ifCond .ne 5, 3) := by decide +kernel
theorem dX11_walkTo_17 : decode cX11_walkTo 17 = .ok (.iconst 2, 1) := by decide +kernel
theorem dX11_walkTo_18 : decode cX11_walkTo 18 = .ok (.ireturn, 1) := by decide +kernel
theorem dX11_walkTo_19 : decode cX11_walkTo 19 = .ok (.aload_n 0, 1) := by decide +kernel
theorem dX11_walkTo_20 : decode cX11_walkTo 20 = .ok (.getfield 22, 3) := by decide +kernel
theorem dX11_walkTo_23 : decode cX11_walkTo 23 = .ok (.iload_n 1, 1) := by decide +kernel
theorem dX11_walkTo_24 : decode cX11_walkTo 24 = .ok (.aaload, 1) := by decide +kernel
theorem dX11_walkTo_25 : decode cX11_walkTo 25 = .ok (.astore 4, 2) := by decide +kernel
theorem dX11_walkTo_27 : decode cX11_walkTo 27 = .ok (.aload_n 0, 1) := by decide +kernel
theorem dX11_walkTo_28 : decode cX11_walkTo 28 = .ok (.getfield 50, 3) := by decide +kernel
theorem dX11_walkTo_31 : decode cX11_walkTo 31 = .ok (.aload 4, 2) := by decide +kernel
theorem dX11_walkTo_33 : decode cX11_walkTo 33 = .ok (.aload 4, 2) := by decide +kernel
theorem dX11_walkTo_35 : decode cX11_walkTo 35 = .ok (.getfield 113, 3) := by decide +kernel
theorem dX11_walkTo_38 : decode cX11_walkTo 38 = .ok (.invokevirtual 250, 3) := by decide +kernel
theorem dX11_walkTo_41 : decode cX11_walkTo 41 = .ok (.aload_n 0, 1) := by decide +kernel
theorem dX11_walkTo_42 : decode cX11_walkTo 42 = .ok (.getfield 50, 3) := by decide +kernel
theorem dX11_walkTo_45 : decode cX11_walkTo 45 = .ok (.iload_n 2, 1) := by decide +kernel
theorem dX11_walkTo_46 : decode cX11_walkTo 46 = .ok (.invokevirtual 254, 3) := by decide +kernel
theorem dX11_walkTo_49 : decode cX11_walkTo 49 = .ok (.ifCond .ne 5, 3) := by decide +kernel
theorem dX11_walkTo_52 : decode cX11_walkTo 52 = .ok (.iconst 4, 1) := by decide +kernel
theorem dX11_walkTo_53 : decode cX11_walkTo 53 = .ok (.ireturn, 1) := by decide +kernel
theorem dX11_walkTo_54 : decode cX11_walkTo 54 = .ok (.aload_n 0, 1) := by decide +kernel
theorem dX11_walkTo_55 : decode cX11_walkTo 55 = .ok (.getfield 50, 3) := by decide +kernel
theorem dX11_walkTo_58 : decode cX11_walkTo 58 = .ok (.aload 4, 2) := by decide +kernel
theorem dX11_walkTo_60 : decode cX11_walkTo 60 = .ok (.iload_n 2, 1) := by decide +kernel
theorem dX11_walkTo_61 : decode cX11_walkTo 61 = .ok (.iload_n 3, 1) := by decide +kernel
theorem dX11_walkTo_62 : decode cX11_walkTo 62 = .ok (.invokevirtual 257, 3) := by decide +kernel
theorem dX11_walkTo_65 : decode cX11_walkTo 65 = .ok (.iconst 0, 1) := by decide +kernel
theorem dX11_walkTo_66 : decode cX11_walkTo 66 = .ok (.ireturn, 1) := by decide +kernel
theorem dX11_bears_0 : decode cX11_bears 0 = .ok (.aload_n 0, 1) := by decide +kernel
theorem dX11_bears_1 : decode cX11_bears 1 = .ok (.getfield 50, 3) := by decide +kernel
theorem dX11_bears_4 : decode cX11_bears 4 = .ok (.aload_n 1, 1) := by decide +kernel
theorem dX11_bears_5 : decode cX11_bears 5 = .ok (.aload_n 1, 1) := by decide +kernel
theorem dX11_bears_6 : decode cX11_bears 6 = .ok (.getfield 113, 3) := by decide +kernel
theorem dX11_bears_9 : decode cX11_bears 9 = .ok (.invokevirtual 250, 3) := by decide +kernel
theorem dX11_bears_12 : decode cX11_bears 12 = .ok (.aload_n 0, 1) := by decide +kernel
theorem dX11_bears_13 : decode cX11_bears 13 = .ok (.getfield 50, 3) := by decide +kernel
theorem dX11_bears_16 : decode cX11_bears 16 = .ok (.aload_n 1, 1) := by decide +kernel
theorem dX11_bears_17 : decode cX11_bears 17 = .ok (.iload_n 2, 1) := by decide +kernel
theorem dX11_bears_18 : decode cX11_bears 18 = .ok (.iload_n 3, 1) := by decide +kernel
theorem dX11_bears_19 : decode cX11_bears 19 = .ok (.iconst 1, 1) := by decide +kernel
theorem dX11_bears_20 : decode cX11_bears 20 = .ok (.invokevirtual 261, 3) := by decide +kernel
theorem dX11_bears_23 : decode cX11_bears 23 = .ok (.ifCond .eq 21, 3) := by decide +kernel
theorem dX11_bears_26 : decode cX11_bears 26 = .ok (.aload_n 0, 1) := by decide +kernel
theorem dX11_bears_27 : decode cX11_bears 27 = .ok (.getfield 50, 3) := by decide +kernel
theorem dX11_bears_30 : decode cX11_bears 30 = .ok (.aload_n 1, 1) := by decide +kernel
theorem dX11_bears_31 : decode cX11_bears 31 = .ok (.iload_n 2, 1) := by decide +kernel
theorem dX11_bears_32 : decode cX11_bears 32 = .ok (.iload_n 3, 1) := by decide +kernel
theorem dX11_bears_33 : decode cX11_bears 33 = .ok (.iconst 0, 1) := by decide +kernel
theorem dX11_bears_34 : decode cX11_bears 34 = .ok (.invokevirtual 261, 3) := by decide +kernel
theorem dX11_bears_37 : decode cX11_bears 37 = .ok (.ifCond .eq 7, 3) := by decide +kernel
theorem dX11_bears_40 : decode cX11_bears 40 = .ok (.iconst 1, 1) := by decide +kernel
theorem dX11_bears_41 : decode cX11_bears 41 = .ok (.goto 4, 3) := by decide +kernel
theorem dX11_bears_44 : decode cX11_bears 44 = .ok (.iconst 0, 1) := by decide +kernel
theorem dX11_bears_45 : decode cX11_bears 45 = .ok (.ireturn, 1) := by decide +kernel
theorem dX11_forgetBests_0 : decode cX11_forgetBests 0 = .ok (.iconst 0, 1) := by decide +kernel
theorem dX11_forgetBests_1 : decode cX11_forgetBests 1 = .ok (.istore_n 1, 1) := by decide +kernel
theorem dX11_forgetBests_2 : decode cX11_forgetBests 2 = .ok (.iload_n 1, 1) := by decide +kernel
theorem dX11_forgetBests_3 : decode cX11_forgetBests 3 = .ok (.iconst 4, 1) := by decide +kernel
theorem dX11_forgetBests_4 : decode cX11_forgetBests 4 = .ok (.if_icmp .ge 19, 3) := by decide +kernel
theorem dX11_forgetBests_7 : decode cX11_forgetBests 7 = .ok (.aload_n 0, 1) := by decide +kernel
theorem dX11_forgetBests_8 : decode cX11_forgetBests 8 = .ok (.getfield 22, 3) := by decide +kernel
theorem dX11_forgetBests_11 : decode cX11_forgetBests 11 = .ok (.iload_n 1, 1) := by decide +kernel
theorem dX11_forgetBests_12 : decode cX11_forgetBests 12 = .ok (.aaload, 1) := by decide +kernel
theorem dX11_forgetBests_13 : decode cX11_forgetBests 13 = .ok (.iconst 0, 1) := by decide +kernel
theorem dX11_forgetBests_14 : decode cX11_forgetBests 14 = .ok (.putfield 265, 3) := by decide +kernel
theorem dX11_forgetBests_17 : decode cX11_forgetBests 17 = .ok (.iinc 1 1, 3) := by decide +kernel
theorem dX11_forgetBests_20 : decode cX11_forgetBests 20 = .ok (.goto (-18), 3) := by decide +kernel
theorem dX11_forgetBests_23 : decode cX11_forgetBests 23 = .ok (.return_, 1) := by decide +kernel
theorem dX11_carryOut_0 : decode cX11_carryOut 0 = .ok (.iconst 0, 1) := by decide +kernel
theorem dX11_carryOut_1 : decode cX11_carryOut 1 = .ok (.istore_n 2, 1) := by decide +kernel
theorem dX11_carryOut_2 : decode cX11_carryOut 2 = .ok (.iconst 0, 1) := by decide +kernel
theorem dX11_carryOut_3 : decode cX11_carryOut 3 = .ok (.istore_n 3, 1) := by decide +kernel
theorem dX11_carryOut_4 : decode cX11_carryOut 4 = .ok (.iload_n 3, 1) := by decide +kernel
theorem dX11_carryOut_5 : decode cX11_carryOut 5 = .ok (.aload_n 1, 1) := by decide +kernel
theorem dX11_carryOut_6 : decode cX11_carryOut 6 = .ok (.getfield 102, 3) := by decide +kernel
theorem dX11_carryOut_9 : decode cX11_carryOut 9 = .ok (.if_icmp .ge 46, 3) := by decide +kernel
theorem dX11_carryOut_12 : decode cX11_carryOut 12 = .ok (.aload_n 0, 1) := by decide +kernel
theorem dX11_carryOut_13 : decode cX11_carryOut 13 = .ok (.getfield 36, 3) := by decide +kernel
theorem dX11_carryOut_16 : decode cX11_carryOut 16 = .ok (.aload_n 1, 1) := by decide +kernel
theorem dX11_carryOut_17 : decode cX11_carryOut 17 = .ok (.getfield 181, 3) := by decide +kernel
theorem dX11_carryOut_20 : decode cX11_carryOut 20 = .ok (.iload_n 3, 1) := by decide +kernel
theorem dX11_carryOut_21 : decode cX11_carryOut 21 = .ok (.iaload, 1) := by decide +kernel
theorem dX11_carryOut_22 : decode cX11_carryOut 22 = .ok (.invokevirtual 269, 3) := by decide +kernel
theorem dX11_carryOut_25 : decode cX11_carryOut 25 = .ok (.istore 4, 2) := by decide +kernel
theorem dX11_carryOut_27 : decode cX11_carryOut 27 = .ok (.aload_n 1, 1) := by decide +kernel
theorem dX11_carryOut_28 : decode cX11_carryOut 28 = .ok (.getfield 113, 3) := by decide +kernel
theorem dX11_carryOut_31 : decode cX11_carryOut 31 = .ok (.iload_n 3, 1) := by decide +kernel
theorem dX11_carryOut_32 : decode cX11_carryOut 32 = .ok (.iaload, 1) := by decide +kernel
theorem dX11_carryOut_33 : decode cX11_carryOut 33 = .ok (.iload 4, 2) := by decide +kernel
theorem dX11_carryOut_35 : decode cX11_carryOut 35 = .ok (.if_icmp .eq 14, 3) := by decide +kernel
theorem dX11_carryOut_38 : decode cX11_carryOut 38 = .ok (.aload_n 1, 1) := by decide +kernel
theorem dX11_carryOut_39 : decode cX11_carryOut 39 = .ok (.getfield 113, 3) := by decide +kernel
theorem dX11_carryOut_42 : decode cX11_carryOut 42 = .ok (.iload_n 3, 1) := by decide +kernel
theorem dX11_carryOut_43 : decode cX11_carryOut 43 = .ok (.iload 4, 2) := by decide +kernel
theorem dX11_carryOut_45 : decode cX11_carryOut 45 = .ok (.iastore, 1) := by decide +kernel
theorem dX11_carryOut_46 : decode cX11_carryOut 46 = .ok (.iinc 2 1, 3) := by decide +kernel
theorem dX11_carryOut_49 : decode cX11_carryOut 49 = .ok (.iinc 3 1, 3) := by decide +kernel
theorem dX11_carryOut_52 : decode cX11_carryOut 52 = .ok (.goto (-48), 3) := by decide +kernel
theorem dX11_carryOut_55 : decode cX11_carryOut 55 = .ok (.iload_n 2, 1) := by decide +kernel
theorem dX11_carryOut_56 : decode cX11_carryOut 56 = .ok (.ireturn, 1) := by decide +kernel
theorem dX11_commonDivisor_0 : decode cX11_commonDivisor 0 = .ok (.lload_n 0, 1) := by decide +kernel
theorem dX11_commonDivisor_1 : decode cX11_commonDivisor 1 = .ok (.invokestatic 272, 3) := by decide +kernel
theorem dX11_commonDivisor_4 : decode cX11_commonDivisor 4 = .ok (.lstore 4, 2) := by decide +kernel
theorem dX11_commonDivisor_6 : decode cX11_commonDivisor 6 = .ok (.lload_n 2, 1) := by decide +kernel
theorem dX11_commonDivisor_7 : decode cX11_commonDivisor 7 = .ok (.invokestatic 272, 3) := by decide +kernel
theorem dX11_commonDivisor_10 : decode cX11_commonDivisor 10 = .ok (.lstore 6, 2) := by decide +kernel
theorem dX11_commonDivisor_12 : decode cX11_commonDivisor 12 = .ok (.iconst 0, 1) := by decide +kernel
theorem dX11_commonDivisor_13 : decode cX11_commonDivisor 13 = .ok (.istore 8, 2) := by decide +kernel
theorem dX11_commonDivisor_15 : decode cX11_commonDivisor 15 = .ok (.iload 8, 2) := by decide +kernel
theorem dX11_commonDivisor_17 : decode cX11_commonDivisor 17 = .ok (.bipush 100, 2) := by decide +kernel
theorem dX11_commonDivisor_19 : decode cX11_commonDivisor 19 = .ok (.if_icmp .ge 31, 3) := by decide +kernel
theorem dX11_commonDivisor_22 : decode cX11_commonDivisor 22 = .ok (.lload 6, 2) := by decide +kernel
theorem dX11_commonDivisor_24 : decode cX11_commonDivisor 24 = .ok (.lconst 0, 1) := by decide +kernel
theorem dX11_commonDivisor_25 : decode cX11_commonDivisor 25 = .ok (.lcmp, 1) := by decide +kernel
theorem dX11_commonDivisor_26 : decode cX11_commonDivisor 26 = .ok (.ifCond .eq 24, 3) := by decide +kernel
theorem dX11_commonDivisor_29 : decode cX11_commonDivisor 29 = .ok (.lload 4, 2) := by decide +kernel
theorem dX11_commonDivisor_31 : decode cX11_commonDivisor 31 = .ok (.lload 6, 2) := by decide +kernel
theorem dX11_commonDivisor_33 : decode cX11_commonDivisor 33 = .ok (.lrem, 1) := by decide +kernel
theorem dX11_commonDivisor_34 : decode cX11_commonDivisor 34 = .ok (.lstore 9, 2) := by decide +kernel
theorem dX11_commonDivisor_36 : decode cX11_commonDivisor 36 = .ok (.lload 6, 2) := by decide +kernel
theorem dX11_commonDivisor_38 : decode cX11_commonDivisor 38 = .ok (.lstore 4, 2) := by decide +kernel
theorem dX11_commonDivisor_40 : decode cX11_commonDivisor 40 = .ok (.lload 9, 2) := by decide +kernel
theorem dX11_commonDivisor_42 : decode cX11_commonDivisor 42 = .ok (.lstore 6, 2) := by decide +kernel
theorem dX11_commonDivisor_44 : decode cX11_commonDivisor 44 = .ok (.iinc 8 1, 3) := by decide +kernel
theorem dX11_commonDivisor_47 : decode cX11_commonDivisor 47 = .ok (.goto (-32), 3) := by decide +kernel
theorem dX11_commonDivisor_50 : decode cX11_commonDivisor 50 = .ok (.lload 4, 2) := by decide +kernel
theorem dX11_commonDivisor_52 : decode cX11_commonDivisor 52 = .ok (.lreturn, 1) := by decide +kernel
theorem dX12_init_0 : decode cX12_init 0 = .ok (.aload_n 0, 1) := by decide +kernel
theorem dX12_init_1 : decode cX12_init 1 = .ok (.invokespecial 1, 3) := by decide +kernel
theorem dX12_init_4 : decode cX12_init 4 = .ok (.aload_n 0, 1) := by decide +kernel
theorem dX12_init_5 : decode cX12_init 5 = .ok (.sipush 20000, 3) := by decide +kernel
theorem dX12_init_8 : decode cX12_init 8 = .ok (.newarray .int, 2) := by decide +kernel
theorem dX12_init_10 : decode cX12_init 10 = .ok (.putfield 7, 3) := by decide +kernel
theorem dX12_init_13 : decode cX12_init 13 = .ok (.aload_n 0, 1) := by decide +kernel
theorem dX12_init_14 : decode cX12_init 14 = .ok (.bipush 100, 2) := by decide +kernel
theorem dX12_init_16 : decode cX12_init 16 = .ok (.newarray .int, 2) := by decide +kernel
theorem dX12_init_18 : decode cX12_init 18 = .ok (.putfield 13, 3) := by decide +kernel
theorem dX12_init_21 : decode cX12_init 21 = .ok (.aload_n 0, 1) := by decide +kernel
theorem dX12_init_22 : decode cX12_init 22 = .ok (.bipush 100, 2) := by decide +kernel
theorem dX12_init_24 : decode cX12_init 24 = .ok (.newarray .int, 2) := by decide +kernel
theorem dX12_init_26 : decode cX12_init 26 = .ok (.putfield 16, 3) := by decide +kernel
theorem dX12_init_29 : decode cX12_init 29 = .ok (.aload_n 0, 1) := by decide +kernel
theorem dX12_init_30 : decode cX12_init 30 = .ok (.bipush 100, 2) := by decide +kernel
theorem dX12_init_32 : decode cX12_init 32 = .ok (.newarray .int, 2) := by decide +kernel
theorem dX12_init_34 : decode cX12_init 34 = .ok (.putfield 19, 3) := by decide +kernel
theorem dX12_init_37 : decode cX12_init 37 = .ok (.aload_n 0, 1) := by decide +kernel
theorem dX12_init_38 : decode cX12_init 38 = .ok (.sipush 200, 3) := by decide +kernel
theorem dX12_init_41 : decode cX12_init 41 = .ok (.newarray .int, 2) := by decide +kernel
theorem dX12_init_43 : decode cX12_init 43 = .ok (.putfield 22, 3) := by decide +kernel
theorem dX12_init_46 : decode cX12_init 46 = .ok (.aload_n 0, 1) := by decide +kernel
theorem dX12_init_47 : decode cX12_init 47 = .ok (.iconst 4, 1) := by decide +kernel
theorem dX12_init_48 : decode cX12_init 48 = .ok (.newarray .int, 2) := by decide +kernel
theorem dX12_init_50 : decode cX12_init 50 = .ok (.dup, 1) := by decide +kernel
theorem dX12_init_51 : decode cX12_init 51 = .ok (.iconst 0, 1) := by decide +kernel
theorem dX12_init_52 : decode cX12_init 52 = .ok (.bipush 10, 2) := by decide +kernel
theorem dX12_init_54 : decode cX12_init 54 = .ok (.iastore, 1) := by decide +kernel
theorem dX12_init_55 : decode cX12_init 55 = .ok (.dup, 1) := by decide +kernel
theorem dX12_init_56 : decode cX12_init 56 = .ok (.iconst 1, 1) := by decide +kernel
theorem dX12_init_57 : decode cX12_init 57 = .ok (.bipush 10, 2) := by decide +kernel
theorem dX12_init_59 : decode cX12_init 59 = .ok (.iastore, 1) := by decide +kernel
theorem dX12_init_60 : decode cX12_init 60 = .ok (.dup, 1) := by decide +kernel
theorem dX12_init_61 : decode cX12_init 61 = .ok (.iconst 2, 1) := by decide +kernel
theorem dX12_init_62 : decode cX12_init 62 = .ok (.bipush 10, 2) := by decide +kernel
theorem dX12_init_64 : decode cX12_init 64 = .ok (.iastore, 1) := by decide +kernel
theorem dX12_init_65 : decode cX12_init 65 = .ok (.dup, 1) := by decide +kernel
theorem dX12_init_66 : decode cX12_init 66 = .ok (.iconst 3, 1) := by decide +kernel
theorem dX12_init_67 : decode cX12_init 67 = .ok (.bipush 10, 2) := by decide +kernel
theorem dX12_init_69 : decode cX12_init 69 = .ok (.iastore, 1) := by decide +kernel
theorem dX12_init_70 : decode cX12_init 70 = .ok (.putfield 25, 3) := by decide +kernel
theorem dX12_init_73 : decode cX12_init 73 = .ok (.aload_n 0, 1) := by decide +kernel
theorem dX12_init_74 : decode cX12_init 74 = .ok (.iconst 4, 1) := by decide +kernel
theorem dX12_init_75 : decode cX12_init 75 = .ok (.newarray .int, 2) := by decide +kernel
theorem dX12_init_77 : decode cX12_init 77 = .ok (.dup, 1) := by decide +kernel
theorem dX12_init_78 : decode cX12_init 78 = .ok (.iconst 0, 1) := by decide +kernel
theorem dX12_init_79 : decode cX12_init 79 = .ok (.bipush 50, 2) := by decide +kernel
theorem dX12_init_81 : decode cX12_init 81 = .ok (.iastore, 1) := by decide +kernel
theorem dX12_init_82 : decode cX12_init 82 = .ok (.dup, 1) := by decide +kernel
theorem dX12_init_83 : decode cX12_init 83 = .ok (.iconst 1, 1) := by decide +kernel
theorem dX12_init_84 : decode cX12_init 84 = .ok (.bipush 50, 2) := by decide +kernel
theorem dX12_init_86 : decode cX12_init 86 = .ok (.iastore, 1) := by decide +kernel
theorem dX12_init_87 : decode cX12_init 87 = .ok (.dup, 1) := by decide +kernel
theorem dX12_init_88 : decode cX12_init 88 = .ok (.iconst 2, 1) := by decide +kernel
theorem dX12_init_89 : decode cX12_init 89 = .ok (.bipush 50, 2) := by decide +kernel
theorem dX12_init_91 : decode cX12_init 91 = .ok (.iastore, 1) := by decide +kernel
theorem dX12_init_92 : decode cX12_init 92 = .ok (.dup, 1) := by decide +kernel
theorem dX12_init_93 : decode cX12_init 93 = .ok (.iconst 3, 1) := by decide +kernel
theorem dX12_init_94 : decode cX12_init 94 = .ok (.bipush 50, 2) := by decide +kernel
theorem dX12_init_96 : decode cX12_init 96 = .ok (.iastore, 1) := by decide +kernel
theorem dX12_init_97 : decode cX12_init 97 = .ok (.putfield 28, 3) := by decide +kernel
theorem dX12_init_100 : decode cX12_init 100 = .ok (.aload_n 0, 1) := by decide +kernel
theorem dX12_init_101 : decode cX12_init 101 = .ok (.iconst 4, 1) := by decide +kernel
theorem dX12_init_102 : decode cX12_init 102 = .ok (.newarray .int, 2) := by decide +kernel
theorem dX12_init_104 : decode cX12_init 104 = .ok (.putfield 31, 3) := by decide +kernel
theorem dX12_init_107 : decode cX12_init 107 = .ok (.aload_n 0, 1) := by decide +kernel
theorem dX12_init_108 : decode cX12_init 108 = .ok (.iconst 4, 1) := by decide +kernel
theorem dX12_init_109 : decode cX12_init 109 = .ok (.newarray .int, 2) := by decide +kernel
theorem dX12_init_111 : decode cX12_init 111 = .ok (.putfield 34, 3) := by decide +kernel
theorem dX12_init_114 : decode cX12_init 114 = .ok (.aload_n 0, 1) := by decide +kernel
theorem dX12_init_115 : decode cX12_init 115 = .ok (.iconst 4, 1) := by decide +kernel
theorem dX12_init_116 : decode cX12_init 116 = .ok (.newarray .int, 2) := by decide +kernel
theorem dX12_init_118 : decode cX12_init 118 = .ok (.putfield 37, 3) := by decide +kernel
theorem dX12_init_121 : decode cX12_init 121 = .ok (.aload_n 0, 1) := by decide +kernel
theorem dX12_init_122 : decode cX12_init 122 = .ok (.sipush 400, 3) := by decide +kernel
theorem dX12_init_125 : decode cX12_init 125 = .ok (.newarray .int, 2) := by decide +kernel
theorem dX12_init_127 : decode cX12_init 127 = .ok (.putfield 40, 3) := by decide +kernel
theorem dX12_init_130 : decode cX12_init 130 = .ok (.aload_n 0, 1) := by decide +kernel
theorem dX12_init_131 : decode cX12_init 131 = .ok (.bipush 24, 2) := by decide +kernel
theorem dX12_init_133 : decode cX12_init 133 = .ok (.newarray .int, 2) := by decide +kernel
theorem dX12_init_135 : decode cX12_init 135 = .ok (.putfield 43, 3) := by decide +kernel
theorem dX12_init_138 : decode cX12_init 138 = .ok (.aload_n 0, 1) := by decide +kernel
theorem dX12_init_139 : decode cX12_init 139 = .ok (.bipush 24, 2) := by decide +kernel
theorem dX12_init_141 : decode cX12_init 141 = .ok (.newarray .int, 2) := by decide +kernel
theorem dX12_init_143 : decode cX12_init 143 = .ok (.putfield 46, 3) := by decide +kernel
theorem dX12_init_146 : decode cX12_init 146 = .ok (.aload_n 0, 1) := by decide +kernel
theorem dX12_init_147 : decode cX12_init 147 = .ok (.bipush 6, 2) := by decide +kernel
theorem dX12_init_149 : decode cX12_init 149 = .ok (.newarray .int, 2) := by decide +kernel
theorem dX12_init_151 : decode cX12_init 151 = .ok (.putfield 49, 3) := by decide +kernel
theorem dX12_init_154 : decode cX12_init 154 = .ok (.aload_n 0, 1) := by decide +kernel
theorem dX12_init_155 : decode cX12_init 155 = .ok (.bipush 8, 2) := by decide +kernel
theorem dX12_init_157 : decode cX12_init 157 = .ok (.newarray .int, 2) := by decide +kernel
theorem dX12_init_159 : decode cX12_init 159 = .ok (.putfield 52, 3) := by decide +kernel
theorem dX12_init_162 : decode cX12_init 162 = .ok (.aload_n 0, 1) := by decide +kernel
theorem dX12_init_163 : decode cX12_init 163 = .ok (.bipush 8, 2) := by decide +kernel
theorem dX12_init_165 : decode cX12_init 165 = .ok (.newarray .int, 2) := by decide +kernel
theorem dX12_init_167 : decode cX12_init 167 = .ok (.putfield 55, 3) := by decide +kernel
theorem dX12_init_170 : decode cX12_init 170 = .ok (.aload_n 0, 1) := by decide +kernel
theorem dX12_init_171 : decode cX12_init 171 = .ok (.iconst 4, 1) := by decide +kernel
theorem dX12_init_172 : decode cX12_init 172 = .ok (.newarray .int, 2) := by decide +kernel
theorem dX12_init_174 : decode cX12_init 174 = .ok (.putfield 58, 3) := by decide +kernel
theorem dX12_init_177 : decode cX12_init 177 = .ok (.aload_n 0, 1) := by decide +kernel
theorem dX12_init_178 : decode cX12_init 178 = .ok (.iconst 4, 1) := by decide +kernel
theorem dX12_init_179 : decode cX12_init 179 = .ok (.newarray .int, 2) := by decide +kernel
theorem dX12_init_181 : decode cX12_init 181 = .ok (.putfield 61, 3) := by decide +kernel
theorem dX12_init_184 : decode cX12_init 184 = .ok (.aload_n 0, 1) := by decide +kernel
theorem dX12_init_185 : decode cX12_init 185 = .ok (.bipush 6, 2) := by decide +kernel
theorem dX12_init_187 : decode cX12_init 187 = .ok (.newarray .int, 2) := by decide +kernel
theorem dX12_init_189 : decode cX12_init 189 = .ok (.putfield 64, 3) := by decide +kernel
theorem dX12_init_192 : decode cX12_init 192 = .ok (.aload_n 0, 1) := by decide +kernel
theorem dX12_init_193 : decode cX12_init 193 = .ok (.iconst 5, 1) := by decide +kernel
theorem dX12_init_194 : decode cX12_init 194 = .ok (.newarray .int, 2) := by decide +kernel
theorem dX12_init_196 : decode cX12_init 196 = .ok (.putfield 67, 3) := by decide +kernel
theorem dX12_init_199 : decode cX12_init 199 = .ok (.aload_n 0, 1) := by decide +kernel
theorem dX12_init_200 : decode cX12_init 200 = .ok (.iconst 5, 1) := by decide +kernel
theorem dX12_init_201 : decode cX12_init 201 = .ok (.newarray .int, 2) := by decide +kernel
theorem dX12_init_203 : decode cX12_init 203 = .ok (.putfield 70, 3) := by decide +kernel
theorem dX12_init_206 : decode cX12_init 206 = .ok (.aload_n 0, 1) := by decide +kernel
theorem dX12_init_207 : decode cX12_init 207 = .ok (.iconst 5, 1) := by decide +kernel
theorem dX12_init_208 : decode cX12_init 208 = .ok (.newarray .int, 2) := by decide +kernel
theorem dX12_init_210 : decode cX12_init 210 = .ok (.putfield 73, 3) := by decide +kernel
theorem dX12_init_213 : decode cX12_init 213 = .ok (.aload_n 0, 1) := by decide +kernel
theorem dX12_init_214 : decode cX12_init 214 = .ok (.bipush 10, 2) := by decide +kernel
theorem dX12_init_216 : decode cX12_init 216 = .ok (.newarray .int, 2) := by decide +kernel
theorem dX12_init_218 : decode cX12_init 218 = .ok (.putfield 76, 3) := by decide +kernel
theorem dX12_init_221 : decode cX12_init 221 = .ok (.aload_n 0, 1) := by decide +kernel
theorem dX12_init_222 : decode cX12_init 222 = .ok (.bipush 10, 2) := by decide +kernel
theorem dX12_init_224 : decode cX12_init 224 = .ok (.newarray .int, 2) := by decide +kernel
theorem dX12_init_226 : decode cX12_init 226 = .ok (.putfield 79, 3) := by decide +kernel
theorem dX12_init_229 : decode cX12_init 229 = .ok (.aload_n 0, 1) := by decide +kernel
theorem dX12_init_230 : decode cX12_init 230 = .ok (.iconst 2, 1) := by decide +kernel
theorem dX12_init_231 : decode cX12_init 231 = .ok (.newarray .boolean, 2) := by decide +kernel
theorem dX12_init_233 : decode cX12_init 233 = .ok (.putfield 82, 3) := by decide +kernel
theorem dX12_init_236 : decode cX12_init 236 = .ok (.aload_n 0, 1) := by decide +kernel
theorem dX12_init_237 : decode cX12_init 237 = .ok (.bipush 48, 2) := by decide +kernel
theorem dX12_init_239 : decode cX12_init 239 = .ok (.newarray .int, 2) := by decide +kernel
theorem dX12_init_241 : decode cX12_init 241 = .ok (.putfield 86, 3) := by decide +kernel
theorem dX12_init_244 : decode cX12_init 244 = .ok (.return_, 1) := by decide +kernel
theorem dX12_status_0 : decode cX12_status 0 = .ok (.aload_n 0, 1) := by decide +kernel
theorem dX12_status_1 : decode cX12_status 1 = .ok (.getfield 89, 3) := by decide +kernel
theorem dX12_status_4 : decode cX12_status 4 = .ok (.ireturn, 1) := by decide +kernel
theorem dX12_is_0 : decode cX12_is 0 = .ok (.aload_n 0, 1) := by decide +kernel
theorem dX12_is_1 : decode cX12_is 1 = .ok (.iload_n 1, 1) := by decide +kernel
theorem dX12_is_2 : decode cX12_is 2 = .ok (.putfield 89, 3) := by decide +kernel
theorem dX12_is_5 : decode cX12_is 5 = .ok (.iload_n 1, 1) := by decide +kernel
theorem dX12_is_6 : decode cX12_is 6 = .ok (.ifCond .ne 7, 3) := by decide +kernel
theorem dX12_is_9 : decode cX12_is 9 = .ok (.iconst 1, 1) := by decide +kernel
theorem dX12_is_10 : decode cX12_is 10 = .ok (.goto 4, 3) := by decide +kernel
theorem dX12_is_13 : decode cX12_is 13 = .ok (.iconst 0, 1) := by decide +kernel
theorem dX12_is_14 : decode cX12_is 14 = .ok (.ireturn, 1) := by decide +kernel
theorem dX12_refuse_0 : decode cX12_refuse 0 = .ok (.aload_n 0, 1) := by decide +kernel
theorem dX12_refuse_1 : decode cX12_refuse 1 = .ok (.iload_n 1, 1) := by decide +kernel
theorem dX12_refuse_2 : decode cX12_refuse 2 = .ok (.putfield 89, 3) := by decide +kernel
theorem dX12_refuse_5 : decode cX12_refuse 5 = .ok (.iconst (-1), 1) := by decide +kernel
theorem dX12_refuse_6 : decode cX12_refuse 6 = .ok (.ireturn, 1) := by decide +kernel
theorem dX12_places_0 : decode cX12_places 0 = .ok (.aload_n 0, 1) := by decide +kernel
theorem dX12_places_1 : decode cX12_places 1 = .ok (.getfield 7, 3) := by decide +kernel
theorem dX12_places_4 : decode cX12_places 4 = .ok (.iload_n 1, 1) := by decide +kernel
theorem dX12_places_5 : decode cX12_places 5 = .ok (.iaload, 1) := by decide +kernel
theorem dX12_places_6 : decode cX12_places 6 = .ok (.ifCond .ge 13, 3) := by decide +kernel
theorem dX12_places_9 : decode cX12_places 9 = .ok (.aload_n 0, 1) := by decide +kernel
theorem dX12_places_10 : decode cX12_places 10 = .ok (.getfield 7, 3) := by decide +kernel
theorem dX12_places_13 : decode cX12_places 13 = .ok (.iload_n 1, 1) := by decide +kernel
theorem dX12_places_14 : decode cX12_places 14 = .ok (.iaload, 1) := by decide +kernel
theorem dX12_places_15 : decode cX12_places 15 = .ok (.ineg, 1) := by decide +kernel
theorem dX12_places_16 : decode cX12_places 16 = .ok (.goto 9, 3) := by decide +kernel
theorem dX12_places_19 : decode cX12_places 19 = .ok (.aload_n 0, 1) := by decide +kernel
theorem dX12_places_20 : decode cX12_places 20 = .ok (.getfield 7, 3) := by decide +kernel
theorem dX12_places_23 : decode cX12_places 23 = .ok (.iload_n 1, 1) := by decide +kernel
theorem dX12_places_24 : decode cX12_places 24 = .ok (.iaload, 1) := by decide +kernel
theorem dX12_places_25 : decode cX12_places 25 = .ok (.ireturn, 1) := by decide +kernel
theorem dX12_sign_0 : decode cX12_sign 0 = .ok (.aload_n 0, 1) := by decide +kernel
theorem dX12_sign_1 : decode cX12_sign 1 = .ok (.getfield 7, 3) := by decide +kernel
theorem dX12_sign_4 : decode cX12_sign 4 = .ok (.iload_n 1, 1) := by decide +kernel
theorem dX12_sign_5 : decode cX12_sign 5 = .ok (.iaload, 1) := by decide +kernel
theorem dX12_sign_6 : decode cX12_sign 6 = .ok (.ifCond .le 7, 3) := by decide +kernel
theorem dX12_sign_9 : decode cX12_sign 9 = .ok (.iconst 1, 1) := by decide +kernel
theorem dX12_sign_10 : decode cX12_sign 10 = .ok (.goto 17, 3) := by decide +kernel
theorem dX12_sign_13 : decode cX12_sign 13 = .ok (.aload_n 0, 1) := by decide +kernel
theorem dX12_sign_14 : decode cX12_sign 14 = .ok (.getfield 7, 3) := by decide +kernel
theorem dX12_sign_17 : decode cX12_sign 17 = .ok (.iload_n 1, 1) := by decide +kernel
theorem dX12_sign_18 : decode cX12_sign 18 = .ok (.iaload, 1) := by decide +kernel
theorem dX12_sign_19 : decode cX12_sign 19 = .ok (.ifCond .ge 7, 3) := by decide +kernel
theorem dX12_sign_22 : decode cX12_sign 22 = .ok (.iconst (-1), 1) := by decide +kernel
theorem dX12_sign_23 : decode cX12_sign 23 = .ok (.goto 4, 3) := by decide +kernel
theorem dX12_sign_26 : decode cX12_sign 26 = .ok (.iconst 0, 1) := by decide +kernel
theorem dX12_sign_27 : decode cX12_sign 27 = .ok (.ireturn, 1) := by decide +kernel
theorem dX12_room_0 : decode cX12_room 0 = .ok (.aload_n 0, 1) := by decide +kernel
theorem dX12_room_1 : decode cX12_room 1 = .ok (.getfield 93, 3) := by decide +kernel
theorem dX12_room_4 : decode cX12_room 4 = .ok (.istore_n 2, 1) := by decide +kernel
theorem dX12_room_5 : decode cX12_room 5 = .ok (.aload_n 0, 1) := by decide +kernel
theorem dX12_room_6 : decode cX12_room 6 = .ok (.dup, 1) := by decide +kernel
theorem dX12_room_7 : decode cX12_room 7 = .ok (.getfield 93, 3) := by decide +kernel
theorem dX12_room_10 : decode cX12_room 10 = .ok (.iload_n 1, 1) := by decide +kernel
theorem dX12_room_11 : decode cX12_room 11 = .ok (.iconst 1, 1) := by decide +kernel
theorem dX12_room_12 : decode cX12_room 12 = .ok (.iadd, 1) := by decide +kernel
theorem dX12_room_13 : decode cX12_room 13 = .ok (.iadd, 1) := by decide +kernel
theorem dX12_room_14 : decode cX12_room 14 = .ok (.putfield 93, 3) := by decide +kernel
theorem dX12_room_17 : decode cX12_room 17 = .ok (.iload_n 2, 1) := by decide +kernel
theorem dX12_room_18 : decode cX12_room 18 = .ok (.ireturn, 1) := by decide +kernel
theorem dX12_done_0 : decode cX12_done 0 = .ok (.iload_n 2, 1) := by decide +kernel
theorem dX12_done_1 : decode cX12_done 1 = .ok (.istore 4, 2) := by decide +kernel
theorem dX12_done_3 : decode cX12_done 3 = .ok (.iload 4, 2) := by decide +kernel
theorem dX12_done_5 : decode cX12_done 5 = .ok (.ifCond .le 21, 3) := by decide +kernel
theorem dX12_done_8 : decode cX12_done 8 = .ok (.aload_n 0, 1) := by decide +kernel
theorem dX12_done_9 : decode cX12_done 9 = .ok (.getfield 7, 3) := by decide +kernel
theorem dX12_done_12 : decode cX12_done 12 = .ok (.iload_n 1, 1) := by decide +kernel
theorem dX12_done_13 : decode cX12_done 13 = .ok (.iload 4, 2) := by decide +kernel
theorem dX12_done_15 : decode cX12_done 15 = .ok (.iadd, 1) := by decide +kernel
theorem dX12_done_16 : decode cX12_done 16 = .ok (.iaload, 1) := by decide +kernel
theorem dX12_done_17 : decode cX12_done 17 = .ok (.ifCond .ne 9, 3) := by decide +kernel
theorem dX12_done_20 : decode cX12_done 20 = .ok (.iinc 4 (-1), 3) := by decide +kernel
theorem dX12_done_23 : decode cX12_done 23 = .ok (.goto (-20), 3) := by decide +kernel
theorem dX12_done_26 : decode cX12_done 26 = .ok (.aload_n 0, 1) := by decide +kernel
theorem dX12_done_27 : decode cX12_done 27 = .ok (.getfield 7, 3) := by decide +kernel
theorem dX12_done_30 : decode cX12_done 30 = .ok (.iload_n 1, 1) := by decide +kernel
theorem dX12_done_31 : decode cX12_done 31 = .ok (.iload_n 3, 1) := by decide +kernel
theorem dX12_done_32 : decode cX12_done 32 = .ok (.ifCond .eq 9, 3) := by decide +kernel
theorem dX12_done_35 : decode cX12_done 35 = .ok (.iload 4, 2) := by decide +kernel
theorem dX12_done_37 : decode cX12_done 37 = .ok (.ineg, 1) := by decide +kernel
theorem dX12_done_38 : decode cX12_done 38 = .ok (.goto 5, 3) := by decide +kernel
theorem dX12_done_41 : decode cX12_done 41 = .ok (.iload 4, 2) := by decide +kernel
theorem dX12_done_43 : decode cX12_done 43 = .ok (.iastore, 1) := by decide +kernel
theorem dX12_done_44 : decode cX12_done 44 = .ok (.aload_n 0, 1) := by decide +kernel
theorem dX12_done_45 : decode cX12_done 45 = .ok (.iload_n 1, 1) := by decide +kernel
theorem dX12_done_46 : decode cX12_done 46 = .ok (.iload 4, 2) := by decide +kernel
theorem dX12_done_48 : decode cX12_done 48 = .ok (.iadd, 1) := by decide +kernel
theorem dX12_done_49 : decode cX12_done 49 = .ok (.iconst 1, 1) := by decide +kernel
theorem dX12_done_50 : decode cX12_done 50 = .ok (.iadd, 1) := by decide +kernel
theorem dX12_done_51 : decode cX12_done 51 = .ok (.putfield 93, 3) := by decide +kernel
theorem dX12_done_54 : decode cX12_done 54 = .ok (.iload_n 1, 1) := by decide +kernel
theorem dX12_done_55 : decode cX12_done 55 = .ok (.ireturn, 1) := by decide +kernel
theorem dX12_whole_0 : decode cX12_whole 0 = .ok (.aload_n 0, 1) := by decide +kernel
theorem dX12_whole_1 : decode cX12_whole 1 = .ok (.iconst 3, 1) := by decide +kernel
theorem dX12_whole_2 : decode cX12_whole 2 = .ok (.invokevirtual 96, 3) := by decide +kernel
theorem dX12_whole_5 : decode cX12_whole 5 = .ok (.istore_n 3, 1) := by decide +kernel
theorem dX12_whole_6 : decode cX12_whole 6 = .ok (.lload_n 1, 1) := by decide +kernel
theorem dX12_whole_7 : decode cX12_whole 7 = .ok (.lconst 0, 1) := by decide +kernel
theorem dX12_whole_8 : decode cX12_whole 8 = .ok (.lcmp, 1) := by decide +kernel
theorem dX12_whole_9 : decode cX12_whole 9 = .ok (.ifCond .ge 8, 3) := by decide +kernel
theorem dX12_whole_12 : decode cX12_whole 12 = .ok (.lload_n 1, 1) := by decide +kernel
theorem dX12_whole_13 : decode cX12_whole 13 = .ok (.lneg, 1) := by decide +kernel
theorem dX12_whole_14 : decode cX12_whole 14 = .ok (.goto 4, 3) := by decide +kernel
theorem dX12_whole_17 : decode cX12_whole 17 = .ok (.lload_n 1, 1) := by decide +kernel
theorem dX12_whole_18 : decode cX12_whole 18 = .ok (.lstore 4, 2) := by decide +kernel
theorem dX12_whole_20 : decode cX12_whole 20 = .ok (.aload_n 0, 1) := by decide +kernel
theorem dX12_whole_21 : decode cX12_whole 21 = .ok (.getfield 7, 3) := by decide +kernel
theorem dX12_whole_24 : decode cX12_whole 24 = .ok (.iload_n 3, 1) := by decide +kernel
theorem dX12_whole_25 : decode cX12_whole 25 = .ok (.iconst 1, 1) := by decide +kernel
theorem dX12_whole_26 : decode cX12_whole 26 = .ok (.iadd, 1) := by decide +kernel
theorem dX12_whole_27 : decode cX12_whole 27 = .ok (.lload 4, 2) := by decide +kernel
theorem dX12_whole_29 : decode cX12_whole 29 = .ok (.ldc2_w 100, 3) := by decide +kernel
theorem dX12_whole_32 : decode cX12_whole 32 = .ok (.land, 1) := by decide +kernel
theorem dX12_whole_33 : decode cX12_whole 33 = .ok (.l2i, 1) := by decide +kernel
theorem dX12_whole_34 : decode cX12_whole 34 = .ok (.iastore, 1) := by decide +kernel
theorem dX12_whole_35 : decode cX12_whole 35 = .ok (.aload_n 0, 1) := by decide +kernel
theorem dX12_whole_36 : decode cX12_whole 36 = .ok (.getfield 7, 3) := by decide +kernel
theorem dX12_whole_39 : decode cX12_whole 39 = .ok (.iload_n 3, 1) := by decide +kernel
theorem dX12_whole_40 : decode cX12_whole 40 = .ok (.iconst 2, 1) := by decide +kernel
theorem dX12_whole_41 : decode cX12_whole 41 = .ok (.iadd, 1) := by decide +kernel
theorem dX12_whole_42 : decode cX12_whole 42 = .ok (.lload 4, 2) := by decide +kernel
theorem dX12_whole_44 : decode cX12_whole 44 = .ok (.bipush 30, 2) := by decide +kernel
theorem dX12_whole_46 : decode cX12_whole 46 = .ok (.lushr, 1) := by decide +kernel
theorem dX12_whole_47 : decode cX12_whole 47 = .ok (.ldc2_w 100, 3) := by decide +kernel
theorem dX12_whole_50 : decode cX12_whole 50 = .ok (.land, 1) := by decide +kernel
theorem dX12_whole_51 : decode cX12_whole 51 = .ok (.l2i, 1) := by decide +kernel
theorem dX12_whole_52 : decode cX12_whole 52 = .ok (.iastore, 1) := by decide +kernel
theorem dX12_whole_53 : decode cX12_whole 53 = .ok (.aload_n 0, 1) := by decide +kernel
theorem dX12_whole_54 : decode cX12_whole 54 = .ok (.getfield 7, 3) := by decide +kernel
theorem dX12_whole_57 : decode cX12_whole 57 = .ok (.iload_n 3, 1) := by decide +kernel
theorem dX12_whole_58 : decode cX12_whole 58 = .ok (.iconst 3, 1) := by decide +kernel
theorem dX12_whole_59 : decode cX12_whole 59 = .ok (.iadd, 1) := by decide +kernel
theorem dX12_whole_60 : decode cX12_whole 60 = .ok (.lload 4, 2) := by decide +kernel
theorem dX12_whole_62 : decode cX12_whole 62 = .ok (.bipush 60, 2) := by decide +kernel
theorem dX12_whole_64 : decode cX12_whole 64 = .ok (.lushr, 1) := by decide +kernel
theorem dX12_whole_65 : decode cX12_whole 65 = .ok (.l2i, 1) := by decide +kernel
theorem dX12_whole_66 : decode cX12_whole 66 = .ok (.iastore, 1) := by decide +kernel
theorem dX12_whole_67 : decode cX12_whole 67 = .ok (.aload_n 0, 1) := by decide +kernel
theorem dX12_whole_68 : decode cX12_whole 68 = .ok (.iload_n 3, 1) := by decide +kernel
theorem dX12_whole_69 : decode cX12_whole 69 = .ok (.iconst 3, 1) := by decide +kernel
theorem dX12_whole_70 : decode cX12_whole 70 = .ok (.lload_n 1, 1) := by decide +kernel
theorem dX12_whole_71 : decode cX12_whole 71 = .ok (.lconst 0, 1) := by decide +kernel
theorem dX12_whole_72 : decode cX12_whole 72 = .ok (.lcmp, 1) := by decide +kernel
theorem dX12_whole_73 : decode cX12_whole 73 = .ok (.ifCond .ge 7, 3) := by decide +kernel
theorem dX12_whole_76 : decode cX12_whole 76 = .ok (.iconst 1, 1) := by decide +kernel
theorem dX12_whole_77 : decode cX12_whole 77 = .ok (.goto 4, 3) := by decide +kernel
theorem dX12_whole_80 : decode cX12_whole 80 = .ok (.iconst 0, 1) := by decide +kernel
theorem dX12_whole_81 : decode cX12_whole 81 = .ok (.invokevirtual 102, 3) := by decide +kernel
theorem dX12_whole_84 : decode cX12_whole 84 = .ok (.ireturn, 1) := by decide +kernel
theorem dX12_copy_0 : decode cX12_copy 0 = .ok (.aload_n 0, 1) := by decide +kernel
theorem dX12_copy_1 : decode cX12_copy 1 = .ok (.iload_n 1, 1) := by decide +kernel
theorem dX12_copy_2 : decode cX12_copy 2 = .ok (.invokevirtual 106, 3) := by decide +kernel
theorem dX12_copy_5 : decode cX12_copy 5 = .ok (.istore_n 2, 1) := by decide +kernel
theorem dX12_copy_6 : decode cX12_copy 6 = .ok (.aload_n 0, 1) := by decide +kernel
theorem dX12_copy_7 : decode cX12_copy 7 = .ok (.iload_n 2, 1) := by decide +kernel
theorem dX12_copy_8 : decode cX12_copy 8 = .ok (.invokevirtual 96, 3) := by decide +kernel
theorem dX12_copy_11 : decode cX12_copy 11 = .ok (.istore_n 3, 1) := by decide +kernel
theorem dX12_copy_12 : decode cX12_copy 12 = .ok (.iconst 0, 1) := by decide +kernel
theorem dX12_copy_13 : decode cX12_copy 13 = .ok (.istore 4, 2) := by decide +kernel
theorem dX12_copy_15 : decode cX12_copy 15 = .ok (.iload 4, 2) := by decide +kernel
theorem dX12_copy_17 : decode cX12_copy 17 = .ok (.iload_n 2, 1) := by decide +kernel
theorem dX12_copy_18 : decode cX12_copy 18 = .ok (.if_icmp .gt 27, 3) := by decide +kernel
theorem dX12_copy_21 : decode cX12_copy 21 = .ok (.aload_n 0, 1) := by decide +kernel
theorem dX12_copy_22 : decode cX12_copy 22 = .ok (.getfield 7, 3) := by decide +kernel
theorem dX12_copy_25 : decode cX12_copy 25 = .ok (.iload_n 3, 1) := by decide +kernel
theorem dX12_copy_26 : decode cX12_copy 26 = .ok (.iload 4, 2) := by decide +kernel
theorem dX12_copy_28 : decode cX12_copy 28 = .ok (.iadd, 1) := by decide +kernel
theorem dX12_copy_29 : decode cX12_copy 29 = .ok (.aload_n 0, 1) := by decide +kernel
theorem dX12_copy_30 : decode cX12_copy 30 = .ok (.getfield 7, 3) := by decide +kernel
theorem dX12_copy_33 : decode cX12_copy 33 = .ok (.iload_n 1, 1) := by decide +kernel
theorem dX12_copy_34 : decode cX12_copy 34 = .ok (.iload 4, 2) := by decide +kernel
theorem dX12_copy_36 : decode cX12_copy 36 = .ok (.iadd, 1) := by decide +kernel
theorem dX12_copy_37 : decode cX12_copy 37 = .ok (.iaload, 1) := by decide +kernel
theorem dX12_copy_38 : decode cX12_copy 38 = .ok (.iastore, 1) := by decide +kernel
theorem dX12_copy_39 : decode cX12_copy 39 = .ok (.iinc 4 1, 3) := by decide +kernel
theorem dX12_copy_42 : decode cX12_copy 42 = .ok (.goto (-27), 3) := by decide +kernel
theorem dX12_copy_45 : decode cX12_copy 45 = .ok (.iload_n 3, 1) := by decide +kernel
theorem dX12_copy_46 : decode cX12_copy 46 = .ok (.ireturn, 1) := by decide +kernel
theorem dX12_turned_0 : decode cX12_turned 0 = .ok (.aload_n 0, 1) := by decide +kernel
theorem dX12_turned_1 : decode cX12_turned 1 = .ok (.iload_n 1, 1) := by decide +kernel
theorem dX12_turned_2 : decode cX12_turned 2 = .ok (.invokevirtual 109, 3) := by decide +kernel
theorem dX12_turned_5 : decode cX12_turned 5 = .ok (.istore_n 2, 1) := by decide +kernel
theorem dX12_turned_6 : decode cX12_turned 6 = .ok (.aload_n 0, 1) := by decide +kernel
theorem dX12_turned_7 : decode cX12_turned 7 = .ok (.getfield 7, 3) := by decide +kernel
theorem dX12_turned_10 : decode cX12_turned 10 = .ok (.iload_n 2, 1) := by decide +kernel
theorem dX12_turned_11 : decode cX12_turned 11 = .ok (.aload_n 0, 1) := by decide +kernel
theorem dX12_turned_12 : decode cX12_turned 12 = .ok (.getfield 7, 3) := by decide +kernel
theorem dX12_turned_15 : decode cX12_turned 15 = .ok (.iload_n 2, 1) := by decide +kernel
theorem dX12_turned_16 : decode cX12_turned 16 = .ok (.iaload, 1) := by decide +kernel
theorem dX12_turned_17 : decode cX12_turned 17 = .ok (.ineg, 1) := by decide +kernel
theorem dX12_turned_18 : decode cX12_turned 18 = .ok (.iastore, 1) := by decide +kernel
theorem dX12_turned_19 : decode cX12_turned 19 = .ok (.iload_n 2, 1) := by decide +kernel
theorem dX12_turned_20 : decode cX12_turned 20 = .ok (.ireturn, 1) := by decide +kernel
theorem dX12_compareSizes_0 : decode cX12_compareSizes 0 = .ok (.aload_n 0, 1) := by decide +kernel
theorem dX12_compareSizes_1 : decode cX12_compareSizes 1 = .ok (.iload_n 1, 1) := by decide +kernel
theorem dX12_compareSizes_2 : decode cX12_compareSizes 2 = .ok (.invokevirtual 106, 3) := by decide +kernel
theorem dX12_compareSizes_5 : decode cX12_compareSizes 5 = .ok (.istore_n 3, 1) := by decide +kernel
theorem dX12_compareSizes_6 : decode cX12_compareSizes 6 = .ok (.iload_n 3, 1) := by decide +kernel
theorem dX12_compareSizes_7 : decode cX12_compareSizes 7 = .ok (.aload_n 0, 1) := by decide +kernel
theorem dX12_compareSizes_8 : decode cX12_compareSizes 8 = .ok (.iload_n 2, 1) := by decide +kernel
theorem dX12_compareSizes_9 : decode cX12_compareSizes 9 = .ok (.invokevirtual 106, 3) := by decide +kernel
theorem dX12_compareSizes_12 : decode cX12_compareSizes 12 = .ok (.if_icmp .eq 18, 3) := by decide +kernel
theorem dX12_compareSizes_15 : decode cX12_compareSizes 15 = .ok (.iload_n 3, 1) := by decide +kernel
theorem dX12_compareSizes_16 : decode cX12_compareSizes 16 = .ok (.aload_n 0, 1) := by decide +kernel
theorem dX12_compareSizes_17 : decode cX12_compareSizes 17 = .ok (.iload_n 2, 1) := by decide +kernel
theorem dX12_compareSizes_18 : decode cX12_compareSizes 18 = .ok (.invokevirtual 106, 3) := by decide +kernel
theorem dX12_compareSizes_21 : decode cX12_compareSizes 21 = .ok (.if_icmp .le 7, 3) := by decide +kernel
theorem dX12_compareSizes_24 : decode cX12_compareSizes 24 = .ok (.iconst 1, 1) := by decide +kernel
theorem dX12_compareSizes_25 : decode cX12_compareSizes 25 = .ok (.goto 4, 3) := by decide +kernel
theorem dX12_compareSizes_28 : decode cX12_compareSizes 28 = .ok (.iconst (-1), 1) := by decide +kernel
theorem dX12_compareSizes_29 : decode cX12_compareSizes 29 = .ok (.ireturn, 1) := by decide +kernel
theorem dX12_compareSizes_30 : decode cX12_compareSizes 30 = .ok (.iload_n 3, 1) := by decide +kernel
theorem dX12_compareSizes_31 : decode cX12_compareSizes 31 = .ok (.istore 4, 2) := by decide +kernel
theorem dX12_compareSizes_33 : decode cX12_compareSizes 33 = .ok (.iload 4, 2) := by decide +kernel
theorem dX12_compareSizes_35 : decode cX12_compareSizes 35 = .ok (.ifCond .le 57, 3) := by decide +kernel
theorem dX12_compareSizes_38 : decode cX12_compareSizes 38 = .ok (.aload_n 0, 1) := by decide +kernel
theorem dX12_compareSizes_39 : decode cX12_compareSizes 39 = .ok (.getfield 7, 3) := by decide +kernel
theorem dX12_compareSizes_42 : decode cX12_compareSizes 42 = .ok (.iload_n 1, 1) := by decide +kernel
theorem dX12_compareSizes_43 : decode cX12_compareSizes 43 = .ok (.iload 4, 2) := by decide +kernel
theorem dX12_compareSizes_45 : decode cX12_compareSizes 45 = .ok (.iadd, 1) := by decide +kernel
theorem dX12_compareSizes_46 : decode cX12_compareSizes 46 = .ok (.iaload, 1) := by decide +kernel
theorem dX12_compareSizes_47 : decode cX12_compareSizes 47 = .ok (.aload_n 0, 1) := by decide +kernel
theorem dX12_compareSizes_48 : decode cX12_compareSizes 48 = .ok (.getfield 7, 3) := by decide +kernel
theorem dX12_compareSizes_51 : decode cX12_compareSizes 51 = .ok (.iload_n 2, 1) := by decide +kernel
theorem dX12_compareSizes_52 : decode cX12_compareSizes 52 = .ok (.iload 4, 2) := by decide +kernel
theorem dX12_compareSizes_54 : decode cX12_compareSizes 54 = .ok (.iadd, 1) := by decide +kernel
theorem dX12_compareSizes_55 : decode cX12_compareSizes 55 = .ok (.iaload, 1) := by decide +kernel
theorem dX12_compareSizes_56 : decode cX12_compareSizes 56 = .ok (.if_icmp .eq 30, 3) := by decide +kernel
theorem dX12_compareSizes_59 : decode cX12_compareSizes 59 = .ok (.aload_n 0, 1) := by decide +kernel
theorem dX12_compareSizes_60 : decode cX12_compareSizes 60 = .ok (.getfield 7, 3) := by decide +kernel
theorem dX12_compareSizes_63 : decode cX12_compareSizes 63 = .ok (.iload_n 1, 1) := by decide +kernel
theorem dX12_compareSizes_64 : decode cX12_compareSizes 64 = .ok (.iload 4, 2) := by decide +kernel
theorem dX12_compareSizes_66 : decode cX12_compareSizes 66 = .ok (.iadd, 1) := by decide +kernel
theorem dX12_compareSizes_67 : decode cX12_compareSizes 67 = .ok (.iaload, 1) := by decide +kernel
theorem dX12_compareSizes_68 : decode cX12_compareSizes 68 = .ok (.aload_n 0, 1) := by decide +kernel
theorem dX12_compareSizes_69 : decode cX12_compareSizes 69 = .ok (.getfield 7, 3) := by decide +kernel
theorem dX12_compareSizes_72 : decode cX12_compareSizes 72 = .ok (.iload_n 2, 1) := by decide +kernel
theorem dX12_compareSizes_73 : decode cX12_compareSizes 73 = .ok (.iload 4, 2) := by decide +kernel
theorem dX12_compareSizes_75 : decode cX12_compareSizes 75 = .ok (.iadd, 1) := by decide +kernel
theorem dX12_compareSizes_76 : decode cX12_compareSizes 76 = .ok (.iaload, 1) := by decide +kernel
theorem dX12_compareSizes_77 : decode cX12_compareSizes 77 = .ok (.if_icmp .le 7, 3) := by decide +kernel
theorem dX12_compareSizes_80 : decode cX12_compareSizes 80 = .ok (.iconst 1, 1) := by decide +kernel
theorem dX12_compareSizes_81 : decode cX12_compareSizes 81 = .ok (.goto 4, 3) := by decide +kernel
theorem dX12_compareSizes_84 : decode cX12_compareSizes 84 = .ok (.iconst (-1), 1) := by decide +kernel
theorem dX12_compareSizes_85 : decode cX12_compareSizes 85 = .ok (.ireturn, 1) := by decide +kernel
theorem dX12_compareSizes_86 : decode cX12_compareSizes 86 = .ok (.iinc 4 (-1), 3) := by decide +kernel
theorem dX12_compareSizes_89 : decode cX12_compareSizes 89 = .ok (.goto (-56), 3) := by decide +kernel
theorem dX12_compareSizes_92 : decode cX12_compareSizes 92 = .ok (.iconst 0, 1) := by decide +kernel
theorem dX12_compareSizes_93 : decode cX12_compareSizes 93 = .ok (.ireturn, 1) := by decide +kernel
theorem dX12_sum_0 : decode cX12_sum 0 = .ok (.aload_n 0, 1) := by decide +kernel
theorem dX12_sum_1 : decode cX12_sum 1 = .ok (.iload_n 1, 1) := by decide +kernel
theorem dX12_sum_2 : decode cX12_sum 2 = .ok (.invokevirtual 112, 3) := by decide +kernel
theorem dX12_sum_5 : decode cX12_sum 5 = .ok (.ifCond .ne 9, 3) := by decide +kernel
theorem dX12_sum_8 : decode cX12_sum 8 = .ok (.aload_n 0, 1) := by decide +kernel
theorem dX12_sum_9 : decode cX12_sum 9 = .ok (.iload_n 2, 1) := by decide +kernel
theorem dX12_sum_10 : decode cX12_sum 10 = .ok (.invokevirtual 109, 3) := by decide +kernel
theorem dX12_sum_13 : decode cX12_sum 13 = .ok (.ireturn, 1) := by decide +kernel
theorem dX12_sum_14 : decode cX12_sum 14 = .ok (.aload_n 0, 1) := by decide +kernel
theorem dX12_sum_15 : decode cX12_sum 15 = .ok (.iload_n 2, 1) := by decide +kernel
theorem dX12_sum_16 : decode cX12_sum 16 = .ok (.invokevirtual 112, 3) := by decide +kernel
theorem dX12_sum_19 : decode cX12_sum 19 = .ok (.ifCond .ne 9, 3) := by decide +kernel
theorem dX12_sum_22 : decode cX12_sum 22 = .ok (.aload_n 0, 1) := by decide +kernel
theorem dX12_sum_23 : decode cX12_sum 23 = .ok (.iload_n 1, 1) := by decide +kernel
theorem dX12_sum_24 : decode cX12_sum 24 = .ok (.invokevirtual 109, 3) := by decide +kernel
theorem dX12_sum_27 : decode cX12_sum 27 = .ok (.ireturn, 1) := by decide +kernel
theorem dX12_sum_28 : decode cX12_sum 28 = .ok (.aload_n 0, 1) := by decide +kernel
theorem dX12_sum_29 : decode cX12_sum 29 = .ok (.iload_n 1, 1) := by decide +kernel
theorem dX12_sum_30 : decode cX12_sum 30 = .ok (.invokevirtual 112, 3) := by decide +kernel
theorem dX12_sum_33 : decode cX12_sum 33 = .ok (.aload_n 0, 1) := by decide +kernel
theorem dX12_sum_34 : decode cX12_sum 34 = .ok (.iload_n 2, 1) := by decide +kernel
theorem dX12_sum_35 : decode cX12_sum 35 = .ok (.invokevirtual 112, 3) := by decide +kernel
theorem dX12_sum_38 : decode cX12_sum 38 = .ok (.if_icmp .ne 139, 3) := by decide +kernel
theorem dX12_sum_41 : decode cX12_sum 41 = .ok (.aload_n 0, 1) := by decide +kernel
theorem dX12_sum_42 : decode cX12_sum 42 = .ok (.iload_n 1, 1) := by decide +kernel
theorem dX12_sum_43 : decode cX12_sum 43 = .ok (.invokevirtual 106, 3) := by decide +kernel
theorem dX12_sum_46 : decode cX12_sum 46 = .ok (.aload_n 0, 1) := by decide +kernel
theorem dX12_sum_47 : decode cX12_sum 47 = .ok (.iload_n 2, 1) := by decide +kernel
theorem dX12_sum_48 : decode cX12_sum 48 = .ok (.invokevirtual 106, 3) := by decide +kernel
theorem dX12_sum_51 : decode cX12_sum 51 = .ok (.invokestatic 115, 3) := by decide +kernel
theorem dX12_sum_54 : decode cX12_sum 54 = .ok (.iconst 1, 1) := by decide +kernel
theorem dX12_sum_55 : decode cX12_sum 55 = .ok (.iadd, 1) := by decide +kernel
theorem dX12_sum_56 : decode cX12_sum 56 = .ok (.istore_n 3, 1) := by decide +kernel
theorem dX12_sum_57 : decode cX12_sum 57 = .ok (.aload_n 0, 1) := by decide +kernel
theorem dX12_sum_58 : decode cX12_sum 58 = .ok (.iload_n 3, 1) := by decide +kernel
theorem dX12_sum_59 : decode cX12_sum 59 = .ok (.invokevirtual 96, 3) := by decide +kernel
theorem dX12_sum_62 : decode cX12_sum 62 = .ok (.istore 4, 2) := by decide +kernel
theorem dX12_sum_64 : decode cX12_sum 64 = .ok (.iconst 0, 1) := by decide +kernel
theorem dX12_sum_65 : decode cX12_sum 65 = .ok (.istore 5, 2) := by decide +kernel
theorem dX12_sum_67 : decode cX12_sum 67 = .ok (.iconst 1, 1) := by decide +kernel
theorem dX12_sum_68 : decode cX12_sum 68 = .ok (.istore 6, 2) := by decide +kernel
theorem dX12_sum_70 : decode cX12_sum 70 = .ok (.iload 6, 2) := by decide +kernel
theorem dX12_sum_72 : decode cX12_sum 72 = .ok (.iload_n 3, 1) := by decide +kernel
theorem dX12_sum_73 : decode cX12_sum 73 = .ok (.if_icmp .gt 83, 3) := by decide +kernel
theorem dX12_sum_76 : decode cX12_sum 76 = .ok (.iload 5, 2) := by decide +kernel
theorem dX12_sum_78 : decode cX12_sum 78 = .ok (.iload 6, 2) := by decide +kernel
theorem dX12_sum_80 : decode cX12_sum 80 = .ok (.aload_n 0, 1) := by decide +kernel
theorem dX12_sum_81 : decode cX12_sum 81 = .ok (.iload_n 1, 1) := by decide +kernel
theorem dX12_sum_82 : decode cX12_sum 82 = .ok (.invokevirtual 106, 3) := by decide +kernel
theorem dX12_sum_85 : decode cX12_sum 85 = .ok (.if_icmp .gt 15, 3) := by decide +kernel
theorem dX12_sum_88 : decode cX12_sum 88 = .ok (.aload_n 0, 1) := by decide +kernel
theorem dX12_sum_89 : decode cX12_sum 89 = .ok (.getfield 7, 3) := by decide +kernel
theorem dX12_sum_92 : decode cX12_sum 92 = .ok (.iload_n 1, 1) := by decide +kernel
theorem dX12_sum_93 : decode cX12_sum 93 = .ok (.iload 6, 2) := by decide +kernel
theorem dX12_sum_95 : decode cX12_sum 95 = .ok (.iadd, 1) := by decide +kernel
theorem dX12_sum_96 : decode cX12_sum 96 = .ok (.iaload, 1) := by decide +kernel
theorem dX12_sum_97 : decode cX12_sum 97 = .ok (.goto 4, 3) := by decide +kernel
theorem dX12_sum_100 : decode cX12_sum 100 = .ok (.iconst 0, 1) := by decide +kernel
theorem dX12_sum_101 : decode cX12_sum 101 = .ok (.iadd, 1) := by decide +kernel
theorem dX12_sum_102 : decode cX12_sum 102 = .ok (.iload 6, 2) := by decide +kernel
theorem dX12_sum_104 : decode cX12_sum 104 = .ok (.aload_n 0, 1) := by decide +kernel
theorem dX12_sum_105 : decode cX12_sum 105 = .ok (.iload_n 2, 1) := by decide +kernel
theorem dX12_sum_106 : decode cX12_sum 106 = .ok (.invokevirtual 106, 3) := by decide +kernel
theorem dX12_sum_109 : decode cX12_sum 109 = .ok (.if_icmp .gt 15, 3) := by decide +kernel
theorem dX12_sum_112 : decode cX12_sum 112 = .ok (.aload_n 0, 1) := by decide +kernel
theorem dX12_sum_113 : decode cX12_sum 113 = .ok (.getfield 7, 3) := by decide +kernel
theorem dX12_sum_116 : decode cX12_sum 116 = .ok (.iload_n 2, 1) := by decide +kernel
theorem dX12_sum_117 : decode cX12_sum 117 = .ok (.iload 6, 2) := by decide +kernel
theorem dX12_sum_119 : decode cX12_sum 119 = .ok (.iadd, 1) := by decide +kernel
theorem dX12_sum_120 : decode cX12_sum 120 = .ok (.iaload, 1) := by decide +kernel
theorem dX12_sum_121 : decode cX12_sum 121 = .ok (.goto 4, 3) := by decide +kernel
theorem dX12_sum_124 : decode cX12_sum 124 = .ok (.iconst 0, 1) := by decide +kernel
theorem dX12_sum_125 : decode cX12_sum 125 = .ok (.iadd, 1) := by decide +kernel
theorem dX12_sum_126 : decode cX12_sum 126 = .ok (.istore 7, 2) := by decide +kernel
theorem dX12_sum_128 : decode cX12_sum 128 = .ok (.aload_n 0, 1) := by decide +kernel
theorem dX12_sum_129 : decode cX12_sum 129 = .ok (.getfield 7, 3) := by decide +kernel
theorem dX12_sum_132 : decode cX12_sum 132 = .ok (.iload 4, 2) := by decide +kernel
theorem dX12_sum_134 : decode cX12_sum 134 = .ok (.iload 6, 2) := by decide +kernel
theorem dX12_sum_136 : decode cX12_sum 136 = .ok (.iadd, 1) := by decide +kernel
theorem dX12_sum_137 : decode cX12_sum 137 = .ok (.iload 7, 2) := by decide +kernel
theorem dX12_sum_139 : decode cX12_sum 139 = .ok (.ldc 121, 2) := by decide +kernel
theorem dX12_sum_141 : decode cX12_sum 141 = .ok (.iand, 1) := by decide +kernel
theorem dX12_sum_142 : decode cX12_sum 142 = .ok (.iastore, 1) := by decide +kernel
theorem dX12_sum_143 : decode cX12_sum 143 = .ok (.iload 7, 2) := by decide +kernel
theorem dX12_sum_145 : decode cX12_sum 145 = .ok (.bipush 30, 2) := by decide +kernel
theorem dX12_sum_147 : decode cX12_sum 147 = .ok (.iushr, 1) := by decide +kernel
theorem dX12_sum_148 : decode cX12_sum 148 = .ok (.istore 5, 2) := by decide +kernel
theorem dX12_sum_150 : decode cX12_sum 150 = .ok (.iinc 6 1, 3) := by decide +kernel
theorem dX12_sum_153 : decode cX12_sum 153 = .ok (.goto (-83), 3) := by decide +kernel
theorem dX12_sum_156 : decode cX12_sum 156 = .ok (.aload_n 0, 1) := by decide +kernel
theorem dX12_sum_157 : decode cX12_sum 157 = .ok (.iload 4, 2) := by decide +kernel
theorem dX12_sum_159 : decode cX12_sum 159 = .ok (.iload_n 3, 1) := by decide +kernel
theorem dX12_sum_160 : decode cX12_sum 160 = .ok (.aload_n 0, 1) := by decide +kernel
theorem dX12_sum_161 : decode cX12_sum 161 = .ok (.iload_n 1, 1) := by decide +kernel
theorem dX12_sum_162 : decode cX12_sum 162 = .ok (.invokevirtual 112, 3) := by decide +kernel
theorem dX12_sum_165 : decode cX12_sum 165 = .ok (.ifCond .ge 7, 3) := by decide +kernel
theorem dX12_sum_168 : decode cX12_sum 168 = .ok (.iconst 1, 1) := by decide +kernel
theorem dX12_sum_169 : decode cX12_sum 169 = .ok (.goto 4, 3) := by decide +kernel
theorem dX12_sum_172 : decode cX12_sum 172 = .ok (.iconst 0, 1) := by decide +kernel
theorem dX12_sum_173 : decode cX12_sum 173 = .ok (.invokevirtual 102, 3) := by decide +kernel
theorem dX12_sum_176 : decode cX12_sum 176 = .ok (.ireturn, 1) := by decide +kernel
theorem dX12_sum_177 : decode cX12_sum 177 = .ok (.aload_n 0, 1) := by decide +kernel
theorem dX12_sum_178 : decode cX12_sum 178 = .ok (.iload_n 1, 1) := by decide +kernel
theorem dX12_sum_179 : decode cX12_sum 179 = .ok (.iload_n 2, 1) := by decide +kernel
theorem dX12_sum_180 : decode cX12_sum 180 = .ok (.invokevirtual 122, 3) := by decide +kernel
theorem dX12_sum_183 : decode cX12_sum 183 = .ok (.istore_n 3, 1) := by decide +kernel
theorem dX12_sum_184 : decode cX12_sum 184 = .ok (.iload_n 3, 1) := by decide +kernel
theorem dX12_sum_185 : decode cX12_sum 185 = .ok (.ifCond .ne 9, 3) := by decide +kernel
theorem dX12_sum_188 : decode cX12_sum 188 = .ok (.aload_n 0, 1) := by decide +kernel
theorem dX12_sum_189 : decode cX12_sum 189 = .ok (.lconst 0, 1) := by decide +kernel
theorem dX12_sum_190 : decode cX12_sum 190 = .ok (.invokevirtual 125, 3) := by decide +kernel
theorem dX12_sum_193 : decode cX12_sum 193 = .ok (.ireturn, 1) := by decide +kernel
theorem dX12_sum_194 : decode cX12_sum 194 = .ok (.iload_n 3, 1) := by decide +kernel
theorem dX12_sum_195 : decode cX12_sum 195 = .ok (.ifCond .le 7, 3) := by decide +kernel
theorem dX12_sum_198 : decode cX12_sum 198 = .ok (.iload_n 1, 1) := by decide +kernel
theorem dX12_sum_199 : decode cX12_sum 199 = .ok (.goto 4, 3) := by decide +kernel
theorem dX12_sum_202 : decode cX12_sum 202 = .ok (.iload_n 2, 1) := by decide +kernel
theorem dX12_sum_203 : decode cX12_sum 203 = .ok (.istore 4, 2) := by decide +kernel
theorem dX12_sum_205 : decode cX12_sum 205 = .ok (.iload_n 3, 1) := by decide +kernel
theorem dX12_sum_206 : decode cX12_sum 206 = .ok (.ifCond .le 7, 3) := by decide +kernel
theorem dX12_sum_209 : decode cX12_sum 209 = .ok (.iload_n 2, 1) := by decide +kernel
theorem dX12_sum_210 : decode cX12_sum 210 = .ok (.goto 4, 3) := by decide +kernel
theorem dX12_sum_213 : decode cX12_sum 213 = .ok (.iload_n 1, 1) := by decide +kernel
theorem dX12_sum_214 : decode cX12_sum 214 = .ok (.istore 5, 2) := by decide +kernel
theorem dX12_sum_216 : decode cX12_sum 216 = .ok (.aload_n 0, 1) := by decide +kernel
theorem dX12_sum_217 : decode cX12_sum 217 = .ok (.iload 4, 2) := by decide +kernel
theorem dX12_sum_219 : decode cX12_sum 219 = .ok (.invokevirtual 106, 3) := by decide +kernel
theorem dX12_sum_222 : decode cX12_sum 222 = .ok (.istore 6, 2) := by decide +kernel
theorem dX12_sum_224 : decode cX12_sum 224 = .ok (.aload_n 0, 1) := by decide +kernel
theorem dX12_sum_225 : decode cX12_sum 225 = .ok (.iload 6, 2) := by decide +kernel
theorem dX12_sum_227 : decode cX12_sum 227 = .ok (.invokevirtual 96, 3) := by decide +kernel
theorem dX12_sum_230 : decode cX12_sum 230 = .ok (.istore 7, 2) := by decide +kernel
theorem dX12_sum_232 : decode cX12_sum 232 = .ok (.iconst 0, 1) := by decide +kernel
theorem dX12_sum_233 : decode cX12_sum 233 = .ok (.istore 8, 2) := by decide +kernel
theorem dX12_sum_235 : decode cX12_sum 235 = .ok (.iconst 1, 1) := by decide +kernel
theorem dX12_sum_236 : decode cX12_sum 236 = .ok (.istore 9, 2) := by decide +kernel
theorem dX12_sum_238 : decode cX12_sum 238 = .ok (.iload 9, 2) := by decide +kernel
theorem dX12_sum_240 : decode cX12_sum 240 = .ok (.iload 6, 2) := by decide +kernel
theorem dX12_sum_242 : decode cX12_sum 242 = .ok (.if_icmp .gt 77, 3) := by decide +kernel
theorem dX12_sum_245 : decode cX12_sum 245 = .ok (.aload_n 0, 1) := by decide +kernel
theorem dX12_sum_246 : decode cX12_sum 246 = .ok (.getfield 7, 3) := by decide +kernel
theorem dX12_sum_249 : decode cX12_sum 249 = .ok (.iload 4, 2) := by decide +kernel
theorem dX12_sum_251 : decode cX12_sum 251 = .ok (.iload 9, 2) := by decide +kernel
theorem dX12_sum_253 : decode cX12_sum 253 = .ok (.iadd, 1) := by decide +kernel
theorem dX12_sum_254 : decode cX12_sum 254 = .ok (.iaload, 1) := by decide +kernel
theorem dX12_sum_255 : decode cX12_sum 255 = .ok (.iload 8, 2) := by decide +kernel
theorem dX12_sum_257 : decode cX12_sum 257 = .ok (.isub, 1) := by decide +kernel
theorem dX12_sum_258 : decode cX12_sum 258 = .ok (.iload 9, 2) := by decide +kernel
theorem dX12_sum_260 : decode cX12_sum 260 = .ok (.aload_n 0, 1) := by decide +kernel
theorem dX12_sum_261 : decode cX12_sum 261 = .ok (.iload 5, 2) := by decide +kernel
theorem dX12_sum_263 : decode cX12_sum 263 = .ok (.invokevirtual 106, 3) := by decide +kernel
theorem dX12_sum_266 : decode cX12_sum 266 = .ok (.if_icmp .gt 16, 3) := by decide +kernel
theorem dX12_sum_269 : decode cX12_sum 269 = .ok (.aload_n 0, 1) := by decide +kernel
theorem dX12_sum_270 : decode cX12_sum 270 = .ok (.getfield 7, 3) := by decide +kernel
theorem dX12_sum_273 : decode cX12_sum 273 = .ok (.iload 5, 2) := by decide +kernel
theorem dX12_sum_275 : decode cX12_sum 275 = .ok (.iload 9, 2) := by decide +kernel
theorem dX12_sum_277 : decode cX12_sum 277 = .ok (.iadd, 1) := by decide +kernel
theorem dX12_sum_278 : decode cX12_sum 278 = .ok (.iaload, 1) := by decide +kernel
theorem dX12_sum_279 : decode cX12_sum 279 = .ok (.goto 4, 3) := by decide +kernel
theorem dX12_sum_282 : decode cX12_sum 282 = .ok (.iconst 0, 1) := by decide +kernel
theorem dX12_sum_283 : decode cX12_sum 283 = .ok (.isub, 1) := by decide +kernel
theorem dX12_sum_284 : decode cX12_sum 284 = .ok (.istore 10, 2) := by decide +kernel
theorem dX12_sum_286 : decode cX12_sum 286 = .ok (.iload 10, 2) := by decide +kernel
theorem dX12_sum_288 : decode cX12_sum 288 = .ok (.ifCond .ge 7, 3) := by decide +kernel
theorem dX12_sum_291 : decode cX12_sum 291 = .ok (.iconst 1, 1) := by decide +kernel
theorem dX12_sum_292 : decode cX12_sum 292 = .ok (.goto 4, 3) := by decide +kernel
theorem dX12_sum_295 : decode cX12_sum 295 = .ok (.iconst 0, 1) := by decide +kernel
theorem dX12_sum_296 : decode cX12_sum 296 = .ok (.istore 8, 2) := by decide +kernel
theorem dX12_sum_298 : decode cX12_sum 298 = .ok (.aload_n 0, 1) := by decide +kernel
theorem dX12_sum_299 : decode cX12_sum 299 = .ok (.getfield 7, 3) := by decide +kernel
theorem dX12_sum_302 : decode cX12_sum 302 = .ok (.iload 7, 2) := by decide +kernel
theorem dX12_sum_304 : decode cX12_sum 304 = .ok (.iload 9, 2) := by decide +kernel
theorem dX12_sum_306 : decode cX12_sum 306 = .ok (.iadd, 1) := by decide +kernel
theorem dX12_sum_307 : decode cX12_sum 307 = .ok (.iload 10, 2) := by decide +kernel
theorem dX12_sum_309 : decode cX12_sum 309 = .ok (.ldc 121, 2) := by decide +kernel
theorem dX12_sum_311 : decode cX12_sum 311 = .ok (.iand, 1) := by decide +kernel
theorem dX12_sum_312 : decode cX12_sum 312 = .ok (.iastore, 1) := by decide +kernel
theorem dX12_sum_313 : decode cX12_sum 313 = .ok (.iinc 9 1, 3) := by decide +kernel
theorem dX12_sum_316 : decode cX12_sum 316 = .ok (.goto (-78), 3) := by decide +kernel
theorem dX12_sum_319 : decode cX12_sum 319 = .ok (.aload_n 0, 1) := by decide +kernel
theorem dX12_sum_320 : decode cX12_sum 320 = .ok (.iload 7, 2) := by decide +kernel
theorem dX12_sum_322 : decode cX12_sum 322 = .ok (.iload 6, 2) := by decide +kernel
theorem dX12_sum_324 : decode cX12_sum 324 = .ok (.aload_n 0, 1) := by decide +kernel
theorem dX12_sum_325 : decode cX12_sum 325 = .ok (.iload 4, 2) := by decide +kernel
theorem dX12_sum_327 : decode cX12_sum 327 = .ok (.invokevirtual 112, 3) := by decide +kernel
theorem dX12_sum_330 : decode cX12_sum 330 = .ok (.ifCond .ge 7, 3) := by decide +kernel
theorem dX12_sum_333 : decode cX12_sum 333 = .ok (.iconst 1, 1) := by decide +kernel
theorem dX12_sum_334 : decode cX12_sum 334 = .ok (.goto 4, 3) := by decide +kernel
theorem dX12_sum_337 : decode cX12_sum 337 = .ok (.iconst 0, 1) := by decide +kernel
theorem dX12_sum_338 : decode cX12_sum 338 = .ok (.invokevirtual 102, 3) := by decide +kernel
theorem dX12_sum_341 : decode cX12_sum 341 = .ok (.ireturn, 1) := by decide +kernel
theorem dX12_less_0 : decode cX12_less 0 = .ok (.aload_n 0, 1) := by decide +kernel
theorem dX12_less_1 : decode cX12_less 1 = .ok (.iload_n 1, 1) := by decide +kernel
theorem dX12_less_2 : decode cX12_less 2 = .ok (.aload_n 0, 1) := by decide +kernel
theorem dX12_less_3 : decode cX12_less 3 = .ok (.iload_n 2, 1) := by decide +kernel
theorem dX12_less_4 : decode cX12_less 4 = .ok (.invokevirtual 129, 3) := by decide +kernel
theorem dX12_less_7 : decode cX12_less 7 = .ok (.invokevirtual 132, 3) := by decide +kernel
theorem dX12_less_10 : decode cX12_less 10 = .ok (.ireturn, 1) := by decide +kernel
theorem dX12_product_0 : decode cX12_product 0 = .ok (.aload_n 0, 1) := by decide +kernel
theorem dX12_product_1 : decode cX12_product 1 = .ok (.iload_n 1, 1) := by decide +kernel
theorem dX12_product_2 : decode cX12_product 2 = .ok (.invokevirtual 112, 3) := by decide +kernel
theorem dX12_product_5 : decode cX12_product 5 = .ok (.ifCond .eq 11, 3) := by decide +kernel
theorem dX12_product_8 : decode cX12_product 8 = .ok (.aload_n 0, 1) := by decide +kernel
theorem dX12_product_9 : decode cX12_product 9 = .ok (.iload_n 2, 1) := by decide +kernel
theorem dX12_product_10 : decode cX12_product 10 = .ok (.invokevirtual 112, 3) := by decide +kernel
theorem dX12_product_13 : decode cX12_product 13 = .ok (.ifCond .ne 9, 3) := by decide +kernel
theorem dX12_product_16 : decode cX12_product 16 = .ok (.aload_n 0, 1) := by decide +kernel
theorem dX12_product_17 : decode cX12_product 17 = .ok (.lconst 0, 1) := by decide +kernel
theorem dX12_product_18 : decode cX12_product 18 = .ok (.invokevirtual 125, 3) := by decide +kernel
theorem dX12_product_21 : decode cX12_product 21 = .ok (.ireturn, 1) := by decide +kernel
theorem dX12_product_22 : decode cX12_product 22 = .ok (.aload_n 0, 1) := by decide +kernel
theorem dX12_product_23 : decode cX12_product 23 = .ok (.iload_n 1, 1) := by decide +kernel
theorem dX12_product_24 : decode cX12_product 24 = .ok (.invokevirtual 106, 3) := by decide +kernel
theorem dX12_product_27 : decode cX12_product 27 = .ok (.istore_n 3, 1) := by decide +kernel
theorem dX12_product_28 : decode cX12_product 28 = .ok (.aload_n 0, 1) := by decide +kernel
theorem dX12_product_29 : decode cX12_product 29 = .ok (.iload_n 2, 1) := by decide +kernel
theorem dX12_product_30 : decode cX12_product 30 = .ok (.invokevirtual 106, 3) := by decide +kernel
theorem dX12_product_33 : decode cX12_product 33 = .ok (.istore 4, 2) := by decide +kernel
theorem dX12_product_35 : decode cX12_product 35 = .ok (.aload_n 0, 1) := by decide +kernel
theorem dX12_product_36 : decode cX12_product 36 = .ok (.iload_n 3, 1) := by decide +kernel
theorem dX12_product_37 : decode cX12_product 37 = .ok (.iload 4, 2) := by decide +kernel
theorem dX12_product_39 : decode cX12_product 39 = .ok (.iadd, 1) := by decide +kernel
theorem dX12_product_40 : decode cX12_product 40 = .ok (.invokevirtual 96, 3) := by decide +kernel
theorem dX12_product_43 : decode cX12_product 43 = .ok (.istore 5, 2) := by decide +kernel
theorem dX12_product_45 : decode cX12_product 45 = .ok (.iconst 1, 1) := by decide +kernel
theorem dX12_product_46 : decode cX12_product 46 = .ok (.istore 6, 2) := by decide +kernel
theorem dX12_product_48 : decode cX12_product 48 = .ok (.iload 6, 2) := by decide +kernel
theorem dX12_product_50 : decode cX12_product 50 = .ok (.iload_n 3, 1) := by decide +kernel
theorem dX12_product_51 : decode cX12_product 51 = .ok (.iload 4, 2) := by decide +kernel
theorem dX12_product_53 : decode cX12_product 53 = .ok (.iadd, 1) := by decide +kernel
theorem dX12_product_54 : decode cX12_product 54 = .ok (.if_icmp .gt 20, 3) := by decide +kernel
theorem dX12_product_57 : decode cX12_product 57 = .ok (.aload_n 0, 1) := by decide +kernel
theorem dX12_product_58 : decode cX12_product 58 = .ok (.getfield 7, 3) := by decide +kernel
theorem dX12_product_61 : decode cX12_product 61 = .ok (.iload 5, 2) := by decide +kernel
theorem dX12_product_63 : decode cX12_product 63 = .ok (.iload 6, 2) := by decide +kernel
theorem dX12_product_65 : decode cX12_product 65 = .ok (.iadd, 1) := by decide +kernel
theorem dX12_product_66 : decode cX12_product 66 = .ok (.iconst 0, 1) := by decide +kernel
theorem dX12_product_67 : decode cX12_product 67 = .ok (.iastore, 1) := by decide +kernel
theorem dX12_product_68 : decode cX12_product 68 = .ok (.iinc 6 1, 3) := by decide +kernel
theorem dX12_product_71 : decode cX12_product 71 = .ok (.goto (-23), 3) := by decide +kernel
theorem dX12_product_74 : decode cX12_product 74 = .ok (.iconst 1, 1) := by decide +kernel
theorem dX12_product_75 : decode cX12_product 75 = .ok (.istore 6, 2) := by decide +kernel
theorem dX12_product_77 : decode cX12_product 77 = .ok (.iload 6, 2) := by decide +kernel
theorem dX12_product_79 : decode cX12_product 79 = .ok (.iload_n 3, 1) := by decide +kernel
theorem dX12_product_80 : decode cX12_product 80 = .ok (.if_icmp .gt 120, 3) := by decide +kernel
theorem dX12_product_83 : decode cX12_product 83 = .ok (.lconst 0, 1) := by decide +kernel
theorem dX12_product_84 : decode cX12_product 84 = .ok (.lstore 7, 2) := by decide +kernel
theorem dX12_product_86 : decode cX12_product 86 = .ok (.aload_n 0, 1) := by decide +kernel
theorem dX12_product_87 : decode cX12_product 87 = .ok (.getfield 7, 3) := by decide +kernel
theorem dX12_product_90 : decode cX12_product 90 = .ok (.iload_n 1, 1) := by decide +kernel
theorem dX12_product_91 : decode cX12_product 91 = .ok (.iload 6, 2) := by decide +kernel
theorem dX12_product_93 : decode cX12_product 93 = .ok (.iadd, 1) := by decide +kernel
theorem dX12_product_94 : decode cX12_product 94 = .ok (.iaload, 1) := by decide +kernel
theorem dX12_product_95 : decode cX12_product 95 = .ok (.i2l, 1) := by decide +kernel
theorem dX12_product_96 : decode cX12_product 96 = .ok (.lstore 9, 2) := by decide +kernel
theorem dX12_product_98 : decode cX12_product 98 = .ok (.iconst 1, 1) := by decide +kernel
theorem dX12_product_99 : decode cX12_product 99 = .ok (.istore 11, 2) := by decide +kernel
theorem dX12_product_101 : decode cX12_product 101 = .ok (.iload 11, 2) := by decide +kernel
theorem dX12_product_103 : decode cX12_product 103 = .ok (.iload 4, 2) := by decide +kernel
theorem dX12_product_105 : decode cX12_product 105 = .ok (.if_icmp .gt 73, 3) := by decide +kernel
theorem dX12_product_108 : decode cX12_product 108 = .ok (.lload 7, 2) := by decide +kernel
theorem dX12_product_110 : decode cX12_product 110 = .ok (.lload 9, 2) := by decide +kernel
theorem dX12_product_112 : decode cX12_product 112 = .ok (.aload_n 0, 1) := by decide +kernel
theorem dX12_product_113 : decode cX12_product 113 = .ok (.getfield 7, 3) := by decide +kernel
theorem dX12_product_116 : decode cX12_product 116 = .ok (.iload_n 2, 1) := by decide +kernel
theorem dX12_product_117 : decode cX12_product 117 = .ok (.iload 11, 2) := by decide +kernel
theorem dX12_product_119 : decode cX12_product 119 = .ok (.iadd, 1) := by decide +kernel
theorem dX12_product_120 : decode cX12_product 120 = .ok (.iaload, 1) := by decide +kernel
theorem dX12_product_121 : decode cX12_product 121 = .ok (.i2l, 1) := by decide +kernel
theorem dX12_product_122 : decode cX12_product 122 = .ok (.lmul, 1) := by decide +kernel
theorem dX12_product_123 : decode cX12_product 123 = .ok (.aload_n 0, 1) := by decide +kernel
theorem dX12_product_124 : decode cX12_product 124 = .ok (.getfield 7, 3) := by decide +kernel
theorem dX12_product_127 : decode cX12_product 127 = .ok (.iload 5, 2) := by decide +kernel
theorem dX12_product_129 : decode cX12_product 129 = .ok (.iload 6, 2) := by decide +kernel
theorem dX12_product_131 : decode cX12_product 131 = .ok (.iadd, 1) := by decide +kernel
theorem dX12_product_132 : decode cX12_product 132 = .ok (.iload 11, 2) := by decide +kernel
theorem dX12_product_134 : decode cX12_product 134 = .ok (.iadd, 1) := by decide +kernel
theorem dX12_product_135 : decode cX12_product 135 = .ok (.iconst 1, 1) := by decide +kernel
theorem dX12_product_136 : decode cX12_product 136 = .ok (.isub, 1) := by decide +kernel
theorem dX12_product_137 : decode cX12_product 137 = .ok (.iaload, 1) := by decide +kernel
theorem dX12_product_138 : decode cX12_product 138 = .ok (.i2l, 1) := by decide +kernel
theorem dX12_product_139 : decode cX12_product 139 = .ok (.ladd, 1) := by decide +kernel
theorem dX12_product_140 : decode cX12_product 140 = .ok (.ladd, 1) := by decide +kernel
theorem dX12_product_141 : decode cX12_product 141 = .ok (.lstore 7, 2) := by decide +kernel
theorem dX12_product_143 : decode cX12_product 143 = .ok (.aload_n 0, 1) := by decide +kernel
theorem dX12_product_144 : decode cX12_product 144 = .ok (.getfield 7, 3) := by decide +kernel
theorem dX12_product_147 : decode cX12_product 147 = .ok (.iload 5, 2) := by decide +kernel
theorem dX12_product_149 : decode cX12_product 149 = .ok (.iload 6, 2) := by decide +kernel
theorem dX12_product_151 : decode cX12_product 151 = .ok (.iadd, 1) := by decide +kernel
theorem dX12_product_152 : decode cX12_product 152 = .ok (.iload 11, 2) := by decide +kernel
theorem dX12_product_154 : decode cX12_product 154 = .ok (.iadd, 1) := by decide +kernel
theorem dX12_product_155 : decode cX12_product 155 = .ok (.iconst 1, 1) := by decide +kernel
theorem dX12_product_156 : decode cX12_product 156 = .ok (.isub, 1) := by decide +kernel
theorem dX12_product_157 : decode cX12_product 157 = .ok (.lload 7, 2) := by decide +kernel
theorem dX12_product_159 : decode cX12_product 159 = .ok (.ldc2_w 100, 3) := by decide +kernel
theorem dX12_product_162 : decode cX12_product 162 = .ok (.land, 1) := by decide +kernel
theorem dX12_product_163 : decode cX12_product 163 = .ok (.l2i, 1) := by decide +kernel
theorem dX12_product_164 : decode cX12_product 164 = .ok (.iastore, 1) := by decide +kernel
theorem dX12_product_165 : decode cX12_product 165 = .ok (.lload 7, 2) := by decide +kernel
theorem dX12_product_167 : decode cX12_product 167 = .ok (.bipush 30, 2) := by decide +kernel
theorem dX12_product_169 : decode cX12_product 169 = .ok (.lushr, 1) := by decide +kernel
theorem dX12_product_170 : decode cX12_product 170 = .ok (.lstore 7, 2) := by decide +kernel
theorem dX12_product_172 : decode cX12_product 172 = .ok (.iinc 11 1, 3) := by decide +kernel
theorem dX12_product_175 : decode cX12_product 175 = .ok (.goto (-74), 3) := by decide +kernel
theorem dX12_product_178 : decode cX12_product 178 = .ok (.aload_n 0, 1) := by decide +kernel
theorem dX12_product_179 : decode cX12_product 179 = .ok (.getfield 7, 3) := by decide +kernel
theorem dX12_product_182 : decode cX12_product 182 = .ok (.iload 5, 2) := by decide +kernel
theorem dX12_product_184 : decode cX12_product 184 = .ok (.iload 6, 2) := by decide +kernel
theorem dX12_product_186 : decode cX12_product 186 = .ok (.iadd, 1) := by decide +kernel
theorem dX12_product_187 : decode cX12_product 187 = .ok (.iload 4, 2) := by decide +kernel
theorem dX12_product_189 : decode cX12_product 189 = .ok (.iadd, 1) := by decide +kernel
theorem dX12_product_190 : decode cX12_product 190 = .ok (.lload 7, 2) := by decide +kernel
theorem dX12_product_192 : decode cX12_product 192 = .ok (.l2i, 1) := by decide +kernel
theorem dX12_product_193 : decode cX12_product 193 = .ok (.iastore, 1) := by decide +kernel
theorem dX12_product_194 : decode cX12_product 194 = .ok (.iinc 6 1, 3) := by decide +kernel
theorem dX12_product_197 : decode cX12_product 197 = .ok (.goto (-120), 3) := by decide +kernel
theorem dX12_product_200 : decode cX12_product 200 = .ok (.aload_n 0, 1) := by decide +kernel
theorem dX12_product_201 : decode cX12_product 201 = .ok (.iload 5, 2) := by decide +kernel
theorem dX12_product_203 : decode cX12_product 203 = .ok (.iload_n 3, 1) := by decide +kernel
theorem dX12_product_204 : decode cX12_product 204 = .ok (.iload 4, 2) := by decide +kernel
theorem dX12_product_206 : decode cX12_product 206 = .ok (.iadd, 1) := by decide +kernel
theorem dX12_product_207 : decode cX12_product 207 = .ok (.aload_n 0, 1) := by decide +kernel
theorem dX12_product_208 : decode cX12_product 208 = .ok (.iload_n 1, 1) := by decide +kernel
theorem dX12_product_209 : decode cX12_product 209 = .ok (.invokevirtual 112, 3) := by decide +kernel
theorem dX12_product_212 : decode cX12_product 212 = .ok (.aload_n 0, 1) := by decide +kernel
theorem dX12_product_213 : decode cX12_product 213 = .ok (.iload_n 2, 1) := by decide +kernel
theorem dX12_product_214 : decode cX12_product 214 = .ok (.invokevirtual 112, 3) := by decide +kernel
theorem dX12_product_217 : decode cX12_product 217 = .ok (.if_icmp .eq 7, 3) := by decide +kernel
theorem dX12_product_220 : decode cX12_product 220 = .ok (.iconst 1, 1) := by decide +kernel
theorem dX12_product_221 : decode cX12_product 221 = .ok (.goto 4, 3) := by decide +kernel
theorem dX12_product_224 : decode cX12_product 224 = .ok (.iconst 0, 1) := by decide +kernel
theorem dX12_product_225 : decode cX12_product 225 = .ok (.invokevirtual 102, 3) := by decide +kernel
theorem dX12_product_228 : decode cX12_product 228 = .ok (.ireturn, 1) := by decide +kernel
theorem dX12_divide_0 : decode cX12_divide 0 = .ok (.aload_n 0, 1) := by decide +kernel
theorem dX12_divide_1 : decode cX12_divide 1 = .ok (.iload_n 1, 1) := by decide +kernel
theorem dX12_divide_2 : decode cX12_divide 2 = .ok (.invokevirtual 106, 3) := by decide +kernel
theorem dX12_divide_5 : decode cX12_divide 5 = .ok (.istore_n 3, 1) := by decide +kernel
theorem dX12_divide_6 : decode cX12_divide 6 = .ok (.aload_n 0, 1) := by decide +kernel
theorem dX12_divide_7 : decode cX12_divide 7 = .ok (.iload_n 2, 1) := by decide +kernel
theorem dX12_divide_8 : decode cX12_divide 8 = .ok (.invokevirtual 106, 3) := by decide +kernel
theorem dX12_divide_11 : decode cX12_divide 11 = .ok (.istore 4, 2) := by decide +kernel
theorem dX12_divide_13 : decode cX12_divide 13 = .ok (.iconst 0, 1) := by decide +kernel
theorem dX12_divide_14 : decode cX12_divide 14 = .ok (.istore 5, 2) := by decide +kernel
theorem dX12_divide_16 : decode cX12_divide 16 = .ok (.iload 5, 2) := by decide +kernel
theorem dX12_divide_18 : decode cX12_divide 18 = .ok (.iload_n 3, 1) := by decide +kernel
theorem dX12_divide_19 : decode cX12_divide 19 = .ok (.if_icmp .ge 27, 3) := by decide +kernel
theorem dX12_divide_22 : decode cX12_divide 22 = .ok (.aload_n 0, 1) := by decide +kernel
theorem dX12_divide_23 : decode cX12_divide 23 = .ok (.getfield 13, 3) := by decide +kernel
theorem dX12_divide_26 : decode cX12_divide 26 = .ok (.iload 5, 2) := by decide +kernel
theorem dX12_divide_28 : decode cX12_divide 28 = .ok (.aload_n 0, 1) := by decide +kernel
theorem dX12_divide_29 : decode cX12_divide 29 = .ok (.getfield 7, 3) := by decide +kernel
theorem dX12_divide_32 : decode cX12_divide 32 = .ok (.iload_n 1, 1) := by decide +kernel
theorem dX12_divide_33 : decode cX12_divide 33 = .ok (.iconst 1, 1) := by decide +kernel
theorem dX12_divide_34 : decode cX12_divide 34 = .ok (.iadd, 1) := by decide +kernel
theorem dX12_divide_35 : decode cX12_divide 35 = .ok (.iload 5, 2) := by decide +kernel
theorem dX12_divide_37 : decode cX12_divide 37 = .ok (.iadd, 1) := by decide +kernel
theorem dX12_divide_38 : decode cX12_divide 38 = .ok (.iaload, 1) := by decide +kernel
theorem dX12_divide_39 : decode cX12_divide 39 = .ok (.iastore, 1) := by decide +kernel
theorem dX12_divide_40 : decode cX12_divide 40 = .ok (.iinc 5 1, 3) := by decide +kernel
theorem dX12_divide_43 : decode cX12_divide 43 = .ok (.goto (-27), 3) := by decide +kernel
theorem dX12_divide_46 : decode cX12_divide 46 = .ok (.aload_n 0, 1) := by decide +kernel
theorem dX12_divide_47 : decode cX12_divide 47 = .ok (.iload_n 3, 1) := by decide +kernel
theorem dX12_divide_48 : decode cX12_divide 48 = .ok (.putfield 135, 3) := by decide +kernel
theorem dX12_divide_51 : decode cX12_divide 51 = .ok (.aload_n 0, 1) := by decide +kernel
theorem dX12_divide_52 : decode cX12_divide 52 = .ok (.iconst 0, 1) := by decide +kernel
theorem dX12_divide_53 : decode cX12_divide 53 = .ok (.putfield 138, 3) := by decide +kernel
theorem dX12_divide_56 : decode cX12_divide 56 = .ok (.aload_n 0, 1) := by decide +kernel
theorem dX12_divide_57 : decode cX12_divide 57 = .ok (.iload_n 1, 1) := by decide +kernel
theorem dX12_divide_58 : decode cX12_divide 58 = .ok (.iload_n 2, 1) := by decide +kernel
theorem dX12_divide_59 : decode cX12_divide 59 = .ok (.invokevirtual 122, 3) := by decide +kernel
theorem dX12_divide_62 : decode cX12_divide 62 = .ok (.ifCond .ge 4, 3) := by decide +kernel
theorem dX12_divide_65 : decode cX12_divide 65 = .ok (.return_, 1) := by decide +kernel
theorem dX12_divide_66 : decode cX12_divide 66 = .ok (.iload 4, 2) := by decide +kernel
theorem dX12_divide_68 : decode cX12_divide 68 = .ok (.iconst 1, 1) := by decide +kernel
theorem dX12_divide_69 : decode cX12_divide 69 = .ok (.if_icmp .ne 16, 3) := by decide +kernel
theorem dX12_divide_72 : decode cX12_divide 72 = .ok (.aload_n 0, 1) := by decide +kernel
theorem dX12_divide_73 : decode cX12_divide 73 = .ok (.aload_n 0, 1) := by decide +kernel
theorem dX12_divide_74 : decode cX12_divide 74 = .ok (.getfield 7, 3) := by decide +kernel
theorem dX12_divide_77 : decode cX12_divide 77 = .ok (.iload_n 2, 1) := by decide +kernel
theorem dX12_divide_78 : decode cX12_divide 78 = .ok (.iconst 1, 1) := by decide +kernel
theorem dX12_divide_79 : decode cX12_divide 79 = .ok (.iadd, 1) := by decide +kernel
theorem dX12_divide_80 : decode cX12_divide 80 = .ok (.iaload, 1) := by decide +kernel
theorem dX12_divide_81 : decode cX12_divide 81 = .ok (.invokevirtual 141, 3) := by decide +kernel
theorem dX12_divide_84 : decode cX12_divide 84 = .ok (.return_, 1) := by decide +kernel
theorem dX12_divide_85 : decode cX12_divide 85 = .ok (.iconst 0, 1) := by decide +kernel
theorem dX12_divide_86 : decode cX12_divide 86 = .ok (.istore 5, 2) := by decide +kernel
theorem dX12_divide_88 : decode cX12_divide 88 = .ok (.aload_n 0, 1) := by decide +kernel
theorem dX12_divide_89 : decode cX12_divide 89 = .ok (.getfield 7, 3) := by decide +kernel
theorem dX12_divide_92 : decode cX12_divide 92 = .ok (.iload_n 2, 1) := by decide +kernel
theorem dX12_divide_93 : decode cX12_divide 93 = .ok (.iload 4, 2) := by decide +kernel
theorem dX12_divide_95 : decode cX12_divide 95 = .ok (.iadd, 1) := by decide +kernel
theorem dX12_divide_96 : decode cX12_divide 96 = .ok (.iaload, 1) := by decide +kernel
theorem dX12_divide_97 : decode cX12_divide 97 = .ok (.iload 5, 2) := by decide +kernel
theorem dX12_divide_99 : decode cX12_divide 99 = .ok (.ishl, 1) := by decide +kernel
theorem dX12_divide_100 : decode cX12_divide 100 = .ok (.ldc 145, 2) := by decide +kernel
theorem dX12_divide_102 : decode cX12_divide 102 = .ok (.if_icmp .ge 9, 3) := by decide +kernel
theorem dX12_divide_105 : decode cX12_divide 105 = .ok (.iinc 5 1, 3) := by decide +kernel
theorem dX12_divide_108 : decode cX12_divide 108 = .ok (.goto (-20), 3) := by decide +kernel
theorem dX12_divide_111 : decode cX12_divide 111 = .ok (.iconst 0, 1) := by decide +kernel
theorem dX12_divide_112 : decode cX12_divide 112 = .ok (.istore 6, 2) := by decide +kernel
theorem dX12_divide_114 : decode cX12_divide 114 = .ok (.iload 6, 2) := by decide +kernel
theorem dX12_divide_116 : decode cX12_divide 116 = .ok (.iload 4, 2) := by decide +kernel
theorem dX12_divide_118 : decode cX12_divide 118 = .ok (.if_icmp .ge 63, 3) := by decide +kernel
theorem dX12_divide_121 : decode cX12_divide 121 = .ok (.aload_n 0, 1) := by decide +kernel
theorem dX12_divide_122 : decode cX12_divide 122 = .ok (.getfield 16, 3) := by decide +kernel
theorem dX12_divide_125 : decode cX12_divide 125 = .ok (.iload 6, 2) := by decide +kernel
theorem dX12_divide_127 : decode cX12_divide 127 = .ok (.aload_n 0, 1) := by decide +kernel
theorem dX12_divide_128 : decode cX12_divide 128 = .ok (.getfield 7, 3) := by decide +kernel
theorem dX12_divide_131 : decode cX12_divide 131 = .ok (.iload_n 2, 1) := by decide +kernel
theorem dX12_divide_132 : decode cX12_divide 132 = .ok (.iconst 1, 1) := by decide +kernel
theorem dX12_divide_133 : decode cX12_divide 133 = .ok (.iadd, 1) := by decide +kernel
theorem dX12_divide_134 : decode cX12_divide 134 = .ok (.iload 6, 2) := by decide +kernel
theorem dX12_divide_136 : decode cX12_divide 136 = .ok (.iadd, 1) := by decide +kernel
theorem dX12_divide_137 : decode cX12_divide 137 = .ok (.iaload, 1) := by decide +kernel
theorem dX12_divide_138 : decode cX12_divide 138 = .ok (.iload 5, 2) := by decide +kernel
theorem dX12_divide_140 : decode cX12_divide 140 = .ok (.ishl, 1) := by decide +kernel
theorem dX12_divide_141 : decode cX12_divide 141 = .ok (.ldc 121, 2) := by decide +kernel
theorem dX12_divide_143 : decode cX12_divide 143 = .ok (.iand, 1) := by decide +kernel
theorem dX12_divide_144 : decode cX12_divide 144 = .ok (.iload 6, 2) := by decide +kernel
theorem dX12_divide_146 : decode cX12_divide 146 = .ok (.ifCond .le 26, 3) := by decide +kernel
theorem dX12_divide_149 : decode cX12_divide 149 = .ok (.iload 5, 2) := by decide +kernel
theorem dX12_divide_151 : decode cX12_divide 151 = .ok (.ifCond .le 21, 3) := by decide +kernel
theorem dX12_divide_154 : decode cX12_divide 154 = .ok (.aload_n 0, 1) := by decide +kernel
theorem dX12_divide_155 : decode cX12_divide 155 = .ok (.getfield 7, 3) := by decide +kernel
theorem dX12_divide_158 : decode cX12_divide 158 = .ok (.iload_n 2, 1) := by decide +kernel
theorem dX12_divide_159 : decode cX12_divide 159 = .ok (.iload 6, 2) := by decide +kernel
theorem dX12_divide_161 : decode cX12_divide 161 = .ok (.iadd, 1) := by decide +kernel
theorem dX12_divide_162 : decode cX12_divide 162 = .ok (.iaload, 1) := by decide +kernel
theorem dX12_divide_163 : decode cX12_divide 163 = .ok (.bipush 30, 2) := by decide +kernel
theorem dX12_divide_165 : decode cX12_divide 165 = .ok (.iload 5, 2) := by decide +kernel
theorem dX12_divide_167 : decode cX12_divide 167 = .ok (.isub, 1) := by decide +kernel
theorem dX12_divide_168 : decode cX12_divide 168 = .ok (.ishr, 1) := by decide +kernel
theorem dX12_divide_169 : decode cX12_divide 169 = .ok (.goto 4, 3) := by decide +kernel
theorem dX12_divide_172 : decode cX12_divide 172 = .ok (.iconst 0, 1) := by decide +kernel
theorem dX12_divide_173 : decode cX12_divide 173 = .ok (.ior, 1) := by decide +kernel
theorem dX12_divide_174 : decode cX12_divide 174 = .ok (.iastore, 1) := by decide +kernel
theorem dX12_divide_175 : decode cX12_divide 175 = .ok (.iinc 6 1, 3) := by decide +kernel
theorem dX12_divide_178 : decode cX12_divide 178 = .ok (.goto (-64), 3) := by decide +kernel
theorem dX12_divide_181 : decode cX12_divide 181 = .ok (.aload_n 0, 1) := by decide +kernel
theorem dX12_divide_182 : decode cX12_divide 182 = .ok (.getfield 13, 3) := by decide +kernel
theorem dX12_divide_185 : decode cX12_divide 185 = .ok (.iload_n 3, 1) := by decide +kernel
theorem dX12_divide_186 : decode cX12_divide 186 = .ok (.iload 5, 2) := by decide +kernel
theorem dX12_divide_188 : decode cX12_divide 188 = .ok (.ifCond .le 20, 3) := by decide +kernel
theorem dX12_divide_191 : decode cX12_divide 191 = .ok (.aload_n 0, 1) := by decide +kernel
theorem dX12_divide_192 : decode cX12_divide 192 = .ok (.getfield 13, 3) := by decide +kernel
theorem dX12_divide_195 : decode cX12_divide 195 = .ok (.iload_n 3, 1) := by decide +kernel
theorem dX12_divide_196 : decode cX12_divide 196 = .ok (.iconst 1, 1) := by decide +kernel
theorem dX12_divide_197 : decode cX12_divide 197 = .ok (.isub, 1) := by decide +kernel
theorem dX12_divide_198 : decode cX12_divide 198 = .ok (.iaload, 1) := by decide +kernel
theorem dX12_divide_199 : decode cX12_divide 199 = .ok (.bipush 30, 2) := by decide +kernel
theorem dX12_divide_201 : decode cX12_divide 201 = .ok (.iload 5, 2) := by decide +kernel
theorem dX12_divide_203 : decode cX12_divide 203 = .ok (.isub, 1) := by decide +kernel
theorem dX12_divide_204 : decode cX12_divide 204 = .ok (.ishr, 1) := by decide +kernel
theorem dX12_divide_205 : decode cX12_divide 205 = .ok (.goto 4, 3) := by decide +kernel
theorem dX12_divide_208 : decode cX12_divide 208 = .ok (.iconst 0, 1) := by decide +kernel
theorem dX12_divide_209 : decode cX12_divide 209 = .ok (.iastore, 1) := by decide +kernel
theorem dX12_divide_210 : decode cX12_divide 210 = .ok (.iload_n 3, 1) := by decide +kernel
theorem dX12_divide_211 : decode cX12_divide 211 = .ok (.iconst 1, 1) := by decide +kernel
theorem dX12_divide_212 : decode cX12_divide 212 = .ok (.isub, 1) := by decide +kernel
theorem dX12_divide_213 : decode cX12_divide 213 = .ok (.istore 6, 2) := by decide +kernel
theorem dX12_divide_215 : decode cX12_divide 215 = .ok (.iload 6, 2) := by decide +kernel
theorem dX12_divide_217 : decode cX12_divide 217 = .ok (.ifCond .lt 59, 3) := by decide +kernel
theorem dX12_divide_220 : decode cX12_divide 220 = .ok (.aload_n 0, 1) := by decide +kernel
theorem dX12_divide_221 : decode cX12_divide 221 = .ok (.getfield 13, 3) := by decide +kernel
theorem dX12_divide_224 : decode cX12_divide 224 = .ok (.iload 6, 2) := by decide +kernel
theorem dX12_divide_226 : decode cX12_divide 226 = .ok (.aload_n 0, 1) := by decide +kernel
theorem dX12_divide_227 : decode cX12_divide 227 = .ok (.getfield 13, 3) := by decide +kernel
theorem dX12_divide_230 : decode cX12_divide 230 = .ok (.iload 6, 2) := by decide +kernel
theorem dX12_divide_232 : decode cX12_divide 232 = .ok (.iaload, 1) := by decide +kernel
theorem dX12_divide_233 : decode cX12_divide 233 = .ok (.iload 5, 2) := by decide +kernel
theorem dX12_divide_235 : decode cX12_divide 235 = .ok (.ishl, 1) := by decide +kernel
theorem dX12_divide_236 : decode cX12_divide 236 = .ok (.ldc 121, 2) := by decide +kernel
theorem dX12_divide_238 : decode cX12_divide 238 = .ok (.iand, 1) := by decide +kernel
theorem dX12_divide_239 : decode cX12_divide 239 = .ok (.iload 6, 2) := by decide +kernel
theorem dX12_divide_241 : decode cX12_divide 241 = .ok (.ifCond .le 26, 3) := by decide +kernel
theorem dX12_divide_244 : decode cX12_divide 244 = .ok (.iload 5, 2) := by decide +kernel
theorem dX12_divide_246 : decode cX12_divide 246 = .ok (.ifCond .le 21, 3) := by decide +kernel
theorem dX12_divide_249 : decode cX12_divide 249 = .ok (.aload_n 0, 1) := by decide +kernel
theorem dX12_divide_250 : decode cX12_divide 250 = .ok (.getfield 13, 3) := by decide +kernel
theorem dX12_divide_253 : decode cX12_divide 253 = .ok (.iload 6, 2) := by decide +kernel
theorem dX12_divide_255 : decode cX12_divide 255 = .ok (.iconst 1, 1) := by decide +kernel
theorem dX12_divide_256 : decode cX12_divide 256 = .ok (.isub, 1) := by decide +kernel
theorem dX12_divide_257 : decode cX12_divide 257 = .ok (.iaload, 1) := by decide +kernel
theorem dX12_divide_258 : decode cX12_divide 258 = .ok (.bipush 30, 2) := by decide +kernel
theorem dX12_divide_260 : decode cX12_divide 260 = .ok (.iload 5, 2) := by decide +kernel
theorem dX12_divide_262 : decode cX12_divide 262 = .ok (.isub, 1) := by decide +kernel
theorem dX12_divide_263 : decode cX12_divide 263 = .ok (.ishr, 1) := by decide +kernel
theorem dX12_divide_264 : decode cX12_divide 264 = .ok (.goto 4, 3) := by decide +kernel
theorem dX12_divide_267 : decode cX12_divide 267 = .ok (.iconst 0, 1) := by decide +kernel
theorem dX12_divide_268 : decode cX12_divide 268 = .ok (.ior, 1) := by decide +kernel
theorem dX12_divide_269 : decode cX12_divide 269 = .ok (.iastore, 1) := by decide +kernel
theorem dX12_divide_270 : decode cX12_divide 270 = .ok (.iinc 6 (-1), 3) := by decide +kernel
theorem dX12_divide_273 : decode cX12_divide 273 = .ok (.goto (-58), 3) := by decide +kernel
theorem dX12_divide_276 : decode cX12_divide 276 = .ok (.aload_n 0, 1) := by decide +kernel
theorem dX12_divide_277 : decode cX12_divide 277 = .ok (.iload_n 3, 1) := by decide +kernel
theorem dX12_divide_278 : decode cX12_divide 278 = .ok (.iload 4, 2) := by decide +kernel
theorem dX12_divide_280 : decode cX12_divide 280 = .ok (.isub, 1) := by decide +kernel
theorem dX12_divide_281 : decode cX12_divide 281 = .ok (.iconst 1, 1) := by decide +kernel
theorem dX12_divide_282 : decode cX12_divide 282 = .ok (.iadd, 1) := by decide +kernel
theorem dX12_divide_283 : decode cX12_divide 283 = .ok (.putfield 138, 3) := by decide +kernel
theorem dX12_divide_286 : decode cX12_divide 286 = .ok (.iload_n 3, 1) := by decide +kernel
theorem dX12_divide_287 : decode cX12_divide 287 = .ok (.iload 4, 2) := by decide +kernel
theorem dX12_divide_289 : decode cX12_divide 289 = .ok (.isub, 1) := by decide +kernel
theorem dX12_divide_290 : decode cX12_divide 290 = .ok (.istore 6, 2) := by decide +kernel
theorem dX12_divide_292 : decode cX12_divide 292 = .ok (.iload 6, 2) := by decide +kernel
theorem dX12_divide_294 : decode cX12_divide 294 = .ok (.ifCond .lt 24, 3) := by decide +kernel
theorem dX12_divide_297 : decode cX12_divide 297 = .ok (.aload_n 0, 1) := by decide +kernel
theorem dX12_divide_298 : decode cX12_divide 298 = .ok (.getfield 19, 3) := by decide +kernel
theorem dX12_divide_301 : decode cX12_divide 301 = .ok (.iload 6, 2) := by decide +kernel
theorem dX12_divide_303 : decode cX12_divide 303 = .ok (.aload_n 0, 1) := by decide +kernel
theorem dX12_divide_304 : decode cX12_divide 304 = .ok (.iload 6, 2) := by decide +kernel
theorem dX12_divide_306 : decode cX12_divide 306 = .ok (.iload 4, 2) := by decide +kernel
theorem dX12_divide_308 : decode cX12_divide 308 = .ok (.invokevirtual 146, 3) := by decide +kernel
theorem dX12_divide_311 : decode cX12_divide 311 = .ok (.iastore, 1) := by decide +kernel
theorem dX12_divide_312 : decode cX12_divide 312 = .ok (.iinc 6 (-1), 3) := by decide +kernel
theorem dX12_divide_315 : decode cX12_divide 315 = .ok (.goto (-23), 3) := by decide +kernel
theorem dX12_divide_318 : decode cX12_divide 318 = .ok (.aload_n 0, 1) := by decide +kernel
theorem dX12_divide_319 : decode cX12_divide 319 = .ok (.getfield 138, 3) := by decide +kernel
theorem dX12_divide_322 : decode cX12_divide 322 = .ok (.ifCond .le 30, 3) := by decide +kernel
theorem dX12_divide_325 : decode cX12_divide 325 = .ok (.aload_n 0, 1) := by decide +kernel
theorem dX12_divide_326 : decode cX12_divide 326 = .ok (.getfield 19, 3) := by decide +kernel
theorem dX12_divide_329 : decode cX12_divide 329 = .ok (.aload_n 0, 1) := by decide +kernel
theorem dX12_divide_330 : decode cX12_divide 330 = .ok (.getfield 138, 3) := by decide +kernel
theorem dX12_divide_333 : decode cX12_divide 333 = .ok (.iconst 1, 1) := by decide +kernel
theorem dX12_divide_334 : decode cX12_divide 334 = .ok (.isub, 1) := by decide +kernel
theorem dX12_divide_335 : decode cX12_divide 335 = .ok (.iaload, 1) := by decide +kernel
theorem dX12_divide_336 : decode cX12_divide 336 = .ok (.ifCond .ne 16, 3) := by decide +kernel
theorem dX12_divide_339 : decode cX12_divide 339 = .ok (.aload_n 0, 1) := by decide +kernel
theorem dX12_divide_340 : decode cX12_divide 340 = .ok (.dup, 1) := by decide +kernel
theorem dX12_divide_341 : decode cX12_divide 341 = .ok (.getfield 138, 3) := by decide +kernel
theorem dX12_divide_344 : decode cX12_divide 344 = .ok (.iconst 1, 1) := by decide +kernel
theorem dX12_divide_345 : decode cX12_divide 345 = .ok (.isub, 1) := by decide +kernel
theorem dX12_divide_346 : decode cX12_divide 346 = .ok (.putfield 138, 3) := by decide +kernel
theorem dX12_divide_349 : decode cX12_divide 349 = .ok (.goto (-31), 3) := by decide +kernel
theorem dX12_divide_352 : decode cX12_divide 352 = .ok (.iconst 0, 1) := by decide +kernel
theorem dX12_divide_353 : decode cX12_divide 353 = .ok (.istore 6, 2) := by decide +kernel
theorem dX12_divide_355 : decode cX12_divide 355 = .ok (.iload 6, 2) := by decide +kernel
theorem dX12_divide_357 : decode cX12_divide 357 = .ok (.iload 4, 2) := by decide +kernel
theorem dX12_divide_359 : decode cX12_divide 359 = .ok (.if_icmp .ge 63, 3) := by decide +kernel
theorem dX12_divide_362 : decode cX12_divide 362 = .ok (.aload_n 0, 1) := by decide +kernel
theorem dX12_divide_363 : decode cX12_divide 363 = .ok (.getfield 13, 3) := by decide +kernel
theorem dX12_divide_366 : decode cX12_divide 366 = .ok (.iload 6, 2) := by decide +kernel
theorem dX12_divide_368 : decode cX12_divide 368 = .ok (.aload_n 0, 1) := by decide +kernel
theorem dX12_divide_369 : decode cX12_divide 369 = .ok (.getfield 13, 3) := by decide +kernel
theorem dX12_divide_372 : decode cX12_divide 372 = .ok (.iload 6, 2) := by decide +kernel
theorem dX12_divide_374 : decode cX12_divide 374 = .ok (.iaload, 1) := by decide +kernel
theorem dX12_divide_375 : decode cX12_divide 375 = .ok (.iload 5, 2) := by decide +kernel
theorem dX12_divide_377 : decode cX12_divide 377 = .ok (.ishr, 1) := by decide +kernel
theorem dX12_divide_378 : decode cX12_divide 378 = .ok (.iload 6, 2) := by decide +kernel
theorem dX12_divide_380 : decode cX12_divide 380 = .ok (.iconst 1, 1) := by decide +kernel
theorem dX12_divide_381 : decode cX12_divide 381 = .ok (.iadd, 1) := by decide +kernel
theorem dX12_divide_382 : decode cX12_divide 382 = .ok (.iload 4, 2) := by decide +kernel
theorem dX12_divide_384 : decode cX12_divide 384 = .ok (.if_icmp .ge 29, 3) := by decide +kernel
theorem dX12_divide_387 : decode cX12_divide 387 = .ok (.iload 5, 2) := by decide +kernel
theorem dX12_divide_389 : decode cX12_divide 389 = .ok (.ifCond .le 24, 3) := by decide +kernel
theorem dX12_divide_392 : decode cX12_divide 392 = .ok (.aload_n 0, 1) := by decide +kernel
theorem dX12_divide_393 : decode cX12_divide 393 = .ok (.getfield 13, 3) := by decide +kernel
theorem dX12_divide_396 : decode cX12_divide 396 = .ok (.iload 6, 2) := by decide +kernel
theorem dX12_divide_398 : decode cX12_divide 398 = .ok (.iconst 1, 1) := by decide +kernel
theorem dX12_divide_399 : decode cX12_divide 399 = .ok (.iadd, 1) := by decide +kernel
theorem dX12_divide_400 : decode cX12_divide 400 = .ok (.iaload, 1) := by decide +kernel
theorem dX12_divide_401 : decode cX12_divide 401 = .ok (.bipush 30, 2) := by decide +kernel
theorem dX12_divide_403 : decode cX12_divide 403 = .ok (.iload 5, 2) := by decide +kernel
theorem dX12_divide_405 : decode cX12_divide 405 = .ok (.isub, 1) := by decide +kernel
theorem dX12_divide_406 : decode cX12_divide 406 = .ok (.ishl, 1) := by decide +kernel
theorem dX12_divide_407 : decode cX12_divide 407 = .ok (.ldc 121, 2) := by decide +kernel
theorem dX12_divide_409 : decode cX12_divide 409 = .ok (.iand, 1) := by decide +kernel
theorem dX12_divide_410 : decode cX12_divide 410 = .ok (.goto 4, 3) := by decide +kernel
theorem dX12_divide_413 : decode cX12_divide 413 = .ok (.iconst 0, 1) := by decide +kernel
theorem dX12_divide_414 : decode cX12_divide 414 = .ok (.ior, 1) := by decide +kernel
theorem dX12_divide_415 : decode cX12_divide 415 = .ok (.iastore, 1) := by decide +kernel
theorem dX12_divide_416 : decode cX12_divide 416 = .ok (.iinc 6 1, 3) := by decide +kernel
theorem dX12_divide_419 : decode cX12_divide 419 = .ok (.goto (-64), 3) := by decide +kernel
theorem dX12_divide_422 : decode cX12_divide 422 = .ok (.aload_n 0, 1) := by decide +kernel
theorem dX12_divide_423 : decode cX12_divide 423 = .ok (.iload 4, 2) := by decide +kernel
theorem dX12_divide_425 : decode cX12_divide 425 = .ok (.putfield 135, 3) := by decide +kernel
theorem dX12_divide_428 : decode cX12_divide 428 = .ok (.aload_n 0, 1) := by decide +kernel
theorem dX12_divide_429 : decode cX12_divide 429 = .ok (.getfield 135, 3) := by decide +kernel
theorem dX12_divide_432 : decode cX12_divide 432 = .ok (.ifCond .le 30, 3) := by decide +kernel
theorem dX12_divide_435 : decode cX12_divide 435 = .ok (.aload_n 0, 1) := by decide +kernel
theorem dX12_divide_436 : decode cX12_divide 436 = .ok (.getfield 13, 3) := by decide +kernel
theorem dX12_divide_439 : decode cX12_divide 439 = .ok (.aload_n 0, 1) := by decide +kernel
theorem dX12_divide_440 : decode cX12_divide 440 = .ok (.getfield 135, 3) := by decide +kernel
theorem dX12_divide_443 : decode cX12_divide 443 = .ok (.iconst 1, 1) := by decide +kernel
theorem dX12_divide_444 : decode cX12_divide 444 = .ok (.isub, 1) := by decide +kernel
theorem dX12_divide_445 : decode cX12_divide 445 = .ok (.iaload, 1) := by decide +kernel
theorem dX12_divide_446 : decode cX12_divide 446 = .ok (.ifCond .ne 16, 3) := by decide +kernel
theorem dX12_divide_449 : decode cX12_divide 449 = .ok (.aload_n 0, 1) := by decide +kernel
theorem dX12_divide_450 : decode cX12_divide 450 = .ok (.dup, 1) := by decide +kernel
theorem dX12_divide_451 : decode cX12_divide 451 = .ok (.getfield 135, 3) := by decide +kernel
theorem dX12_divide_454 : decode cX12_divide 454 = .ok (.iconst 1, 1) := by decide +kernel
theorem dX12_divide_455 : decode cX12_divide 455 = .ok (.isub, 1) := by decide +kernel
theorem dX12_divide_456 : decode cX12_divide 456 = .ok (.putfield 135, 3) := by decide +kernel
theorem dX12_divide_459 : decode cX12_divide 459 = .ok (.goto (-31), 3) := by decide +kernel
theorem dX12_divide_462 : decode cX12_divide 462 = .ok (.return_, 1) := by decide +kernel
theorem dX12_divideShort_0 : decode cX12_divideShort 0 = .ok (.lconst 0, 1) := by decide +kernel
theorem dX12_divideShort_1 : decode cX12_divideShort 1 = .ok (.lstore_n 2, 1) := by decide +kernel
theorem dX12_divideShort_2 : decode cX12_divideShort 2 = .ok (.aload_n 0, 1) := by decide +kernel
theorem dX12_divideShort_3 : decode cX12_divideShort 3 = .ok (.getfield 135, 3) := by decide +kernel
theorem dX12_divideShort_6 : decode cX12_divideShort 6 = .ok (.iconst 1, 1) := by decide +kernel
theorem dX12_divideShort_7 : decode cX12_divideShort 7 = .ok (.isub, 1) := by decide +kernel
theorem dX12_divideShort_8 : decode cX12_divideShort 8 = .ok (.istore 4, 2) := by decide +kernel
theorem dX12_divideShort_10 : decode cX12_divideShort 10 = .ok (.iload 4, 2) := by decide +kernel
theorem dX12_divideShort_12 : decode cX12_divideShort 12 = .ok (.ifCond .lt 43, 3) := by decide +kernel
theorem dX12_divideShort_15 : decode cX12_divideShort 15 = .ok (.lload_n 2, 1) := by decide +kernel
theorem dX12_divideShort_16 : decode cX12_divideShort 16 = .ok (.bipush 30, 2) := by decide +kernel
theorem dX12_divideShort_18 : decode cX12_divideShort 18 = .ok (.lshl, 1) := by decide +kernel
theorem dX12_divideShort_19 : decode cX12_divideShort 19 = .ok (.aload_n 0, 1) := by decide +kernel
theorem dX12_divideShort_20 : decode cX12_divideShort 20 = .ok (.getfield 13, 3) := by decide +kernel
theorem dX12_divideShort_23 : decode cX12_divideShort 23 = .ok (.iload 4, 2) := by decide +kernel
theorem dX12_divideShort_25 : decode cX12_divideShort 25 = .ok (.iaload, 1) := by decide +kernel
theorem dX12_divideShort_26 : decode cX12_divideShort 26 = .ok (.i2l, 1) := by decide +kernel
theorem dX12_divideShort_27 : decode cX12_divideShort 27 = .ok (.lor, 1) := by decide +kernel
theorem dX12_divideShort_28 : decode cX12_divideShort 28 = .ok (.lstore 5, 2) := by decide +kernel
theorem dX12_divideShort_30 : decode cX12_divideShort 30 = .ok (.aload_n 0, 1) := by decide +kernel
theorem dX12_divideShort_31 : decode cX12_divideShort 31 = .ok (.getfield 19, 3) := by decide +kernel
theorem dX12_divideShort_34 : decode cX12_divideShort 34 = .ok (.iload 4, 2) := by decide +kernel
theorem dX12_divideShort_36 : decode cX12_divideShort 36 = .ok (.lload 5, 2) := by decide +kernel
theorem dX12_divideShort_38 : decode cX12_divideShort 38 = .ok (.iload_n 1, 1) := by decide +kernel
theorem dX12_divideShort_39 : decode cX12_divideShort 39 = .ok (.i2l, 1) := by decide +kernel
theorem dX12_divideShort_40 : decode cX12_divideShort 40 = .ok (.ldiv, 1) := by decide +kernel
theorem dX12_divideShort_41 : decode cX12_divideShort 41 = .ok (.l2i, 1) := by decide +kernel
theorem dX12_divideShort_42 : decode cX12_divideShort 42 = .ok (.iastore, 1) := by decide +kernel
theorem dX12_divideShort_43 : decode cX12_divideShort 43 = .ok (.lload 5, 2) := by decide +kernel
theorem dX12_divideShort_45 : decode cX12_divideShort 45 = .ok (.iload_n 1, 1) := by decide +kernel
theorem dX12_divideShort_46 : decode cX12_divideShort 46 = .ok (.i2l, 1) := by decide +kernel
theorem dX12_divideShort_47 : decode cX12_divideShort 47 = .ok (.lrem, 1) := by decide +kernel
theorem dX12_divideShort_48 : decode cX12_divideShort 48 = .ok (.lstore_n 2, 1) := by decide +kernel
theorem dX12_divideShort_49 : decode cX12_divideShort 49 = .ok (.iinc 4 (-1), 3) := by decide +kernel
theorem dX12_divideShort_52 : decode cX12_divideShort 52 = .ok (.goto (-42), 3) := by decide +kernel
theorem dX12_divideShort_55 : decode cX12_divideShort 55 = .ok (.aload_n 0, 1) := by decide +kernel
theorem dX12_divideShort_56 : decode cX12_divideShort 56 = .ok (.aload_n 0, 1) := by decide +kernel
theorem dX12_divideShort_57 : decode cX12_divideShort 57 = .ok (.getfield 135, 3) := by decide +kernel
theorem dX12_divideShort_60 : decode cX12_divideShort 60 = .ok (.putfield 138, 3) := by decide +kernel
theorem dX12_divideShort_63 : decode cX12_divideShort 63 = .ok (.aload_n 0, 1) := by decide +kernel
theorem dX12_divideShort_64 : decode cX12_divideShort 64 = .ok (.getfield 138, 3) := by decide +kernel
theorem dX12_divideShort_67 : decode cX12_divideShort 67 = .ok (.ifCond .le 30, 3) := by decide +kernel
theorem dX12_divideShort_70 : decode cX12_divideShort 70 = .ok (.aload_n 0, 1) := by decide +kernel
theorem dX12_divideShort_71 : decode cX12_divideShort 71 = .ok (.getfield 19, 3) := by decide +kernel
theorem dX12_divideShort_74 : decode cX12_divideShort 74 = .ok (.aload_n 0, 1) := by decide +kernel
theorem dX12_divideShort_75 : decode cX12_divideShort 75 = .ok (.getfield 138, 3) := by decide +kernel
theorem dX12_divideShort_78 : decode cX12_divideShort 78 = .ok (.iconst 1, 1) := by decide +kernel
theorem dX12_divideShort_79 : decode cX12_divideShort 79 = .ok (.isub, 1) := by decide +kernel
theorem dX12_divideShort_80 : decode cX12_divideShort 80 = .ok (.iaload, 1) := by decide +kernel
theorem dX12_divideShort_81 : decode cX12_divideShort 81 = .ok (.ifCond .ne 16, 3) := by decide +kernel
theorem dX12_divideShort_84 : decode cX12_divideShort 84 = .ok (.aload_n 0, 1) := by decide +kernel
theorem dX12_divideShort_85 : decode cX12_divideShort 85 = .ok (.dup, 1) := by decide +kernel
theorem dX12_divideShort_86 : decode cX12_divideShort 86 = .ok (.getfield 138, 3) := by decide +kernel
theorem dX12_divideShort_89 : decode cX12_divideShort 89 = .ok (.iconst 1, 1) := by decide +kernel
theorem dX12_divideShort_90 : decode cX12_divideShort 90 = .ok (.isub, 1) := by decide +kernel
theorem dX12_divideShort_91 : decode cX12_divideShort 91 = .ok (.putfield 138, 3) := by decide +kernel
theorem dX12_divideShort_94 : decode cX12_divideShort 94 = .ok (.goto (-31), 3) := by decide +kernel
theorem dX12_divideShort_97 : decode cX12_divideShort 97 = .ok (.aload_n 0, 1) := by decide +kernel
theorem dX12_divideShort_98 : decode cX12_divideShort 98 = .ok (.getfield 13, 3) := by decide +kernel
theorem dX12_divideShort_101 : decode cX12_divideShort 101 = .ok (.iconst 0, 1) := by decide +kernel
theorem dX12_divideShort_102 : decode cX12_divideShort 102 = .ok (.lload_n 2, 1) := by decide +kernel
theorem dX12_divideShort_103 : decode cX12_divideShort 103 = .ok (.l2i, 1) := by decide +kernel
theorem dX12_divideShort_104 : decode cX12_divideShort 104 = .ok (.iastore, 1) := by decide +kernel
theorem dX12_divideShort_105 : decode cX12_divideShort 105 = .ok (.aload_n 0, 1) := by decide +kernel
theorem dX12_divideShort_106 : decode cX12_divideShort 106 = .ok (.lload_n 2, 1) := by decide +kernel
theorem dX12_divideShort_107 : decode cX12_divideShort 107 = .ok (.lconst 0, 1) := by decide +kernel
theorem dX12_divideShort_108 : decode cX12_divideShort 108 = .ok (.lcmp, 1) := by decide +kernel
theorem dX12_divideShort_109 : decode cX12_divideShort 109 = .ok (.ifCond .ne 7, 3) := by decide +kernel
theorem dX12_divideShort_112 : decode cX12_divideShort 112 = .ok (.iconst 0, 1) := by decide +kernel
theorem dX12_divideShort_113 : decode cX12_divideShort 113 = .ok (.goto 4, 3) := by decide +kernel
theorem dX12_divideShort_116 : decode cX12_divideShort 116 = .ok (.iconst 1, 1) := by decide +kernel
theorem dX12_divideShort_117 : decode cX12_divideShort 117 = .ok (.putfield 135, 3) := by decide +kernel
theorem dX12_divideShort_120 : decode cX12_divideShort 120 = .ok (.return_, 1) := by decide +kernel
theorem dX12_step_0 : decode cX12_step 0 = .ok (.aload_n 0, 1) := by decide +kernel
theorem dX12_step_1 : decode cX12_step 1 = .ok (.getfield 13, 3) := by decide +kernel
theorem dX12_step_4 : decode cX12_step 4 = .ok (.iload_n 1, 1) := by decide +kernel
theorem dX12_step_5 : decode cX12_step 5 = .ok (.iload_n 2, 1) := by decide +kernel
theorem dX12_step_6 : decode cX12_step 6 = .ok (.iadd, 1) := by decide +kernel
theorem dX12_step_7 : decode cX12_step 7 = .ok (.iaload, 1) := by decide +kernel
theorem dX12_step_8 : decode cX12_step 8 = .ok (.i2l, 1) := by decide +kernel
theorem dX12_step_9 : decode cX12_step 9 = .ok (.bipush 30, 2) := by decide +kernel
theorem dX12_step_11 : decode cX12_step 11 = .ok (.lshl, 1) := by decide +kernel
theorem dX12_step_12 : decode cX12_step 12 = .ok (.aload_n 0, 1) := by decide +kernel
theorem dX12_step_13 : decode cX12_step 13 = .ok (.getfield 13, 3) := by decide +kernel
theorem dX12_step_16 : decode cX12_step 16 = .ok (.iload_n 1, 1) := by decide +kernel
theorem dX12_step_17 : decode cX12_step 17 = .ok (.iload_n 2, 1) := by decide +kernel
theorem dX12_step_18 : decode cX12_step 18 = .ok (.iadd, 1) := by decide +kernel
theorem dX12_step_19 : decode cX12_step 19 = .ok (.iconst 1, 1) := by decide +kernel
theorem dX12_step_20 : decode cX12_step 20 = .ok (.isub, 1) := by decide +kernel
theorem dX12_step_21 : decode cX12_step 21 = .ok (.iaload, 1) := by decide +kernel
theorem dX12_step_22 : decode cX12_step 22 = .ok (.i2l, 1) := by decide +kernel
theorem dX12_step_23 : decode cX12_step 23 = .ok (.lor, 1) := by decide +kernel
theorem dX12_step_24 : decode cX12_step 24 = .ok (.lstore_n 3, 1) := by decide +kernel
theorem dX12_step_25 : decode cX12_step 25 = .ok (.lload_n 3, 1) := by decide +kernel
theorem dX12_step_26 : decode cX12_step 26 = .ok (.aload_n 0, 1) := by decide +kernel
theorem dX12_step_27 : decode cX12_step 27 = .ok (.getfield 16, 3) := by decide +kernel
theorem dX12_step_30 : decode cX12_step 30 = .ok (.iload_n 2, 1) := by decide +kernel
theorem dX12_step_31 : decode cX12_step 31 = .ok (.iconst 1, 1) := by decide +kernel
theorem dX12_step_32 : decode cX12_step 32 = .ok (.isub, 1) := by decide +kernel
theorem dX12_step_33 : decode cX12_step 33 = .ok (.iaload, 1) := by decide +kernel
theorem dX12_step_34 : decode cX12_step 34 = .ok (.i2l, 1) := by decide +kernel
theorem dX12_step_35 : decode cX12_step 35 = .ok (.ldiv, 1) := by decide +kernel
theorem dX12_step_36 : decode cX12_step 36 = .ok (.ldc2_w 100, 3) := by decide +kernel
theorem dX12_step_39 : decode cX12_step 39 = .ok (.invokestatic 149, 3) := by decide +kernel
theorem dX12_step_42 : decode cX12_step 42 = .ok (.lstore 5, 2) := by decide +kernel
theorem dX12_step_44 : decode cX12_step 44 = .ok (.lconst 0, 1) := by decide +kernel
theorem dX12_step_45 : decode cX12_step 45 = .ok (.lstore 7, 2) := by decide +kernel
theorem dX12_step_47 : decode cX12_step 47 = .ok (.lconst 0, 1) := by decide +kernel
theorem dX12_step_48 : decode cX12_step 48 = .ok (.lstore 9, 2) := by decide +kernel
theorem dX12_step_50 : decode cX12_step 50 = .ok (.iconst 0, 1) := by decide +kernel
theorem dX12_step_51 : decode cX12_step 51 = .ok (.istore 11, 2) := by decide +kernel
theorem dX12_step_53 : decode cX12_step 53 = .ok (.iload 11, 2) := by decide +kernel
theorem dX12_step_55 : decode cX12_step 55 = .ok (.iload_n 2, 1) := by decide +kernel
theorem dX12_step_56 : decode cX12_step 56 = .ok (.if_icmp .ge 84, 3) := by decide +kernel
theorem dX12_step_59 : decode cX12_step 59 = .ok (.lload 7, 2) := by decide +kernel
theorem dX12_step_61 : decode cX12_step 61 = .ok (.lload 5, 2) := by decide +kernel
theorem dX12_step_63 : decode cX12_step 63 = .ok (.aload_n 0, 1) := by decide +kernel
theorem dX12_step_64 : decode cX12_step 64 = .ok (.getfield 16, 3) := by decide +kernel
theorem dX12_step_67 : decode cX12_step 67 = .ok (.iload 11, 2) := by decide +kernel
theorem dX12_step_69 : decode cX12_step 69 = .ok (.iaload, 1) := by decide +kernel
theorem dX12_step_70 : decode cX12_step 70 = .ok (.i2l, 1) := by decide +kernel
theorem dX12_step_71 : decode cX12_step 71 = .ok (.lmul, 1) := by decide +kernel
theorem dX12_step_72 : decode cX12_step 72 = .ok (.ladd, 1) := by decide +kernel
theorem dX12_step_73 : decode cX12_step 73 = .ok (.lstore 7, 2) := by decide +kernel
theorem dX12_step_75 : decode cX12_step 75 = .ok (.aload_n 0, 1) := by decide +kernel
theorem dX12_step_76 : decode cX12_step 76 = .ok (.getfield 13, 3) := by decide +kernel
theorem dX12_step_79 : decode cX12_step 79 = .ok (.iload_n 1, 1) := by decide +kernel
theorem dX12_step_80 : decode cX12_step 80 = .ok (.iload 11, 2) := by decide +kernel
theorem dX12_step_82 : decode cX12_step 82 = .ok (.iadd, 1) := by decide +kernel
theorem dX12_step_83 : decode cX12_step 83 = .ok (.iaload, 1) := by decide +kernel
theorem dX12_step_84 : decode cX12_step 84 = .ok (.i2l, 1) := by decide +kernel
theorem dX12_step_85 : decode cX12_step 85 = .ok (.lload 7, 2) := by decide +kernel
theorem dX12_step_87 : decode cX12_step 87 = .ok (.ldc2_w 100, 3) := by decide +kernel
theorem dX12_step_90 : decode cX12_step 90 = .ok (.land, 1) := by decide +kernel
theorem dX12_step_91 : decode cX12_step 91 = .ok (.lsub, 1) := by decide +kernel
theorem dX12_step_92 : decode cX12_step 92 = .ok (.lload 9, 2) := by decide +kernel
theorem dX12_step_94 : decode cX12_step 94 = .ok (.lsub, 1) := by decide +kernel
theorem dX12_step_95 : decode cX12_step 95 = .ok (.lstore 12, 2) := by decide +kernel
theorem dX12_step_97 : decode cX12_step 97 = .ok (.lload 7, 2) := by decide +kernel
theorem dX12_step_99 : decode cX12_step 99 = .ok (.bipush 30, 2) := by decide +kernel
theorem dX12_step_101 : decode cX12_step 101 = .ok (.lushr, 1) := by decide +kernel
theorem dX12_step_102 : decode cX12_step 102 = .ok (.lstore 7, 2) := by decide +kernel
theorem dX12_step_104 : decode cX12_step 104 = .ok (.lload 12, 2) := by decide +kernel
theorem dX12_step_106 : decode cX12_step 106 = .ok (.lconst 0, 1) := by decide +kernel
theorem dX12_step_107 : decode cX12_step 107 = .ok (.lcmp, 1) := by decide +kernel
theorem dX12_step_108 : decode cX12_step 108 = .ok (.ifCond .ge 7, 3) := by decide +kernel
theorem dX12_step_111 : decode cX12_step 111 = .ok (.lconst 1, 1) := by decide +kernel
theorem dX12_step_112 : decode cX12_step 112 = .ok (.goto 4, 3) := by decide +kernel
theorem dX12_step_115 : decode cX12_step 115 = .ok (.lconst 0, 1) := by decide +kernel
theorem dX12_step_116 : decode cX12_step 116 = .ok (.lstore 9, 2) := by decide +kernel
theorem dX12_step_118 : decode cX12_step 118 = .ok (.aload_n 0, 1) := by decide +kernel
theorem dX12_step_119 : decode cX12_step 119 = .ok (.getfield 13, 3) := by decide +kernel
theorem dX12_step_122 : decode cX12_step 122 = .ok (.iload_n 1, 1) := by decide +kernel
theorem dX12_step_123 : decode cX12_step 123 = .ok (.iload 11, 2) := by decide +kernel
theorem dX12_step_125 : decode cX12_step 125 = .ok (.iadd, 1) := by decide +kernel
theorem dX12_step_126 : decode cX12_step 126 = .ok (.lload 12, 2) := by decide +kernel
theorem dX12_step_128 : decode cX12_step 128 = .ok (.ldc2_w 100, 3) := by decide +kernel
theorem dX12_step_131 : decode cX12_step 131 = .ok (.land, 1) := by decide +kernel
theorem dX12_step_132 : decode cX12_step 132 = .ok (.l2i, 1) := by decide +kernel
theorem dX12_step_133 : decode cX12_step 133 = .ok (.iastore, 1) := by decide +kernel
theorem dX12_step_134 : decode cX12_step 134 = .ok (.iinc 11 1, 3) := by decide +kernel
theorem dX12_step_137 : decode cX12_step 137 = .ok (.goto (-84), 3) := by decide +kernel
theorem dX12_step_140 : decode cX12_step 140 = .ok (.aload_n 0, 1) := by decide +kernel
theorem dX12_step_141 : decode cX12_step 141 = .ok (.getfield 13, 3) := by decide +kernel
theorem dX12_step_144 : decode cX12_step 144 = .ok (.iload_n 1, 1) := by decide +kernel
theorem dX12_step_145 : decode cX12_step 145 = .ok (.iload_n 2, 1) := by decide +kernel
theorem dX12_step_146 : decode cX12_step 146 = .ok (.iadd, 1) := by decide +kernel
theorem dX12_step_147 : decode cX12_step 147 = .ok (.iaload, 1) := by decide +kernel
theorem dX12_step_148 : decode cX12_step 148 = .ok (.i2l, 1) := by decide +kernel
theorem dX12_step_149 : decode cX12_step 149 = .ok (.lload 7, 2) := by decide +kernel
theorem dX12_step_151 : decode cX12_step 151 = .ok (.lsub, 1) := by decide +kernel
theorem dX12_step_152 : decode cX12_step 152 = .ok (.lload 9, 2) := by decide +kernel
theorem dX12_step_154 : decode cX12_step 154 = .ok (.lsub, 1) := by decide +kernel
theorem dX12_step_155 : decode cX12_step 155 = .ok (.lstore 11, 2) := by decide +kernel
theorem dX12_step_157 : decode cX12_step 157 = .ok (.lload 11, 2) := by decide +kernel
theorem dX12_step_159 : decode cX12_step 159 = .ok (.lconst 0, 1) := by decide +kernel
theorem dX12_step_160 : decode cX12_step 160 = .ok (.lcmp, 1) := by decide +kernel
theorem dX12_step_161 : decode cX12_step 161 = .ok (.ifCond .ge 84, 3) := by decide +kernel
theorem dX12_step_164 : decode cX12_step 164 = .ok (.lload 5, 2) := by decide +kernel
theorem dX12_step_166 : decode cX12_step 166 = .ok (.lconst 1, 1) := by decide +kernel
theorem dX12_step_167 : decode cX12_step 167 = .ok (.lsub, 1) := by decide +kernel
theorem dX12_step_168 : decode cX12_step 168 = .ok (.lstore 5, 2) := by decide +kernel
theorem dX12_step_170 : decode cX12_step 170 = .ok (.lconst 0, 1) := by decide +kernel
theorem dX12_step_171 : decode cX12_step 171 = .ok (.lstore 13, 2) := by decide +kernel
theorem dX12_step_173 : decode cX12_step 173 = .ok (.iconst 0, 1) := by decide +kernel
theorem dX12_step_174 : decode cX12_step 174 = .ok (.istore 15, 2) := by decide +kernel
theorem dX12_step_176 : decode cX12_step 176 = .ok (.iload 15, 2) := by decide +kernel
theorem dX12_step_178 : decode cX12_step 178 = .ok (.iload_n 2, 1) := by decide +kernel
theorem dX12_step_179 : decode cX12_step 179 = .ok (.if_icmp .ge 56, 3) := by decide +kernel
theorem dX12_step_182 : decode cX12_step 182 = .ok (.lload 13, 2) := by decide +kernel
theorem dX12_step_184 : decode cX12_step 184 = .ok (.aload_n 0, 1) := by decide +kernel
theorem dX12_step_185 : decode cX12_step 185 = .ok (.getfield 13, 3) := by decide +kernel
theorem dX12_step_188 : decode cX12_step 188 = .ok (.iload_n 1, 1) := by decide +kernel
theorem dX12_step_189 : decode cX12_step 189 = .ok (.iload 15, 2) := by decide +kernel
theorem dX12_step_191 : decode cX12_step 191 = .ok (.iadd, 1) := by decide +kernel
theorem dX12_step_192 : decode cX12_step 192 = .ok (.iaload, 1) := by decide +kernel
theorem dX12_step_193 : decode cX12_step 193 = .ok (.i2l, 1) := by decide +kernel
theorem dX12_step_194 : decode cX12_step 194 = .ok (.aload_n 0, 1) := by decide +kernel
theorem dX12_step_195 : decode cX12_step 195 = .ok (.getfield 16, 3) := by decide +kernel
theorem dX12_step_198 : decode cX12_step 198 = .ok (.iload 15, 2) := by decide +kernel
theorem dX12_step_200 : decode cX12_step 200 = .ok (.iaload, 1) := by decide +kernel
theorem dX12_step_201 : decode cX12_step 201 = .ok (.i2l, 1) := by decide +kernel
theorem dX12_step_202 : decode cX12_step 202 = .ok (.ladd, 1) := by decide +kernel
theorem dX12_step_203 : decode cX12_step 203 = .ok (.ladd, 1) := by decide +kernel
theorem dX12_step_204 : decode cX12_step 204 = .ok (.lstore 13, 2) := by decide +kernel
theorem dX12_step_206 : decode cX12_step 206 = .ok (.aload_n 0, 1) := by decide +kernel
theorem dX12_step_207 : decode cX12_step 207 = .ok (.getfield 13, 3) := by decide +kernel
theorem dX12_step_210 : decode cX12_step 210 = .ok (.iload_n 1, 1) := by decide +kernel
theorem dX12_step_211 : decode cX12_step 211 = .ok (.iload 15, 2) := by decide +kernel
theorem dX12_step_213 : decode cX12_step 213 = .ok (.iadd, 1) := by decide +kernel
theorem dX12_step_214 : decode cX12_step 214 = .ok (.lload 13, 2) := by decide +kernel
theorem dX12_step_216 : decode cX12_step 216 = .ok (.ldc2_w 100, 3) := by decide +kernel
theorem dX12_step_219 : decode cX12_step 219 = .ok (.land, 1) := by decide +kernel
theorem dX12_step_220 : decode cX12_step 220 = .ok (.l2i, 1) := by decide +kernel
theorem dX12_step_221 : decode cX12_step 221 = .ok (.iastore, 1) := by decide +kernel
theorem dX12_step_222 : decode cX12_step 222 = .ok (.lload 13, 2) := by decide +kernel
theorem dX12_step_224 : decode cX12_step 224 = .ok (.bipush 30, 2) := by decide +kernel
theorem dX12_step_226 : decode cX12_step 226 = .ok (.lushr, 1) := by decide +kernel
