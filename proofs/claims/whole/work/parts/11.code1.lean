theorem dX7_hasLoadAt_0 : decode cX7_hasLoadAt 0 = .ok (.iconst 0, 1) := by decide +kernel
theorem dX7_hasLoadAt_1 : decode cX7_hasLoadAt 1 = .ok (.istore_n 2, 1) := by decide +kernel
theorem dX7_hasLoadAt_2 : decode cX7_hasLoadAt 2 = .ok (.iconst 0, 1) := by decide +kernel
theorem dX7_hasLoadAt_3 : decode cX7_hasLoadAt 3 = .ok (.istore_n 3, 1) := by decide +kernel
theorem dX7_hasLoadAt_4 : decode cX7_hasLoadAt 4 = .ok (.iload_n 3, 1) := by decide +kernel
theorem dX7_hasLoadAt_5 : decode cX7_hasLoadAt 5 = .ok (.aload_n 0, 1) := by decide +kernel
theorem dX7_hasLoadAt_6 : decode cX7_hasLoadAt 6 = .ok (.getfield 18, 3) := by decide +kernel
theorem dX7_hasLoadAt_9 : decode cX7_hasLoadAt 9 = .ok (.if_icmp .ge 29, 3) := by decide +kernel
theorem dX7_hasLoadAt_12 : decode cX7_hasLoadAt 12 = .ok (.iload_n 2, 1) := by decide +kernel
theorem dX7_hasLoadAt_13 : decode cX7_hasLoadAt 13 = .ok (.ifCond .ne 13, 3) := by decide +kernel
theorem dX7_hasLoadAt_16 : decode cX7_hasLoadAt 16 = .ok (.aload_n 0, 1) := by decide +kernel
theorem dX7_hasLoadAt_17 : decode cX7_hasLoadAt 17 = .ok (.getfield 21, 3) := by decide +kernel
theorem dX7_hasLoadAt_20 : decode cX7_hasLoadAt 20 = .ok (.iload_n 3, 1) := by decide +kernel
theorem dX7_hasLoadAt_21 : decode cX7_hasLoadAt 21 = .ok (.iaload, 1) := by decide +kernel
theorem dX7_hasLoadAt_22 : decode cX7_hasLoadAt 22 = .ok (.iload_n 1, 1) := by decide +kernel
theorem dX7_hasLoadAt_23 : decode cX7_hasLoadAt 23 = .ok (.if_icmp .ne 7, 3) := by decide +kernel
theorem dX7_hasLoadAt_26 : decode cX7_hasLoadAt 26 = .ok (.iconst 1, 1) := by decide +kernel
theorem dX7_hasLoadAt_27 : decode cX7_hasLoadAt 27 = .ok (.goto 4, 3) := by decide +kernel
theorem dX7_hasLoadAt_30 : decode cX7_hasLoadAt 30 = .ok (.iconst 0, 1) := by decide +kernel
theorem dX7_hasLoadAt_31 : decode cX7_hasLoadAt 31 = .ok (.istore_n 2, 1) := by decide +kernel
theorem dX7_hasLoadAt_32 : decode cX7_hasLoadAt 32 = .ok (.iinc 3 1, 3) := by decide +kernel
theorem dX7_hasLoadAt_35 : decode cX7_hasLoadAt 35 = .ok (.goto (-31), 3) := by decide +kernel
theorem dX7_hasLoadAt_38 : decode cX7_hasLoadAt 38 = .ok (.iload_n 2, 1) := by decide +kernel
theorem dX7_hasLoadAt_39 : decode cX7_hasLoadAt 39 = .ok (.ireturn, 1) := by decide +kernel
theorem dX7_addLoad_0 : decode cX7_addLoad 0 = .ok (.aload_n 0, 1) := by decide +kernel
theorem dX7_addLoad_1 : decode cX7_addLoad 1 = .ok (.getfield 21, 3) := by decide +kernel
theorem dX7_addLoad_4 : decode cX7_addLoad 4 = .ok (.aload_n 0, 1) := by decide +kernel
theorem dX7_addLoad_5 : decode cX7_addLoad 5 = .ok (.getfield 18, 3) := by decide +kernel
theorem dX7_addLoad_8 : decode cX7_addLoad 8 = .ok (.iload_n 1, 1) := by decide +kernel
theorem dX7_addLoad_9 : decode cX7_addLoad 9 = .ok (.iastore, 1) := by decide +kernel
theorem dX7_addLoad_10 : decode cX7_addLoad 10 = .ok (.aload_n 0, 1) := by decide +kernel
theorem dX7_addLoad_11 : decode cX7_addLoad 11 = .ok (.getfield 25, 3) := by decide +kernel
theorem dX7_addLoad_14 : decode cX7_addLoad 14 = .ok (.aload_n 0, 1) := by decide +kernel
theorem dX7_addLoad_15 : decode cX7_addLoad 15 = .ok (.getfield 18, 3) := by decide +kernel
theorem dX7_addLoad_18 : decode cX7_addLoad 18 = .ok (.iload_n 2, 1) := by decide +kernel
theorem dX7_addLoad_19 : decode cX7_addLoad 19 = .ok (.iastore, 1) := by decide +kernel
theorem dX7_addLoad_20 : decode cX7_addLoad 20 = .ok (.aload_n 0, 1) := by decide +kernel
theorem dX7_addLoad_21 : decode cX7_addLoad 21 = .ok (.dup, 1) := by decide +kernel
theorem dX7_addLoad_22 : decode cX7_addLoad 22 = .ok (.getfield 18, 3) := by decide +kernel
theorem dX7_addLoad_25 : decode cX7_addLoad 25 = .ok (.iconst 1, 1) := by decide +kernel
theorem dX7_addLoad_26 : decode cX7_addLoad 26 = .ok (.iadd, 1) := by decide +kernel
theorem dX7_addLoad_27 : decode cX7_addLoad 27 = .ok (.putfield 18, 3) := by decide +kernel
theorem dX7_addLoad_30 : decode cX7_addLoad 30 = .ok (.aload_n 0, 1) := by decide +kernel
theorem dX7_addLoad_31 : decode cX7_addLoad 31 = .ok (.getfield 18, 3) := by decide +kernel
theorem dX7_addLoad_34 : decode cX7_addLoad 34 = .ok (.iconst 1, 1) := by decide +kernel
theorem dX7_addLoad_35 : decode cX7_addLoad 35 = .ok (.isub, 1) := by decide +kernel
theorem dX7_addLoad_36 : decode cX7_addLoad 36 = .ok (.ireturn, 1) := by decide +kernel
theorem dX7_freeTimesLength_0 : decode cX7_freeTimesLength 0 = .ok (.lconst 0, 1) := by decide +kernel
theorem dX7_freeTimesLength_1 : decode cX7_freeTimesLength 1 = .ok (.lstore_n 2, 1) := by decide +kernel
theorem dX7_freeTimesLength_2 : decode cX7_freeTimesLength 2 = .ok (.iconst 0, 1) := by decide +kernel
theorem dX7_freeTimesLength_3 : decode cX7_freeTimesLength 3 = .ok (.istore 4, 2) := by decide +kernel
theorem dX7_freeTimesLength_5 : decode cX7_freeTimesLength 5 = .ok (.iload 4, 2) := by decide +kernel
theorem dX7_freeTimesLength_7 : decode cX7_freeTimesLength 7 = .ok (.aload_n 0, 1) := by decide +kernel
theorem dX7_freeTimesLength_8 : decode cX7_freeTimesLength 8 = .ok (.getfield 18, 3) := by decide +kernel
theorem dX7_freeTimesLength_11 : decode cX7_freeTimesLength 11 = .ok (.if_icmp .ge 59, 3) := by decide +kernel
theorem dX7_freeTimesLength_14 : decode cX7_freeTimesLength 14 = .ok (.iload_n 1, 1) := by decide +kernel
theorem dX7_freeTimesLength_15 : decode cX7_freeTimesLength 15 = .ok (.aload_n 0, 1) := by decide +kernel
theorem dX7_freeTimesLength_16 : decode cX7_freeTimesLength 16 = .ok (.getfield 21, 3) := by decide +kernel
theorem dX7_freeTimesLength_19 : decode cX7_freeTimesLength 19 = .ok (.iload 4, 2) := by decide +kernel
theorem dX7_freeTimesLength_21 : decode cX7_freeTimesLength 21 = .ok (.iaload, 1) := by decide +kernel
theorem dX7_freeTimesLength_22 : decode cX7_freeTimesLength 22 = .ok (.invokestatic 28, 3) := by decide +kernel
theorem dX7_freeTimesLength_25 : decode cX7_freeTimesLength 25 = .ok (.istore 5, 2) := by decide +kernel
theorem dX7_freeTimesLength_27 : decode cX7_freeTimesLength 27 = .ok (.aload_n 0, 1) := by decide +kernel
theorem dX7_freeTimesLength_28 : decode cX7_freeTimesLength 28 = .ok (.getfield 9, 3) := by decide +kernel
theorem dX7_freeTimesLength_31 : decode cX7_freeTimesLength 31 = .ok (.iload_n 1, 1) := by decide +kernel
theorem dX7_freeTimesLength_32 : decode cX7_freeTimesLength 32 = .ok (.aload_n 0, 1) := by decide +kernel
theorem dX7_freeTimesLength_33 : decode cX7_freeTimesLength 33 = .ok (.getfield 21, 3) := by decide +kernel
theorem dX7_freeTimesLength_36 : decode cX7_freeTimesLength 36 = .ok (.iload 4, 2) := by decide +kernel
theorem dX7_freeTimesLength_38 : decode cX7_freeTimesLength 38 = .ok (.iaload, 1) := by decide +kernel
theorem dX7_freeTimesLength_39 : decode cX7_freeTimesLength 39 = .ok (.invokestatic 34, 3) := by decide +kernel
theorem dX7_freeTimesLength_42 : decode cX7_freeTimesLength 42 = .ok (.isub, 1) := by decide +kernel
theorem dX7_freeTimesLength_43 : decode cX7_freeTimesLength 43 = .ok (.istore 6, 2) := by decide +kernel
theorem dX7_freeTimesLength_45 : decode cX7_freeTimesLength 45 = .ok (.lload_n 2, 1) := by decide +kernel
theorem dX7_freeTimesLength_46 : decode cX7_freeTimesLength 46 = .ok (.aload_n 0, 1) := by decide +kernel
theorem dX7_freeTimesLength_47 : decode cX7_freeTimesLength 47 = .ok (.getfield 25, 3) := by decide +kernel
theorem dX7_freeTimesLength_50 : decode cX7_freeTimesLength 50 = .ok (.iload 4, 2) := by decide +kernel
theorem dX7_freeTimesLength_52 : decode cX7_freeTimesLength 52 = .ok (.iaload, 1) := by decide +kernel
theorem dX7_freeTimesLength_53 : decode cX7_freeTimesLength 53 = .ok (.i2l, 1) := by decide +kernel
theorem dX7_freeTimesLength_54 : decode cX7_freeTimesLength 54 = .ok (.iload 5, 2) := by decide +kernel
theorem dX7_freeTimesLength_56 : decode cX7_freeTimesLength 56 = .ok (.i2l, 1) := by decide +kernel
theorem dX7_freeTimesLength_57 : decode cX7_freeTimesLength 57 = .ok (.lmul, 1) := by decide +kernel
theorem dX7_freeTimesLength_58 : decode cX7_freeTimesLength 58 = .ok (.iload 6, 2) := by decide +kernel
theorem dX7_freeTimesLength_60 : decode cX7_freeTimesLength 60 = .ok (.i2l, 1) := by decide +kernel
theorem dX7_freeTimesLength_61 : decode cX7_freeTimesLength 61 = .ok (.lmul, 1) := by decide +kernel
theorem dX7_freeTimesLength_62 : decode cX7_freeTimesLength 62 = .ok (.ladd, 1) := by decide +kernel
theorem dX7_freeTimesLength_63 : decode cX7_freeTimesLength 63 = .ok (.lstore_n 2, 1) := by decide +kernel
theorem dX7_freeTimesLength_64 : decode cX7_freeTimesLength 64 = .ok (.iinc 4 1, 3) := by decide +kernel
theorem dX7_freeTimesLength_67 : decode cX7_freeTimesLength 67 = .ok (.goto (-62), 3) := by decide +kernel
theorem dX7_freeTimesLength_70 : decode cX7_freeTimesLength 70 = .ok (.lload_n 2, 1) := by decide +kernel
theorem dX7_freeTimesLength_71 : decode cX7_freeTimesLength 71 = .ok (.lreturn, 1) := by decide +kernel
theorem dX8_init_0 : decode cX8_init 0 = .ok (.aload_n 0, 1) := by decide +kernel
theorem dX8_init_1 : decode cX8_init 1 = .ok (.invokespecial 3, 3) := by decide +kernel
theorem dX8_init_4 : decode cX8_init 4 = .ok (.aload_n 0, 1) := by decide +kernel
theorem dX8_init_5 : decode cX8_init 5 = .ok (.iconst 0, 1) := by decide +kernel
theorem dX8_init_6 : decode cX8_init 6 = .ok (.putfield 9, 3) := by decide +kernel
theorem dX8_init_9 : decode cX8_init 9 = .ok (.aload_n 0, 1) := by decide +kernel
theorem dX8_init_10 : decode cX8_init 10 = .ok (.bipush 110, 2) := by decide +kernel
theorem dX8_init_12 : decode cX8_init 12 = .ok (.newarray .int, 2) := by decide +kernel
theorem dX8_init_14 : decode cX8_init 14 = .ok (.putfield 15, 3) := by decide +kernel
theorem dX8_init_17 : decode cX8_init 17 = .ok (.aload_n 0, 1) := by decide +kernel
theorem dX8_init_18 : decode cX8_init 18 = .ok (.new 19, 3) := by decide +kernel
theorem dX8_init_21 : decode cX8_init 21 = .ok (.dup, 1) := by decide +kernel
theorem dX8_init_22 : decode cX8_init 22 = .ok (.invokespecial 21, 3) := by decide +kernel
theorem dX8_init_25 : decode cX8_init 25 = .ok (.putfield 22, 3) := by decide +kernel
theorem dX8_init_28 : decode cX8_init 28 = .ok (.return_, 1) := by decide +kernel
theorem dX8_writeShare_0 : decode cX8_writeShare 0 = .ok (.aload_n 1, 1) := by decide +kernel
theorem dX8_writeShare_1 : decode cX8_writeShare 1 = .ok (.invokevirtual 26, 3) := by decide +kernel
theorem dX8_writeShare_4 : decode cX8_writeShare 4 = .ok (.aload_n 0, 1) := by decide +kernel
theorem dX8_writeShare_5 : decode cX8_writeShare 5 = .ok (.getfield 22, 3) := by decide +kernel
theorem dX8_writeShare_8 : decode cX8_writeShare 8 = .ok (.aload_n 1, 1) := by decide +kernel
theorem dX8_writeShare_9 : decode cX8_writeShare 9 = .ok (.getfield 31, 3) := by decide +kernel
theorem dX8_writeShare_12 : decode cX8_writeShare 12 = .ok (.invokestatic 35, 3) := by decide +kernel
theorem dX8_writeShare_15 : decode cX8_writeShare 15 = .ok (.aload_n 1, 1) := by decide +kernel
theorem dX8_writeShare_16 : decode cX8_writeShare 16 = .ok (.getfield 41, 3) := by decide +kernel
theorem dX8_writeShare_19 : decode cX8_writeShare 19 = .ok (.invokevirtual 44, 3) := by decide +kernel
theorem dX8_writeShare_22 : decode cX8_writeShare 22 = .ok (.aload_n 0, 1) := by decide +kernel
theorem dX8_writeShare_23 : decode cX8_writeShare 23 = .ok (.aload_n 1, 1) := by decide +kernel
theorem dX8_writeShare_24 : decode cX8_writeShare 24 = .ok (.getfield 31, 3) := by decide +kernel
theorem dX8_writeShare_27 : decode cX8_writeShare 27 = .ok (.lconst 0, 1) := by decide +kernel
theorem dX8_writeShare_28 : decode cX8_writeShare 28 = .ok (.lcmp, 1) := by decide +kernel
theorem dX8_writeShare_29 : decode cX8_writeShare 29 = .ok (.ifCond .ge 7, 3) := by decide +kernel
theorem dX8_writeShare_32 : decode cX8_writeShare 32 = .ok (.iconst 1, 1) := by decide +kernel
theorem dX8_writeShare_33 : decode cX8_writeShare 33 = .ok (.goto 4, 3) := by decide +kernel
theorem dX8_writeShare_36 : decode cX8_writeShare 36 = .ok (.iconst 0, 1) := by decide +kernel
theorem dX8_writeShare_37 : decode cX8_writeShare 37 = .ok (.aload_n 0, 1) := by decide +kernel
theorem dX8_writeShare_38 : decode cX8_writeShare 38 = .ok (.getfield 22, 3) := by decide +kernel
theorem dX8_writeShare_41 : decode cX8_writeShare 41 = .ok (.invokevirtual 48, 3) := by decide +kernel
theorem dX8_writeShare_44 : decode cX8_writeShare 44 = .ok (.return_, 1) := by decide +kernel
theorem dX8_writeRatio_0 : decode cX8_writeRatio 0 = .ok (.aload_n 0, 1) := by decide +kernel
theorem dX8_writeRatio_1 : decode cX8_writeRatio 1 = .ok (.iconst 0, 1) := by decide +kernel
theorem dX8_writeRatio_2 : decode cX8_writeRatio 2 = .ok (.putfield 9, 3) := by decide +kernel
theorem dX8_writeRatio_5 : decode cX8_writeRatio 5 = .ok (.iload_n 1, 1) := by decide +kernel
theorem dX8_writeRatio_6 : decode cX8_writeRatio 6 = .ok (.ifCond .eq 9, 3) := by decide +kernel
theorem dX8_writeRatio_9 : decode cX8_writeRatio 9 = .ok (.aload_n 0, 1) := by decide +kernel
theorem dX8_writeRatio_10 : decode cX8_writeRatio 10 = .ok (.bipush 45, 2) := by decide +kernel
theorem dX8_writeRatio_12 : decode cX8_writeRatio 12 = .ok (.invokevirtual 52, 3) := by decide +kernel
theorem dX8_writeRatio_15 : decode cX8_writeRatio 15 = .ok (.aload_n 0, 1) := by decide +kernel
theorem dX8_writeRatio_16 : decode cX8_writeRatio 16 = .ok (.aload_n 2, 1) := by decide +kernel
theorem dX8_writeRatio_17 : decode cX8_writeRatio 17 = .ok (.getfield 56, 3) := by decide +kernel
theorem dX8_writeRatio_20 : decode cX8_writeRatio 20 = .ok (.invokevirtual 59, 3) := by decide +kernel
theorem dX8_writeRatio_23 : decode cX8_writeRatio 23 = .ok (.aload_n 0, 1) := by decide +kernel
theorem dX8_writeRatio_24 : decode cX8_writeRatio 24 = .ok (.bipush 47, 2) := by decide +kernel
theorem dX8_writeRatio_26 : decode cX8_writeRatio 26 = .ok (.invokevirtual 52, 3) := by decide +kernel
theorem dX8_writeRatio_29 : decode cX8_writeRatio 29 = .ok (.aload_n 0, 1) := by decide +kernel
theorem dX8_writeRatio_30 : decode cX8_writeRatio 30 = .ok (.aload_n 2, 1) := by decide +kernel
theorem dX8_writeRatio_31 : decode cX8_writeRatio 31 = .ok (.getfield 63, 3) := by decide +kernel
theorem dX8_writeRatio_34 : decode cX8_writeRatio 34 = .ok (.invokevirtual 59, 3) := by decide +kernel
theorem dX8_writeRatio_37 : decode cX8_writeRatio 37 = .ok (.return_, 1) := by decide +kernel
theorem dX8_writeWhole_0 : decode cX8_writeWhole 0 = .ok (.iconst 0, 1) := by decide +kernel
theorem dX8_writeWhole_1 : decode cX8_writeWhole 1 = .ok (.istore_n 2, 1) := by decide +kernel
theorem dX8_writeWhole_2 : decode cX8_writeWhole 2 = .ok (.iconst 5, 1) := by decide +kernel
theorem dX8_writeWhole_3 : decode cX8_writeWhole 3 = .ok (.istore_n 3, 1) := by decide +kernel
theorem dX8_writeWhole_4 : decode cX8_writeWhole 4 = .ok (.iload_n 3, 1) := by decide +kernel
theorem dX8_writeWhole_5 : decode cX8_writeWhole 5 = .ok (.ifCond .lt 91, 3) := by decide +kernel
theorem dX8_writeWhole_8 : decode cX8_writeWhole 8 = .ok (.ldc2_w 65, 3) := by decide +kernel
theorem dX8_writeWhole_11 : decode cX8_writeWhole 11 = .ok (.lstore 4, 2) := by decide +kernel
theorem dX8_writeWhole_13 : decode cX8_writeWhole 13 = .ok (.lload 4, 2) := by decide +kernel
theorem dX8_writeWhole_15 : decode cX8_writeWhole 15 = .ok (.lconst 0, 1) := by decide +kernel
theorem dX8_writeWhole_16 : decode cX8_writeWhole 16 = .ok (.lcmp, 1) := by decide +kernel
theorem dX8_writeWhole_17 : decode cX8_writeWhole 17 = .ok (.ifCond .le 73, 3) := by decide +kernel
theorem dX8_writeWhole_20 : decode cX8_writeWhole 20 = .ok (.aload_n 1, 1) := by decide +kernel
theorem dX8_writeWhole_21 : decode cX8_writeWhole 21 = .ok (.getfield 67, 3) := by decide +kernel
theorem dX8_writeWhole_24 : decode cX8_writeWhole 24 = .ok (.iload_n 3, 1) := by decide +kernel
theorem dX8_writeWhole_25 : decode cX8_writeWhole 25 = .ok (.laload, 1) := by decide +kernel
theorem dX8_writeWhole_26 : decode cX8_writeWhole 26 = .ok (.lload 4, 2) := by decide +kernel
theorem dX8_writeWhole_28 : decode cX8_writeWhole 28 = .ok (.ldiv, 1) := by decide +kernel
theorem dX8_writeWhole_29 : decode cX8_writeWhole 29 = .ok (.ldc2_w 71, 3) := by decide +kernel
theorem dX8_writeWhole_32 : decode cX8_writeWhole 32 = .ok (.lrem, 1) := by decide +kernel
theorem dX8_writeWhole_33 : decode cX8_writeWhole 33 = .ok (.lstore 6, 2) := by decide +kernel
theorem dX8_writeWhole_35 : decode cX8_writeWhole 35 = .ok (.iload_n 2, 1) := by decide +kernel
theorem dX8_writeWhole_36 : decode cX8_writeWhole 36 = .ok (.ifCond .ne 21, 3) := by decide +kernel
theorem dX8_writeWhole_39 : decode cX8_writeWhole 39 = .ok (.lload 6, 2) := by decide +kernel
theorem dX8_writeWhole_41 : decode cX8_writeWhole 41 = .ok (.lconst 0, 1) := by decide +kernel
theorem dX8_writeWhole_42 : decode cX8_writeWhole 42 = .ok (.lcmp, 1) := by decide +kernel
theorem dX8_writeWhole_43 : decode cX8_writeWhole 43 = .ok (.ifCond .ne 14, 3) := by decide +kernel
theorem dX8_writeWhole_46 : decode cX8_writeWhole 46 = .ok (.iload_n 3, 1) := by decide +kernel
theorem dX8_writeWhole_47 : decode cX8_writeWhole 47 = .ok (.ifCond .ne 14, 3) := by decide +kernel
theorem dX8_writeWhole_50 : decode cX8_writeWhole 50 = .ok (.lload 4, 2) := by decide +kernel
theorem dX8_writeWhole_52 : decode cX8_writeWhole 52 = .ok (.lconst 1, 1) := by decide +kernel
theorem dX8_writeWhole_53 : decode cX8_writeWhole 53 = .ok (.lcmp, 1) := by decide +kernel
theorem dX8_writeWhole_54 : decode cX8_writeWhole 54 = .ok (.ifCond .ne 7, 3) := by decide +kernel
theorem dX8_writeWhole_57 : decode cX8_writeWhole 57 = .ok (.iconst 1, 1) := by decide +kernel
theorem dX8_writeWhole_58 : decode cX8_writeWhole 58 = .ok (.goto 4, 3) := by decide +kernel
theorem dX8_writeWhole_61 : decode cX8_writeWhole 61 = .ok (.iconst 0, 1) := by decide +kernel
theorem dX8_writeWhole_62 : decode cX8_writeWhole 62 = .ok (.istore_n 2, 1) := by decide +kernel
theorem dX8_writeWhole_63 : decode cX8_writeWhole 63 = .ok (.iload_n 2, 1) := by decide +kernel
theorem dX8_writeWhole_64 : decode cX8_writeWhole 64 = .ok (.ifCond .eq 15, 3) := by decide +kernel
theorem dX8_writeWhole_67 : decode cX8_writeWhole 67 = .ok (.aload_n 0, 1) := by decide +kernel
theorem dX8_writeWhole_68 : decode cX8_writeWhole 68 = .ok (.ldc2_w 73, 3) := by decide +kernel
theorem dX8_writeWhole_71 : decode cX8_writeWhole 71 = .ok (.lload 6, 2) := by decide +kernel
theorem dX8_writeWhole_73 : decode cX8_writeWhole 73 = .ok (.ladd, 1) := by decide +kernel
theorem dX8_writeWhole_74 : decode cX8_writeWhole 74 = .ok (.l2i, 1) := by decide +kernel
theorem dX8_writeWhole_75 : decode cX8_writeWhole 75 = .ok (.i2c, 1) := by decide +kernel
theorem dX8_writeWhole_76 : decode cX8_writeWhole 76 = .ok (.invokevirtual 52, 3) := by decide +kernel
theorem dX8_writeWhole_79 : decode cX8_writeWhole 79 = .ok (.lload 4, 2) := by decide +kernel
theorem dX8_writeWhole_81 : decode cX8_writeWhole 81 = .ok (.ldc2_w 71, 3) := by decide +kernel
theorem dX8_writeWhole_84 : decode cX8_writeWhole 84 = .ok (.ldiv, 1) := by decide +kernel
theorem dX8_writeWhole_85 : decode cX8_writeWhole 85 = .ok (.lstore 4, 2) := by decide +kernel
theorem dX8_writeWhole_87 : decode cX8_writeWhole 87 = .ok (.goto (-74), 3) := by decide +kernel
theorem dX8_writeWhole_90 : decode cX8_writeWhole 90 = .ok (.iinc 3 (-1), 3) := by decide +kernel
theorem dX8_writeWhole_93 : decode cX8_writeWhole 93 = .ok (.goto (-89), 3) := by decide +kernel
theorem dX8_writeWhole_96 : decode cX8_writeWhole 96 = .ok (.return_, 1) := by decide +kernel
theorem dX8_write_0 : decode cX8_write 0 = .ok (.aload_n 0, 1) := by decide +kernel
theorem dX8_write_1 : decode cX8_write 1 = .ok (.getfield 9, 3) := by decide +kernel
theorem dX8_write_4 : decode cX8_write 4 = .ok (.bipush 110, 2) := by decide +kernel
theorem dX8_write_6 : decode cX8_write 6 = .ok (.if_icmp .ge 23, 3) := by decide +kernel
theorem dX8_write_9 : decode cX8_write 9 = .ok (.aload_n 0, 1) := by decide +kernel
theorem dX8_write_10 : decode cX8_write 10 = .ok (.getfield 15, 3) := by decide +kernel
theorem dX8_write_13 : decode cX8_write 13 = .ok (.aload_n 0, 1) := by decide +kernel
theorem dX8_write_14 : decode cX8_write 14 = .ok (.getfield 9, 3) := by decide +kernel
theorem dX8_write_17 : decode cX8_write 17 = .ok (.iload_n 1, 1) := by decide +kernel
theorem dX8_write_18 : decode cX8_write 18 = .ok (.iastore, 1) := by decide +kernel
theorem dX8_write_19 : decode cX8_write 19 = .ok (.aload_n 0, 1) := by decide +kernel
theorem dX8_write_20 : decode cX8_write 20 = .ok (.dup, 1) := by decide +kernel
theorem dX8_write_21 : decode cX8_write 21 = .ok (.getfield 9, 3) := by decide +kernel
theorem dX8_write_24 : decode cX8_write 24 = .ok (.iconst 1, 1) := by decide +kernel
theorem dX8_write_25 : decode cX8_write 25 = .ok (.iadd, 1) := by decide +kernel
theorem dX8_write_26 : decode cX8_write 26 = .ok (.putfield 9, 3) := by decide +kernel
theorem dX8_write_29 : decode cX8_write 29 = .ok (.return_, 1) := by decide +kernel
theorem dX9_init_0 : decode cX9_init 0 = .ok (.aload_n 0, 1) := by decide +kernel
theorem dX9_init_1 : decode cX9_init 1 = .ok (.invokespecial 1, 3) := by decide +kernel
theorem dX9_init_4 : decode cX9_init 4 = .ok (.aload_n 0, 1) := by decide +kernel
theorem dX9_init_5 : decode cX9_init 5 = .ok (.new 7, 3) := by decide +kernel
theorem dX9_init_8 : decode cX9_init 8 = .ok (.dup, 1) := by decide +kernel
theorem dX9_init_9 : decode cX9_init 9 = .ok (.invokespecial 9, 3) := by decide +kernel
theorem dX9_init_12 : decode cX9_init 12 = .ok (.putfield 10, 3) := by decide +kernel
theorem dX9_init_15 : decode cX9_init 15 = .ok (.aload_n 0, 1) := by decide +kernel
theorem dX9_init_16 : decode cX9_init 16 = .ok (.new 7, 3) := by decide +kernel
theorem dX9_init_19 : decode cX9_init 19 = .ok (.dup, 1) := by decide +kernel
theorem dX9_init_20 : decode cX9_init 20 = .ok (.invokespecial 9, 3) := by decide +kernel
theorem dX9_init_23 : decode cX9_init 23 = .ok (.putfield 16, 3) := by decide +kernel
theorem dX9_init_26 : decode cX9_init 26 = .ok (.aload_n 0, 1) := by decide +kernel
theorem dX9_init_27 : decode cX9_init 27 = .ok (.bipush 24, 2) := by decide +kernel
theorem dX9_init_29 : decode cX9_init 29 = .ok (.newarray .int, 2) := by decide +kernel
theorem dX9_init_31 : decode cX9_init 31 = .ok (.putfield 21, 3) := by decide +kernel
theorem dX9_init_34 : decode cX9_init 34 = .ok (.aload_n 0, 1) := by decide +kernel
theorem dX9_init_35 : decode cX9_init 35 = .ok (.iconst 0, 1) := by decide +kernel
theorem dX9_init_36 : decode cX9_init 36 = .ok (.putfield 25, 3) := by decide +kernel
theorem dX9_init_39 : decode cX9_init 39 = .ok (.aload_n 0, 1) := by decide +kernel
theorem dX9_init_40 : decode cX9_init 40 = .ok (.iconst 0, 1) := by decide +kernel
theorem dX9_init_41 : decode cX9_init 41 = .ok (.putfield 29, 3) := by decide +kernel
theorem dX9_init_44 : decode cX9_init 44 = .ok (.aload_n 0, 1) := by decide +kernel
theorem dX9_init_45 : decode cX9_init 45 = .ok (.lconst 0, 1) := by decide +kernel
theorem dX9_init_46 : decode cX9_init 46 = .ok (.putfield 32, 3) := by decide +kernel
theorem dX9_init_49 : decode cX9_init 49 = .ok (.return_, 1) := by decide +kernel
theorem dX9_arm_0 : decode cX9_arm 0 = .ok (.iconst 0, 1) := by decide +kernel
theorem dX9_arm_1 : decode cX9_arm 1 = .ok (.istore_n 3, 1) := by decide +kernel
theorem dX9_arm_2 : decode cX9_arm 2 = .ok (.lconst 0, 1) := by decide +kernel
theorem dX9_arm_3 : decode cX9_arm 3 = .ok (.lstore 4, 2) := by decide +kernel
theorem dX9_arm_5 : decode cX9_arm 5 = .ok (.aload_n 0, 1) := by decide +kernel
theorem dX9_arm_6 : decode cX9_arm 6 = .ok (.getfield 21, 3) := by decide +kernel
theorem dX9_arm_9 : decode cX9_arm 9 = .ok (.iconst 0, 1) := by decide +kernel
theorem dX9_arm_10 : decode cX9_arm 10 = .ok (.invokestatic 36, 3) := by decide +kernel
theorem dX9_arm_13 : decode cX9_arm 13 = .ok (.iconst 0, 1) := by decide +kernel
theorem dX9_arm_14 : decode cX9_arm 14 = .ok (.istore 6, 2) := by decide +kernel
theorem dX9_arm_16 : decode cX9_arm 16 = .ok (.iload 6, 2) := by decide +kernel
theorem dX9_arm_18 : decode cX9_arm 18 = .ok (.aload_n 1, 1) := by decide +kernel
theorem dX9_arm_19 : decode cX9_arm 19 = .ok (.getfield 42, 3) := by decide +kernel
theorem dX9_arm_22 : decode cX9_arm 22 = .ok (.if_icmp .ge 61, 3) := by decide +kernel
theorem dX9_arm_25 : decode cX9_arm 25 = .ok (.aload_n 0, 1) := by decide +kernel
theorem dX9_arm_26 : decode cX9_arm 26 = .ok (.getfield 21, 3) := by decide +kernel
theorem dX9_arm_29 : decode cX9_arm 29 = .ok (.aload_n 1, 1) := by decide +kernel
theorem dX9_arm_30 : decode cX9_arm 30 = .ok (.getfield 45, 3) := by decide +kernel
theorem dX9_arm_33 : decode cX9_arm 33 = .ok (.iload 6, 2) := by decide +kernel
theorem dX9_arm_35 : decode cX9_arm 35 = .ok (.iaload, 1) := by decide +kernel
theorem dX9_arm_36 : decode cX9_arm 36 = .ok (.dup2, 1) := by decide +kernel
theorem dX9_arm_37 : decode cX9_arm 37 = .ok (.iaload, 1) := by decide +kernel
theorem dX9_arm_38 : decode cX9_arm 38 = .ok (.iconst 2, 1) := by decide +kernel
theorem dX9_arm_39 : decode cX9_arm 39 = .ok (.aload_n 2, 1) := by decide +kernel
theorem dX9_arm_40 : decode cX9_arm 40 = .ok (.iload 6, 2) := by decide +kernel
theorem dX9_arm_42 : decode cX9_arm 42 = .ok (.iaload, 1) := by decide +kernel
theorem dX9_arm_43 : decode cX9_arm 43 = .ok (.imul, 1) := by decide +kernel
theorem dX9_arm_44 : decode cX9_arm 44 = .ok (.iadd, 1) := by decide +kernel
theorem dX9_arm_45 : decode cX9_arm 45 = .ok (.iastore, 1) := by decide +kernel
theorem dX9_arm_46 : decode cX9_arm 46 = .ok (.iload_n 3, 1) := by decide +kernel
theorem dX9_arm_47 : decode cX9_arm 47 = .ok (.aload_n 2, 1) := by decide +kernel
theorem dX9_arm_48 : decode cX9_arm 48 = .ok (.iload 6, 2) := by decide +kernel
theorem dX9_arm_50 : decode cX9_arm 50 = .ok (.iaload, 1) := by decide +kernel
theorem dX9_arm_51 : decode cX9_arm 51 = .ok (.iadd, 1) := by decide +kernel
theorem dX9_arm_52 : decode cX9_arm 52 = .ok (.istore_n 3, 1) := by decide +kernel
theorem dX9_arm_53 : decode cX9_arm 53 = .ok (.lload 4, 2) := by decide +kernel
theorem dX9_arm_55 : decode cX9_arm 55 = .ok (.aload_n 2, 1) := by decide +kernel
theorem dX9_arm_56 : decode cX9_arm 56 = .ok (.iload 6, 2) := by decide +kernel
theorem dX9_arm_58 : decode cX9_arm 58 = .ok (.iaload, 1) := by decide +kernel
theorem dX9_arm_59 : decode cX9_arm 59 = .ok (.i2l, 1) := by decide +kernel
theorem dX9_arm_60 : decode cX9_arm 60 = .ok (.aload_n 1, 1) := by decide +kernel
theorem dX9_arm_61 : decode cX9_arm 61 = .ok (.getfield 48, 3) := by decide +kernel
theorem dX9_arm_64 : decode cX9_arm 64 = .ok (.iload 6, 2) := by decide +kernel
theorem dX9_arm_66 : decode cX9_arm 66 = .ok (.iaload, 1) := by decide +kernel
theorem dX9_arm_67 : decode cX9_arm 67 = .ok (.aload_n 1, 1) := by decide +kernel
theorem dX9_arm_68 : decode cX9_arm 68 = .ok (.getfield 51, 3) := by decide +kernel
theorem dX9_arm_71 : decode cX9_arm 71 = .ok (.isub, 1) := by decide +kernel
theorem dX9_arm_72 : decode cX9_arm 72 = .ok (.i2l, 1) := by decide +kernel
theorem dX9_arm_73 : decode cX9_arm 73 = .ok (.lmul, 1) := by decide +kernel
theorem dX9_arm_74 : decode cX9_arm 74 = .ok (.lsub, 1) := by decide +kernel
theorem dX9_arm_75 : decode cX9_arm 75 = .ok (.lstore 4, 2) := by decide +kernel
theorem dX9_arm_77 : decode cX9_arm 77 = .ok (.iinc 6 1, 3) := by decide +kernel
theorem dX9_arm_80 : decode cX9_arm 80 = .ok (.goto (-64), 3) := by decide +kernel
theorem dX9_arm_83 : decode cX9_arm 83 = .ok (.aload_n 0, 1) := by decide +kernel
theorem dX9_arm_84 : decode cX9_arm 84 = .ok (.iload_n 3, 1) := by decide +kernel
theorem dX9_arm_85 : decode cX9_arm 85 = .ok (.ineg, 1) := by decide +kernel
theorem dX9_arm_86 : decode cX9_arm 86 = .ok (.putfield 25, 3) := by decide +kernel
theorem dX9_arm_89 : decode cX9_arm 89 = .ok (.aload_n 0, 1) := by decide +kernel
theorem dX9_arm_90 : decode cX9_arm 90 = .ok (.aload_n 1, 1) := by decide +kernel
theorem dX9_arm_91 : decode cX9_arm 91 = .ok (.getfield 54, 3) := by decide +kernel
theorem dX9_arm_94 : decode cX9_arm 94 = .ok (.iload_n 3, 1) := by decide +kernel
theorem dX9_arm_95 : decode cX9_arm 95 = .ok (.iadd, 1) := by decide +kernel
theorem dX9_arm_96 : decode cX9_arm 96 = .ok (.putfield 29, 3) := by decide +kernel
theorem dX9_arm_99 : decode cX9_arm 99 = .ok (.aload_n 0, 1) := by decide +kernel
theorem dX9_arm_100 : decode cX9_arm 100 = .ok (.ldc2_w 57, 3) := by decide +kernel
theorem dX9_arm_103 : decode cX9_arm 103 = .ok (.lload 4, 2) := by decide +kernel
theorem dX9_arm_105 : decode cX9_arm 105 = .ok (.lmul, 1) := by decide +kernel
theorem dX9_arm_106 : decode cX9_arm 106 = .ok (.putfield 32, 3) := by decide +kernel
theorem dX9_arm_109 : decode cX9_arm 109 = .ok (.return_, 1) := by decide +kernel
theorem dX9_reaches_0 : decode cX9_reaches 0 = .ok (.aload_n 0, 1) := by decide +kernel
theorem dX9_reaches_1 : decode cX9_reaches 1 = .ok (.getfield 25, 3) := by decide +kernel
theorem dX9_reaches_4 : decode cX9_reaches 4 = .ok (.iload_n 1, 1) := by decide +kernel
theorem dX9_reaches_5 : decode cX9_reaches 5 = .ok (.if_icmp .gt 15, 3) := by decide +kernel
theorem dX9_reaches_8 : decode cX9_reaches 8 = .ok (.iload_n 1, 1) := by decide +kernel
theorem dX9_reaches_9 : decode cX9_reaches 9 = .ok (.aload_n 0, 1) := by decide +kernel
theorem dX9_reaches_10 : decode cX9_reaches 10 = .ok (.getfield 29, 3) := by decide +kernel
theorem dX9_reaches_13 : decode cX9_reaches 13 = .ok (.if_icmp .gt 7, 3) := by decide +kernel
theorem dX9_reaches_16 : decode cX9_reaches 16 = .ok (.iconst 1, 1) := by decide +kernel
theorem dX9_reaches_17 : decode cX9_reaches 17 = .ok (.goto 4, 3) := by decide +kernel
theorem dX9_reaches_20 : decode cX9_reaches 20 = .ok (.iconst 0, 1) := by decide +kernel
theorem dX9_reaches_21 : decode cX9_reaches 21 = .ok (.ireturn, 1) := by decide +kernel
theorem dX9_bearsOn_0 : decode cX9_bearsOn 0 = .ok (.aload_n 0, 1) := by decide +kernel
theorem dX9_bearsOn_1 : decode cX9_bearsOn 1 = .ok (.iload_n 2, 1) := by decide +kernel
theorem dX9_bearsOn_2 : decode cX9_bearsOn 2 = .ok (.invokevirtual 59, 3) := by decide +kernel
theorem dX9_bearsOn_5 : decode cX9_bearsOn 5 = .ok (.ifCond .ne 5, 3) := by decide +kernel
theorem dX9_bearsOn_8 : decode cX9_bearsOn 8 = .ok (.iconst 0, 1) := by decide +kernel
theorem dX9_bearsOn_9 : decode cX9_bearsOn 9 = .ok (.ireturn, 1) := by decide +kernel
theorem dX9_bearsOn_10 : decode cX9_bearsOn 10 = .ok (.aload_n 0, 1) := by decide +kernel
theorem dX9_bearsOn_11 : decode cX9_bearsOn 11 = .ok (.aload_n 1, 1) := by decide +kernel
theorem dX9_bearsOn_12 : decode cX9_bearsOn 12 = .ok (.iload_n 2, 1) := by decide +kernel
theorem dX9_bearsOn_13 : decode cX9_bearsOn 13 = .ok (.iload 4, 2) := by decide +kernel
theorem dX9_bearsOn_15 : decode cX9_bearsOn 15 = .ok (.invokevirtual 63, 3) := by decide +kernel
theorem dX9_bearsOn_18 : decode cX9_bearsOn 18 = .ok (.iload_n 3, 1) := by decide +kernel
theorem dX9_bearsOn_19 : decode cX9_bearsOn 19 = .ok (.i2l, 1) := by decide +kernel
theorem dX9_bearsOn_20 : decode cX9_bearsOn 20 = .ok (.aload_n 0, 1) := by decide +kernel
theorem dX9_bearsOn_21 : decode cX9_bearsOn 21 = .ok (.getfield 10, 3) := by decide +kernel
theorem dX9_bearsOn_24 : decode cX9_bearsOn 24 = .ok (.getfield 66, 3) := by decide +kernel
theorem dX9_bearsOn_27 : decode cX9_bearsOn 27 = .ok (.lmul, 1) := by decide +kernel
theorem dX9_bearsOn_28 : decode cX9_bearsOn 28 = .ok (.lstore 5, 2) := by decide +kernel
theorem dX9_bearsOn_30 : decode cX9_bearsOn 30 = .ok (.iload 4, 2) := by decide +kernel
theorem dX9_bearsOn_32 : decode cX9_bearsOn 32 = .ok (.ifCond .eq 24, 3) := by decide +kernel
theorem dX9_bearsOn_35 : decode cX9_bearsOn 35 = .ok (.lload 5, 2) := by decide +kernel
theorem dX9_bearsOn_37 : decode cX9_bearsOn 37 = .ok (.aload_n 0, 1) := by decide +kernel
theorem dX9_bearsOn_38 : decode cX9_bearsOn 38 = .ok (.getfield 10, 3) := by decide +kernel
theorem dX9_bearsOn_41 : decode cX9_bearsOn 41 = .ok (.getfield 69, 3) := by decide +kernel
theorem dX9_bearsOn_44 : decode cX9_bearsOn 44 = .ok (.lcmp, 1) := by decide +kernel
theorem dX9_bearsOn_45 : decode cX9_bearsOn 45 = .ok (.ifCond .gt 7, 3) := by decide +kernel
theorem dX9_bearsOn_48 : decode cX9_bearsOn 48 = .ok (.iconst 1, 1) := by decide +kernel
theorem dX9_bearsOn_49 : decode cX9_bearsOn 49 = .ok (.goto 25, 3) := by decide +kernel
theorem dX9_bearsOn_52 : decode cX9_bearsOn 52 = .ok (.iconst 0, 1) := by decide +kernel
theorem dX9_bearsOn_53 : decode cX9_bearsOn 53 = .ok (.goto 21, 3) := by decide +kernel
theorem dX9_bearsOn_56 : decode cX9_bearsOn 56 = .ok (.lload 5, 2) := by decide +kernel
theorem dX9_bearsOn_58 : decode cX9_bearsOn 58 = .ok (.aload_n 0, 1) := by decide +kernel
theorem dX9_bearsOn_59 : decode cX9_bearsOn 59 = .ok (.getfield 10, 3) := by decide +kernel
theorem dX9_bearsOn_62 : decode cX9_bearsOn 62 = .ok (.getfield 69, 3) := by decide +kernel
theorem dX9_bearsOn_65 : decode cX9_bearsOn 65 = .ok (.lcmp, 1) := by decide +kernel
theorem dX9_bearsOn_66 : decode cX9_bearsOn 66 = .ok (.ifCond .lt 7, 3) := by decide +kernel
theorem dX9_bearsOn_69 : decode cX9_bearsOn 69 = .ok (.iconst 1, 1) := by decide +kernel
theorem dX9_bearsOn_70 : decode cX9_bearsOn 70 = .ok (.goto 4, 3) := by decide +kernel
theorem dX9_bearsOn_73 : decode cX9_bearsOn 73 = .ok (.iconst 0, 1) := by decide +kernel
theorem dX9_bearsOn_74 : decode cX9_bearsOn 74 = .ok (.ireturn, 1) := by decide +kernel
theorem dX9_fill_0 : decode cX9_fill 0 = .ok (.iload_n 2, 1) := by decide +kernel
theorem dX9_fill_1 : decode cX9_fill 1 = .ok (.i2l, 1) := by decide +kernel
theorem dX9_fill_2 : decode cX9_fill 2 = .ok (.aload_n 0, 1) := by decide +kernel
theorem dX9_fill_3 : decode cX9_fill 3 = .ok (.getfield 25, 3) := by decide +kernel
theorem dX9_fill_6 : decode cX9_fill 6 = .ok (.i2l, 1) := by decide +kernel
theorem dX9_fill_7 : decode cX9_fill 7 = .ok (.lsub, 1) := by decide +kernel
theorem dX9_fill_8 : decode cX9_fill 8 = .ok (.lstore 4, 2) := by decide +kernel
theorem dX9_fill_10 : decode cX9_fill 10 = .ok (.aload_n 0, 1) := by decide +kernel
theorem dX9_fill_11 : decode cX9_fill 11 = .ok (.getfield 32, 3) := by decide +kernel
theorem dX9_fill_14 : decode cX9_fill 14 = .ok (.lstore 6, 2) := by decide +kernel
theorem dX9_fill_16 : decode cX9_fill 16 = .ok (.iconst 0, 1) := by decide +kernel
theorem dX9_fill_17 : decode cX9_fill 17 = .ok (.istore 8, 2) := by decide +kernel
theorem dX9_fill_19 : decode cX9_fill 19 = .ok (.lconst 1, 1) := by decide +kernel
theorem dX9_fill_20 : decode cX9_fill 20 = .ok (.lstore 9, 2) := by decide +kernel
theorem dX9_fill_22 : decode cX9_fill 22 = .ok (.iconst 0, 1) := by decide +kernel
theorem dX9_fill_23 : decode cX9_fill 23 = .ok (.istore 11, 2) := by decide +kernel
theorem dX9_fill_25 : decode cX9_fill 25 = .ok (.iconst 0, 1) := by decide +kernel
theorem dX9_fill_26 : decode cX9_fill 26 = .ok (.istore 12, 2) := by decide +kernel
theorem dX9_fill_28 : decode cX9_fill 28 = .ok (.iload 12, 2) := by decide +kernel
theorem dX9_fill_30 : decode cX9_fill 30 = .ok (.aload_n 1, 1) := by decide +kernel
theorem dX9_fill_31 : decode cX9_fill 31 = .ok (.getfield 72, 3) := by decide +kernel
theorem dX9_fill_34 : decode cX9_fill 34 = .ok (.if_icmp .ge 230, 3) := by decide +kernel
theorem dX9_fill_37 : decode cX9_fill 37 = .ok (.iload 11, 2) := by decide +kernel
theorem dX9_fill_39 : decode cX9_fill 39 = .ok (.ifCond .ne 225, 3) := by decide +kernel
theorem dX9_fill_42 : decode cX9_fill 42 = .ok (.iload_n 3, 1) := by decide +kernel
theorem dX9_fill_43 : decode cX9_fill 43 = .ok (.ifCond .eq 15, 3) := by decide +kernel
theorem dX9_fill_46 : decode cX9_fill 46 = .ok (.aload_n 1, 1) := by decide +kernel
theorem dX9_fill_47 : decode cX9_fill 47 = .ok (.getfield 72, 3) := by decide +kernel
theorem dX9_fill_50 : decode cX9_fill 50 = .ok (.iconst 1, 1) := by decide +kernel
theorem dX9_fill_51 : decode cX9_fill 51 = .ok (.isub, 1) := by decide +kernel
theorem dX9_fill_52 : decode cX9_fill 52 = .ok (.iload 12, 2) := by decide +kernel
theorem dX9_fill_54 : decode cX9_fill 54 = .ok (.isub, 1) := by decide +kernel
theorem dX9_fill_55 : decode cX9_fill 55 = .ok (.goto 5, 3) := by decide +kernel
theorem dX9_fill_58 : decode cX9_fill 58 = .ok (.iload 12, 2) := by decide +kernel
theorem dX9_fill_60 : decode cX9_fill 60 = .ok (.istore 13, 2) := by decide +kernel
theorem dX9_fill_62 : decode cX9_fill 62 = .ok (.iload_n 3, 1) := by decide +kernel
theorem dX9_fill_63 : decode cX9_fill 63 = .ok (.ifCond .eq 10, 3) := by decide +kernel
theorem dX9_fill_66 : decode cX9_fill 66 = .ok (.iload 13, 2) := by decide +kernel
theorem dX9_fill_68 : decode cX9_fill 68 = .ok (.iconst 1, 1) := by decide +kernel
theorem dX9_fill_69 : decode cX9_fill 69 = .ok (.isub, 1) := by decide +kernel
theorem dX9_fill_70 : decode cX9_fill 70 = .ok (.goto 7, 3) := by decide +kernel
theorem dX9_fill_73 : decode cX9_fill 73 = .ok (.iload 13, 2) := by decide +kernel
theorem dX9_fill_75 : decode cX9_fill 75 = .ok (.iconst 1, 1) := by decide +kernel
theorem dX9_fill_76 : decode cX9_fill 76 = .ok (.iadd, 1) := by decide +kernel
theorem dX9_fill_77 : decode cX9_fill 77 = .ok (.istore 14, 2) := by decide +kernel
theorem dX9_fill_79 : decode cX9_fill 79 = .ok (.aload_n 1, 1) := by decide +kernel
theorem dX9_fill_80 : decode cX9_fill 80 = .ok (.getfield 75, 3) := by decide +kernel
theorem dX9_fill_83 : decode cX9_fill 83 = .ok (.iload 13, 2) := by decide +kernel
theorem dX9_fill_85 : decode cX9_fill 85 = .ok (.iaload, 1) := by decide +kernel
theorem dX9_fill_86 : decode cX9_fill 86 = .ok (.istore 8, 2) := by decide +kernel
theorem dX9_fill_88 : decode cX9_fill 88 = .ok (.lload 4, 2) := by decide +kernel
theorem dX9_fill_90 : decode cX9_fill 90 = .ok (.aload_n 0, 1) := by decide +kernel
theorem dX9_fill_91 : decode cX9_fill 91 = .ok (.getfield 21, 3) := by decide +kernel
theorem dX9_fill_94 : decode cX9_fill 94 = .ok (.iload 13, 2) := by decide +kernel
theorem dX9_fill_96 : decode cX9_fill 96 = .ok (.iaload, 1) := by decide +kernel
theorem dX9_fill_97 : decode cX9_fill 97 = .ok (.i2l, 1) := by decide +kernel
theorem dX9_fill_98 : decode cX9_fill 98 = .ok (.invokestatic 78, 3) := by decide +kernel
theorem dX9_fill_101 : decode cX9_fill 101 = .ok (.lstore 15, 2) := by decide +kernel
theorem dX9_fill_103 : decode cX9_fill 103 = .ok (.lload 6, 2) := by decide +kernel
theorem dX9_fill_105 : decode cX9_fill 105 = .ok (.ldc2_w 57, 3) := by decide +kernel
theorem dX9_fill_108 : decode cX9_fill 108 = .ok (.lload 15, 2) := by decide +kernel
theorem dX9_fill_110 : decode cX9_fill 110 = .ok (.lmul, 1) := by decide +kernel
theorem dX9_fill_111 : decode cX9_fill 111 = .ok (.iload 8, 2) := by decide +kernel
theorem dX9_fill_113 : decode cX9_fill 113 = .ok (.aload_n 1, 1) := by decide +kernel
theorem dX9_fill_114 : decode cX9_fill 114 = .ok (.getfield 51, 3) := by decide +kernel
theorem dX9_fill_117 : decode cX9_fill 117 = .ok (.isub, 1) := by decide +kernel
theorem dX9_fill_118 : decode cX9_fill 118 = .ok (.i2l, 1) := by decide +kernel
theorem dX9_fill_119 : decode cX9_fill 119 = .ok (.lmul, 1) := by decide +kernel
theorem dX9_fill_120 : decode cX9_fill 120 = .ok (.ladd, 1) := by decide +kernel
theorem dX9_fill_121 : decode cX9_fill 121 = .ok (.lstore 6, 2) := by decide +kernel
theorem dX9_fill_123 : decode cX9_fill 123 = .ok (.lload 4, 2) := by decide +kernel
theorem dX9_fill_125 : decode cX9_fill 125 = .ok (.lload 15, 2) := by decide +kernel
theorem dX9_fill_127 : decode cX9_fill 127 = .ok (.lsub, 1) := by decide +kernel
theorem dX9_fill_128 : decode cX9_fill 128 = .ok (.lstore 4, 2) := by decide +kernel
theorem dX9_fill_130 : decode cX9_fill 130 = .ok (.lload 4, 2) := by decide +kernel
theorem dX9_fill_132 : decode cX9_fill 132 = .ok (.lconst 0, 1) := by decide +kernel
theorem dX9_fill_133 : decode cX9_fill 133 = .ok (.lcmp, 1) := by decide +kernel
theorem dX9_fill_134 : decode cX9_fill 134 = .ok (.ifCond .le 17, 3) := by decide +kernel
theorem dX9_fill_137 : decode cX9_fill 137 = .ok (.iload 14, 2) := by decide +kernel
theorem dX9_fill_139 : decode cX9_fill 139 = .ok (.ifCond .lt 12, 3) := by decide +kernel
theorem dX9_fill_142 : decode cX9_fill 142 = .ok (.iload 14, 2) := by decide +kernel
theorem dX9_fill_144 : decode cX9_fill 144 = .ok (.aload_n 1, 1) := by decide +kernel
theorem dX9_fill_145 : decode cX9_fill 145 = .ok (.getfield 72, 3) := by decide +kernel
theorem dX9_fill_148 : decode cX9_fill 148 = .ok (.if_icmp .lt 7, 3) := by decide +kernel
theorem dX9_fill_151 : decode cX9_fill 151 = .ok (.iconst 1, 1) := by decide +kernel
theorem dX9_fill_152 : decode cX9_fill 152 = .ok (.goto 4, 3) := by decide +kernel
theorem dX9_fill_155 : decode cX9_fill 155 = .ok (.iconst 0, 1) := by decide +kernel
theorem dX9_fill_156 : decode cX9_fill 156 = .ok (.istore 11, 2) := by decide +kernel
theorem dX9_fill_158 : decode cX9_fill 158 = .ok (.iload 11, 2) := by decide +kernel
theorem dX9_fill_160 : decode cX9_fill 160 = .ok (.ifCond .ne 98, 3) := by decide +kernel
theorem dX9_fill_163 : decode cX9_fill 163 = .ok (.aload_n 1, 1) := by decide +kernel
theorem dX9_fill_164 : decode cX9_fill 164 = .ok (.getfield 84, 3) := by decide +kernel
theorem dX9_fill_167 : decode cX9_fill 167 = .ok (.iload 13, 2) := by decide +kernel
theorem dX9_fill_169 : decode cX9_fill 169 = .ok (.iload 14, 2) := by decide +kernel
theorem dX9_fill_171 : decode cX9_fill 171 = .ok (.invokestatic 87, 3) := by decide +kernel
theorem dX9_fill_174 : decode cX9_fill 174 = .ok (.iaload, 1) := by decide +kernel
theorem dX9_fill_175 : decode cX9_fill 175 = .ok (.istore 17, 2) := by decide +kernel
theorem dX9_fill_177 : decode cX9_fill 177 = .ok (.iload 17, 2) := by decide +kernel
theorem dX9_fill_179 : decode cX9_fill 179 = .ok (.i2l, 1) := by decide +kernel
theorem dX9_fill_180 : decode cX9_fill 180 = .ok (.aload_n 1, 1) := by decide +kernel
theorem dX9_fill_181 : decode cX9_fill 181 = .ok (.getfield 75, 3) := by decide +kernel
theorem dX9_fill_184 : decode cX9_fill 184 = .ok (.iload 14, 2) := by decide +kernel
theorem dX9_fill_186 : decode cX9_fill 186 = .ok (.iaload, 1) := by decide +kernel
theorem dX9_fill_187 : decode cX9_fill 187 = .ok (.iload 8, 2) := by decide +kernel
theorem dX9_fill_189 : decode cX9_fill 189 = .ok (.isub, 1) := by decide +kernel
theorem dX9_fill_190 : decode cX9_fill 190 = .ok (.invokestatic 90, 3) := by decide +kernel
theorem dX9_fill_193 : decode cX9_fill 193 = .ok (.i2l, 1) := by decide +kernel
theorem dX9_fill_194 : decode cX9_fill 194 = .ok (.lmul, 1) := by decide +kernel
theorem dX9_fill_195 : decode cX9_fill 195 = .ok (.lstore 18, 2) := by decide +kernel
theorem dX9_fill_197 : decode cX9_fill 197 = .ok (.lload 4, 2) := by decide +kernel
theorem dX9_fill_199 : decode cX9_fill 199 = .ok (.lload 18, 2) := by decide +kernel
theorem dX9_fill_201 : decode cX9_fill 201 = .ok (.lcmp, 1) := by decide +kernel
theorem dX9_fill_202 : decode cX9_fill 202 = .ok (.ifCond .gt 7, 3) := by decide +kernel
theorem dX9_fill_205 : decode cX9_fill 205 = .ok (.iconst 1, 1) := by decide +kernel
theorem dX9_fill_206 : decode cX9_fill 206 = .ok (.goto 4, 3) := by decide +kernel
theorem dX9_fill_209 : decode cX9_fill 209 = .ok (.iconst 0, 1) := by decide +kernel
theorem dX9_fill_210 : decode cX9_fill 210 = .ok (.istore 11, 2) := by decide +kernel
theorem dX9_fill_212 : decode cX9_fill 212 = .ok (.iload 11, 2) := by decide +kernel
theorem dX9_fill_214 : decode cX9_fill 214 = .ok (.ifCond .eq 11, 3) := by decide +kernel
theorem dX9_fill_217 : decode cX9_fill 217 = .ok (.iload 17, 2) := by decide +kernel
theorem dX9_fill_219 : decode cX9_fill 219 = .ok (.i2l, 1) := by decide +kernel
theorem dX9_fill_220 : decode cX9_fill 220 = .ok (.lstore 9, 2) := by decide +kernel
theorem dX9_fill_222 : decode cX9_fill 222 = .ok (.goto 36, 3) := by decide +kernel
theorem dX9_fill_225 : decode cX9_fill 225 = .ok (.lload 6, 2) := by decide +kernel
theorem dX9_fill_227 : decode cX9_fill 227 = .ok (.lload 18, 2) := by decide +kernel
theorem dX9_fill_229 : decode cX9_fill 229 = .ok (.iload 8, 2) := by decide +kernel
theorem dX9_fill_231 : decode cX9_fill 231 = .ok (.aload_n 1, 1) := by decide +kernel
theorem dX9_fill_232 : decode cX9_fill 232 = .ok (.getfield 75, 3) := by decide +kernel
theorem dX9_fill_235 : decode cX9_fill 235 = .ok (.iload 14, 2) := by decide +kernel
theorem dX9_fill_237 : decode cX9_fill 237 = .ok (.iaload, 1) := by decide +kernel
theorem dX9_fill_238 : decode cX9_fill 238 = .ok (.iadd, 1) := by decide +kernel
theorem dX9_fill_239 : decode cX9_fill 239 = .ok (.iconst 2, 1) := by decide +kernel
theorem dX9_fill_240 : decode cX9_fill 240 = .ok (.aload_n 1, 1) := by decide +kernel
theorem dX9_fill_241 : decode cX9_fill 241 = .ok (.getfield 51, 3) := by decide +kernel
theorem dX9_fill_244 : decode cX9_fill 244 = .ok (.imul, 1) := by decide +kernel
theorem dX9_fill_245 : decode cX9_fill 245 = .ok (.isub, 1) := by decide +kernel
theorem dX9_fill_246 : decode cX9_fill 246 = .ok (.i2l, 1) := by decide +kernel
theorem dX9_fill_247 : decode cX9_fill 247 = .ok (.lmul, 1) := by decide +kernel
theorem dX9_fill_248 : decode cX9_fill 248 = .ok (.ladd, 1) := by decide +kernel
theorem dX9_fill_249 : decode cX9_fill 249 = .ok (.lstore 6, 2) := by decide +kernel
theorem dX9_fill_251 : decode cX9_fill 251 = .ok (.lload 4, 2) := by decide +kernel
theorem dX9_fill_253 : decode cX9_fill 253 = .ok (.lload 18, 2) := by decide +kernel
theorem dX9_fill_255 : decode cX9_fill 255 = .ok (.lsub, 1) := by decide +kernel
theorem dX9_fill_256 : decode cX9_fill 256 = .ok (.lstore 4, 2) := by decide +kernel
theorem dX9_fill_258 : decode cX9_fill 258 = .ok (.iinc 12 1, 3) := by decide +kernel
theorem dX9_fill_261 : decode cX9_fill 261 = .ok (.goto (-233), 3) := by decide +kernel
theorem dX9_fill_264 : decode cX9_fill 264 = .ok (.iload_n 3, 1) := by decide +kernel
theorem dX9_fill_265 : decode cX9_fill 265 = .ok (.ifCond .eq 9, 3) := by decide +kernel
theorem dX9_fill_268 : decode cX9_fill 268 = .ok (.lload 4, 2) := by decide +kernel
theorem dX9_fill_270 : decode cX9_fill 270 = .ok (.lneg, 1) := by decide +kernel
theorem dX9_fill_271 : decode cX9_fill 271 = .ok (.goto 5, 3) := by decide +kernel
theorem dX9_fill_274 : decode cX9_fill 274 = .ok (.lload 4, 2) := by decide +kernel
theorem dX9_fill_276 : decode cX9_fill 276 = .ok (.lstore 12, 2) := by decide +kernel
theorem dX9_fill_278 : decode cX9_fill 278 = .ok (.lload 6, 2) := by decide +kernel
theorem dX9_fill_280 : decode cX9_fill 280 = .ok (.ldc2_w 57, 3) := by decide +kernel
theorem dX9_fill_283 : decode cX9_fill 283 = .ok (.lload 4, 2) := by decide +kernel
theorem dX9_fill_285 : decode cX9_fill 285 = .ok (.lmul, 1) := by decide +kernel
theorem dX9_fill_286 : decode cX9_fill 286 = .ok (.iload 8, 2) := by decide +kernel
theorem dX9_fill_288 : decode cX9_fill 288 = .ok (.aload_n 1, 1) := by decide +kernel
theorem dX9_fill_289 : decode cX9_fill 289 = .ok (.getfield 51, 3) := by decide +kernel
theorem dX9_fill_292 : decode cX9_fill 292 = .ok (.isub, 1) := by decide +kernel
theorem dX9_fill_293 : decode cX9_fill 293 = .ok (.i2l, 1) := by decide +kernel
theorem dX9_fill_294 : decode cX9_fill 294 = .ok (.lmul, 1) := by decide +kernel
theorem dX9_fill_295 : decode cX9_fill 295 = .ok (.ladd, 1) := by decide +kernel
theorem dX9_fill_296 : decode cX9_fill 296 = .ok (.lstore 6, 2) := by decide +kernel
theorem dX9_fill_298 : decode cX9_fill 298 = .ok (.aload_n 0, 1) := by decide +kernel
theorem dX9_fill_299 : decode cX9_fill 299 = .ok (.getfield 10, 3) := by decide +kernel
theorem dX9_fill_302 : decode cX9_fill 302 = .ok (.lload 6, 2) := by decide +kernel
theorem dX9_fill_304 : decode cX9_fill 304 = .ok (.lload 9, 2) := by decide +kernel
theorem dX9_fill_306 : decode cX9_fill 306 = .ok (.lmul, 1) := by decide +kernel
theorem dX9_fill_307 : decode cX9_fill 307 = .ok (.lload 12, 2) := by decide +kernel
theorem dX9_fill_309 : decode cX9_fill 309 = .ok (.lload 4, 2) := by decide +kernel
theorem dX9_fill_311 : decode cX9_fill 311 = .ok (.lmul, 1) := by decide +kernel
theorem dX9_fill_312 : decode cX9_fill 312 = .ok (.ladd, 1) := by decide +kernel
theorem dX9_fill_313 : decode cX9_fill 313 = .ok (.putfield 69, 3) := by decide +kernel
theorem dX9_fill_316 : decode cX9_fill 316 = .ok (.aload_n 0, 1) := by decide +kernel
theorem dX9_fill_317 : decode cX9_fill 317 = .ok (.getfield 10, 3) := by decide +kernel
theorem dX9_fill_320 : decode cX9_fill 320 = .ok (.ldc2_w 57, 3) := by decide +kernel
theorem dX9_fill_323 : decode cX9_fill 323 = .ok (.lload 9, 2) := by decide +kernel
theorem dX9_fill_325 : decode cX9_fill 325 = .ok (.lmul, 1) := by decide +kernel
theorem dX9_fill_326 : decode cX9_fill 326 = .ok (.putfield 66, 3) := by decide +kernel
theorem dX9_fill_329 : decode cX9_fill 329 = .ok (.aload_n 0, 1) := by decide +kernel
theorem dX9_fill_330 : decode cX9_fill 330 = .ok (.getfield 16, 3) := by decide +kernel
theorem dX9_fill_333 : decode cX9_fill 333 = .ok (.iload 8, 2) := by decide +kernel
theorem dX9_fill_335 : decode cX9_fill 335 = .ok (.i2l, 1) := by decide +kernel
theorem dX9_fill_336 : decode cX9_fill 336 = .ok (.lload 9, 2) := by decide +kernel
theorem dX9_fill_338 : decode cX9_fill 338 = .ok (.lmul, 1) := by decide +kernel
theorem dX9_fill_339 : decode cX9_fill 339 = .ok (.lload 12, 2) := by decide +kernel
theorem dX9_fill_341 : decode cX9_fill 341 = .ok (.ladd, 1) := by decide +kernel
theorem dX9_fill_342 : decode cX9_fill 342 = .ok (.putfield 69, 3) := by decide +kernel
theorem dX9_fill_345 : decode cX9_fill 345 = .ok (.aload_n 0, 1) := by decide +kernel
theorem dX9_fill_346 : decode cX9_fill 346 = .ok (.getfield 16, 3) := by decide +kernel
theorem dX9_fill_349 : decode cX9_fill 349 = .ok (.lload 9, 2) := by decide +kernel
theorem dX9_fill_351 : decode cX9_fill 351 = .ok (.putfield 66, 3) := by decide +kernel
theorem dX9_fill_354 : decode cX9_fill 354 = .ok (.return_, 1) := by decide +kernel
theorem dX10_init_0 : decode cX10_init 0 = .ok (.aload_n 0, 1) := by decide +kernel
theorem dX10_init_1 : decode cX10_init 1 = .ok (.invokespecial 1, 3) := by decide +kernel
theorem dX10_init_4 : decode cX10_init 4 = .ok (.aload_n 0, 1) := by decide +kernel
theorem dX10_init_5 : decode cX10_init 5 = .ok (.bipush 6, 2) := by decide +kernel
theorem dX10_init_7 : decode cX10_init 7 = .ok (.newarray .long, 2) := by decide +kernel
theorem dX10_init_9 : decode cX10_init 9 = .ok (.putfield 9, 3) := by decide +kernel
theorem dX10_init_12 : decode cX10_init 12 = .ok (.return_, 1) := by decide +kernel
theorem dX10_put_0 : decode cX10_put 0 = .ok (.lload_n 1, 1) := by decide +kernel
theorem dX10_put_1 : decode cX10_put 1 = .ok (.lstore_n 3, 1) := by decide +kernel
theorem dX10_put_2 : decode cX10_put 2 = .ok (.iconst 0, 1) := by decide +kernel
theorem dX10_put_3 : decode cX10_put 3 = .ok (.istore 5, 2) := by decide +kernel
theorem dX10_put_5 : decode cX10_put 5 = .ok (.iload 5, 2) := by decide +kernel
theorem dX10_put_7 : decode cX10_put 7 = .ok (.bipush 6, 2) := by decide +kernel
theorem dX10_put_9 : decode cX10_put 9 = .ok (.if_icmp .ge 27, 3) := by decide +kernel
theorem dX10_put_12 : decode cX10_put 12 = .ok (.aload_n 0, 1) := by decide +kernel
theorem dX10_put_13 : decode cX10_put 13 = .ok (.getfield 9, 3) := by decide +kernel
theorem dX10_put_16 : decode cX10_put 16 = .ok (.iload 5, 2) := by decide +kernel
theorem dX10_put_18 : decode cX10_put 18 = .ok (.lload_n 3, 1) := by decide +kernel
theorem dX10_put_19 : decode cX10_put 19 = .ok (.ldc2_w 13, 3) := by decide +kernel
theorem dX10_put_22 : decode cX10_put 22 = .ok (.lrem, 1) := by decide +kernel
theorem dX10_put_23 : decode cX10_put 23 = .ok (.lastore, 1) := by decide +kernel
theorem dX10_put_24 : decode cX10_put 24 = .ok (.lload_n 3, 1) := by decide +kernel
theorem dX10_put_25 : decode cX10_put 25 = .ok (.ldc2_w 13, 3) := by decide +kernel
theorem dX10_put_28 : decode cX10_put 28 = .ok (.ldiv, 1) := by decide +kernel
theorem dX10_put_29 : decode cX10_put 29 = .ok (.lstore_n 3, 1) := by decide +kernel
theorem dX10_put_30 : decode cX10_put 30 = .ok (.iinc 5 1, 3) := by decide +kernel
theorem dX10_put_33 : decode cX10_put 33 = .ok (.goto (-28), 3) := by decide +kernel
theorem dX10_put_36 : decode cX10_put 36 = .ok (.return_, 1) := by decide +kernel
theorem dX10_copy_0 : decode cX10_copy 0 = .ok (.aload_n 1, 1) := by decide +kernel
theorem dX10_copy_1 : decode cX10_copy 1 = .ok (.getfield 9, 3) := by decide +kernel
theorem dX10_copy_4 : decode cX10_copy 4 = .ok (.iconst 0, 1) := by decide +kernel
theorem dX10_copy_5 : decode cX10_copy 5 = .ok (.aload_n 0, 1) := by decide +kernel
theorem dX10_copy_6 : decode cX10_copy 6 = .ok (.getfield 9, 3) := by decide +kernel
theorem dX10_copy_9 : decode cX10_copy 9 = .ok (.iconst 0, 1) := by decide +kernel
theorem dX10_copy_10 : decode cX10_copy 10 = .ok (.bipush 6, 2) := by decide +kernel
theorem dX10_copy_12 : decode cX10_copy 12 = .ok (.invokestatic 15, 3) := by decide +kernel
theorem dX10_copy_15 : decode cX10_copy 15 = .ok (.return_, 1) := by decide +kernel
theorem dX10_plus_0 : decode cX10_plus 0 = .ok (.lconst 0, 1) := by decide +kernel
theorem dX10_plus_1 : decode cX10_plus 1 = .ok (.lstore_n 2, 1) := by decide +kernel
theorem dX10_plus_2 : decode cX10_plus 2 = .ok (.iconst 0, 1) := by decide +kernel
theorem dX10_plus_3 : decode cX10_plus 3 = .ok (.istore 4, 2) := by decide +kernel
theorem dX10_plus_5 : decode cX10_plus 5 = .ok (.iload 4, 2) := by decide +kernel
theorem dX10_plus_7 : decode cX10_plus 7 = .ok (.bipush 6, 2) := by decide +kernel
theorem dX10_plus_9 : decode cX10_plus 9 = .ok (.if_icmp .ge 48, 3) := by decide +kernel
theorem dX10_plus_12 : decode cX10_plus 12 = .ok (.aload_n 0, 1) := by decide +kernel
theorem dX10_plus_13 : decode cX10_plus 13 = .ok (.getfield 9, 3) := by decide +kernel
theorem dX10_plus_16 : decode cX10_plus 16 = .ok (.iload 4, 2) := by decide +kernel
theorem dX10_plus_18 : decode cX10_plus 18 = .ok (.laload, 1) := by decide +kernel
theorem dX10_plus_19 : decode cX10_plus 19 = .ok (.aload_n 1, 1) := by decide +kernel
theorem dX10_plus_20 : decode cX10_plus 20 = .ok (.getfield 9, 3) := by decide +kernel
theorem dX10_plus_23 : decode cX10_plus 23 = .ok (.iload 4, 2) := by decide +kernel
theorem dX10_plus_25 : decode cX10_plus 25 = .ok (.laload, 1) := by decide +kernel
theorem dX10_plus_26 : decode cX10_plus 26 = .ok (.ladd, 1) := by decide +kernel
theorem dX10_plus_27 : decode cX10_plus 27 = .ok (.lload_n 2, 1) := by decide +kernel
theorem dX10_plus_28 : decode cX10_plus 28 = .ok (.ladd, 1) := by decide +kernel
theorem dX10_plus_29 : decode cX10_plus 29 = .ok (.lstore 5, 2) := by decide +kernel
theorem dX10_plus_31 : decode cX10_plus 31 = .ok (.aload_n 0, 1) := by decide +kernel
theorem dX10_plus_32 : decode cX10_plus 32 = .ok (.getfield 9, 3) := by decide +kernel
theorem dX10_plus_35 : decode cX10_plus 35 = .ok (.iload 4, 2) := by decide +kernel
theorem dX10_plus_37 : decode cX10_plus 37 = .ok (.lload 5, 2) := by decide +kernel
theorem dX10_plus_39 : decode cX10_plus 39 = .ok (.ldc2_w 13, 3) := by decide +kernel
theorem dX10_plus_42 : decode cX10_plus 42 = .ok (.lrem, 1) := by decide +kernel
theorem dX10_plus_43 : decode cX10_plus 43 = .ok (.lastore, 1) := by decide +kernel
theorem dX10_plus_44 : decode cX10_plus 44 = .ok (.lload 5, 2) := by decide +kernel
theorem dX10_plus_46 : decode cX10_plus 46 = .ok (.ldc2_w 13, 3) := by decide +kernel
theorem dX10_plus_49 : decode cX10_plus 49 = .ok (.ldiv, 1) := by decide +kernel
theorem dX10_plus_50 : decode cX10_plus 50 = .ok (.lstore_n 2, 1) := by decide +kernel
theorem dX10_plus_51 : decode cX10_plus 51 = .ok (.iinc 4 1, 3) := by decide +kernel
theorem dX10_plus_54 : decode cX10_plus 54 = .ok (.goto (-49), 3) := by decide +kernel
theorem dX10_plus_57 : decode cX10_plus 57 = .ok (.return_, 1) := by decide +kernel
theorem dX10_product_0 : decode cX10_product 0 = .ok (.aload_n 0, 1) := by decide +kernel
theorem dX10_product_1 : decode cX10_product 1 = .ok (.getfield 9, 3) := by decide +kernel
theorem dX10_product_4 : decode cX10_product 4 = .ok (.lconst 0, 1) := by decide +kernel
theorem dX10_product_5 : decode cX10_product 5 = .ok (.invokestatic 21, 3) := by decide +kernel
theorem dX10_product_8 : decode cX10_product 8 = .ok (.iconst 0, 1) := by decide +kernel
theorem dX10_product_9 : decode cX10_product 9 = .ok (.istore_n 3, 1) := by decide +kernel
theorem dX10_product_10 : decode cX10_product 10 = .ok (.iload_n 3, 1) := by decide +kernel
theorem dX10_product_11 : decode cX10_product 11 = .ok (.bipush 6, 2) := by decide +kernel
theorem dX10_product_13 : decode cX10_product 13 = .ok (.if_icmp .ge 82, 3) := by decide +kernel
theorem dX10_product_16 : decode cX10_product 16 = .ok (.lconst 0, 1) := by decide +kernel
theorem dX10_product_17 : decode cX10_product 17 = .ok (.lstore 4, 2) := by decide +kernel
theorem dX10_product_19 : decode cX10_product 19 = .ok (.iconst 0, 1) := by decide +kernel
theorem dX10_product_20 : decode cX10_product 20 = .ok (.istore 6, 2) := by decide +kernel
theorem dX10_product_22 : decode cX10_product 22 = .ok (.iload_n 3, 1) := by decide +kernel
theorem dX10_product_23 : decode cX10_product 23 = .ok (.iload 6, 2) := by decide +kernel
theorem dX10_product_25 : decode cX10_product 25 = .ok (.iadd, 1) := by decide +kernel
theorem dX10_product_26 : decode cX10_product 26 = .ok (.bipush 6, 2) := by decide +kernel
theorem dX10_product_28 : decode cX10_product 28 = .ok (.if_icmp .ge 61, 3) := by decide +kernel
theorem dX10_product_31 : decode cX10_product 31 = .ok (.aload_n 0, 1) := by decide +kernel
theorem dX10_product_32 : decode cX10_product 32 = .ok (.getfield 9, 3) := by decide +kernel
theorem dX10_product_35 : decode cX10_product 35 = .ok (.iload_n 3, 1) := by decide +kernel
theorem dX10_product_36 : decode cX10_product 36 = .ok (.iload 6, 2) := by decide +kernel
theorem dX10_product_38 : decode cX10_product 38 = .ok (.iadd, 1) := by decide +kernel
theorem dX10_product_39 : decode cX10_product 39 = .ok (.laload, 1) := by decide +kernel
theorem dX10_product_40 : decode cX10_product 40 = .ok (.aload_n 1, 1) := by decide +kernel
theorem dX10_product_41 : decode cX10_product 41 = .ok (.getfield 9, 3) := by decide +kernel
theorem dX10_product_44 : decode cX10_product 44 = .ok (.iload_n 3, 1) := by decide +kernel
theorem dX10_product_45 : decode cX10_product 45 = .ok (.laload, 1) := by decide +kernel
theorem dX10_product_46 : decode cX10_product 46 = .ok (.aload_n 2, 1) := by decide +kernel
theorem dX10_product_47 : decode cX10_product 47 = .ok (.getfield 9, 3) := by decide +kernel
theorem dX10_product_50 : decode cX10_product 50 = .ok (.iload 6, 2) := by decide +kernel
theorem dX10_product_52 : decode cX10_product 52 = .ok (.laload, 1) := by decide +kernel
theorem dX10_product_53 : decode cX10_product 53 = .ok (.lmul, 1) := by decide +kernel
theorem dX10_product_54 : decode cX10_product 54 = .ok (.ladd, 1) := by decide +kernel
theorem dX10_product_55 : decode cX10_product 55 = .ok (.lload 4, 2) := by decide +kernel
theorem dX10_product_57 : decode cX10_product 57 = .ok (.ladd, 1) := by decide +kernel
theorem dX10_product_58 : decode cX10_product 58 = .ok (.lstore 7, 2) := by decide +kernel
theorem dX10_product_60 : decode cX10_product 60 = .ok (.aload_n 0, 1) := by decide +kernel
theorem dX10_product_61 : decode cX10_product 61 = .ok (.getfield 9, 3) := by decide +kernel
theorem dX10_product_64 : decode cX10_product 64 = .ok (.iload_n 3, 1) := by decide +kernel
theorem dX10_product_65 : decode cX10_product 65 = .ok (.iload 6, 2) := by decide +kernel
theorem dX10_product_67 : decode cX10_product 67 = .ok (.iadd, 1) := by decide +kernel
theorem dX10_product_68 : decode cX10_product 68 = .ok (.lload 7, 2) := by decide +kernel
theorem dX10_product_70 : decode cX10_product 70 = .ok (.ldc2_w 13, 3) := by decide +kernel
theorem dX10_product_73 : decode cX10_product 73 = .ok (.lrem, 1) := by decide +kernel
theorem dX10_product_74 : decode cX10_product 74 = .ok (.lastore, 1) := by decide +kernel
theorem dX10_product_75 : decode cX10_product 75 = .ok (.lload 7, 2) := by decide +kernel
theorem dX10_product_77 : decode cX10_product 77 = .ok (.ldc2_w 13, 3) := by decide +kernel
theorem dX10_product_80 : decode cX10_product 80 = .ok (.ldiv, 1) := by decide +kernel
theorem dX10_product_81 : decode cX10_product 81 = .ok (.lstore 4, 2) := by decide +kernel
theorem dX10_product_83 : decode cX10_product 83 = .ok (.iinc 6 1, 3) := by decide +kernel
theorem dX10_product_86 : decode cX10_product 86 = .ok (.goto (-64), 3) := by decide +kernel
theorem dX10_product_89 : decode cX10_product 89 = .ok (.iinc 3 1, 3) := by decide +kernel
theorem dX10_product_92 : decode cX10_product 92 = .ok (.goto (-82), 3) := by decide +kernel
theorem dX10_product_95 : decode cX10_product 95 = .ok (.return_, 1) := by decide +kernel
theorem dX10_restBy_0 : decode cX10_restBy 0 = .ok (.lconst 0, 1) := by decide +kernel
theorem dX10_restBy_1 : decode cX10_restBy 1 = .ok (.lstore_n 3, 1) := by decide +kernel
theorem dX10_restBy_2 : decode cX10_restBy 2 = .ok (.iconst 5, 1) := by decide +kernel
theorem dX10_restBy_3 : decode cX10_restBy 3 = .ok (.istore 5, 2) := by decide +kernel
theorem dX10_restBy_5 : decode cX10_restBy 5 = .ok (.iload 5, 2) := by decide +kernel
theorem dX10_restBy_7 : decode cX10_restBy 7 = .ok (.ifCond .lt 31, 3) := by decide +kernel
theorem dX10_restBy_10 : decode cX10_restBy 10 = .ok (.lload_n 1, 1) := by decide +kernel
theorem dX10_restBy_11 : decode cX10_restBy 11 = .ok (.lconst 0, 1) := by decide +kernel
theorem dX10_restBy_12 : decode cX10_restBy 12 = .ok (.lcmp, 1) := by decide +kernel
theorem dX10_restBy_13 : decode cX10_restBy 13 = .ok (.ifCond .le 25, 3) := by decide +kernel
theorem dX10_restBy_16 : decode cX10_restBy 16 = .ok (.lload_n 3, 1) := by decide +kernel
theorem dX10_restBy_17 : decode cX10_restBy 17 = .ok (.ldc2_w 13, 3) := by decide +kernel
theorem dX10_restBy_20 : decode cX10_restBy 20 = .ok (.lmul, 1) := by decide +kernel
theorem dX10_restBy_21 : decode cX10_restBy 21 = .ok (.aload_n 0, 1) := by decide +kernel
theorem dX10_restBy_22 : decode cX10_restBy 22 = .ok (.getfield 9, 3) := by decide +kernel
theorem dX10_restBy_25 : decode cX10_restBy 25 = .ok (.iload 5, 2) := by decide +kernel
theorem dX10_restBy_27 : decode cX10_restBy 27 = .ok (.laload, 1) := by decide +kernel
theorem dX10_restBy_28 : decode cX10_restBy 28 = .ok (.ladd, 1) := by decide +kernel
theorem dX10_restBy_29 : decode cX10_restBy 29 = .ok (.lload_n 1, 1) := by decide +kernel
theorem dX10_restBy_30 : decode cX10_restBy 30 = .ok (.lrem, 1) := by decide +kernel
theorem dX10_restBy_31 : decode cX10_restBy 31 = .ok (.lstore_n 3, 1) := by decide +kernel
theorem dX10_restBy_32 : decode cX10_restBy 32 = .ok (.iinc 5 (-1), 3) := by decide +kernel
theorem dX10_restBy_35 : decode cX10_restBy 35 = .ok (.goto (-30), 3) := by decide +kernel
theorem dX10_restBy_38 : decode cX10_restBy 38 = .ok (.lload_n 3, 1) := by decide +kernel
theorem dX10_restBy_39 : decode cX10_restBy 39 = .ok (.lreturn, 1) := by decide +kernel
theorem dX10_divide_0 : decode cX10_divide 0 = .ok (.lconst 0, 1) := by decide +kernel
theorem dX10_divide_1 : decode cX10_divide 1 = .ok (.lstore_n 3, 1) := by decide +kernel
theorem dX10_divide_2 : decode cX10_divide 2 = .ok (.iconst 5, 1) := by decide +kernel
theorem dX10_divide_3 : decode cX10_divide 3 = .ok (.istore 5, 2) := by decide +kernel
theorem dX10_divide_5 : decode cX10_divide 5 = .ok (.iload 5, 2) := by decide +kernel
theorem dX10_divide_7 : decode cX10_divide 7 = .ok (.ifCond .lt 46, 3) := by decide +kernel
theorem dX10_divide_10 : decode cX10_divide 10 = .ok (.lload_n 1, 1) := by decide +kernel
theorem dX10_divide_11 : decode cX10_divide 11 = .ok (.lconst 0, 1) := by decide +kernel
theorem dX10_divide_12 : decode cX10_divide 12 = .ok (.lcmp, 1) := by decide +kernel
theorem dX10_divide_13 : decode cX10_divide 13 = .ok (.ifCond .le 40, 3) := by decide +kernel
theorem dX10_divide_16 : decode cX10_divide 16 = .ok (.lload_n 3, 1) := by decide +kernel
theorem dX10_divide_17 : decode cX10_divide 17 = .ok (.ldc2_w 13, 3) := by decide +kernel
theorem dX10_divide_20 : decode cX10_divide 20 = .ok (.lmul, 1) := by decide +kernel
theorem dX10_divide_21 : decode cX10_divide 21 = .ok (.aload_n 0, 1) := by decide +kernel
theorem dX10_divide_22 : decode cX10_divide 22 = .ok (.getfield 9, 3) := by decide +kernel
theorem dX10_divide_25 : decode cX10_divide 25 = .ok (.iload 5, 2) := by decide +kernel
theorem dX10_divide_27 : decode cX10_divide 27 = .ok (.laload, 1) := by decide +kernel
theorem dX10_divide_28 : decode cX10_divide 28 = .ok (.ladd, 1) := by decide +kernel
theorem dX10_divide_29 : decode cX10_divide 29 = .ok (.lstore 6, 2) := by decide +kernel
theorem dX10_divide_31 : decode cX10_divide 31 = .ok (.aload_n 0, 1) := by decide +kernel
theorem dX10_divide_32 : decode cX10_divide 32 = .ok (.getfield 9, 3) := by decide +kernel
theorem dX10_divide_35 : decode cX10_divide 35 = .ok (.iload 5, 2) := by decide +kernel
theorem dX10_divide_37 : decode cX10_divide 37 = .ok (.lload 6, 2) := by decide +kernel
theorem dX10_divide_39 : decode cX10_divide 39 = .ok (.lload_n 1, 1) := by decide +kernel
theorem dX10_divide_40 : decode cX10_divide 40 = .ok (.ldiv, 1) := by decide +kernel
theorem dX10_divide_41 : decode cX10_divide 41 = .ok (.lastore, 1) := by decide +kernel
theorem dX10_divide_42 : decode cX10_divide 42 = .ok (.lload 6, 2) := by decide +kernel
theorem dX10_divide_44 : decode cX10_divide 44 = .ok (.lload_n 1, 1) := by decide +kernel
theorem dX10_divide_45 : decode cX10_divide 45 = .ok (.lrem, 1) := by decide +kernel
theorem dX10_divide_46 : decode cX10_divide 46 = .ok (.lstore_n 3, 1) := by decide +kernel
theorem dX10_divide_47 : decode cX10_divide 47 = .ok (.iinc 5 (-1), 3) := by decide +kernel
theorem dX10_divide_50 : decode cX10_divide 50 = .ok (.goto (-45), 3) := by decide +kernel
theorem dX10_divide_53 : decode cX10_divide 53 = .ok (.return_, 1) := by decide +kernel
theorem dX10_isUnder_0 : decode cX10_isUnder 0 = .ok (.iconst 5, 1) := by decide +kernel
theorem dX10_isUnder_1 : decode cX10_isUnder 1 = .ok (.istore_n 2, 1) := by decide +kernel
theorem dX10_isUnder_2 : decode cX10_isUnder 2 = .ok (.iload_n 2, 1) := by decide +kernel
theorem dX10_isUnder_3 : decode cX10_isUnder 3 = .ok (.ifCond .le 25, 3) := by decide +kernel
theorem dX10_isUnder_6 : decode cX10_isUnder 6 = .ok (.aload_n 0, 1) := by decide +kernel
theorem dX10_isUnder_7 : decode cX10_isUnder 7 = .ok (.getfield 9, 3) := by decide +kernel
theorem dX10_isUnder_10 : decode cX10_isUnder 10 = .ok (.iload_n 2, 1) := by decide +kernel
theorem dX10_isUnder_11 : decode cX10_isUnder 11 = .ok (.laload, 1) := by decide +kernel
theorem dX10_isUnder_12 : decode cX10_isUnder 12 = .ok (.aload_n 1, 1) := by decide +kernel
theorem dX10_isUnder_13 : decode cX10_isUnder 13 = .ok (.getfield 9, 3) := by decide +kernel
theorem dX10_isUnder_16 : decode cX10_isUnder 16 = .ok (.iload_n 2, 1) := by decide +kernel
theorem dX10_isUnder_17 : decode cX10_isUnder 17 = .ok (.laload, 1) := by decide +kernel
theorem dX10_isUnder_18 : decode cX10_isUnder 18 = .ok (.lcmp, 1) := by decide +kernel
theorem dX10_isUnder_19 : decode cX10_isUnder 19 = .ok (.ifCond .ne 9, 3) := by decide +kernel
theorem dX10_isUnder_22 : decode cX10_isUnder 22 = .ok (.iinc 2 (-1), 3) := by decide +kernel
theorem dX10_isUnder_25 : decode cX10_isUnder 25 = .ok (.goto (-23), 3) := by decide +kernel
theorem dX10_isUnder_28 : decode cX10_isUnder 28 = .ok (.aload_n 0, 1) := by decide +kernel
theorem dX10_isUnder_29 : decode cX10_isUnder 29 = .ok (.getfield 9, 3) := by decide +kernel
theorem dX10_isUnder_32 : decode cX10_isUnder 32 = .ok (.iload_n 2, 1) := by decide +kernel
theorem dX10_isUnder_33 : decode cX10_isUnder 33 = .ok (.laload, 1) := by decide +kernel
theorem dX10_isUnder_34 : decode cX10_isUnder 34 = .ok (.aload_n 1, 1) := by decide +kernel
theorem dX10_isUnder_35 : decode cX10_isUnder 35 = .ok (.getfield 9, 3) := by decide +kernel
theorem dX10_isUnder_38 : decode cX10_isUnder 38 = .ok (.iload_n 2, 1) := by decide +kernel
theorem dX10_isUnder_39 : decode cX10_isUnder 39 = .ok (.laload, 1) := by decide +kernel
theorem dX10_isUnder_40 : decode cX10_isUnder 40 = .ok (.lcmp, 1) := by decide +kernel
theorem dX10_isUnder_41 : decode cX10_isUnder 41 = .ok (.ifCond .ge 7, 3) := by decide +kernel
theorem dX10_isUnder_44 : decode cX10_isUnder 44 = .ok (.iconst 1, 1) := by decide +kernel
theorem dX10_isUnder_45 : decode cX10_isUnder 45 = .ok (.goto 4, 3) := by decide +kernel
theorem dX10_isUnder_48 : decode cX10_isUnder 48 = .ok (.iconst 0, 1) := by decide +kernel
theorem dX10_isUnder_49 : decode cX10_isUnder 49 = .ok (.ireturn, 1) := by decide +kernel
theorem dX11_init_0 : decode cX11_init 0 = .ok (.aload_n 0, 1) := by decide +kernel
theorem dX11_init_1 : decode cX11_init 1 = .ok (.invokespecial 1, 3) := by decide +kernel
theorem dX11_init_4 : decode cX11_init 4 = .ok (.aload_n 0, 1) := by decide +kernel
theorem dX11_init_5 : decode cX11_init 5 = .ok (.iconst 0, 1) := by decide +kernel
theorem dX11_init_6 : decode cX11_init 6 = .ok (.putfield 9, 3) := by decide +kernel
theorem dX11_init_9 : decode cX11_init 9 = .ok (.aload_n 0, 1) := by decide +kernel
theorem dX11_init_10 : decode cX11_init 10 = .ok (.new 13, 3) := by decide +kernel
theorem dX11_init_13 : decode cX11_init 13 = .ok (.dup, 1) := by decide +kernel
theorem dX11_init_14 : decode cX11_init 14 = .ok (.invokespecial 15, 3) := by decide +kernel
theorem dX11_init_17 : decode cX11_init 17 = .ok (.putfield 16, 3) := by decide +kernel
theorem dX11_init_20 : decode cX11_init 20 = .ok (.aload_n 0, 1) := by decide +kernel
theorem dX11_init_21 : decode cX11_init 21 = .ok (.iconst 4, 1) := by decide +kernel
theorem dX11_init_22 : decode cX11_init 22 = .ok (.anewarray 20, 3) := by decide +kernel
theorem dX11_init_25 : decode cX11_init 25 = .ok (.putfield 22, 3) := by decide +kernel
theorem dX11_init_28 : decode cX11_init 28 = .ok (.aload_n 0, 1) := by decide +kernel
theorem dX11_init_29 : decode cX11_init 29 = .ok (.new 26, 3) := by decide +kernel
theorem dX11_init_32 : decode cX11_init 32 = .ok (.dup, 1) := by decide +kernel
theorem dX11_init_33 : decode cX11_init 33 = .ok (.invokespecial 28, 3) := by decide +kernel
theorem dX11_init_36 : decode cX11_init 36 = .ok (.putfield 29, 3) := by decide +kernel
theorem dX11_init_39 : decode cX11_init 39 = .ok (.aload_n 0, 1) := by decide +kernel
theorem dX11_init_40 : decode cX11_init 40 = .ok (.new 33, 3) := by decide +kernel
theorem dX11_init_43 : decode cX11_init 43 = .ok (.dup, 1) := by decide +kernel
theorem dX11_init_44 : decode cX11_init 44 = .ok (.invokespecial 35, 3) := by decide +kernel
theorem dX11_init_47 : decode cX11_init 47 = .ok (.putfield 36, 3) := by decide +kernel
theorem dX11_init_50 : decode cX11_init 50 = .ok (.aload_n 0, 1) := by decide +kernel
theorem dX11_init_51 : decode cX11_init 51 = .ok (.new 40, 3) := by decide +kernel
theorem dX11_init_54 : decode cX11_init 54 = .ok (.dup, 1) := by decide +kernel
theorem dX11_init_55 : decode cX11_init 55 = .ok (.invokespecial 42, 3) := by decide +kernel
theorem dX11_init_58 : decode cX11_init 58 = .ok (.putfield 43, 3) := by decide +kernel
theorem dX11_init_61 : decode cX11_init 61 = .ok (.aload_n 0, 1) := by decide +kernel
theorem dX11_init_62 : decode cX11_init 62 = .ok (.new 47, 3) := by decide +kernel
theorem dX11_init_65 : decode cX11_init 65 = .ok (.dup, 1) := by decide +kernel
theorem dX11_init_66 : decode cX11_init 66 = .ok (.invokespecial 49, 3) := by decide +kernel
theorem dX11_init_69 : decode cX11_init 69 = .ok (.putfield 50, 3) := by decide +kernel
theorem dX11_init_72 : decode cX11_init 72 = .ok (.aload_n 0, 1) := by decide +kernel
theorem dX11_init_73 : decode cX11_init 73 = .ok (.new 54, 3) := by decide +kernel
theorem dX11_init_76 : decode cX11_init 76 = .ok (.dup, 1) := by decide +kernel
theorem dX11_init_77 : decode cX11_init 77 = .ok (.invokespecial 56, 3) := by decide +kernel
theorem dX11_init_80 : decode cX11_init 80 = .ok (.putfield 57, 3) := by decide +kernel
theorem dX11_init_83 : decode cX11_init 83 = .ok (.iconst 0, 1) := by decide +kernel
theorem dX11_init_84 : decode cX11_init 84 = .ok (.istore_n 1, 1) := by decide +kernel
theorem dX11_init_85 : decode cX11_init 85 = .ok (.iload_n 1, 1) := by decide +kernel
theorem dX11_init_86 : decode cX11_init 86 = .ok (.iconst 4, 1) := by decide +kernel
theorem dX11_init_87 : decode cX11_init 87 = .ok (.if_icmp .ge 22, 3) := by decide +kernel
theorem dX11_init_90 : decode cX11_init 90 = .ok (.aload_n 0, 1) := by decide +kernel
theorem dX11_init_91 : decode cX11_init 91 = .ok (.getfield 22, 3) := by decide +kernel
theorem dX11_init_94 : decode cX11_init 94 = .ok (.iload_n 1, 1) := by decide +kernel
theorem dX11_init_95 : decode cX11_init 95 = .ok (.new 20, 3) := by decide +kernel
theorem dX11_init_98 : decode cX11_init 98 = .ok (.dup, 1) := by decide +kernel
theorem dX11_init_99 : decode cX11_init 99 = .ok (.invokespecial 61, 3) := by decide +kernel
theorem dX11_init_102 : decode cX11_init 102 = .ok (.aastore, 1) := by decide +kernel
theorem dX11_init_103 : decode cX11_init 103 = .ok (.iinc 1 1, 3) := by decide +kernel
theorem dX11_init_106 : decode cX11_init 106 = .ok (.goto (-21), 3) := by decide +kernel
theorem dX11_init_109 : decode cX11_init 109 = .ok (.return_, 1) := by decide +kernel
theorem dX11_status_0 : decode cX11_status 0 = .ok (.aload_n 0, 1) := by decide +kernel
theorem dX11_status_1 : decode cX11_status 1 = .ok (.getfield 9, 3) := by decide +kernel
theorem dX11_status_4 : decode cX11_status 4 = .ok (.ireturn, 1) := by decide +kernel
theorem dX11_out_0 : decode cX11_out 0 = .ok (.iload_n 1, 1) := by decide +kernel
theorem dX11_out_1 : decode cX11_out 1 = .ok (.ifCond .lt 26, 3) := by decide +kernel
theorem dX11_out_4 : decode cX11_out 4 = .ok (.iload_n 1, 1) := by decide +kernel
theorem dX11_out_5 : decode cX11_out 5 = .ok (.aload_n 0, 1) := by decide +kernel
theorem dX11_out_6 : decode cX11_out 6 = .ok (.getfield 16, 3) := by decide +kernel
theorem dX11_out_9 : decode cX11_out 9 = .ok (.getfield 62, 3) := by decide +kernel
theorem dX11_out_12 : decode cX11_out 12 = .ok (.if_icmp .ge 15, 3) := by decide +kernel
theorem dX11_out_15 : decode cX11_out 15 = .ok (.aload_n 0, 1) := by decide +kernel
theorem dX11_out_16 : decode cX11_out 16 = .ok (.getfield 16, 3) := by decide +kernel
theorem dX11_out_19 : decode cX11_out 19 = .ok (.getfield 65, 3) := by decide +kernel
theorem dX11_out_22 : decode cX11_out 22 = .ok (.iload_n 1, 1) := by decide +kernel
theorem dX11_out_23 : decode cX11_out 23 = .ok (.iaload, 1) := by decide +kernel
theorem dX11_out_24 : decode cX11_out 24 = .ok (.goto 4, 3) := by decide +kernel
theorem dX11_out_27 : decode cX11_out 27 = .ok (.iconst (-1), 1) := by decide +kernel
theorem dX11_out_28 : decode cX11_out 28 = .ok (.ireturn, 1) := by decide +kernel
theorem dX11_stone_0 : decode cX11_stone 0 = .ok (.aload_n 0, 1) := by decide +kernel
theorem dX11_stone_1 : decode cX11_stone 1 = .ok (.iload_n 1, 1) := by decide +kernel
theorem dX11_stone_2 : decode cX11_stone 2 = .ok (.invokevirtual 69, 3) := by decide +kernel
theorem dX11_stone_5 : decode cX11_stone 5 = .ok (.ifCond .ne 9, 3) := by decide +kernel
theorem dX11_stone_8 : decode cX11_stone 8 = .ok (.aload_n 0, 1) := by decide +kernel
theorem dX11_stone_9 : decode cX11_stone 9 = .ok (.iconst 1, 1) := by decide +kernel
theorem dX11_stone_10 : decode cX11_stone 10 = .ok (.invokevirtual 73, 3) := by decide +kernel
theorem dX11_stone_13 : decode cX11_stone 13 = .ok (.ireturn, 1) := by decide +kernel
theorem dX11_stone_14 : decode cX11_stone 14 = .ok (.iload_n 2, 1) := by decide +kernel
theorem dX11_stone_15 : decode cX11_stone 15 = .ok (.iconst 1, 1) := by decide +kernel
theorem dX11_stone_16 : decode cX11_stone 16 = .ok (.bipush 50, 2) := by decide +kernel
theorem dX11_stone_18 : decode cX11_stone 18 = .ok (.invokestatic 76, 3) := by decide +kernel
theorem dX11_stone_21 : decode cX11_stone 21 = .ok (.ifCond .eq 13, 3) := by decide +kernel
theorem dX11_stone_24 : decode cX11_stone 24 = .ok (.iload_n 3, 1) := by decide +kernel
theorem dX11_stone_25 : decode cX11_stone 25 = .ok (.iconst 0, 1) := by decide +kernel
theorem dX11_stone_26 : decode cX11_stone 26 = .ok (.bipush 100, 2) := by decide +kernel
theorem dX11_stone_28 : decode cX11_stone 28 = .ok (.invokestatic 76, 3) := by decide +kernel
theorem dX11_stone_31 : decode cX11_stone 31 = .ok (.ifCond .ne 9, 3) := by decide +kernel
theorem dX11_stone_34 : decode cX11_stone 34 = .ok (.aload_n 0, 1) := by decide +kernel
theorem dX11_stone_35 : decode cX11_stone 35 = .ok (.iconst 2, 1) := by decide +kernel
theorem dX11_stone_36 : decode cX11_stone 36 = .ok (.invokevirtual 73, 3) := by decide +kernel
theorem dX11_stone_39 : decode cX11_stone 39 = .ok (.ireturn, 1) := by decide +kernel
theorem dX11_stone_40 : decode cX11_stone 40 = .ok (.aload_n 0, 1) := by decide +kernel
theorem dX11_stone_41 : decode cX11_stone 41 = .ok (.getfield 22, 3) := by decide +kernel
theorem dX11_stone_44 : decode cX11_stone 44 = .ok (.iload_n 1, 1) := by decide +kernel
theorem dX11_stone_45 : decode cX11_stone 45 = .ok (.aaload, 1) := by decide +kernel
theorem dX11_stone_46 : decode cX11_stone 46 = .ok (.iload_n 2, 1) := by decide +kernel
theorem dX11_stone_47 : decode cX11_stone 47 = .ok (.iload_n 3, 1) := by decide +kernel
theorem dX11_stone_48 : decode cX11_stone 48 = .ok (.invokevirtual 80, 3) := by decide +kernel
theorem dX11_stone_51 : decode cX11_stone 51 = .ok (.aload_n 0, 1) := by decide +kernel
theorem dX11_stone_52 : decode cX11_stone 52 = .ok (.invokevirtual 84, 3) := by decide +kernel
theorem dX11_stone_55 : decode cX11_stone 55 = .ok (.ireturn, 1) := by decide +kernel
theorem dX11_band_0 : decode cX11_band 0 = .ok (.aload_n 0, 1) := by decide +kernel
theorem dX11_band_1 : decode cX11_band 1 = .ok (.iload_n 1, 1) := by decide +kernel
theorem dX11_band_2 : decode cX11_band 2 = .ok (.invokevirtual 69, 3) := by decide +kernel
theorem dX11_band_5 : decode cX11_band 5 = .ok (.ifCond .ne 9, 3) := by decide +kernel
theorem dX11_band_8 : decode cX11_band 8 = .ok (.aload_n 0, 1) := by decide +kernel
theorem dX11_band_9 : decode cX11_band 9 = .ok (.iconst 1, 1) := by decide +kernel
theorem dX11_band_10 : decode cX11_band 10 = .ok (.invokevirtual 88, 3) := by decide +kernel
theorem dX11_band_13 : decode cX11_band 13 = .ok (.ireturn, 1) := by decide +kernel
theorem dX11_band_14 : decode cX11_band 14 = .ok (.iload_n 2, 1) := by decide +kernel
theorem dX11_band_15 : decode cX11_band 15 = .ok (.iconst 1, 1) := by decide +kernel
theorem dX11_band_16 : decode cX11_band 16 = .ok (.bipush 100, 2) := by decide +kernel
theorem dX11_band_18 : decode cX11_band 18 = .ok (.invokestatic 76, 3) := by decide +kernel
theorem dX11_band_21 : decode cX11_band 21 = .ok (.ifCond .eq 20, 3) := by decide +kernel
theorem dX11_band_24 : decode cX11_band 24 = .ok (.iload_n 3, 1) := by decide +kernel
theorem dX11_band_25 : decode cX11_band 25 = .ok (.ifCond .lt 16, 3) := by decide +kernel
theorem dX11_band_28 : decode cX11_band 28 = .ok (.iload 4, 2) := by decide +kernel
theorem dX11_band_30 : decode cX11_band 30 = .ok (.bipush 100, 2) := by decide +kernel
theorem dX11_band_32 : decode cX11_band 32 = .ok (.if_icmp .gt 9, 3) := by decide +kernel
theorem dX11_band_35 : decode cX11_band 35 = .ok (.iload_n 3, 1) := by decide +kernel
theorem dX11_band_36 : decode cX11_band 36 = .ok (.iload 4, 2) := by decide +kernel
theorem dX11_band_38 : decode cX11_band 38 = .ok (.if_icmp .lt 9, 3) := by decide +kernel
theorem dX11_band_41 : decode cX11_band 41 = .ok (.aload_n 0, 1) := by decide +kernel
theorem dX11_band_42 : decode cX11_band 42 = .ok (.iconst 2, 1) := by decide +kernel
theorem dX11_band_43 : decode cX11_band 43 = .ok (.invokevirtual 88, 3) := by decide +kernel
theorem dX11_band_46 : decode cX11_band 46 = .ok (.ireturn, 1) := by decide +kernel
theorem dX11_band_47 : decode cX11_band 47 = .ok (.aload_n 0, 1) := by decide +kernel
theorem dX11_band_48 : decode cX11_band 48 = .ok (.getfield 22, 3) := by decide +kernel
theorem dX11_band_51 : decode cX11_band 51 = .ok (.iload_n 1, 1) := by decide +kernel
theorem dX11_band_52 : decode cX11_band 52 = .ok (.aaload, 1) := by decide +kernel
theorem dX11_band_53 : decode cX11_band 53 = .ok (.astore 5, 2) := by decide +kernel
theorem dX11_band_55 : decode cX11_band 55 = .ok (.aload 5, 2) := by decide +kernel
theorem dX11_band_57 : decode cX11_band 57 = .ok (.getfield 92, 3) := by decide +kernel
theorem dX11_band_60 : decode cX11_band 60 = .ok (.bipush 8, 2) := by decide +kernel
theorem dX11_band_62 : decode cX11_band 62 = .ok (.if_icmp .lt 9, 3) := by decide +kernel
theorem dX11_band_65 : decode cX11_band 65 = .ok (.aload_n 0, 1) := by decide +kernel
theorem dX11_band_66 : decode cX11_band 66 = .ok (.iconst 3, 1) := by decide +kernel
theorem dX11_band_67 : decode cX11_band 67 = .ok (.invokevirtual 88, 3) := by decide +kernel
theorem dX11_band_70 : decode cX11_band 70 = .ok (.ireturn, 1) := by decide +kernel
theorem dX11_band_71 : decode cX11_band 71 = .ok (.aload_n 0, 1) := by decide +kernel
theorem dX11_band_72 : decode cX11_band 72 = .ok (.aload 5, 2) := by decide +kernel
theorem dX11_band_74 : decode cX11_band 74 = .ok (.iload_n 2, 1) := by decide +kernel
theorem dX11_band_75 : decode cX11_band 75 = .ok (.iload_n 3, 1) := by decide +kernel
theorem dX11_band_76 : decode cX11_band 76 = .ok (.iload 4, 2) := by decide +kernel
theorem dX11_band_78 : decode cX11_band 78 = .ok (.invokevirtual 95, 3) := by decide +kernel
theorem dX11_band_81 : decode cX11_band 81 = .ok (.invokevirtual 99, 3) := by decide +kernel
theorem dX11_band_84 : decode cX11_band 84 = .ok (.ireturn, 1) := by decide +kernel
theorem dX11_rod_0 : decode cX11_rod 0 = .ok (.aload_n 0, 1) := by decide +kernel
theorem dX11_rod_1 : decode cX11_rod 1 = .ok (.iload_n 1, 1) := by decide +kernel
theorem dX11_rod_2 : decode cX11_rod 2 = .ok (.invokevirtual 69, 3) := by decide +kernel
theorem dX11_rod_5 : decode cX11_rod 5 = .ok (.ifCond .ne 9, 3) := by decide +kernel
theorem dX11_rod_8 : decode cX11_rod 8 = .ok (.aload_n 0, 1) := by decide +kernel
theorem dX11_rod_9 : decode cX11_rod 9 = .ok (.iconst 1, 1) := by decide +kernel
theorem dX11_rod_10 : decode cX11_rod 10 = .ok (.invokevirtual 88, 3) := by decide +kernel
theorem dX11_rod_13 : decode cX11_rod 13 = .ok (.ireturn, 1) := by decide +kernel
theorem dX11_rod_14 : decode cX11_rod 14 = .ok (.iload_n 2, 1) := by decide +kernel
theorem dX11_rod_15 : decode cX11_rod 15 = .ok (.iconst 0, 1) := by decide +kernel
theorem dX11_rod_16 : decode cX11_rod 16 = .ok (.bipush 100, 2) := by decide +kernel
theorem dX11_rod_18 : decode cX11_rod 18 = .ok (.invokestatic 76, 3) := by decide +kernel
theorem dX11_rod_21 : decode cX11_rod 21 = .ok (.ifCond .eq 14, 3) := by decide +kernel
theorem dX11_rod_24 : decode cX11_rod 24 = .ok (.iload_n 3, 1) := by decide +kernel
theorem dX11_rod_25 : decode cX11_rod 25 = .ok (.iconst 0, 1) := by decide +kernel
theorem dX11_rod_26 : decode cX11_rod 26 = .ok (.sipush 200, 3) := by decide +kernel
theorem dX11_rod_29 : decode cX11_rod 29 = .ok (.invokestatic 76, 3) := by decide +kernel
theorem dX11_rod_32 : decode cX11_rod 32 = .ok (.ifCond .ne 9, 3) := by decide +kernel
theorem dX11_rod_35 : decode cX11_rod 35 = .ok (.aload_n 0, 1) := by decide +kernel
theorem dX11_rod_36 : decode cX11_rod 36 = .ok (.iconst 2, 1) := by decide +kernel
theorem dX11_rod_37 : decode cX11_rod 37 = .ok (.invokevirtual 88, 3) := by decide +kernel
theorem dX11_rod_40 : decode cX11_rod 40 = .ok (.ireturn, 1) := by decide +kernel
theorem dX11_rod_41 : decode cX11_rod 41 = .ok (.aload_n 0, 1) := by decide +kernel
theorem dX11_rod_42 : decode cX11_rod 42 = .ok (.getfield 22, 3) := by decide +kernel
theorem dX11_rod_45 : decode cX11_rod 45 = .ok (.iload_n 1, 1) := by decide +kernel
theorem dX11_rod_46 : decode cX11_rod 46 = .ok (.aaload, 1) := by decide +kernel
theorem dX11_rod_47 : decode cX11_rod 47 = .ok (.astore 4, 2) := by decide +kernel
theorem dX11_rod_49 : decode cX11_rod 49 = .ok (.aload 4, 2) := by decide +kernel
theorem dX11_rod_51 : decode cX11_rod 51 = .ok (.getfield 102, 3) := by decide +kernel
theorem dX11_rod_54 : decode cX11_rod 54 = .ok (.bipush 6, 2) := by decide +kernel
theorem dX11_rod_56 : decode cX11_rod 56 = .ok (.if_icmp .lt 9, 3) := by decide +kernel
theorem dX11_rod_59 : decode cX11_rod 59 = .ok (.aload_n 0, 1) := by decide +kernel
theorem dX11_rod_60 : decode cX11_rod 60 = .ok (.iconst 3, 1) := by decide +kernel
theorem dX11_rod_61 : decode cX11_rod 61 = .ok (.invokevirtual 88, 3) := by decide +kernel
theorem dX11_rod_64 : decode cX11_rod 64 = .ok (.ireturn, 1) := by decide +kernel
theorem dX11_rod_65 : decode cX11_rod 65 = .ok (.aload_n 0, 1) := by decide +kernel
theorem dX11_rod_66 : decode cX11_rod 66 = .ok (.aload 4, 2) := by decide +kernel
theorem dX11_rod_68 : decode cX11_rod 68 = .ok (.iload_n 2, 1) := by decide +kernel
theorem dX11_rod_69 : decode cX11_rod 69 = .ok (.iload_n 3, 1) := by decide +kernel
theorem dX11_rod_70 : decode cX11_rod 70 = .ok (.invokevirtual 105, 3) := by decide +kernel
theorem dX11_rod_73 : decode cX11_rod 73 = .ok (.invokevirtual 99, 3) := by decide +kernel
theorem dX11_rod_76 : decode cX11_rod 76 = .ok (.ireturn, 1) := by decide +kernel
theorem dX11_change_0 : decode cX11_change 0 = .ok (.aload_n 0, 1) := by decide +kernel
theorem dX11_change_1 : decode cX11_change 1 = .ok (.iload_n 1, 1) := by decide +kernel
theorem dX11_change_2 : decode cX11_change 2 = .ok (.iload_n 2, 1) := by decide +kernel
theorem dX11_change_3 : decode cX11_change 3 = .ok (.invokevirtual 109, 3) := by decide +kernel
theorem dX11_change_6 : decode cX11_change 6 = .ok (.ifCond .ne 9, 3) := by decide +kernel
theorem dX11_change_9 : decode cX11_change 9 = .ok (.aload_n 0, 1) := by decide +kernel
theorem dX11_change_10 : decode cX11_change 10 = .ok (.iconst 1, 1) := by decide +kernel
theorem dX11_change_11 : decode cX11_change 11 = .ok (.invokevirtual 73, 3) := by decide +kernel
theorem dX11_change_14 : decode cX11_change 14 = .ok (.ireturn, 1) := by decide +kernel
theorem dX11_change_15 : decode cX11_change 15 = .ok (.iload_n 3, 1) := by decide +kernel
theorem dX11_change_16 : decode cX11_change 16 = .ok (.iconst 0, 1) := by decide +kernel
theorem dX11_change_17 : decode cX11_change 17 = .ok (.sipush 200, 3) := by decide +kernel
theorem dX11_change_20 : decode cX11_change 20 = .ok (.invokestatic 76, 3) := by decide +kernel
theorem dX11_change_23 : decode cX11_change 23 = .ok (.ifCond .ne 9, 3) := by decide +kernel
theorem dX11_change_26 : decode cX11_change 26 = .ok (.aload_n 0, 1) := by decide +kernel
theorem dX11_change_27 : decode cX11_change 27 = .ok (.iconst 2, 1) := by decide +kernel
theorem dX11_change_28 : decode cX11_change 28 = .ok (.invokevirtual 73, 3) := by decide +kernel
theorem dX11_change_31 : decode cX11_change 31 = .ok (.ireturn, 1) := by decide +kernel
theorem dX11_change_32 : decode cX11_change 32 = .ok (.aload_n 0, 1) := by decide +kernel
theorem dX11_change_33 : decode cX11_change 33 = .ok (.getfield 22, 3) := by decide +kernel
theorem dX11_change_36 : decode cX11_change 36 = .ok (.iload_n 1, 1) := by decide +kernel
theorem dX11_change_37 : decode cX11_change 37 = .ok (.aaload, 1) := by decide +kernel
theorem dX11_change_38 : decode cX11_change 38 = .ok (.getfield 113, 3) := by decide +kernel
theorem dX11_change_41 : decode cX11_change 41 = .ok (.iload_n 2, 1) := by decide +kernel
theorem dX11_change_42 : decode cX11_change 42 = .ok (.iload_n 3, 1) := by decide +kernel
theorem dX11_change_43 : decode cX11_change 43 = .ok (.iastore, 1) := by decide +kernel
theorem dX11_change_44 : decode cX11_change 44 = .ok (.aload_n 0, 1) := by decide +kernel
theorem dX11_change_45 : decode cX11_change 45 = .ok (.invokevirtual 84, 3) := by decide +kernel
theorem dX11_change_48 : decode cX11_change 48 = .ok (.ireturn, 1) := by decide +kernel
theorem dX11_told_0 : decode cX11_told 0 = .ok (.aload_n 0, 1) := by decide +kernel
theorem dX11_told_1 : decode cX11_told 1 = .ok (.iload_n 1, 1) := by decide +kernel
theorem dX11_told_2 : decode cX11_told 2 = .ok (.invokevirtual 69, 3) := by decide +kernel
theorem dX11_told_5 : decode cX11_told 5 = .ok (.ifCond .ne 9, 3) := by decide +kernel
theorem dX11_told_8 : decode cX11_told 8 = .ok (.aload_n 0, 1) := by decide +kernel
theorem dX11_told_9 : decode cX11_told 9 = .ok (.iconst 1, 1) := by decide +kernel
theorem dX11_told_10 : decode cX11_told 10 = .ok (.invokevirtual 88, 3) := by decide +kernel
theorem dX11_told_13 : decode cX11_told 13 = .ok (.ireturn, 1) := by decide +kernel
theorem dX11_told_14 : decode cX11_told 14 = .ok (.aload_n 0, 1) := by decide +kernel
theorem dX11_told_15 : decode cX11_told 15 = .ok (.getfield 22, 3) := by decide +kernel
theorem dX11_told_18 : decode cX11_told 18 = .ok (.iload_n 1, 1) := by decide +kernel
theorem dX11_told_19 : decode cX11_told 19 = .ok (.aaload, 1) := by decide +kernel
theorem dX11_told_20 : decode cX11_told 20 = .ok (.astore_n 3, 1) := by decide +kernel
theorem dX11_told_21 : decode cX11_told 21 = .ok (.iload_n 2, 1) := by decide +kernel
theorem dX11_told_22 : decode cX11_told 22 = .ok (.tableswitch 111 0 6 #[42, 51, 60, 69, 78, 87, 101], 42) := by decide +kernel
theorem dX11_told_64 : decode cX11_told 64 = .ok (.aload_n 0, 1) := by decide +kernel
theorem dX11_told_65 : decode cX11_told 65 = .ok (.aload_n 3, 1) := by decide +kernel
theorem dX11_told_66 : decode cX11_told 66 = .ok (.getfield 116, 3) := by decide +kernel
theorem dX11_told_69 : decode cX11_told 69 = .ok (.invokevirtual 99, 3) := by decide +kernel
theorem dX11_told_72 : decode cX11_told 72 = .ok (.ireturn, 1) := by decide +kernel
theorem dX11_told_73 : decode cX11_told 73 = .ok (.aload_n 0, 1) := by decide +kernel
theorem dX11_told_74 : decode cX11_told 74 = .ok (.aload_n 3, 1) := by decide +kernel
theorem dX11_told_75 : decode cX11_told 75 = .ok (.getfield 119, 3) := by decide +kernel
theorem dX11_told_78 : decode cX11_told 78 = .ok (.invokevirtual 99, 3) := by decide +kernel
theorem dX11_told_81 : decode cX11_told 81 = .ok (.ireturn, 1) := by decide +kernel
theorem dX11_told_82 : decode cX11_told 82 = .ok (.aload_n 0, 1) := by decide +kernel
theorem dX11_told_83 : decode cX11_told 83 = .ok (.aload_n 3, 1) := by decide +kernel
theorem dX11_told_84 : decode cX11_told 84 = .ok (.getfield 92, 3) := by decide +kernel
theorem dX11_told_87 : decode cX11_told 87 = .ok (.invokevirtual 99, 3) := by decide +kernel
theorem dX11_told_90 : decode cX11_told 90 = .ok (.ireturn, 1) := by decide +kernel
theorem dX11_told_91 : decode cX11_told 91 = .ok (.aload_n 0, 1) := by decide +kernel
theorem dX11_told_92 : decode cX11_told 92 = .ok (.aload_n 3, 1) := by decide +kernel
theorem dX11_told_93 : decode cX11_told 93 = .ok (.getfield 102, 3) := by decide +kernel
theorem dX11_told_96 : decode cX11_told 96 = .ok (.invokevirtual 99, 3) := by decide +kernel
theorem dX11_told_99 : decode cX11_told 99 = .ok (.ireturn, 1) := by decide +kernel
theorem dX11_told_100 : decode cX11_told 100 = .ok (.aload_n 0, 1) := by decide +kernel
theorem dX11_told_101 : decode cX11_told 101 = .ok (.aload_n 3, 1) := by decide +kernel
theorem dX11_told_102 : decode cX11_told 102 = .ok (.invokevirtual 122, 3) := by decide +kernel
theorem dX11_told_105 : decode cX11_told 105 = .ok (.invokevirtual 99, 3) := by decide +kernel
theorem dX11_told_108 : decode cX11_told 108 = .ok (.ireturn, 1) := by decide +kernel
theorem dX11_told_109 : decode cX11_told 109 = .ok (.aload_n 0, 1) := by decide +kernel
theorem dX11_told_110 : decode cX11_told 110 = .ok (.aload_n 3, 1) := by decide +kernel
theorem dX11_told_111 : decode cX11_told 111 = .ok (.getfield 126, 3) := by decide +kernel
theorem dX11_told_114 : decode cX11_told 114 = .ok (.aload_n 3, 1) := by decide +kernel
theorem dX11_told_115 : decode cX11_told 115 = .ok (.invokevirtual 129, 3) := by decide +kernel
theorem dX11_told_118 : decode cX11_told 118 = .ok (.iadd, 1) := by decide +kernel
theorem dX11_told_119 : decode cX11_told 119 = .ok (.invokevirtual 99, 3) := by decide +kernel
theorem dX11_told_122 : decode cX11_told 122 = .ok (.ireturn, 1) := by decide +kernel
theorem dX11_told_123 : decode cX11_told 123 = .ok (.aload_n 0, 1) := by decide +kernel
theorem dX11_told_124 : decode cX11_told 124 = .ok (.aload_n 3, 1) := by decide +kernel
theorem dX11_told_125 : decode cX11_told 125 = .ok (.invokevirtual 129, 3) := by decide +kernel
theorem dX11_told_128 : decode cX11_told 128 = .ok (.ineg, 1) := by decide +kernel
theorem dX11_told_129 : decode cX11_told 129 = .ok (.invokevirtual 99, 3) := by decide +kernel
theorem dX11_told_132 : decode cX11_told 132 = .ok (.ireturn, 1) := by decide +kernel
theorem dX11_told_133 : decode cX11_told 133 = .ok (.aload_n 0, 1) := by decide +kernel
theorem dX11_told_134 : decode cX11_told 134 = .ok (.iconst 2, 1) := by decide +kernel
theorem dX11_told_135 : decode cX11_told 135 = .ok (.invokevirtual 88, 3) := by decide +kernel
theorem dX11_told_138 : decode cX11_told 138 = .ok (.ireturn, 1) := by decide +kernel
theorem dX11_strength_0 : decode cX11_strength 0 = .ok (.aload_n 0, 1) := by decide +kernel
theorem dX11_strength_1 : decode cX11_strength 1 = .ok (.iload_n 1, 1) := by decide +kernel
theorem dX11_strength_2 : decode cX11_strength 2 = .ok (.iload_n 2, 1) := by decide +kernel
theorem dX11_strength_3 : decode cX11_strength 3 = .ok (.invokevirtual 109, 3) := by decide +kernel
theorem dX11_strength_6 : decode cX11_strength 6 = .ok (.ifCond .ne 9, 3) := by decide +kernel
theorem dX11_strength_9 : decode cX11_strength 9 = .ok (.aload_n 0, 1) := by decide +kernel
theorem dX11_strength_10 : decode cX11_strength 10 = .ok (.iconst 1, 1) := by decide +kernel
theorem dX11_strength_11 : decode cX11_strength 11 = .ok (.invokevirtual 88, 3) := by decide +kernel
theorem dX11_strength_14 : decode cX11_strength 14 = .ok (.ireturn, 1) := by decide +kernel
theorem dX11_strength_15 : decode cX11_strength 15 = .ok (.aload_n 0, 1) := by decide +kernel
theorem dX11_strength_16 : decode cX11_strength 16 = .ok (.aload_n 0, 1) := by decide +kernel
theorem dX11_strength_17 : decode cX11_strength 17 = .ok (.getfield 22, 3) := by decide +kernel
theorem dX11_strength_20 : decode cX11_strength 20 = .ok (.iload_n 1, 1) := by decide +kernel
theorem dX11_strength_21 : decode cX11_strength 21 = .ok (.aaload, 1) := by decide +kernel
theorem dX11_strength_22 : decode cX11_strength 22 = .ok (.getfield 113, 3) := by decide +kernel
theorem dX11_strength_25 : decode cX11_strength 25 = .ok (.iload_n 2, 1) := by decide +kernel
theorem dX11_strength_26 : decode cX11_strength 26 = .ok (.iaload, 1) := by decide +kernel
theorem dX11_strength_27 : decode cX11_strength 27 = .ok (.invokevirtual 99, 3) := by decide +kernel
theorem dX11_strength_30 : decode cX11_strength 30 = .ok (.ireturn, 1) := by decide +kernel
theorem dX11_width_0 : decode cX11_width 0 = .ok (.aload_n 0, 1) := by decide +kernel
theorem dX11_width_1 : decode cX11_width 1 = .ok (.iload_n 1, 1) := by decide +kernel
theorem dX11_width_2 : decode cX11_width 2 = .ok (.invokevirtual 69, 3) := by decide +kernel
theorem dX11_width_5 : decode cX11_width 5 = .ok (.ifCond .ne 9, 3) := by decide +kernel
theorem dX11_width_8 : decode cX11_width 8 = .ok (.aload_n 0, 1) := by decide +kernel
theorem dX11_width_9 : decode cX11_width 9 = .ok (.iconst 1, 1) := by decide +kernel
theorem dX11_width_10 : decode cX11_width 10 = .ok (.invokevirtual 88, 3) := by decide +kernel
theorem dX11_width_13 : decode cX11_width 13 = .ok (.ireturn, 1) := by decide +kernel
theorem dX11_width_14 : decode cX11_width 14 = .ok (.iload_n 2, 1) := by decide +kernel
theorem dX11_width_15 : decode cX11_width 15 = .ok (.iconst 0, 1) := by decide +kernel
theorem dX11_width_16 : decode cX11_width 16 = .ok (.bipush 99, 2) := by decide +kernel
theorem dX11_width_18 : decode cX11_width 18 = .ok (.invokestatic 76, 3) := by decide +kernel
theorem dX11_width_21 : decode cX11_width 21 = .ok (.ifCond .ne 9, 3) := by decide +kernel
theorem dX11_width_24 : decode cX11_width 24 = .ok (.aload_n 0, 1) := by decide +kernel
theorem dX11_width_25 : decode cX11_width 25 = .ok (.iconst 2, 1) := by decide +kernel
theorem dX11_width_26 : decode cX11_width 26 = .ok (.invokevirtual 88, 3) := by decide +kernel
theorem dX11_width_29 : decode cX11_width 29 = .ok (.ireturn, 1) := by decide +kernel
theorem dX11_width_30 : decode cX11_width 30 = .ok (.aload_n 0, 1) := by decide +kernel
theorem dX11_width_31 : decode cX11_width 31 = .ok (.aload_n 0, 1) := by decide +kernel
theorem dX11_width_32 : decode cX11_width 32 = .ok (.getfield 22, 3) := by decide +kernel
theorem dX11_width_35 : decode cX11_width 35 = .ok (.iload_n 1, 1) := by decide +kernel
theorem dX11_width_36 : decode cX11_width 36 = .ok (.aaload, 1) := by decide +kernel
theorem dX11_width_37 : decode cX11_width 37 = .ok (.iload_n 2, 1) := by decide +kernel
theorem dX11_width_38 : decode cX11_width 38 = .ok (.invokevirtual 132, 3) := by decide +kernel
theorem dX11_width_41 : decode cX11_width 41 = .ok (.invokevirtual 99, 3) := by decide +kernel
theorem dX11_width_44 : decode cX11_width 44 = .ok (.ireturn, 1) := by decide +kernel
theorem dX11_bend_0 : decode cX11_bend 0 = .ok (.aload_n 0, 1) := by decide +kernel
theorem dX11_bend_1 : decode cX11_bend 1 = .ok (.iload_n 1, 1) := by decide +kernel
theorem dX11_bend_2 : decode cX11_bend 2 = .ok (.iload_n 2, 1) := by decide +kernel
theorem dX11_bend_3 : decode cX11_bend 3 = .ok (.iload_n 3, 1) := by decide +kernel
theorem dX11_bend_4 : decode cX11_bend 4 = .ok (.invokevirtual 135, 3) := by decide +kernel
theorem dX11_bend_7 : decode cX11_bend 7 = .ok (.istore 4, 2) := by decide +kernel
theorem dX11_bend_9 : decode cX11_bend 9 = .ok (.iload 4, 2) := by decide +kernel
theorem dX11_bend_11 : decode cX11_bend 11 = .ok (.ifCond .ne 17, 3) := by decide +kernel
theorem dX11_bend_14 : decode cX11_bend 14 = .ok (.aload_n 0, 1) := by decide +kernel
theorem dX11_bend_15 : decode cX11_bend 15 = .ok (.aload_n 0, 1) := by decide +kernel
theorem dX11_bend_16 : decode cX11_bend 16 = .ok (.getfield 50, 3) := by decide +kernel
theorem dX11_bend_19 : decode cX11_bend 19 = .ok (.getfield 139, 3) := by decide +kernel
theorem dX11_bend_22 : decode cX11_bend 22 = .ok (.invokevirtual 143, 3) := by decide +kernel
theorem dX11_bend_25 : decode cX11_bend 25 = .ok (.goto 9, 3) := by decide +kernel
theorem dX11_bend_28 : decode cX11_bend 28 = .ok (.aload_n 0, 1) := by decide +kernel
theorem dX11_bend_29 : decode cX11_bend 29 = .ok (.iload 4, 2) := by decide +kernel
theorem dX11_bend_31 : decode cX11_bend 31 = .ok (.invokevirtual 88, 3) := by decide +kernel
theorem dX11_bend_34 : decode cX11_bend 34 = .ok (.ireturn, 1) := by decide +kernel
theorem dX11_cut_0 : decode cX11_cut 0 = .ok (.aload_n 0, 1) := by decide +kernel
theorem dX11_cut_1 : decode cX11_cut 1 = .ok (.iload_n 1, 1) := by decide +kernel
theorem dX11_cut_2 : decode cX11_cut 2 = .ok (.iload_n 2, 1) := by decide +kernel
theorem dX11_cut_3 : decode cX11_cut 3 = .ok (.iload_n 3, 1) := by decide +kernel
theorem dX11_cut_4 : decode cX11_cut 4 = .ok (.invokevirtual 135, 3) := by decide +kernel
theorem dX11_cut_7 : decode cX11_cut 7 = .ok (.istore 4, 2) := by decide +kernel
theorem dX11_cut_9 : decode cX11_cut 9 = .ok (.iload 4, 2) := by decide +kernel
theorem dX11_cut_11 : decode cX11_cut 11 = .ok (.ifCond .ne 17, 3) := by decide +kernel
theorem dX11_cut_14 : decode cX11_cut 14 = .ok (.aload_n 0, 1) := by decide +kernel
theorem dX11_cut_15 : decode cX11_cut 15 = .ok (.aload_n 0, 1) := by decide +kernel
theorem dX11_cut_16 : decode cX11_cut 16 = .ok (.getfield 50, 3) := by decide +kernel
theorem dX11_cut_19 : decode cX11_cut 19 = .ok (.getfield 147, 3) := by decide +kernel
theorem dX11_cut_22 : decode cX11_cut 22 = .ok (.invokevirtual 143, 3) := by decide +kernel
theorem dX11_cut_25 : decode cX11_cut 25 = .ok (.goto 9, 3) := by decide +kernel
theorem dX11_cut_28 : decode cX11_cut 28 = .ok (.aload_n 0, 1) := by decide +kernel
theorem dX11_cut_29 : decode cX11_cut 29 = .ok (.iload 4, 2) := by decide +kernel
theorem dX11_cut_31 : decode cX11_cut 31 = .ok (.invokevirtual 88, 3) := by decide +kernel
theorem dX11_cut_34 : decode cX11_cut 34 = .ok (.ireturn, 1) := by decide +kernel
theorem dX11_borne_0 : decode cX11_borne 0 = .ok (.aload_n 0, 1) := by decide +kernel
theorem dX11_borne_1 : decode cX11_borne 1 = .ok (.iload_n 1, 1) := by decide +kernel
theorem dX11_borne_2 : decode cX11_borne 2 = .ok (.invokevirtual 69, 3) := by decide +kernel
theorem dX11_borne_5 : decode cX11_borne 5 = .ok (.ifCond .ne 9, 3) := by decide +kernel
theorem dX11_borne_8 : decode cX11_borne 8 = .ok (.aload_n 0, 1) := by decide +kernel
theorem dX11_borne_9 : decode cX11_borne 9 = .ok (.iconst 1, 1) := by decide +kernel
theorem dX11_borne_10 : decode cX11_borne 10 = .ok (.invokevirtual 88, 3) := by decide +kernel
theorem dX11_borne_13 : decode cX11_borne 13 = .ok (.ireturn, 1) := by decide +kernel
theorem dX11_borne_14 : decode cX11_borne 14 = .ok (.iload_n 2, 1) := by decide +kernel
theorem dX11_borne_15 : decode cX11_borne 15 = .ok (.invokestatic 150, 3) := by decide +kernel
theorem dX11_borne_18 : decode cX11_borne 18 = .ok (.ifCond .eq 10, 3) := by decide +kernel
theorem dX11_borne_21 : decode cX11_borne 21 = .ok (.iload_n 3, 1) := by decide +kernel
theorem dX11_borne_22 : decode cX11_borne 22 = .ok (.invokestatic 150, 3) := by decide +kernel
theorem dX11_borne_25 : decode cX11_borne 25 = .ok (.ifCond .ne 9, 3) := by decide +kernel
theorem dX11_borne_28 : decode cX11_borne 28 = .ok (.aload_n 0, 1) := by decide +kernel
theorem dX11_borne_29 : decode cX11_borne 29 = .ok (.iconst 2, 1) := by decide +kernel
theorem dX11_borne_30 : decode cX11_borne 30 = .ok (.invokevirtual 88, 3) := by decide +kernel
theorem dX11_borne_33 : decode cX11_borne 33 = .ok (.ireturn, 1) := by decide +kernel
theorem dX11_borne_34 : decode cX11_borne 34 = .ok (.aload_n 0, 1) := by decide +kernel
theorem dX11_borne_35 : decode cX11_borne 35 = .ok (.aload_n 0, 1) := by decide +kernel
theorem dX11_borne_36 : decode cX11_borne 36 = .ok (.aload_n 0, 1) := by decide +kernel
theorem dX11_borne_37 : decode cX11_borne 37 = .ok (.getfield 22, 3) := by decide +kernel
theorem dX11_borne_40 : decode cX11_borne 40 = .ok (.iload_n 1, 1) := by decide +kernel
theorem dX11_borne_41 : decode cX11_borne 41 = .ok (.aaload, 1) := by decide +kernel
theorem dX11_borne_42 : decode cX11_borne 42 = .ok (.iload_n 2, 1) := by decide +kernel
theorem dX11_borne_43 : decode cX11_borne 43 = .ok (.iload_n 3, 1) := by decide +kernel
theorem dX11_borne_44 : decode cX11_borne 44 = .ok (.invokevirtual 153, 3) := by decide +kernel
theorem dX11_borne_47 : decode cX11_borne 47 = .ok (.ifCond .eq 7, 3) := by decide +kernel
theorem dX11_borne_50 : decode cX11_borne 50 = .ok (.iconst 1, 1) := by decide +kernel
theorem dX11_borne_51 : decode cX11_borne 51 = .ok (.goto 4, 3) := by decide +kernel
theorem dX11_borne_54 : decode cX11_borne 54 = .ok (.iconst 0, 1) := by decide +kernel
theorem dX11_borne_55 : decode cX11_borne 55 = .ok (.invokevirtual 99, 3) := by decide +kernel
theorem dX11_borne_58 : decode cX11_borne 58 = .ok (.ireturn, 1) := by decide +kernel
theorem dX11_pair_0 : decode cX11_pair 0 = .ok (.iload_n 1, 1) := by decide +kernel
theorem dX11_pair_1 : decode cX11_pair 1 = .ok (.invokestatic 150, 3) := by decide +kernel
theorem dX11_pair_4 : decode cX11_pair 4 = .ok (.ifCond .eq 10, 3) := by decide +kernel
theorem dX11_pair_7 : decode cX11_pair 7 = .ok (.iload_n 2, 1) := by decide +kernel
theorem dX11_pair_8 : decode cX11_pair 8 = .ok (.invokestatic 150, 3) := by decide +kernel
theorem dX11_pair_11 : decode cX11_pair 11 = .ok (.ifCond .ne 9, 3) := by decide +kernel
theorem dX11_pair_14 : decode cX11_pair 14 = .ok (.aload_n 0, 1) := by decide +kernel
theorem dX11_pair_15 : decode cX11_pair 15 = .ok (.iconst 2, 1) := by decide +kernel
theorem dX11_pair_16 : decode cX11_pair 16 = .ok (.invokevirtual 88, 3) := by decide +kernel
theorem dX11_pair_19 : decode cX11_pair 19 = .ok (.ireturn, 1) := by decide +kernel
theorem dX11_pair_20 : decode cX11_pair 20 = .ok (.aload_n 0, 1) := by decide +kernel
theorem dX11_pair_21 : decode cX11_pair 21 = .ok (.getfield 29, 3) := by decide +kernel
theorem dX11_pair_24 : decode cX11_pair 24 = .ok (.getfield 157, 3) := by decide +kernel
theorem dX11_pair_27 : decode cX11_pair 27 = .ok (.bipush 8, 2) := by decide +kernel
theorem dX11_pair_29 : decode cX11_pair 29 = .ok (.if_icmp .lt 9, 3) := by decide +kernel
theorem dX11_pair_32 : decode cX11_pair 32 = .ok (.aload_n 0, 1) := by decide +kernel
theorem dX11_pair_33 : decode cX11_pair 33 = .ok (.iconst 3, 1) := by decide +kernel
theorem dX11_pair_34 : decode cX11_pair 34 = .ok (.invokevirtual 88, 3) := by decide +kernel
theorem dX11_pair_37 : decode cX11_pair 37 = .ok (.ireturn, 1) := by decide +kernel
theorem dX11_pair_38 : decode cX11_pair 38 = .ok (.aload_n 0, 1) := by decide +kernel
theorem dX11_pair_39 : decode cX11_pair 39 = .ok (.invokevirtual 160, 3) := by decide +kernel
theorem dX11_pair_42 : decode cX11_pair 42 = .ok (.aload_n 0, 1) := by decide +kernel
theorem dX11_pair_43 : decode cX11_pair 43 = .ok (.aload_n 0, 1) := by decide +kernel
theorem dX11_pair_44 : decode cX11_pair 44 = .ok (.getfield 29, 3) := by decide +kernel
theorem dX11_pair_47 : decode cX11_pair 47 = .ok (.iload_n 1, 1) := by decide +kernel
theorem dX11_pair_48 : decode cX11_pair 48 = .ok (.iload_n 2, 1) := by decide +kernel
theorem dX11_pair_49 : decode cX11_pair 49 = .ok (.invokevirtual 163, 3) := by decide +kernel
theorem dX11_pair_52 : decode cX11_pair 52 = .ok (.invokevirtual 99, 3) := by decide +kernel
theorem dX11_pair_55 : decode cX11_pair 55 = .ok (.ireturn, 1) := by decide +kernel
theorem dX11_clear_0 : decode cX11_clear 0 = .ok (.aload_n 0, 1) := by decide +kernel
theorem dX11_clear_1 : decode cX11_clear 1 = .ok (.invokevirtual 160, 3) := by decide +kernel
theorem dX11_clear_4 : decode cX11_clear 4 = .ok (.aload_n 0, 1) := by decide +kernel
theorem dX11_clear_5 : decode cX11_clear 5 = .ok (.getfield 29, 3) := by decide +kernel
theorem dX11_clear_8 : decode cX11_clear 8 = .ok (.iconst 0, 1) := by decide +kernel
theorem dX11_clear_9 : decode cX11_clear 9 = .ok (.putfield 157, 3) := by decide +kernel
theorem dX11_clear_12 : decode cX11_clear 12 = .ok (.aload_n 0, 1) := by decide +kernel
theorem dX11_clear_13 : decode cX11_clear 13 = .ok (.invokevirtual 84, 3) := by decide +kernel
theorem dX11_clear_16 : decode cX11_clear 16 = .ok (.ireturn, 1) := by decide +kernel
theorem dX11_safe_0 : decode cX11_safe 0 = .ok (.aload_n 0, 1) := by decide +kernel
theorem dX11_safe_1 : decode cX11_safe 1 = .ok (.iload_n 1, 1) := by decide +kernel
theorem dX11_safe_2 : decode cX11_safe 2 = .ok (.invokevirtual 69, 3) := by decide +kernel
theorem dX11_safe_5 : decode cX11_safe 5 = .ok (.ifCond .ne 9, 3) := by decide +kernel
theorem dX11_safe_8 : decode cX11_safe 8 = .ok (.aload_n 0, 1) := by decide +kernel
theorem dX11_safe_9 : decode cX11_safe 9 = .ok (.iconst 1, 1) := by decide +kernel
theorem dX11_safe_10 : decode cX11_safe 10 = .ok (.invokevirtual 88, 3) := by decide +kernel
theorem dX11_safe_13 : decode cX11_safe 13 = .ok (.ireturn, 1) := by decide +kernel
theorem dX11_safe_14 : decode cX11_safe 14 = .ok (.iconst 0, 1) := by decide +kernel
theorem dX11_safe_15 : decode cX11_safe 15 = .ok (.istore_n 2, 1) := by decide +kernel
theorem dX11_safe_16 : decode cX11_safe 16 = .ok (.iload_n 2, 1) := by decide +kernel
theorem dX11_safe_17 : decode cX11_safe 17 = .ok (.aload_n 0, 1) := by decide +kernel
theorem dX11_safe_18 : decode cX11_safe 18 = .ok (.getfield 29, 3) := by decide +kernel
theorem dX11_safe_21 : decode cX11_safe 21 = .ok (.getfield 157, 3) := by decide +kernel
theorem dX11_safe_24 : decode cX11_safe 24 = .ok (.if_icmp .ge 46, 3) := by decide +kernel
theorem dX11_safe_27 : decode cX11_safe 27 = .ok (.aload_n 0, 1) := by decide +kernel
theorem dX11_safe_28 : decode cX11_safe 28 = .ok (.aload_n 0, 1) := by decide +kernel
theorem dX11_safe_29 : decode cX11_safe 29 = .ok (.getfield 22, 3) := by decide +kernel
theorem dX11_safe_32 : decode cX11_safe 32 = .ok (.iload_n 1, 1) := by decide +kernel
theorem dX11_safe_33 : decode cX11_safe 33 = .ok (.aaload, 1) := by decide +kernel
theorem dX11_safe_34 : decode cX11_safe 34 = .ok (.aload_n 0, 1) := by decide +kernel
theorem dX11_safe_35 : decode cX11_safe 35 = .ok (.getfield 29, 3) := by decide +kernel
theorem dX11_safe_38 : decode cX11_safe 38 = .ok (.getfield 166, 3) := by decide +kernel
theorem dX11_safe_41 : decode cX11_safe 41 = .ok (.iload_n 2, 1) := by decide +kernel
theorem dX11_safe_42 : decode cX11_safe 42 = .ok (.iaload, 1) := by decide +kernel
theorem dX11_safe_43 : decode cX11_safe 43 = .ok (.aload_n 0, 1) := by decide +kernel
theorem dX11_safe_44 : decode cX11_safe 44 = .ok (.getfield 29, 3) := by decide +kernel
theorem dX11_safe_47 : decode cX11_safe 47 = .ok (.getfield 169, 3) := by decide +kernel
theorem dX11_safe_50 : decode cX11_safe 50 = .ok (.iload_n 2, 1) := by decide +kernel
theorem dX11_safe_51 : decode cX11_safe 51 = .ok (.iaload, 1) := by decide +kernel
theorem dX11_safe_52 : decode cX11_safe 52 = .ok (.invokevirtual 153, 3) := by decide +kernel
theorem dX11_safe_55 : decode cX11_safe 55 = .ok (.ifCond .ne 9, 3) := by decide +kernel
theorem dX11_safe_58 : decode cX11_safe 58 = .ok (.aload_n 0, 1) := by decide +kernel
theorem dX11_safe_59 : decode cX11_safe 59 = .ok (.iload_n 2, 1) := by decide +kernel
theorem dX11_safe_60 : decode cX11_safe 60 = .ok (.invokevirtual 99, 3) := by decide +kernel
theorem dX11_safe_63 : decode cX11_safe 63 = .ok (.ireturn, 1) := by decide +kernel
theorem dX11_safe_64 : decode cX11_safe 64 = .ok (.iinc 2 1, 3) := by decide +kernel
theorem dX11_safe_67 : decode cX11_safe 67 = .ok (.goto (-51), 3) := by decide +kernel
theorem dX11_safe_70 : decode cX11_safe 70 = .ok (.aload_n 0, 1) := by decide +kernel
theorem dX11_safe_71 : decode cX11_safe 71 = .ok (.bipush (-2), 2) := by decide +kernel
theorem dX11_safe_73 : decode cX11_safe 73 = .ok (.invokevirtual 99, 3) := by decide +kernel
theorem dX11_safe_76 : decode cX11_safe 76 = .ok (.ireturn, 1) := by decide +kernel
theorem dX11_size_0 : decode cX11_size 0 = .ok (.iload_n 1, 1) := by decide +kernel
theorem dX11_size_1 : decode cX11_size 1 = .ok (.iconst 1, 1) := by decide +kernel
theorem dX11_size_2 : decode cX11_size 2 = .ok (.sipush 200, 3) := by decide +kernel
theorem dX11_size_5 : decode cX11_size 5 = .ok (.invokestatic 76, 3) := by decide +kernel
theorem dX11_size_8 : decode cX11_size 8 = .ok (.ifCond .eq 14, 3) := by decide +kernel
theorem dX11_size_11 : decode cX11_size 11 = .ok (.iload_n 2, 1) := by decide +kernel
theorem dX11_size_12 : decode cX11_size 12 = .ok (.iconst 1, 1) := by decide +kernel
theorem dX11_size_13 : decode cX11_size 13 = .ok (.sipush 10000, 3) := by decide +kernel
theorem dX11_size_16 : decode cX11_size 16 = .ok (.invokestatic 76, 3) := by decide +kernel
theorem dX11_size_19 : decode cX11_size 19 = .ok (.ifCond .ne 9, 3) := by decide +kernel
theorem dX11_size_22 : decode cX11_size 22 = .ok (.aload_n 0, 1) := by decide +kernel
theorem dX11_size_23 : decode cX11_size 23 = .ok (.iconst 2, 1) := by decide +kernel
theorem dX11_size_24 : decode cX11_size 24 = .ok (.invokevirtual 88, 3) := by decide +kernel
theorem dX11_size_27 : decode cX11_size 27 = .ok (.ireturn, 1) := by decide +kernel
theorem dX11_size_28 : decode cX11_size 28 = .ok (.aload_n 0, 1) := by decide +kernel
theorem dX11_size_29 : decode cX11_size 29 = .ok (.getfield 36, 3) := by decide +kernel
theorem dX11_size_32 : decode cX11_size 32 = .ok (.getfield 172, 3) := by decide +kernel
theorem dX11_size_35 : decode cX11_size 35 = .ok (.iconst 4, 1) := by decide +kernel
theorem dX11_size_36 : decode cX11_size 36 = .ok (.if_icmp .lt 9, 3) := by decide +kernel
theorem dX11_size_39 : decode cX11_size 39 = .ok (.aload_n 0, 1) := by decide +kernel
theorem dX11_size_40 : decode cX11_size 40 = .ok (.iconst 3, 1) := by decide +kernel
theorem dX11_size_41 : decode cX11_size 41 = .ok (.invokevirtual 88, 3) := by decide +kernel
theorem dX11_size_44 : decode cX11_size 44 = .ok (.ireturn, 1) := by decide +kernel
theorem dX11_size_45 : decode cX11_size 45 = .ok (.aload_n 0, 1) := by decide +kernel
theorem dX11_size_46 : decode cX11_size 46 = .ok (.invokevirtual 160, 3) := by decide +kernel
theorem dX11_size_49 : decode cX11_size 49 = .ok (.aload_n 0, 1) := by decide +kernel
theorem dX11_size_50 : decode cX11_size 50 = .ok (.aload_n 0, 1) := by decide +kernel
theorem dX11_size_51 : decode cX11_size 51 = .ok (.getfield 36, 3) := by decide +kernel
theorem dX11_size_54 : decode cX11_size 54 = .ok (.iload_n 1, 1) := by decide +kernel
theorem dX11_size_55 : decode cX11_size 55 = .ok (.iload_n 2, 1) := by decide +kernel
theorem dX11_size_56 : decode cX11_size 56 = .ok (.invokevirtual 173, 3) := by decide +kernel
theorem dX11_size_59 : decode cX11_size 59 = .ok (.invokevirtual 99, 3) := by decide +kernel
theorem dX11_size_62 : decode cX11_size 62 = .ok (.ireturn, 1) := by decide +kernel
theorem dX11_best_0 : decode cX11_best 0 = .ok (.aload_n 0, 1) := by decide +kernel
theorem dX11_best_1 : decode cX11_best 1 = .ok (.iload_n 1, 1) := by decide +kernel
theorem dX11_best_2 : decode cX11_best 2 = .ok (.invokevirtual 69, 3) := by decide +kernel
theorem dX11_best_5 : decode cX11_best 5 = .ok (.ifCond .ne 9, 3) := by decide +kernel
theorem dX11_best_8 : decode cX11_best 8 = .ok (.aload_n 0, 1) := by decide +kernel
theorem dX11_best_9 : decode cX11_best 9 = .ok (.iconst 1, 1) := by decide +kernel
theorem dX11_best_10 : decode cX11_best 10 = .ok (.invokevirtual 88, 3) := by decide +kernel
theorem dX11_best_13 : decode cX11_best 13 = .ok (.ireturn, 1) := by decide +kernel
theorem dX11_best_14 : decode cX11_best 14 = .ok (.aload_n 0, 1) := by decide +kernel
theorem dX11_best_15 : decode cX11_best 15 = .ok (.getfield 22, 3) := by decide +kernel
theorem dX11_best_18 : decode cX11_best 18 = .ok (.iload_n 1, 1) := by decide +kernel
theorem dX11_best_19 : decode cX11_best 19 = .ok (.aaload, 1) := by decide +kernel
theorem dX11_best_20 : decode cX11_best 20 = .ok (.astore_n 2, 1) := by decide +kernel
theorem dX11_best_21 : decode cX11_best 21 = .ok (.aload_n 0, 1) := by decide +kernel
theorem dX11_best_22 : decode cX11_best 22 = .ok (.getfield 57, 3) := by decide +kernel
theorem dX11_best_25 : decode cX11_best 25 = .ok (.aload_n 2, 1) := by decide +kernel
theorem dX11_best_26 : decode cX11_best 26 = .ok (.aload_n 0, 1) := by decide +kernel
theorem dX11_best_27 : decode cX11_best 27 = .ok (.getfield 29, 3) := by decide +kernel
theorem dX11_best_30 : decode cX11_best 30 = .ok (.aload_n 0, 1) := by decide +kernel
theorem dX11_best_31 : decode cX11_best 31 = .ok (.getfield 36, 3) := by decide +kernel
theorem dX11_best_34 : decode cX11_best 34 = .ok (.invokevirtual 174, 3) := by decide +kernel
theorem dX11_best_37 : decode cX11_best 37 = .ok (.ifCond .eq 14, 3) := by decide +kernel
theorem dX11_best_40 : decode cX11_best 40 = .ok (.aload_n 0, 1) := by decide +kernel
theorem dX11_best_41 : decode cX11_best 41 = .ok (.aload_n 2, 1) := by decide +kernel
theorem dX11_best_42 : decode cX11_best 42 = .ok (.getfield 178, 3) := by decide +kernel
theorem dX11_best_45 : decode cX11_best 45 = .ok (.invokevirtual 99, 3) := by decide +kernel
theorem dX11_best_48 : decode cX11_best 48 = .ok (.goto 8, 3) := by decide +kernel
theorem dX11_best_51 : decode cX11_best 51 = .ok (.aload_n 0, 1) := by decide +kernel
theorem dX11_best_52 : decode cX11_best 52 = .ok (.iconst 5, 1) := by decide +kernel
theorem dX11_best_53 : decode cX11_best 53 = .ok (.invokevirtual 88, 3) := by decide +kernel
theorem dX11_best_56 : decode cX11_best 56 = .ok (.ireturn, 1) := by decide +kernel
theorem dX11_chosen_0 : decode cX11_chosen 0 = .ok (.aload_n 0, 1) := by decide +kernel
theorem dX11_chosen_1 : decode cX11_chosen 1 = .ok (.iload_n 1, 1) := by decide +kernel
theorem dX11_chosen_2 : decode cX11_chosen 2 = .ok (.iload_n 2, 1) := by decide +kernel
theorem dX11_chosen_3 : decode cX11_chosen 3 = .ok (.invokevirtual 109, 3) := by decide +kernel
theorem dX11_chosen_6 : decode cX11_chosen 6 = .ok (.ifCond .ne 9, 3) := by decide +kernel
theorem dX11_chosen_9 : decode cX11_chosen 9 = .ok (.aload_n 0, 1) := by decide +kernel
theorem dX11_chosen_10 : decode cX11_chosen 10 = .ok (.iconst 1, 1) := by decide +kernel
theorem dX11_chosen_11 : decode cX11_chosen 11 = .ok (.invokevirtual 88, 3) := by decide +kernel
theorem dX11_chosen_14 : decode cX11_chosen 14 = .ok (.ireturn, 1) := by decide +kernel
theorem dX11_chosen_15 : decode cX11_chosen 15 = .ok (.aload_n 0, 1) := by decide +kernel
theorem dX11_chosen_16 : decode cX11_chosen 16 = .ok (.getfield 22, 3) := by decide +kernel
theorem dX11_chosen_19 : decode cX11_chosen 19 = .ok (.iload_n 1, 1) := by decide +kernel
theorem dX11_chosen_20 : decode cX11_chosen 20 = .ok (.aaload, 1) := by decide +kernel
theorem dX11_chosen_21 : decode cX11_chosen 21 = .ok (.astore_n 3, 1) := by decide +kernel
theorem dX11_chosen_22 : decode cX11_chosen 22 = .ok (.aload_n 0, 1) := by decide +kernel
theorem dX11_chosen_23 : decode cX11_chosen 23 = .ok (.getfield 57, 3) := by decide +kernel
theorem dX11_chosen_26 : decode cX11_chosen 26 = .ok (.aload_n 3, 1) := by decide +kernel
theorem dX11_chosen_27 : decode cX11_chosen 27 = .ok (.aload_n 0, 1) := by decide +kernel
theorem dX11_chosen_28 : decode cX11_chosen 28 = .ok (.getfield 29, 3) := by decide +kernel
theorem dX11_chosen_31 : decode cX11_chosen 31 = .ok (.aload_n 0, 1) := by decide +kernel
theorem dX11_chosen_32 : decode cX11_chosen 32 = .ok (.getfield 36, 3) := by decide +kernel
theorem dX11_chosen_35 : decode cX11_chosen 35 = .ok (.invokevirtual 174, 3) := by decide +kernel
theorem dX11_chosen_38 : decode cX11_chosen 38 = .ok (.ifCond .eq 16, 3) := by decide +kernel
theorem dX11_chosen_41 : decode cX11_chosen 41 = .ok (.aload_n 0, 1) := by decide +kernel
theorem dX11_chosen_42 : decode cX11_chosen 42 = .ok (.aload_n 3, 1) := by decide +kernel
theorem dX11_chosen_43 : decode cX11_chosen 43 = .ok (.getfield 181, 3) := by decide +kernel
theorem dX11_chosen_46 : decode cX11_chosen 46 = .ok (.iload_n 2, 1) := by decide +kernel
theorem dX11_chosen_47 : decode cX11_chosen 47 = .ok (.iaload, 1) := by decide +kernel
theorem dX11_chosen_48 : decode cX11_chosen 48 = .ok (.invokevirtual 99, 3) := by decide +kernel
theorem dX11_chosen_51 : decode cX11_chosen 51 = .ok (.goto 8, 3) := by decide +kernel
theorem dX11_chosen_54 : decode cX11_chosen 54 = .ok (.aload_n 0, 1) := by decide +kernel
theorem dX11_chosen_55 : decode cX11_chosen 55 = .ok (.iconst 5, 1) := by decide +kernel
theorem dX11_chosen_56 : decode cX11_chosen 56 = .ok (.invokevirtual 88, 3) := by decide +kernel
theorem dX11_chosen_59 : decode cX11_chosen 59 = .ok (.ireturn, 1) := by decide +kernel
theorem dX11_take_0 : decode cX11_take 0 = .ok (.aload_n 0, 1) := by decide +kernel
theorem dX11_take_1 : decode cX11_take 1 = .ok (.iload_n 1, 1) := by decide +kernel
theorem dX11_take_2 : decode cX11_take 2 = .ok (.invokevirtual 69, 3) := by decide +kernel
theorem dX11_take_5 : decode cX11_take 5 = .ok (.ifCond .ne 9, 3) := by decide +kernel
theorem dX11_take_8 : decode cX11_take 8 = .ok (.aload_n 0, 1) := by decide +kernel
theorem dX11_take_9 : decode cX11_take 9 = .ok (.iconst 1, 1) := by decide +kernel
theorem dX11_take_10 : decode cX11_take 10 = .ok (.invokevirtual 88, 3) := by decide +kernel
theorem dX11_take_13 : decode cX11_take 13 = .ok (.ireturn, 1) := by decide +kernel
theorem dX11_take_14 : decode cX11_take 14 = .ok (.aload_n 0, 1) := by decide +kernel
theorem dX11_take_15 : decode cX11_take 15 = .ok (.getfield 22, 3) := by decide +kernel
theorem dX11_take_18 : decode cX11_take 18 = .ok (.iload_n 1, 1) := by decide +kernel
theorem dX11_take_19 : decode cX11_take 19 = .ok (.aaload, 1) := by decide +kernel
theorem dX11_take_20 : decode cX11_take 20 = .ok (.astore_n 2, 1) := by decide +kernel
theorem dX11_take_21 : decode cX11_take 21 = .ok (.aload_n 0, 1) := by decide +kernel
theorem dX11_take_22 : decode cX11_take 22 = .ok (.getfield 57, 3) := by decide +kernel
theorem dX11_take_25 : decode cX11_take 25 = .ok (.aload_n 2, 1) := by decide +kernel
theorem dX11_take_26 : decode cX11_take 26 = .ok (.aload_n 0, 1) := by decide +kernel
theorem dX11_take_27 : decode cX11_take 27 = .ok (.getfield 29, 3) := by decide +kernel
theorem dX11_take_30 : decode cX11_take 30 = .ok (.aload_n 0, 1) := by decide +kernel
theorem dX11_take_31 : decode cX11_take 31 = .ok (.getfield 36, 3) := by decide +kernel
theorem dX11_take_34 : decode cX11_take 34 = .ok (.invokevirtual 174, 3) := by decide +kernel
theorem dX11_take_37 : decode cX11_take 37 = .ok (.ifCond .eq 15, 3) := by decide +kernel
theorem dX11_take_40 : decode cX11_take 40 = .ok (.aload_n 0, 1) := by decide +kernel
theorem dX11_take_41 : decode cX11_take 41 = .ok (.aload_n 0, 1) := by decide +kernel
theorem dX11_take_42 : decode cX11_take 42 = .ok (.aload_n 2, 1) := by decide +kernel
theorem dX11_take_43 : decode cX11_take 43 = .ok (.invokevirtual 184, 3) := by decide +kernel
theorem dX11_take_46 : decode cX11_take 46 = .ok (.invokevirtual 99, 3) := by decide +kernel
theorem dX11_take_49 : decode cX11_take 49 = .ok (.goto 8, 3) := by decide +kernel
theorem dX11_take_52 : decode cX11_take 52 = .ok (.aload_n 0, 1) := by decide +kernel
theorem dX11_take_53 : decode cX11_take 53 = .ok (.iconst 5, 1) := by decide +kernel
theorem dX11_take_54 : decode cX11_take 54 = .ok (.invokevirtual 88, 3) := by decide +kernel
theorem dX11_take_57 : decode cX11_take 57 = .ok (.ireturn, 1) := by decide +kernel
theorem dX11_span_0 : decode cX11_span 0 = .ok (.aload_n 0, 1) := by decide +kernel
theorem dX11_span_1 : decode cX11_span 1 = .ok (.iload_n 2, 1) := by decide +kernel
theorem dX11_span_2 : decode cX11_span 2 = .ok (.invokevirtual 69, 3) := by decide +kernel
theorem dX11_span_5 : decode cX11_span 5 = .ok (.ifCond .ne 9, 3) := by decide +kernel
theorem dX11_span_8 : decode cX11_span 8 = .ok (.aload_n 0, 1) := by decide +kernel
theorem dX11_span_9 : decode cX11_span 9 = .ok (.iconst 1, 1) := by decide +kernel
theorem dX11_span_10 : decode cX11_span 10 = .ok (.invokevirtual 88, 3) := by decide +kernel
theorem dX11_span_13 : decode cX11_span 13 = .ok (.ireturn, 1) := by decide +kernel
theorem dX11_span_14 : decode cX11_span 14 = .ok (.iload_n 1, 1) := by decide +kernel
theorem dX11_span_15 : decode cX11_span 15 = .ok (.iconst 2, 1) := by decide +kernel
theorem dX11_span_16 : decode cX11_span 16 = .ok (.bipush 50, 2) := by decide +kernel
theorem dX11_span_18 : decode cX11_span 18 = .ok (.invokestatic 76, 3) := by decide +kernel
theorem dX11_span_21 : decode cX11_span 21 = .ok (.ifCond .ne 9, 3) := by decide +kernel
theorem dX11_span_24 : decode cX11_span 24 = .ok (.aload_n 0, 1) := by decide +kernel
theorem dX11_span_25 : decode cX11_span 25 = .ok (.iconst 2, 1) := by decide +kernel
theorem dX11_span_26 : decode cX11_span 26 = .ok (.invokevirtual 88, 3) := by decide +kernel
theorem dX11_span_29 : decode cX11_span 29 = .ok (.ireturn, 1) := by decide +kernel
theorem dX11_span_30 : decode cX11_span 30 = .ok (.aload_n 0, 1) := by decide +kernel
theorem dX11_span_31 : decode cX11_span 31 = .ok (.getfield 43, 3) := by decide +kernel
theorem dX11_span_34 : decode cX11_span 34 = .ok (.getfield 188, 3) := by decide +kernel
theorem dX11_span_37 : decode cX11_span 37 = .ok (.iconst 5, 1) := by decide +kernel
theorem dX11_span_38 : decode cX11_span 38 = .ok (.if_icmp .lt 9, 3) := by decide +kernel
theorem dX11_span_41 : decode cX11_span 41 = .ok (.aload_n 0, 1) := by decide +kernel
theorem dX11_span_42 : decode cX11_span 42 = .ok (.iconst 3, 1) := by decide +kernel
theorem dX11_span_43 : decode cX11_span 43 = .ok (.invokevirtual 88, 3) := by decide +kernel
theorem dX11_span_46 : decode cX11_span 46 = .ok (.ireturn, 1) := by decide +kernel
theorem dX11_span_47 : decode cX11_span 47 = .ok (.aload_n 0, 1) := by decide +kernel
theorem dX11_span_48 : decode cX11_span 48 = .ok (.aload_n 0, 1) := by decide +kernel
theorem dX11_span_49 : decode cX11_span 49 = .ok (.getfield 43, 3) := by decide +kernel
theorem dX11_span_52 : decode cX11_span 52 = .ok (.iload_n 1, 1) := by decide +kernel
theorem dX11_span_53 : decode cX11_span 53 = .ok (.iload_n 2, 1) := by decide +kernel
theorem dX11_span_54 : decode cX11_span 54 = .ok (.invokevirtual 189, 3) := by decide +kernel
theorem dX11_span_57 : decode cX11_span 57 = .ok (.invokevirtual 99, 3) := by decide +kernel
theorem dX11_span_60 : decode cX11_span 60 = .ok (.ireturn, 1) := by decide +kernel
theorem dX11_away_0 : decode cX11_away 0 = .ok (.aload_n 0, 1) := by decide +kernel
theorem dX11_away_1 : decode cX11_away 1 = .ok (.getfield 43, 3) := by decide +kernel
theorem dX11_away_4 : decode cX11_away 4 = .ok (.iconst 0, 1) := by decide +kernel
theorem dX11_away_5 : decode cX11_away 5 = .ok (.putfield 188, 3) := by decide +kernel
theorem dX11_away_8 : decode cX11_away 8 = .ok (.aload_n 0, 1) := by decide +kernel
theorem dX11_away_9 : decode cX11_away 9 = .ok (.invokevirtual 84, 3) := by decide +kernel
theorem dX11_away_12 : decode cX11_away 12 = .ok (.ireturn, 1) := by decide +kernel
theorem dX11_hold_0 : decode cX11_hold 0 = .ok (.iload_n 1, 1) := by decide +kernel
theorem dX11_hold_1 : decode cX11_hold 1 = .ok (.iconst 0, 1) := by decide +kernel
theorem dX11_hold_2 : decode cX11_hold 2 = .ok (.iconst 1, 1) := by decide +kernel
theorem dX11_hold_3 : decode cX11_hold 3 = .ok (.invokestatic 76, 3) := by decide +kernel
theorem dX11_hold_6 : decode cX11_hold 6 = .ok (.ifCond .ne 9, 3) := by decide +kernel
theorem dX11_hold_9 : decode cX11_hold 9 = .ok (.aload_n 0, 1) := by decide +kernel
theorem dX11_hold_10 : decode cX11_hold 10 = .ok (.iconst 2, 1) := by decide +kernel
theorem dX11_hold_11 : decode cX11_hold 11 = .ok (.invokevirtual 73, 3) := by decide +kernel
theorem dX11_hold_14 : decode cX11_hold 14 = .ok (.ireturn, 1) := by decide +kernel
theorem dX11_hold_15 : decode cX11_hold 15 = .ok (.aload_n 0, 1) := by decide +kernel
theorem dX11_hold_16 : decode cX11_hold 16 = .ok (.getfield 43, 3) := by decide +kernel
theorem dX11_hold_19 : decode cX11_hold 19 = .ok (.getfield 192, 3) := by decide +kernel
theorem dX11_hold_22 : decode cX11_hold 22 = .ok (.iload_n 1, 1) := by decide +kernel
theorem dX11_hold_23 : decode cX11_hold 23 = .ok (.baload, 1) := by decide +kernel
theorem dX11_hold_24 : decode cX11_hold 24 = .ok (.iload_n 2, 1) := by decide +kernel
theorem dX11_hold_25 : decode cX11_hold 25 = .ok (.if_icmp .ne 10, 3) := by decide +kernel
theorem dX11_hold_28 : decode cX11_hold 28 = .ok (.aload_n 0, 1) := by decide +kernel
theorem dX11_hold_29 : decode cX11_hold 29 = .ok (.bipush 8, 2) := by decide +kernel
theorem dX11_hold_31 : decode cX11_hold 31 = .ok (.invokevirtual 73, 3) := by decide +kernel
theorem dX11_hold_34 : decode cX11_hold 34 = .ok (.ireturn, 1) := by decide +kernel
theorem dX11_hold_35 : decode cX11_hold 35 = .ok (.aload_n 0, 1) := by decide +kernel
theorem dX11_hold_36 : decode cX11_hold 36 = .ok (.getfield 43, 3) := by decide +kernel
theorem dX11_hold_39 : decode cX11_hold 39 = .ok (.getfield 192, 3) := by decide +kernel
theorem dX11_hold_42 : decode cX11_hold 42 = .ok (.iload_n 1, 1) := by decide +kernel
theorem dX11_hold_43 : decode cX11_hold 43 = .ok (.iload_n 2, 1) := by decide +kernel
theorem dX11_hold_44 : decode cX11_hold 44 = .ok (.bastore, 1) := by decide +kernel
theorem dX11_hold_45 : decode cX11_hold 45 = .ok (.aload_n 0, 1) := by decide +kernel
theorem dX11_hold_46 : decode cX11_hold 46 = .ok (.invokevirtual 84, 3) := by decide +kernel
theorem dX11_hold_49 : decode cX11_hold 49 = .ok (.ireturn, 1) := by decide +kernel
theorem dX11_load_0 : decode cX11_load 0 = .ok (.aload_n 0, 1) := by decide +kernel
theorem dX11_load_1 : decode cX11_load 1 = .ok (.iload_n 1, 1) := by decide +kernel
theorem dX11_load_2 : decode cX11_load 2 = .ok (.invokevirtual 196, 3) := by decide +kernel
theorem dX11_load_5 : decode cX11_load 5 = .ok (.ifCond .ne 9, 3) := by decide +kernel
theorem dX11_load_8 : decode cX11_load 8 = .ok (.aload_n 0, 1) := by decide +kernel
theorem dX11_load_9 : decode cX11_load 9 = .ok (.iconst 1, 1) := by decide +kernel
theorem dX11_load_10 : decode cX11_load 10 = .ok (.invokevirtual 88, 3) := by decide +kernel
theorem dX11_load_13 : decode cX11_load 13 = .ok (.ireturn, 1) := by decide +kernel
theorem dX11_load_14 : decode cX11_load 14 = .ok (.aload_n 0, 1) := by decide +kernel
theorem dX11_load_15 : decode cX11_load 15 = .ok (.getfield 43, 3) := by decide +kernel
theorem dX11_load_18 : decode cX11_load 18 = .ok (.getfield 199, 3) := by decide +kernel
theorem dX11_load_21 : decode cX11_load 21 = .ok (.iload_n 1, 1) := by decide +kernel
theorem dX11_load_22 : decode cX11_load 22 = .ok (.aaload, 1) := by decide +kernel
theorem dX11_load_23 : decode cX11_load 23 = .ok (.astore 4, 2) := by decide +kernel
theorem dX11_load_25 : decode cX11_load 25 = .ok (.iload_n 2, 1) := by decide +kernel
theorem dX11_load_26 : decode cX11_load 26 = .ok (.iconst 1, 1) := by decide +kernel
theorem dX11_load_27 : decode cX11_load 27 = .ok (.aload 4, 2) := by decide +kernel
theorem dX11_load_29 : decode cX11_load 29 = .ok (.getfield 203, 3) := by decide +kernel
theorem dX11_load_32 : decode cX11_load 32 = .ok (.iconst 1, 1) := by decide +kernel
theorem dX11_load_33 : decode cX11_load 33 = .ok (.isub, 1) := by decide +kernel
theorem dX11_load_34 : decode cX11_load 34 = .ok (.invokestatic 76, 3) := by decide +kernel
theorem dX11_load_37 : decode cX11_load 37 = .ok (.ifCond .eq 14, 3) := by decide +kernel
theorem dX11_load_40 : decode cX11_load 40 = .ok (.iload_n 3, 1) := by decide +kernel
theorem dX11_load_41 : decode cX11_load 41 = .ok (.iconst 1, 1) := by decide +kernel
theorem dX11_load_42 : decode cX11_load 42 = .ok (.sipush 1000, 3) := by decide +kernel
theorem dX11_load_45 : decode cX11_load 45 = .ok (.invokestatic 76, 3) := by decide +kernel
theorem dX11_load_48 : decode cX11_load 48 = .ok (.ifCond .ne 9, 3) := by decide +kernel
theorem dX11_load_51 : decode cX11_load 51 = .ok (.aload_n 0, 1) := by decide +kernel
theorem dX11_load_52 : decode cX11_load 52 = .ok (.iconst 2, 1) := by decide +kernel
theorem dX11_load_53 : decode cX11_load 53 = .ok (.invokevirtual 88, 3) := by decide +kernel
theorem dX11_load_56 : decode cX11_load 56 = .ok (.ireturn, 1) := by decide +kernel
theorem dX11_load_57 : decode cX11_load 57 = .ok (.aload 4, 2) := by decide +kernel
theorem dX11_load_59 : decode cX11_load 59 = .ok (.getfield 206, 3) := by decide +kernel
theorem dX11_load_62 : decode cX11_load 62 = .ok (.iconst 2, 1) := by decide +kernel
theorem dX11_load_63 : decode cX11_load 63 = .ok (.if_icmp .lt 9, 3) := by decide +kernel
theorem dX11_load_66 : decode cX11_load 66 = .ok (.aload_n 0, 1) := by decide +kernel
theorem dX11_load_67 : decode cX11_load 67 = .ok (.iconst 3, 1) := by decide +kernel
theorem dX11_load_68 : decode cX11_load 68 = .ok (.invokevirtual 88, 3) := by decide +kernel
theorem dX11_load_71 : decode cX11_load 71 = .ok (.ireturn, 1) := by decide +kernel
theorem dX11_load_72 : decode cX11_load 72 = .ok (.aload 4, 2) := by decide +kernel
theorem dX11_load_74 : decode cX11_load 74 = .ok (.iload_n 2, 1) := by decide +kernel
theorem dX11_load_75 : decode cX11_load 75 = .ok (.invokevirtual 209, 3) := by decide +kernel
theorem dX11_load_78 : decode cX11_load 78 = .ok (.ifCond .eq 10, 3) := by decide +kernel
theorem dX11_load_81 : decode cX11_load 81 = .ok (.aload_n 0, 1) := by decide +kernel
theorem dX11_load_82 : decode cX11_load 82 = .ok (.bipush 7, 2) := by decide +kernel
theorem dX11_load_84 : decode cX11_load 84 = .ok (.invokevirtual 88, 3) := by decide +kernel
theorem dX11_load_87 : decode cX11_load 87 = .ok (.ireturn, 1) := by decide +kernel
theorem dX11_load_88 : decode cX11_load 88 = .ok (.aload_n 0, 1) := by decide +kernel
theorem dX11_load_89 : decode cX11_load 89 = .ok (.aload 4, 2) := by decide +kernel
theorem dX11_load_91 : decode cX11_load 91 = .ok (.iload_n 2, 1) := by decide +kernel
theorem dX11_load_92 : decode cX11_load 92 = .ok (.iload_n 3, 1) := by decide +kernel
theorem dX11_load_93 : decode cX11_load 93 = .ok (.invokevirtual 212, 3) := by decide +kernel
theorem dX11_load_96 : decode cX11_load 96 = .ok (.invokevirtual 99, 3) := by decide +kernel
