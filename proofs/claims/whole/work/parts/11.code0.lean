theorem dX0_init_0 : decode cX0_init 0 = .ok (.aload_n 0, 1) := by decide +kernel
theorem dX0_init_1 : decode cX0_init 1 = .ok (.invokespecial 3, 3) := by decide +kernel
theorem dX0_init_4 : decode cX0_init 4 = .ok (.aload_n 0, 1) := by decide +kernel
theorem dX0_init_5 : decode cX0_init 5 = .ok (.iconst 0, 1) := by decide +kernel
theorem dX0_init_6 : decode cX0_init 6 = .ok (.putfield 9, 3) := by decide +kernel
theorem dX0_init_9 : decode cX0_init 9 = .ok (.aload_n 0, 1) := by decide +kernel
theorem dX0_init_10 : decode cX0_init 10 = .ok (.iconst 5, 1) := by decide +kernel
theorem dX0_init_11 : decode cX0_init 11 = .ok (.anewarray 15, 3) := by decide +kernel
theorem dX0_init_14 : decode cX0_init 14 = .ok (.putfield 17, 3) := by decide +kernel
theorem dX0_init_17 : decode cX0_init 17 = .ok (.aload_n 0, 1) := by decide +kernel
theorem dX0_init_18 : decode cX0_init 18 = .ok (.iconst 2, 1) := by decide +kernel
theorem dX0_init_19 : decode cX0_init 19 = .ok (.newarray .boolean, 2) := by decide +kernel
theorem dX0_init_21 : decode cX0_init 21 = .ok (.putfield 21, 3) := by decide +kernel
theorem dX0_init_24 : decode cX0_init 24 = .ok (.aload_n 0, 1) := by decide +kernel
theorem dX0_init_25 : decode cX0_init 25 = .ok (.new 25, 3) := by decide +kernel
theorem dX0_init_28 : decode cX0_init 28 = .ok (.dup, 1) := by decide +kernel
theorem dX0_init_29 : decode cX0_init 29 = .ok (.invokespecial 27, 3) := by decide +kernel
theorem dX0_init_32 : decode cX0_init 32 = .ok (.putfield 28, 3) := by decide +kernel
theorem dX0_init_35 : decode cX0_init 35 = .ok (.aload_n 0, 1) := by decide +kernel
theorem dX0_init_36 : decode cX0_init 36 = .ok (.new 25, 3) := by decide +kernel
theorem dX0_init_39 : decode cX0_init 39 = .ok (.dup, 1) := by decide +kernel
theorem dX0_init_40 : decode cX0_init 40 = .ok (.invokespecial 27, 3) := by decide +kernel
theorem dX0_init_43 : decode cX0_init 43 = .ok (.putfield 32, 3) := by decide +kernel
theorem dX0_init_46 : decode cX0_init 46 = .ok (.aload_n 0, 1) := by decide +kernel
theorem dX0_init_47 : decode cX0_init 47 = .ok (.iconst 0, 1) := by decide +kernel
theorem dX0_init_48 : decode cX0_init 48 = .ok (.putfield 35, 3) := by decide +kernel
theorem dX0_init_51 : decode cX0_init 51 = .ok (.aload_n 0, 1) := by decide +kernel
theorem dX0_init_52 : decode cX0_init 52 = .ok (.iconst 0, 1) := by decide +kernel
theorem dX0_init_53 : decode cX0_init 53 = .ok (.putfield 38, 3) := by decide +kernel
theorem dX0_init_56 : decode cX0_init 56 = .ok (.aload_n 0, 1) := by decide +kernel
theorem dX0_init_57 : decode cX0_init 57 = .ok (.new 41, 3) := by decide +kernel
theorem dX0_init_60 : decode cX0_init 60 = .ok (.dup, 1) := by decide +kernel
theorem dX0_init_61 : decode cX0_init 61 = .ok (.invokespecial 43, 3) := by decide +kernel
theorem dX0_init_64 : decode cX0_init 64 = .ok (.putfield 44, 3) := by decide +kernel
theorem dX0_init_67 : decode cX0_init 67 = .ok (.aload_n 0, 1) := by decide +kernel
theorem dX0_init_68 : decode cX0_init 68 = .ok (.new 48, 3) := by decide +kernel
theorem dX0_init_71 : decode cX0_init 71 = .ok (.dup, 1) := by decide +kernel
theorem dX0_init_72 : decode cX0_init 72 = .ok (.invokespecial 50, 3) := by decide +kernel
theorem dX0_init_75 : decode cX0_init 75 = .ok (.putfield 51, 3) := by decide +kernel
theorem dX0_init_78 : decode cX0_init 78 = .ok (.aload_n 0, 1) := by decide +kernel
theorem dX0_init_79 : decode cX0_init 79 = .ok (.new 48, 3) := by decide +kernel
theorem dX0_init_82 : decode cX0_init 82 = .ok (.dup, 1) := by decide +kernel
theorem dX0_init_83 : decode cX0_init 83 = .ok (.invokespecial 50, 3) := by decide +kernel
theorem dX0_init_86 : decode cX0_init 86 = .ok (.putfield 55, 3) := by decide +kernel
theorem dX0_init_89 : decode cX0_init 89 = .ok (.aload_n 0, 1) := by decide +kernel
theorem dX0_init_90 : decode cX0_init 90 = .ok (.new 48, 3) := by decide +kernel
theorem dX0_init_93 : decode cX0_init 93 = .ok (.dup, 1) := by decide +kernel
theorem dX0_init_94 : decode cX0_init 94 = .ok (.invokespecial 50, 3) := by decide +kernel
theorem dX0_init_97 : decode cX0_init 97 = .ok (.putfield 58, 3) := by decide +kernel
theorem dX0_init_100 : decode cX0_init 100 = .ok (.aload_n 0, 1) := by decide +kernel
theorem dX0_init_101 : decode cX0_init 101 = .ok (.new 48, 3) := by decide +kernel
theorem dX0_init_104 : decode cX0_init 104 = .ok (.dup, 1) := by decide +kernel
theorem dX0_init_105 : decode cX0_init 105 = .ok (.invokespecial 50, 3) := by decide +kernel
theorem dX0_init_108 : decode cX0_init 108 = .ok (.putfield 61, 3) := by decide +kernel
theorem dX0_init_111 : decode cX0_init 111 = .ok (.iconst 0, 1) := by decide +kernel
theorem dX0_init_112 : decode cX0_init 112 = .ok (.istore_n 1, 1) := by decide +kernel
theorem dX0_init_113 : decode cX0_init 113 = .ok (.iload_n 1, 1) := by decide +kernel
theorem dX0_init_114 : decode cX0_init 114 = .ok (.iconst 5, 1) := by decide +kernel
theorem dX0_init_115 : decode cX0_init 115 = .ok (.if_icmp .ge 22, 3) := by decide +kernel
theorem dX0_init_118 : decode cX0_init 118 = .ok (.aload_n 0, 1) := by decide +kernel
theorem dX0_init_119 : decode cX0_init 119 = .ok (.getfield 17, 3) := by decide +kernel
theorem dX0_init_122 : decode cX0_init 122 = .ok (.iload_n 1, 1) := by decide +kernel
theorem dX0_init_123 : decode cX0_init 123 = .ok (.new 15, 3) := by decide +kernel
theorem dX0_init_126 : decode cX0_init 126 = .ok (.dup, 1) := by decide +kernel
theorem dX0_init_127 : decode cX0_init 127 = .ok (.invokespecial 64, 3) := by decide +kernel
theorem dX0_init_130 : decode cX0_init 130 = .ok (.aastore, 1) := by decide +kernel
theorem dX0_init_131 : decode cX0_init 131 = .ok (.iinc 1 1, 3) := by decide +kernel
theorem dX0_init_134 : decode cX0_init 134 = .ok (.goto (-21), 3) := by decide +kernel
theorem dX0_init_137 : decode cX0_init 137 = .ok (.return_, 1) := by decide +kernel
theorem dX0_addSpan_0 : decode cX0_addSpan 0 = .ok (.aload_n 0, 1) := by decide +kernel
theorem dX0_addSpan_1 : decode cX0_addSpan 1 = .ok (.getfield 17, 3) := by decide +kernel
theorem dX0_addSpan_4 : decode cX0_addSpan 4 = .ok (.aload_n 0, 1) := by decide +kernel
theorem dX0_addSpan_5 : decode cX0_addSpan 5 = .ok (.getfield 9, 3) := by decide +kernel
theorem dX0_addSpan_8 : decode cX0_addSpan 8 = .ok (.aaload, 1) := by decide +kernel
theorem dX0_addSpan_9 : decode cX0_addSpan 9 = .ok (.iload_n 1, 1) := by decide +kernel
theorem dX0_addSpan_10 : decode cX0_addSpan 10 = .ok (.putfield 65, 3) := by decide +kernel
theorem dX0_addSpan_13 : decode cX0_addSpan 13 = .ok (.aload_n 0, 1) := by decide +kernel
theorem dX0_addSpan_14 : decode cX0_addSpan 14 = .ok (.getfield 17, 3) := by decide +kernel
theorem dX0_addSpan_17 : decode cX0_addSpan 17 = .ok (.aload_n 0, 1) := by decide +kernel
theorem dX0_addSpan_18 : decode cX0_addSpan 18 = .ok (.getfield 9, 3) := by decide +kernel
theorem dX0_addSpan_21 : decode cX0_addSpan 21 = .ok (.aaload, 1) := by decide +kernel
theorem dX0_addSpan_22 : decode cX0_addSpan 22 = .ok (.iload_n 2, 1) := by decide +kernel
theorem dX0_addSpan_23 : decode cX0_addSpan 23 = .ok (.putfield 68, 3) := by decide +kernel
theorem dX0_addSpan_26 : decode cX0_addSpan 26 = .ok (.aload_n 0, 1) := by decide +kernel
theorem dX0_addSpan_27 : decode cX0_addSpan 27 = .ok (.getfield 17, 3) := by decide +kernel
theorem dX0_addSpan_30 : decode cX0_addSpan 30 = .ok (.aload_n 0, 1) := by decide +kernel
theorem dX0_addSpan_31 : decode cX0_addSpan 31 = .ok (.getfield 9, 3) := by decide +kernel
theorem dX0_addSpan_34 : decode cX0_addSpan 34 = .ok (.aaload, 1) := by decide +kernel
theorem dX0_addSpan_35 : decode cX0_addSpan 35 = .ok (.iconst 0, 1) := by decide +kernel
theorem dX0_addSpan_36 : decode cX0_addSpan 36 = .ok (.putfield 71, 3) := by decide +kernel
theorem dX0_addSpan_39 : decode cX0_addSpan 39 = .ok (.aload_n 0, 1) := by decide +kernel
theorem dX0_addSpan_40 : decode cX0_addSpan 40 = .ok (.dup, 1) := by decide +kernel
theorem dX0_addSpan_41 : decode cX0_addSpan 41 = .ok (.getfield 9, 3) := by decide +kernel
theorem dX0_addSpan_44 : decode cX0_addSpan 44 = .ok (.iconst 1, 1) := by decide +kernel
theorem dX0_addSpan_45 : decode cX0_addSpan 45 = .ok (.iadd, 1) := by decide +kernel
theorem dX0_addSpan_46 : decode cX0_addSpan 46 = .ok (.putfield 9, 3) := by decide +kernel
theorem dX0_addSpan_49 : decode cX0_addSpan 49 = .ok (.aload_n 0, 1) := by decide +kernel
theorem dX0_addSpan_50 : decode cX0_addSpan 50 = .ok (.getfield 9, 3) := by decide +kernel
theorem dX0_addSpan_53 : decode cX0_addSpan 53 = .ok (.iconst 1, 1) := by decide +kernel
theorem dX0_addSpan_54 : decode cX0_addSpan 54 = .ok (.isub, 1) := by decide +kernel
theorem dX0_addSpan_55 : decode cX0_addSpan 55 = .ok (.ireturn, 1) := by decide +kernel
theorem dX0_reckonLeast_0 : decode cX0_reckonLeast 0 = .ok (.iconst 0, 1) := by decide +kernel
theorem dX0_reckonLeast_1 : decode cX0_reckonLeast 1 = .ok (.istore_n 2, 1) := by decide +kernel
theorem dX0_reckonLeast_2 : decode cX0_reckonLeast 2 = .ok (.iconst 0, 1) := by decide +kernel
theorem dX0_reckonLeast_3 : decode cX0_reckonLeast 3 = .ok (.istore_n 3, 1) := by decide +kernel
theorem dX0_reckonLeast_4 : decode cX0_reckonLeast 4 = .ok (.iload_n 3, 1) := by decide +kernel
theorem dX0_reckonLeast_5 : decode cX0_reckonLeast 5 = .ok (.aload_n 0, 1) := by decide +kernel
theorem dX0_reckonLeast_6 : decode cX0_reckonLeast 6 = .ok (.getfield 9, 3) := by decide +kernel
theorem dX0_reckonLeast_9 : decode cX0_reckonLeast 9 = .ok (.if_icmp .ge 82, 3) := by decide +kernel
theorem dX0_reckonLeast_12 : decode cX0_reckonLeast 12 = .ok (.iconst 0, 1) := by decide +kernel
theorem dX0_reckonLeast_13 : decode cX0_reckonLeast 13 = .ok (.istore 4, 2) := by decide +kernel
theorem dX0_reckonLeast_15 : decode cX0_reckonLeast 15 = .ok (.iload 4, 2) := by decide +kernel
theorem dX0_reckonLeast_17 : decode cX0_reckonLeast 17 = .ok (.aload_n 0, 1) := by decide +kernel
theorem dX0_reckonLeast_18 : decode cX0_reckonLeast 18 = .ok (.getfield 17, 3) := by decide +kernel
theorem dX0_reckonLeast_21 : decode cX0_reckonLeast 21 = .ok (.iload_n 3, 1) := by decide +kernel
theorem dX0_reckonLeast_22 : decode cX0_reckonLeast 22 = .ok (.aaload, 1) := by decide +kernel
theorem dX0_reckonLeast_23 : decode cX0_reckonLeast 23 = .ok (.getfield 71, 3) := by decide +kernel
theorem dX0_reckonLeast_26 : decode cX0_reckonLeast 26 = .ok (.if_icmp .ge 59, 3) := by decide +kernel
theorem dX0_reckonLeast_29 : decode cX0_reckonLeast 29 = .ok (.aload_n 0, 1) := by decide +kernel
theorem dX0_reckonLeast_30 : decode cX0_reckonLeast 30 = .ok (.aload_n 1, 1) := by decide +kernel
theorem dX0_reckonLeast_31 : decode cX0_reckonLeast 31 = .ok (.iload_n 3, 1) := by decide +kernel
theorem dX0_reckonLeast_32 : decode cX0_reckonLeast 32 = .ok (.iload 4, 2) := by decide +kernel
theorem dX0_reckonLeast_34 : decode cX0_reckonLeast 34 = .ok (.invokevirtual 74, 3) := by decide +kernel
theorem dX0_reckonLeast_37 : decode cX0_reckonLeast 37 = .ok (.iload_n 2, 1) := by decide +kernel
theorem dX0_reckonLeast_38 : decode cX0_reckonLeast 38 = .ok (.ifCond .eq 17, 3) := by decide +kernel
theorem dX0_reckonLeast_41 : decode cX0_reckonLeast 41 = .ok (.aload_n 0, 1) := by decide +kernel
theorem dX0_reckonLeast_42 : decode cX0_reckonLeast 42 = .ok (.getfield 28, 3) := by decide +kernel
theorem dX0_reckonLeast_45 : decode cX0_reckonLeast 45 = .ok (.aload_n 0, 1) := by decide +kernel
theorem dX0_reckonLeast_46 : decode cX0_reckonLeast 46 = .ok (.getfield 32, 3) := by decide +kernel
theorem dX0_reckonLeast_49 : decode cX0_reckonLeast 49 = .ok (.invokevirtual 78, 3) := by decide +kernel
theorem dX0_reckonLeast_52 : decode cX0_reckonLeast 52 = .ok (.ifCond .eq 27, 3) := by decide +kernel
theorem dX0_reckonLeast_55 : decode cX0_reckonLeast 55 = .ok (.iconst 1, 1) := by decide +kernel
theorem dX0_reckonLeast_56 : decode cX0_reckonLeast 56 = .ok (.istore_n 2, 1) := by decide +kernel
theorem dX0_reckonLeast_57 : decode cX0_reckonLeast 57 = .ok (.aload_n 0, 1) := by decide +kernel
theorem dX0_reckonLeast_58 : decode cX0_reckonLeast 58 = .ok (.getfield 32, 3) := by decide +kernel
theorem dX0_reckonLeast_61 : decode cX0_reckonLeast 61 = .ok (.aload_n 0, 1) := by decide +kernel
theorem dX0_reckonLeast_62 : decode cX0_reckonLeast 62 = .ok (.getfield 28, 3) := by decide +kernel
theorem dX0_reckonLeast_65 : decode cX0_reckonLeast 65 = .ok (.invokevirtual 82, 3) := by decide +kernel
theorem dX0_reckonLeast_68 : decode cX0_reckonLeast 68 = .ok (.aload_n 0, 1) := by decide +kernel
theorem dX0_reckonLeast_69 : decode cX0_reckonLeast 69 = .ok (.iload_n 3, 1) := by decide +kernel
theorem dX0_reckonLeast_70 : decode cX0_reckonLeast 70 = .ok (.putfield 35, 3) := by decide +kernel
theorem dX0_reckonLeast_73 : decode cX0_reckonLeast 73 = .ok (.aload_n 0, 1) := by decide +kernel
theorem dX0_reckonLeast_74 : decode cX0_reckonLeast 74 = .ok (.iload 4, 2) := by decide +kernel
theorem dX0_reckonLeast_76 : decode cX0_reckonLeast 76 = .ok (.putfield 38, 3) := by decide +kernel
theorem dX0_reckonLeast_79 : decode cX0_reckonLeast 79 = .ok (.iinc 4 1, 3) := by decide +kernel
theorem dX0_reckonLeast_82 : decode cX0_reckonLeast 82 = .ok (.goto (-67), 3) := by decide +kernel
theorem dX0_reckonLeast_85 : decode cX0_reckonLeast 85 = .ok (.iinc 3 1, 3) := by decide +kernel
theorem dX0_reckonLeast_88 : decode cX0_reckonLeast 88 = .ok (.goto (-84), 3) := by decide +kernel
theorem dX0_reckonLeast_91 : decode cX0_reckonLeast 91 = .ok (.iload_n 2, 1) := by decide +kernel
theorem dX0_reckonLeast_92 : decode cX0_reckonLeast 92 = .ok (.ireturn, 1) := by decide +kernel
theorem dX0_reckon_0 : decode cX0_reckon 0 = .ok (.aload_n 0, 1) := by decide +kernel
theorem dX0_reckon_1 : decode cX0_reckon 1 = .ok (.getfield 17, 3) := by decide +kernel
theorem dX0_reckon_4 : decode cX0_reckon 4 = .ok (.iload_n 2, 1) := by decide +kernel
theorem dX0_reckon_5 : decode cX0_reckon 5 = .ok (.aaload, 1) := by decide +kernel
theorem dX0_reckon_6 : decode cX0_reckon 6 = .ok (.astore 4, 2) := by decide +kernel
theorem dX0_reckon_8 : decode cX0_reckon 8 = .ok (.aload 4, 2) := by decide +kernel
theorem dX0_reckon_10 : decode cX0_reckon 10 = .ok (.getfield 86, 3) := by decide +kernel
theorem dX0_reckon_13 : decode cX0_reckon 13 = .ok (.iload_n 3, 1) := by decide +kernel
theorem dX0_reckon_14 : decode cX0_reckon 14 = .ok (.iaload, 1) := by decide +kernel
theorem dX0_reckon_15 : decode cX0_reckon 15 = .ok (.istore 5, 2) := by decide +kernel
theorem dX0_reckon_17 : decode cX0_reckon 17 = .ok (.aload_n 0, 1) := by decide +kernel
theorem dX0_reckon_18 : decode cX0_reckon 18 = .ok (.aload_n 1, 1) := by decide +kernel
theorem dX0_reckon_19 : decode cX0_reckon 19 = .ok (.aload 4, 2) := by decide +kernel
theorem dX0_reckon_21 : decode cX0_reckon 21 = .ok (.getfield 68, 3) := by decide +kernel
theorem dX0_reckon_24 : decode cX0_reckon 24 = .ok (.aaload, 1) := by decide +kernel
theorem dX0_reckon_25 : decode cX0_reckon 25 = .ok (.aload_n 0, 1) := by decide +kernel
theorem dX0_reckon_26 : decode cX0_reckon 26 = .ok (.getfield 51, 3) := by decide +kernel
theorem dX0_reckon_29 : decode cX0_reckon 29 = .ok (.invokevirtual 90, 3) := by decide +kernel
theorem dX0_reckon_32 : decode cX0_reckon 32 = .ok (.aload_n 0, 1) := by decide +kernel
theorem dX0_reckon_33 : decode cX0_reckon 33 = .ok (.aload_n 1, 1) := by decide +kernel
theorem dX0_reckon_34 : decode cX0_reckon 34 = .ok (.iload_n 2, 1) := by decide +kernel
theorem dX0_reckon_35 : decode cX0_reckon 35 = .ok (.aload_n 0, 1) := by decide +kernel
theorem dX0_reckon_36 : decode cX0_reckon 36 = .ok (.getfield 55, 3) := by decide +kernel
theorem dX0_reckon_39 : decode cX0_reckon 39 = .ok (.invokevirtual 94, 3) := by decide +kernel
theorem dX0_reckon_42 : decode cX0_reckon 42 = .ok (.aload_n 0, 1) := by decide +kernel
theorem dX0_reckon_43 : decode cX0_reckon 43 = .ok (.aload_n 1, 1) := by decide +kernel
theorem dX0_reckon_44 : decode cX0_reckon 44 = .ok (.iload_n 2, 1) := by decide +kernel
theorem dX0_reckon_45 : decode cX0_reckon 45 = .ok (.iconst 1, 1) := by decide +kernel
theorem dX0_reckon_46 : decode cX0_reckon 46 = .ok (.iadd, 1) := by decide +kernel
theorem dX0_reckon_47 : decode cX0_reckon 47 = .ok (.aload_n 0, 1) := by decide +kernel
theorem dX0_reckon_48 : decode cX0_reckon 48 = .ok (.getfield 58, 3) := by decide +kernel
theorem dX0_reckon_51 : decode cX0_reckon 51 = .ok (.invokevirtual 94, 3) := by decide +kernel
theorem dX0_reckon_54 : decode cX0_reckon 54 = .ok (.aload_n 0, 1) := by decide +kernel
theorem dX0_reckon_55 : decode cX0_reckon 55 = .ok (.getfield 51, 3) := by decide +kernel
theorem dX0_reckon_58 : decode cX0_reckon 58 = .ok (.aload 4, 2) := by decide +kernel
theorem dX0_reckon_60 : decode cX0_reckon 60 = .ok (.getfield 65, 3) := by decide +kernel
theorem dX0_reckon_63 : decode cX0_reckon 63 = .ok (.i2l, 1) := by decide +kernel
theorem dX0_reckon_64 : decode cX0_reckon 64 = .ok (.invokevirtual 98, 3) := by decide +kernel
theorem dX0_reckon_67 : decode cX0_reckon 67 = .ok (.aload_n 0, 1) := by decide +kernel
theorem dX0_reckon_68 : decode cX0_reckon 68 = .ok (.getfield 55, 3) := by decide +kernel
theorem dX0_reckon_71 : decode cX0_reckon 71 = .ok (.aload 4, 2) := by decide +kernel
theorem dX0_reckon_73 : decode cX0_reckon 73 = .ok (.getfield 65, 3) := by decide +kernel
theorem dX0_reckon_76 : decode cX0_reckon 76 = .ok (.iload 5, 2) := by decide +kernel
theorem dX0_reckon_78 : decode cX0_reckon 78 = .ok (.isub, 1) := by decide +kernel
theorem dX0_reckon_79 : decode cX0_reckon 79 = .ok (.i2l, 1) := by decide +kernel
theorem dX0_reckon_80 : decode cX0_reckon 80 = .ok (.invokevirtual 98, 3) := by decide +kernel
theorem dX0_reckon_83 : decode cX0_reckon 83 = .ok (.aload_n 0, 1) := by decide +kernel
theorem dX0_reckon_84 : decode cX0_reckon 84 = .ok (.getfield 58, 3) := by decide +kernel
theorem dX0_reckon_87 : decode cX0_reckon 87 = .ok (.iload 5, 2) := by decide +kernel
theorem dX0_reckon_89 : decode cX0_reckon 89 = .ok (.i2l, 1) := by decide +kernel
theorem dX0_reckon_90 : decode cX0_reckon 90 = .ok (.invokevirtual 98, 3) := by decide +kernel
theorem dX0_reckon_93 : decode cX0_reckon 93 = .ok (.aload_n 0, 1) := by decide +kernel
theorem dX0_reckon_94 : decode cX0_reckon 94 = .ok (.getfield 51, 3) := by decide +kernel
theorem dX0_reckon_97 : decode cX0_reckon 97 = .ok (.aload_n 0, 1) := by decide +kernel
theorem dX0_reckon_98 : decode cX0_reckon 98 = .ok (.getfield 55, 3) := by decide +kernel
theorem dX0_reckon_101 : decode cX0_reckon 101 = .ok (.invokevirtual 102, 3) := by decide +kernel
theorem dX0_reckon_104 : decode cX0_reckon 104 = .ok (.aload_n 0, 1) := by decide +kernel
theorem dX0_reckon_105 : decode cX0_reckon 105 = .ok (.getfield 28, 3) := by decide +kernel
theorem dX0_reckon_108 : decode cX0_reckon 108 = .ok (.aload_n 0, 1) := by decide +kernel
theorem dX0_reckon_109 : decode cX0_reckon 109 = .ok (.getfield 51, 3) := by decide +kernel
theorem dX0_reckon_112 : decode cX0_reckon 112 = .ok (.aload_n 0, 1) := by decide +kernel
theorem dX0_reckon_113 : decode cX0_reckon 113 = .ok (.getfield 58, 3) := by decide +kernel
theorem dX0_reckon_116 : decode cX0_reckon 116 = .ok (.invokevirtual 106, 3) := by decide +kernel
theorem dX0_reckon_119 : decode cX0_reckon 119 = .ok (.aload_n 0, 1) := by decide +kernel
theorem dX0_reckon_120 : decode cX0_reckon 120 = .ok (.getfield 28, 3) := by decide +kernel
theorem dX0_reckon_123 : decode cX0_reckon 123 = .ok (.aload 4, 2) := by decide +kernel
theorem dX0_reckon_125 : decode cX0_reckon 125 = .ok (.iload 5, 2) := by decide +kernel
theorem dX0_reckon_127 : decode cX0_reckon 127 = .ok (.invokevirtual 110, 3) := by decide +kernel
theorem dX0_reckon_130 : decode cX0_reckon 130 = .ok (.invokevirtual 114, 3) := by decide +kernel
theorem dX0_reckon_133 : decode cX0_reckon 133 = .ok (.return_, 1) := by decide +kernel
theorem dX0_putSag_0 : decode cX0_putSag 0 = .ok (.aload_n 0, 1) := by decide +kernel
theorem dX0_putSag_1 : decode cX0_putSag 1 = .ok (.getfield 44, 3) := by decide +kernel
theorem dX0_putSag_4 : decode cX0_putSag 4 = .ok (.aload_n 1, 1) := by decide +kernel
theorem dX0_putSag_5 : decode cX0_putSag 5 = .ok (.aload_n 1, 1) := by decide +kernel
theorem dX0_putSag_6 : decode cX0_putSag 6 = .ok (.getfield 117, 3) := by decide +kernel
theorem dX0_putSag_9 : decode cX0_putSag 9 = .ok (.invokevirtual 122, 3) := by decide +kernel
theorem dX0_putSag_12 : decode cX0_putSag 12 = .ok (.aload_n 0, 1) := by decide +kernel
theorem dX0_putSag_13 : decode cX0_putSag 13 = .ok (.getfield 44, 3) := by decide +kernel
theorem dX0_putSag_16 : decode cX0_putSag 16 = .ok (.aload_n 1, 1) := by decide +kernel
theorem dX0_putSag_17 : decode cX0_putSag 17 = .ok (.iconst 0, 1) := by decide +kernel
theorem dX0_putSag_18 : decode cX0_putSag 18 = .ok (.iconst 1, 1) := by decide +kernel
theorem dX0_putSag_19 : decode cX0_putSag 19 = .ok (.invokevirtual 126, 3) := by decide +kernel
theorem dX0_putSag_22 : decode cX0_putSag 22 = .ok (.aload_n 2, 1) := by decide +kernel
theorem dX0_putSag_23 : decode cX0_putSag 23 = .ok (.aload_n 0, 1) := by decide +kernel
theorem dX0_putSag_24 : decode cX0_putSag 24 = .ok (.getfield 44, 3) := by decide +kernel
theorem dX0_putSag_27 : decode cX0_putSag 27 = .ok (.getfield 130, 3) := by decide +kernel
theorem dX0_putSag_30 : decode cX0_putSag 30 = .ok (.getfield 133, 3) := by decide +kernel
theorem dX0_putSag_33 : decode cX0_putSag 33 = .ok (.aload_n 0, 1) := by decide +kernel
theorem dX0_putSag_34 : decode cX0_putSag 34 = .ok (.getfield 44, 3) := by decide +kernel
theorem dX0_putSag_37 : decode cX0_putSag 37 = .ok (.getfield 130, 3) := by decide +kernel
theorem dX0_putSag_40 : decode cX0_putSag 40 = .ok (.getfield 137, 3) := by decide +kernel
theorem dX0_putSag_43 : decode cX0_putSag 43 = .ok (.invokevirtual 140, 3) := by decide +kernel
theorem dX0_putSag_46 : decode cX0_putSag 46 = .ok (.return_, 1) := by decide +kernel
theorem dX0_putHog_0 : decode cX0_putHog 0 = .ok (.aload_n 0, 1) := by decide +kernel
theorem dX0_putHog_1 : decode cX0_putHog 1 = .ok (.getfield 44, 3) := by decide +kernel
theorem dX0_putHog_4 : decode cX0_putHog 4 = .ok (.aload_n 1, 1) := by decide +kernel
theorem dX0_putHog_5 : decode cX0_putHog 5 = .ok (.aload_n 1, 1) := by decide +kernel
theorem dX0_putHog_6 : decode cX0_putHog 6 = .ok (.getfield 117, 3) := by decide +kernel
theorem dX0_putHog_9 : decode cX0_putHog 9 = .ok (.invokevirtual 122, 3) := by decide +kernel
theorem dX0_putHog_12 : decode cX0_putHog 12 = .ok (.aload_n 0, 1) := by decide +kernel
theorem dX0_putHog_13 : decode cX0_putHog 13 = .ok (.getfield 44, 3) := by decide +kernel
theorem dX0_putHog_16 : decode cX0_putHog 16 = .ok (.aload_n 1, 1) := by decide +kernel
theorem dX0_putHog_17 : decode cX0_putHog 17 = .ok (.iconst 0, 1) := by decide +kernel
theorem dX0_putHog_18 : decode cX0_putHog 18 = .ok (.iconst 0, 1) := by decide +kernel
theorem dX0_putHog_19 : decode cX0_putHog 19 = .ok (.invokevirtual 126, 3) := by decide +kernel
theorem dX0_putHog_22 : decode cX0_putHog 22 = .ok (.aload_n 2, 1) := by decide +kernel
theorem dX0_putHog_23 : decode cX0_putHog 23 = .ok (.aload_n 0, 1) := by decide +kernel
theorem dX0_putHog_24 : decode cX0_putHog 24 = .ok (.getfield 44, 3) := by decide +kernel
theorem dX0_putHog_27 : decode cX0_putHog 27 = .ok (.getfield 130, 3) := by decide +kernel
theorem dX0_putHog_30 : decode cX0_putHog 30 = .ok (.getfield 133, 3) := by decide +kernel
theorem dX0_putHog_33 : decode cX0_putHog 33 = .ok (.lneg, 1) := by decide +kernel
theorem dX0_putHog_34 : decode cX0_putHog 34 = .ok (.aload_n 0, 1) := by decide +kernel
theorem dX0_putHog_35 : decode cX0_putHog 35 = .ok (.getfield 44, 3) := by decide +kernel
theorem dX0_putHog_38 : decode cX0_putHog 38 = .ok (.getfield 130, 3) := by decide +kernel
theorem dX0_putHog_41 : decode cX0_putHog 41 = .ok (.getfield 137, 3) := by decide +kernel
theorem dX0_putHog_44 : decode cX0_putHog 44 = .ok (.invokevirtual 140, 3) := by decide +kernel
theorem dX0_putHog_47 : decode cX0_putHog 47 = .ok (.return_, 1) := by decide +kernel
theorem dX0_putSupport_0 : decode cX0_putSupport 0 = .ok (.iload_n 2, 1) := by decide +kernel
theorem dX0_putSupport_1 : decode cX0_putSupport 1 = .ok (.ifCond .gt 7, 3) := by decide +kernel
theorem dX0_putSupport_4 : decode cX0_putSupport 4 = .ok (.iconst 1, 1) := by decide +kernel
theorem dX0_putSupport_5 : decode cX0_putSupport 5 = .ok (.goto 4, 3) := by decide +kernel
theorem dX0_putSupport_8 : decode cX0_putSupport 8 = .ok (.iconst 0, 1) := by decide +kernel
theorem dX0_putSupport_9 : decode cX0_putSupport 9 = .ok (.istore 4, 2) := by decide +kernel
theorem dX0_putSupport_11 : decode cX0_putSupport 11 = .ok (.iload_n 2, 1) := by decide +kernel
theorem dX0_putSupport_12 : decode cX0_putSupport 12 = .ok (.aload_n 0, 1) := by decide +kernel
theorem dX0_putSupport_13 : decode cX0_putSupport 13 = .ok (.getfield 9, 3) := by decide +kernel
theorem dX0_putSupport_16 : decode cX0_putSupport 16 = .ok (.if_icmp .lt 7, 3) := by decide +kernel
theorem dX0_putSupport_19 : decode cX0_putSupport 19 = .ok (.iconst 1, 1) := by decide +kernel
theorem dX0_putSupport_20 : decode cX0_putSupport 20 = .ok (.goto 4, 3) := by decide +kernel
theorem dX0_putSupport_23 : decode cX0_putSupport 23 = .ok (.iconst 0, 1) := by decide +kernel
theorem dX0_putSupport_24 : decode cX0_putSupport 24 = .ok (.istore 5, 2) := by decide +kernel
theorem dX0_putSupport_26 : decode cX0_putSupport 26 = .ok (.iload 4, 2) := by decide +kernel
theorem dX0_putSupport_28 : decode cX0_putSupport 28 = .ok (.ifCond .eq 12, 3) := by decide +kernel
theorem dX0_putSupport_31 : decode cX0_putSupport 31 = .ok (.aload_n 0, 1) := by decide +kernel
theorem dX0_putSupport_32 : decode cX0_putSupport 32 = .ok (.getfield 21, 3) := by decide +kernel
theorem dX0_putSupport_35 : decode cX0_putSupport 35 = .ok (.iconst 0, 1) := by decide +kernel
theorem dX0_putSupport_36 : decode cX0_putSupport 36 = .ok (.baload, 1) := by decide +kernel
theorem dX0_putSupport_37 : decode cX0_putSupport 37 = .ok (.ifCond .eq 17, 3) := by decide +kernel
theorem dX0_putSupport_40 : decode cX0_putSupport 40 = .ok (.iload 5, 2) := by decide +kernel
theorem dX0_putSupport_42 : decode cX0_putSupport 42 = .ok (.ifCond .eq 19, 3) := by decide +kernel
theorem dX0_putSupport_45 : decode cX0_putSupport 45 = .ok (.aload_n 0, 1) := by decide +kernel
theorem dX0_putSupport_46 : decode cX0_putSupport 46 = .ok (.getfield 21, 3) := by decide +kernel
theorem dX0_putSupport_49 : decode cX0_putSupport 49 = .ok (.iconst 1, 1) := by decide +kernel
theorem dX0_putSupport_50 : decode cX0_putSupport 50 = .ok (.baload, 1) := by decide +kernel
theorem dX0_putSupport_51 : decode cX0_putSupport 51 = .ok (.ifCond .ne 10, 3) := by decide +kernel
theorem dX0_putSupport_54 : decode cX0_putSupport 54 = .ok (.aload_n 3, 1) := by decide +kernel
theorem dX0_putSupport_55 : decode cX0_putSupport 55 = .ok (.lconst 0, 1) := by decide +kernel
theorem dX0_putSupport_56 : decode cX0_putSupport 56 = .ok (.lconst 1, 1) := by decide +kernel
theorem dX0_putSupport_57 : decode cX0_putSupport 57 = .ok (.invokevirtual 140, 3) := by decide +kernel
theorem dX0_putSupport_60 : decode cX0_putSupport 60 = .ok (.return_, 1) := by decide +kernel
theorem dX0_putSupport_61 : decode cX0_putSupport 61 = .ok (.aload_n 0, 1) := by decide +kernel
theorem dX0_putSupport_62 : decode cX0_putSupport 62 = .ok (.aload_n 1, 1) := by decide +kernel
theorem dX0_putSupport_63 : decode cX0_putSupport 63 = .ok (.aload_n 0, 1) := by decide +kernel
theorem dX0_putSupport_64 : decode cX0_putSupport 64 = .ok (.getfield 17, 3) := by decide +kernel
theorem dX0_putSupport_67 : decode cX0_putSupport 67 = .ok (.iload 4, 2) := by decide +kernel
theorem dX0_putSupport_69 : decode cX0_putSupport 69 = .ok (.ifCond .eq 7, 3) := by decide +kernel
theorem dX0_putSupport_72 : decode cX0_putSupport 72 = .ok (.iconst 0, 1) := by decide +kernel
theorem dX0_putSupport_73 : decode cX0_putSupport 73 = .ok (.goto 6, 3) := by decide +kernel
theorem dX0_putSupport_76 : decode cX0_putSupport 76 = .ok (.iload_n 2, 1) := by decide +kernel
theorem dX0_putSupport_77 : decode cX0_putSupport 77 = .ok (.iconst 1, 1) := by decide +kernel
theorem dX0_putSupport_78 : decode cX0_putSupport 78 = .ok (.isub, 1) := by decide +kernel
theorem dX0_putSupport_79 : decode cX0_putSupport 79 = .ok (.aaload, 1) := by decide +kernel
theorem dX0_putSupport_80 : decode cX0_putSupport 80 = .ok (.getfield 68, 3) := by decide +kernel
theorem dX0_putSupport_83 : decode cX0_putSupport 83 = .ok (.aaload, 1) := by decide +kernel
theorem dX0_putSupport_84 : decode cX0_putSupport 84 = .ok (.aload_n 3, 1) := by decide +kernel
theorem dX0_putSupport_85 : decode cX0_putSupport 85 = .ok (.invokevirtual 144, 3) := by decide +kernel
theorem dX0_putSupport_88 : decode cX0_putSupport 88 = .ok (.iload 4, 2) := by decide +kernel
theorem dX0_putSupport_90 : decode cX0_putSupport 90 = .ok (.ifCond .ne 56, 3) := by decide +kernel
theorem dX0_putSupport_93 : decode cX0_putSupport 93 = .ok (.iload 5, 2) := by decide +kernel
theorem dX0_putSupport_95 : decode cX0_putSupport 95 = .ok (.ifCond .ne 51, 3) := by decide +kernel
theorem dX0_putSupport_98 : decode cX0_putSupport 98 = .ok (.aload_n 0, 1) := by decide +kernel
theorem dX0_putSupport_99 : decode cX0_putSupport 99 = .ok (.aload_n 1, 1) := by decide +kernel
theorem dX0_putSupport_100 : decode cX0_putSupport 100 = .ok (.aload_n 0, 1) := by decide +kernel
theorem dX0_putSupport_101 : decode cX0_putSupport 101 = .ok (.getfield 17, 3) := by decide +kernel
theorem dX0_putSupport_104 : decode cX0_putSupport 104 = .ok (.iload_n 2, 1) := by decide +kernel
theorem dX0_putSupport_105 : decode cX0_putSupport 105 = .ok (.aaload, 1) := by decide +kernel
theorem dX0_putSupport_106 : decode cX0_putSupport 106 = .ok (.getfield 68, 3) := by decide +kernel
theorem dX0_putSupport_109 : decode cX0_putSupport 109 = .ok (.aaload, 1) := by decide +kernel
theorem dX0_putSupport_110 : decode cX0_putSupport 110 = .ok (.aload_n 0, 1) := by decide +kernel
theorem dX0_putSupport_111 : decode cX0_putSupport 111 = .ok (.getfield 61, 3) := by decide +kernel
theorem dX0_putSupport_114 : decode cX0_putSupport 114 = .ok (.invokevirtual 144, 3) := by decide +kernel
theorem dX0_putSupport_117 : decode cX0_putSupport 117 = .ok (.aload_n 0, 1) := by decide +kernel
theorem dX0_putSupport_118 : decode cX0_putSupport 118 = .ok (.getfield 61, 3) := by decide +kernel
theorem dX0_putSupport_121 : decode cX0_putSupport 121 = .ok (.aload_n 3, 1) := by decide +kernel
theorem dX0_putSupport_122 : decode cX0_putSupport 122 = .ok (.invokevirtual 147, 3) := by decide +kernel
theorem dX0_putSupport_125 : decode cX0_putSupport 125 = .ok (.ifCond .eq 21, 3) := by decide +kernel
theorem dX0_putSupport_128 : decode cX0_putSupport 128 = .ok (.aload_n 3, 1) := by decide +kernel
theorem dX0_putSupport_129 : decode cX0_putSupport 129 = .ok (.aload_n 0, 1) := by decide +kernel
theorem dX0_putSupport_130 : decode cX0_putSupport 130 = .ok (.getfield 61, 3) := by decide +kernel
theorem dX0_putSupport_133 : decode cX0_putSupport 133 = .ok (.getfield 133, 3) := by decide +kernel
theorem dX0_putSupport_136 : decode cX0_putSupport 136 = .ok (.aload_n 0, 1) := by decide +kernel
theorem dX0_putSupport_137 : decode cX0_putSupport 137 = .ok (.getfield 61, 3) := by decide +kernel
theorem dX0_putSupport_140 : decode cX0_putSupport 140 = .ok (.getfield 137, 3) := by decide +kernel
theorem dX0_putSupport_143 : decode cX0_putSupport 143 = .ok (.invokevirtual 140, 3) := by decide +kernel
theorem dX0_putSupport_146 : decode cX0_putSupport 146 = .ok (.return_, 1) := by decide +kernel
theorem dX1_init_0 : decode cX1_init 0 = .ok (.aload_n 0, 1) := by decide +kernel
theorem dX1_init_1 : decode cX1_init 1 = .ok (.invokespecial 3, 3) := by decide +kernel
theorem dX1_init_4 : decode cX1_init 4 = .ok (.aload_n 0, 1) := by decide +kernel
theorem dX1_init_5 : decode cX1_init 5 = .ok (.new 9, 3) := by decide +kernel
theorem dX1_init_8 : decode cX1_init 8 = .ok (.dup, 1) := by decide +kernel
theorem dX1_init_9 : decode cX1_init 9 = .ok (.invokespecial 11, 3) := by decide +kernel
theorem dX1_init_12 : decode cX1_init 12 = .ok (.putfield 12, 3) := by decide +kernel
theorem dX1_init_15 : decode cX1_init 15 = .ok (.aload_n 0, 1) := by decide +kernel
theorem dX1_init_16 : decode cX1_init 16 = .ok (.iconst 0, 1) := by decide +kernel
theorem dX1_init_17 : decode cX1_init 17 = .ok (.putfield 18, 3) := by decide +kernel
theorem dX1_init_20 : decode cX1_init 20 = .ok (.aload_n 0, 1) := by decide +kernel
theorem dX1_init_21 : decode cX1_init 21 = .ok (.bipush 16, 2) := by decide +kernel
theorem dX1_init_23 : decode cX1_init 23 = .ok (.newarray .int, 2) := by decide +kernel
theorem dX1_init_25 : decode cX1_init 25 = .ok (.putfield 22, 3) := by decide +kernel
theorem dX1_init_28 : decode cX1_init 28 = .ok (.aload_n 0, 1) := by decide +kernel
theorem dX1_init_29 : decode cX1_init 29 = .ok (.bipush 16, 2) := by decide +kernel
theorem dX1_init_31 : decode cX1_init 31 = .ok (.newarray .int, 2) := by decide +kernel
theorem dX1_init_33 : decode cX1_init 33 = .ok (.putfield 26, 3) := by decide +kernel
theorem dX1_init_36 : decode cX1_init 36 = .ok (.aload_n 0, 1) := by decide +kernel
theorem dX1_init_37 : decode cX1_init 37 = .ok (.bipush 16, 2) := by decide +kernel
theorem dX1_init_39 : decode cX1_init 39 = .ok (.newarray .boolean, 2) := by decide +kernel
theorem dX1_init_41 : decode cX1_init 41 = .ok (.putfield 29, 3) := by decide +kernel
theorem dX1_init_44 : decode cX1_init 44 = .ok (.aload_n 0, 1) := by decide +kernel
theorem dX1_init_45 : decode cX1_init 45 = .ok (.iconst 0, 1) := by decide +kernel
theorem dX1_init_46 : decode cX1_init 46 = .ok (.putfield 33, 3) := by decide +kernel
theorem dX1_init_49 : decode cX1_init 49 = .ok (.aload_n 0, 1) := by decide +kernel
theorem dX1_init_50 : decode cX1_init 50 = .ok (.bipush 6, 2) := by decide +kernel
theorem dX1_init_52 : decode cX1_init 52 = .ok (.newarray .int, 2) := by decide +kernel
theorem dX1_init_54 : decode cX1_init 54 = .ok (.putfield 36, 3) := by decide +kernel
theorem dX1_init_57 : decode cX1_init 57 = .ok (.aload_n 0, 1) := by decide +kernel
theorem dX1_init_58 : decode cX1_init 58 = .ok (.bipush 6, 2) := by decide +kernel
theorem dX1_init_60 : decode cX1_init 60 = .ok (.newarray .int, 2) := by decide +kernel
theorem dX1_init_62 : decode cX1_init 62 = .ok (.putfield 39, 3) := by decide +kernel
theorem dX1_init_65 : decode cX1_init 65 = .ok (.return_, 1) := by decide +kernel
theorem dX1_findBest_0 : decode cX1_findBest 0 = .ok (.aload_n 1, 1) := by decide +kernel
theorem dX1_findBest_1 : decode cX1_findBest 1 = .ok (.getfield 42, 3) := by decide +kernel
theorem dX1_findBest_4 : decode cX1_findBest 4 = .ok (.ifCond .eq 8, 3) := by decide +kernel
theorem dX1_findBest_7 : decode cX1_findBest 7 = .ok (.aload_n 1, 1) := by decide +kernel
theorem dX1_findBest_8 : decode cX1_findBest 8 = .ok (.getfield 48, 3) := by decide +kernel
theorem dX1_findBest_11 : decode cX1_findBest 11 = .ok (.ireturn, 1) := by decide +kernel
theorem dX1_findBest_12 : decode cX1_findBest 12 = .ok (.aload_n 0, 1) := by decide +kernel
theorem dX1_findBest_13 : decode cX1_findBest 13 = .ok (.getfield 36, 3) := by decide +kernel
theorem dX1_findBest_16 : decode cX1_findBest 16 = .ok (.iconst 0, 1) := by decide +kernel
theorem dX1_findBest_17 : decode cX1_findBest 17 = .ok (.invokestatic 51, 3) := by decide +kernel
theorem dX1_findBest_20 : decode cX1_findBest 20 = .ok (.aload_n 0, 1) := by decide +kernel
theorem dX1_findBest_21 : decode cX1_findBest 21 = .ok (.aload_n 1, 1) := by decide +kernel
theorem dX1_findBest_22 : decode cX1_findBest 22 = .ok (.aload_n 2, 1) := by decide +kernel
theorem dX1_findBest_23 : decode cX1_findBest 23 = .ok (.invokevirtual 57, 3) := by decide +kernel
theorem dX1_findBest_26 : decode cX1_findBest 26 = .ok (.aload_n 0, 1) := by decide +kernel
theorem dX1_findBest_27 : decode cX1_findBest 27 = .ok (.aload_n 3, 1) := by decide +kernel
theorem dX1_findBest_28 : decode cX1_findBest 28 = .ok (.invokevirtual 61, 3) := by decide +kernel
theorem dX1_findBest_31 : decode cX1_findBest 31 = .ok (.putfield 33, 3) := by decide +kernel
theorem dX1_findBest_34 : decode cX1_findBest 34 = .ok (.aload_n 0, 1) := by decide +kernel
theorem dX1_findBest_35 : decode cX1_findBest 35 = .ok (.getfield 36, 3) := by decide +kernel
theorem dX1_findBest_38 : decode cX1_findBest 38 = .ok (.aload_n 0, 1) := by decide +kernel
theorem dX1_findBest_39 : decode cX1_findBest 39 = .ok (.getfield 33, 3) := by decide +kernel
theorem dX1_findBest_42 : decode cX1_findBest 42 = .ok (.invokestatic 51, 3) := by decide +kernel
theorem dX1_findBest_45 : decode cX1_findBest 45 = .ok (.aload_n 1, 1) := by decide +kernel
theorem dX1_findBest_46 : decode cX1_findBest 46 = .ok (.iconst 1, 1) := by decide +kernel
theorem dX1_findBest_47 : decode cX1_findBest 47 = .ok (.putfield 42, 3) := by decide +kernel
theorem dX1_findBest_50 : decode cX1_findBest 50 = .ok (.aload_n 1, 1) := by decide +kernel
theorem dX1_findBest_51 : decode cX1_findBest 51 = .ok (.iconst 0, 1) := by decide +kernel
theorem dX1_findBest_52 : decode cX1_findBest 52 = .ok (.putfield 48, 3) := by decide +kernel
theorem dX1_findBest_55 : decode cX1_findBest 55 = .ok (.aload_n 1, 1) := by decide +kernel
theorem dX1_findBest_56 : decode cX1_findBest 56 = .ok (.ldc 66, 2) := by decide +kernel
theorem dX1_findBest_58 : decode cX1_findBest 58 = .ok (.putfield 67, 3) := by decide +kernel
theorem dX1_findBest_61 : decode cX1_findBest 61 = .ok (.aload_n 0, 1) := by decide +kernel
theorem dX1_findBest_62 : decode cX1_findBest 62 = .ok (.aload_n 1, 1) := by decide +kernel
theorem dX1_findBest_63 : decode cX1_findBest 63 = .ok (.invokevirtual 70, 3) := by decide +kernel
theorem dX1_findBest_66 : decode cX1_findBest 66 = .ok (.ifCond .eq 11, 3) := by decide +kernel
theorem dX1_findBest_69 : decode cX1_findBest 69 = .ok (.aload_n 0, 1) := by decide +kernel
theorem dX1_findBest_70 : decode cX1_findBest 70 = .ok (.aload_n 1, 1) := by decide +kernel
theorem dX1_findBest_71 : decode cX1_findBest 71 = .ok (.aload_n 3, 1) := by decide +kernel
theorem dX1_findBest_72 : decode cX1_findBest 72 = .ok (.iconst 0, 1) := by decide +kernel
theorem dX1_findBest_73 : decode cX1_findBest 73 = .ok (.iconst 0, 1) := by decide +kernel
theorem dX1_findBest_74 : decode cX1_findBest 74 = .ok (.invokevirtual 74, 3) := by decide +kernel
theorem dX1_findBest_77 : decode cX1_findBest 77 = .ok (.aload_n 1, 1) := by decide +kernel
theorem dX1_findBest_78 : decode cX1_findBest 78 = .ok (.getfield 48, 3) := by decide +kernel
theorem dX1_findBest_81 : decode cX1_findBest 81 = .ok (.ireturn, 1) := by decide +kernel
theorem dX1_listAsks_0 : decode cX1_listAsks 0 = .ok (.aload_n 0, 1) := by decide +kernel
theorem dX1_listAsks_1 : decode cX1_listAsks 1 = .ok (.iconst 0, 1) := by decide +kernel
theorem dX1_listAsks_2 : decode cX1_listAsks 2 = .ok (.putfield 18, 3) := by decide +kernel
theorem dX1_listAsks_5 : decode cX1_listAsks 5 = .ok (.aload_n 0, 1) := by decide +kernel
theorem dX1_listAsks_6 : decode cX1_listAsks 6 = .ok (.getfield 12, 3) := by decide +kernel
theorem dX1_listAsks_9 : decode cX1_listAsks 9 = .ok (.aload_n 1, 1) := by decide +kernel
theorem dX1_listAsks_10 : decode cX1_listAsks 10 = .ok (.aload_n 0, 1) := by decide +kernel
theorem dX1_listAsks_11 : decode cX1_listAsks 11 = .ok (.getfield 36, 3) := by decide +kernel
theorem dX1_listAsks_14 : decode cX1_listAsks 14 = .ok (.invokevirtual 78, 3) := by decide +kernel
theorem dX1_listAsks_17 : decode cX1_listAsks 17 = .ok (.iconst 0, 1) := by decide +kernel
theorem dX1_listAsks_18 : decode cX1_listAsks 18 = .ok (.istore_n 3, 1) := by decide +kernel
theorem dX1_listAsks_19 : decode cX1_listAsks 19 = .ok (.iload_n 3, 1) := by decide +kernel
theorem dX1_listAsks_20 : decode cX1_listAsks 20 = .ok (.aload_n 2, 1) := by decide +kernel
theorem dX1_listAsks_21 : decode cX1_listAsks 21 = .ok (.getfield 82, 3) := by decide +kernel
theorem dX1_listAsks_24 : decode cX1_listAsks 24 = .ok (.if_icmp .ge 45, 3) := by decide +kernel
theorem dX1_listAsks_27 : decode cX1_listAsks 27 = .ok (.aload_n 0, 1) := by decide +kernel
theorem dX1_listAsks_28 : decode cX1_listAsks 28 = .ok (.aload_n 1, 1) := by decide +kernel
theorem dX1_listAsks_29 : decode cX1_listAsks 29 = .ok (.aload_n 2, 1) := by decide +kernel
theorem dX1_listAsks_30 : decode cX1_listAsks 30 = .ok (.getfield 87, 3) := by decide +kernel
theorem dX1_listAsks_33 : decode cX1_listAsks 33 = .ok (.iload_n 3, 1) := by decide +kernel
theorem dX1_listAsks_34 : decode cX1_listAsks 34 = .ok (.iaload, 1) := by decide +kernel
theorem dX1_listAsks_35 : decode cX1_listAsks 35 = .ok (.aload_n 2, 1) := by decide +kernel
theorem dX1_listAsks_36 : decode cX1_listAsks 36 = .ok (.getfield 90, 3) := by decide +kernel
theorem dX1_listAsks_39 : decode cX1_listAsks 39 = .ok (.iload_n 3, 1) := by decide +kernel
theorem dX1_listAsks_40 : decode cX1_listAsks 40 = .ok (.iaload, 1) := by decide +kernel
theorem dX1_listAsks_41 : decode cX1_listAsks 41 = .ok (.iconst 1, 1) := by decide +kernel
theorem dX1_listAsks_42 : decode cX1_listAsks 42 = .ok (.invokevirtual 93, 3) := by decide +kernel
theorem dX1_listAsks_45 : decode cX1_listAsks 45 = .ok (.aload_n 0, 1) := by decide +kernel
theorem dX1_listAsks_46 : decode cX1_listAsks 46 = .ok (.aload_n 1, 1) := by decide +kernel
theorem dX1_listAsks_47 : decode cX1_listAsks 47 = .ok (.aload_n 2, 1) := by decide +kernel
theorem dX1_listAsks_48 : decode cX1_listAsks 48 = .ok (.getfield 87, 3) := by decide +kernel
theorem dX1_listAsks_51 : decode cX1_listAsks 51 = .ok (.iload_n 3, 1) := by decide +kernel
theorem dX1_listAsks_52 : decode cX1_listAsks 52 = .ok (.iaload, 1) := by decide +kernel
theorem dX1_listAsks_53 : decode cX1_listAsks 53 = .ok (.aload_n 2, 1) := by decide +kernel
theorem dX1_listAsks_54 : decode cX1_listAsks 54 = .ok (.getfield 90, 3) := by decide +kernel
theorem dX1_listAsks_57 : decode cX1_listAsks 57 = .ok (.iload_n 3, 1) := by decide +kernel
theorem dX1_listAsks_58 : decode cX1_listAsks 58 = .ok (.iaload, 1) := by decide +kernel
theorem dX1_listAsks_59 : decode cX1_listAsks 59 = .ok (.iconst 0, 1) := by decide +kernel
theorem dX1_listAsks_60 : decode cX1_listAsks 60 = .ok (.invokevirtual 93, 3) := by decide +kernel
theorem dX1_listAsks_63 : decode cX1_listAsks 63 = .ok (.iinc 3 1, 3) := by decide +kernel
theorem dX1_listAsks_66 : decode cX1_listAsks 66 = .ok (.goto (-47), 3) := by decide +kernel
theorem dX1_listAsks_69 : decode cX1_listAsks 69 = .ok (.return_, 1) := by decide +kernel
theorem dX1_listAsk_0 : decode cX1_listAsk 0 = .ok (.aload_n 0, 1) := by decide +kernel
theorem dX1_listAsk_1 : decode cX1_listAsk 1 = .ok (.getfield 18, 3) := by decide +kernel
theorem dX1_listAsk_4 : decode cX1_listAsk 4 = .ok (.bipush 16, 2) := by decide +kernel
theorem dX1_listAsk_6 : decode cX1_listAsk 6 = .ok (.if_icmp .ge 59, 3) := by decide +kernel
theorem dX1_listAsk_9 : decode cX1_listAsk 9 = .ok (.aload_n 0, 1) := by decide +kernel
theorem dX1_listAsk_10 : decode cX1_listAsk 10 = .ok (.getfield 12, 3) := by decide +kernel
theorem dX1_listAsk_13 : decode cX1_listAsk 13 = .ok (.aload_n 1, 1) := by decide +kernel
theorem dX1_listAsk_14 : decode cX1_listAsk 14 = .ok (.iload_n 2, 1) := by decide +kernel
theorem dX1_listAsk_15 : decode cX1_listAsk 15 = .ok (.iload_n 3, 1) := by decide +kernel
theorem dX1_listAsk_16 : decode cX1_listAsk 16 = .ok (.iload 4, 2) := by decide +kernel
theorem dX1_listAsk_18 : decode cX1_listAsk 18 = .ok (.invokevirtual 97, 3) := by decide +kernel
theorem dX1_listAsk_21 : decode cX1_listAsk 21 = .ok (.ifCond .ne 44, 3) := by decide +kernel
theorem dX1_listAsk_24 : decode cX1_listAsk 24 = .ok (.aload_n 0, 1) := by decide +kernel
theorem dX1_listAsk_25 : decode cX1_listAsk 25 = .ok (.getfield 22, 3) := by decide +kernel
theorem dX1_listAsk_28 : decode cX1_listAsk 28 = .ok (.aload_n 0, 1) := by decide +kernel
theorem dX1_listAsk_29 : decode cX1_listAsk 29 = .ok (.getfield 18, 3) := by decide +kernel
theorem dX1_listAsk_32 : decode cX1_listAsk 32 = .ok (.iload_n 2, 1) := by decide +kernel
theorem dX1_listAsk_33 : decode cX1_listAsk 33 = .ok (.iastore, 1) := by decide +kernel
theorem dX1_listAsk_34 : decode cX1_listAsk 34 = .ok (.aload_n 0, 1) := by decide +kernel
theorem dX1_listAsk_35 : decode cX1_listAsk 35 = .ok (.getfield 26, 3) := by decide +kernel
theorem dX1_listAsk_38 : decode cX1_listAsk 38 = .ok (.aload_n 0, 1) := by decide +kernel
theorem dX1_listAsk_39 : decode cX1_listAsk 39 = .ok (.getfield 18, 3) := by decide +kernel
theorem dX1_listAsk_42 : decode cX1_listAsk 42 = .ok (.iload_n 3, 1) := by decide +kernel
theorem dX1_listAsk_43 : decode cX1_listAsk 43 = .ok (.iastore, 1) := by decide +kernel
theorem dX1_listAsk_44 : decode cX1_listAsk 44 = .ok (.aload_n 0, 1) := by decide +kernel
theorem dX1_listAsk_45 : decode cX1_listAsk 45 = .ok (.getfield 29, 3) := by decide +kernel
theorem dX1_listAsk_48 : decode cX1_listAsk 48 = .ok (.aload_n 0, 1) := by decide +kernel
theorem dX1_listAsk_49 : decode cX1_listAsk 49 = .ok (.getfield 18, 3) := by decide +kernel
theorem dX1_listAsk_52 : decode cX1_listAsk 52 = .ok (.iload 4, 2) := by decide +kernel
theorem dX1_listAsk_54 : decode cX1_listAsk 54 = .ok (.bastore, 1) := by decide +kernel
theorem dX1_listAsk_55 : decode cX1_listAsk 55 = .ok (.aload_n 0, 1) := by decide +kernel
theorem dX1_listAsk_56 : decode cX1_listAsk 56 = .ok (.dup, 1) := by decide +kernel
theorem dX1_listAsk_57 : decode cX1_listAsk 57 = .ok (.getfield 18, 3) := by decide +kernel
theorem dX1_listAsk_60 : decode cX1_listAsk 60 = .ok (.iconst 1, 1) := by decide +kernel
theorem dX1_listAsk_61 : decode cX1_listAsk 61 = .ok (.iadd, 1) := by decide +kernel
theorem dX1_listAsk_62 : decode cX1_listAsk 62 = .ok (.putfield 18, 3) := by decide +kernel
theorem dX1_listAsk_65 : decode cX1_listAsk 65 = .ok (.return_, 1) := by decide +kernel
theorem dX1_bearsAll_0 : decode cX1_bearsAll 0 = .ok (.aload_n 0, 1) := by decide +kernel
theorem dX1_bearsAll_1 : decode cX1_bearsAll 1 = .ok (.getfield 12, 3) := by decide +kernel
theorem dX1_bearsAll_4 : decode cX1_bearsAll 4 = .ok (.aload_n 1, 1) := by decide +kernel
theorem dX1_bearsAll_5 : decode cX1_bearsAll 5 = .ok (.aload_n 0, 1) := by decide +kernel
theorem dX1_bearsAll_6 : decode cX1_bearsAll 6 = .ok (.getfield 36, 3) := by decide +kernel
theorem dX1_bearsAll_9 : decode cX1_bearsAll 9 = .ok (.invokevirtual 78, 3) := by decide +kernel
theorem dX1_bearsAll_12 : decode cX1_bearsAll 12 = .ok (.iconst 0, 1) := by decide +kernel
theorem dX1_bearsAll_13 : decode cX1_bearsAll 13 = .ok (.istore_n 2, 1) := by decide +kernel
theorem dX1_bearsAll_14 : decode cX1_bearsAll 14 = .ok (.iload_n 2, 1) := by decide +kernel
theorem dX1_bearsAll_15 : decode cX1_bearsAll 15 = .ok (.aload_n 0, 1) := by decide +kernel
theorem dX1_bearsAll_16 : decode cX1_bearsAll 16 = .ok (.getfield 18, 3) := by decide +kernel
theorem dX1_bearsAll_19 : decode cX1_bearsAll 19 = .ok (.if_icmp .ge 45, 3) := by decide +kernel
theorem dX1_bearsAll_22 : decode cX1_bearsAll 22 = .ok (.aload_n 0, 1) := by decide +kernel
theorem dX1_bearsAll_23 : decode cX1_bearsAll 23 = .ok (.getfield 12, 3) := by decide +kernel
theorem dX1_bearsAll_26 : decode cX1_bearsAll 26 = .ok (.aload_n 1, 1) := by decide +kernel
theorem dX1_bearsAll_27 : decode cX1_bearsAll 27 = .ok (.aload_n 0, 1) := by decide +kernel
theorem dX1_bearsAll_28 : decode cX1_bearsAll 28 = .ok (.getfield 22, 3) := by decide +kernel
theorem dX1_bearsAll_31 : decode cX1_bearsAll 31 = .ok (.iload_n 2, 1) := by decide +kernel
theorem dX1_bearsAll_32 : decode cX1_bearsAll 32 = .ok (.iaload, 1) := by decide +kernel
theorem dX1_bearsAll_33 : decode cX1_bearsAll 33 = .ok (.aload_n 0, 1) := by decide +kernel
theorem dX1_bearsAll_34 : decode cX1_bearsAll 34 = .ok (.getfield 26, 3) := by decide +kernel
theorem dX1_bearsAll_37 : decode cX1_bearsAll 37 = .ok (.iload_n 2, 1) := by decide +kernel
theorem dX1_bearsAll_38 : decode cX1_bearsAll 38 = .ok (.iaload, 1) := by decide +kernel
theorem dX1_bearsAll_39 : decode cX1_bearsAll 39 = .ok (.aload_n 0, 1) := by decide +kernel
theorem dX1_bearsAll_40 : decode cX1_bearsAll 40 = .ok (.getfield 29, 3) := by decide +kernel
theorem dX1_bearsAll_43 : decode cX1_bearsAll 43 = .ok (.iload_n 2, 1) := by decide +kernel
theorem dX1_bearsAll_44 : decode cX1_bearsAll 44 = .ok (.baload, 1) := by decide +kernel
theorem dX1_bearsAll_45 : decode cX1_bearsAll 45 = .ok (.invokevirtual 97, 3) := by decide +kernel
theorem dX1_bearsAll_48 : decode cX1_bearsAll 48 = .ok (.ifCond .ne 10, 3) := by decide +kernel
theorem dX1_bearsAll_51 : decode cX1_bearsAll 51 = .ok (.aload_n 0, 1) := by decide +kernel
theorem dX1_bearsAll_52 : decode cX1_bearsAll 52 = .ok (.iload_n 2, 1) := by decide +kernel
theorem dX1_bearsAll_53 : decode cX1_bearsAll 53 = .ok (.invokevirtual 101, 3) := by decide +kernel
theorem dX1_bearsAll_56 : decode cX1_bearsAll 56 = .ok (.iconst 0, 1) := by decide +kernel
theorem dX1_bearsAll_57 : decode cX1_bearsAll 57 = .ok (.ireturn, 1) := by decide +kernel
theorem dX1_bearsAll_58 : decode cX1_bearsAll 58 = .ok (.iinc 2 1, 3) := by decide +kernel
theorem dX1_bearsAll_61 : decode cX1_bearsAll 61 = .ok (.goto (-47), 3) := by decide +kernel
theorem dX1_bearsAll_64 : decode cX1_bearsAll 64 = .ok (.iconst 1, 1) := by decide +kernel
theorem dX1_bearsAll_65 : decode cX1_bearsAll 65 = .ok (.ireturn, 1) := by decide +kernel
theorem dX1_putFirst_0 : decode cX1_putFirst 0 = .ok (.aload_n 0, 1) := by decide +kernel
theorem dX1_putFirst_1 : decode cX1_putFirst 1 = .ok (.getfield 22, 3) := by decide +kernel
theorem dX1_putFirst_4 : decode cX1_putFirst 4 = .ok (.iload_n 1, 1) := by decide +kernel
theorem dX1_putFirst_5 : decode cX1_putFirst 5 = .ok (.iaload, 1) := by decide +kernel
theorem dX1_putFirst_6 : decode cX1_putFirst 6 = .ok (.istore_n 2, 1) := by decide +kernel
theorem dX1_putFirst_7 : decode cX1_putFirst 7 = .ok (.aload_n 0, 1) := by decide +kernel
theorem dX1_putFirst_8 : decode cX1_putFirst 8 = .ok (.getfield 26, 3) := by decide +kernel
theorem dX1_putFirst_11 : decode cX1_putFirst 11 = .ok (.iload_n 1, 1) := by decide +kernel
theorem dX1_putFirst_12 : decode cX1_putFirst 12 = .ok (.iaload, 1) := by decide +kernel
theorem dX1_putFirst_13 : decode cX1_putFirst 13 = .ok (.istore_n 3, 1) := by decide +kernel
theorem dX1_putFirst_14 : decode cX1_putFirst 14 = .ok (.aload_n 0, 1) := by decide +kernel
theorem dX1_putFirst_15 : decode cX1_putFirst 15 = .ok (.getfield 29, 3) := by decide +kernel
theorem dX1_putFirst_18 : decode cX1_putFirst 18 = .ok (.iload_n 1, 1) := by decide +kernel
theorem dX1_putFirst_19 : decode cX1_putFirst 19 = .ok (.baload, 1) := by decide +kernel
theorem dX1_putFirst_20 : decode cX1_putFirst 20 = .ok (.istore 4, 2) := by decide +kernel
theorem dX1_putFirst_22 : decode cX1_putFirst 22 = .ok (.aload_n 0, 1) := by decide +kernel
theorem dX1_putFirst_23 : decode cX1_putFirst 23 = .ok (.getfield 22, 3) := by decide +kernel
theorem dX1_putFirst_26 : decode cX1_putFirst 26 = .ok (.iload_n 1, 1) := by decide +kernel
theorem dX1_putFirst_27 : decode cX1_putFirst 27 = .ok (.aload_n 0, 1) := by decide +kernel
theorem dX1_putFirst_28 : decode cX1_putFirst 28 = .ok (.getfield 22, 3) := by decide +kernel
theorem dX1_putFirst_31 : decode cX1_putFirst 31 = .ok (.iconst 0, 1) := by decide +kernel
theorem dX1_putFirst_32 : decode cX1_putFirst 32 = .ok (.iaload, 1) := by decide +kernel
theorem dX1_putFirst_33 : decode cX1_putFirst 33 = .ok (.iastore, 1) := by decide +kernel
theorem dX1_putFirst_34 : decode cX1_putFirst 34 = .ok (.aload_n 0, 1) := by decide +kernel
theorem dX1_putFirst_35 : decode cX1_putFirst 35 = .ok (.getfield 26, 3) := by decide +kernel
theorem dX1_putFirst_38 : decode cX1_putFirst 38 = .ok (.iload_n 1, 1) := by decide +kernel
theorem dX1_putFirst_39 : decode cX1_putFirst 39 = .ok (.aload_n 0, 1) := by decide +kernel
theorem dX1_putFirst_40 : decode cX1_putFirst 40 = .ok (.getfield 26, 3) := by decide +kernel
theorem dX1_putFirst_43 : decode cX1_putFirst 43 = .ok (.iconst 0, 1) := by decide +kernel
theorem dX1_putFirst_44 : decode cX1_putFirst 44 = .ok (.iaload, 1) := by decide +kernel
theorem dX1_putFirst_45 : decode cX1_putFirst 45 = .ok (.iastore, 1) := by decide +kernel
theorem dX1_putFirst_46 : decode cX1_putFirst 46 = .ok (.aload_n 0, 1) := by decide +kernel
theorem dX1_putFirst_47 : decode cX1_putFirst 47 = .ok (.getfield 29, 3) := by decide +kernel
theorem dX1_putFirst_50 : decode cX1_putFirst 50 = .ok (.iload_n 1, 1) := by decide +kernel
theorem dX1_putFirst_51 : decode cX1_putFirst 51 = .ok (.aload_n 0, 1) := by decide +kernel
theorem dX1_putFirst_52 : decode cX1_putFirst 52 = .ok (.getfield 29, 3) := by decide +kernel
theorem dX1_putFirst_55 : decode cX1_putFirst 55 = .ok (.iconst 0, 1) := by decide +kernel
theorem dX1_putFirst_56 : decode cX1_putFirst 56 = .ok (.baload, 1) := by decide +kernel
theorem dX1_putFirst_57 : decode cX1_putFirst 57 = .ok (.bastore, 1) := by decide +kernel
theorem dX1_putFirst_58 : decode cX1_putFirst 58 = .ok (.aload_n 0, 1) := by decide +kernel
theorem dX1_putFirst_59 : decode cX1_putFirst 59 = .ok (.getfield 22, 3) := by decide +kernel
theorem dX1_putFirst_62 : decode cX1_putFirst 62 = .ok (.iconst 0, 1) := by decide +kernel
theorem dX1_putFirst_63 : decode cX1_putFirst 63 = .ok (.iload_n 2, 1) := by decide +kernel
theorem dX1_putFirst_64 : decode cX1_putFirst 64 = .ok (.iastore, 1) := by decide +kernel
theorem dX1_putFirst_65 : decode cX1_putFirst 65 = .ok (.aload_n 0, 1) := by decide +kernel
theorem dX1_putFirst_66 : decode cX1_putFirst 66 = .ok (.getfield 26, 3) := by decide +kernel
theorem dX1_putFirst_69 : decode cX1_putFirst 69 = .ok (.iconst 0, 1) := by decide +kernel
theorem dX1_putFirst_70 : decode cX1_putFirst 70 = .ok (.iload_n 3, 1) := by decide +kernel
theorem dX1_putFirst_71 : decode cX1_putFirst 71 = .ok (.iastore, 1) := by decide +kernel
theorem dX1_putFirst_72 : decode cX1_putFirst 72 = .ok (.aload_n 0, 1) := by decide +kernel
theorem dX1_putFirst_73 : decode cX1_putFirst 73 = .ok (.getfield 29, 3) := by decide +kernel
theorem dX1_putFirst_76 : decode cX1_putFirst 76 = .ok (.iconst 0, 1) := by decide +kernel
theorem dX1_putFirst_77 : decode cX1_putFirst 77 = .ok (.iload 4, 2) := by decide +kernel
theorem dX1_putFirst_79 : decode cX1_putFirst 79 = .ok (.bastore, 1) := by decide +kernel
theorem dX1_putFirst_80 : decode cX1_putFirst 80 = .ok (.return_, 1) := by decide +kernel
theorem dX1_choose_0 : decode cX1_choose 0 = .ok (.iload_n 3, 1) := by decide +kernel
theorem dX1_choose_1 : decode cX1_choose 1 = .ok (.aload_n 1, 1) := by decide +kernel
theorem dX1_choose_2 : decode cX1_choose 2 = .ok (.getfield 105, 3) := by decide +kernel
theorem dX1_choose_5 : decode cX1_choose 5 = .ok (.if_icmp .ge 9, 3) := by decide +kernel
theorem dX1_choose_8 : decode cX1_choose 8 = .ok (.iload_n 3, 1) := by decide +kernel
theorem dX1_choose_9 : decode cX1_choose 9 = .ok (.bipush 6, 2) := by decide +kernel
theorem dX1_choose_11 : decode cX1_choose 11 = .ok (.if_icmp .lt 11, 3) := by decide +kernel
theorem dX1_choose_14 : decode cX1_choose 14 = .ok (.aload_n 0, 1) := by decide +kernel
theorem dX1_choose_15 : decode cX1_choose 15 = .ok (.aload_n 1, 1) := by decide +kernel
theorem dX1_choose_16 : decode cX1_choose 16 = .ok (.iload 4, 2) := by decide +kernel
theorem dX1_choose_18 : decode cX1_choose 18 = .ok (.invokevirtual 108, 3) := by decide +kernel
theorem dX1_choose_21 : decode cX1_choose 21 = .ok (.return_, 1) := by decide +kernel
theorem dX1_choose_22 : decode cX1_choose 22 = .ok (.aload_n 0, 1) := by decide +kernel
theorem dX1_choose_23 : decode cX1_choose 23 = .ok (.aload_n 1, 1) := by decide +kernel
theorem dX1_choose_24 : decode cX1_choose 24 = .ok (.aload_n 2, 1) := by decide +kernel
theorem dX1_choose_25 : decode cX1_choose 25 = .ok (.iload_n 3, 1) := by decide +kernel
theorem dX1_choose_26 : decode cX1_choose 26 = .ok (.iload 4, 2) := by decide +kernel
theorem dX1_choose_28 : decode cX1_choose 28 = .ok (.bipush (-2), 2) := by decide +kernel
theorem dX1_choose_30 : decode cX1_choose 30 = .ok (.invokevirtual 112, 3) := by decide +kernel
theorem dX1_choose_33 : decode cX1_choose 33 = .ok (.iconst 0, 1) := by decide +kernel
theorem dX1_choose_34 : decode cX1_choose 34 = .ok (.istore 5, 2) := by decide +kernel
theorem dX1_choose_36 : decode cX1_choose 36 = .ok (.iload 5, 2) := by decide +kernel
theorem dX1_choose_38 : decode cX1_choose 38 = .ok (.aload_n 2, 1) := by decide +kernel
theorem dX1_choose_39 : decode cX1_choose 39 = .ok (.getfield 116, 3) := by decide +kernel
theorem dX1_choose_42 : decode cX1_choose 42 = .ok (.if_icmp .ge 20, 3) := by decide +kernel
theorem dX1_choose_45 : decode cX1_choose 45 = .ok (.aload_n 0, 1) := by decide +kernel
theorem dX1_choose_46 : decode cX1_choose 46 = .ok (.aload_n 1, 1) := by decide +kernel
theorem dX1_choose_47 : decode cX1_choose 47 = .ok (.aload_n 2, 1) := by decide +kernel
theorem dX1_choose_48 : decode cX1_choose 48 = .ok (.iload_n 3, 1) := by decide +kernel
theorem dX1_choose_49 : decode cX1_choose 49 = .ok (.iload 4, 2) := by decide +kernel
theorem dX1_choose_51 : decode cX1_choose 51 = .ok (.iload 5, 2) := by decide +kernel
theorem dX1_choose_53 : decode cX1_choose 53 = .ok (.invokevirtual 112, 3) := by decide +kernel
theorem dX1_choose_56 : decode cX1_choose 56 = .ok (.iinc 5 1, 3) := by decide +kernel
theorem dX1_choose_59 : decode cX1_choose 59 = .ok (.goto (-23), 3) := by decide +kernel
theorem dX1_choose_62 : decode cX1_choose 62 = .ok (.aload_n 0, 1) := by decide +kernel
theorem dX1_choose_63 : decode cX1_choose 63 = .ok (.getfield 36, 3) := by decide +kernel
theorem dX1_choose_66 : decode cX1_choose 66 = .ok (.iload_n 3, 1) := by decide +kernel
theorem dX1_choose_67 : decode cX1_choose 67 = .ok (.aload_n 0, 1) := by decide +kernel
theorem dX1_choose_68 : decode cX1_choose 68 = .ok (.getfield 33, 3) := by decide +kernel
theorem dX1_choose_71 : decode cX1_choose 71 = .ok (.iastore, 1) := by decide +kernel
theorem dX1_choose_72 : decode cX1_choose 72 = .ok (.return_, 1) := by decide +kernel
theorem dX1_attempt_0 : decode cX1_attempt 0 = .ok (.iload 4, 2) := by decide +kernel
theorem dX1_attempt_2 : decode cX1_attempt 2 = .ok (.aload_n 2, 1) := by decide +kernel
theorem dX1_attempt_3 : decode cX1_attempt 3 = .ok (.iload 5, 2) := by decide +kernel
theorem dX1_attempt_5 : decode cX1_attempt 5 = .ok (.invokevirtual 117, 3) := by decide +kernel
theorem dX1_attempt_8 : decode cX1_attempt 8 = .ok (.iadd, 1) := by decide +kernel
theorem dX1_attempt_9 : decode cX1_attempt 9 = .ok (.istore 6, 2) := by decide +kernel
theorem dX1_attempt_11 : decode cX1_attempt 11 = .ok (.iload 6, 2) := by decide +kernel
theorem dX1_attempt_13 : decode cX1_attempt 13 = .ok (.aload_n 1, 1) := by decide +kernel
theorem dX1_attempt_14 : decode cX1_attempt 14 = .ok (.getfield 67, 3) := by decide +kernel
theorem dX1_attempt_17 : decode cX1_attempt 17 = .ok (.if_icmp .ge 12, 3) := by decide +kernel
theorem dX1_attempt_20 : decode cX1_attempt 20 = .ok (.aload_n 2, 1) := by decide +kernel
theorem dX1_attempt_21 : decode cX1_attempt 21 = .ok (.iload 5, 2) := by decide +kernel
theorem dX1_attempt_23 : decode cX1_attempt 23 = .ok (.invokevirtual 121, 3) := by decide +kernel
theorem dX1_attempt_26 : decode cX1_attempt 26 = .ok (.ifCond .eq 4, 3) := by decide +kernel
theorem dX1_attempt_29 : decode cX1_attempt 29 = .ok (.return_, 1) := by decide +kernel
theorem dX1_attempt_30 : decode cX1_attempt 30 = .ok (.aload_n 0, 1) := by decide +kernel
theorem dX1_attempt_31 : decode cX1_attempt 31 = .ok (.getfield 39, 3) := by decide +kernel
theorem dX1_attempt_34 : decode cX1_attempt 34 = .ok (.iload_n 3, 1) := by decide +kernel
theorem dX1_attempt_35 : decode cX1_attempt 35 = .ok (.iload 5, 2) := by decide +kernel
theorem dX1_attempt_37 : decode cX1_attempt 37 = .ok (.iastore, 1) := by decide +kernel
theorem dX1_attempt_38 : decode cX1_attempt 38 = .ok (.aload_n 0, 1) := by decide +kernel
theorem dX1_attempt_39 : decode cX1_attempt 39 = .ok (.getfield 36, 3) := by decide +kernel
theorem dX1_attempt_42 : decode cX1_attempt 42 = .ok (.iload_n 3, 1) := by decide +kernel
theorem dX1_attempt_43 : decode cX1_attempt 43 = .ok (.aload_n 2, 1) := by decide +kernel
theorem dX1_attempt_44 : decode cX1_attempt 44 = .ok (.iload 5, 2) := by decide +kernel
theorem dX1_attempt_46 : decode cX1_attempt 46 = .ok (.invokevirtual 125, 3) := by decide +kernel
theorem dX1_attempt_49 : decode cX1_attempt 49 = .ok (.iastore, 1) := by decide +kernel
theorem dX1_attempt_50 : decode cX1_attempt 50 = .ok (.aload_n 0, 1) := by decide +kernel
theorem dX1_attempt_51 : decode cX1_attempt 51 = .ok (.getfield 36, 3) := by decide +kernel
theorem dX1_attempt_54 : decode cX1_attempt 54 = .ok (.iload_n 3, 1) := by decide +kernel
theorem dX1_attempt_55 : decode cX1_attempt 55 = .ok (.iaload, 1) := by decide +kernel
theorem dX1_attempt_56 : decode cX1_attempt 56 = .ok (.aload_n 0, 1) := by decide +kernel
theorem dX1_attempt_57 : decode cX1_attempt 57 = .ok (.getfield 33, 3) := by decide +kernel
theorem dX1_attempt_60 : decode cX1_attempt 60 = .ok (.if_icmp .eq 11, 3) := by decide +kernel
theorem dX1_attempt_63 : decode cX1_attempt 63 = .ok (.aload_n 0, 1) := by decide +kernel
theorem dX1_attempt_64 : decode cX1_attempt 64 = .ok (.aload_n 1, 1) := by decide +kernel
theorem dX1_attempt_65 : decode cX1_attempt 65 = .ok (.invokevirtual 70, 3) := by decide +kernel
theorem dX1_attempt_68 : decode cX1_attempt 68 = .ok (.ifCond .eq 14, 3) := by decide +kernel
theorem dX1_attempt_71 : decode cX1_attempt 71 = .ok (.aload_n 0, 1) := by decide +kernel
theorem dX1_attempt_72 : decode cX1_attempt 72 = .ok (.aload_n 1, 1) := by decide +kernel
theorem dX1_attempt_73 : decode cX1_attempt 73 = .ok (.aload_n 2, 1) := by decide +kernel
theorem dX1_attempt_74 : decode cX1_attempt 74 = .ok (.iload_n 3, 1) := by decide +kernel
theorem dX1_attempt_75 : decode cX1_attempt 75 = .ok (.iconst 1, 1) := by decide +kernel
theorem dX1_attempt_76 : decode cX1_attempt 76 = .ok (.iadd, 1) := by decide +kernel
theorem dX1_attempt_77 : decode cX1_attempt 77 = .ok (.iload 6, 2) := by decide +kernel
theorem dX1_attempt_79 : decode cX1_attempt 79 = .ok (.invokevirtual 74, 3) := by decide +kernel
theorem dX1_attempt_82 : decode cX1_attempt 82 = .ok (.return_, 1) := by decide +kernel
theorem dX1_keep_0 : decode cX1_keep 0 = .ok (.aload_n 1, 1) := by decide +kernel
theorem dX1_keep_1 : decode cX1_keep 1 = .ok (.iconst 1, 1) := by decide +kernel
theorem dX1_keep_2 : decode cX1_keep 2 = .ok (.putfield 48, 3) := by decide +kernel
theorem dX1_keep_5 : decode cX1_keep 5 = .ok (.aload_n 1, 1) := by decide +kernel
theorem dX1_keep_6 : decode cX1_keep 6 = .ok (.iload_n 2, 1) := by decide +kernel
theorem dX1_keep_7 : decode cX1_keep 7 = .ok (.putfield 67, 3) := by decide +kernel
theorem dX1_keep_10 : decode cX1_keep 10 = .ok (.aload_n 0, 1) := by decide +kernel
theorem dX1_keep_11 : decode cX1_keep 11 = .ok (.getfield 39, 3) := by decide +kernel
theorem dX1_keep_14 : decode cX1_keep 14 = .ok (.iconst 0, 1) := by decide +kernel
theorem dX1_keep_15 : decode cX1_keep 15 = .ok (.aload_n 1, 1) := by decide +kernel
theorem dX1_keep_16 : decode cX1_keep 16 = .ok (.getfield 128, 3) := by decide +kernel
theorem dX1_keep_19 : decode cX1_keep 19 = .ok (.iconst 0, 1) := by decide +kernel
theorem dX1_keep_20 : decode cX1_keep 20 = .ok (.bipush 6, 2) := by decide +kernel
theorem dX1_keep_22 : decode cX1_keep 22 = .ok (.invokestatic 131, 3) := by decide +kernel
theorem dX1_keep_25 : decode cX1_keep 25 = .ok (.return_, 1) := by decide +kernel
theorem dX2_init_0 : decode cX2_init 0 = .ok (.aload_n 0, 1) := by decide +kernel
theorem dX2_init_1 : decode cX2_init 1 = .ok (.invokespecial 3, 3) := by decide +kernel
theorem dX2_init_4 : decode cX2_init 4 = .ok (.aload_n 0, 1) := by decide +kernel
theorem dX2_init_5 : decode cX2_init 5 = .ok (.iconst 0, 1) := by decide +kernel
theorem dX2_init_6 : decode cX2_init 6 = .ok (.putfield 9, 3) := by decide +kernel
theorem dX2_init_9 : decode cX2_init 9 = .ok (.aload_n 0, 1) := by decide +kernel
theorem dX2_init_10 : decode cX2_init 10 = .ok (.bipush 8, 2) := by decide +kernel
theorem dX2_init_12 : decode cX2_init 12 = .ok (.newarray .int, 2) := by decide +kernel
theorem dX2_init_14 : decode cX2_init 14 = .ok (.putfield 15, 3) := by decide +kernel
theorem dX2_init_17 : decode cX2_init 17 = .ok (.aload_n 0, 1) := by decide +kernel
theorem dX2_init_18 : decode cX2_init 18 = .ok (.bipush 8, 2) := by decide +kernel
theorem dX2_init_20 : decode cX2_init 20 = .ok (.newarray .int, 2) := by decide +kernel
theorem dX2_init_22 : decode cX2_init 22 = .ok (.putfield 19, 3) := by decide +kernel
theorem dX2_init_25 : decode cX2_init 25 = .ok (.return_, 1) := by decide +kernel
theorem dX2_add_0 : decode cX2_add 0 = .ok (.aload_n 0, 1) := by decide +kernel
theorem dX2_add_1 : decode cX2_add 1 = .ok (.getfield 15, 3) := by decide +kernel
theorem dX2_add_4 : decode cX2_add 4 = .ok (.aload_n 0, 1) := by decide +kernel
theorem dX2_add_5 : decode cX2_add 5 = .ok (.getfield 9, 3) := by decide +kernel
theorem dX2_add_8 : decode cX2_add 8 = .ok (.iload_n 1, 1) := by decide +kernel
theorem dX2_add_9 : decode cX2_add 9 = .ok (.iastore, 1) := by decide +kernel
theorem dX2_add_10 : decode cX2_add 10 = .ok (.aload_n 0, 1) := by decide +kernel
theorem dX2_add_11 : decode cX2_add 11 = .ok (.getfield 19, 3) := by decide +kernel
theorem dX2_add_14 : decode cX2_add 14 = .ok (.aload_n 0, 1) := by decide +kernel
theorem dX2_add_15 : decode cX2_add 15 = .ok (.getfield 9, 3) := by decide +kernel
theorem dX2_add_18 : decode cX2_add 18 = .ok (.iload_n 2, 1) := by decide +kernel
theorem dX2_add_19 : decode cX2_add 19 = .ok (.iastore, 1) := by decide +kernel
theorem dX2_add_20 : decode cX2_add 20 = .ok (.aload_n 0, 1) := by decide +kernel
theorem dX2_add_21 : decode cX2_add 21 = .ok (.dup, 1) := by decide +kernel
theorem dX2_add_22 : decode cX2_add 22 = .ok (.getfield 9, 3) := by decide +kernel
theorem dX2_add_25 : decode cX2_add 25 = .ok (.iconst 1, 1) := by decide +kernel
theorem dX2_add_26 : decode cX2_add 26 = .ok (.iadd, 1) := by decide +kernel
theorem dX2_add_27 : decode cX2_add 27 = .ok (.putfield 9, 3) := by decide +kernel
theorem dX2_add_30 : decode cX2_add 30 = .ok (.aload_n 0, 1) := by decide +kernel
theorem dX2_add_31 : decode cX2_add 31 = .ok (.getfield 9, 3) := by decide +kernel
theorem dX2_add_34 : decode cX2_add 34 = .ok (.iconst 1, 1) := by decide +kernel
theorem dX2_add_35 : decode cX2_add 35 = .ok (.isub, 1) := by decide +kernel
theorem dX2_add_36 : decode cX2_add 36 = .ok (.ireturn, 1) := by decide +kernel
theorem dX3_init_0 : decode cX3_init 0 = .ok (.aload_n 0, 1) := by decide +kernel
theorem dX3_init_1 : decode cX3_init 1 = .ok (.invokespecial 1, 3) := by decide +kernel
theorem dX3_init_4 : decode cX3_init 4 = .ok (.aload_n 0, 1) := by decide +kernel
theorem dX3_init_5 : decode cX3_init 5 = .ok (.new 7, 3) := by decide +kernel
theorem dX3_init_8 : decode cX3_init 8 = .ok (.dup, 1) := by decide +kernel
theorem dX3_init_9 : decode cX3_init 9 = .ok (.invokespecial 9, 3) := by decide +kernel
theorem dX3_init_12 : decode cX3_init 12 = .ok (.putfield 10, 3) := by decide +kernel
theorem dX3_init_15 : decode cX3_init 15 = .ok (.aload_n 0, 1) := by decide +kernel
theorem dX3_init_16 : decode cX3_init 16 = .ok (.new 7, 3) := by decide +kernel
theorem dX3_init_19 : decode cX3_init 19 = .ok (.dup, 1) := by decide +kernel
theorem dX3_init_20 : decode cX3_init 20 = .ok (.invokespecial 9, 3) := by decide +kernel
theorem dX3_init_23 : decode cX3_init 23 = .ok (.putfield 16, 3) := by decide +kernel
theorem dX3_init_26 : decode cX3_init 26 = .ok (.aload_n 0, 1) := by decide +kernel
theorem dX3_init_27 : decode cX3_init 27 = .ok (.new 7, 3) := by decide +kernel
theorem dX3_init_30 : decode cX3_init 30 = .ok (.dup, 1) := by decide +kernel
theorem dX3_init_31 : decode cX3_init 31 = .ok (.invokespecial 9, 3) := by decide +kernel
theorem dX3_init_34 : decode cX3_init 34 = .ok (.putfield 19, 3) := by decide +kernel
theorem dX3_init_37 : decode cX3_init 37 = .ok (.aload_n 0, 1) := by decide +kernel
theorem dX3_init_38 : decode cX3_init 38 = .ok (.new 7, 3) := by decide +kernel
theorem dX3_init_41 : decode cX3_init 41 = .ok (.dup, 1) := by decide +kernel
theorem dX3_init_42 : decode cX3_init 42 = .ok (.invokespecial 9, 3) := by decide +kernel
theorem dX3_init_45 : decode cX3_init 45 = .ok (.putfield 22, 3) := by decide +kernel
theorem dX3_init_48 : decode cX3_init 48 = .ok (.aload_n 0, 1) := by decide +kernel
theorem dX3_init_49 : decode cX3_init 49 = .ok (.new 7, 3) := by decide +kernel
theorem dX3_init_52 : decode cX3_init 52 = .ok (.dup, 1) := by decide +kernel
theorem dX3_init_53 : decode cX3_init 53 = .ok (.invokespecial 9, 3) := by decide +kernel
theorem dX3_init_56 : decode cX3_init 56 = .ok (.putfield 25, 3) := by decide +kernel
theorem dX3_init_59 : decode cX3_init 59 = .ok (.return_, 1) := by decide +kernel
theorem dX3_put_0 : decode cX3_put 0 = .ok (.aload_n 0, 1) := by decide +kernel
theorem dX3_put_1 : decode cX3_put 1 = .ok (.getfield 10, 3) := by decide +kernel
theorem dX3_put_4 : decode cX3_put 4 = .ok (.lload_n 1, 1) := by decide +kernel
theorem dX3_put_5 : decode cX3_put 5 = .ok (.invokevirtual 28, 3) := by decide +kernel
theorem dX3_put_8 : decode cX3_put 8 = .ok (.aload_n 0, 1) := by decide +kernel
theorem dX3_put_9 : decode cX3_put 9 = .ok (.getfield 16, 3) := by decide +kernel
theorem dX3_put_12 : decode cX3_put 12 = .ok (.lload_n 3, 1) := by decide +kernel
theorem dX3_put_13 : decode cX3_put 13 = .ok (.invokevirtual 28, 3) := by decide +kernel
theorem dX3_put_16 : decode cX3_put 16 = .ok (.return_, 1) := by decide +kernel
theorem dX3_copy_0 : decode cX3_copy 0 = .ok (.aload_n 0, 1) := by decide +kernel
theorem dX3_copy_1 : decode cX3_copy 1 = .ok (.getfield 10, 3) := by decide +kernel
theorem dX3_copy_4 : decode cX3_copy 4 = .ok (.aload_n 1, 1) := by decide +kernel
theorem dX3_copy_5 : decode cX3_copy 5 = .ok (.getfield 10, 3) := by decide +kernel
theorem dX3_copy_8 : decode cX3_copy 8 = .ok (.invokevirtual 32, 3) := by decide +kernel
theorem dX3_copy_11 : decode cX3_copy 11 = .ok (.aload_n 0, 1) := by decide +kernel
theorem dX3_copy_12 : decode cX3_copy 12 = .ok (.getfield 16, 3) := by decide +kernel
theorem dX3_copy_15 : decode cX3_copy 15 = .ok (.aload_n 1, 1) := by decide +kernel
theorem dX3_copy_16 : decode cX3_copy 16 = .ok (.getfield 16, 3) := by decide +kernel
theorem dX3_copy_19 : decode cX3_copy 19 = .ok (.invokevirtual 32, 3) := by decide +kernel
theorem dX3_copy_22 : decode cX3_copy 22 = .ok (.return_, 1) := by decide +kernel
theorem dX3_putSum_0 : decode cX3_putSum 0 = .ok (.lconst 1, 1) := by decide +kernel
theorem dX3_putSum_1 : decode cX3_putSum 1 = .ok (.aload_n 1, 1) := by decide +kernel
theorem dX3_putSum_2 : decode cX3_putSum 2 = .ok (.getfield 36, 3) := by decide +kernel
theorem dX3_putSum_5 : decode cX3_putSum 5 = .ok (.aload_n 2, 1) := by decide +kernel
theorem dX3_putSum_6 : decode cX3_putSum 6 = .ok (.getfield 36, 3) := by decide +kernel
theorem dX3_putSum_9 : decode cX3_putSum 9 = .ok (.invokestatic 41, 3) := by decide +kernel
theorem dX3_putSum_12 : decode cX3_putSum 12 = .ok (.invokestatic 47, 3) := by decide +kernel
theorem dX3_putSum_15 : decode cX3_putSum 15 = .ok (.lstore_n 3, 1) := by decide +kernel
theorem dX3_putSum_16 : decode cX3_putSum 16 = .ok (.aload_n 0, 1) := by decide +kernel
theorem dX3_putSum_17 : decode cX3_putSum 17 = .ok (.getfield 19, 3) := by decide +kernel
theorem dX3_putSum_20 : decode cX3_putSum 20 = .ok (.aload_n 1, 1) := by decide +kernel
theorem dX3_putSum_21 : decode cX3_putSum 21 = .ok (.getfield 52, 3) := by decide +kernel
theorem dX3_putSum_24 : decode cX3_putSum 24 = .ok (.invokevirtual 28, 3) := by decide +kernel
theorem dX3_putSum_27 : decode cX3_putSum 27 = .ok (.aload_n 0, 1) := by decide +kernel
theorem dX3_putSum_28 : decode cX3_putSum 28 = .ok (.getfield 22, 3) := by decide +kernel
theorem dX3_putSum_31 : decode cX3_putSum 31 = .ok (.aload_n 2, 1) := by decide +kernel
theorem dX3_putSum_32 : decode cX3_putSum 32 = .ok (.getfield 36, 3) := by decide +kernel
theorem dX3_putSum_35 : decode cX3_putSum 35 = .ok (.lload_n 3, 1) := by decide +kernel
theorem dX3_putSum_36 : decode cX3_putSum 36 = .ok (.ldiv, 1) := by decide +kernel
theorem dX3_putSum_37 : decode cX3_putSum 37 = .ok (.invokevirtual 28, 3) := by decide +kernel
theorem dX3_putSum_40 : decode cX3_putSum 40 = .ok (.aload_n 0, 1) := by decide +kernel
theorem dX3_putSum_41 : decode cX3_putSum 41 = .ok (.getfield 10, 3) := by decide +kernel
theorem dX3_putSum_44 : decode cX3_putSum 44 = .ok (.aload_n 0, 1) := by decide +kernel
theorem dX3_putSum_45 : decode cX3_putSum 45 = .ok (.getfield 19, 3) := by decide +kernel
theorem dX3_putSum_48 : decode cX3_putSum 48 = .ok (.aload_n 0, 1) := by decide +kernel
theorem dX3_putSum_49 : decode cX3_putSum 49 = .ok (.getfield 22, 3) := by decide +kernel
theorem dX3_putSum_52 : decode cX3_putSum 52 = .ok (.invokevirtual 54, 3) := by decide +kernel
theorem dX3_putSum_55 : decode cX3_putSum 55 = .ok (.aload_n 0, 1) := by decide +kernel
theorem dX3_putSum_56 : decode cX3_putSum 56 = .ok (.getfield 19, 3) := by decide +kernel
theorem dX3_putSum_59 : decode cX3_putSum 59 = .ok (.aload_n 2, 1) := by decide +kernel
theorem dX3_putSum_60 : decode cX3_putSum 60 = .ok (.getfield 52, 3) := by decide +kernel
theorem dX3_putSum_63 : decode cX3_putSum 63 = .ok (.invokevirtual 28, 3) := by decide +kernel
theorem dX3_putSum_66 : decode cX3_putSum 66 = .ok (.aload_n 0, 1) := by decide +kernel
theorem dX3_putSum_67 : decode cX3_putSum 67 = .ok (.getfield 22, 3) := by decide +kernel
theorem dX3_putSum_70 : decode cX3_putSum 70 = .ok (.aload_n 1, 1) := by decide +kernel
theorem dX3_putSum_71 : decode cX3_putSum 71 = .ok (.getfield 36, 3) := by decide +kernel
theorem dX3_putSum_74 : decode cX3_putSum 74 = .ok (.lload_n 3, 1) := by decide +kernel
theorem dX3_putSum_75 : decode cX3_putSum 75 = .ok (.ldiv, 1) := by decide +kernel
theorem dX3_putSum_76 : decode cX3_putSum 76 = .ok (.invokevirtual 28, 3) := by decide +kernel
theorem dX3_putSum_79 : decode cX3_putSum 79 = .ok (.aload_n 0, 1) := by decide +kernel
theorem dX3_putSum_80 : decode cX3_putSum 80 = .ok (.getfield 25, 3) := by decide +kernel
theorem dX3_putSum_83 : decode cX3_putSum 83 = .ok (.aload_n 0, 1) := by decide +kernel
theorem dX3_putSum_84 : decode cX3_putSum 84 = .ok (.getfield 19, 3) := by decide +kernel
theorem dX3_putSum_87 : decode cX3_putSum 87 = .ok (.aload_n 0, 1) := by decide +kernel
theorem dX3_putSum_88 : decode cX3_putSum 88 = .ok (.getfield 22, 3) := by decide +kernel
theorem dX3_putSum_91 : decode cX3_putSum 91 = .ok (.invokevirtual 54, 3) := by decide +kernel
theorem dX3_putSum_94 : decode cX3_putSum 94 = .ok (.aload_n 0, 1) := by decide +kernel
theorem dX3_putSum_95 : decode cX3_putSum 95 = .ok (.getfield 10, 3) := by decide +kernel
theorem dX3_putSum_98 : decode cX3_putSum 98 = .ok (.aload_n 0, 1) := by decide +kernel
theorem dX3_putSum_99 : decode cX3_putSum 99 = .ok (.getfield 25, 3) := by decide +kernel
theorem dX3_putSum_102 : decode cX3_putSum 102 = .ok (.invokevirtual 58, 3) := by decide +kernel
theorem dX3_putSum_105 : decode cX3_putSum 105 = .ok (.lconst 1, 1) := by decide +kernel
theorem dX3_putSum_106 : decode cX3_putSum 106 = .ok (.lload_n 3, 1) := by decide +kernel
theorem dX3_putSum_107 : decode cX3_putSum 107 = .ok (.aload_n 0, 1) := by decide +kernel
theorem dX3_putSum_108 : decode cX3_putSum 108 = .ok (.getfield 10, 3) := by decide +kernel
theorem dX3_putSum_111 : decode cX3_putSum 111 = .ok (.lload_n 3, 1) := by decide +kernel
theorem dX3_putSum_112 : decode cX3_putSum 112 = .ok (.invokevirtual 61, 3) := by decide +kernel
theorem dX3_putSum_115 : decode cX3_putSum 115 = .ok (.invokestatic 41, 3) := by decide +kernel
theorem dX3_putSum_118 : decode cX3_putSum 118 = .ok (.invokestatic 47, 3) := by decide +kernel
theorem dX3_putSum_121 : decode cX3_putSum 121 = .ok (.lstore 5, 2) := by decide +kernel
theorem dX3_putSum_123 : decode cX3_putSum 123 = .ok (.aload_n 0, 1) := by decide +kernel
theorem dX3_putSum_124 : decode cX3_putSum 124 = .ok (.getfield 10, 3) := by decide +kernel
theorem dX3_putSum_127 : decode cX3_putSum 127 = .ok (.lload 5, 2) := by decide +kernel
theorem dX3_putSum_129 : decode cX3_putSum 129 = .ok (.invokevirtual 65, 3) := by decide +kernel
theorem dX3_putSum_132 : decode cX3_putSum 132 = .ok (.aload_n 0, 1) := by decide +kernel
theorem dX3_putSum_133 : decode cX3_putSum 133 = .ok (.getfield 19, 3) := by decide +kernel
theorem dX3_putSum_136 : decode cX3_putSum 136 = .ok (.aload_n 1, 1) := by decide +kernel
theorem dX3_putSum_137 : decode cX3_putSum 137 = .ok (.getfield 36, 3) := by decide +kernel
theorem dX3_putSum_140 : decode cX3_putSum 140 = .ok (.lload_n 3, 1) := by decide +kernel
theorem dX3_putSum_141 : decode cX3_putSum 141 = .ok (.ldiv, 1) := by decide +kernel
theorem dX3_putSum_142 : decode cX3_putSum 142 = .ok (.invokevirtual 28, 3) := by decide +kernel
theorem dX3_putSum_145 : decode cX3_putSum 145 = .ok (.aload_n 0, 1) := by decide +kernel
theorem dX3_putSum_146 : decode cX3_putSum 146 = .ok (.getfield 22, 3) := by decide +kernel
theorem dX3_putSum_149 : decode cX3_putSum 149 = .ok (.aload_n 2, 1) := by decide +kernel
theorem dX3_putSum_150 : decode cX3_putSum 150 = .ok (.getfield 36, 3) := by decide +kernel
theorem dX3_putSum_153 : decode cX3_putSum 153 = .ok (.lload 5, 2) := by decide +kernel
theorem dX3_putSum_155 : decode cX3_putSum 155 = .ok (.ldiv, 1) := by decide +kernel
theorem dX3_putSum_156 : decode cX3_putSum 156 = .ok (.invokevirtual 28, 3) := by decide +kernel
theorem dX3_putSum_159 : decode cX3_putSum 159 = .ok (.aload_n 0, 1) := by decide +kernel
theorem dX3_putSum_160 : decode cX3_putSum 160 = .ok (.getfield 16, 3) := by decide +kernel
theorem dX3_putSum_163 : decode cX3_putSum 163 = .ok (.aload_n 0, 1) := by decide +kernel
theorem dX3_putSum_164 : decode cX3_putSum 164 = .ok (.getfield 19, 3) := by decide +kernel
theorem dX3_putSum_167 : decode cX3_putSum 167 = .ok (.aload_n 0, 1) := by decide +kernel
theorem dX3_putSum_168 : decode cX3_putSum 168 = .ok (.getfield 22, 3) := by decide +kernel
theorem dX3_putSum_171 : decode cX3_putSum 171 = .ok (.invokevirtual 54, 3) := by decide +kernel
theorem dX3_putSum_174 : decode cX3_putSum 174 = .ok (.return_, 1) := by decide +kernel
theorem dX3_divide_0 : decode cX3_divide 0 = .ok (.lconst 1, 1) := by decide +kernel
theorem dX3_divide_1 : decode cX3_divide 1 = .ok (.lload_n 1, 1) := by decide +kernel
theorem dX3_divide_2 : decode cX3_divide 2 = .ok (.aload_n 0, 1) := by decide +kernel
theorem dX3_divide_3 : decode cX3_divide 3 = .ok (.getfield 10, 3) := by decide +kernel
theorem dX3_divide_6 : decode cX3_divide 6 = .ok (.lload_n 1, 1) := by decide +kernel
theorem dX3_divide_7 : decode cX3_divide 7 = .ok (.invokevirtual 61, 3) := by decide +kernel
theorem dX3_divide_10 : decode cX3_divide 10 = .ok (.invokestatic 41, 3) := by decide +kernel
theorem dX3_divide_13 : decode cX3_divide 13 = .ok (.invokestatic 47, 3) := by decide +kernel
theorem dX3_divide_16 : decode cX3_divide 16 = .ok (.lstore_n 3, 1) := by decide +kernel
theorem dX3_divide_17 : decode cX3_divide 17 = .ok (.aload_n 0, 1) := by decide +kernel
theorem dX3_divide_18 : decode cX3_divide 18 = .ok (.getfield 10, 3) := by decide +kernel
theorem dX3_divide_21 : decode cX3_divide 21 = .ok (.lload_n 3, 1) := by decide +kernel
theorem dX3_divide_22 : decode cX3_divide 22 = .ok (.invokevirtual 65, 3) := by decide +kernel
theorem dX3_divide_25 : decode cX3_divide 25 = .ok (.aload_n 0, 1) := by decide +kernel
theorem dX3_divide_26 : decode cX3_divide 26 = .ok (.getfield 19, 3) := by decide +kernel
theorem dX3_divide_29 : decode cX3_divide 29 = .ok (.lload_n 1, 1) := by decide +kernel
theorem dX3_divide_30 : decode cX3_divide 30 = .ok (.lload_n 3, 1) := by decide +kernel
theorem dX3_divide_31 : decode cX3_divide 31 = .ok (.ldiv, 1) := by decide +kernel
theorem dX3_divide_32 : decode cX3_divide 32 = .ok (.invokevirtual 28, 3) := by decide +kernel
theorem dX3_divide_35 : decode cX3_divide 35 = .ok (.aload_n 0, 1) := by decide +kernel
theorem dX3_divide_36 : decode cX3_divide 36 = .ok (.getfield 22, 3) := by decide +kernel
theorem dX3_divide_39 : decode cX3_divide 39 = .ok (.aload_n 0, 1) := by decide +kernel
theorem dX3_divide_40 : decode cX3_divide 40 = .ok (.getfield 16, 3) := by decide +kernel
theorem dX3_divide_43 : decode cX3_divide 43 = .ok (.invokevirtual 32, 3) := by decide +kernel
theorem dX3_divide_46 : decode cX3_divide 46 = .ok (.aload_n 0, 1) := by decide +kernel
theorem dX3_divide_47 : decode cX3_divide 47 = .ok (.getfield 16, 3) := by decide +kernel
theorem dX3_divide_50 : decode cX3_divide 50 = .ok (.aload_n 0, 1) := by decide +kernel
theorem dX3_divide_51 : decode cX3_divide 51 = .ok (.getfield 19, 3) := by decide +kernel
theorem dX3_divide_54 : decode cX3_divide 54 = .ok (.aload_n 0, 1) := by decide +kernel
theorem dX3_divide_55 : decode cX3_divide 55 = .ok (.getfield 22, 3) := by decide +kernel
theorem dX3_divide_58 : decode cX3_divide 58 = .ok (.invokevirtual 54, 3) := by decide +kernel
theorem dX3_divide_61 : decode cX3_divide 61 = .ok (.return_, 1) := by decide +kernel
theorem dX3_isUnder_0 : decode cX3_isUnder 0 = .ok (.aload_n 0, 1) := by decide +kernel
theorem dX3_isUnder_1 : decode cX3_isUnder 1 = .ok (.getfield 19, 3) := by decide +kernel
theorem dX3_isUnder_4 : decode cX3_isUnder 4 = .ok (.aload_n 0, 1) := by decide +kernel
theorem dX3_isUnder_5 : decode cX3_isUnder 5 = .ok (.getfield 10, 3) := by decide +kernel
theorem dX3_isUnder_8 : decode cX3_isUnder 8 = .ok (.aload_n 1, 1) := by decide +kernel
theorem dX3_isUnder_9 : decode cX3_isUnder 9 = .ok (.getfield 16, 3) := by decide +kernel
theorem dX3_isUnder_12 : decode cX3_isUnder 12 = .ok (.invokevirtual 54, 3) := by decide +kernel
theorem dX3_isUnder_15 : decode cX3_isUnder 15 = .ok (.aload_n 0, 1) := by decide +kernel
theorem dX3_isUnder_16 : decode cX3_isUnder 16 = .ok (.getfield 22, 3) := by decide +kernel
theorem dX3_isUnder_19 : decode cX3_isUnder 19 = .ok (.aload_n 1, 1) := by decide +kernel
theorem dX3_isUnder_20 : decode cX3_isUnder 20 = .ok (.getfield 10, 3) := by decide +kernel
theorem dX3_isUnder_23 : decode cX3_isUnder 23 = .ok (.aload_n 0, 1) := by decide +kernel
theorem dX3_isUnder_24 : decode cX3_isUnder 24 = .ok (.getfield 16, 3) := by decide +kernel
theorem dX3_isUnder_27 : decode cX3_isUnder 27 = .ok (.invokevirtual 54, 3) := by decide +kernel
theorem dX3_isUnder_30 : decode cX3_isUnder 30 = .ok (.aload_n 0, 1) := by decide +kernel
theorem dX3_isUnder_31 : decode cX3_isUnder 31 = .ok (.getfield 19, 3) := by decide +kernel
theorem dX3_isUnder_34 : decode cX3_isUnder 34 = .ok (.aload_n 0, 1) := by decide +kernel
theorem dX3_isUnder_35 : decode cX3_isUnder 35 = .ok (.getfield 22, 3) := by decide +kernel
theorem dX3_isUnder_38 : decode cX3_isUnder 38 = .ok (.invokevirtual 68, 3) := by decide +kernel
theorem dX3_isUnder_41 : decode cX3_isUnder 41 = .ok (.ireturn, 1) := by decide +kernel
theorem dX4_init_0 : decode cX4_init 0 = .ok (.aload_n 0, 1) := by decide +kernel
theorem dX4_init_1 : decode cX4_init 1 = .ok (.invokespecial 3, 3) := by decide +kernel
theorem dX4_init_4 : decode cX4_init 4 = .ok (.aload_n 0, 1) := by decide +kernel
theorem dX4_init_5 : decode cX4_init 5 = .ok (.bipush 8, 2) := by decide +kernel
theorem dX4_init_7 : decode cX4_init 7 = .ok (.newarray .int, 2) := by decide +kernel
theorem dX4_init_9 : decode cX4_init 9 = .ok (.putfield 9, 3) := by decide +kernel
theorem dX4_init_12 : decode cX4_init 12 = .ok (.aload_n 0, 1) := by decide +kernel
theorem dX4_init_13 : decode cX4_init 13 = .ok (.bipush 8, 2) := by decide +kernel
theorem dX4_init_15 : decode cX4_init 15 = .ok (.newarray .int, 2) := by decide +kernel
theorem dX4_init_17 : decode cX4_init 17 = .ok (.putfield 15, 3) := by decide +kernel
theorem dX4_init_20 : decode cX4_init 20 = .ok (.aload_n 0, 1) := by decide +kernel
theorem dX4_init_21 : decode cX4_init 21 = .ok (.bipush 8, 2) := by decide +kernel
theorem dX4_init_23 : decode cX4_init 23 = .ok (.newarray .int, 2) := by decide +kernel
theorem dX4_init_25 : decode cX4_init 25 = .ok (.putfield 18, 3) := by decide +kernel
theorem dX4_init_28 : decode cX4_init 28 = .ok (.aload_n 0, 1) := by decide +kernel
theorem dX4_init_29 : decode cX4_init 29 = .ok (.bipush 6, 2) := by decide +kernel
theorem dX4_init_31 : decode cX4_init 31 = .ok (.newarray .int, 2) := by decide +kernel
theorem dX4_init_33 : decode cX4_init 33 = .ok (.putfield 21, 3) := by decide +kernel
theorem dX4_init_36 : decode cX4_init 36 = .ok (.aload_n 0, 1) := by decide +kernel
theorem dX4_init_37 : decode cX4_init 37 = .ok (.bipush 6, 2) := by decide +kernel
theorem dX4_init_39 : decode cX4_init 39 = .ok (.newarray .int, 2) := by decide +kernel
theorem dX4_init_41 : decode cX4_init 41 = .ok (.putfield 24, 3) := by decide +kernel
theorem dX4_init_44 : decode cX4_init 44 = .ok (.aload_n 0, 1) := by decide +kernel
theorem dX4_init_45 : decode cX4_init 45 = .ok (.bipush 24, 2) := by decide +kernel
theorem dX4_init_47 : decode cX4_init 47 = .ok (.newarray .int, 2) := by decide +kernel
theorem dX4_init_49 : decode cX4_init 49 = .ok (.putfield 27, 3) := by decide +kernel
theorem dX4_init_52 : decode cX4_init 52 = .ok (.aload_n 0, 1) := by decide +kernel
theorem dX4_init_53 : decode cX4_init 53 = .ok (.bipush 24, 2) := by decide +kernel
theorem dX4_init_55 : decode cX4_init 55 = .ok (.newarray .int, 2) := by decide +kernel
theorem dX4_init_57 : decode cX4_init 57 = .ok (.putfield 30, 3) := by decide +kernel
theorem dX4_init_60 : decode cX4_init 60 = .ok (.aload_n 0, 1) := by decide +kernel
theorem dX4_init_61 : decode cX4_init 61 = .ok (.bipush 6, 2) := by decide +kernel
theorem dX4_init_63 : decode cX4_init 63 = .ok (.newarray .int, 2) := by decide +kernel
theorem dX4_init_65 : decode cX4_init 65 = .ok (.putfield 33, 3) := by decide +kernel
theorem dX4_init_68 : decode cX4_init 68 = .ok (.aload_n 0, 1) := by decide +kernel
theorem dX4_init_69 : decode cX4_init 69 = .ok (.iconst 0, 1) := by decide +kernel
theorem dX4_init_70 : decode cX4_init 70 = .ok (.putfield 36, 3) := by decide +kernel
theorem dX4_init_73 : decode cX4_init 73 = .ok (.aload_n 0, 1) := by decide +kernel
theorem dX4_init_74 : decode cX4_init 74 = .ok (.iconst 0, 1) := by decide +kernel
theorem dX4_init_75 : decode cX4_init 75 = .ok (.putfield 40, 3) := by decide +kernel
theorem dX4_init_78 : decode cX4_init 78 = .ok (.aload_n 0, 1) := by decide +kernel
theorem dX4_init_79 : decode cX4_init 79 = .ok (.iconst 0, 1) := by decide +kernel
theorem dX4_init_80 : decode cX4_init 80 = .ok (.putfield 43, 3) := by decide +kernel
theorem dX4_init_83 : decode cX4_init 83 = .ok (.aload_n 0, 1) := by decide +kernel
theorem dX4_init_84 : decode cX4_init 84 = .ok (.bipush 6, 2) := by decide +kernel
theorem dX4_init_86 : decode cX4_init 86 = .ok (.newarray .int, 2) := by decide +kernel
theorem dX4_init_88 : decode cX4_init 88 = .ok (.putfield 47, 3) := by decide +kernel
theorem dX4_init_91 : decode cX4_init 91 = .ok (.aload_n 0, 1) := by decide +kernel
theorem dX4_init_92 : decode cX4_init 92 = .ok (.bipush 10, 2) := by decide +kernel
theorem dX4_init_94 : decode cX4_init 94 = .ok (.bipush 50, 2) := by decide +kernel
theorem dX4_init_96 : decode cX4_init 96 = .ok (.invokevirtual 50, 3) := by decide +kernel
theorem dX4_init_99 : decode cX4_init 99 = .ok (.return_, 1) := by decide +kernel
theorem dX4_begin_0 : decode cX4_begin 0 = .ok (.aload_n 0, 1) := by decide +kernel
theorem dX4_begin_1 : decode cX4_begin 1 = .ok (.iload_n 1, 1) := by decide +kernel
theorem dX4_begin_2 : decode cX4_begin 2 = .ok (.putfield 54, 3) := by decide +kernel
theorem dX4_begin_5 : decode cX4_begin 5 = .ok (.aload_n 0, 1) := by decide +kernel
theorem dX4_begin_6 : decode cX4_begin 6 = .ok (.iload_n 2, 1) := by decide +kernel
theorem dX4_begin_7 : decode cX4_begin 7 = .ok (.putfield 57, 3) := by decide +kernel
theorem dX4_begin_10 : decode cX4_begin 10 = .ok (.aload_n 0, 1) := by decide +kernel
theorem dX4_begin_11 : decode cX4_begin 11 = .ok (.iconst 0, 1) := by decide +kernel
theorem dX4_begin_12 : decode cX4_begin 12 = .ok (.putfield 60, 3) := by decide +kernel
theorem dX4_begin_15 : decode cX4_begin 15 = .ok (.aload_n 0, 1) := by decide +kernel
theorem dX4_begin_16 : decode cX4_begin 16 = .ok (.iconst 0, 1) := by decide +kernel
theorem dX4_begin_17 : decode cX4_begin 17 = .ok (.putfield 63, 3) := by decide +kernel
theorem dX4_begin_20 : decode cX4_begin 20 = .ok (.aload_n 0, 1) := by decide +kernel
theorem dX4_begin_21 : decode cX4_begin 21 = .ok (.invokevirtual 66, 3) := by decide +kernel
theorem dX4_begin_24 : decode cX4_begin 24 = .ok (.return_, 1) := by decide +kernel
theorem dX4_addBand_0 : decode cX4_addBand 0 = .ok (.aload_n 0, 1) := by decide +kernel
theorem dX4_addBand_1 : decode cX4_addBand 1 = .ok (.getfield 9, 3) := by decide +kernel
theorem dX4_addBand_4 : decode cX4_addBand 4 = .ok (.aload_n 0, 1) := by decide +kernel
theorem dX4_addBand_5 : decode cX4_addBand 5 = .ok (.getfield 60, 3) := by decide +kernel
theorem dX4_addBand_8 : decode cX4_addBand 8 = .ok (.iload_n 1, 1) := by decide +kernel
theorem dX4_addBand_9 : decode cX4_addBand 9 = .ok (.iastore, 1) := by decide +kernel
theorem dX4_addBand_10 : decode cX4_addBand 10 = .ok (.aload_n 0, 1) := by decide +kernel
theorem dX4_addBand_11 : decode cX4_addBand 11 = .ok (.getfield 15, 3) := by decide +kernel
theorem dX4_addBand_14 : decode cX4_addBand 14 = .ok (.aload_n 0, 1) := by decide +kernel
theorem dX4_addBand_15 : decode cX4_addBand 15 = .ok (.getfield 60, 3) := by decide +kernel
theorem dX4_addBand_18 : decode cX4_addBand 18 = .ok (.iload_n 2, 1) := by decide +kernel
theorem dX4_addBand_19 : decode cX4_addBand 19 = .ok (.iastore, 1) := by decide +kernel
theorem dX4_addBand_20 : decode cX4_addBand 20 = .ok (.aload_n 0, 1) := by decide +kernel
theorem dX4_addBand_21 : decode cX4_addBand 21 = .ok (.getfield 18, 3) := by decide +kernel
theorem dX4_addBand_24 : decode cX4_addBand 24 = .ok (.aload_n 0, 1) := by decide +kernel
theorem dX4_addBand_25 : decode cX4_addBand 25 = .ok (.getfield 60, 3) := by decide +kernel
theorem dX4_addBand_28 : decode cX4_addBand 28 = .ok (.iload_n 3, 1) := by decide +kernel
theorem dX4_addBand_29 : decode cX4_addBand 29 = .ok (.iastore, 1) := by decide +kernel
theorem dX4_addBand_30 : decode cX4_addBand 30 = .ok (.aload_n 0, 1) := by decide +kernel
theorem dX4_addBand_31 : decode cX4_addBand 31 = .ok (.dup, 1) := by decide +kernel
theorem dX4_addBand_32 : decode cX4_addBand 32 = .ok (.getfield 60, 3) := by decide +kernel
theorem dX4_addBand_35 : decode cX4_addBand 35 = .ok (.iconst 1, 1) := by decide +kernel
theorem dX4_addBand_36 : decode cX4_addBand 36 = .ok (.iadd, 1) := by decide +kernel
theorem dX4_addBand_37 : decode cX4_addBand 37 = .ok (.putfield 60, 3) := by decide +kernel
theorem dX4_addBand_40 : decode cX4_addBand 40 = .ok (.aload_n 0, 1) := by decide +kernel
theorem dX4_addBand_41 : decode cX4_addBand 41 = .ok (.invokevirtual 66, 3) := by decide +kernel
theorem dX4_addBand_44 : decode cX4_addBand 44 = .ok (.aload_n 0, 1) := by decide +kernel
theorem dX4_addBand_45 : decode cX4_addBand 45 = .ok (.getfield 60, 3) := by decide +kernel
theorem dX4_addBand_48 : decode cX4_addBand 48 = .ok (.iconst 1, 1) := by decide +kernel
theorem dX4_addBand_49 : decode cX4_addBand 49 = .ok (.isub, 1) := by decide +kernel
theorem dX4_addBand_50 : decode cX4_addBand 50 = .ok (.ireturn, 1) := by decide +kernel
theorem dX4_addRod_0 : decode cX4_addRod 0 = .ok (.aload_n 0, 1) := by decide +kernel
theorem dX4_addRod_1 : decode cX4_addRod 1 = .ok (.getfield 21, 3) := by decide +kernel
theorem dX4_addRod_4 : decode cX4_addRod 4 = .ok (.aload_n 0, 1) := by decide +kernel
theorem dX4_addRod_5 : decode cX4_addRod 5 = .ok (.getfield 63, 3) := by decide +kernel
theorem dX4_addRod_8 : decode cX4_addRod 8 = .ok (.iload_n 1, 1) := by decide +kernel
theorem dX4_addRod_9 : decode cX4_addRod 9 = .ok (.iastore, 1) := by decide +kernel
theorem dX4_addRod_10 : decode cX4_addRod 10 = .ok (.aload_n 0, 1) := by decide +kernel
theorem dX4_addRod_11 : decode cX4_addRod 11 = .ok (.getfield 24, 3) := by decide +kernel
theorem dX4_addRod_14 : decode cX4_addRod 14 = .ok (.aload_n 0, 1) := by decide +kernel
theorem dX4_addRod_15 : decode cX4_addRod 15 = .ok (.getfield 63, 3) := by decide +kernel
theorem dX4_addRod_18 : decode cX4_addRod 18 = .ok (.iload_n 2, 1) := by decide +kernel
theorem dX4_addRod_19 : decode cX4_addRod 19 = .ok (.iastore, 1) := by decide +kernel
theorem dX4_addRod_20 : decode cX4_addRod 20 = .ok (.aload_n 0, 1) := by decide +kernel
theorem dX4_addRod_21 : decode cX4_addRod 21 = .ok (.dup, 1) := by decide +kernel
theorem dX4_addRod_22 : decode cX4_addRod 22 = .ok (.getfield 63, 3) := by decide +kernel
theorem dX4_addRod_25 : decode cX4_addRod 25 = .ok (.iconst 1, 1) := by decide +kernel
theorem dX4_addRod_26 : decode cX4_addRod 26 = .ok (.iadd, 1) := by decide +kernel
theorem dX4_addRod_27 : decode cX4_addRod 27 = .ok (.putfield 63, 3) := by decide +kernel
theorem dX4_addRod_30 : decode cX4_addRod 30 = .ok (.aload_n 0, 1) := by decide +kernel
theorem dX4_addRod_31 : decode cX4_addRod 31 = .ok (.invokevirtual 66, 3) := by decide +kernel
theorem dX4_addRod_34 : decode cX4_addRod 34 = .ok (.aload_n 0, 1) := by decide +kernel
theorem dX4_addRod_35 : decode cX4_addRod 35 = .ok (.getfield 63, 3) := by decide +kernel
theorem dX4_addRod_38 : decode cX4_addRod 38 = .ok (.iconst 1, 1) := by decide +kernel
theorem dX4_addRod_39 : decode cX4_addRod 39 = .ok (.isub, 1) := by decide +kernel
theorem dX4_addRod_40 : decode cX4_addRod 40 = .ok (.ireturn, 1) := by decide +kernel
theorem dX4_area_0 : decode cX4_area 0 = .ok (.iconst 0, 1) := by decide +kernel
theorem dX4_area_1 : decode cX4_area 1 = .ok (.istore_n 1, 1) := by decide +kernel
theorem dX4_area_2 : decode cX4_area 2 = .ok (.iconst 0, 1) := by decide +kernel
theorem dX4_area_3 : decode cX4_area 3 = .ok (.istore_n 2, 1) := by decide +kernel
theorem dX4_area_4 : decode cX4_area 4 = .ok (.iload_n 2, 1) := by decide +kernel
theorem dX4_area_5 : decode cX4_area 5 = .ok (.aload_n 0, 1) := by decide +kernel
theorem dX4_area_6 : decode cX4_area 6 = .ok (.getfield 60, 3) := by decide +kernel
theorem dX4_area_9 : decode cX4_area 9 = .ok (.if_icmp .ge 32, 3) := by decide +kernel
theorem dX4_area_12 : decode cX4_area 12 = .ok (.iload_n 1, 1) := by decide +kernel
theorem dX4_area_13 : decode cX4_area 13 = .ok (.aload_n 0, 1) := by decide +kernel
theorem dX4_area_14 : decode cX4_area 14 = .ok (.getfield 9, 3) := by decide +kernel
theorem dX4_area_17 : decode cX4_area 17 = .ok (.iload_n 2, 1) := by decide +kernel
theorem dX4_area_18 : decode cX4_area 18 = .ok (.iaload, 1) := by decide +kernel
theorem dX4_area_19 : decode cX4_area 19 = .ok (.aload_n 0, 1) := by decide +kernel
theorem dX4_area_20 : decode cX4_area 20 = .ok (.getfield 18, 3) := by decide +kernel
theorem dX4_area_23 : decode cX4_area 23 = .ok (.iload_n 2, 1) := by decide +kernel
theorem dX4_area_24 : decode cX4_area 24 = .ok (.iaload, 1) := by decide +kernel
theorem dX4_area_25 : decode cX4_area 25 = .ok (.aload_n 0, 1) := by decide +kernel
theorem dX4_area_26 : decode cX4_area 26 = .ok (.getfield 15, 3) := by decide +kernel
theorem dX4_area_29 : decode cX4_area 29 = .ok (.iload_n 2, 1) := by decide +kernel
theorem dX4_area_30 : decode cX4_area 30 = .ok (.iaload, 1) := by decide +kernel
theorem dX4_area_31 : decode cX4_area 31 = .ok (.isub, 1) := by decide +kernel
theorem dX4_area_32 : decode cX4_area 32 = .ok (.imul, 1) := by decide +kernel
theorem dX4_area_33 : decode cX4_area 33 = .ok (.iadd, 1) := by decide +kernel
theorem dX4_area_34 : decode cX4_area 34 = .ok (.istore_n 1, 1) := by decide +kernel
theorem dX4_area_35 : decode cX4_area 35 = .ok (.iinc 2 1, 3) := by decide +kernel
theorem dX4_area_38 : decode cX4_area 38 = .ok (.goto (-34), 3) := by decide +kernel
theorem dX4_area_41 : decode cX4_area 41 = .ok (.iload_n 1, 1) := by decide +kernel
theorem dX4_area_42 : decode cX4_area 42 = .ok (.ireturn, 1) := by decide +kernel
theorem dX4_rodsTogether_0 : decode cX4_rodsTogether 0 = .ok (.iconst 0, 1) := by decide +kernel
theorem dX4_rodsTogether_1 : decode cX4_rodsTogether 1 = .ok (.istore_n 1, 1) := by decide +kernel
theorem dX4_rodsTogether_2 : decode cX4_rodsTogether 2 = .ok (.iconst 0, 1) := by decide +kernel
theorem dX4_rodsTogether_3 : decode cX4_rodsTogether 3 = .ok (.istore_n 2, 1) := by decide +kernel
theorem dX4_rodsTogether_4 : decode cX4_rodsTogether 4 = .ok (.iload_n 2, 1) := by decide +kernel
theorem dX4_rodsTogether_5 : decode cX4_rodsTogether 5 = .ok (.aload_n 0, 1) := by decide +kernel
theorem dX4_rodsTogether_6 : decode cX4_rodsTogether 6 = .ok (.getfield 63, 3) := by decide +kernel
theorem dX4_rodsTogether_9 : decode cX4_rodsTogether 9 = .ok (.if_icmp .ge 18, 3) := by decide +kernel
theorem dX4_rodsTogether_12 : decode cX4_rodsTogether 12 = .ok (.iload_n 1, 1) := by decide +kernel
theorem dX4_rodsTogether_13 : decode cX4_rodsTogether 13 = .ok (.aload_n 0, 1) := by decide +kernel
theorem dX4_rodsTogether_14 : decode cX4_rodsTogether 14 = .ok (.getfield 24, 3) := by decide +kernel
theorem dX4_rodsTogether_17 : decode cX4_rodsTogether 17 = .ok (.iload_n 2, 1) := by decide +kernel
theorem dX4_rodsTogether_18 : decode cX4_rodsTogether 18 = .ok (.iaload, 1) := by decide +kernel
theorem dX4_rodsTogether_19 : decode cX4_rodsTogether 19 = .ok (.iadd, 1) := by decide +kernel
theorem dX4_rodsTogether_20 : decode cX4_rodsTogether 20 = .ok (.istore_n 1, 1) := by decide +kernel
theorem dX4_rodsTogether_21 : decode cX4_rodsTogether 21 = .ok (.iinc 2 1, 3) := by decide +kernel
theorem dX4_rodsTogether_24 : decode cX4_rodsTogether 24 = .ok (.goto (-20), 3) := by decide +kernel
theorem dX4_rodsTogether_27 : decode cX4_rodsTogether 27 = .ok (.iload_n 1, 1) := by decide +kernel
theorem dX4_rodsTogether_28 : decode cX4_rodsTogether 28 = .ok (.ireturn, 1) := by decide +kernel
theorem dX4_widthAbove_0 : decode cX4_widthAbove 0 = .ok (.iconst 0, 1) := by decide +kernel
theorem dX4_widthAbove_1 : decode cX4_widthAbove 1 = .ok (.istore_n 2, 1) := by decide +kernel
theorem dX4_widthAbove_2 : decode cX4_widthAbove 2 = .ok (.iconst 0, 1) := by decide +kernel
theorem dX4_widthAbove_3 : decode cX4_widthAbove 3 = .ok (.istore_n 3, 1) := by decide +kernel
theorem dX4_widthAbove_4 : decode cX4_widthAbove 4 = .ok (.iload_n 3, 1) := by decide +kernel
theorem dX4_widthAbove_5 : decode cX4_widthAbove 5 = .ok (.aload_n 0, 1) := by decide +kernel
theorem dX4_widthAbove_6 : decode cX4_widthAbove 6 = .ok (.getfield 60, 3) := by decide +kernel
theorem dX4_widthAbove_9 : decode cX4_widthAbove 9 = .ok (.if_icmp .ge 38, 3) := by decide +kernel
theorem dX4_widthAbove_12 : decode cX4_widthAbove 12 = .ok (.aload_n 0, 1) := by decide +kernel
theorem dX4_widthAbove_13 : decode cX4_widthAbove 13 = .ok (.getfield 15, 3) := by decide +kernel
theorem dX4_widthAbove_16 : decode cX4_widthAbove 16 = .ok (.iload_n 3, 1) := by decide +kernel
theorem dX4_widthAbove_17 : decode cX4_widthAbove 17 = .ok (.iaload, 1) := by decide +kernel
theorem dX4_widthAbove_18 : decode cX4_widthAbove 18 = .ok (.iload_n 1, 1) := by decide +kernel
theorem dX4_widthAbove_19 : decode cX4_widthAbove 19 = .ok (.if_icmp .gt 22, 3) := by decide +kernel
theorem dX4_widthAbove_22 : decode cX4_widthAbove 22 = .ok (.iload_n 1, 1) := by decide +kernel
theorem dX4_widthAbove_23 : decode cX4_widthAbove 23 = .ok (.aload_n 0, 1) := by decide +kernel
theorem dX4_widthAbove_24 : decode cX4_widthAbove 24 = .ok (.getfield 18, 3) := by decide +kernel
theorem dX4_widthAbove_27 : decode cX4_widthAbove 27 = .ok (.iload_n 3, 1) := by decide +kernel
theorem dX4_widthAbove_28 : decode cX4_widthAbove 28 = .ok (.iaload, 1) := by decide +kernel
theorem dX4_widthAbove_29 : decode cX4_widthAbove 29 = .ok (.if_icmp .ge 12, 3) := by decide +kernel
theorem dX4_widthAbove_32 : decode cX4_widthAbove 32 = .ok (.iload_n 2, 1) := by decide +kernel
theorem dX4_widthAbove_33 : decode cX4_widthAbove 33 = .ok (.aload_n 0, 1) := by decide +kernel
theorem dX4_widthAbove_34 : decode cX4_widthAbove 34 = .ok (.getfield 9, 3) := by decide +kernel
theorem dX4_widthAbove_37 : decode cX4_widthAbove 37 = .ok (.iload_n 3, 1) := by decide +kernel
theorem dX4_widthAbove_38 : decode cX4_widthAbove 38 = .ok (.iaload, 1) := by decide +kernel
theorem dX4_widthAbove_39 : decode cX4_widthAbove 39 = .ok (.iadd, 1) := by decide +kernel
theorem dX4_widthAbove_40 : decode cX4_widthAbove 40 = .ok (.istore_n 2, 1) := by decide +kernel
theorem dX4_widthAbove_41 : decode cX4_widthAbove 41 = .ok (.iinc 3 1, 3) := by decide +kernel
theorem dX4_widthAbove_44 : decode cX4_widthAbove 44 = .ok (.goto (-40), 3) := by decide +kernel
theorem dX4_widthAbove_47 : decode cX4_widthAbove 47 = .ok (.iload_n 2, 1) := by decide +kernel
theorem dX4_widthAbove_48 : decode cX4_widthAbove 48 = .ok (.ireturn, 1) := by decide +kernel
theorem dX4_findEdges_0 : decode cX4_findEdges 0 = .ok (.aload_n 0, 1) := by decide +kernel
theorem dX4_findEdges_1 : decode cX4_findEdges 1 = .ok (.iconst 0, 1) := by decide +kernel
theorem dX4_findEdges_2 : decode cX4_findEdges 2 = .ok (.putfield 36, 3) := by decide +kernel
theorem dX4_findEdges_5 : decode cX4_findEdges 5 = .ok (.aload_n 0, 1) := by decide +kernel
theorem dX4_findEdges_6 : decode cX4_findEdges 6 = .ok (.aload_n 0, 1) := by decide +kernel
theorem dX4_findEdges_7 : decode cX4_findEdges 7 = .ok (.getfield 54, 3) := by decide +kernel
theorem dX4_findEdges_10 : decode cX4_findEdges 10 = .ok (.aload_n 0, 1) := by decide +kernel
theorem dX4_findEdges_11 : decode cX4_findEdges 11 = .ok (.invokevirtual 69, 3) := by decide +kernel
theorem dX4_findEdges_14 : decode cX4_findEdges 14 = .ok (.imul, 1) := by decide +kernel
theorem dX4_findEdges_15 : decode cX4_findEdges 15 = .ok (.putfield 73, 3) := by decide +kernel
theorem dX4_findEdges_18 : decode cX4_findEdges 18 = .ok (.aload_n 0, 1) := by decide +kernel
theorem dX4_findEdges_19 : decode cX4_findEdges 19 = .ok (.iconst 0, 1) := by decide +kernel
theorem dX4_findEdges_20 : decode cX4_findEdges 20 = .ok (.putfield 76, 3) := by decide +kernel
theorem dX4_findEdges_23 : decode cX4_findEdges 23 = .ok (.iconst 0, 1) := by decide +kernel
theorem dX4_findEdges_24 : decode cX4_findEdges 24 = .ok (.istore_n 1, 1) := by decide +kernel
theorem dX4_findEdges_25 : decode cX4_findEdges 25 = .ok (.iload_n 1, 1) := by decide +kernel
theorem dX4_findEdges_26 : decode cX4_findEdges 26 = .ok (.bipush 100, 2) := by decide +kernel
theorem dX4_findEdges_28 : decode cX4_findEdges 28 = .ok (.if_icmp .gt 74, 3) := by decide +kernel
theorem dX4_findEdges_31 : decode cX4_findEdges 31 = .ok (.aload_n 0, 1) := by decide +kernel
theorem dX4_findEdges_32 : decode cX4_findEdges 32 = .ok (.getfield 76, 3) := by decide +kernel
theorem dX4_findEdges_35 : decode cX4_findEdges 35 = .ok (.bipush 24, 2) := by decide +kernel
theorem dX4_findEdges_37 : decode cX4_findEdges 37 = .ok (.if_icmp .ge 65, 3) := by decide +kernel
theorem dX4_findEdges_40 : decode cX4_findEdges 40 = .ok (.aload_n 0, 1) := by decide +kernel
theorem dX4_findEdges_41 : decode cX4_findEdges 41 = .ok (.iload_n 1, 1) := by decide +kernel
theorem dX4_findEdges_42 : decode cX4_findEdges 42 = .ok (.invokevirtual 79, 3) := by decide +kernel
theorem dX4_findEdges_45 : decode cX4_findEdges 45 = .ok (.ifCond .eq 51, 3) := by decide +kernel
theorem dX4_findEdges_48 : decode cX4_findEdges 48 = .ok (.aload_n 0, 1) := by decide +kernel
theorem dX4_findEdges_49 : decode cX4_findEdges 49 = .ok (.getfield 27, 3) := by decide +kernel
theorem dX4_findEdges_52 : decode cX4_findEdges 52 = .ok (.aload_n 0, 1) := by decide +kernel
theorem dX4_findEdges_53 : decode cX4_findEdges 53 = .ok (.getfield 76, 3) := by decide +kernel
theorem dX4_findEdges_56 : decode cX4_findEdges 56 = .ok (.iload_n 1, 1) := by decide +kernel
theorem dX4_findEdges_57 : decode cX4_findEdges 57 = .ok (.iastore, 1) := by decide +kernel
theorem dX4_findEdges_58 : decode cX4_findEdges 58 = .ok (.aload_n 0, 1) := by decide +kernel
theorem dX4_findEdges_59 : decode cX4_findEdges 59 = .ok (.getfield 30, 3) := by decide +kernel
theorem dX4_findEdges_62 : decode cX4_findEdges 62 = .ok (.aload_n 0, 1) := by decide +kernel
theorem dX4_findEdges_63 : decode cX4_findEdges 63 = .ok (.getfield 76, 3) := by decide +kernel
theorem dX4_findEdges_66 : decode cX4_findEdges 66 = .ok (.aload_n 0, 1) := by decide +kernel
theorem dX4_findEdges_67 : decode cX4_findEdges 67 = .ok (.getfield 54, 3) := by decide +kernel
theorem dX4_findEdges_70 : decode cX4_findEdges 70 = .ok (.aload_n 0, 1) := by decide +kernel
theorem dX4_findEdges_71 : decode cX4_findEdges 71 = .ok (.iload_n 1, 1) := by decide +kernel
theorem dX4_findEdges_72 : decode cX4_findEdges 72 = .ok (.invokevirtual 83, 3) := by decide +kernel
theorem dX4_findEdges_75 : decode cX4_findEdges 75 = .ok (.imul, 1) := by decide +kernel
theorem dX4_findEdges_76 : decode cX4_findEdges 76 = .ok (.iastore, 1) := by decide +kernel
theorem dX4_findEdges_77 : decode cX4_findEdges 77 = .ok (.aload_n 0, 1) := by decide +kernel
theorem dX4_findEdges_78 : decode cX4_findEdges 78 = .ok (.iload_n 1, 1) := by decide +kernel
theorem dX4_findEdges_79 : decode cX4_findEdges 79 = .ok (.aload_n 0, 1) := by decide +kernel
theorem dX4_findEdges_80 : decode cX4_findEdges 80 = .ok (.getfield 76, 3) := by decide +kernel
theorem dX4_findEdges_83 : decode cX4_findEdges 83 = .ok (.invokevirtual 87, 3) := by decide +kernel
theorem dX4_findEdges_86 : decode cX4_findEdges 86 = .ok (.aload_n 0, 1) := by decide +kernel
theorem dX4_findEdges_87 : decode cX4_findEdges 87 = .ok (.dup, 1) := by decide +kernel
theorem dX4_findEdges_88 : decode cX4_findEdges 88 = .ok (.getfield 76, 3) := by decide +kernel
theorem dX4_findEdges_91 : decode cX4_findEdges 91 = .ok (.iconst 1, 1) := by decide +kernel
theorem dX4_findEdges_92 : decode cX4_findEdges 92 = .ok (.iadd, 1) := by decide +kernel
theorem dX4_findEdges_93 : decode cX4_findEdges 93 = .ok (.putfield 76, 3) := by decide +kernel
theorem dX4_findEdges_96 : decode cX4_findEdges 96 = .ok (.iinc 1 1, 3) := by decide +kernel
theorem dX4_findEdges_99 : decode cX4_findEdges 99 = .ok (.goto (-74), 3) := by decide +kernel
theorem dX4_findEdges_102 : decode cX4_findEdges 102 = .ok (.return_, 1) := by decide +kernel
theorem dX4_isEdge_0 : decode cX4_isEdge 0 = .ok (.iload_n 1, 1) := by decide +kernel
theorem dX4_isEdge_1 : decode cX4_isEdge 1 = .ok (.ifCond .eq 9, 3) := by decide +kernel
theorem dX4_isEdge_4 : decode cX4_isEdge 4 = .ok (.iload_n 1, 1) := by decide +kernel
theorem dX4_isEdge_5 : decode cX4_isEdge 5 = .ok (.bipush 100, 2) := by decide +kernel
theorem dX4_isEdge_7 : decode cX4_isEdge 7 = .ok (.if_icmp .ne 7, 3) := by decide +kernel
theorem dX4_isEdge_10 : decode cX4_isEdge 10 = .ok (.iconst 1, 1) := by decide +kernel
theorem dX4_isEdge_11 : decode cX4_isEdge 11 = .ok (.goto 4, 3) := by decide +kernel
theorem dX4_isEdge_14 : decode cX4_isEdge 14 = .ok (.iconst 0, 1) := by decide +kernel
theorem dX4_isEdge_15 : decode cX4_isEdge 15 = .ok (.istore_n 2, 1) := by decide +kernel
theorem dX4_isEdge_16 : decode cX4_isEdge 16 = .ok (.iconst 0, 1) := by decide +kernel
theorem dX4_isEdge_17 : decode cX4_isEdge 17 = .ok (.istore_n 3, 1) := by decide +kernel
theorem dX4_isEdge_18 : decode cX4_isEdge 18 = .ok (.iload_n 3, 1) := by decide +kernel
theorem dX4_isEdge_19 : decode cX4_isEdge 19 = .ok (.aload_n 0, 1) := by decide +kernel
theorem dX4_isEdge_20 : decode cX4_isEdge 20 = .ok (.getfield 60, 3) := by decide +kernel
theorem dX4_isEdge_23 : decode cX4_isEdge 23 = .ok (.if_icmp .ge 39, 3) := by decide +kernel
theorem dX4_isEdge_26 : decode cX4_isEdge 26 = .ok (.iload_n 2, 1) := by decide +kernel
theorem dX4_isEdge_27 : decode cX4_isEdge 27 = .ok (.ifCond .ne 35, 3) := by decide +kernel
theorem dX4_isEdge_30 : decode cX4_isEdge 30 = .ok (.aload_n 0, 1) := by decide +kernel
theorem dX4_isEdge_31 : decode cX4_isEdge 31 = .ok (.getfield 15, 3) := by decide +kernel
theorem dX4_isEdge_34 : decode cX4_isEdge 34 = .ok (.iload_n 3, 1) := by decide +kernel
theorem dX4_isEdge_35 : decode cX4_isEdge 35 = .ok (.iaload, 1) := by decide +kernel
theorem dX4_isEdge_36 : decode cX4_isEdge 36 = .ok (.iload_n 1, 1) := by decide +kernel
theorem dX4_isEdge_37 : decode cX4_isEdge 37 = .ok (.if_icmp .eq 13, 3) := by decide +kernel
theorem dX4_isEdge_40 : decode cX4_isEdge 40 = .ok (.aload_n 0, 1) := by decide +kernel
theorem dX4_isEdge_41 : decode cX4_isEdge 41 = .ok (.getfield 18, 3) := by decide +kernel
theorem dX4_isEdge_44 : decode cX4_isEdge 44 = .ok (.iload_n 3, 1) := by decide +kernel
theorem dX4_isEdge_45 : decode cX4_isEdge 45 = .ok (.iaload, 1) := by decide +kernel
theorem dX4_isEdge_46 : decode cX4_isEdge 46 = .ok (.iload_n 1, 1) := by decide +kernel
theorem dX4_isEdge_47 : decode cX4_isEdge 47 = .ok (.if_icmp .ne 7, 3) := by decide +kernel
theorem dX4_isEdge_50 : decode cX4_isEdge 50 = .ok (.iconst 1, 1) := by decide +kernel
theorem dX4_isEdge_51 : decode cX4_isEdge 51 = .ok (.goto 4, 3) := by decide +kernel
theorem dX4_isEdge_54 : decode cX4_isEdge 54 = .ok (.iconst 0, 1) := by decide +kernel
theorem dX4_isEdge_55 : decode cX4_isEdge 55 = .ok (.istore_n 2, 1) := by decide +kernel
theorem dX4_isEdge_56 : decode cX4_isEdge 56 = .ok (.iinc 3 1, 3) := by decide +kernel
theorem dX4_isEdge_59 : decode cX4_isEdge 59 = .ok (.goto (-41), 3) := by decide +kernel
theorem dX4_isEdge_62 : decode cX4_isEdge 62 = .ok (.iconst 0, 1) := by decide +kernel
theorem dX4_isEdge_63 : decode cX4_isEdge 63 = .ok (.istore_n 3, 1) := by decide +kernel
theorem dX4_isEdge_64 : decode cX4_isEdge 64 = .ok (.iload_n 3, 1) := by decide +kernel
theorem dX4_isEdge_65 : decode cX4_isEdge 65 = .ok (.aload_n 0, 1) := by decide +kernel
theorem dX4_isEdge_66 : decode cX4_isEdge 66 = .ok (.getfield 63, 3) := by decide +kernel
theorem dX4_isEdge_69 : decode cX4_isEdge 69 = .ok (.if_icmp .ge 29, 3) := by decide +kernel
theorem dX4_isEdge_72 : decode cX4_isEdge 72 = .ok (.iload_n 2, 1) := by decide +kernel
theorem dX4_isEdge_73 : decode cX4_isEdge 73 = .ok (.ifCond .ne 25, 3) := by decide +kernel
theorem dX4_isEdge_76 : decode cX4_isEdge 76 = .ok (.aload_n 0, 1) := by decide +kernel
theorem dX4_isEdge_77 : decode cX4_isEdge 77 = .ok (.getfield 21, 3) := by decide +kernel
theorem dX4_isEdge_80 : decode cX4_isEdge 80 = .ok (.iload_n 3, 1) := by decide +kernel
theorem dX4_isEdge_81 : decode cX4_isEdge 81 = .ok (.iaload, 1) := by decide +kernel
theorem dX4_isEdge_82 : decode cX4_isEdge 82 = .ok (.iload_n 1, 1) := by decide +kernel
theorem dX4_isEdge_83 : decode cX4_isEdge 83 = .ok (.if_icmp .ne 7, 3) := by decide +kernel
theorem dX4_isEdge_86 : decode cX4_isEdge 86 = .ok (.iconst 1, 1) := by decide +kernel
theorem dX4_isEdge_87 : decode cX4_isEdge 87 = .ok (.goto 4, 3) := by decide +kernel
theorem dX4_isEdge_90 : decode cX4_isEdge 90 = .ok (.iconst 0, 1) := by decide +kernel
theorem dX4_isEdge_91 : decode cX4_isEdge 91 = .ok (.istore_n 2, 1) := by decide +kernel
theorem dX4_isEdge_92 : decode cX4_isEdge 92 = .ok (.iinc 3 1, 3) := by decide +kernel
theorem dX4_isEdge_95 : decode cX4_isEdge 95 = .ok (.goto (-31), 3) := by decide +kernel
theorem dX4_isEdge_98 : decode cX4_isEdge 98 = .ok (.iload_n 2, 1) := by decide +kernel
theorem dX4_isEdge_99 : decode cX4_isEdge 99 = .ok (.ireturn, 1) := by decide +kernel
theorem dX4_placeRods_0 : decode cX4_placeRods 0 = .ok (.iconst 0, 1) := by decide +kernel
theorem dX4_placeRods_1 : decode cX4_placeRods 1 = .ok (.istore_n 3, 1) := by decide +kernel
theorem dX4_placeRods_2 : decode cX4_placeRods 2 = .ok (.iload_n 3, 1) := by decide +kernel
theorem dX4_placeRods_3 : decode cX4_placeRods 3 = .ok (.aload_n 0, 1) := by decide +kernel
theorem dX4_placeRods_4 : decode cX4_placeRods 4 = .ok (.getfield 63, 3) := by decide +kernel
theorem dX4_placeRods_7 : decode cX4_placeRods 7 = .ok (.if_icmp .ge 26, 3) := by decide +kernel
theorem dX4_placeRods_10 : decode cX4_placeRods 10 = .ok (.aload_n 0, 1) := by decide +kernel
theorem dX4_placeRods_11 : decode cX4_placeRods 11 = .ok (.getfield 21, 3) := by decide +kernel
theorem dX4_placeRods_14 : decode cX4_placeRods 14 = .ok (.iload_n 3, 1) := by decide +kernel
theorem dX4_placeRods_15 : decode cX4_placeRods 15 = .ok (.iaload, 1) := by decide +kernel
theorem dX4_placeRods_16 : decode cX4_placeRods 16 = .ok (.iload_n 1, 1) := by decide +kernel
theorem dX4_placeRods_17 : decode cX4_placeRods 17 = .ok (.if_icmp .ne 10, 3) := by decide +kernel
theorem dX4_placeRods_20 : decode cX4_placeRods 20 = .ok (.aload_n 0, 1) := by decide +kernel
theorem dX4_placeRods_21 : decode cX4_placeRods 21 = .ok (.getfield 33, 3) := by decide +kernel
theorem dX4_placeRods_24 : decode cX4_placeRods 24 = .ok (.iload_n 3, 1) := by decide +kernel
theorem dX4_placeRods_25 : decode cX4_placeRods 25 = .ok (.iload_n 2, 1) := by decide +kernel
theorem dX4_placeRods_26 : decode cX4_placeRods 26 = .ok (.iastore, 1) := by decide +kernel
theorem dX4_placeRods_27 : decode cX4_placeRods 27 = .ok (.iinc 3 1, 3) := by decide +kernel
theorem dX4_placeRods_30 : decode cX4_placeRods 30 = .ok (.goto (-28), 3) := by decide +kernel
theorem dX4_placeRods_33 : decode cX4_placeRods 33 = .ok (.return_, 1) := by decide +kernel
theorem dX5_init_0 : decode cX5_init 0 = .ok (.aload_n 0, 1) := by decide +kernel
theorem dX5_init_1 : decode cX5_init 1 = .ok (.invokespecial 1, 3) := by decide +kernel
theorem dX5_init_4 : decode cX5_init 4 = .ok (.aload_n 0, 1) := by decide +kernel
theorem dX5_init_5 : decode cX5_init 5 = .ok (.lconst 0, 1) := by decide +kernel
theorem dX5_init_6 : decode cX5_init 6 = .ok (.putfield 7, 3) := by decide +kernel
theorem dX5_init_9 : decode cX5_init 9 = .ok (.aload_n 0, 1) := by decide +kernel
theorem dX5_init_10 : decode cX5_init 10 = .ok (.lconst 1, 1) := by decide +kernel
theorem dX5_init_11 : decode cX5_init 11 = .ok (.putfield 13, 3) := by decide +kernel
theorem dX5_init_14 : decode cX5_init 14 = .ok (.return_, 1) := by decide +kernel
theorem dX5_put_0 : decode cX5_put 0 = .ok (.aload_n 0, 1) := by decide +kernel
theorem dX5_put_1 : decode cX5_put 1 = .ok (.lload_n 1, 1) := by decide +kernel
theorem dX5_put_2 : decode cX5_put 2 = .ok (.putfield 7, 3) := by decide +kernel
theorem dX5_put_5 : decode cX5_put 5 = .ok (.aload_n 0, 1) := by decide +kernel
theorem dX5_put_6 : decode cX5_put 6 = .ok (.lload_n 3, 1) := by decide +kernel
theorem dX5_put_7 : decode cX5_put 7 = .ok (.putfield 13, 3) := by decide +kernel
theorem dX5_put_10 : decode cX5_put 10 = .ok (.return_, 1) := by decide +kernel
theorem dX5_shorten_0 : decode cX5_shorten 0 = .ok (.aload_n 0, 1) := by decide +kernel
theorem dX5_shorten_1 : decode cX5_shorten 1 = .ok (.getfield 7, 3) := by decide +kernel
theorem dX5_shorten_4 : decode cX5_shorten 4 = .ok (.aload_n 0, 1) := by decide +kernel
theorem dX5_shorten_5 : decode cX5_shorten 5 = .ok (.getfield 13, 3) := by decide +kernel
theorem dX5_shorten_8 : decode cX5_shorten 8 = .ok (.invokestatic 16, 3) := by decide +kernel
theorem dX5_shorten_11 : decode cX5_shorten 11 = .ok (.lstore_n 1, 1) := by decide +kernel
theorem dX5_shorten_12 : decode cX5_shorten 12 = .ok (.lload_n 1, 1) := by decide +kernel
theorem dX5_shorten_13 : decode cX5_shorten 13 = .ok (.lconst 1, 1) := by decide +kernel
theorem dX5_shorten_14 : decode cX5_shorten 14 = .ok (.lcmp, 1) := by decide +kernel
theorem dX5_shorten_15 : decode cX5_shorten 15 = .ok (.ifCond .le 23, 3) := by decide +kernel
theorem dX5_shorten_18 : decode cX5_shorten 18 = .ok (.aload_n 0, 1) := by decide +kernel
theorem dX5_shorten_19 : decode cX5_shorten 19 = .ok (.dup, 1) := by decide +kernel
theorem dX5_shorten_20 : decode cX5_shorten 20 = .ok (.getfield 7, 3) := by decide +kernel
theorem dX5_shorten_23 : decode cX5_shorten 23 = .ok (.lload_n 1, 1) := by decide +kernel
theorem dX5_shorten_24 : decode cX5_shorten 24 = .ok (.ldiv, 1) := by decide +kernel
theorem dX5_shorten_25 : decode cX5_shorten 25 = .ok (.putfield 7, 3) := by decide +kernel
theorem dX5_shorten_28 : decode cX5_shorten 28 = .ok (.aload_n 0, 1) := by decide +kernel
theorem dX5_shorten_29 : decode cX5_shorten 29 = .ok (.dup, 1) := by decide +kernel
theorem dX5_shorten_30 : decode cX5_shorten 30 = .ok (.getfield 13, 3) := by decide +kernel
theorem dX5_shorten_33 : decode cX5_shorten 33 = .ok (.lload_n 1, 1) := by decide +kernel
theorem dX5_shorten_34 : decode cX5_shorten 34 = .ok (.ldiv, 1) := by decide +kernel
theorem dX5_shorten_35 : decode cX5_shorten 35 = .ok (.putfield 13, 3) := by decide +kernel
theorem dX5_shorten_38 : decode cX5_shorten 38 = .ok (.return_, 1) := by decide +kernel
theorem dX5_scale_0 : decode cX5_scale 0 = .ok (.aload_n 0, 1) := by decide +kernel
theorem dX5_scale_1 : decode cX5_scale 1 = .ok (.dup, 1) := by decide +kernel
theorem dX5_scale_2 : decode cX5_scale 2 = .ok (.getfield 7, 3) := by decide +kernel
theorem dX5_scale_5 : decode cX5_scale 5 = .ok (.lload_n 1, 1) := by decide +kernel
theorem dX5_scale_6 : decode cX5_scale 6 = .ok (.lmul, 1) := by decide +kernel
theorem dX5_scale_7 : decode cX5_scale 7 = .ok (.putfield 7, 3) := by decide +kernel
theorem dX5_scale_10 : decode cX5_scale 10 = .ok (.aload_n 0, 1) := by decide +kernel
theorem dX5_scale_11 : decode cX5_scale 11 = .ok (.invokevirtual 22, 3) := by decide +kernel
theorem dX5_scale_14 : decode cX5_scale 14 = .ok (.return_, 1) := by decide +kernel
theorem dX5_plus_0 : decode cX5_plus 0 = .ok (.aload_n 0, 1) := by decide +kernel
theorem dX5_plus_1 : decode cX5_plus 1 = .ok (.aload_n 0, 1) := by decide +kernel
theorem dX5_plus_2 : decode cX5_plus 2 = .ok (.getfield 7, 3) := by decide +kernel
theorem dX5_plus_5 : decode cX5_plus 5 = .ok (.aload_n 1, 1) := by decide +kernel
theorem dX5_plus_6 : decode cX5_plus 6 = .ok (.getfield 13, 3) := by decide +kernel
theorem dX5_plus_9 : decode cX5_plus 9 = .ok (.lmul, 1) := by decide +kernel
theorem dX5_plus_10 : decode cX5_plus 10 = .ok (.aload_n 1, 1) := by decide +kernel
theorem dX5_plus_11 : decode cX5_plus 11 = .ok (.getfield 7, 3) := by decide +kernel
theorem dX5_plus_14 : decode cX5_plus 14 = .ok (.aload_n 0, 1) := by decide +kernel
theorem dX5_plus_15 : decode cX5_plus 15 = .ok (.getfield 13, 3) := by decide +kernel
theorem dX5_plus_18 : decode cX5_plus 18 = .ok (.lmul, 1) := by decide +kernel
theorem dX5_plus_19 : decode cX5_plus 19 = .ok (.ladd, 1) := by decide +kernel
theorem dX5_plus_20 : decode cX5_plus 20 = .ok (.putfield 7, 3) := by decide +kernel
theorem dX5_plus_23 : decode cX5_plus 23 = .ok (.aload_n 0, 1) := by decide +kernel
theorem dX5_plus_24 : decode cX5_plus 24 = .ok (.dup, 1) := by decide +kernel
theorem dX5_plus_25 : decode cX5_plus 25 = .ok (.getfield 13, 3) := by decide +kernel
theorem dX5_plus_28 : decode cX5_plus 28 = .ok (.aload_n 1, 1) := by decide +kernel
theorem dX5_plus_29 : decode cX5_plus 29 = .ok (.getfield 13, 3) := by decide +kernel
theorem dX5_plus_32 : decode cX5_plus 32 = .ok (.lmul, 1) := by decide +kernel
theorem dX5_plus_33 : decode cX5_plus 33 = .ok (.putfield 13, 3) := by decide +kernel
theorem dX5_plus_36 : decode cX5_plus 36 = .ok (.aload_n 0, 1) := by decide +kernel
theorem dX5_plus_37 : decode cX5_plus 37 = .ok (.invokevirtual 22, 3) := by decide +kernel
theorem dX5_plus_40 : decode cX5_plus 40 = .ok (.return_, 1) := by decide +kernel
theorem dX5_isUnder_0 : decode cX5_isUnder 0 = .ok (.aload_n 0, 1) := by decide +kernel
theorem dX5_isUnder_1 : decode cX5_isUnder 1 = .ok (.getfield 7, 3) := by decide +kernel
theorem dX5_isUnder_4 : decode cX5_isUnder 4 = .ok (.aload_n 1, 1) := by decide +kernel
theorem dX5_isUnder_5 : decode cX5_isUnder 5 = .ok (.getfield 13, 3) := by decide +kernel
theorem dX5_isUnder_8 : decode cX5_isUnder 8 = .ok (.lmul, 1) := by decide +kernel
theorem dX5_isUnder_9 : decode cX5_isUnder 9 = .ok (.aload_n 1, 1) := by decide +kernel
theorem dX5_isUnder_10 : decode cX5_isUnder 10 = .ok (.getfield 7, 3) := by decide +kernel
theorem dX5_isUnder_13 : decode cX5_isUnder 13 = .ok (.aload_n 0, 1) := by decide +kernel
theorem dX5_isUnder_14 : decode cX5_isUnder 14 = .ok (.getfield 13, 3) := by decide +kernel
theorem dX5_isUnder_17 : decode cX5_isUnder 17 = .ok (.lmul, 1) := by decide +kernel
theorem dX5_isUnder_18 : decode cX5_isUnder 18 = .ok (.lcmp, 1) := by decide +kernel
theorem dX5_isUnder_19 : decode cX5_isUnder 19 = .ok (.ifCond .ge 7, 3) := by decide +kernel
theorem dX5_isUnder_22 : decode cX5_isUnder 22 = .ok (.iconst 1, 1) := by decide +kernel
theorem dX5_isUnder_23 : decode cX5_isUnder 23 = .ok (.goto 4, 3) := by decide +kernel
theorem dX5_isUnder_26 : decode cX5_isUnder 26 = .ok (.iconst 0, 1) := by decide +kernel
theorem dX5_isUnder_27 : decode cX5_isUnder 27 = .ok (.ireturn, 1) := by decide +kernel
theorem dX6_init_0 : decode cX6_init 0 = .ok (.aload_n 0, 1) := by decide +kernel
theorem dX6_init_1 : decode cX6_init 1 = .ok (.invokespecial 3, 3) := by decide +kernel
theorem dX6_init_4 : decode cX6_init 4 = .ok (.aload_n 0, 1) := by decide +kernel
theorem dX6_init_5 : decode cX6_init 5 = .ok (.iconst 0, 1) := by decide +kernel
theorem dX6_init_6 : decode cX6_init 6 = .ok (.putfield 9, 3) := by decide +kernel
theorem dX6_init_9 : decode cX6_init 9 = .ok (.aload_n 0, 1) := by decide +kernel
theorem dX6_init_10 : decode cX6_init 10 = .ok (.iconst 4, 1) := by decide +kernel
theorem dX6_init_11 : decode cX6_init 11 = .ok (.newarray .int, 2) := by decide +kernel
theorem dX6_init_13 : decode cX6_init 13 = .ok (.putfield 15, 3) := by decide +kernel
theorem dX6_init_16 : decode cX6_init 16 = .ok (.aload_n 0, 1) := by decide +kernel
theorem dX6_init_17 : decode cX6_init 17 = .ok (.iconst 4, 1) := by decide +kernel
theorem dX6_init_18 : decode cX6_init 18 = .ok (.newarray .int, 2) := by decide +kernel
theorem dX6_init_20 : decode cX6_init 20 = .ok (.putfield 19, 3) := by decide +kernel
theorem dX6_init_23 : decode cX6_init 23 = .ok (.return_, 1) := by decide +kernel
theorem dX6_add_0 : decode cX6_add 0 = .ok (.aload_n 0, 1) := by decide +kernel
theorem dX6_add_1 : decode cX6_add 1 = .ok (.getfield 15, 3) := by decide +kernel
theorem dX6_add_4 : decode cX6_add 4 = .ok (.aload_n 0, 1) := by decide +kernel
theorem dX6_add_5 : decode cX6_add 5 = .ok (.getfield 9, 3) := by decide +kernel
theorem dX6_add_8 : decode cX6_add 8 = .ok (.iload_n 1, 1) := by decide +kernel
theorem dX6_add_9 : decode cX6_add 9 = .ok (.iastore, 1) := by decide +kernel
theorem dX6_add_10 : decode cX6_add 10 = .ok (.aload_n 0, 1) := by decide +kernel
theorem dX6_add_11 : decode cX6_add 11 = .ok (.getfield 19, 3) := by decide +kernel
theorem dX6_add_14 : decode cX6_add 14 = .ok (.aload_n 0, 1) := by decide +kernel
theorem dX6_add_15 : decode cX6_add 15 = .ok (.getfield 9, 3) := by decide +kernel
theorem dX6_add_18 : decode cX6_add 18 = .ok (.iload_n 2, 1) := by decide +kernel
theorem dX6_add_19 : decode cX6_add 19 = .ok (.iastore, 1) := by decide +kernel
theorem dX6_add_20 : decode cX6_add 20 = .ok (.aload_n 0, 1) := by decide +kernel
theorem dX6_add_21 : decode cX6_add 21 = .ok (.dup, 1) := by decide +kernel
theorem dX6_add_22 : decode cX6_add 22 = .ok (.getfield 9, 3) := by decide +kernel
theorem dX6_add_25 : decode cX6_add 25 = .ok (.iconst 1, 1) := by decide +kernel
theorem dX6_add_26 : decode cX6_add 26 = .ok (.iadd, 1) := by decide +kernel
theorem dX6_add_27 : decode cX6_add 27 = .ok (.putfield 9, 3) := by decide +kernel
theorem dX6_add_30 : decode cX6_add 30 = .ok (.aload_n 0, 1) := by decide +kernel
theorem dX6_add_31 : decode cX6_add 31 = .ok (.getfield 9, 3) := by decide +kernel
theorem dX6_add_34 : decode cX6_add 34 = .ok (.iconst 1, 1) := by decide +kernel
theorem dX6_add_35 : decode cX6_add 35 = .ok (.isub, 1) := by decide +kernel
theorem dX6_add_36 : decode cX6_add 36 = .ok (.ireturn, 1) := by decide +kernel
theorem dX6_strengthOf_0 : decode cX6_strengthOf 0 = .ok (.iload_n 1, 1) := by decide +kernel
theorem dX6_strengthOf_1 : decode cX6_strengthOf 1 = .ok (.ifCond .lt 20, 3) := by decide +kernel
theorem dX6_strengthOf_4 : decode cX6_strengthOf 4 = .ok (.iload_n 1, 1) := by decide +kernel
theorem dX6_strengthOf_5 : decode cX6_strengthOf 5 = .ok (.aload_n 0, 1) := by decide +kernel
theorem dX6_strengthOf_6 : decode cX6_strengthOf 6 = .ok (.getfield 9, 3) := by decide +kernel
theorem dX6_strengthOf_9 : decode cX6_strengthOf 9 = .ok (.if_icmp .ge 12, 3) := by decide +kernel
theorem dX6_strengthOf_12 : decode cX6_strengthOf 12 = .ok (.aload_n 0, 1) := by decide +kernel
theorem dX6_strengthOf_13 : decode cX6_strengthOf 13 = .ok (.getfield 15, 3) := by decide +kernel
theorem dX6_strengthOf_16 : decode cX6_strengthOf 16 = .ok (.iload_n 1, 1) := by decide +kernel
theorem dX6_strengthOf_17 : decode cX6_strengthOf 17 = .ok (.iaload, 1) := by decide +kernel
theorem dX6_strengthOf_18 : decode cX6_strengthOf 18 = .ok (.goto 4, 3) := by decide +kernel
theorem dX6_strengthOf_21 : decode cX6_strengthOf 21 = .ok (.iconst 0, 1) := by decide +kernel
theorem dX6_strengthOf_22 : decode cX6_strengthOf 22 = .ok (.ireturn, 1) := by decide +kernel
theorem dX6_priceOf_0 : decode cX6_priceOf 0 = .ok (.iload_n 1, 1) := by decide +kernel
theorem dX6_priceOf_1 : decode cX6_priceOf 1 = .ok (.ifCond .lt 20, 3) := by decide +kernel
theorem dX6_priceOf_4 : decode cX6_priceOf 4 = .ok (.iload_n 1, 1) := by decide +kernel
theorem dX6_priceOf_5 : decode cX6_priceOf 5 = .ok (.aload_n 0, 1) := by decide +kernel
theorem dX6_priceOf_6 : decode cX6_priceOf 6 = .ok (.getfield 9, 3) := by decide +kernel
theorem dX6_priceOf_9 : decode cX6_priceOf 9 = .ok (.if_icmp .ge 12, 3) := by decide +kernel
theorem dX6_priceOf_12 : decode cX6_priceOf 12 = .ok (.aload_n 0, 1) := by decide +kernel
theorem dX6_priceOf_13 : decode cX6_priceOf 13 = .ok (.getfield 19, 3) := by decide +kernel
theorem dX6_priceOf_16 : decode cX6_priceOf 16 = .ok (.iload_n 1, 1) := by decide +kernel
theorem dX6_priceOf_17 : decode cX6_priceOf 17 = .ok (.iaload, 1) := by decide +kernel
theorem dX6_priceOf_18 : decode cX6_priceOf 18 = .ok (.goto 4, 3) := by decide +kernel
theorem dX6_priceOf_21 : decode cX6_priceOf 21 = .ok (.iconst 0, 1) := by decide +kernel
theorem dX6_priceOf_22 : decode cX6_priceOf 22 = .ok (.ireturn, 1) := by decide +kernel
theorem dX6_strongest_0 : decode cX6_strongest 0 = .ok (.iconst 0, 1) := by decide +kernel
theorem dX6_strongest_1 : decode cX6_strongest 1 = .ok (.istore_n 1, 1) := by decide +kernel
theorem dX6_strongest_2 : decode cX6_strongest 2 = .ok (.iconst 0, 1) := by decide +kernel
theorem dX6_strongest_3 : decode cX6_strongest 3 = .ok (.istore_n 2, 1) := by decide +kernel
theorem dX6_strongest_4 : decode cX6_strongest 4 = .ok (.iload_n 2, 1) := by decide +kernel
theorem dX6_strongest_5 : decode cX6_strongest 5 = .ok (.aload_n 0, 1) := by decide +kernel
theorem dX6_strongest_6 : decode cX6_strongest 6 = .ok (.getfield 9, 3) := by decide +kernel
theorem dX6_strongest_9 : decode cX6_strongest 9 = .ok (.if_icmp .ge 20, 3) := by decide +kernel
theorem dX6_strongest_12 : decode cX6_strongest 12 = .ok (.iload_n 1, 1) := by decide +kernel
theorem dX6_strongest_13 : decode cX6_strongest 13 = .ok (.aload_n 0, 1) := by decide +kernel
theorem dX6_strongest_14 : decode cX6_strongest 14 = .ok (.getfield 15, 3) := by decide +kernel
theorem dX6_strongest_17 : decode cX6_strongest 17 = .ok (.iload_n 2, 1) := by decide +kernel
theorem dX6_strongest_18 : decode cX6_strongest 18 = .ok (.iaload, 1) := by decide +kernel
theorem dX6_strongest_19 : decode cX6_strongest 19 = .ok (.invokestatic 22, 3) := by decide +kernel
theorem dX6_strongest_22 : decode cX6_strongest 22 = .ok (.istore_n 1, 1) := by decide +kernel
theorem dX6_strongest_23 : decode cX6_strongest 23 = .ok (.iinc 2 1, 3) := by decide +kernel
theorem dX6_strongest_26 : decode cX6_strongest 26 = .ok (.goto (-22), 3) := by decide +kernel
theorem dX6_strongest_29 : decode cX6_strongest 29 = .ok (.iload_n 1, 1) := by decide +kernel
theorem dX6_strongest_30 : decode cX6_strongest 30 = .ok (.ireturn, 1) := by decide +kernel
theorem dX6_isIdle_0 : decode cX6_isIdle 0 = .ok (.aload_n 0, 1) := by decide +kernel
theorem dX6_isIdle_1 : decode cX6_isIdle 1 = .ok (.iload_n 1, 1) := by decide +kernel
theorem dX6_isIdle_2 : decode cX6_isIdle 2 = .ok (.invokevirtual 28, 3) := by decide +kernel
theorem dX6_isIdle_5 : decode cX6_isIdle 5 = .ok (.istore_n 2, 1) := by decide +kernel
theorem dX6_isIdle_6 : decode cX6_isIdle 6 = .ok (.aload_n 0, 1) := by decide +kernel
theorem dX6_isIdle_7 : decode cX6_isIdle 7 = .ok (.iload_n 1, 1) := by decide +kernel
theorem dX6_isIdle_8 : decode cX6_isIdle 8 = .ok (.invokevirtual 32, 3) := by decide +kernel
theorem dX6_isIdle_11 : decode cX6_isIdle 11 = .ok (.istore_n 3, 1) := by decide +kernel
theorem dX6_isIdle_12 : decode cX6_isIdle 12 = .ok (.iconst 0, 1) := by decide +kernel
theorem dX6_isIdle_13 : decode cX6_isIdle 13 = .ok (.istore 4, 2) := by decide +kernel
theorem dX6_isIdle_15 : decode cX6_isIdle 15 = .ok (.iconst 0, 1) := by decide +kernel
theorem dX6_isIdle_16 : decode cX6_isIdle 16 = .ok (.istore 5, 2) := by decide +kernel
theorem dX6_isIdle_18 : decode cX6_isIdle 18 = .ok (.iload 5, 2) := by decide +kernel
theorem dX6_isIdle_20 : decode cX6_isIdle 20 = .ok (.aload_n 0, 1) := by decide +kernel
theorem dX6_isIdle_21 : decode cX6_isIdle 21 = .ok (.getfield 9, 3) := by decide +kernel
theorem dX6_isIdle_24 : decode cX6_isIdle 24 = .ok (.if_icmp .ge 72, 3) := by decide +kernel
theorem dX6_isIdle_27 : decode cX6_isIdle 27 = .ok (.iload 4, 2) := by decide +kernel
theorem dX6_isIdle_29 : decode cX6_isIdle 29 = .ok (.ifCond .ne 67, 3) := by decide +kernel
theorem dX6_isIdle_32 : decode cX6_isIdle 32 = .ok (.aload_n 0, 1) := by decide +kernel
theorem dX6_isIdle_33 : decode cX6_isIdle 33 = .ok (.getfield 19, 3) := by decide +kernel
theorem dX6_isIdle_36 : decode cX6_isIdle 36 = .ok (.iload 5, 2) := by decide +kernel
theorem dX6_isIdle_38 : decode cX6_isIdle 38 = .ok (.iaload, 1) := by decide +kernel
theorem dX6_isIdle_39 : decode cX6_isIdle 39 = .ok (.iload_n 2, 1) := by decide +kernel
theorem dX6_isIdle_40 : decode cX6_isIdle 40 = .ok (.if_icmp .lt 20, 3) := by decide +kernel
theorem dX6_isIdle_43 : decode cX6_isIdle 43 = .ok (.aload_n 0, 1) := by decide +kernel
theorem dX6_isIdle_44 : decode cX6_isIdle 44 = .ok (.getfield 19, 3) := by decide +kernel
theorem dX6_isIdle_47 : decode cX6_isIdle 47 = .ok (.iload 5, 2) := by decide +kernel
theorem dX6_isIdle_49 : decode cX6_isIdle 49 = .ok (.iaload, 1) := by decide +kernel
theorem dX6_isIdle_50 : decode cX6_isIdle 50 = .ok (.iload_n 2, 1) := by decide +kernel
theorem dX6_isIdle_51 : decode cX6_isIdle 51 = .ok (.if_icmp .ne 13, 3) := by decide +kernel
theorem dX6_isIdle_54 : decode cX6_isIdle 54 = .ok (.iload 5, 2) := by decide +kernel
theorem dX6_isIdle_56 : decode cX6_isIdle 56 = .ok (.iload_n 1, 1) := by decide +kernel
theorem dX6_isIdle_57 : decode cX6_isIdle 57 = .ok (.if_icmp .ge 7, 3) := by decide +kernel
theorem dX6_isIdle_60 : decode cX6_isIdle 60 = .ok (.iconst 1, 1) := by decide +kernel
theorem dX6_isIdle_61 : decode cX6_isIdle 61 = .ok (.goto 4, 3) := by decide +kernel
theorem dX6_isIdle_64 : decode cX6_isIdle 64 = .ok (.iconst 0, 1) := by decide +kernel
theorem dX6_isIdle_65 : decode cX6_isIdle 65 = .ok (.istore 6, 2) := by decide +kernel
theorem dX6_isIdle_67 : decode cX6_isIdle 67 = .ok (.iload 6, 2) := by decide +kernel
theorem dX6_isIdle_69 : decode cX6_isIdle 69 = .ok (.ifCond .eq 18, 3) := by decide +kernel
theorem dX6_isIdle_72 : decode cX6_isIdle 72 = .ok (.aload_n 0, 1) := by decide +kernel
theorem dX6_isIdle_73 : decode cX6_isIdle 73 = .ok (.getfield 15, 3) := by decide +kernel
theorem dX6_isIdle_76 : decode cX6_isIdle 76 = .ok (.iload 5, 2) := by decide +kernel
theorem dX6_isIdle_78 : decode cX6_isIdle 78 = .ok (.iaload, 1) := by decide +kernel
theorem dX6_isIdle_79 : decode cX6_isIdle 79 = .ok (.iload_n 3, 1) := by decide +kernel
theorem dX6_isIdle_80 : decode cX6_isIdle 80 = .ok (.if_icmp .lt 7, 3) := by decide +kernel
theorem dX6_isIdle_83 : decode cX6_isIdle 83 = .ok (.iconst 1, 1) := by decide +kernel
theorem dX6_isIdle_84 : decode cX6_isIdle 84 = .ok (.goto 4, 3) := by decide +kernel
theorem dX6_isIdle_87 : decode cX6_isIdle 87 = .ok (.iconst 0, 1) := by decide +kernel
theorem dX6_isIdle_88 : decode cX6_isIdle 88 = .ok (.istore 4, 2) := by decide +kernel
theorem dX6_isIdle_90 : decode cX6_isIdle 90 = .ok (.iinc 5 1, 3) := by decide +kernel
theorem dX6_isIdle_93 : decode cX6_isIdle 93 = .ok (.goto (-75), 3) := by decide +kernel
theorem dX6_isIdle_96 : decode cX6_isIdle 96 = .ok (.iload 4, 2) := by decide +kernel
theorem dX6_isIdle_98 : decode cX6_isIdle 98 = .ok (.ireturn, 1) := by decide +kernel
theorem dX7_init_0 : decode cX7_init 0 = .ok (.aload_n 0, 1) := by decide +kernel
theorem dX7_init_1 : decode cX7_init 1 = .ok (.invokespecial 3, 3) := by decide +kernel
theorem dX7_init_4 : decode cX7_init 4 = .ok (.aload_n 0, 1) := by decide +kernel
theorem dX7_init_5 : decode cX7_init 5 = .ok (.iconst 2, 1) := by decide +kernel
theorem dX7_init_6 : decode cX7_init 6 = .ok (.putfield 9, 3) := by decide +kernel
theorem dX7_init_9 : decode cX7_init 9 = .ok (.aload_n 0, 1) := by decide +kernel
theorem dX7_init_10 : decode cX7_init 10 = .ok (.iconst 0, 1) := by decide +kernel
theorem dX7_init_11 : decode cX7_init 11 = .ok (.putfield 15, 3) := by decide +kernel
theorem dX7_init_14 : decode cX7_init 14 = .ok (.aload_n 0, 1) := by decide +kernel
theorem dX7_init_15 : decode cX7_init 15 = .ok (.iconst 0, 1) := by decide +kernel
theorem dX7_init_16 : decode cX7_init 16 = .ok (.putfield 18, 3) := by decide +kernel
theorem dX7_init_19 : decode cX7_init 19 = .ok (.aload_n 0, 1) := by decide +kernel
theorem dX7_init_20 : decode cX7_init 20 = .ok (.iconst 2, 1) := by decide +kernel
theorem dX7_init_21 : decode cX7_init 21 = .ok (.newarray .int, 2) := by decide +kernel
theorem dX7_init_23 : decode cX7_init 23 = .ok (.putfield 21, 3) := by decide +kernel
theorem dX7_init_26 : decode cX7_init 26 = .ok (.aload_n 0, 1) := by decide +kernel
theorem dX7_init_27 : decode cX7_init 27 = .ok (.iconst 2, 1) := by decide +kernel
theorem dX7_init_28 : decode cX7_init 28 = .ok (.newarray .int, 2) := by decide +kernel
theorem dX7_init_30 : decode cX7_init 30 = .ok (.putfield 25, 3) := by decide +kernel
theorem dX7_init_33 : decode cX7_init 33 = .ok (.return_, 1) := by decide +kernel
