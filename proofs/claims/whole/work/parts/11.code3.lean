theorem dX12_step_227 : decode cX12_step 227 = .ok (.lstore 13, 2) := by decide +kernel
theorem dX12_step_229 : decode cX12_step 229 = .ok (.iinc 15 1, 3) := by decide +kernel
theorem dX12_step_232 : decode cX12_step 232 = .ok (.goto (-56), 3) := by decide +kernel
theorem dX12_step_235 : decode cX12_step 235 = .ok (.lload 11, 2) := by decide +kernel
theorem dX12_step_237 : decode cX12_step 237 = .ok (.lload 13, 2) := by decide +kernel
theorem dX12_step_239 : decode cX12_step 239 = .ok (.ladd, 1) := by decide +kernel
theorem dX12_step_240 : decode cX12_step 240 = .ok (.lstore 11, 2) := by decide +kernel
theorem dX12_step_242 : decode cX12_step 242 = .ok (.goto (-85), 3) := by decide +kernel
theorem dX12_step_245 : decode cX12_step 245 = .ok (.aload_n 0, 1) := by decide +kernel
theorem dX12_step_246 : decode cX12_step 246 = .ok (.getfield 13, 3) := by decide +kernel
theorem dX12_step_249 : decode cX12_step 249 = .ok (.iload_n 1, 1) := by decide +kernel
theorem dX12_step_250 : decode cX12_step 250 = .ok (.iload_n 2, 1) := by decide +kernel
theorem dX12_step_251 : decode cX12_step 251 = .ok (.iadd, 1) := by decide +kernel
theorem dX12_step_252 : decode cX12_step 252 = .ok (.lload 11, 2) := by decide +kernel
theorem dX12_step_254 : decode cX12_step 254 = .ok (.l2i, 1) := by decide +kernel
theorem dX12_step_255 : decode cX12_step 255 = .ok (.iastore, 1) := by decide +kernel
theorem dX12_step_256 : decode cX12_step 256 = .ok (.lload 5, 2) := by decide +kernel
theorem dX12_step_258 : decode cX12_step 258 = .ok (.l2i, 1) := by decide +kernel
theorem dX12_step_259 : decode cX12_step 259 = .ok (.ireturn, 1) := by decide +kernel
theorem dX12_divided_0 : decode cX12_divided 0 = .ok (.aload_n 0, 1) := by decide +kernel
theorem dX12_divided_1 : decode cX12_divided 1 = .ok (.iload_n 1, 1) := by decide +kernel
theorem dX12_divided_2 : decode cX12_divided 2 = .ok (.iload_n 2, 1) := by decide +kernel
theorem dX12_divided_3 : decode cX12_divided 3 = .ok (.invokevirtual 153, 3) := by decide +kernel
theorem dX12_divided_6 : decode cX12_divided 6 = .ok (.aload_n 0, 1) := by decide +kernel
theorem dX12_divided_7 : decode cX12_divided 7 = .ok (.aload_n 0, 1) := by decide +kernel
theorem dX12_divided_8 : decode cX12_divided 8 = .ok (.getfield 138, 3) := by decide +kernel
theorem dX12_divided_11 : decode cX12_divided 11 = .ok (.invokevirtual 96, 3) := by decide +kernel
theorem dX12_divided_14 : decode cX12_divided 14 = .ok (.istore_n 3, 1) := by decide +kernel
theorem dX12_divided_15 : decode cX12_divided 15 = .ok (.iconst 0, 1) := by decide +kernel
theorem dX12_divided_16 : decode cX12_divided 16 = .ok (.istore 4, 2) := by decide +kernel
theorem dX12_divided_18 : decode cX12_divided 18 = .ok (.iload 4, 2) := by decide +kernel
theorem dX12_divided_20 : decode cX12_divided 20 = .ok (.aload_n 0, 1) := by decide +kernel
theorem dX12_divided_21 : decode cX12_divided 21 = .ok (.getfield 138, 3) := by decide +kernel
theorem dX12_divided_24 : decode cX12_divided 24 = .ok (.if_icmp .ge 27, 3) := by decide +kernel
theorem dX12_divided_27 : decode cX12_divided 27 = .ok (.aload_n 0, 1) := by decide +kernel
theorem dX12_divided_28 : decode cX12_divided 28 = .ok (.getfield 7, 3) := by decide +kernel
theorem dX12_divided_31 : decode cX12_divided 31 = .ok (.iload_n 3, 1) := by decide +kernel
theorem dX12_divided_32 : decode cX12_divided 32 = .ok (.iconst 1, 1) := by decide +kernel
theorem dX12_divided_33 : decode cX12_divided 33 = .ok (.iadd, 1) := by decide +kernel
theorem dX12_divided_34 : decode cX12_divided 34 = .ok (.iload 4, 2) := by decide +kernel
theorem dX12_divided_36 : decode cX12_divided 36 = .ok (.iadd, 1) := by decide +kernel
theorem dX12_divided_37 : decode cX12_divided 37 = .ok (.aload_n 0, 1) := by decide +kernel
theorem dX12_divided_38 : decode cX12_divided 38 = .ok (.getfield 19, 3) := by decide +kernel
theorem dX12_divided_41 : decode cX12_divided 41 = .ok (.iload 4, 2) := by decide +kernel
theorem dX12_divided_43 : decode cX12_divided 43 = .ok (.iaload, 1) := by decide +kernel
theorem dX12_divided_44 : decode cX12_divided 44 = .ok (.iastore, 1) := by decide +kernel
theorem dX12_divided_45 : decode cX12_divided 45 = .ok (.iinc 4 1, 3) := by decide +kernel
theorem dX12_divided_48 : decode cX12_divided 48 = .ok (.goto (-30), 3) := by decide +kernel
theorem dX12_divided_51 : decode cX12_divided 51 = .ok (.aload_n 0, 1) := by decide +kernel
theorem dX12_divided_52 : decode cX12_divided 52 = .ok (.iload_n 3, 1) := by decide +kernel
theorem dX12_divided_53 : decode cX12_divided 53 = .ok (.aload_n 0, 1) := by decide +kernel
theorem dX12_divided_54 : decode cX12_divided 54 = .ok (.getfield 138, 3) := by decide +kernel
theorem dX12_divided_57 : decode cX12_divided 57 = .ok (.aload_n 0, 1) := by decide +kernel
theorem dX12_divided_58 : decode cX12_divided 58 = .ok (.iload_n 1, 1) := by decide +kernel
theorem dX12_divided_59 : decode cX12_divided 59 = .ok (.invokevirtual 112, 3) := by decide +kernel
theorem dX12_divided_62 : decode cX12_divided 62 = .ok (.aload_n 0, 1) := by decide +kernel
theorem dX12_divided_63 : decode cX12_divided 63 = .ok (.iload_n 2, 1) := by decide +kernel
theorem dX12_divided_64 : decode cX12_divided 64 = .ok (.invokevirtual 112, 3) := by decide +kernel
theorem dX12_divided_67 : decode cX12_divided 67 = .ok (.if_icmp .eq 14, 3) := by decide +kernel
theorem dX12_divided_70 : decode cX12_divided 70 = .ok (.aload_n 0, 1) := by decide +kernel
theorem dX12_divided_71 : decode cX12_divided 71 = .ok (.getfield 138, 3) := by decide +kernel
theorem dX12_divided_74 : decode cX12_divided 74 = .ok (.ifCond .le 7, 3) := by decide +kernel
theorem dX12_divided_77 : decode cX12_divided 77 = .ok (.iconst 1, 1) := by decide +kernel
theorem dX12_divided_78 : decode cX12_divided 78 = .ok (.goto 4, 3) := by decide +kernel
theorem dX12_divided_81 : decode cX12_divided 81 = .ok (.iconst 0, 1) := by decide +kernel
theorem dX12_divided_82 : decode cX12_divided 82 = .ok (.invokevirtual 102, 3) := by decide +kernel
theorem dX12_divided_85 : decode cX12_divided 85 = .ok (.ireturn, 1) := by decide +kernel
theorem dX12_common_0 : decode cX12_common 0 = .ok (.aload_n 0, 1) := by decide +kernel
theorem dX12_common_1 : decode cX12_common 1 = .ok (.getfield 93, 3) := by decide +kernel
theorem dX12_common_4 : decode cX12_common 4 = .ok (.istore_n 3, 1) := by decide +kernel
theorem dX12_common_5 : decode cX12_common 5 = .ok (.aload_n 0, 1) := by decide +kernel
theorem dX12_common_6 : decode cX12_common 6 = .ok (.iload_n 1, 1) := by decide +kernel
theorem dX12_common_7 : decode cX12_common 7 = .ok (.invokevirtual 106, 3) := by decide +kernel
theorem dX12_common_10 : decode cX12_common 10 = .ok (.aload_n 0, 1) := by decide +kernel
theorem dX12_common_11 : decode cX12_common 11 = .ok (.iload_n 2, 1) := by decide +kernel
theorem dX12_common_12 : decode cX12_common 12 = .ok (.invokevirtual 106, 3) := by decide +kernel
theorem dX12_common_15 : decode cX12_common 15 = .ok (.invokestatic 115, 3) := by decide +kernel
theorem dX12_common_18 : decode cX12_common 18 = .ok (.iconst 2, 1) := by decide +kernel
theorem dX12_common_19 : decode cX12_common 19 = .ok (.iadd, 1) := by decide +kernel
theorem dX12_common_20 : decode cX12_common 20 = .ok (.istore 4, 2) := by decide +kernel
theorem dX12_common_22 : decode cX12_common 22 = .ok (.aload_n 0, 1) := by decide +kernel
theorem dX12_common_23 : decode cX12_common 23 = .ok (.iload 4, 2) := by decide +kernel
theorem dX12_common_25 : decode cX12_common 25 = .ok (.invokevirtual 96, 3) := by decide +kernel
theorem dX12_common_28 : decode cX12_common 28 = .ok (.istore 5, 2) := by decide +kernel
theorem dX12_common_30 : decode cX12_common 30 = .ok (.aload_n 0, 1) := by decide +kernel
theorem dX12_common_31 : decode cX12_common 31 = .ok (.iload 4, 2) := by decide +kernel
theorem dX12_common_33 : decode cX12_common 33 = .ok (.invokevirtual 96, 3) := by decide +kernel
theorem dX12_common_36 : decode cX12_common 36 = .ok (.istore 6, 2) := by decide +kernel
theorem dX12_common_38 : decode cX12_common 38 = .ok (.aload_n 0, 1) := by decide +kernel
theorem dX12_common_39 : decode cX12_common 39 = .ok (.iload 4, 2) := by decide +kernel
theorem dX12_common_41 : decode cX12_common 41 = .ok (.invokevirtual 96, 3) := by decide +kernel
theorem dX12_common_44 : decode cX12_common 44 = .ok (.istore 7, 2) := by decide +kernel
theorem dX12_common_46 : decode cX12_common 46 = .ok (.aload_n 0, 1) := by decide +kernel
theorem dX12_common_47 : decode cX12_common 47 = .ok (.iload 5, 2) := by decide +kernel
theorem dX12_common_49 : decode cX12_common 49 = .ok (.iload_n 1, 1) := by decide +kernel
theorem dX12_common_50 : decode cX12_common 50 = .ok (.invokevirtual 157, 3) := by decide +kernel
theorem dX12_common_53 : decode cX12_common 53 = .ok (.aload_n 0, 1) := by decide +kernel
theorem dX12_common_54 : decode cX12_common 54 = .ok (.iload 6, 2) := by decide +kernel
theorem dX12_common_56 : decode cX12_common 56 = .ok (.iload_n 2, 1) := by decide +kernel
theorem dX12_common_57 : decode cX12_common 57 = .ok (.invokevirtual 157, 3) := by decide +kernel
theorem dX12_common_60 : decode cX12_common 60 = .ok (.aload_n 0, 1) := by decide +kernel
theorem dX12_common_61 : decode cX12_common 61 = .ok (.getfield 7, 3) := by decide +kernel
theorem dX12_common_64 : decode cX12_common 64 = .ok (.iload 6, 2) := by decide +kernel
theorem dX12_common_66 : decode cX12_common 66 = .ok (.iaload, 1) := by decide +kernel
theorem dX12_common_67 : decode cX12_common 67 = .ok (.ifCond .eq 78, 3) := by decide +kernel
theorem dX12_common_70 : decode cX12_common 70 = .ok (.aload_n 0, 1) := by decide +kernel
theorem dX12_common_71 : decode cX12_common 71 = .ok (.iload 5, 2) := by decide +kernel
theorem dX12_common_73 : decode cX12_common 73 = .ok (.iload 6, 2) := by decide +kernel
theorem dX12_common_75 : decode cX12_common 75 = .ok (.invokevirtual 153, 3) := by decide +kernel
theorem dX12_common_78 : decode cX12_common 78 = .ok (.aload_n 0, 1) := by decide +kernel
theorem dX12_common_79 : decode cX12_common 79 = .ok (.getfield 7, 3) := by decide +kernel
theorem dX12_common_82 : decode cX12_common 82 = .ok (.iload 7, 2) := by decide +kernel
theorem dX12_common_84 : decode cX12_common 84 = .ok (.aload_n 0, 1) := by decide +kernel
theorem dX12_common_85 : decode cX12_common 85 = .ok (.getfield 135, 3) := by decide +kernel
theorem dX12_common_88 : decode cX12_common 88 = .ok (.iastore, 1) := by decide +kernel
theorem dX12_common_89 : decode cX12_common 89 = .ok (.iconst 0, 1) := by decide +kernel
theorem dX12_common_90 : decode cX12_common 90 = .ok (.istore 8, 2) := by decide +kernel
theorem dX12_common_92 : decode cX12_common 92 = .ok (.iload 8, 2) := by decide +kernel
theorem dX12_common_94 : decode cX12_common 94 = .ok (.aload_n 0, 1) := by decide +kernel
theorem dX12_common_95 : decode cX12_common 95 = .ok (.getfield 135, 3) := by decide +kernel
theorem dX12_common_98 : decode cX12_common 98 = .ok (.if_icmp .ge 28, 3) := by decide +kernel
theorem dX12_common_101 : decode cX12_common 101 = .ok (.aload_n 0, 1) := by decide +kernel
theorem dX12_common_102 : decode cX12_common 102 = .ok (.getfield 7, 3) := by decide +kernel
theorem dX12_common_105 : decode cX12_common 105 = .ok (.iload 7, 2) := by decide +kernel
theorem dX12_common_107 : decode cX12_common 107 = .ok (.iconst 1, 1) := by decide +kernel
theorem dX12_common_108 : decode cX12_common 108 = .ok (.iadd, 1) := by decide +kernel
theorem dX12_common_109 : decode cX12_common 109 = .ok (.iload 8, 2) := by decide +kernel
theorem dX12_common_111 : decode cX12_common 111 = .ok (.iadd, 1) := by decide +kernel
theorem dX12_common_112 : decode cX12_common 112 = .ok (.aload_n 0, 1) := by decide +kernel
theorem dX12_common_113 : decode cX12_common 113 = .ok (.getfield 13, 3) := by decide +kernel
theorem dX12_common_116 : decode cX12_common 116 = .ok (.iload 8, 2) := by decide +kernel
theorem dX12_common_118 : decode cX12_common 118 = .ok (.iaload, 1) := by decide +kernel
theorem dX12_common_119 : decode cX12_common 119 = .ok (.iastore, 1) := by decide +kernel
theorem dX12_common_120 : decode cX12_common 120 = .ok (.iinc 8 1, 3) := by decide +kernel
theorem dX12_common_123 : decode cX12_common 123 = .ok (.goto (-31), 3) := by decide +kernel
theorem dX12_common_126 : decode cX12_common 126 = .ok (.iload 5, 2) := by decide +kernel
theorem dX12_common_128 : decode cX12_common 128 = .ok (.istore 8, 2) := by decide +kernel
theorem dX12_common_130 : decode cX12_common 130 = .ok (.iload 6, 2) := by decide +kernel
theorem dX12_common_132 : decode cX12_common 132 = .ok (.istore 5, 2) := by decide +kernel
theorem dX12_common_134 : decode cX12_common 134 = .ok (.iload 7, 2) := by decide +kernel
theorem dX12_common_136 : decode cX12_common 136 = .ok (.istore 6, 2) := by decide +kernel
theorem dX12_common_138 : decode cX12_common 138 = .ok (.iload 8, 2) := by decide +kernel
theorem dX12_common_140 : decode cX12_common 140 = .ok (.istore 7, 2) := by decide +kernel
theorem dX12_common_142 : decode cX12_common 142 = .ok (.goto (-82), 3) := by decide +kernel
theorem dX12_common_145 : decode cX12_common 145 = .ok (.aload_n 0, 1) := by decide +kernel
theorem dX12_common_146 : decode cX12_common 146 = .ok (.getfield 7, 3) := by decide +kernel
theorem dX12_common_149 : decode cX12_common 149 = .ok (.iload 5, 2) := by decide +kernel
theorem dX12_common_151 : decode cX12_common 151 = .ok (.iaload, 1) := by decide +kernel
theorem dX12_common_152 : decode cX12_common 152 = .ok (.istore 8, 2) := by decide +kernel
theorem dX12_common_154 : decode cX12_common 154 = .ok (.iconst 0, 1) := by decide +kernel
theorem dX12_common_155 : decode cX12_common 155 = .ok (.istore 9, 2) := by decide +kernel
theorem dX12_common_157 : decode cX12_common 157 = .ok (.iload 9, 2) := by decide +kernel
theorem dX12_common_159 : decode cX12_common 159 = .ok (.iload 8, 2) := by decide +kernel
theorem dX12_common_161 : decode cX12_common 161 = .ok (.if_icmp .gt 28, 3) := by decide +kernel
theorem dX12_common_164 : decode cX12_common 164 = .ok (.aload_n 0, 1) := by decide +kernel
theorem dX12_common_165 : decode cX12_common 165 = .ok (.getfield 7, 3) := by decide +kernel
theorem dX12_common_168 : decode cX12_common 168 = .ok (.iload_n 3, 1) := by decide +kernel
theorem dX12_common_169 : decode cX12_common 169 = .ok (.iload 9, 2) := by decide +kernel
theorem dX12_common_171 : decode cX12_common 171 = .ok (.iadd, 1) := by decide +kernel
theorem dX12_common_172 : decode cX12_common 172 = .ok (.aload_n 0, 1) := by decide +kernel
theorem dX12_common_173 : decode cX12_common 173 = .ok (.getfield 7, 3) := by decide +kernel
theorem dX12_common_176 : decode cX12_common 176 = .ok (.iload 5, 2) := by decide +kernel
theorem dX12_common_178 : decode cX12_common 178 = .ok (.iload 9, 2) := by decide +kernel
theorem dX12_common_180 : decode cX12_common 180 = .ok (.iadd, 1) := by decide +kernel
theorem dX12_common_181 : decode cX12_common 181 = .ok (.iaload, 1) := by decide +kernel
theorem dX12_common_182 : decode cX12_common 182 = .ok (.iastore, 1) := by decide +kernel
theorem dX12_common_183 : decode cX12_common 183 = .ok (.iinc 9 1, 3) := by decide +kernel
theorem dX12_common_186 : decode cX12_common 186 = .ok (.goto (-29), 3) := by decide +kernel
theorem dX12_common_189 : decode cX12_common 189 = .ok (.aload_n 0, 1) := by decide +kernel
theorem dX12_common_190 : decode cX12_common 190 = .ok (.iload_n 3, 1) := by decide +kernel
theorem dX12_common_191 : decode cX12_common 191 = .ok (.iload 8, 2) := by decide +kernel
theorem dX12_common_193 : decode cX12_common 193 = .ok (.iadd, 1) := by decide +kernel
theorem dX12_common_194 : decode cX12_common 194 = .ok (.iconst 1, 1) := by decide +kernel
theorem dX12_common_195 : decode cX12_common 195 = .ok (.iadd, 1) := by decide +kernel
theorem dX12_common_196 : decode cX12_common 196 = .ok (.putfield 93, 3) := by decide +kernel
theorem dX12_common_199 : decode cX12_common 199 = .ok (.iload_n 3, 1) := by decide +kernel
theorem dX12_common_200 : decode cX12_common 200 = .ok (.ireturn, 1) := by decide +kernel
theorem dX12_put_0 : decode cX12_put 0 = .ok (.aload_n 0, 1) := by decide +kernel
theorem dX12_put_1 : decode cX12_put 1 = .ok (.iload_n 2, 1) := by decide +kernel
theorem dX12_put_2 : decode cX12_put 2 = .ok (.invokevirtual 106, 3) := by decide +kernel
theorem dX12_put_5 : decode cX12_put 5 = .ok (.istore_n 3, 1) := by decide +kernel
theorem dX12_put_6 : decode cX12_put 6 = .ok (.aload_n 0, 1) := by decide +kernel
theorem dX12_put_7 : decode cX12_put 7 = .ok (.getfield 7, 3) := by decide +kernel
theorem dX12_put_10 : decode cX12_put 10 = .ok (.iload_n 1, 1) := by decide +kernel
theorem dX12_put_11 : decode cX12_put 11 = .ok (.iload_n 3, 1) := by decide +kernel
theorem dX12_put_12 : decode cX12_put 12 = .ok (.iastore, 1) := by decide +kernel
theorem dX12_put_13 : decode cX12_put 13 = .ok (.iconst 1, 1) := by decide +kernel
theorem dX12_put_14 : decode cX12_put 14 = .ok (.istore 4, 2) := by decide +kernel
theorem dX12_put_16 : decode cX12_put 16 = .ok (.iload 4, 2) := by decide +kernel
theorem dX12_put_18 : decode cX12_put 18 = .ok (.iload_n 3, 1) := by decide +kernel
theorem dX12_put_19 : decode cX12_put 19 = .ok (.if_icmp .gt 27, 3) := by decide +kernel
theorem dX12_put_22 : decode cX12_put 22 = .ok (.aload_n 0, 1) := by decide +kernel
theorem dX12_put_23 : decode cX12_put 23 = .ok (.getfield 7, 3) := by decide +kernel
theorem dX12_put_26 : decode cX12_put 26 = .ok (.iload_n 1, 1) := by decide +kernel
theorem dX12_put_27 : decode cX12_put 27 = .ok (.iload 4, 2) := by decide +kernel
theorem dX12_put_29 : decode cX12_put 29 = .ok (.iadd, 1) := by decide +kernel
theorem dX12_put_30 : decode cX12_put 30 = .ok (.aload_n 0, 1) := by decide +kernel
theorem dX12_put_31 : decode cX12_put 31 = .ok (.getfield 7, 3) := by decide +kernel
theorem dX12_put_34 : decode cX12_put 34 = .ok (.iload_n 2, 1) := by decide +kernel
theorem dX12_put_35 : decode cX12_put 35 = .ok (.iload 4, 2) := by decide +kernel
theorem dX12_put_37 : decode cX12_put 37 = .ok (.iadd, 1) := by decide +kernel
theorem dX12_put_38 : decode cX12_put 38 = .ok (.iaload, 1) := by decide +kernel
theorem dX12_put_39 : decode cX12_put 39 = .ok (.iastore, 1) := by decide +kernel
theorem dX12_put_40 : decode cX12_put 40 = .ok (.iinc 4 1, 3) := by decide +kernel
theorem dX12_put_43 : decode cX12_put 43 = .ok (.goto (-27), 3) := by decide +kernel
theorem dX12_put_46 : decode cX12_put 46 = .ok (.return_, 1) := by decide +kernel
theorem dX12_out_0 : decode cX12_out 0 = .ok (.iload_n 1, 1) := by decide +kernel
theorem dX12_out_1 : decode cX12_out 1 = .ok (.ifCond .lt 20, 3) := by decide +kernel
theorem dX12_out_4 : decode cX12_out 4 = .ok (.iload_n 1, 1) := by decide +kernel
theorem dX12_out_5 : decode cX12_out 5 = .ok (.aload_n 0, 1) := by decide +kernel
theorem dX12_out_6 : decode cX12_out 6 = .ok (.getfield 160, 3) := by decide +kernel
theorem dX12_out_9 : decode cX12_out 9 = .ok (.if_icmp .ge 12, 3) := by decide +kernel
theorem dX12_out_12 : decode cX12_out 12 = .ok (.aload_n 0, 1) := by decide +kernel
theorem dX12_out_13 : decode cX12_out 13 = .ok (.getfield 22, 3) := by decide +kernel
theorem dX12_out_16 : decode cX12_out 16 = .ok (.iload_n 1, 1) := by decide +kernel
theorem dX12_out_17 : decode cX12_out 17 = .ok (.iaload, 1) := by decide +kernel
theorem dX12_out_18 : decode cX12_out 18 = .ok (.goto 4, 3) := by decide +kernel
theorem dX12_out_21 : decode cX12_out 21 = .ok (.iconst (-1), 1) := by decide +kernel
theorem dX12_out_22 : decode cX12_out 22 = .ok (.ireturn, 1) := by decide +kernel
theorem dX12_tells0_0 : decode cX12_tells0 0 = .ok (.aload_n 0, 1) := by decide +kernel
theorem dX12_tells0_1 : decode cX12_tells0 1 = .ok (.getfield 22, 3) := by decide +kernel
theorem dX12_tells0_4 : decode cX12_tells0 4 = .ok (.aload_n 0, 1) := by decide +kernel
theorem dX12_tells0_5 : decode cX12_tells0 5 = .ok (.getfield 160, 3) := by decide +kernel
theorem dX12_tells0_8 : decode cX12_tells0 8 = .ok (.iload_n 1, 1) := by decide +kernel
theorem dX12_tells0_9 : decode cX12_tells0 9 = .ok (.iastore, 1) := by decide +kernel
theorem dX12_tells0_10 : decode cX12_tells0 10 = .ok (.aload_n 0, 1) := by decide +kernel
theorem dX12_tells0_11 : decode cX12_tells0 11 = .ok (.dup, 1) := by decide +kernel
theorem dX12_tells0_12 : decode cX12_tells0 12 = .ok (.getfield 160, 3) := by decide +kernel
theorem dX12_tells0_15 : decode cX12_tells0 15 = .ok (.iconst 1, 1) := by decide +kernel
theorem dX12_tells0_16 : decode cX12_tells0 16 = .ok (.iadd, 1) := by decide +kernel
theorem dX12_tells0_17 : decode cX12_tells0 17 = .ok (.putfield 160, 3) := by decide +kernel
theorem dX12_tells0_20 : decode cX12_tells0 20 = .ok (.return_, 1) := by decide +kernel
theorem dX12_tellsNumber_0 : decode cX12_tellsNumber 0 = .ok (.aload_n 0, 1) := by decide +kernel
theorem dX12_tellsNumber_1 : decode cX12_tellsNumber 1 = .ok (.iload_n 1, 1) := by decide +kernel
theorem dX12_tellsNumber_2 : decode cX12_tellsNumber 2 = .ok (.invokevirtual 112, 3) := by decide +kernel
theorem dX12_tellsNumber_5 : decode cX12_tellsNumber 5 = .ok (.ifCond .ge 9, 3) := by decide +kernel
theorem dX12_tellsNumber_8 : decode cX12_tellsNumber 8 = .ok (.aload_n 0, 1) := by decide +kernel
theorem dX12_tellsNumber_9 : decode cX12_tellsNumber 9 = .ok (.bipush 45, 2) := by decide +kernel
theorem dX12_tellsNumber_11 : decode cX12_tellsNumber 11 = .ok (.invokevirtual 163, 3) := by decide +kernel
theorem dX12_tellsNumber_14 : decode cX12_tellsNumber 14 = .ok (.aload_n 0, 1) := by decide +kernel
theorem dX12_tellsNumber_15 : decode cX12_tellsNumber 15 = .ok (.iload_n 1, 1) := by decide +kernel
theorem dX12_tellsNumber_16 : decode cX12_tellsNumber 16 = .ok (.invokevirtual 112, 3) := by decide +kernel
theorem dX12_tellsNumber_19 : decode cX12_tellsNumber 19 = .ok (.ifCond .ne 9, 3) := by decide +kernel
theorem dX12_tellsNumber_22 : decode cX12_tellsNumber 22 = .ok (.aload_n 0, 1) := by decide +kernel
theorem dX12_tellsNumber_23 : decode cX12_tellsNumber 23 = .ok (.bipush 48, 2) := by decide +kernel
theorem dX12_tellsNumber_25 : decode cX12_tellsNumber 25 = .ok (.invokevirtual 163, 3) := by decide +kernel
theorem dX12_tellsNumber_28 : decode cX12_tellsNumber 28 = .ok (.aload_n 0, 1) := by decide +kernel
theorem dX12_tellsNumber_29 : decode cX12_tellsNumber 29 = .ok (.getfield 160, 3) := by decide +kernel
theorem dX12_tellsNumber_32 : decode cX12_tellsNumber 32 = .ok (.istore_n 2, 1) := by decide +kernel
theorem dX12_tellsNumber_33 : decode cX12_tellsNumber 33 = .ok (.iconst 0, 1) := by decide +kernel
theorem dX12_tellsNumber_34 : decode cX12_tellsNumber 34 = .ok (.istore_n 3, 1) := by decide +kernel
theorem dX12_tellsNumber_35 : decode cX12_tellsNumber 35 = .ok (.iload_n 3, 1) := by decide +kernel
theorem dX12_tellsNumber_36 : decode cX12_tellsNumber 36 = .ok (.aload_n 0, 1) := by decide +kernel
theorem dX12_tellsNumber_37 : decode cX12_tellsNumber 37 = .ok (.iload_n 1, 1) := by decide +kernel
theorem dX12_tellsNumber_38 : decode cX12_tellsNumber 38 = .ok (.invokevirtual 106, 3) := by decide +kernel
theorem dX12_tellsNumber_41 : decode cX12_tellsNumber 41 = .ok (.if_icmp .ge 25, 3) := by decide +kernel
theorem dX12_tellsNumber_44 : decode cX12_tellsNumber 44 = .ok (.aload_n 0, 1) := by decide +kernel
theorem dX12_tellsNumber_45 : decode cX12_tellsNumber 45 = .ok (.getfield 13, 3) := by decide +kernel
theorem dX12_tellsNumber_48 : decode cX12_tellsNumber 48 = .ok (.iload_n 3, 1) := by decide +kernel
theorem dX12_tellsNumber_49 : decode cX12_tellsNumber 49 = .ok (.aload_n 0, 1) := by decide +kernel
theorem dX12_tellsNumber_50 : decode cX12_tellsNumber 50 = .ok (.getfield 7, 3) := by decide +kernel
theorem dX12_tellsNumber_53 : decode cX12_tellsNumber 53 = .ok (.iload_n 1, 1) := by decide +kernel
theorem dX12_tellsNumber_54 : decode cX12_tellsNumber 54 = .ok (.iconst 1, 1) := by decide +kernel
theorem dX12_tellsNumber_55 : decode cX12_tellsNumber 55 = .ok (.iadd, 1) := by decide +kernel
theorem dX12_tellsNumber_56 : decode cX12_tellsNumber 56 = .ok (.iload_n 3, 1) := by decide +kernel
theorem dX12_tellsNumber_57 : decode cX12_tellsNumber 57 = .ok (.iadd, 1) := by decide +kernel
theorem dX12_tellsNumber_58 : decode cX12_tellsNumber 58 = .ok (.iaload, 1) := by decide +kernel
theorem dX12_tellsNumber_59 : decode cX12_tellsNumber 59 = .ok (.iastore, 1) := by decide +kernel
theorem dX12_tellsNumber_60 : decode cX12_tellsNumber 60 = .ok (.iinc 3 1, 3) := by decide +kernel
theorem dX12_tellsNumber_63 : decode cX12_tellsNumber 63 = .ok (.goto (-28), 3) := by decide +kernel
theorem dX12_tellsNumber_66 : decode cX12_tellsNumber 66 = .ok (.aload_n 0, 1) := by decide +kernel
theorem dX12_tellsNumber_67 : decode cX12_tellsNumber 67 = .ok (.aload_n 0, 1) := by decide +kernel
theorem dX12_tellsNumber_68 : decode cX12_tellsNumber 68 = .ok (.iload_n 1, 1) := by decide +kernel
theorem dX12_tellsNumber_69 : decode cX12_tellsNumber 69 = .ok (.invokevirtual 106, 3) := by decide +kernel
theorem dX12_tellsNumber_72 : decode cX12_tellsNumber 72 = .ok (.putfield 135, 3) := by decide +kernel
theorem dX12_tellsNumber_75 : decode cX12_tellsNumber 75 = .ok (.aload_n 0, 1) := by decide +kernel
theorem dX12_tellsNumber_76 : decode cX12_tellsNumber 76 = .ok (.getfield 135, 3) := by decide +kernel
theorem dX12_tellsNumber_79 : decode cX12_tellsNumber 79 = .ok (.ifCond .le 106, 3) := by decide +kernel
theorem dX12_tellsNumber_82 : decode cX12_tellsNumber 82 = .ok (.lconst 0, 1) := by decide +kernel
theorem dX12_tellsNumber_83 : decode cX12_tellsNumber 83 = .ok (.lstore_n 3, 1) := by decide +kernel
theorem dX12_tellsNumber_84 : decode cX12_tellsNumber 84 = .ok (.aload_n 0, 1) := by decide +kernel
theorem dX12_tellsNumber_85 : decode cX12_tellsNumber 85 = .ok (.getfield 135, 3) := by decide +kernel
theorem dX12_tellsNumber_88 : decode cX12_tellsNumber 88 = .ok (.iconst 1, 1) := by decide +kernel
theorem dX12_tellsNumber_89 : decode cX12_tellsNumber 89 = .ok (.isub, 1) := by decide +kernel
theorem dX12_tellsNumber_90 : decode cX12_tellsNumber 90 = .ok (.istore 5, 2) := by decide +kernel
theorem dX12_tellsNumber_92 : decode cX12_tellsNumber 92 = .ok (.iload 5, 2) := by decide +kernel
theorem dX12_tellsNumber_94 : decode cX12_tellsNumber 94 = .ok (.ifCond .lt 45, 3) := by decide +kernel
theorem dX12_tellsNumber_97 : decode cX12_tellsNumber 97 = .ok (.lload_n 3, 1) := by decide +kernel
theorem dX12_tellsNumber_98 : decode cX12_tellsNumber 98 = .ok (.bipush 30, 2) := by decide +kernel
theorem dX12_tellsNumber_100 : decode cX12_tellsNumber 100 = .ok (.lshl, 1) := by decide +kernel
theorem dX12_tellsNumber_101 : decode cX12_tellsNumber 101 = .ok (.aload_n 0, 1) := by decide +kernel
theorem dX12_tellsNumber_102 : decode cX12_tellsNumber 102 = .ok (.getfield 13, 3) := by decide +kernel
theorem dX12_tellsNumber_105 : decode cX12_tellsNumber 105 = .ok (.iload 5, 2) := by decide +kernel
theorem dX12_tellsNumber_107 : decode cX12_tellsNumber 107 = .ok (.iaload, 1) := by decide +kernel
theorem dX12_tellsNumber_108 : decode cX12_tellsNumber 108 = .ok (.i2l, 1) := by decide +kernel
theorem dX12_tellsNumber_109 : decode cX12_tellsNumber 109 = .ok (.lor, 1) := by decide +kernel
theorem dX12_tellsNumber_110 : decode cX12_tellsNumber 110 = .ok (.lstore 6, 2) := by decide +kernel
theorem dX12_tellsNumber_112 : decode cX12_tellsNumber 112 = .ok (.aload_n 0, 1) := by decide +kernel
theorem dX12_tellsNumber_113 : decode cX12_tellsNumber 113 = .ok (.getfield 13, 3) := by decide +kernel
theorem dX12_tellsNumber_116 : decode cX12_tellsNumber 116 = .ok (.iload 5, 2) := by decide +kernel
theorem dX12_tellsNumber_118 : decode cX12_tellsNumber 118 = .ok (.lload 6, 2) := by decide +kernel
theorem dX12_tellsNumber_120 : decode cX12_tellsNumber 120 = .ok (.ldc2_w 166, 3) := by decide +kernel
theorem dX12_tellsNumber_123 : decode cX12_tellsNumber 123 = .ok (.ldiv, 1) := by decide +kernel
theorem dX12_tellsNumber_124 : decode cX12_tellsNumber 124 = .ok (.l2i, 1) := by decide +kernel
theorem dX12_tellsNumber_125 : decode cX12_tellsNumber 125 = .ok (.iastore, 1) := by decide +kernel
theorem dX12_tellsNumber_126 : decode cX12_tellsNumber 126 = .ok (.lload 6, 2) := by decide +kernel
theorem dX12_tellsNumber_128 : decode cX12_tellsNumber 128 = .ok (.ldc2_w 166, 3) := by decide +kernel
theorem dX12_tellsNumber_131 : decode cX12_tellsNumber 131 = .ok (.lrem, 1) := by decide +kernel
theorem dX12_tellsNumber_132 : decode cX12_tellsNumber 132 = .ok (.lstore_n 3, 1) := by decide +kernel
theorem dX12_tellsNumber_133 : decode cX12_tellsNumber 133 = .ok (.iinc 5 (-1), 3) := by decide +kernel
theorem dX12_tellsNumber_136 : decode cX12_tellsNumber 136 = .ok (.goto (-44), 3) := by decide +kernel
theorem dX12_tellsNumber_139 : decode cX12_tellsNumber 139 = .ok (.aload_n 0, 1) := by decide +kernel
theorem dX12_tellsNumber_140 : decode cX12_tellsNumber 140 = .ok (.getfield 135, 3) := by decide +kernel
theorem dX12_tellsNumber_143 : decode cX12_tellsNumber 143 = .ok (.ifCond .le 30, 3) := by decide +kernel
theorem dX12_tellsNumber_146 : decode cX12_tellsNumber 146 = .ok (.aload_n 0, 1) := by decide +kernel
theorem dX12_tellsNumber_147 : decode cX12_tellsNumber 147 = .ok (.getfield 13, 3) := by decide +kernel
theorem dX12_tellsNumber_150 : decode cX12_tellsNumber 150 = .ok (.aload_n 0, 1) := by decide +kernel
theorem dX12_tellsNumber_151 : decode cX12_tellsNumber 151 = .ok (.getfield 135, 3) := by decide +kernel
theorem dX12_tellsNumber_154 : decode cX12_tellsNumber 154 = .ok (.iconst 1, 1) := by decide +kernel
theorem dX12_tellsNumber_155 : decode cX12_tellsNumber 155 = .ok (.isub, 1) := by decide +kernel
theorem dX12_tellsNumber_156 : decode cX12_tellsNumber 156 = .ok (.iaload, 1) := by decide +kernel
theorem dX12_tellsNumber_157 : decode cX12_tellsNumber 157 = .ok (.ifCond .ne 16, 3) := by decide +kernel
theorem dX12_tellsNumber_160 : decode cX12_tellsNumber 160 = .ok (.aload_n 0, 1) := by decide +kernel
theorem dX12_tellsNumber_161 : decode cX12_tellsNumber 161 = .ok (.dup, 1) := by decide +kernel
theorem dX12_tellsNumber_162 : decode cX12_tellsNumber 162 = .ok (.getfield 135, 3) := by decide +kernel
theorem dX12_tellsNumber_165 : decode cX12_tellsNumber 165 = .ok (.iconst 1, 1) := by decide +kernel
theorem dX12_tellsNumber_166 : decode cX12_tellsNumber 166 = .ok (.isub, 1) := by decide +kernel
theorem dX12_tellsNumber_167 : decode cX12_tellsNumber 167 = .ok (.putfield 135, 3) := by decide +kernel
theorem dX12_tellsNumber_170 : decode cX12_tellsNumber 170 = .ok (.goto (-31), 3) := by decide +kernel
theorem dX12_tellsNumber_173 : decode cX12_tellsNumber 173 = .ok (.aload_n 0, 1) := by decide +kernel
theorem dX12_tellsNumber_174 : decode cX12_tellsNumber 174 = .ok (.bipush 48, 2) := by decide +kernel
theorem dX12_tellsNumber_176 : decode cX12_tellsNumber 176 = .ok (.lload_n 3, 1) := by decide +kernel
theorem dX12_tellsNumber_177 : decode cX12_tellsNumber 177 = .ok (.l2i, 1) := by decide +kernel
theorem dX12_tellsNumber_178 : decode cX12_tellsNumber 178 = .ok (.iadd, 1) := by decide +kernel
theorem dX12_tellsNumber_179 : decode cX12_tellsNumber 179 = .ok (.invokevirtual 163, 3) := by decide +kernel
theorem dX12_tellsNumber_182 : decode cX12_tellsNumber 182 = .ok (.goto (-107), 3) := by decide +kernel
theorem dX12_tellsNumber_185 : decode cX12_tellsNumber 185 = .ok (.iload_n 2, 1) := by decide +kernel
theorem dX12_tellsNumber_186 : decode cX12_tellsNumber 186 = .ok (.istore_n 3, 1) := by decide +kernel
theorem dX12_tellsNumber_187 : decode cX12_tellsNumber 187 = .ok (.aload_n 0, 1) := by decide +kernel
theorem dX12_tellsNumber_188 : decode cX12_tellsNumber 188 = .ok (.getfield 160, 3) := by decide +kernel
theorem dX12_tellsNumber_191 : decode cX12_tellsNumber 191 = .ok (.iconst 1, 1) := by decide +kernel
theorem dX12_tellsNumber_192 : decode cX12_tellsNumber 192 = .ok (.isub, 1) := by decide +kernel
theorem dX12_tellsNumber_193 : decode cX12_tellsNumber 193 = .ok (.istore 4, 2) := by decide +kernel
theorem dX12_tellsNumber_195 : decode cX12_tellsNumber 195 = .ok (.iload_n 3, 1) := by decide +kernel
theorem dX12_tellsNumber_196 : decode cX12_tellsNumber 196 = .ok (.iload 4, 2) := by decide +kernel
theorem dX12_tellsNumber_198 : decode cX12_tellsNumber 198 = .ok (.if_icmp .ge 42, 3) := by decide +kernel
theorem dX12_tellsNumber_201 : decode cX12_tellsNumber 201 = .ok (.aload_n 0, 1) := by decide +kernel
theorem dX12_tellsNumber_202 : decode cX12_tellsNumber 202 = .ok (.getfield 22, 3) := by decide +kernel
theorem dX12_tellsNumber_205 : decode cX12_tellsNumber 205 = .ok (.iload_n 3, 1) := by decide +kernel
theorem dX12_tellsNumber_206 : decode cX12_tellsNumber 206 = .ok (.iaload, 1) := by decide +kernel
theorem dX12_tellsNumber_207 : decode cX12_tellsNumber 207 = .ok (.istore 5, 2) := by decide +kernel
theorem dX12_tellsNumber_209 : decode cX12_tellsNumber 209 = .ok (.aload_n 0, 1) := by decide +kernel
theorem dX12_tellsNumber_210 : decode cX12_tellsNumber 210 = .ok (.getfield 22, 3) := by decide +kernel
theorem dX12_tellsNumber_213 : decode cX12_tellsNumber 213 = .ok (.iload_n 3, 1) := by decide +kernel
theorem dX12_tellsNumber_214 : decode cX12_tellsNumber 214 = .ok (.aload_n 0, 1) := by decide +kernel
theorem dX12_tellsNumber_215 : decode cX12_tellsNumber 215 = .ok (.getfield 22, 3) := by decide +kernel
theorem dX12_tellsNumber_218 : decode cX12_tellsNumber 218 = .ok (.iload 4, 2) := by decide +kernel
theorem dX12_tellsNumber_220 : decode cX12_tellsNumber 220 = .ok (.iaload, 1) := by decide +kernel
theorem dX12_tellsNumber_221 : decode cX12_tellsNumber 221 = .ok (.iastore, 1) := by decide +kernel
theorem dX12_tellsNumber_222 : decode cX12_tellsNumber 222 = .ok (.aload_n 0, 1) := by decide +kernel
theorem dX12_tellsNumber_223 : decode cX12_tellsNumber 223 = .ok (.getfield 22, 3) := by decide +kernel
theorem dX12_tellsNumber_226 : decode cX12_tellsNumber 226 = .ok (.iload 4, 2) := by decide +kernel
theorem dX12_tellsNumber_228 : decode cX12_tellsNumber 228 = .ok (.iload 5, 2) := by decide +kernel
theorem dX12_tellsNumber_230 : decode cX12_tellsNumber 230 = .ok (.iastore, 1) := by decide +kernel
theorem dX12_tellsNumber_231 : decode cX12_tellsNumber 231 = .ok (.iinc 3 1, 3) := by decide +kernel
theorem dX12_tellsNumber_234 : decode cX12_tellsNumber 234 = .ok (.iinc 4 (-1), 3) := by decide +kernel
theorem dX12_tellsNumber_237 : decode cX12_tellsNumber 237 = .ok (.goto (-42), 3) := by decide +kernel
theorem dX12_tellsNumber_240 : decode cX12_tellsNumber 240 = .ok (.return_, 1) := by decide +kernel
theorem dX12_tells_0 : decode cX12_tells 0 = .ok (.aload_n 0, 1) := by decide +kernel
theorem dX12_tells_1 : decode cX12_tells 1 = .ok (.iload_n 1, 1) := by decide +kernel
theorem dX12_tells_2 : decode cX12_tells 2 = .ok (.iload_n 2, 1) := by decide +kernel
theorem dX12_tells_3 : decode cX12_tells 3 = .ok (.invokevirtual 168, 3) := by decide +kernel
theorem dX12_tells_6 : decode cX12_tells 6 = .ok (.istore_n 3, 1) := by decide +kernel
theorem dX12_tells_7 : decode cX12_tells 7 = .ok (.aload_n 0, 1) := by decide +kernel
theorem dX12_tells_8 : decode cX12_tells 8 = .ok (.iload_n 1, 1) := by decide +kernel
theorem dX12_tells_9 : decode cX12_tells 9 = .ok (.iload_n 3, 1) := by decide +kernel
theorem dX12_tells_10 : decode cX12_tells 10 = .ok (.invokevirtual 171, 3) := by decide +kernel
theorem dX12_tells_13 : decode cX12_tells 13 = .ok (.istore 4, 2) := by decide +kernel
theorem dX12_tells_15 : decode cX12_tells 15 = .ok (.aload_n 0, 1) := by decide +kernel
theorem dX12_tells_16 : decode cX12_tells 16 = .ok (.iload_n 2, 1) := by decide +kernel
theorem dX12_tells_17 : decode cX12_tells 17 = .ok (.iload_n 3, 1) := by decide +kernel
theorem dX12_tells_18 : decode cX12_tells 18 = .ok (.invokevirtual 171, 3) := by decide +kernel
theorem dX12_tells_21 : decode cX12_tells 21 = .ok (.istore 5, 2) := by decide +kernel
theorem dX12_tells_23 : decode cX12_tells 23 = .ok (.aload_n 0, 1) := by decide +kernel
theorem dX12_tells_24 : decode cX12_tells 24 = .ok (.iconst 0, 1) := by decide +kernel
theorem dX12_tells_25 : decode cX12_tells 25 = .ok (.putfield 160, 3) := by decide +kernel
theorem dX12_tells_28 : decode cX12_tells 28 = .ok (.aload_n 0, 1) := by decide +kernel
theorem dX12_tells_29 : decode cX12_tells 29 = .ok (.aload_n 0, 1) := by decide +kernel
theorem dX12_tells_30 : decode cX12_tells 30 = .ok (.iload 5, 2) := by decide +kernel
theorem dX12_tells_32 : decode cX12_tells 32 = .ok (.invokevirtual 112, 3) := by decide +kernel
theorem dX12_tells_35 : decode cX12_tells 35 = .ok (.ifCond .ge 12, 3) := by decide +kernel
theorem dX12_tells_38 : decode cX12_tells 38 = .ok (.aload_n 0, 1) := by decide +kernel
theorem dX12_tells_39 : decode cX12_tells 39 = .ok (.iload 4, 2) := by decide +kernel
theorem dX12_tells_41 : decode cX12_tells 41 = .ok (.invokevirtual 129, 3) := by decide +kernel
theorem dX12_tells_44 : decode cX12_tells 44 = .ok (.goto 5, 3) := by decide +kernel
theorem dX12_tells_47 : decode cX12_tells 47 = .ok (.iload 4, 2) := by decide +kernel
theorem dX12_tells_49 : decode cX12_tells 49 = .ok (.invokevirtual 174, 3) := by decide +kernel
theorem dX12_tells_52 : decode cX12_tells 52 = .ok (.aload_n 0, 1) := by decide +kernel
theorem dX12_tells_53 : decode cX12_tells 53 = .ok (.bipush 47, 2) := by decide +kernel
theorem dX12_tells_55 : decode cX12_tells 55 = .ok (.invokevirtual 163, 3) := by decide +kernel
theorem dX12_tells_58 : decode cX12_tells 58 = .ok (.aload_n 0, 1) := by decide +kernel
theorem dX12_tells_59 : decode cX12_tells 59 = .ok (.aload_n 0, 1) := by decide +kernel
theorem dX12_tells_60 : decode cX12_tells 60 = .ok (.iload 5, 2) := by decide +kernel
theorem dX12_tells_62 : decode cX12_tells 62 = .ok (.invokevirtual 112, 3) := by decide +kernel
theorem dX12_tells_65 : decode cX12_tells 65 = .ok (.ifCond .ge 12, 3) := by decide +kernel
theorem dX12_tells_68 : decode cX12_tells 68 = .ok (.aload_n 0, 1) := by decide +kernel
theorem dX12_tells_69 : decode cX12_tells 69 = .ok (.iload 5, 2) := by decide +kernel
theorem dX12_tells_71 : decode cX12_tells 71 = .ok (.invokevirtual 129, 3) := by decide +kernel
theorem dX12_tells_74 : decode cX12_tells 74 = .ok (.goto 5, 3) := by decide +kernel
theorem dX12_tells_77 : decode cX12_tells 77 = .ok (.iload 5, 2) := by decide +kernel
theorem dX12_tells_79 : decode cX12_tells 79 = .ok (.invokevirtual 174, 3) := by decide +kernel
theorem dX12_tells_82 : decode cX12_tells 82 = .ok (.aload_n 0, 1) := by decide +kernel
theorem dX12_tells_83 : decode cX12_tells 83 = .ok (.iconst 0, 1) := by decide +kernel
theorem dX12_tells_84 : decode cX12_tells 84 = .ok (.putfield 89, 3) := by decide +kernel
theorem dX12_tells_87 : decode cX12_tells 87 = .ok (.aload_n 0, 1) := by decide +kernel
theorem dX12_tells_88 : decode cX12_tells 88 = .ok (.getfield 160, 3) := by decide +kernel
theorem dX12_tells_91 : decode cX12_tells 91 = .ok (.ireturn, 1) := by decide +kernel
theorem dX12_isSection_0 : decode cX12_isSection 0 = .ok (.iload_n 0, 1) := by decide +kernel
theorem dX12_isSection_1 : decode cX12_isSection 1 = .ok (.ifCond .lt 12, 3) := by decide +kernel
theorem dX12_isSection_4 : decode cX12_isSection 4 = .ok (.iload_n 0, 1) := by decide +kernel
theorem dX12_isSection_5 : decode cX12_isSection 5 = .ok (.iconst 4, 1) := by decide +kernel
theorem dX12_isSection_6 : decode cX12_isSection 6 = .ok (.if_icmp .ge 7, 3) := by decide +kernel
theorem dX12_isSection_9 : decode cX12_isSection 9 = .ok (.iconst 1, 1) := by decide +kernel
theorem dX12_isSection_10 : decode cX12_isSection 10 = .ok (.goto 4, 3) := by decide +kernel
theorem dX12_isSection_13 : decode cX12_isSection 13 = .ok (.iconst 0, 1) := by decide +kernel
theorem dX12_isSection_14 : decode cX12_isSection 14 = .ok (.ireturn, 1) := by decide +kernel
theorem dX12_stone_0 : decode cX12_stone 0 = .ok (.iload_n 1, 1) := by decide +kernel
theorem dX12_stone_1 : decode cX12_stone 1 = .ok (.invokestatic 177, 3) := by decide +kernel
theorem dX12_stone_4 : decode cX12_stone 4 = .ok (.ifCond .ne 9, 3) := by decide +kernel
theorem dX12_stone_7 : decode cX12_stone 7 = .ok (.aload_n 0, 1) := by decide +kernel
theorem dX12_stone_8 : decode cX12_stone 8 = .ok (.iconst 1, 1) := by decide +kernel
theorem dX12_stone_9 : decode cX12_stone 9 = .ok (.invokevirtual 181, 3) := by decide +kernel
theorem dX12_stone_12 : decode cX12_stone 12 = .ok (.ireturn, 1) := by decide +kernel
theorem dX12_stone_13 : decode cX12_stone 13 = .ok (.iload_n 2, 1) := by decide +kernel
theorem dX12_stone_14 : decode cX12_stone 14 = .ok (.iconst 1, 1) := by decide +kernel
theorem dX12_stone_15 : decode cX12_stone 15 = .ok (.if_icmp .lt 19, 3) := by decide +kernel
theorem dX12_stone_18 : decode cX12_stone 18 = .ok (.iload_n 2, 1) := by decide +kernel
theorem dX12_stone_19 : decode cX12_stone 19 = .ok (.bipush 50, 2) := by decide +kernel
theorem dX12_stone_21 : decode cX12_stone 21 = .ok (.if_icmp .gt 13, 3) := by decide +kernel
theorem dX12_stone_24 : decode cX12_stone 24 = .ok (.iload_n 3, 1) := by decide +kernel
theorem dX12_stone_25 : decode cX12_stone 25 = .ok (.ifCond .lt 9, 3) := by decide +kernel
theorem dX12_stone_28 : decode cX12_stone 28 = .ok (.iload_n 3, 1) := by decide +kernel
theorem dX12_stone_29 : decode cX12_stone 29 = .ok (.bipush 100, 2) := by decide +kernel
theorem dX12_stone_31 : decode cX12_stone 31 = .ok (.if_icmp .le 9, 3) := by decide +kernel
theorem dX12_stone_34 : decode cX12_stone 34 = .ok (.aload_n 0, 1) := by decide +kernel
theorem dX12_stone_35 : decode cX12_stone 35 = .ok (.iconst 2, 1) := by decide +kernel
theorem dX12_stone_36 : decode cX12_stone 36 = .ok (.invokevirtual 181, 3) := by decide +kernel
theorem dX12_stone_39 : decode cX12_stone 39 = .ok (.ireturn, 1) := by decide +kernel
theorem dX12_stone_40 : decode cX12_stone 40 = .ok (.aload_n 0, 1) := by decide +kernel
theorem dX12_stone_41 : decode cX12_stone 41 = .ok (.getfield 25, 3) := by decide +kernel
theorem dX12_stone_44 : decode cX12_stone 44 = .ok (.iload_n 1, 1) := by decide +kernel
theorem dX12_stone_45 : decode cX12_stone 45 = .ok (.iload_n 2, 1) := by decide +kernel
theorem dX12_stone_46 : decode cX12_stone 46 = .ok (.iastore, 1) := by decide +kernel
theorem dX12_stone_47 : decode cX12_stone 47 = .ok (.aload_n 0, 1) := by decide +kernel
theorem dX12_stone_48 : decode cX12_stone 48 = .ok (.getfield 28, 3) := by decide +kernel
theorem dX12_stone_51 : decode cX12_stone 51 = .ok (.iload_n 1, 1) := by decide +kernel
theorem dX12_stone_52 : decode cX12_stone 52 = .ok (.iload_n 3, 1) := by decide +kernel
theorem dX12_stone_53 : decode cX12_stone 53 = .ok (.iastore, 1) := by decide +kernel
theorem dX12_stone_54 : decode cX12_stone 54 = .ok (.aload_n 0, 1) := by decide +kernel
theorem dX12_stone_55 : decode cX12_stone 55 = .ok (.getfield 31, 3) := by decide +kernel
theorem dX12_stone_58 : decode cX12_stone 58 = .ok (.iload_n 1, 1) := by decide +kernel
theorem dX12_stone_59 : decode cX12_stone 59 = .ok (.iconst 0, 1) := by decide +kernel
theorem dX12_stone_60 : decode cX12_stone 60 = .ok (.iastore, 1) := by decide +kernel
theorem dX12_stone_61 : decode cX12_stone 61 = .ok (.aload_n 0, 1) := by decide +kernel
theorem dX12_stone_62 : decode cX12_stone 62 = .ok (.getfield 34, 3) := by decide +kernel
theorem dX12_stone_65 : decode cX12_stone 65 = .ok (.iload_n 1, 1) := by decide +kernel
theorem dX12_stone_66 : decode cX12_stone 66 = .ok (.iconst 0, 1) := by decide +kernel
theorem dX12_stone_67 : decode cX12_stone 67 = .ok (.iastore, 1) := by decide +kernel
theorem dX12_stone_68 : decode cX12_stone 68 = .ok (.aload_n 0, 1) := by decide +kernel
theorem dX12_stone_69 : decode cX12_stone 69 = .ok (.getfield 37, 3) := by decide +kernel
theorem dX12_stone_72 : decode cX12_stone 72 = .ok (.iload_n 1, 1) := by decide +kernel
theorem dX12_stone_73 : decode cX12_stone 73 = .ok (.iconst 0, 1) := by decide +kernel
theorem dX12_stone_74 : decode cX12_stone 74 = .ok (.iastore, 1) := by decide +kernel
theorem dX12_stone_75 : decode cX12_stone 75 = .ok (.iconst 0, 1) := by decide +kernel
theorem dX12_stone_76 : decode cX12_stone 76 = .ok (.istore 4, 2) := by decide +kernel
theorem dX12_stone_78 : decode cX12_stone 78 = .ok (.iload 4, 2) := by decide +kernel
theorem dX12_stone_80 : decode cX12_stone 80 = .ok (.bipush 100, 2) := by decide +kernel
theorem dX12_stone_82 : decode cX12_stone 82 = .ok (.if_icmp .ge 22, 3) := by decide +kernel
theorem dX12_stone_85 : decode cX12_stone 85 = .ok (.aload_n 0, 1) := by decide +kernel
theorem dX12_stone_86 : decode cX12_stone 86 = .ok (.getfield 40, 3) := by decide +kernel
theorem dX12_stone_89 : decode cX12_stone 89 = .ok (.bipush 100, 2) := by decide +kernel
theorem dX12_stone_91 : decode cX12_stone 91 = .ok (.iload_n 1, 1) := by decide +kernel
theorem dX12_stone_92 : decode cX12_stone 92 = .ok (.imul, 1) := by decide +kernel
theorem dX12_stone_93 : decode cX12_stone 93 = .ok (.iload 4, 2) := by decide +kernel
theorem dX12_stone_95 : decode cX12_stone 95 = .ok (.iadd, 1) := by decide +kernel
theorem dX12_stone_96 : decode cX12_stone 96 = .ok (.iconst 0, 1) := by decide +kernel
theorem dX12_stone_97 : decode cX12_stone 97 = .ok (.iastore, 1) := by decide +kernel
theorem dX12_stone_98 : decode cX12_stone 98 = .ok (.iinc 4 1, 3) := by decide +kernel
theorem dX12_stone_101 : decode cX12_stone 101 = .ok (.goto (-23), 3) := by decide +kernel
theorem dX12_stone_104 : decode cX12_stone 104 = .ok (.aload_n 0, 1) := by decide +kernel
theorem dX12_stone_105 : decode cX12_stone 105 = .ok (.iconst 0, 1) := by decide +kernel
theorem dX12_stone_106 : decode cX12_stone 106 = .ok (.invokevirtual 181, 3) := by decide +kernel
theorem dX12_stone_109 : decode cX12_stone 109 = .ok (.ireturn, 1) := by decide +kernel
theorem dX12_band_0 : decode cX12_band 0 = .ok (.iload_n 1, 1) := by decide +kernel
theorem dX12_band_1 : decode cX12_band 1 = .ok (.invokestatic 177, 3) := by decide +kernel
theorem dX12_band_4 : decode cX12_band 4 = .ok (.ifCond .ne 9, 3) := by decide +kernel
theorem dX12_band_7 : decode cX12_band 7 = .ok (.aload_n 0, 1) := by decide +kernel
theorem dX12_band_8 : decode cX12_band 8 = .ok (.iconst 1, 1) := by decide +kernel
theorem dX12_band_9 : decode cX12_band 9 = .ok (.invokevirtual 184, 3) := by decide +kernel
theorem dX12_band_12 : decode cX12_band 12 = .ok (.ireturn, 1) := by decide +kernel
theorem dX12_band_13 : decode cX12_band 13 = .ok (.iload_n 2, 1) := by decide +kernel
theorem dX12_band_14 : decode cX12_band 14 = .ok (.iconst 1, 1) := by decide +kernel
theorem dX12_band_15 : decode cX12_band 15 = .ok (.if_icmp .lt 26, 3) := by decide +kernel
theorem dX12_band_18 : decode cX12_band 18 = .ok (.iload_n 2, 1) := by decide +kernel
theorem dX12_band_19 : decode cX12_band 19 = .ok (.bipush 100, 2) := by decide +kernel
theorem dX12_band_21 : decode cX12_band 21 = .ok (.if_icmp .gt 20, 3) := by decide +kernel
theorem dX12_band_24 : decode cX12_band 24 = .ok (.iload_n 3, 1) := by decide +kernel
theorem dX12_band_25 : decode cX12_band 25 = .ok (.ifCond .lt 16, 3) := by decide +kernel
theorem dX12_band_28 : decode cX12_band 28 = .ok (.iload 4, 2) := by decide +kernel
theorem dX12_band_30 : decode cX12_band 30 = .ok (.bipush 100, 2) := by decide +kernel
theorem dX12_band_32 : decode cX12_band 32 = .ok (.if_icmp .gt 9, 3) := by decide +kernel
theorem dX12_band_35 : decode cX12_band 35 = .ok (.iload_n 3, 1) := by decide +kernel
theorem dX12_band_36 : decode cX12_band 36 = .ok (.iload 4, 2) := by decide +kernel
theorem dX12_band_38 : decode cX12_band 38 = .ok (.if_icmp .lt 9, 3) := by decide +kernel
theorem dX12_band_41 : decode cX12_band 41 = .ok (.aload_n 0, 1) := by decide +kernel
theorem dX12_band_42 : decode cX12_band 42 = .ok (.iconst 2, 1) := by decide +kernel
theorem dX12_band_43 : decode cX12_band 43 = .ok (.invokevirtual 184, 3) := by decide +kernel
theorem dX12_band_46 : decode cX12_band 46 = .ok (.ireturn, 1) := by decide +kernel
theorem dX12_band_47 : decode cX12_band 47 = .ok (.aload_n 0, 1) := by decide +kernel
theorem dX12_band_48 : decode cX12_band 48 = .ok (.getfield 31, 3) := by decide +kernel
theorem dX12_band_51 : decode cX12_band 51 = .ok (.iload_n 1, 1) := by decide +kernel
theorem dX12_band_52 : decode cX12_band 52 = .ok (.iaload, 1) := by decide +kernel
theorem dX12_band_53 : decode cX12_band 53 = .ok (.bipush 8, 2) := by decide +kernel
theorem dX12_band_55 : decode cX12_band 55 = .ok (.if_icmp .ne 9, 3) := by decide +kernel
theorem dX12_band_58 : decode cX12_band 58 = .ok (.aload_n 0, 1) := by decide +kernel
theorem dX12_band_59 : decode cX12_band 59 = .ok (.iconst 3, 1) := by decide +kernel
theorem dX12_band_60 : decode cX12_band 60 = .ok (.invokevirtual 184, 3) := by decide +kernel
theorem dX12_band_63 : decode cX12_band 63 = .ok (.ireturn, 1) := by decide +kernel
theorem dX12_band_64 : decode cX12_band 64 = .ok (.iload_n 3, 1) := by decide +kernel
theorem dX12_band_65 : decode cX12_band 65 = .ok (.istore 5, 2) := by decide +kernel
theorem dX12_band_67 : decode cX12_band 67 = .ok (.iload 5, 2) := by decide +kernel
theorem dX12_band_69 : decode cX12_band 69 = .ok (.iload 4, 2) := by decide +kernel
theorem dX12_band_71 : decode cX12_band 71 = .ok (.if_icmp .ge 25, 3) := by decide +kernel
theorem dX12_band_74 : decode cX12_band 74 = .ok (.aload_n 0, 1) := by decide +kernel
theorem dX12_band_75 : decode cX12_band 75 = .ok (.getfield 40, 3) := by decide +kernel
theorem dX12_band_78 : decode cX12_band 78 = .ok (.bipush 100, 2) := by decide +kernel
theorem dX12_band_80 : decode cX12_band 80 = .ok (.iload_n 1, 1) := by decide +kernel
theorem dX12_band_81 : decode cX12_band 81 = .ok (.imul, 1) := by decide +kernel
theorem dX12_band_82 : decode cX12_band 82 = .ok (.iload 5, 2) := by decide +kernel
theorem dX12_band_84 : decode cX12_band 84 = .ok (.iadd, 1) := by decide +kernel
theorem dX12_band_85 : decode cX12_band 85 = .ok (.dup2, 1) := by decide +kernel
theorem dX12_band_86 : decode cX12_band 86 = .ok (.iaload, 1) := by decide +kernel
theorem dX12_band_87 : decode cX12_band 87 = .ok (.iload_n 2, 1) := by decide +kernel
theorem dX12_band_88 : decode cX12_band 88 = .ok (.iadd, 1) := by decide +kernel
theorem dX12_band_89 : decode cX12_band 89 = .ok (.iastore, 1) := by decide +kernel
theorem dX12_band_90 : decode cX12_band 90 = .ok (.iinc 5 1, 3) := by decide +kernel
theorem dX12_band_93 : decode cX12_band 93 = .ok (.goto (-26), 3) := by decide +kernel
theorem dX12_band_96 : decode cX12_band 96 = .ok (.aload_n 0, 1) := by decide +kernel
theorem dX12_band_97 : decode cX12_band 97 = .ok (.getfield 37, 3) := by decide +kernel
theorem dX12_band_100 : decode cX12_band 100 = .ok (.iload_n 1, 1) := by decide +kernel
theorem dX12_band_101 : decode cX12_band 101 = .ok (.dup2, 1) := by decide +kernel
theorem dX12_band_102 : decode cX12_band 102 = .ok (.iaload, 1) := by decide +kernel
theorem dX12_band_103 : decode cX12_band 103 = .ok (.iload_n 2, 1) := by decide +kernel
theorem dX12_band_104 : decode cX12_band 104 = .ok (.iload 4, 2) := by decide +kernel
theorem dX12_band_106 : decode cX12_band 106 = .ok (.iload_n 3, 1) := by decide +kernel
theorem dX12_band_107 : decode cX12_band 107 = .ok (.isub, 1) := by decide +kernel
theorem dX12_band_108 : decode cX12_band 108 = .ok (.imul, 1) := by decide +kernel
theorem dX12_band_109 : decode cX12_band 109 = .ok (.iadd, 1) := by decide +kernel
theorem dX12_band_110 : decode cX12_band 110 = .ok (.iastore, 1) := by decide +kernel
theorem dX12_band_111 : decode cX12_band 111 = .ok (.aload_n 0, 1) := by decide +kernel
theorem dX12_band_112 : decode cX12_band 112 = .ok (.getfield 31, 3) := by decide +kernel
theorem dX12_band_115 : decode cX12_band 115 = .ok (.iload_n 1, 1) := by decide +kernel
theorem dX12_band_116 : decode cX12_band 116 = .ok (.dup2, 1) := by decide +kernel
theorem dX12_band_117 : decode cX12_band 117 = .ok (.iaload, 1) := by decide +kernel
theorem dX12_band_118 : decode cX12_band 118 = .ok (.iconst 1, 1) := by decide +kernel
theorem dX12_band_119 : decode cX12_band 119 = .ok (.iadd, 1) := by decide +kernel
theorem dX12_band_120 : decode cX12_band 120 = .ok (.iastore, 1) := by decide +kernel
theorem dX12_band_121 : decode cX12_band 121 = .ok (.aload_n 0, 1) := by decide +kernel
theorem dX12_band_122 : decode cX12_band 122 = .ok (.iconst 0, 1) := by decide +kernel
theorem dX12_band_123 : decode cX12_band 123 = .ok (.putfield 89, 3) := by decide +kernel
theorem dX12_band_126 : decode cX12_band 126 = .ok (.aload_n 0, 1) := by decide +kernel
theorem dX12_band_127 : decode cX12_band 127 = .ok (.getfield 31, 3) := by decide +kernel
theorem dX12_band_130 : decode cX12_band 130 = .ok (.iload_n 1, 1) := by decide +kernel
theorem dX12_band_131 : decode cX12_band 131 = .ok (.iaload, 1) := by decide +kernel
theorem dX12_band_132 : decode cX12_band 132 = .ok (.iconst 1, 1) := by decide +kernel
theorem dX12_band_133 : decode cX12_band 133 = .ok (.isub, 1) := by decide +kernel
theorem dX12_band_134 : decode cX12_band 134 = .ok (.ireturn, 1) := by decide +kernel
theorem dX12_rod_0 : decode cX12_rod 0 = .ok (.iload_n 1, 1) := by decide +kernel
theorem dX12_rod_1 : decode cX12_rod 1 = .ok (.invokestatic 177, 3) := by decide +kernel
theorem dX12_rod_4 : decode cX12_rod 4 = .ok (.ifCond .ne 9, 3) := by decide +kernel
theorem dX12_rod_7 : decode cX12_rod 7 = .ok (.aload_n 0, 1) := by decide +kernel
theorem dX12_rod_8 : decode cX12_rod 8 = .ok (.iconst 1, 1) := by decide +kernel
theorem dX12_rod_9 : decode cX12_rod 9 = .ok (.invokevirtual 184, 3) := by decide +kernel
theorem dX12_rod_12 : decode cX12_rod 12 = .ok (.ireturn, 1) := by decide +kernel
theorem dX12_rod_13 : decode cX12_rod 13 = .ok (.iload_n 2, 1) := by decide +kernel
theorem dX12_rod_14 : decode cX12_rod 14 = .ok (.ifCond .lt 20, 3) := by decide +kernel
theorem dX12_rod_17 : decode cX12_rod 17 = .ok (.iload_n 2, 1) := by decide +kernel
theorem dX12_rod_18 : decode cX12_rod 18 = .ok (.bipush 100, 2) := by decide +kernel
theorem dX12_rod_20 : decode cX12_rod 20 = .ok (.if_icmp .gt 14, 3) := by decide +kernel
theorem dX12_rod_23 : decode cX12_rod 23 = .ok (.iload_n 3, 1) := by decide +kernel
theorem dX12_rod_24 : decode cX12_rod 24 = .ok (.ifCond .lt 10, 3) := by decide +kernel
theorem dX12_rod_27 : decode cX12_rod 27 = .ok (.iload_n 3, 1) := by decide +kernel
theorem dX12_rod_28 : decode cX12_rod 28 = .ok (.sipush 200, 3) := by decide +kernel
theorem dX12_rod_31 : decode cX12_rod 31 = .ok (.if_icmp .le 9, 3) := by decide +kernel
theorem dX12_rod_34 : decode cX12_rod 34 = .ok (.aload_n 0, 1) := by decide +kernel
theorem dX12_rod_35 : decode cX12_rod 35 = .ok (.iconst 2, 1) := by decide +kernel
theorem dX12_rod_36 : decode cX12_rod 36 = .ok (.invokevirtual 184, 3) := by decide +kernel
theorem dX12_rod_39 : decode cX12_rod 39 = .ok (.ireturn, 1) := by decide +kernel
theorem dX12_rod_40 : decode cX12_rod 40 = .ok (.aload_n 0, 1) := by decide +kernel
theorem dX12_rod_41 : decode cX12_rod 41 = .ok (.getfield 34, 3) := by decide +kernel
theorem dX12_rod_44 : decode cX12_rod 44 = .ok (.iload_n 1, 1) := by decide +kernel
theorem dX12_rod_45 : decode cX12_rod 45 = .ok (.iaload, 1) := by decide +kernel
theorem dX12_rod_46 : decode cX12_rod 46 = .ok (.bipush 6, 2) := by decide +kernel
theorem dX12_rod_48 : decode cX12_rod 48 = .ok (.if_icmp .ne 9, 3) := by decide +kernel
theorem dX12_rod_51 : decode cX12_rod 51 = .ok (.aload_n 0, 1) := by decide +kernel
theorem dX12_rod_52 : decode cX12_rod 52 = .ok (.iconst 3, 1) := by decide +kernel
theorem dX12_rod_53 : decode cX12_rod 53 = .ok (.invokevirtual 184, 3) := by decide +kernel
theorem dX12_rod_56 : decode cX12_rod 56 = .ok (.ireturn, 1) := by decide +kernel
theorem dX12_rod_57 : decode cX12_rod 57 = .ok (.aload_n 0, 1) := by decide +kernel
theorem dX12_rod_58 : decode cX12_rod 58 = .ok (.getfield 43, 3) := by decide +kernel
theorem dX12_rod_61 : decode cX12_rod 61 = .ok (.bipush 6, 2) := by decide +kernel
theorem dX12_rod_63 : decode cX12_rod 63 = .ok (.iload_n 1, 1) := by decide +kernel
theorem dX12_rod_64 : decode cX12_rod 64 = .ok (.imul, 1) := by decide +kernel
theorem dX12_rod_65 : decode cX12_rod 65 = .ok (.aload_n 0, 1) := by decide +kernel
theorem dX12_rod_66 : decode cX12_rod 66 = .ok (.getfield 34, 3) := by decide +kernel
theorem dX12_rod_69 : decode cX12_rod 69 = .ok (.iload_n 1, 1) := by decide +kernel
theorem dX12_rod_70 : decode cX12_rod 70 = .ok (.iaload, 1) := by decide +kernel
theorem dX12_rod_71 : decode cX12_rod 71 = .ok (.iadd, 1) := by decide +kernel
theorem dX12_rod_72 : decode cX12_rod 72 = .ok (.iload_n 2, 1) := by decide +kernel
theorem dX12_rod_73 : decode cX12_rod 73 = .ok (.iastore, 1) := by decide +kernel
theorem dX12_rod_74 : decode cX12_rod 74 = .ok (.aload_n 0, 1) := by decide +kernel
theorem dX12_rod_75 : decode cX12_rod 75 = .ok (.getfield 46, 3) := by decide +kernel
theorem dX12_rod_78 : decode cX12_rod 78 = .ok (.bipush 6, 2) := by decide +kernel
theorem dX12_rod_80 : decode cX12_rod 80 = .ok (.iload_n 1, 1) := by decide +kernel
theorem dX12_rod_81 : decode cX12_rod 81 = .ok (.imul, 1) := by decide +kernel
theorem dX12_rod_82 : decode cX12_rod 82 = .ok (.aload_n 0, 1) := by decide +kernel
theorem dX12_rod_83 : decode cX12_rod 83 = .ok (.getfield 34, 3) := by decide +kernel
theorem dX12_rod_86 : decode cX12_rod 86 = .ok (.iload_n 1, 1) := by decide +kernel
theorem dX12_rod_87 : decode cX12_rod 87 = .ok (.iaload, 1) := by decide +kernel
theorem dX12_rod_88 : decode cX12_rod 88 = .ok (.iadd, 1) := by decide +kernel
theorem dX12_rod_89 : decode cX12_rod 89 = .ok (.iload_n 3, 1) := by decide +kernel
theorem dX12_rod_90 : decode cX12_rod 90 = .ok (.iastore, 1) := by decide +kernel
theorem dX12_rod_91 : decode cX12_rod 91 = .ok (.aload_n 0, 1) := by decide +kernel
theorem dX12_rod_92 : decode cX12_rod 92 = .ok (.getfield 34, 3) := by decide +kernel
theorem dX12_rod_95 : decode cX12_rod 95 = .ok (.iload_n 1, 1) := by decide +kernel
theorem dX12_rod_96 : decode cX12_rod 96 = .ok (.dup2, 1) := by decide +kernel
theorem dX12_rod_97 : decode cX12_rod 97 = .ok (.iaload, 1) := by decide +kernel
theorem dX12_rod_98 : decode cX12_rod 98 = .ok (.iconst 1, 1) := by decide +kernel
theorem dX12_rod_99 : decode cX12_rod 99 = .ok (.iadd, 1) := by decide +kernel
theorem dX12_rod_100 : decode cX12_rod 100 = .ok (.iastore, 1) := by decide +kernel
theorem dX12_rod_101 : decode cX12_rod 101 = .ok (.aload_n 0, 1) := by decide +kernel
theorem dX12_rod_102 : decode cX12_rod 102 = .ok (.iconst 0, 1) := by decide +kernel
theorem dX12_rod_103 : decode cX12_rod 103 = .ok (.putfield 89, 3) := by decide +kernel
theorem dX12_rod_106 : decode cX12_rod 106 = .ok (.aload_n 0, 1) := by decide +kernel
theorem dX12_rod_107 : decode cX12_rod 107 = .ok (.getfield 34, 3) := by decide +kernel
theorem dX12_rod_110 : decode cX12_rod 110 = .ok (.iload_n 1, 1) := by decide +kernel
theorem dX12_rod_111 : decode cX12_rod 111 = .ok (.iaload, 1) := by decide +kernel
theorem dX12_rod_112 : decode cX12_rod 112 = .ok (.iconst 1, 1) := by decide +kernel
theorem dX12_rod_113 : decode cX12_rod 113 = .ok (.isub, 1) := by decide +kernel
theorem dX12_rod_114 : decode cX12_rod 114 = .ok (.ireturn, 1) := by decide +kernel
theorem dX12_isRod_0 : decode cX12_isRod 0 = .ok (.iload_n 1, 1) := by decide +kernel
theorem dX12_isRod_1 : decode cX12_isRod 1 = .ok (.invokestatic 177, 3) := by decide +kernel
theorem dX12_isRod_4 : decode cX12_isRod 4 = .ok (.ifCond .eq 21, 3) := by decide +kernel
theorem dX12_isRod_7 : decode cX12_isRod 7 = .ok (.iload_n 2, 1) := by decide +kernel
theorem dX12_isRod_8 : decode cX12_isRod 8 = .ok (.ifCond .lt 17, 3) := by decide +kernel
theorem dX12_isRod_11 : decode cX12_isRod 11 = .ok (.iload_n 2, 1) := by decide +kernel
theorem dX12_isRod_12 : decode cX12_isRod 12 = .ok (.aload_n 0, 1) := by decide +kernel
theorem dX12_isRod_13 : decode cX12_isRod 13 = .ok (.getfield 34, 3) := by decide +kernel
theorem dX12_isRod_16 : decode cX12_isRod 16 = .ok (.iload_n 1, 1) := by decide +kernel
theorem dX12_isRod_17 : decode cX12_isRod 17 = .ok (.iaload, 1) := by decide +kernel
theorem dX12_isRod_18 : decode cX12_isRod 18 = .ok (.if_icmp .ge 7, 3) := by decide +kernel
theorem dX12_isRod_21 : decode cX12_isRod 21 = .ok (.iconst 1, 1) := by decide +kernel
theorem dX12_isRod_22 : decode cX12_isRod 22 = .ok (.goto 4, 3) := by decide +kernel
theorem dX12_isRod_25 : decode cX12_isRod 25 = .ok (.iconst 0, 1) := by decide +kernel
theorem dX12_isRod_26 : decode cX12_isRod 26 = .ok (.ireturn, 1) := by decide +kernel
theorem dX12_change_0 : decode cX12_change 0 = .ok (.aload_n 0, 1) := by decide +kernel
theorem dX12_change_1 : decode cX12_change 1 = .ok (.iload_n 1, 1) := by decide +kernel
theorem dX12_change_2 : decode cX12_change 2 = .ok (.iload_n 2, 1) := by decide +kernel
theorem dX12_change_3 : decode cX12_change 3 = .ok (.invokevirtual 187, 3) := by decide +kernel
theorem dX12_change_6 : decode cX12_change 6 = .ok (.ifCond .ne 9, 3) := by decide +kernel
theorem dX12_change_9 : decode cX12_change 9 = .ok (.aload_n 0, 1) := by decide +kernel
theorem dX12_change_10 : decode cX12_change 10 = .ok (.iconst 1, 1) := by decide +kernel
theorem dX12_change_11 : decode cX12_change 11 = .ok (.invokevirtual 181, 3) := by decide +kernel
theorem dX12_change_14 : decode cX12_change 14 = .ok (.ireturn, 1) := by decide +kernel
theorem dX12_change_15 : decode cX12_change 15 = .ok (.iload_n 3, 1) := by decide +kernel
theorem dX12_change_16 : decode cX12_change 16 = .ok (.ifCond .lt 10, 3) := by decide +kernel
theorem dX12_change_19 : decode cX12_change 19 = .ok (.iload_n 3, 1) := by decide +kernel
theorem dX12_change_20 : decode cX12_change 20 = .ok (.sipush 200, 3) := by decide +kernel
theorem dX12_change_23 : decode cX12_change 23 = .ok (.if_icmp .le 9, 3) := by decide +kernel
theorem dX12_change_26 : decode cX12_change 26 = .ok (.aload_n 0, 1) := by decide +kernel
theorem dX12_change_27 : decode cX12_change 27 = .ok (.iconst 2, 1) := by decide +kernel
theorem dX12_change_28 : decode cX12_change 28 = .ok (.invokevirtual 181, 3) := by decide +kernel
theorem dX12_change_31 : decode cX12_change 31 = .ok (.ireturn, 1) := by decide +kernel
theorem dX12_change_32 : decode cX12_change 32 = .ok (.aload_n 0, 1) := by decide +kernel
theorem dX12_change_33 : decode cX12_change 33 = .ok (.getfield 46, 3) := by decide +kernel
theorem dX12_change_36 : decode cX12_change 36 = .ok (.bipush 6, 2) := by decide +kernel
theorem dX12_change_38 : decode cX12_change 38 = .ok (.iload_n 1, 1) := by decide +kernel
theorem dX12_change_39 : decode cX12_change 39 = .ok (.imul, 1) := by decide +kernel
theorem dX12_change_40 : decode cX12_change 40 = .ok (.iload_n 2, 1) := by decide +kernel
theorem dX12_change_41 : decode cX12_change 41 = .ok (.iadd, 1) := by decide +kernel
theorem dX12_change_42 : decode cX12_change 42 = .ok (.iload_n 3, 1) := by decide +kernel
theorem dX12_change_43 : decode cX12_change 43 = .ok (.iastore, 1) := by decide +kernel
theorem dX12_change_44 : decode cX12_change 44 = .ok (.aload_n 0, 1) := by decide +kernel
theorem dX12_change_45 : decode cX12_change 45 = .ok (.iconst 0, 1) := by decide +kernel
theorem dX12_change_46 : decode cX12_change 46 = .ok (.invokevirtual 181, 3) := by decide +kernel
theorem dX12_change_49 : decode cX12_change 49 = .ok (.ireturn, 1) := by decide +kernel
theorem dX12_asTold_0 : decode cX12_asTold 0 = .ok (.iconst 0, 1) := by decide +kernel
theorem dX12_asTold_1 : decode cX12_asTold 1 = .ok (.istore_n 2, 1) := by decide +kernel
theorem dX12_asTold_2 : decode cX12_asTold 2 = .ok (.iload_n 2, 1) := by decide +kernel
theorem dX12_asTold_3 : decode cX12_asTold 3 = .ok (.bipush 6, 2) := by decide +kernel
theorem dX12_asTold_5 : decode cX12_asTold 5 = .ok (.if_icmp .ge 40, 3) := by decide +kernel
theorem dX12_asTold_8 : decode cX12_asTold 8 = .ok (.aload_n 0, 1) := by decide +kernel
theorem dX12_asTold_9 : decode cX12_asTold 9 = .ok (.getfield 49, 3) := by decide +kernel
theorem dX12_asTold_12 : decode cX12_asTold 12 = .ok (.iload_n 2, 1) := by decide +kernel
theorem dX12_asTold_13 : decode cX12_asTold 13 = .ok (.iload_n 2, 1) := by decide +kernel
theorem dX12_asTold_14 : decode cX12_asTold 14 = .ok (.aload_n 0, 1) := by decide +kernel
theorem dX12_asTold_15 : decode cX12_asTold 15 = .ok (.getfield 34, 3) := by decide +kernel
theorem dX12_asTold_18 : decode cX12_asTold 18 = .ok (.iload_n 1, 1) := by decide +kernel
theorem dX12_asTold_19 : decode cX12_asTold 19 = .ok (.iaload, 1) := by decide +kernel
theorem dX12_asTold_20 : decode cX12_asTold 20 = .ok (.if_icmp .ge 17, 3) := by decide +kernel
theorem dX12_asTold_23 : decode cX12_asTold 23 = .ok (.aload_n 0, 1) := by decide +kernel
theorem dX12_asTold_24 : decode cX12_asTold 24 = .ok (.getfield 46, 3) := by decide +kernel
theorem dX12_asTold_27 : decode cX12_asTold 27 = .ok (.bipush 6, 2) := by decide +kernel
theorem dX12_asTold_29 : decode cX12_asTold 29 = .ok (.iload_n 1, 1) := by decide +kernel
theorem dX12_asTold_30 : decode cX12_asTold 30 = .ok (.imul, 1) := by decide +kernel
theorem dX12_asTold_31 : decode cX12_asTold 31 = .ok (.iload_n 2, 1) := by decide +kernel
theorem dX12_asTold_32 : decode cX12_asTold 32 = .ok (.iadd, 1) := by decide +kernel
theorem dX12_asTold_33 : decode cX12_asTold 33 = .ok (.iaload, 1) := by decide +kernel
theorem dX12_asTold_34 : decode cX12_asTold 34 = .ok (.goto 4, 3) := by decide +kernel
theorem dX12_asTold_37 : decode cX12_asTold 37 = .ok (.iconst 0, 1) := by decide +kernel
theorem dX12_asTold_38 : decode cX12_asTold 38 = .ok (.iastore, 1) := by decide +kernel
theorem dX12_asTold_39 : decode cX12_asTold 39 = .ok (.iinc 2 1, 3) := by decide +kernel
theorem dX12_asTold_42 : decode cX12_asTold 42 = .ok (.goto (-40), 3) := by decide +kernel
theorem dX12_asTold_45 : decode cX12_asTold 45 = .ok (.return_, 1) := by decide +kernel
theorem dX12_pulls_0 : decode cX12_pulls 0 = .ok (.iconst 0, 1) := by decide +kernel
theorem dX12_pulls_1 : decode cX12_pulls 1 = .ok (.istore_n 1, 1) := by decide +kernel
theorem dX12_pulls_2 : decode cX12_pulls 2 = .ok (.iconst 0, 1) := by decide +kernel
theorem dX12_pulls_3 : decode cX12_pulls 3 = .ok (.istore_n 2, 1) := by decide +kernel
theorem dX12_pulls_4 : decode cX12_pulls 4 = .ok (.iload_n 2, 1) := by decide +kernel
theorem dX12_pulls_5 : decode cX12_pulls 5 = .ok (.bipush 6, 2) := by decide +kernel
theorem dX12_pulls_7 : decode cX12_pulls 7 = .ok (.if_icmp .ge 18, 3) := by decide +kernel
theorem dX12_pulls_10 : decode cX12_pulls 10 = .ok (.iload_n 1, 1) := by decide +kernel
theorem dX12_pulls_11 : decode cX12_pulls 11 = .ok (.aload_n 0, 1) := by decide +kernel
theorem dX12_pulls_12 : decode cX12_pulls 12 = .ok (.getfield 49, 3) := by decide +kernel
theorem dX12_pulls_15 : decode cX12_pulls 15 = .ok (.iload_n 2, 1) := by decide +kernel
theorem dX12_pulls_16 : decode cX12_pulls 16 = .ok (.iaload, 1) := by decide +kernel
theorem dX12_pulls_17 : decode cX12_pulls 17 = .ok (.iadd, 1) := by decide +kernel
theorem dX12_pulls_18 : decode cX12_pulls 18 = .ok (.istore_n 1, 1) := by decide +kernel
theorem dX12_pulls_19 : decode cX12_pulls 19 = .ok (.iinc 2 1, 3) := by decide +kernel
theorem dX12_pulls_22 : decode cX12_pulls 22 = .ok (.goto (-18), 3) := by decide +kernel
theorem dX12_pulls_25 : decode cX12_pulls 25 = .ok (.iload_n 1, 1) := by decide +kernel
theorem dX12_pulls_26 : decode cX12_pulls 26 = .ok (.ireturn, 1) := by decide +kernel
theorem dX12_greatest_0 : decode cX12_greatest 0 = .ok (.aload_n 0, 1) := by decide +kernel
theorem dX12_greatest_1 : decode cX12_greatest 1 = .ok (.getfield 25, 3) := by decide +kernel
theorem dX12_greatest_4 : decode cX12_greatest 4 = .ok (.iload_n 1, 1) := by decide +kernel
theorem dX12_greatest_5 : decode cX12_greatest 5 = .ok (.iaload, 1) := by decide +kernel
theorem dX12_greatest_6 : decode cX12_greatest 6 = .ok (.aload_n 0, 1) := by decide +kernel
theorem dX12_greatest_7 : decode cX12_greatest 7 = .ok (.getfield 37, 3) := by decide +kernel
theorem dX12_greatest_10 : decode cX12_greatest 10 = .ok (.iload_n 1, 1) := by decide +kernel
theorem dX12_greatest_11 : decode cX12_greatest 11 = .ok (.iaload, 1) := by decide +kernel
theorem dX12_greatest_12 : decode cX12_greatest 12 = .ok (.imul, 1) := by decide +kernel
theorem dX12_greatest_13 : decode cX12_greatest 13 = .ok (.aload_n 0, 1) := by decide +kernel
theorem dX12_greatest_14 : decode cX12_greatest 14 = .ok (.invokevirtual 191, 3) := by decide +kernel
theorem dX12_greatest_17 : decode cX12_greatest 17 = .ok (.iadd, 1) := by decide +kernel
theorem dX12_greatest_18 : decode cX12_greatest 18 = .ok (.ireturn, 1) := by decide +kernel
theorem dX12_told_0 : decode cX12_told 0 = .ok (.iload_n 1, 1) := by decide +kernel
theorem dX12_told_1 : decode cX12_told 1 = .ok (.invokestatic 177, 3) := by decide +kernel
theorem dX12_told_4 : decode cX12_told 4 = .ok (.ifCond .ne 9, 3) := by decide +kernel
theorem dX12_told_7 : decode cX12_told 7 = .ok (.aload_n 0, 1) := by decide +kernel
theorem dX12_told_8 : decode cX12_told 8 = .ok (.iconst 1, 1) := by decide +kernel
theorem dX12_told_9 : decode cX12_told 9 = .ok (.invokevirtual 184, 3) := by decide +kernel
theorem dX12_told_12 : decode cX12_told 12 = .ok (.ireturn, 1) := by decide +kernel
theorem dX12_told_13 : decode cX12_told 13 = .ok (.iload_n 2, 1) := by decide +kernel
theorem dX12_told_14 : decode cX12_told 14 = .ok (.ifCond .lt 9, 3) := by decide +kernel
theorem dX12_told_17 : decode cX12_told 17 = .ok (.iload_n 2, 1) := by decide +kernel
theorem dX12_told_18 : decode cX12_told 18 = .ok (.bipush 6, 2) := by decide +kernel
theorem dX12_told_20 : decode cX12_told 20 = .ok (.if_icmp .le 9, 3) := by decide +kernel
theorem dX12_told_23 : decode cX12_told 23 = .ok (.aload_n 0, 1) := by decide +kernel
theorem dX12_told_24 : decode cX12_told 24 = .ok (.iconst 2, 1) := by decide +kernel
theorem dX12_told_25 : decode cX12_told 25 = .ok (.invokevirtual 184, 3) := by decide +kernel
theorem dX12_told_28 : decode cX12_told 28 = .ok (.ireturn, 1) := by decide +kernel
theorem dX12_told_29 : decode cX12_told 29 = .ok (.aload_n 0, 1) := by decide +kernel
theorem dX12_told_30 : decode cX12_told 30 = .ok (.iconst 0, 1) := by decide +kernel
theorem dX12_told_31 : decode cX12_told 31 = .ok (.putfield 89, 3) := by decide +kernel
theorem dX12_told_34 : decode cX12_told 34 = .ok (.aload_n 0, 1) := by decide +kernel
theorem dX12_told_35 : decode cX12_told 35 = .ok (.iload_n 1, 1) := by decide +kernel
theorem dX12_told_36 : decode cX12_told 36 = .ok (.invokevirtual 195, 3) := by decide +kernel
theorem dX12_told_39 : decode cX12_told 39 = .ok (.iload_n 2, 1) := by decide +kernel
theorem dX12_told_40 : decode cX12_told 40 = .ok (.tableswitch 81 0 5 #[40, 47, 54, 61, 68, 75], 40) := by decide +kernel
theorem dX12_told_80 : decode cX12_told 80 = .ok (.aload_n 0, 1) := by decide +kernel
theorem dX12_told_81 : decode cX12_told 81 = .ok (.getfield 25, 3) := by decide +kernel
theorem dX12_told_84 : decode cX12_told 84 = .ok (.iload_n 1, 1) := by decide +kernel
theorem dX12_told_85 : decode cX12_told 85 = .ok (.iaload, 1) := by decide +kernel
theorem dX12_told_86 : decode cX12_told 86 = .ok (.ireturn, 1) := by decide +kernel
theorem dX12_told_87 : decode cX12_told 87 = .ok (.aload_n 0, 1) := by decide +kernel
theorem dX12_told_88 : decode cX12_told 88 = .ok (.getfield 28, 3) := by decide +kernel
theorem dX12_told_91 : decode cX12_told 91 = .ok (.iload_n 1, 1) := by decide +kernel
theorem dX12_told_92 : decode cX12_told 92 = .ok (.iaload, 1) := by decide +kernel
theorem dX12_told_93 : decode cX12_told 93 = .ok (.ireturn, 1) := by decide +kernel
theorem dX12_told_94 : decode cX12_told 94 = .ok (.aload_n 0, 1) := by decide +kernel
theorem dX12_told_95 : decode cX12_told 95 = .ok (.getfield 31, 3) := by decide +kernel
theorem dX12_told_98 : decode cX12_told 98 = .ok (.iload_n 1, 1) := by decide +kernel
theorem dX12_told_99 : decode cX12_told 99 = .ok (.iaload, 1) := by decide +kernel
theorem dX12_told_100 : decode cX12_told 100 = .ok (.ireturn, 1) := by decide +kernel
theorem dX12_told_101 : decode cX12_told 101 = .ok (.aload_n 0, 1) := by decide +kernel
theorem dX12_told_102 : decode cX12_told 102 = .ok (.getfield 34, 3) := by decide +kernel
theorem dX12_told_105 : decode cX12_told 105 = .ok (.iload_n 1, 1) := by decide +kernel
theorem dX12_told_106 : decode cX12_told 106 = .ok (.iaload, 1) := by decide +kernel
theorem dX12_told_107 : decode cX12_told 107 = .ok (.ireturn, 1) := by decide +kernel
theorem dX12_told_108 : decode cX12_told 108 = .ok (.aload_n 0, 1) := by decide +kernel
theorem dX12_told_109 : decode cX12_told 109 = .ok (.getfield 37, 3) := by decide +kernel
theorem dX12_told_112 : decode cX12_told 112 = .ok (.iload_n 1, 1) := by decide +kernel
theorem dX12_told_113 : decode cX12_told 113 = .ok (.iaload, 1) := by decide +kernel
theorem dX12_told_114 : decode cX12_told 114 = .ok (.ireturn, 1) := by decide +kernel
theorem dX12_told_115 : decode cX12_told 115 = .ok (.aload_n 0, 1) := by decide +kernel
theorem dX12_told_116 : decode cX12_told 116 = .ok (.iload_n 1, 1) := by decide +kernel
theorem dX12_told_117 : decode cX12_told 117 = .ok (.invokevirtual 198, 3) := by decide +kernel
theorem dX12_told_120 : decode cX12_told 120 = .ok (.ireturn, 1) := by decide +kernel
theorem dX12_told_121 : decode cX12_told 121 = .ok (.aload_n 0, 1) := by decide +kernel
theorem dX12_told_122 : decode cX12_told 122 = .ok (.invokevirtual 191, 3) := by decide +kernel
theorem dX12_told_125 : decode cX12_told 125 = .ok (.ineg, 1) := by decide +kernel
theorem dX12_told_126 : decode cX12_told 126 = .ok (.ireturn, 1) := by decide +kernel
theorem dX12_strength_0 : decode cX12_strength 0 = .ok (.aload_n 0, 1) := by decide +kernel
theorem dX12_strength_1 : decode cX12_strength 1 = .ok (.iload_n 1, 1) := by decide +kernel
theorem dX12_strength_2 : decode cX12_strength 2 = .ok (.iload_n 2, 1) := by decide +kernel
theorem dX12_strength_3 : decode cX12_strength 3 = .ok (.invokevirtual 187, 3) := by decide +kernel
theorem dX12_strength_6 : decode cX12_strength 6 = .ok (.ifCond .ne 9, 3) := by decide +kernel
theorem dX12_strength_9 : decode cX12_strength 9 = .ok (.aload_n 0, 1) := by decide +kernel
theorem dX12_strength_10 : decode cX12_strength 10 = .ok (.iconst 1, 1) := by decide +kernel
theorem dX12_strength_11 : decode cX12_strength 11 = .ok (.invokevirtual 184, 3) := by decide +kernel
theorem dX12_strength_14 : decode cX12_strength 14 = .ok (.ireturn, 1) := by decide +kernel
theorem dX12_strength_15 : decode cX12_strength 15 = .ok (.aload_n 0, 1) := by decide +kernel
theorem dX12_strength_16 : decode cX12_strength 16 = .ok (.iconst 0, 1) := by decide +kernel
theorem dX12_strength_17 : decode cX12_strength 17 = .ok (.putfield 89, 3) := by decide +kernel
theorem dX12_strength_20 : decode cX12_strength 20 = .ok (.aload_n 0, 1) := by decide +kernel
theorem dX12_strength_21 : decode cX12_strength 21 = .ok (.getfield 46, 3) := by decide +kernel
theorem dX12_strength_24 : decode cX12_strength 24 = .ok (.bipush 6, 2) := by decide +kernel
theorem dX12_strength_26 : decode cX12_strength 26 = .ok (.iload_n 1, 1) := by decide +kernel
theorem dX12_strength_27 : decode cX12_strength 27 = .ok (.imul, 1) := by decide +kernel
theorem dX12_strength_28 : decode cX12_strength 28 = .ok (.iload_n 2, 1) := by decide +kernel
theorem dX12_strength_29 : decode cX12_strength 29 = .ok (.iadd, 1) := by decide +kernel
theorem dX12_strength_30 : decode cX12_strength 30 = .ok (.iaload, 1) := by decide +kernel
theorem dX12_strength_31 : decode cX12_strength 31 = .ok (.ireturn, 1) := by decide +kernel
theorem dX12_width_0 : decode cX12_width 0 = .ok (.iload_n 1, 1) := by decide +kernel
theorem dX12_width_1 : decode cX12_width 1 = .ok (.invokestatic 177, 3) := by decide +kernel
theorem dX12_width_4 : decode cX12_width 4 = .ok (.ifCond .ne 9, 3) := by decide +kernel
theorem dX12_width_7 : decode cX12_width 7 = .ok (.aload_n 0, 1) := by decide +kernel
theorem dX12_width_8 : decode cX12_width 8 = .ok (.iconst 1, 1) := by decide +kernel
theorem dX12_width_9 : decode cX12_width 9 = .ok (.invokevirtual 184, 3) := by decide +kernel
theorem dX12_width_12 : decode cX12_width 12 = .ok (.ireturn, 1) := by decide +kernel
theorem dX12_width_13 : decode cX12_width 13 = .ok (.iload_n 2, 1) := by decide +kernel
theorem dX12_width_14 : decode cX12_width 14 = .ok (.ifCond .lt 9, 3) := by decide +kernel
theorem dX12_width_17 : decode cX12_width 17 = .ok (.iload_n 2, 1) := by decide +kernel
theorem dX12_width_18 : decode cX12_width 18 = .ok (.bipush 100, 2) := by decide +kernel
theorem dX12_width_20 : decode cX12_width 20 = .ok (.if_icmp .lt 9, 3) := by decide +kernel
theorem dX12_width_23 : decode cX12_width 23 = .ok (.aload_n 0, 1) := by decide +kernel
theorem dX12_width_24 : decode cX12_width 24 = .ok (.iconst 2, 1) := by decide +kernel
theorem dX12_width_25 : decode cX12_width 25 = .ok (.invokevirtual 184, 3) := by decide +kernel
theorem dX12_width_28 : decode cX12_width 28 = .ok (.ireturn, 1) := by decide +kernel
theorem dX12_width_29 : decode cX12_width 29 = .ok (.aload_n 0, 1) := by decide +kernel
theorem dX12_width_30 : decode cX12_width 30 = .ok (.iconst 0, 1) := by decide +kernel
theorem dX12_width_31 : decode cX12_width 31 = .ok (.putfield 89, 3) := by decide +kernel
theorem dX12_width_34 : decode cX12_width 34 = .ok (.aload_n 0, 1) := by decide +kernel
theorem dX12_width_35 : decode cX12_width 35 = .ok (.getfield 40, 3) := by decide +kernel
theorem dX12_width_38 : decode cX12_width 38 = .ok (.bipush 100, 2) := by decide +kernel
theorem dX12_width_40 : decode cX12_width 40 = .ok (.iload_n 1, 1) := by decide +kernel
theorem dX12_width_41 : decode cX12_width 41 = .ok (.imul, 1) := by decide +kernel
theorem dX12_width_42 : decode cX12_width 42 = .ok (.iload_n 2, 1) := by decide +kernel
theorem dX12_width_43 : decode cX12_width 43 = .ok (.iadd, 1) := by decide +kernel
theorem dX12_width_44 : decode cX12_width 44 = .ok (.iaload, 1) := by decide +kernel
theorem dX12_width_45 : decode cX12_width 45 = .ok (.ireturn, 1) := by decide +kernel
theorem dX12_at_0 : decode cX12_at 0 = .ok (.lconst 0, 1) := by decide +kernel
theorem dX12_at_1 : decode cX12_at 1 = .ok (.lstore_n 3, 1) := by decide +kernel
theorem dX12_at_2 : decode cX12_at 2 = .ok (.iconst 0, 1) := by decide +kernel
theorem dX12_at_3 : decode cX12_at 3 = .ok (.istore 5, 2) := by decide +kernel
theorem dX12_at_5 : decode cX12_at 5 = .ok (.iload 5, 2) := by decide +kernel
theorem dX12_at_7 : decode cX12_at 7 = .ok (.aload_n 0, 1) := by decide +kernel
theorem dX12_at_8 : decode cX12_at 8 = .ok (.getfield 34, 3) := by decide +kernel
theorem dX12_at_11 : decode cX12_at 11 = .ok (.iload_n 1, 1) := by decide +kernel
theorem dX12_at_12 : decode cX12_at 12 = .ok (.iaload, 1) := by decide +kernel
theorem dX12_at_13 : decode cX12_at 13 = .ok (.if_icmp .ge 40, 3) := by decide +kernel
theorem dX12_at_16 : decode cX12_at 16 = .ok (.lload_n 3, 1) := by decide +kernel
theorem dX12_at_17 : decode cX12_at 17 = .ok (.aload_n 0, 1) := by decide +kernel
theorem dX12_at_18 : decode cX12_at 18 = .ok (.getfield 43, 3) := by decide +kernel
theorem dX12_at_21 : decode cX12_at 21 = .ok (.bipush 6, 2) := by decide +kernel
theorem dX12_at_23 : decode cX12_at 23 = .ok (.iload_n 1, 1) := by decide +kernel
theorem dX12_at_24 : decode cX12_at 24 = .ok (.imul, 1) := by decide +kernel
theorem dX12_at_25 : decode cX12_at 25 = .ok (.iload 5, 2) := by decide +kernel
theorem dX12_at_27 : decode cX12_at 27 = .ok (.iadd, 1) := by decide +kernel
theorem dX12_at_28 : decode cX12_at 28 = .ok (.iaload, 1) := by decide +kernel
theorem dX12_at_29 : decode cX12_at 29 = .ok (.iload_n 2, 1) := by decide +kernel
theorem dX12_at_30 : decode cX12_at 30 = .ok (.if_icmp .ne 14, 3) := by decide +kernel
theorem dX12_at_33 : decode cX12_at 33 = .ok (.aload_n 0, 1) := by decide +kernel
theorem dX12_at_34 : decode cX12_at 34 = .ok (.getfield 49, 3) := by decide +kernel
theorem dX12_at_37 : decode cX12_at 37 = .ok (.iload 5, 2) := by decide +kernel
theorem dX12_at_39 : decode cX12_at 39 = .ok (.iaload, 1) := by decide +kernel
theorem dX12_at_40 : decode cX12_at 40 = .ok (.i2l, 1) := by decide +kernel
theorem dX12_at_41 : decode cX12_at 41 = .ok (.goto 4, 3) := by decide +kernel
theorem dX12_at_44 : decode cX12_at 44 = .ok (.lconst 0, 1) := by decide +kernel
theorem dX12_at_45 : decode cX12_at 45 = .ok (.ladd, 1) := by decide +kernel
theorem dX12_at_46 : decode cX12_at 46 = .ok (.lstore_n 3, 1) := by decide +kernel
theorem dX12_at_47 : decode cX12_at 47 = .ok (.iinc 5 1, 3) := by decide +kernel
theorem dX12_at_50 : decode cX12_at 50 = .ok (.goto (-45), 3) := by decide +kernel
theorem dX12_at_53 : decode cX12_at 53 = .ok (.lload_n 3, 1) := by decide +kernel
theorem dX12_at_54 : decode cX12_at 54 = .ok (.lreturn, 1) := by decide +kernel
theorem dX12_go_0 : decode cX12_go 0 = .ok (.aload_n 0, 1) := by decide +kernel
theorem dX12_go_1 : decode cX12_go 1 = .ok (.invokevirtual 191, 3) := by decide +kernel
theorem dX12_go_4 : decode cX12_go 4 = .ok (.ineg, 1) := by decide +kernel
theorem dX12_go_5 : decode cX12_go 5 = .ok (.i2l, 1) := by decide +kernel
theorem dX12_go_6 : decode cX12_go 6 = .ok (.lstore 5, 2) := by decide +kernel
theorem dX12_go_8 : decode cX12_go 8 = .ok (.lconst 0, 1) := by decide +kernel
theorem dX12_go_9 : decode cX12_go 9 = .ok (.lstore 7, 2) := by decide +kernel
theorem dX12_go_11 : decode cX12_go 11 = .ok (.iconst 0, 1) := by decide +kernel
theorem dX12_go_12 : decode cX12_go 12 = .ok (.istore 9, 2) := by decide +kernel
theorem dX12_go_14 : decode cX12_go 14 = .ok (.iload 9, 2) := by decide +kernel
theorem dX12_go_16 : decode cX12_go 16 = .ok (.aload_n 0, 1) := by decide +kernel
theorem dX12_go_17 : decode cX12_go 17 = .ok (.getfield 34, 3) := by decide +kernel
theorem dX12_go_20 : decode cX12_go 20 = .ok (.iload_n 1, 1) := by decide +kernel
theorem dX12_go_21 : decode cX12_go 21 = .ok (.iaload, 1) := by decide +kernel
theorem dX12_go_22 : decode cX12_go 22 = .ok (.if_icmp .ge 47, 3) := by decide +kernel
theorem dX12_go_25 : decode cX12_go 25 = .ok (.lload 7, 2) := by decide +kernel
theorem dX12_go_27 : decode cX12_go 27 = .ok (.ldc2_w 201, 3) := by decide +kernel
theorem dX12_go_30 : decode cX12_go 30 = .ok (.aload_n 0, 1) := by decide +kernel
theorem dX12_go_31 : decode cX12_go 31 = .ok (.getfield 49, 3) := by decide +kernel
theorem dX12_go_34 : decode cX12_go 34 = .ok (.iload 9, 2) := by decide +kernel
theorem dX12_go_36 : decode cX12_go 36 = .ok (.iaload, 1) := by decide +kernel
theorem dX12_go_37 : decode cX12_go 37 = .ok (.i2l, 1) := by decide +kernel
theorem dX12_go_38 : decode cX12_go 38 = .ok (.lmul, 1) := by decide +kernel
theorem dX12_go_39 : decode cX12_go 39 = .ok (.aload_n 0, 1) := by decide +kernel
theorem dX12_go_40 : decode cX12_go 40 = .ok (.getfield 43, 3) := by decide +kernel
theorem dX12_go_43 : decode cX12_go 43 = .ok (.bipush 6, 2) := by decide +kernel
theorem dX12_go_45 : decode cX12_go 45 = .ok (.iload_n 1, 1) := by decide +kernel
theorem dX12_go_46 : decode cX12_go 46 = .ok (.imul, 1) := by decide +kernel
theorem dX12_go_47 : decode cX12_go 47 = .ok (.iload 9, 2) := by decide +kernel
theorem dX12_go_49 : decode cX12_go 49 = .ok (.iadd, 1) := by decide +kernel
theorem dX12_go_50 : decode cX12_go 50 = .ok (.iaload, 1) := by decide +kernel
theorem dX12_go_51 : decode cX12_go 51 = .ok (.aload_n 0, 1) := by decide +kernel
theorem dX12_go_52 : decode cX12_go 52 = .ok (.getfield 28, 3) := by decide +kernel
theorem dX12_go_55 : decode cX12_go 55 = .ok (.iload_n 1, 1) := by decide +kernel
theorem dX12_go_56 : decode cX12_go 56 = .ok (.iaload, 1) := by decide +kernel
theorem dX12_go_57 : decode cX12_go 57 = .ok (.isub, 1) := by decide +kernel
theorem dX12_go_58 : decode cX12_go 58 = .ok (.i2l, 1) := by decide +kernel
theorem dX12_go_59 : decode cX12_go 59 = .ok (.lmul, 1) := by decide +kernel
theorem dX12_go_60 : decode cX12_go 60 = .ok (.lsub, 1) := by decide +kernel
theorem dX12_go_61 : decode cX12_go 61 = .ok (.lstore 7, 2) := by decide +kernel
theorem dX12_go_63 : decode cX12_go 63 = .ok (.iinc 9 1, 3) := by decide +kernel
theorem dX12_go_66 : decode cX12_go 66 = .ok (.goto (-52), 3) := by decide +kernel
theorem dX12_go_69 : decode cX12_go 69 = .ok (.iload 4, 2) := by decide +kernel
theorem dX12_go_71 : decode cX12_go 71 = .ok (.ifCond .eq 7, 3) := by decide +kernel
theorem dX12_go_74 : decode cX12_go 74 = .ok (.iconst (-1), 1) := by decide +kernel
theorem dX12_go_75 : decode cX12_go 75 = .ok (.goto 4, 3) := by decide +kernel
theorem dX12_go_78 : decode cX12_go 78 = .ok (.iconst 1, 1) := by decide +kernel
theorem dX12_go_79 : decode cX12_go 79 = .ok (.istore 9, 2) := by decide +kernel
theorem dX12_go_81 : decode cX12_go 81 = .ok (.iload 4, 2) := by decide +kernel
theorem dX12_go_83 : decode cX12_go 83 = .ok (.ifCond .eq 8, 3) := by decide +kernel
theorem dX12_go_86 : decode cX12_go 86 = .ok (.bipush 100, 2) := by decide +kernel
theorem dX12_go_88 : decode cX12_go 88 = .ok (.goto 4, 3) := by decide +kernel
theorem dX12_go_91 : decode cX12_go 91 = .ok (.iconst 0, 1) := by decide +kernel
theorem dX12_go_92 : decode cX12_go 92 = .ok (.istore 10, 2) := by decide +kernel
theorem dX12_go_94 : decode cX12_go 94 = .ok (.iload 10, 2) := by decide +kernel
theorem dX12_go_96 : decode cX12_go 96 = .ok (.ifCond .lt 255, 3) := by decide +kernel
theorem dX12_go_99 : decode cX12_go 99 = .ok (.iload 10, 2) := by decide +kernel
theorem dX12_go_101 : decode cX12_go 101 = .ok (.bipush 100, 2) := by decide +kernel
theorem dX12_go_103 : decode cX12_go 103 = .ok (.if_icmp .gt 248, 3) := by decide +kernel
theorem dX12_go_106 : decode cX12_go 106 = .ok (.iload 10, 2) := by decide +kernel
theorem dX12_go_108 : decode cX12_go 108 = .ok (.aload_n 0, 1) := by decide +kernel
theorem dX12_go_109 : decode cX12_go 109 = .ok (.getfield 28, 3) := by decide +kernel
theorem dX12_go_112 : decode cX12_go 112 = .ok (.iload_n 1, 1) := by decide +kernel
theorem dX12_go_113 : decode cX12_go 113 = .ok (.iaload, 1) := by decide +kernel
theorem dX12_go_114 : decode cX12_go 114 = .ok (.isub, 1) := by decide +kernel
theorem dX12_go_115 : decode cX12_go 115 = .ok (.i2l, 1) := by decide +kernel
theorem dX12_go_116 : decode cX12_go 116 = .ok (.lstore 11, 2) := by decide +kernel
theorem dX12_go_118 : decode cX12_go 118 = .ok (.ldc2_w 201, 3) := by decide +kernel
theorem dX12_go_121 : decode cX12_go 121 = .ok (.aload_n 0, 1) := by decide +kernel
theorem dX12_go_122 : decode cX12_go 122 = .ok (.iload_n 1, 1) := by decide +kernel
theorem dX12_go_123 : decode cX12_go 123 = .ok (.iload 10, 2) := by decide +kernel
theorem dX12_go_125 : decode cX12_go 125 = .ok (.invokevirtual 203, 3) := by decide +kernel
theorem dX12_go_128 : decode cX12_go 128 = .ok (.lmul, 1) := by decide +kernel
theorem dX12_go_129 : decode cX12_go 129 = .ok (.lstore 13, 2) := by decide +kernel
theorem dX12_go_131 : decode cX12_go 131 = .ok (.lload_n 2, 1) := by decide +kernel
theorem dX12_go_132 : decode cX12_go 132 = .ok (.lload 5, 2) := by decide +kernel
theorem dX12_go_134 : decode cX12_go 134 = .ok (.lsub, 1) := by decide +kernel
theorem dX12_go_135 : decode cX12_go 135 = .ok (.lstore 15, 2) := by decide +kernel
theorem dX12_go_137 : decode cX12_go 137 = .ok (.lload 15, 2) := by decide +kernel
theorem dX12_go_139 : decode cX12_go 139 = .ok (.lload 13, 2) := by decide +kernel
theorem dX12_go_141 : decode cX12_go 141 = .ok (.lcmp, 1) := by decide +kernel
theorem dX12_go_142 : decode cX12_go 142 = .ok (.ifCond .gt 27, 3) := by decide +kernel
theorem dX12_go_145 : decode cX12_go 145 = .ok (.aload_n 0, 1) := by decide +kernel
theorem dX12_go_146 : decode cX12_go 146 = .ok (.lload 7, 2) := by decide +kernel
theorem dX12_go_148 : decode cX12_go 148 = .ok (.ldc2_w 201, 3) := by decide +kernel
theorem dX12_go_151 : decode cX12_go 151 = .ok (.lload 15, 2) := by decide +kernel
theorem dX12_go_153 : decode cX12_go 153 = .ok (.lmul, 1) := by decide +kernel
theorem dX12_go_154 : decode cX12_go 154 = .ok (.lload 11, 2) := by decide +kernel
theorem dX12_go_156 : decode cX12_go 156 = .ok (.lmul, 1) := by decide +kernel
theorem dX12_go_157 : decode cX12_go 157 = .ok (.ladd, 1) := by decide +kernel
theorem dX12_go_158 : decode cX12_go 158 = .ok (.ldc2_w 201, 3) := by decide +kernel
theorem dX12_go_161 : decode cX12_go 161 = .ok (.iload 10, 2) := by decide +kernel
theorem dX12_go_163 : decode cX12_go 163 = .ok (.i2l, 1) := by decide +kernel
theorem dX12_go_164 : decode cX12_go 164 = .ok (.lconst 1, 1) := by decide +kernel
theorem dX12_go_165 : decode cX12_go 165 = .ok (.invokevirtual 207, 3) := by decide +kernel
theorem dX12_go_168 : decode cX12_go 168 = .ok (.return_, 1) := by decide +kernel
theorem dX12_go_169 : decode cX12_go 169 = .ok (.lload 5, 2) := by decide +kernel
theorem dX12_go_171 : decode cX12_go 171 = .ok (.lload 13, 2) := by decide +kernel
theorem dX12_go_173 : decode cX12_go 173 = .ok (.ladd, 1) := by decide +kernel
theorem dX12_go_174 : decode cX12_go 174 = .ok (.lstore 5, 2) := by decide +kernel
theorem dX12_go_176 : decode cX12_go 176 = .ok (.lload 7, 2) := by decide +kernel
theorem dX12_go_178 : decode cX12_go 178 = .ok (.ldc2_w 201, 3) := by decide +kernel
theorem dX12_go_181 : decode cX12_go 181 = .ok (.lload 13, 2) := by decide +kernel
theorem dX12_go_183 : decode cX12_go 183 = .ok (.lmul, 1) := by decide +kernel
theorem dX12_go_184 : decode cX12_go 184 = .ok (.lload 11, 2) := by decide +kernel
theorem dX12_go_186 : decode cX12_go 186 = .ok (.lmul, 1) := by decide +kernel
theorem dX12_go_187 : decode cX12_go 187 = .ok (.ladd, 1) := by decide +kernel
theorem dX12_go_188 : decode cX12_go 188 = .ok (.lstore 7, 2) := by decide +kernel
theorem dX12_go_190 : decode cX12_go 190 = .ok (.iload 4, 2) := by decide +kernel
theorem dX12_go_192 : decode cX12_go 192 = .ok (.ifCond .eq 10, 3) := by decide +kernel
theorem dX12_go_195 : decode cX12_go 195 = .ok (.iload 10, 2) := by decide +kernel
theorem dX12_go_197 : decode cX12_go 197 = .ok (.iconst 1, 1) := by decide +kernel
theorem dX12_go_198 : decode cX12_go 198 = .ok (.isub, 1) := by decide +kernel
theorem dX12_go_199 : decode cX12_go 199 = .ok (.goto 5, 3) := by decide +kernel
theorem dX12_go_202 : decode cX12_go 202 = .ok (.iload 10, 2) := by decide +kernel
theorem dX12_go_204 : decode cX12_go 204 = .ok (.istore 17, 2) := by decide +kernel
theorem dX12_go_206 : decode cX12_go 206 = .ok (.iload 17, 2) := by decide +kernel
theorem dX12_go_208 : decode cX12_go 208 = .ok (.ifCond .lt 133, 3) := by decide +kernel
theorem dX12_go_211 : decode cX12_go 211 = .ok (.iload 17, 2) := by decide +kernel
theorem dX12_go_213 : decode cX12_go 213 = .ok (.bipush 100, 2) := by decide +kernel
theorem dX12_go_215 : decode cX12_go 215 = .ok (.if_icmp .lt 6, 3) := by decide +kernel
theorem dX12_go_218 : decode cX12_go 218 = .ok (.goto 123, 3) := by decide +kernel
theorem dX12_go_221 : decode cX12_go 221 = .ok (.aload_n 0, 1) := by decide +kernel
theorem dX12_go_222 : decode cX12_go 222 = .ok (.getfield 25, 3) := by decide +kernel
theorem dX12_go_225 : decode cX12_go 225 = .ok (.iload_n 1, 1) := by decide +kernel
theorem dX12_go_226 : decode cX12_go 226 = .ok (.iaload, 1) := by decide +kernel
theorem dX12_go_227 : decode cX12_go 227 = .ok (.i2l, 1) := by decide +kernel
theorem dX12_go_228 : decode cX12_go 228 = .ok (.aload_n 0, 1) := by decide +kernel
theorem dX12_go_229 : decode cX12_go 229 = .ok (.getfield 40, 3) := by decide +kernel
theorem dX12_go_232 : decode cX12_go 232 = .ok (.bipush 100, 2) := by decide +kernel
theorem dX12_go_234 : decode cX12_go 234 = .ok (.iload_n 1, 1) := by decide +kernel
theorem dX12_go_235 : decode cX12_go 235 = .ok (.imul, 1) := by decide +kernel
theorem dX12_go_236 : decode cX12_go 236 = .ok (.iload 17, 2) := by decide +kernel
theorem dX12_go_238 : decode cX12_go 238 = .ok (.iadd, 1) := by decide +kernel
theorem dX12_go_239 : decode cX12_go 239 = .ok (.iaload, 1) := by decide +kernel
theorem dX12_go_240 : decode cX12_go 240 = .ok (.i2l, 1) := by decide +kernel
theorem dX12_go_241 : decode cX12_go 241 = .ok (.lmul, 1) := by decide +kernel
theorem dX12_go_242 : decode cX12_go 242 = .ok (.lstore 18, 2) := by decide +kernel
theorem dX12_go_244 : decode cX12_go 244 = .ok (.lload_n 2, 1) := by decide +kernel
theorem dX12_go_245 : decode cX12_go 245 = .ok (.lload 5, 2) := by decide +kernel
theorem dX12_go_247 : decode cX12_go 247 = .ok (.lsub, 1) := by decide +kernel
theorem dX12_go_248 : decode cX12_go 248 = .ok (.lstore 15, 2) := by decide +kernel
theorem dX12_go_250 : decode cX12_go 250 = .ok (.lload 18, 2) := by decide +kernel
theorem dX12_go_252 : decode cX12_go 252 = .ok (.lconst 0, 1) := by decide +kernel
theorem dX12_go_253 : decode cX12_go 253 = .ok (.lcmp, 1) := by decide +kernel
theorem dX12_go_254 : decode cX12_go 254 = .ok (.ifCond .le 62, 3) := by decide +kernel
theorem dX12_go_257 : decode cX12_go 257 = .ok (.lload 15, 2) := by decide +kernel
theorem dX12_go_259 : decode cX12_go 259 = .ok (.lload 18, 2) := by decide +kernel
theorem dX12_go_261 : decode cX12_go 261 = .ok (.lcmp, 1) := by decide +kernel
theorem dX12_go_262 : decode cX12_go 262 = .ok (.ifCond .gt 54, 3) := by decide +kernel
theorem dX12_go_265 : decode cX12_go 265 = .ok (.aload_n 0, 1) := by decide +kernel
theorem dX12_go_266 : decode cX12_go 266 = .ok (.lload 7, 2) := by decide +kernel
theorem dX12_go_268 : decode cX12_go 268 = .ok (.ldc2_w 201, 3) := by decide +kernel
theorem dX12_go_271 : decode cX12_go 271 = .ok (.lload 15, 2) := by decide +kernel
theorem dX12_go_273 : decode cX12_go 273 = .ok (.lmul, 1) := by decide +kernel
theorem dX12_go_274 : decode cX12_go 274 = .ok (.lload 11, 2) := by decide +kernel
theorem dX12_go_276 : decode cX12_go 276 = .ok (.lmul, 1) := by decide +kernel
theorem dX12_go_277 : decode cX12_go 277 = .ok (.ladd, 1) := by decide +kernel
theorem dX12_go_278 : decode cX12_go 278 = .ok (.lload 18, 2) := by decide +kernel
theorem dX12_go_280 : decode cX12_go 280 = .ok (.lmul, 1) := by decide +kernel
theorem dX12_go_281 : decode cX12_go 281 = .ok (.iload 9, 2) := by decide +kernel
theorem dX12_go_283 : decode cX12_go 283 = .ok (.i2l, 1) := by decide +kernel
theorem dX12_go_284 : decode cX12_go 284 = .ok (.lload 15, 2) := by decide +kernel
theorem dX12_go_286 : decode cX12_go 286 = .ok (.lmul, 1) := by decide +kernel
theorem dX12_go_287 : decode cX12_go 287 = .ok (.lload 15, 2) := by decide +kernel
theorem dX12_go_289 : decode cX12_go 289 = .ok (.lmul, 1) := by decide +kernel
theorem dX12_go_290 : decode cX12_go 290 = .ok (.ladd, 1) := by decide +kernel
theorem dX12_go_291 : decode cX12_go 291 = .ok (.ldc2_w 201, 3) := by decide +kernel
theorem dX12_go_294 : decode cX12_go 294 = .ok (.lload 18, 2) := by decide +kernel
theorem dX12_go_296 : decode cX12_go 296 = .ok (.lmul, 1) := by decide +kernel
theorem dX12_go_297 : decode cX12_go 297 = .ok (.iload 10, 2) := by decide +kernel
theorem dX12_go_299 : decode cX12_go 299 = .ok (.i2l, 1) := by decide +kernel
theorem dX12_go_300 : decode cX12_go 300 = .ok (.lload 18, 2) := by decide +kernel
theorem dX12_go_302 : decode cX12_go 302 = .ok (.lmul, 1) := by decide +kernel
theorem dX12_go_303 : decode cX12_go 303 = .ok (.iload 9, 2) := by decide +kernel
theorem dX12_go_305 : decode cX12_go 305 = .ok (.i2l, 1) := by decide +kernel
theorem dX12_go_306 : decode cX12_go 306 = .ok (.lload 15, 2) := by decide +kernel
theorem dX12_go_308 : decode cX12_go 308 = .ok (.lmul, 1) := by decide +kernel
theorem dX12_go_309 : decode cX12_go 309 = .ok (.ladd, 1) := by decide +kernel
theorem dX12_go_310 : decode cX12_go 310 = .ok (.lload 18, 2) := by decide +kernel
theorem dX12_go_312 : decode cX12_go 312 = .ok (.invokevirtual 207, 3) := by decide +kernel
theorem dX12_go_315 : decode cX12_go 315 = .ok (.return_, 1) := by decide +kernel
theorem dX12_go_316 : decode cX12_go 316 = .ok (.lload 5, 2) := by decide +kernel
theorem dX12_go_318 : decode cX12_go 318 = .ok (.lload 18, 2) := by decide +kernel
theorem dX12_go_320 : decode cX12_go 320 = .ok (.ladd, 1) := by decide +kernel
theorem dX12_go_321 : decode cX12_go 321 = .ok (.lstore 5, 2) := by decide +kernel
theorem dX12_go_323 : decode cX12_go 323 = .ok (.lload 7, 2) := by decide +kernel
theorem dX12_go_325 : decode cX12_go 325 = .ok (.lload 18, 2) := by decide +kernel
theorem dX12_go_327 : decode cX12_go 327 = .ok (.ldc2_w 201, 3) := by decide +kernel
theorem dX12_go_330 : decode cX12_go 330 = .ok (.lload 11, 2) := by decide +kernel
theorem dX12_go_332 : decode cX12_go 332 = .ok (.lmul, 1) := by decide +kernel
theorem dX12_go_333 : decode cX12_go 333 = .ok (.iload 9, 2) := by decide +kernel
theorem dX12_go_335 : decode cX12_go 335 = .ok (.i2l, 1) := by decide +kernel
theorem dX12_go_336 : decode cX12_go 336 = .ok (.ladd, 1) := by decide +kernel
theorem dX12_go_337 : decode cX12_go 337 = .ok (.lmul, 1) := by decide +kernel
theorem dX12_go_338 : decode cX12_go 338 = .ok (.ladd, 1) := by decide +kernel
theorem dX12_go_339 : decode cX12_go 339 = .ok (.lstore 7, 2) := by decide +kernel
theorem dX12_go_341 : decode cX12_go 341 = .ok (.iload 10, 2) := by decide +kernel
theorem dX12_go_343 : decode cX12_go 343 = .ok (.iload 9, 2) := by decide +kernel
theorem dX12_go_345 : decode cX12_go 345 = .ok (.iadd, 1) := by decide +kernel
theorem dX12_go_346 : decode cX12_go 346 = .ok (.istore 10, 2) := by decide +kernel
theorem dX12_go_348 : decode cX12_go 348 = .ok (.goto (-254), 3) := by decide +kernel
theorem dX12_go_351 : decode cX12_go 351 = .ok (.return_, 1) := by decide +kernel
theorem dX12_found_0 : decode cX12_found 0 = .ok (.aload_n 0, 1) := by decide +kernel
theorem dX12_found_1 : decode cX12_found 1 = .ok (.lload_n 1, 1) := by decide +kernel
theorem dX12_found_2 : decode cX12_found 2 = .ok (.putfield 211, 3) := by decide +kernel
theorem dX12_found_5 : decode cX12_found 5 = .ok (.aload_n 0, 1) := by decide +kernel
theorem dX12_found_6 : decode cX12_found 6 = .ok (.lload_n 3, 1) := by decide +kernel
theorem dX12_found_7 : decode cX12_found 7 = .ok (.putfield 215, 3) := by decide +kernel
theorem dX12_found_10 : decode cX12_found 10 = .ok (.aload_n 0, 1) := by decide +kernel
theorem dX12_found_11 : decode cX12_found 11 = .ok (.lload 5, 2) := by decide +kernel
theorem dX12_found_13 : decode cX12_found 13 = .ok (.putfield 218, 3) := by decide +kernel
theorem dX12_found_16 : decode cX12_found 16 = .ok (.aload_n 0, 1) := by decide +kernel
theorem dX12_found_17 : decode cX12_found 17 = .ok (.lload 7, 2) := by decide +kernel
theorem dX12_found_19 : decode cX12_found 19 = .ok (.putfield 221, 3) := by decide +kernel
theorem dX12_found_22 : decode cX12_found 22 = .ok (.return_, 1) := by decide +kernel
theorem dX12_isPush_0 : decode cX12_isPush 0 = .ok (.iload_n 2, 1) := by decide +kernel
theorem dX12_isPush_1 : decode cX12_isPush 1 = .ok (.aload_n 0, 1) := by decide +kernel
theorem dX12_isPush_2 : decode cX12_isPush 2 = .ok (.iload_n 1, 1) := by decide +kernel
theorem dX12_isPush_3 : decode cX12_isPush 3 = .ok (.invokevirtual 198, 3) := by decide +kernel
theorem dX12_isPush_6 : decode cX12_isPush 6 = .ok (.if_icmp .gt 16, 3) := by decide +kernel
theorem dX12_isPush_9 : decode cX12_isPush 9 = .ok (.iload_n 2, 1) := by decide +kernel
theorem dX12_isPush_10 : decode cX12_isPush 10 = .ok (.aload_n 0, 1) := by decide +kernel
theorem dX12_isPush_11 : decode cX12_isPush 11 = .ok (.invokevirtual 191, 3) := by decide +kernel
theorem dX12_isPush_14 : decode cX12_isPush 14 = .ok (.ineg, 1) := by decide +kernel
theorem dX12_isPush_15 : decode cX12_isPush 15 = .ok (.if_icmp .lt 7, 3) := by decide +kernel
theorem dX12_isPush_18 : decode cX12_isPush 18 = .ok (.iconst 1, 1) := by decide +kernel
theorem dX12_isPush_19 : decode cX12_isPush 19 = .ok (.goto 4, 3) := by decide +kernel
theorem dX12_isPush_22 : decode cX12_isPush 22 = .ok (.iconst 0, 1) := by decide +kernel
theorem dX12_isPush_23 : decode cX12_isPush 23 = .ok (.ireturn, 1) := by decide +kernel
theorem dX12_isNumber_0 : decode cX12_isNumber 0 = .ok (.iload_n 0, 1) := by decide +kernel
theorem dX12_isNumber_1 : decode cX12_isNumber 1 = .ok (.ldc 224, 2) := by decide +kernel
theorem dX12_isNumber_3 : decode cX12_isNumber 3 = .ok (.if_icmp .lt 13, 3) := by decide +kernel
theorem dX12_isNumber_6 : decode cX12_isNumber 6 = .ok (.iload_n 0, 1) := by decide +kernel
theorem dX12_isNumber_7 : decode cX12_isNumber 7 = .ok (.ldc 225, 2) := by decide +kernel
theorem dX12_isNumber_9 : decode cX12_isNumber 9 = .ok (.if_icmp .gt 7, 3) := by decide +kernel
theorem dX12_isNumber_12 : decode cX12_isNumber 12 = .ok (.iconst 1, 1) := by decide +kernel
theorem dX12_isNumber_13 : decode cX12_isNumber 13 = .ok (.goto 4, 3) := by decide +kernel
theorem dX12_isNumber_16 : decode cX12_isNumber 16 = .ok (.iconst 0, 1) := by decide +kernel
theorem dX12_isNumber_17 : decode cX12_isNumber 17 = .ok (.ireturn, 1) := by decide +kernel
theorem dX12_wrong_0 : decode cX12_wrong 0 = .ok (.iload_n 1, 1) := by decide +kernel
theorem dX12_wrong_1 : decode cX12_wrong 1 = .ok (.invokestatic 177, 3) := by decide +kernel
theorem dX12_wrong_4 : decode cX12_wrong 4 = .ok (.ifCond .ne 5, 3) := by decide +kernel
theorem dX12_wrong_7 : decode cX12_wrong 7 = .ok (.iconst 1, 1) := by decide +kernel
theorem dX12_wrong_8 : decode cX12_wrong 8 = .ok (.ireturn, 1) := by decide +kernel
theorem dX12_wrong_9 : decode cX12_wrong 9 = .ok (.iload_n 2, 1) := by decide +kernel
theorem dX12_wrong_10 : decode cX12_wrong 10 = .ok (.invokestatic 226, 3) := by decide +kernel
theorem dX12_wrong_13 : decode cX12_wrong 13 = .ok (.ifCond .ne 5, 3) := by decide +kernel
theorem dX12_wrong_16 : decode cX12_wrong 16 = .ok (.iconst 2, 1) := by decide +kernel
theorem dX12_wrong_17 : decode cX12_wrong 17 = .ok (.ireturn, 1) := by decide +kernel
theorem dX12_wrong_18 : decode cX12_wrong 18 = .ok (.aload_n 0, 1) := by decide +kernel
theorem dX12_wrong_19 : decode cX12_wrong 19 = .ok (.iload_n 1, 1) := by decide +kernel
theorem dX12_wrong_20 : decode cX12_wrong 20 = .ok (.invokevirtual 195, 3) := by decide +kernel
theorem dX12_wrong_23 : decode cX12_wrong 23 = .ok (.aload_n 0, 1) := by decide +kernel
theorem dX12_wrong_24 : decode cX12_wrong 24 = .ok (.iload_n 1, 1) := by decide +kernel
theorem dX12_wrong_25 : decode cX12_wrong 25 = .ok (.iload_n 2, 1) := by decide +kernel
theorem dX12_wrong_26 : decode cX12_wrong 26 = .ok (.invokevirtual 229, 3) := by decide +kernel
theorem dX12_wrong_29 : decode cX12_wrong 29 = .ok (.ifCond .eq 7, 3) := by decide +kernel
theorem dX12_wrong_32 : decode cX12_wrong 32 = .ok (.iconst 0, 1) := by decide +kernel
theorem dX12_wrong_33 : decode cX12_wrong 33 = .ok (.goto 4, 3) := by decide +kernel
theorem dX12_wrong_36 : decode cX12_wrong 36 = .ok (.iconst 4, 1) := by decide +kernel
theorem dX12_wrong_37 : decode cX12_wrong 37 = .ok (.ireturn, 1) := by decide +kernel
theorem dX12_bend_0 : decode cX12_bend 0 = .ok (.aload_n 0, 1) := by decide +kernel
theorem dX12_bend_1 : decode cX12_bend 1 = .ok (.iload_n 1, 1) := by decide +kernel
theorem dX12_bend_2 : decode cX12_bend 2 = .ok (.iload_n 2, 1) := by decide +kernel
theorem dX12_bend_3 : decode cX12_bend 3 = .ok (.invokevirtual 232, 3) := by decide +kernel
theorem dX12_bend_6 : decode cX12_bend 6 = .ok (.istore 4, 2) := by decide +kernel
theorem dX12_bend_8 : decode cX12_bend 8 = .ok (.iload 4, 2) := by decide +kernel
theorem dX12_bend_10 : decode cX12_bend 10 = .ok (.ifCond .le 10, 3) := by decide +kernel
theorem dX12_bend_13 : decode cX12_bend 13 = .ok (.aload_n 0, 1) := by decide +kernel
theorem dX12_bend_14 : decode cX12_bend 14 = .ok (.iload 4, 2) := by decide +kernel
theorem dX12_bend_16 : decode cX12_bend 16 = .ok (.invokevirtual 184, 3) := by decide +kernel
theorem dX12_bend_19 : decode cX12_bend 19 = .ok (.ireturn, 1) := by decide +kernel
theorem dX12_bend_20 : decode cX12_bend 20 = .ok (.aload_n 0, 1) := by decide +kernel
theorem dX12_bend_21 : decode cX12_bend 21 = .ok (.iload_n 1, 1) := by decide +kernel
theorem dX12_bend_22 : decode cX12_bend 22 = .ok (.iload_n 2, 1) := by decide +kernel
theorem dX12_bend_23 : decode cX12_bend 23 = .ok (.i2l, 1) := by decide +kernel
theorem dX12_bend_24 : decode cX12_bend 24 = .ok (.iload_n 3, 1) := by decide +kernel
theorem dX12_bend_25 : decode cX12_bend 25 = .ok (.invokevirtual 235, 3) := by decide +kernel
theorem dX12_bend_28 : decode cX12_bend 28 = .ok (.aload_n 0, 1) := by decide +kernel
theorem dX12_bend_29 : decode cX12_bend 29 = .ok (.iconst 0, 1) := by decide +kernel
theorem dX12_bend_30 : decode cX12_bend 30 = .ok (.putfield 93, 3) := by decide +kernel
theorem dX12_bend_33 : decode cX12_bend 33 = .ok (.aload_n 0, 1) := by decide +kernel
theorem dX12_bend_34 : decode cX12_bend 34 = .ok (.aload_n 0, 1) := by decide +kernel
theorem dX12_bend_35 : decode cX12_bend 35 = .ok (.aload_n 0, 1) := by decide +kernel
theorem dX12_bend_36 : decode cX12_bend 36 = .ok (.getfield 211, 3) := by decide +kernel
theorem dX12_bend_39 : decode cX12_bend 39 = .ok (.invokevirtual 125, 3) := by decide +kernel
theorem dX12_bend_42 : decode cX12_bend 42 = .ok (.aload_n 0, 1) := by decide +kernel
theorem dX12_bend_43 : decode cX12_bend 43 = .ok (.aload_n 0, 1) := by decide +kernel
theorem dX12_bend_44 : decode cX12_bend 44 = .ok (.getfield 215, 3) := by decide +kernel
theorem dX12_bend_47 : decode cX12_bend 47 = .ok (.invokevirtual 125, 3) := by decide +kernel
theorem dX12_bend_50 : decode cX12_bend 50 = .ok (.invokevirtual 239, 3) := by decide +kernel
theorem dX12_bend_53 : decode cX12_bend 53 = .ok (.ireturn, 1) := by decide +kernel
theorem dX12_cut_0 : decode cX12_cut 0 = .ok (.aload_n 0, 1) := by decide +kernel
theorem dX12_cut_1 : decode cX12_cut 1 = .ok (.iload_n 1, 1) := by decide +kernel
theorem dX12_cut_2 : decode cX12_cut 2 = .ok (.iload_n 2, 1) := by decide +kernel
theorem dX12_cut_3 : decode cX12_cut 3 = .ok (.invokevirtual 232, 3) := by decide +kernel
theorem dX12_cut_6 : decode cX12_cut 6 = .ok (.istore 4, 2) := by decide +kernel
theorem dX12_cut_8 : decode cX12_cut 8 = .ok (.iload 4, 2) := by decide +kernel
theorem dX12_cut_10 : decode cX12_cut 10 = .ok (.ifCond .le 10, 3) := by decide +kernel
theorem dX12_cut_13 : decode cX12_cut 13 = .ok (.aload_n 0, 1) := by decide +kernel
theorem dX12_cut_14 : decode cX12_cut 14 = .ok (.iload 4, 2) := by decide +kernel
theorem dX12_cut_16 : decode cX12_cut 16 = .ok (.invokevirtual 184, 3) := by decide +kernel
theorem dX12_cut_19 : decode cX12_cut 19 = .ok (.ireturn, 1) := by decide +kernel
theorem dX12_cut_20 : decode cX12_cut 20 = .ok (.aload_n 0, 1) := by decide +kernel
theorem dX12_cut_21 : decode cX12_cut 21 = .ok (.iload_n 1, 1) := by decide +kernel
theorem dX12_cut_22 : decode cX12_cut 22 = .ok (.iload_n 2, 1) := by decide +kernel
theorem dX12_cut_23 : decode cX12_cut 23 = .ok (.i2l, 1) := by decide +kernel
theorem dX12_cut_24 : decode cX12_cut 24 = .ok (.iload_n 3, 1) := by decide +kernel
theorem dX12_cut_25 : decode cX12_cut 25 = .ok (.invokevirtual 235, 3) := by decide +kernel
theorem dX12_cut_28 : decode cX12_cut 28 = .ok (.aload_n 0, 1) := by decide +kernel
theorem dX12_cut_29 : decode cX12_cut 29 = .ok (.iconst 0, 1) := by decide +kernel
theorem dX12_cut_30 : decode cX12_cut 30 = .ok (.putfield 93, 3) := by decide +kernel
theorem dX12_cut_33 : decode cX12_cut 33 = .ok (.aload_n 0, 1) := by decide +kernel
theorem dX12_cut_34 : decode cX12_cut 34 = .ok (.aload_n 0, 1) := by decide +kernel
theorem dX12_cut_35 : decode cX12_cut 35 = .ok (.aload_n 0, 1) := by decide +kernel
theorem dX12_cut_36 : decode cX12_cut 36 = .ok (.getfield 218, 3) := by decide +kernel
theorem dX12_cut_39 : decode cX12_cut 39 = .ok (.invokevirtual 125, 3) := by decide +kernel
theorem dX12_cut_42 : decode cX12_cut 42 = .ok (.aload_n 0, 1) := by decide +kernel
theorem dX12_cut_43 : decode cX12_cut 43 = .ok (.aload_n 0, 1) := by decide +kernel
theorem dX12_cut_44 : decode cX12_cut 44 = .ok (.getfield 221, 3) := by decide +kernel
theorem dX12_cut_47 : decode cX12_cut 47 = .ok (.invokevirtual 125, 3) := by decide +kernel
theorem dX12_cut_50 : decode cX12_cut 50 = .ok (.invokevirtual 239, 3) := by decide +kernel
theorem dX12_cut_53 : decode cX12_cut 53 = .ok (.ireturn, 1) := by decide +kernel
theorem dX12_bears_0 : decode cX12_bears 0 = .ok (.aload_n 0, 1) := by decide +kernel
theorem dX12_bears_1 : decode cX12_bears 1 = .ok (.iload_n 1, 1) := by decide +kernel
theorem dX12_bears_2 : decode cX12_bears 2 = .ok (.iload_n 2, 1) := by decide +kernel
theorem dX12_bears_3 : decode cX12_bears 3 = .ok (.invokevirtual 229, 3) := by decide +kernel
theorem dX12_bears_6 : decode cX12_bears 6 = .ok (.ifCond .ne 5, 3) := by decide +kernel
theorem dX12_bears_9 : decode cX12_bears 9 = .ok (.iconst 0, 1) := by decide +kernel
theorem dX12_bears_10 : decode cX12_bears 10 = .ok (.ireturn, 1) := by decide +kernel
theorem dX12_bears_11 : decode cX12_bears 11 = .ok (.aload_n 0, 1) := by decide +kernel
theorem dX12_bears_12 : decode cX12_bears 12 = .ok (.iload_n 1, 1) := by decide +kernel
theorem dX12_bears_13 : decode cX12_bears 13 = .ok (.iload_n 2, 1) := by decide +kernel
theorem dX12_bears_14 : decode cX12_bears 14 = .ok (.i2l, 1) := by decide +kernel
theorem dX12_bears_15 : decode cX12_bears 15 = .ok (.iconst 1, 1) := by decide +kernel
theorem dX12_bears_16 : decode cX12_bears 16 = .ok (.invokevirtual 235, 3) := by decide +kernel
theorem dX12_bears_19 : decode cX12_bears 19 = .ok (.iload_n 3, 1) := by decide +kernel
theorem dX12_bears_20 : decode cX12_bears 20 = .ok (.i2l, 1) := by decide +kernel
theorem dX12_bears_21 : decode cX12_bears 21 = .ok (.aload_n 0, 1) := by decide +kernel
theorem dX12_bears_22 : decode cX12_bears 22 = .ok (.getfield 215, 3) := by decide +kernel
theorem dX12_bears_25 : decode cX12_bears 25 = .ok (.lmul, 1) := by decide +kernel
theorem dX12_bears_26 : decode cX12_bears 26 = .ok (.aload_n 0, 1) := by decide +kernel
theorem dX12_bears_27 : decode cX12_bears 27 = .ok (.getfield 211, 3) := by decide +kernel
theorem dX12_bears_30 : decode cX12_bears 30 = .ok (.lcmp, 1) := by decide +kernel
theorem dX12_bears_31 : decode cX12_bears 31 = .ok (.ifCond .le 5, 3) := by decide +kernel
theorem dX12_bears_34 : decode cX12_bears 34 = .ok (.iconst 0, 1) := by decide +kernel
theorem dX12_bears_35 : decode cX12_bears 35 = .ok (.ireturn, 1) := by decide +kernel
theorem dX12_bears_36 : decode cX12_bears 36 = .ok (.aload_n 0, 1) := by decide +kernel
theorem dX12_bears_37 : decode cX12_bears 37 = .ok (.iload_n 1, 1) := by decide +kernel
theorem dX12_bears_38 : decode cX12_bears 38 = .ok (.iload_n 2, 1) := by decide +kernel
theorem dX12_bears_39 : decode cX12_bears 39 = .ok (.i2l, 1) := by decide +kernel
theorem dX12_bears_40 : decode cX12_bears 40 = .ok (.iconst 0, 1) := by decide +kernel
theorem dX12_bears_41 : decode cX12_bears 41 = .ok (.invokevirtual 235, 3) := by decide +kernel
theorem dX12_bears_44 : decode cX12_bears 44 = .ok (.iload_n 3, 1) := by decide +kernel
theorem dX12_bears_45 : decode cX12_bears 45 = .ok (.i2l, 1) := by decide +kernel
theorem dX12_bears_46 : decode cX12_bears 46 = .ok (.aload_n 0, 1) := by decide +kernel
theorem dX12_bears_47 : decode cX12_bears 47 = .ok (.getfield 215, 3) := by decide +kernel
theorem dX12_bears_50 : decode cX12_bears 50 = .ok (.lmul, 1) := by decide +kernel
theorem dX12_bears_51 : decode cX12_bears 51 = .ok (.aload_n 0, 1) := by decide +kernel
theorem dX12_bears_52 : decode cX12_bears 52 = .ok (.getfield 211, 3) := by decide +kernel
theorem dX12_bears_55 : decode cX12_bears 55 = .ok (.lcmp, 1) := by decide +kernel
theorem dX12_bears_56 : decode cX12_bears 56 = .ok (.ifCond .lt 7, 3) := by decide +kernel
theorem dX12_bears_59 : decode cX12_bears 59 = .ok (.iconst 1, 1) := by decide +kernel
theorem dX12_bears_60 : decode cX12_bears 60 = .ok (.goto 4, 3) := by decide +kernel
theorem dX12_bears_63 : decode cX12_bears 63 = .ok (.iconst 0, 1) := by decide +kernel
theorem dX12_bears_64 : decode cX12_bears 64 = .ok (.ireturn, 1) := by decide +kernel
theorem dX12_borne_0 : decode cX12_borne 0 = .ok (.iload_n 1, 1) := by decide +kernel
theorem dX12_borne_1 : decode cX12_borne 1 = .ok (.invokestatic 177, 3) := by decide +kernel
theorem dX12_borne_4 : decode cX12_borne 4 = .ok (.ifCond .ne 9, 3) := by decide +kernel
theorem dX12_borne_7 : decode cX12_borne 7 = .ok (.aload_n 0, 1) := by decide +kernel
theorem dX12_borne_8 : decode cX12_borne 8 = .ok (.iconst 1, 1) := by decide +kernel
theorem dX12_borne_9 : decode cX12_borne 9 = .ok (.invokevirtual 184, 3) := by decide +kernel
theorem dX12_borne_12 : decode cX12_borne 12 = .ok (.ireturn, 1) := by decide +kernel
theorem dX12_borne_13 : decode cX12_borne 13 = .ok (.iload_n 2, 1) := by decide +kernel
theorem dX12_borne_14 : decode cX12_borne 14 = .ok (.invokestatic 226, 3) := by decide +kernel
theorem dX12_borne_17 : decode cX12_borne 17 = .ok (.ifCond .eq 10, 3) := by decide +kernel
theorem dX12_borne_20 : decode cX12_borne 20 = .ok (.iload_n 3, 1) := by decide +kernel
theorem dX12_borne_21 : decode cX12_borne 21 = .ok (.invokestatic 226, 3) := by decide +kernel
theorem dX12_borne_24 : decode cX12_borne 24 = .ok (.ifCond .ne 9, 3) := by decide +kernel
theorem dX12_borne_27 : decode cX12_borne 27 = .ok (.aload_n 0, 1) := by decide +kernel
theorem dX12_borne_28 : decode cX12_borne 28 = .ok (.iconst 2, 1) := by decide +kernel
theorem dX12_borne_29 : decode cX12_borne 29 = .ok (.invokevirtual 184, 3) := by decide +kernel
theorem dX12_borne_32 : decode cX12_borne 32 = .ok (.ireturn, 1) := by decide +kernel
theorem dX12_borne_33 : decode cX12_borne 33 = .ok (.aload_n 0, 1) := by decide +kernel
theorem dX12_borne_34 : decode cX12_borne 34 = .ok (.iconst 0, 1) := by decide +kernel
theorem dX12_borne_35 : decode cX12_borne 35 = .ok (.putfield 89, 3) := by decide +kernel
theorem dX12_borne_38 : decode cX12_borne 38 = .ok (.aload_n 0, 1) := by decide +kernel
theorem dX12_borne_39 : decode cX12_borne 39 = .ok (.iload_n 1, 1) := by decide +kernel
theorem dX12_borne_40 : decode cX12_borne 40 = .ok (.invokevirtual 195, 3) := by decide +kernel
theorem dX12_borne_43 : decode cX12_borne 43 = .ok (.aload_n 0, 1) := by decide +kernel
theorem dX12_borne_44 : decode cX12_borne 44 = .ok (.iload_n 1, 1) := by decide +kernel
theorem dX12_borne_45 : decode cX12_borne 45 = .ok (.iload_n 2, 1) := by decide +kernel
theorem dX12_borne_46 : decode cX12_borne 46 = .ok (.iload_n 3, 1) := by decide +kernel
theorem dX12_borne_47 : decode cX12_borne 47 = .ok (.invokevirtual 242, 3) := by decide +kernel
theorem dX12_borne_50 : decode cX12_borne 50 = .ok (.ifCond .eq 7, 3) := by decide +kernel
theorem dX12_borne_53 : decode cX12_borne 53 = .ok (.iconst 1, 1) := by decide +kernel
theorem dX12_borne_54 : decode cX12_borne 54 = .ok (.goto 4, 3) := by decide +kernel
theorem dX12_borne_57 : decode cX12_borne 57 = .ok (.iconst 0, 1) := by decide +kernel
theorem dX12_borne_58 : decode cX12_borne 58 = .ok (.ireturn, 1) := by decide +kernel
theorem dX12_pair_0 : decode cX12_pair 0 = .ok (.iload_n 1, 1) := by decide +kernel
theorem dX12_pair_1 : decode cX12_pair 1 = .ok (.invokestatic 226, 3) := by decide +kernel
theorem dX12_pair_4 : decode cX12_pair 4 = .ok (.ifCond .eq 10, 3) := by decide +kernel
theorem dX12_pair_7 : decode cX12_pair 7 = .ok (.iload_n 2, 1) := by decide +kernel
theorem dX12_pair_8 : decode cX12_pair 8 = .ok (.invokestatic 226, 3) := by decide +kernel
theorem dX12_pair_11 : decode cX12_pair 11 = .ok (.ifCond .ne 9, 3) := by decide +kernel
theorem dX12_pair_14 : decode cX12_pair 14 = .ok (.aload_n 0, 1) := by decide +kernel
theorem dX12_pair_15 : decode cX12_pair 15 = .ok (.iconst 2, 1) := by decide +kernel
theorem dX12_pair_16 : decode cX12_pair 16 = .ok (.invokevirtual 184, 3) := by decide +kernel
theorem dX12_pair_19 : decode cX12_pair 19 = .ok (.ireturn, 1) := by decide +kernel
theorem dX12_pair_20 : decode cX12_pair 20 = .ok (.aload_n 0, 1) := by decide +kernel
theorem dX12_pair_21 : decode cX12_pair 21 = .ok (.getfield 246, 3) := by decide +kernel
theorem dX12_pair_24 : decode cX12_pair 24 = .ok (.bipush 8, 2) := by decide +kernel
theorem dX12_pair_26 : decode cX12_pair 26 = .ok (.if_icmp .ne 9, 3) := by decide +kernel
theorem dX12_pair_29 : decode cX12_pair 29 = .ok (.aload_n 0, 1) := by decide +kernel
theorem dX12_pair_30 : decode cX12_pair 30 = .ok (.iconst 3, 1) := by decide +kernel
theorem dX12_pair_31 : decode cX12_pair 31 = .ok (.invokevirtual 184, 3) := by decide +kernel
theorem dX12_pair_34 : decode cX12_pair 34 = .ok (.ireturn, 1) := by decide +kernel
theorem dX12_pair_35 : decode cX12_pair 35 = .ok (.aload_n 0, 1) := by decide +kernel
theorem dX12_pair_36 : decode cX12_pair 36 = .ok (.getfield 52, 3) := by decide +kernel
theorem dX12_pair_39 : decode cX12_pair 39 = .ok (.aload_n 0, 1) := by decide +kernel
theorem dX12_pair_40 : decode cX12_pair 40 = .ok (.getfield 246, 3) := by decide +kernel
theorem dX12_pair_43 : decode cX12_pair 43 = .ok (.iload_n 1, 1) := by decide +kernel
theorem dX12_pair_44 : decode cX12_pair 44 = .ok (.iastore, 1) := by decide +kernel
theorem dX12_pair_45 : decode cX12_pair 45 = .ok (.aload_n 0, 1) := by decide +kernel
theorem dX12_pair_46 : decode cX12_pair 46 = .ok (.getfield 55, 3) := by decide +kernel
theorem dX12_pair_49 : decode cX12_pair 49 = .ok (.aload_n 0, 1) := by decide +kernel
theorem dX12_pair_50 : decode cX12_pair 50 = .ok (.getfield 246, 3) := by decide +kernel
theorem dX12_pair_53 : decode cX12_pair 53 = .ok (.iload_n 2, 1) := by decide +kernel
theorem dX12_pair_54 : decode cX12_pair 54 = .ok (.iastore, 1) := by decide +kernel
theorem dX12_pair_55 : decode cX12_pair 55 = .ok (.aload_n 0, 1) := by decide +kernel
theorem dX12_pair_56 : decode cX12_pair 56 = .ok (.dup, 1) := by decide +kernel
theorem dX12_pair_57 : decode cX12_pair 57 = .ok (.getfield 246, 3) := by decide +kernel
theorem dX12_pair_60 : decode cX12_pair 60 = .ok (.iconst 1, 1) := by decide +kernel
theorem dX12_pair_61 : decode cX12_pair 61 = .ok (.iadd, 1) := by decide +kernel
theorem dX12_pair_62 : decode cX12_pair 62 = .ok (.putfield 246, 3) := by decide +kernel
theorem dX12_pair_65 : decode cX12_pair 65 = .ok (.aload_n 0, 1) := by decide +kernel
theorem dX12_pair_66 : decode cX12_pair 66 = .ok (.iconst 0, 1) := by decide +kernel
theorem dX12_pair_67 : decode cX12_pair 67 = .ok (.putfield 89, 3) := by decide +kernel
theorem dX12_pair_70 : decode cX12_pair 70 = .ok (.aload_n 0, 1) := by decide +kernel
theorem dX12_pair_71 : decode cX12_pair 71 = .ok (.getfield 246, 3) := by decide +kernel
theorem dX12_pair_74 : decode cX12_pair 74 = .ok (.iconst 1, 1) := by decide +kernel
theorem dX12_pair_75 : decode cX12_pair 75 = .ok (.isub, 1) := by decide +kernel
theorem dX12_pair_76 : decode cX12_pair 76 = .ok (.ireturn, 1) := by decide +kernel
theorem dX12_clear_0 : decode cX12_clear 0 = .ok (.aload_n 0, 1) := by decide +kernel
theorem dX12_clear_1 : decode cX12_clear 1 = .ok (.iconst 0, 1) := by decide +kernel
theorem dX12_clear_2 : decode cX12_clear 2 = .ok (.putfield 246, 3) := by decide +kernel
theorem dX12_clear_5 : decode cX12_clear 5 = .ok (.aload_n 0, 1) := by decide +kernel
theorem dX12_clear_6 : decode cX12_clear 6 = .ok (.iconst 0, 1) := by decide +kernel
theorem dX12_clear_7 : decode cX12_clear 7 = .ok (.invokevirtual 181, 3) := by decide +kernel
theorem dX12_clear_10 : decode cX12_clear 10 = .ok (.ireturn, 1) := by decide +kernel
theorem dX12_fails_0 : decode cX12_fails 0 = .ok (.iconst 0, 1) := by decide +kernel
theorem dX12_fails_1 : decode cX12_fails 1 = .ok (.istore_n 2, 1) := by decide +kernel
theorem dX12_fails_2 : decode cX12_fails 2 = .ok (.iload_n 2, 1) := by decide +kernel
theorem dX12_fails_3 : decode cX12_fails 3 = .ok (.aload_n 0, 1) := by decide +kernel
theorem dX12_fails_4 : decode cX12_fails 4 = .ok (.getfield 246, 3) := by decide +kernel
theorem dX12_fails_7 : decode cX12_fails 7 = .ok (.if_icmp .ge 31, 3) := by decide +kernel
theorem dX12_fails_10 : decode cX12_fails 10 = .ok (.aload_n 0, 1) := by decide +kernel
theorem dX12_fails_11 : decode cX12_fails 11 = .ok (.iload_n 1, 1) := by decide +kernel
theorem dX12_fails_12 : decode cX12_fails 12 = .ok (.aload_n 0, 1) := by decide +kernel
theorem dX12_fails_13 : decode cX12_fails 13 = .ok (.getfield 52, 3) := by decide +kernel
theorem dX12_fails_16 : decode cX12_fails 16 = .ok (.iload_n 2, 1) := by decide +kernel
theorem dX12_fails_17 : decode cX12_fails 17 = .ok (.iaload, 1) := by decide +kernel
theorem dX12_fails_18 : decode cX12_fails 18 = .ok (.aload_n 0, 1) := by decide +kernel
theorem dX12_fails_19 : decode cX12_fails 19 = .ok (.getfield 55, 3) := by decide +kernel
theorem dX12_fails_22 : decode cX12_fails 22 = .ok (.iload_n 2, 1) := by decide +kernel
theorem dX12_fails_23 : decode cX12_fails 23 = .ok (.iaload, 1) := by decide +kernel
theorem dX12_fails_24 : decode cX12_fails 24 = .ok (.invokevirtual 242, 3) := by decide +kernel
theorem dX12_fails_27 : decode cX12_fails 27 = .ok (.ifCond .ne 5, 3) := by decide +kernel
theorem dX12_fails_30 : decode cX12_fails 30 = .ok (.iload_n 2, 1) := by decide +kernel
theorem dX12_fails_31 : decode cX12_fails 31 = .ok (.ireturn, 1) := by decide +kernel
theorem dX12_fails_32 : decode cX12_fails 32 = .ok (.iinc 2 1, 3) := by decide +kernel
theorem dX12_fails_35 : decode cX12_fails 35 = .ok (.goto (-33), 3) := by decide +kernel
theorem dX12_fails_38 : decode cX12_fails 38 = .ok (.bipush (-2), 2) := by decide +kernel
theorem dX12_fails_40 : decode cX12_fails 40 = .ok (.ireturn, 1) := by decide +kernel
theorem dX12_safe_0 : decode cX12_safe 0 = .ok (.iload_n 1, 1) := by decide +kernel
theorem dX12_safe_1 : decode cX12_safe 1 = .ok (.invokestatic 177, 3) := by decide +kernel
theorem dX12_safe_4 : decode cX12_safe 4 = .ok (.ifCond .ne 9, 3) := by decide +kernel
theorem dX12_safe_7 : decode cX12_safe 7 = .ok (.aload_n 0, 1) := by decide +kernel
theorem dX12_safe_8 : decode cX12_safe 8 = .ok (.iconst 1, 1) := by decide +kernel
theorem dX12_safe_9 : decode cX12_safe 9 = .ok (.invokevirtual 184, 3) := by decide +kernel
theorem dX12_safe_12 : decode cX12_safe 12 = .ok (.ireturn, 1) := by decide +kernel
theorem dX12_safe_13 : decode cX12_safe 13 = .ok (.aload_n 0, 1) := by decide +kernel
theorem dX12_safe_14 : decode cX12_safe 14 = .ok (.iconst 0, 1) := by decide +kernel
theorem dX12_safe_15 : decode cX12_safe 15 = .ok (.putfield 89, 3) := by decide +kernel
theorem dX12_safe_18 : decode cX12_safe 18 = .ok (.aload_n 0, 1) := by decide +kernel
theorem dX12_safe_19 : decode cX12_safe 19 = .ok (.iload_n 1, 1) := by decide +kernel
theorem dX12_safe_20 : decode cX12_safe 20 = .ok (.invokevirtual 195, 3) := by decide +kernel
theorem dX12_safe_23 : decode cX12_safe 23 = .ok (.aload_n 0, 1) := by decide +kernel
theorem dX12_safe_24 : decode cX12_safe 24 = .ok (.iload_n 1, 1) := by decide +kernel
theorem dX12_safe_25 : decode cX12_safe 25 = .ok (.invokevirtual 249, 3) := by decide +kernel
theorem dX12_safe_28 : decode cX12_safe 28 = .ok (.ireturn, 1) := by decide +kernel
theorem dX12_size_0 : decode cX12_size 0 = .ok (.iload_n 1, 1) := by decide +kernel
theorem dX12_size_1 : decode cX12_size 1 = .ok (.iconst 1, 1) := by decide +kernel
theorem dX12_size_2 : decode cX12_size 2 = .ok (.if_icmp .lt 22, 3) := by decide +kernel
theorem dX12_size_5 : decode cX12_size 5 = .ok (.iload_n 1, 1) := by decide +kernel
theorem dX12_size_6 : decode cX12_size 6 = .ok (.sipush 200, 3) := by decide +kernel
theorem dX12_size_9 : decode cX12_size 9 = .ok (.if_icmp .gt 15, 3) := by decide +kernel
theorem dX12_size_12 : decode cX12_size 12 = .ok (.iload_n 2, 1) := by decide +kernel
theorem dX12_size_13 : decode cX12_size 13 = .ok (.iconst 1, 1) := by decide +kernel
theorem dX12_size_14 : decode cX12_size 14 = .ok (.if_icmp .lt 10, 3) := by decide +kernel
theorem dX12_size_17 : decode cX12_size 17 = .ok (.iload_n 2, 1) := by decide +kernel
theorem dX12_size_18 : decode cX12_size 18 = .ok (.sipush 10000, 3) := by decide +kernel
theorem dX12_size_21 : decode cX12_size 21 = .ok (.if_icmp .le 9, 3) := by decide +kernel
theorem dX12_size_24 : decode cX12_size 24 = .ok (.aload_n 0, 1) := by decide +kernel
theorem dX12_size_25 : decode cX12_size 25 = .ok (.iconst 2, 1) := by decide +kernel
theorem dX12_size_26 : decode cX12_size 26 = .ok (.invokevirtual 184, 3) := by decide +kernel
theorem dX12_size_29 : decode cX12_size 29 = .ok (.ireturn, 1) := by decide +kernel
theorem dX12_size_30 : decode cX12_size 30 = .ok (.aload_n 0, 1) := by decide +kernel
theorem dX12_size_31 : decode cX12_size 31 = .ok (.getfield 252, 3) := by decide +kernel
theorem dX12_size_34 : decode cX12_size 34 = .ok (.iconst 4, 1) := by decide +kernel
theorem dX12_size_35 : decode cX12_size 35 = .ok (.if_icmp .ne 9, 3) := by decide +kernel
theorem dX12_size_38 : decode cX12_size 38 = .ok (.aload_n 0, 1) := by decide +kernel
theorem dX12_size_39 : decode cX12_size 39 = .ok (.iconst 3, 1) := by decide +kernel
theorem dX12_size_40 : decode cX12_size 40 = .ok (.invokevirtual 184, 3) := by decide +kernel
theorem dX12_size_43 : decode cX12_size 43 = .ok (.ireturn, 1) := by decide +kernel
theorem dX12_size_44 : decode cX12_size 44 = .ok (.aload_n 0, 1) := by decide +kernel
theorem dX12_size_45 : decode cX12_size 45 = .ok (.getfield 58, 3) := by decide +kernel
theorem dX12_size_48 : decode cX12_size 48 = .ok (.aload_n 0, 1) := by decide +kernel
theorem dX12_size_49 : decode cX12_size 49 = .ok (.getfield 252, 3) := by decide +kernel
theorem dX12_size_52 : decode cX12_size 52 = .ok (.iload_n 1, 1) := by decide +kernel
theorem dX12_size_53 : decode cX12_size 53 = .ok (.iastore, 1) := by decide +kernel
theorem dX12_size_54 : decode cX12_size 54 = .ok (.aload_n 0, 1) := by decide +kernel
theorem dX12_size_55 : decode cX12_size 55 = .ok (.getfield 61, 3) := by decide +kernel
theorem dX12_size_58 : decode cX12_size 58 = .ok (.aload_n 0, 1) := by decide +kernel
theorem dX12_size_59 : decode cX12_size 59 = .ok (.getfield 252, 3) := by decide +kernel
theorem dX12_size_62 : decode cX12_size 62 = .ok (.iload_n 2, 1) := by decide +kernel
theorem dX12_size_63 : decode cX12_size 63 = .ok (.iastore, 1) := by decide +kernel
theorem dX12_size_64 : decode cX12_size 64 = .ok (.aload_n 0, 1) := by decide +kernel
theorem dX12_size_65 : decode cX12_size 65 = .ok (.dup, 1) := by decide +kernel
theorem dX12_size_66 : decode cX12_size 66 = .ok (.getfield 252, 3) := by decide +kernel
theorem dX12_size_69 : decode cX12_size 69 = .ok (.iconst 1, 1) := by decide +kernel
theorem dX12_size_70 : decode cX12_size 70 = .ok (.iadd, 1) := by decide +kernel
theorem dX12_size_71 : decode cX12_size 71 = .ok (.putfield 252, 3) := by decide +kernel
theorem dX12_size_74 : decode cX12_size 74 = .ok (.aload_n 0, 1) := by decide +kernel
theorem dX12_size_75 : decode cX12_size 75 = .ok (.iconst 0, 1) := by decide +kernel
theorem dX12_size_76 : decode cX12_size 76 = .ok (.putfield 89, 3) := by decide +kernel
theorem dX12_size_79 : decode cX12_size 79 = .ok (.aload_n 0, 1) := by decide +kernel
theorem dX12_size_80 : decode cX12_size 80 = .ok (.getfield 252, 3) := by decide +kernel
theorem dX12_size_83 : decode cX12_size 83 = .ok (.iconst 1, 1) := by decide +kernel
theorem dX12_size_84 : decode cX12_size 84 = .ok (.isub, 1) := by decide +kernel
theorem dX12_size_85 : decode cX12_size 85 = .ok (.ireturn, 1) := by decide +kernel
theorem dX12_choose_0 : decode cX12_choose 0 = .ok (.aload_n 0, 1) := by decide +kernel
theorem dX12_choose_1 : decode cX12_choose 1 = .ok (.iconst (-1), 1) := by decide +kernel
theorem dX12_choose_2 : decode cX12_choose 2 = .ok (.putfield 255, 3) := by decide +kernel
theorem dX12_choose_5 : decode cX12_choose 5 = .ok (.aload_n 0, 1) := by decide +kernel
theorem dX12_choose_6 : decode cX12_choose 6 = .ok (.getfield 34, 3) := by decide +kernel
theorem dX12_choose_9 : decode cX12_choose 9 = .ok (.iload_n 1, 1) := by decide +kernel
theorem dX12_choose_10 : decode cX12_choose 10 = .ok (.iaload, 1) := by decide +kernel
theorem dX12_choose_11 : decode cX12_choose 11 = .ok (.istore_n 2, 1) := by decide +kernel
theorem dX12_choose_12 : decode cX12_choose 12 = .ok (.iconst 1, 1) := by decide +kernel
theorem dX12_choose_13 : decode cX12_choose 13 = .ok (.istore_n 3, 1) := by decide +kernel
theorem dX12_choose_14 : decode cX12_choose 14 = .ok (.iconst 0, 1) := by decide +kernel
theorem dX12_choose_15 : decode cX12_choose 15 = .ok (.istore 4, 2) := by decide +kernel
theorem dX12_choose_17 : decode cX12_choose 17 = .ok (.iload 4, 2) := by decide +kernel
theorem dX12_choose_19 : decode cX12_choose 19 = .ok (.iload_n 2, 1) := by decide +kernel
theorem dX12_choose_20 : decode cX12_choose 20 = .ok (.if_icmp .ge 18, 3) := by decide +kernel
theorem dX12_choose_23 : decode cX12_choose 23 = .ok (.iload_n 3, 1) := by decide +kernel
theorem dX12_choose_24 : decode cX12_choose 24 = .ok (.aload_n 0, 1) := by decide +kernel
theorem dX12_choose_25 : decode cX12_choose 25 = .ok (.getfield 252, 3) := by decide +kernel
theorem dX12_choose_28 : decode cX12_choose 28 = .ok (.iconst 1, 1) := by decide +kernel
theorem dX12_choose_29 : decode cX12_choose 29 = .ok (.iadd, 1) := by decide +kernel
theorem dX12_choose_30 : decode cX12_choose 30 = .ok (.imul, 1) := by decide +kernel
theorem dX12_choose_31 : decode cX12_choose 31 = .ok (.istore_n 3, 1) := by decide +kernel
theorem dX12_choose_32 : decode cX12_choose 32 = .ok (.iinc 4 1, 3) := by decide +kernel
theorem dX12_choose_35 : decode cX12_choose 35 = .ok (.goto (-18), 3) := by decide +kernel
theorem dX12_choose_38 : decode cX12_choose 38 = .ok (.iconst 0, 1) := by decide +kernel
theorem dX12_choose_39 : decode cX12_choose 39 = .ok (.istore 4, 2) := by decide +kernel
theorem dX12_choose_41 : decode cX12_choose 41 = .ok (.iload 4, 2) := by decide +kernel
theorem dX12_choose_43 : decode cX12_choose 43 = .ok (.bipush 6, 2) := by decide +kernel
theorem dX12_choose_45 : decode cX12_choose 45 = .ok (.if_icmp .ge 17, 3) := by decide +kernel
theorem dX12_choose_48 : decode cX12_choose 48 = .ok (.aload_n 0, 1) := by decide +kernel
theorem dX12_choose_49 : decode cX12_choose 49 = .ok (.getfield 49, 3) := by decide +kernel
theorem dX12_choose_52 : decode cX12_choose 52 = .ok (.iload 4, 2) := by decide +kernel
theorem dX12_choose_54 : decode cX12_choose 54 = .ok (.iconst 0, 1) := by decide +kernel
theorem dX12_choose_55 : decode cX12_choose 55 = .ok (.iastore, 1) := by decide +kernel
theorem dX12_choose_56 : decode cX12_choose 56 = .ok (.iinc 4 1, 3) := by decide +kernel
theorem dX12_choose_59 : decode cX12_choose 59 = .ok (.goto (-18), 3) := by decide +kernel
theorem dX12_choose_62 : decode cX12_choose 62 = .ok (.iconst 0, 1) := by decide +kernel
theorem dX12_choose_63 : decode cX12_choose 63 = .ok (.istore 4, 2) := by decide +kernel
theorem dX12_choose_65 : decode cX12_choose 65 = .ok (.iload 4, 2) := by decide +kernel
theorem dX12_choose_67 : decode cX12_choose 67 = .ok (.iload_n 3, 1) := by decide +kernel
theorem dX12_choose_68 : decode cX12_choose 68 = .ok (.if_icmp .ge 185, 3) := by decide +kernel
theorem dX12_choose_71 : decode cX12_choose 71 = .ok (.iload 4, 2) := by decide +kernel
theorem dX12_choose_73 : decode cX12_choose 73 = .ok (.istore 5, 2) := by decide +kernel
theorem dX12_choose_75 : decode cX12_choose 75 = .ok (.iconst 0, 1) := by decide +kernel
theorem dX12_choose_76 : decode cX12_choose 76 = .ok (.istore 6, 2) := by decide +kernel
theorem dX12_choose_78 : decode cX12_choose 78 = .ok (.iload_n 2, 1) := by decide +kernel
theorem dX12_choose_79 : decode cX12_choose 79 = .ok (.iconst 1, 1) := by decide +kernel
theorem dX12_choose_80 : decode cX12_choose 80 = .ok (.isub, 1) := by decide +kernel
theorem dX12_choose_81 : decode cX12_choose 81 = .ok (.istore 7, 2) := by decide +kernel
theorem dX12_choose_83 : decode cX12_choose 83 = .ok (.iload 7, 2) := by decide +kernel
theorem dX12_choose_85 : decode cX12_choose 85 = .ok (.ifCond .lt 77, 3) := by decide +kernel
theorem dX12_choose_88 : decode cX12_choose 88 = .ok (.iload 5, 2) := by decide +kernel
theorem dX12_choose_90 : decode cX12_choose 90 = .ok (.aload_n 0, 1) := by decide +kernel
theorem dX12_choose_91 : decode cX12_choose 91 = .ok (.getfield 252, 3) := by decide +kernel
theorem dX12_choose_94 : decode cX12_choose 94 = .ok (.iconst 1, 1) := by decide +kernel
theorem dX12_choose_95 : decode cX12_choose 95 = .ok (.iadd, 1) := by decide +kernel
theorem dX12_choose_96 : decode cX12_choose 96 = .ok (.irem, 1) := by decide +kernel
theorem dX12_choose_97 : decode cX12_choose 97 = .ok (.iconst 1, 1) := by decide +kernel
theorem dX12_choose_98 : decode cX12_choose 98 = .ok (.isub, 1) := by decide +kernel
theorem dX12_choose_99 : decode cX12_choose 99 = .ok (.istore 8, 2) := by decide +kernel
theorem dX12_choose_101 : decode cX12_choose 101 = .ok (.iload 5, 2) := by decide +kernel
theorem dX12_choose_103 : decode cX12_choose 103 = .ok (.aload_n 0, 1) := by decide +kernel
theorem dX12_choose_104 : decode cX12_choose 104 = .ok (.getfield 252, 3) := by decide +kernel
