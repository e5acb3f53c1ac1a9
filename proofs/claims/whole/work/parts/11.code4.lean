theorem dX12_choose_107 : decode cX12_choose 107 = .ok (.iconst 1, 1) := by decide +kernel
theorem dX12_choose_108 : decode cX12_choose 108 = .ok (.iadd, 1) := by decide +kernel
theorem dX12_choose_109 : decode cX12_choose 109 = .ok (.idiv, 1) := by decide +kernel
theorem dX12_choose_110 : decode cX12_choose 110 = .ok (.istore 5, 2) := by decide +kernel
theorem dX12_choose_112 : decode cX12_choose 112 = .ok (.aload_n 0, 1) := by decide +kernel
theorem dX12_choose_113 : decode cX12_choose 113 = .ok (.getfield 49, 3) := by decide +kernel
theorem dX12_choose_116 : decode cX12_choose 116 = .ok (.iload 7, 2) := by decide +kernel
theorem dX12_choose_118 : decode cX12_choose 118 = .ok (.iload 8, 2) := by decide +kernel
theorem dX12_choose_120 : decode cX12_choose 120 = .ok (.ifCond .ge 7, 3) := by decide +kernel
theorem dX12_choose_123 : decode cX12_choose 123 = .ok (.iconst 0, 1) := by decide +kernel
theorem dX12_choose_124 : decode cX12_choose 124 = .ok (.goto 10, 3) := by decide +kernel
theorem dX12_choose_127 : decode cX12_choose 127 = .ok (.aload_n 0, 1) := by decide +kernel
theorem dX12_choose_128 : decode cX12_choose 128 = .ok (.getfield 58, 3) := by decide +kernel
theorem dX12_choose_131 : decode cX12_choose 131 = .ok (.iload 8, 2) := by decide +kernel
theorem dX12_choose_133 : decode cX12_choose 133 = .ok (.iaload, 1) := by decide +kernel
theorem dX12_choose_134 : decode cX12_choose 134 = .ok (.iastore, 1) := by decide +kernel
theorem dX12_choose_135 : decode cX12_choose 135 = .ok (.iload 6, 2) := by decide +kernel
theorem dX12_choose_137 : decode cX12_choose 137 = .ok (.iload 8, 2) := by decide +kernel
theorem dX12_choose_139 : decode cX12_choose 139 = .ok (.ifCond .ge 7, 3) := by decide +kernel
theorem dX12_choose_142 : decode cX12_choose 142 = .ok (.iconst 0, 1) := by decide +kernel
theorem dX12_choose_143 : decode cX12_choose 143 = .ok (.goto 10, 3) := by decide +kernel
theorem dX12_choose_146 : decode cX12_choose 146 = .ok (.aload_n 0, 1) := by decide +kernel
theorem dX12_choose_147 : decode cX12_choose 147 = .ok (.getfield 61, 3) := by decide +kernel
theorem dX12_choose_150 : decode cX12_choose 150 = .ok (.iload 8, 2) := by decide +kernel
theorem dX12_choose_152 : decode cX12_choose 152 = .ok (.iaload, 1) := by decide +kernel
theorem dX12_choose_153 : decode cX12_choose 153 = .ok (.iadd, 1) := by decide +kernel
theorem dX12_choose_154 : decode cX12_choose 154 = .ok (.istore 6, 2) := by decide +kernel
theorem dX12_choose_156 : decode cX12_choose 156 = .ok (.iinc 7 (-1), 3) := by decide +kernel
theorem dX12_choose_159 : decode cX12_choose 159 = .ok (.goto (-76), 3) := by decide +kernel
theorem dX12_choose_162 : decode cX12_choose 162 = .ok (.aload_n 0, 1) := by decide +kernel
theorem dX12_choose_163 : decode cX12_choose 163 = .ok (.getfield 255, 3) := by decide +kernel
theorem dX12_choose_166 : decode cX12_choose 166 = .ok (.iconst (-1), 1) := by decide +kernel
theorem dX12_choose_167 : decode cX12_choose 167 = .ok (.if_icmp .eq 12, 3) := by decide +kernel
theorem dX12_choose_170 : decode cX12_choose 170 = .ok (.iload 6, 2) := by decide +kernel
theorem dX12_choose_172 : decode cX12_choose 172 = .ok (.aload_n 0, 1) := by decide +kernel
theorem dX12_choose_173 : decode cX12_choose 173 = .ok (.getfield 255, 3) := by decide +kernel
theorem dX12_choose_176 : decode cX12_choose 176 = .ok (.if_icmp .ge 71, 3) := by decide +kernel
theorem dX12_choose_179 : decode cX12_choose 179 = .ok (.aload_n 0, 1) := by decide +kernel
theorem dX12_choose_180 : decode cX12_choose 180 = .ok (.iload_n 1, 1) := by decide +kernel
theorem dX12_choose_181 : decode cX12_choose 181 = .ok (.invokevirtual 249, 3) := by decide +kernel
theorem dX12_choose_184 : decode cX12_choose 184 = .ok (.bipush (-2), 2) := by decide +kernel
theorem dX12_choose_186 : decode cX12_choose 186 = .ok (.if_icmp .eq 6, 3) := by decide +kernel
theorem dX12_choose_189 : decode cX12_choose 189 = .ok (.goto 58, 3) := by decide +kernel
theorem dX12_choose_192 : decode cX12_choose 192 = .ok (.aload_n 0, 1) := by decide +kernel
theorem dX12_choose_193 : decode cX12_choose 193 = .ok (.iload 6, 2) := by decide +kernel
theorem dX12_choose_195 : decode cX12_choose 195 = .ok (.putfield 255, 3) := by decide +kernel
theorem dX12_choose_198 : decode cX12_choose 198 = .ok (.iload 4, 2) := by decide +kernel
theorem dX12_choose_200 : decode cX12_choose 200 = .ok (.istore 5, 2) := by decide +kernel
theorem dX12_choose_202 : decode cX12_choose 202 = .ok (.iload_n 2, 1) := by decide +kernel
theorem dX12_choose_203 : decode cX12_choose 203 = .ok (.iconst 1, 1) := by decide +kernel
theorem dX12_choose_204 : decode cX12_choose 204 = .ok (.isub, 1) := by decide +kernel
theorem dX12_choose_205 : decode cX12_choose 205 = .ok (.istore 7, 2) := by decide +kernel
theorem dX12_choose_207 : decode cX12_choose 207 = .ok (.iload 7, 2) := by decide +kernel
theorem dX12_choose_209 : decode cX12_choose 209 = .ok (.ifCond .lt 38, 3) := by decide +kernel
theorem dX12_choose_212 : decode cX12_choose 212 = .ok (.aload_n 0, 1) := by decide +kernel
theorem dX12_choose_213 : decode cX12_choose 213 = .ok (.getfield 64, 3) := by decide +kernel
theorem dX12_choose_216 : decode cX12_choose 216 = .ok (.iload 7, 2) := by decide +kernel
theorem dX12_choose_218 : decode cX12_choose 218 = .ok (.iload 5, 2) := by decide +kernel
theorem dX12_choose_220 : decode cX12_choose 220 = .ok (.aload_n 0, 1) := by decide +kernel
theorem dX12_choose_221 : decode cX12_choose 221 = .ok (.getfield 252, 3) := by decide +kernel
theorem dX12_choose_224 : decode cX12_choose 224 = .ok (.iconst 1, 1) := by decide +kernel
theorem dX12_choose_225 : decode cX12_choose 225 = .ok (.iadd, 1) := by decide +kernel
theorem dX12_choose_226 : decode cX12_choose 226 = .ok (.irem, 1) := by decide +kernel
theorem dX12_choose_227 : decode cX12_choose 227 = .ok (.iconst 1, 1) := by decide +kernel
theorem dX12_choose_228 : decode cX12_choose 228 = .ok (.isub, 1) := by decide +kernel
theorem dX12_choose_229 : decode cX12_choose 229 = .ok (.iastore, 1) := by decide +kernel
theorem dX12_choose_230 : decode cX12_choose 230 = .ok (.iload 5, 2) := by decide +kernel
theorem dX12_choose_232 : decode cX12_choose 232 = .ok (.aload_n 0, 1) := by decide +kernel
theorem dX12_choose_233 : decode cX12_choose 233 = .ok (.getfield 252, 3) := by decide +kernel
theorem dX12_choose_236 : decode cX12_choose 236 = .ok (.iconst 1, 1) := by decide +kernel
theorem dX12_choose_237 : decode cX12_choose 237 = .ok (.iadd, 1) := by decide +kernel
theorem dX12_choose_238 : decode cX12_choose 238 = .ok (.idiv, 1) := by decide +kernel
theorem dX12_choose_239 : decode cX12_choose 239 = .ok (.istore 5, 2) := by decide +kernel
theorem dX12_choose_241 : decode cX12_choose 241 = .ok (.iinc 7 (-1), 3) := by decide +kernel
theorem dX12_choose_244 : decode cX12_choose 244 = .ok (.goto (-37), 3) := by decide +kernel
theorem dX12_choose_247 : decode cX12_choose 247 = .ok (.iinc 4 1, 3) := by decide +kernel
theorem dX12_choose_250 : decode cX12_choose 250 = .ok (.goto (-185), 3) := by decide +kernel
theorem dX12_choose_253 : decode cX12_choose 253 = .ok (.aload_n 0, 1) := by decide +kernel
theorem dX12_choose_254 : decode cX12_choose 254 = .ok (.getfield 255, 3) := by decide +kernel
theorem dX12_choose_257 : decode cX12_choose 257 = .ok (.iconst (-1), 1) := by decide +kernel
theorem dX12_choose_258 : decode cX12_choose 258 = .ok (.if_icmp .eq 7, 3) := by decide +kernel
theorem dX12_choose_261 : decode cX12_choose 261 = .ok (.iconst 1, 1) := by decide +kernel
theorem dX12_choose_262 : decode cX12_choose 262 = .ok (.goto 4, 3) := by decide +kernel
theorem dX12_choose_265 : decode cX12_choose 265 = .ok (.iconst 0, 1) := by decide +kernel
theorem dX12_choose_266 : decode cX12_choose 266 = .ok (.ireturn, 1) := by decide +kernel
theorem dX12_best_0 : decode cX12_best 0 = .ok (.iload_n 1, 1) := by decide +kernel
theorem dX12_best_1 : decode cX12_best 1 = .ok (.invokestatic 177, 3) := by decide +kernel
theorem dX12_best_4 : decode cX12_best 4 = .ok (.ifCond .ne 9, 3) := by decide +kernel
theorem dX12_best_7 : decode cX12_best 7 = .ok (.aload_n 0, 1) := by decide +kernel
theorem dX12_best_8 : decode cX12_best 8 = .ok (.iconst 1, 1) := by decide +kernel
theorem dX12_best_9 : decode cX12_best 9 = .ok (.invokevirtual 184, 3) := by decide +kernel
theorem dX12_best_12 : decode cX12_best 12 = .ok (.ireturn, 1) := by decide +kernel
theorem dX12_best_13 : decode cX12_best 13 = .ok (.aload_n 0, 1) := by decide +kernel
theorem dX12_best_14 : decode cX12_best 14 = .ok (.iload_n 1, 1) := by decide +kernel
theorem dX12_best_15 : decode cX12_best 15 = .ok (.invokevirtual 258, 3) := by decide +kernel
theorem dX12_best_18 : decode cX12_best 18 = .ok (.ifCond .ne 9, 3) := by decide +kernel
theorem dX12_best_21 : decode cX12_best 21 = .ok (.aload_n 0, 1) := by decide +kernel
theorem dX12_best_22 : decode cX12_best 22 = .ok (.iconst 5, 1) := by decide +kernel
theorem dX12_best_23 : decode cX12_best 23 = .ok (.invokevirtual 184, 3) := by decide +kernel
theorem dX12_best_26 : decode cX12_best 26 = .ok (.ireturn, 1) := by decide +kernel
theorem dX12_best_27 : decode cX12_best 27 = .ok (.aload_n 0, 1) := by decide +kernel
theorem dX12_best_28 : decode cX12_best 28 = .ok (.iconst 0, 1) := by decide +kernel
theorem dX12_best_29 : decode cX12_best 29 = .ok (.putfield 89, 3) := by decide +kernel
theorem dX12_best_32 : decode cX12_best 32 = .ok (.aload_n 0, 1) := by decide +kernel
theorem dX12_best_33 : decode cX12_best 33 = .ok (.getfield 255, 3) := by decide +kernel
theorem dX12_best_36 : decode cX12_best 36 = .ok (.ireturn, 1) := by decide +kernel
theorem dX12_chosen_0 : decode cX12_chosen 0 = .ok (.aload_n 0, 1) := by decide +kernel
theorem dX12_chosen_1 : decode cX12_chosen 1 = .ok (.iload_n 1, 1) := by decide +kernel
theorem dX12_chosen_2 : decode cX12_chosen 2 = .ok (.iload_n 2, 1) := by decide +kernel
theorem dX12_chosen_3 : decode cX12_chosen 3 = .ok (.invokevirtual 187, 3) := by decide +kernel
theorem dX12_chosen_6 : decode cX12_chosen 6 = .ok (.ifCond .ne 9, 3) := by decide +kernel
theorem dX12_chosen_9 : decode cX12_chosen 9 = .ok (.aload_n 0, 1) := by decide +kernel
theorem dX12_chosen_10 : decode cX12_chosen 10 = .ok (.iconst 1, 1) := by decide +kernel
theorem dX12_chosen_11 : decode cX12_chosen 11 = .ok (.invokevirtual 184, 3) := by decide +kernel
theorem dX12_chosen_14 : decode cX12_chosen 14 = .ok (.ireturn, 1) := by decide +kernel
theorem dX12_chosen_15 : decode cX12_chosen 15 = .ok (.aload_n 0, 1) := by decide +kernel
theorem dX12_chosen_16 : decode cX12_chosen 16 = .ok (.iload_n 1, 1) := by decide +kernel
theorem dX12_chosen_17 : decode cX12_chosen 17 = .ok (.invokevirtual 258, 3) := by decide +kernel
theorem dX12_chosen_20 : decode cX12_chosen 20 = .ok (.ifCond .ne 9, 3) := by decide +kernel
theorem dX12_chosen_23 : decode cX12_chosen 23 = .ok (.aload_n 0, 1) := by decide +kernel
theorem dX12_chosen_24 : decode cX12_chosen 24 = .ok (.iconst 5, 1) := by decide +kernel
theorem dX12_chosen_25 : decode cX12_chosen 25 = .ok (.invokevirtual 184, 3) := by decide +kernel
theorem dX12_chosen_28 : decode cX12_chosen 28 = .ok (.ireturn, 1) := by decide +kernel
theorem dX12_chosen_29 : decode cX12_chosen 29 = .ok (.aload_n 0, 1) := by decide +kernel
theorem dX12_chosen_30 : decode cX12_chosen 30 = .ok (.iconst 0, 1) := by decide +kernel
theorem dX12_chosen_31 : decode cX12_chosen 31 = .ok (.putfield 89, 3) := by decide +kernel
theorem dX12_chosen_34 : decode cX12_chosen 34 = .ok (.aload_n 0, 1) := by decide +kernel
theorem dX12_chosen_35 : decode cX12_chosen 35 = .ok (.getfield 64, 3) := by decide +kernel
theorem dX12_chosen_38 : decode cX12_chosen 38 = .ok (.iload_n 2, 1) := by decide +kernel
theorem dX12_chosen_39 : decode cX12_chosen 39 = .ok (.iaload, 1) := by decide +kernel
theorem dX12_chosen_40 : decode cX12_chosen 40 = .ok (.ifCond .ge 8, 3) := by decide +kernel
theorem dX12_chosen_43 : decode cX12_chosen 43 = .ok (.bipush (-2), 2) := by decide +kernel
theorem dX12_chosen_45 : decode cX12_chosen 45 = .ok (.goto 9, 3) := by decide +kernel
theorem dX12_chosen_48 : decode cX12_chosen 48 = .ok (.aload_n 0, 1) := by decide +kernel
theorem dX12_chosen_49 : decode cX12_chosen 49 = .ok (.getfield 64, 3) := by decide +kernel
theorem dX12_chosen_52 : decode cX12_chosen 52 = .ok (.iload_n 2, 1) := by decide +kernel
theorem dX12_chosen_53 : decode cX12_chosen 53 = .ok (.iaload, 1) := by decide +kernel
theorem dX12_chosen_54 : decode cX12_chosen 54 = .ok (.ireturn, 1) := by decide +kernel
theorem dX12_take_0 : decode cX12_take 0 = .ok (.iload_n 1, 1) := by decide +kernel
theorem dX12_take_1 : decode cX12_take 1 = .ok (.invokestatic 177, 3) := by decide +kernel
theorem dX12_take_4 : decode cX12_take 4 = .ok (.ifCond .ne 9, 3) := by decide +kernel
theorem dX12_take_7 : decode cX12_take 7 = .ok (.aload_n 0, 1) := by decide +kernel
theorem dX12_take_8 : decode cX12_take 8 = .ok (.iconst 1, 1) := by decide +kernel
theorem dX12_take_9 : decode cX12_take 9 = .ok (.invokevirtual 184, 3) := by decide +kernel
theorem dX12_take_12 : decode cX12_take 12 = .ok (.ireturn, 1) := by decide +kernel
theorem dX12_take_13 : decode cX12_take 13 = .ok (.aload_n 0, 1) := by decide +kernel
theorem dX12_take_14 : decode cX12_take 14 = .ok (.iload_n 1, 1) := by decide +kernel
theorem dX12_take_15 : decode cX12_take 15 = .ok (.invokevirtual 258, 3) := by decide +kernel
theorem dX12_take_18 : decode cX12_take 18 = .ok (.ifCond .ne 9, 3) := by decide +kernel
theorem dX12_take_21 : decode cX12_take 21 = .ok (.aload_n 0, 1) := by decide +kernel
theorem dX12_take_22 : decode cX12_take 22 = .ok (.iconst 5, 1) := by decide +kernel
theorem dX12_take_23 : decode cX12_take 23 = .ok (.invokevirtual 184, 3) := by decide +kernel
theorem dX12_take_26 : decode cX12_take 26 = .ok (.ireturn, 1) := by decide +kernel
theorem dX12_take_27 : decode cX12_take 27 = .ok (.aload_n 0, 1) := by decide +kernel
theorem dX12_take_28 : decode cX12_take 28 = .ok (.iconst 0, 1) := by decide +kernel
theorem dX12_take_29 : decode cX12_take 29 = .ok (.putfield 89, 3) := by decide +kernel
theorem dX12_take_32 : decode cX12_take 32 = .ok (.iconst 0, 1) := by decide +kernel
theorem dX12_take_33 : decode cX12_take 33 = .ok (.istore_n 2, 1) := by decide +kernel
theorem dX12_take_34 : decode cX12_take 34 = .ok (.iconst 0, 1) := by decide +kernel
theorem dX12_take_35 : decode cX12_take 35 = .ok (.istore_n 3, 1) := by decide +kernel
theorem dX12_take_36 : decode cX12_take 36 = .ok (.iload_n 3, 1) := by decide +kernel
theorem dX12_take_37 : decode cX12_take 37 = .ok (.aload_n 0, 1) := by decide +kernel
theorem dX12_take_38 : decode cX12_take 38 = .ok (.getfield 34, 3) := by decide +kernel
theorem dX12_take_41 : decode cX12_take 41 = .ok (.iload_n 1, 1) := by decide +kernel
theorem dX12_take_42 : decode cX12_take 42 = .ok (.iaload, 1) := by decide +kernel
theorem dX12_take_43 : decode cX12_take 43 = .ok (.if_icmp .ge 72, 3) := by decide +kernel
theorem dX12_take_46 : decode cX12_take 46 = .ok (.aload_n 0, 1) := by decide +kernel
theorem dX12_take_47 : decode cX12_take 47 = .ok (.getfield 64, 3) := by decide +kernel
theorem dX12_take_50 : decode cX12_take 50 = .ok (.iload_n 3, 1) := by decide +kernel
theorem dX12_take_51 : decode cX12_take 51 = .ok (.iaload, 1) := by decide +kernel
theorem dX12_take_52 : decode cX12_take 52 = .ok (.ifCond .ge 7, 3) := by decide +kernel
theorem dX12_take_55 : decode cX12_take 55 = .ok (.iconst 0, 1) := by decide +kernel
theorem dX12_take_56 : decode cX12_take 56 = .ok (.goto 14, 3) := by decide +kernel
theorem dX12_take_59 : decode cX12_take 59 = .ok (.aload_n 0, 1) := by decide +kernel
theorem dX12_take_60 : decode cX12_take 60 = .ok (.getfield 58, 3) := by decide +kernel
theorem dX12_take_63 : decode cX12_take 63 = .ok (.aload_n 0, 1) := by decide +kernel
theorem dX12_take_64 : decode cX12_take 64 = .ok (.getfield 64, 3) := by decide +kernel
theorem dX12_take_67 : decode cX12_take 67 = .ok (.iload_n 3, 1) := by decide +kernel
theorem dX12_take_68 : decode cX12_take 68 = .ok (.iaload, 1) := by decide +kernel
theorem dX12_take_69 : decode cX12_take 69 = .ok (.iaload, 1) := by decide +kernel
theorem dX12_take_70 : decode cX12_take 70 = .ok (.istore 4, 2) := by decide +kernel
theorem dX12_take_72 : decode cX12_take 72 = .ok (.iload_n 2, 1) := by decide +kernel
theorem dX12_take_73 : decode cX12_take 73 = .ok (.aload_n 0, 1) := by decide +kernel
theorem dX12_take_74 : decode cX12_take 74 = .ok (.getfield 46, 3) := by decide +kernel
theorem dX12_take_77 : decode cX12_take 77 = .ok (.bipush 6, 2) := by decide +kernel
theorem dX12_take_79 : decode cX12_take 79 = .ok (.iload_n 1, 1) := by decide +kernel
theorem dX12_take_80 : decode cX12_take 80 = .ok (.imul, 1) := by decide +kernel
theorem dX12_take_81 : decode cX12_take 81 = .ok (.iload_n 3, 1) := by decide +kernel
theorem dX12_take_82 : decode cX12_take 82 = .ok (.iadd, 1) := by decide +kernel
theorem dX12_take_83 : decode cX12_take 83 = .ok (.iaload, 1) := by decide +kernel
theorem dX12_take_84 : decode cX12_take 84 = .ok (.iload 4, 2) := by decide +kernel
theorem dX12_take_86 : decode cX12_take 86 = .ok (.if_icmp .ne 7, 3) := by decide +kernel
theorem dX12_take_89 : decode cX12_take 89 = .ok (.iconst 0, 1) := by decide +kernel
theorem dX12_take_90 : decode cX12_take 90 = .ok (.goto 4, 3) := by decide +kernel
theorem dX12_take_93 : decode cX12_take 93 = .ok (.iconst 1, 1) := by decide +kernel
theorem dX12_take_94 : decode cX12_take 94 = .ok (.iadd, 1) := by decide +kernel
theorem dX12_take_95 : decode cX12_take 95 = .ok (.istore_n 2, 1) := by decide +kernel
theorem dX12_take_96 : decode cX12_take 96 = .ok (.aload_n 0, 1) := by decide +kernel
theorem dX12_take_97 : decode cX12_take 97 = .ok (.getfield 46, 3) := by decide +kernel
theorem dX12_take_100 : decode cX12_take 100 = .ok (.bipush 6, 2) := by decide +kernel
theorem dX12_take_102 : decode cX12_take 102 = .ok (.iload_n 1, 1) := by decide +kernel
theorem dX12_take_103 : decode cX12_take 103 = .ok (.imul, 1) := by decide +kernel
theorem dX12_take_104 : decode cX12_take 104 = .ok (.iload_n 3, 1) := by decide +kernel
theorem dX12_take_105 : decode cX12_take 105 = .ok (.iadd, 1) := by decide +kernel
theorem dX12_take_106 : decode cX12_take 106 = .ok (.iload 4, 2) := by decide +kernel
theorem dX12_take_108 : decode cX12_take 108 = .ok (.iastore, 1) := by decide +kernel
theorem dX12_take_109 : decode cX12_take 109 = .ok (.iinc 3 1, 3) := by decide +kernel
theorem dX12_take_112 : decode cX12_take 112 = .ok (.goto (-76), 3) := by decide +kernel
theorem dX12_take_115 : decode cX12_take 115 = .ok (.iload_n 2, 1) := by decide +kernel
theorem dX12_take_116 : decode cX12_take 116 = .ok (.ireturn, 1) := by decide +kernel
theorem dX12_span_0 : decode cX12_span 0 = .ok (.iload_n 2, 1) := by decide +kernel
theorem dX12_span_1 : decode cX12_span 1 = .ok (.invokestatic 177, 3) := by decide +kernel
theorem dX12_span_4 : decode cX12_span 4 = .ok (.ifCond .ne 9, 3) := by decide +kernel
theorem dX12_span_7 : decode cX12_span 7 = .ok (.aload_n 0, 1) := by decide +kernel
theorem dX12_span_8 : decode cX12_span 8 = .ok (.iconst 1, 1) := by decide +kernel
theorem dX12_span_9 : decode cX12_span 9 = .ok (.invokevirtual 184, 3) := by decide +kernel
theorem dX12_span_12 : decode cX12_span 12 = .ok (.ireturn, 1) := by decide +kernel
theorem dX12_span_13 : decode cX12_span 13 = .ok (.iload_n 1, 1) := by decide +kernel
theorem dX12_span_14 : decode cX12_span 14 = .ok (.iconst 2, 1) := by decide +kernel
theorem dX12_span_15 : decode cX12_span 15 = .ok (.if_icmp .lt 9, 3) := by decide +kernel
theorem dX12_span_18 : decode cX12_span 18 = .ok (.iload_n 1, 1) := by decide +kernel
theorem dX12_span_19 : decode cX12_span 19 = .ok (.bipush 50, 2) := by decide +kernel
theorem dX12_span_21 : decode cX12_span 21 = .ok (.if_icmp .le 9, 3) := by decide +kernel
theorem dX12_span_24 : decode cX12_span 24 = .ok (.aload_n 0, 1) := by decide +kernel
theorem dX12_span_25 : decode cX12_span 25 = .ok (.iconst 2, 1) := by decide +kernel
theorem dX12_span_26 : decode cX12_span 26 = .ok (.invokevirtual 184, 3) := by decide +kernel
theorem dX12_span_29 : decode cX12_span 29 = .ok (.ireturn, 1) := by decide +kernel
theorem dX12_span_30 : decode cX12_span 30 = .ok (.aload_n 0, 1) := by decide +kernel
theorem dX12_span_31 : decode cX12_span 31 = .ok (.getfield 261, 3) := by decide +kernel
theorem dX12_span_34 : decode cX12_span 34 = .ok (.iconst 5, 1) := by decide +kernel
theorem dX12_span_35 : decode cX12_span 35 = .ok (.if_icmp .ne 9, 3) := by decide +kernel
theorem dX12_span_38 : decode cX12_span 38 = .ok (.aload_n 0, 1) := by decide +kernel
theorem dX12_span_39 : decode cX12_span 39 = .ok (.iconst 3, 1) := by decide +kernel
theorem dX12_span_40 : decode cX12_span 40 = .ok (.invokevirtual 184, 3) := by decide +kernel
theorem dX12_span_43 : decode cX12_span 43 = .ok (.ireturn, 1) := by decide +kernel
theorem dX12_span_44 : decode cX12_span 44 = .ok (.aload_n 0, 1) := by decide +kernel
theorem dX12_span_45 : decode cX12_span 45 = .ok (.getfield 67, 3) := by decide +kernel
theorem dX12_span_48 : decode cX12_span 48 = .ok (.aload_n 0, 1) := by decide +kernel
theorem dX12_span_49 : decode cX12_span 49 = .ok (.getfield 261, 3) := by decide +kernel
theorem dX12_span_52 : decode cX12_span 52 = .ok (.iload_n 1, 1) := by decide +kernel
theorem dX12_span_53 : decode cX12_span 53 = .ok (.iastore, 1) := by decide +kernel
theorem dX12_span_54 : decode cX12_span 54 = .ok (.aload_n 0, 1) := by decide +kernel
theorem dX12_span_55 : decode cX12_span 55 = .ok (.getfield 70, 3) := by decide +kernel
theorem dX12_span_58 : decode cX12_span 58 = .ok (.aload_n 0, 1) := by decide +kernel
theorem dX12_span_59 : decode cX12_span 59 = .ok (.getfield 261, 3) := by decide +kernel
theorem dX12_span_62 : decode cX12_span 62 = .ok (.iload_n 2, 1) := by decide +kernel
theorem dX12_span_63 : decode cX12_span 63 = .ok (.iastore, 1) := by decide +kernel
theorem dX12_span_64 : decode cX12_span 64 = .ok (.aload_n 0, 1) := by decide +kernel
theorem dX12_span_65 : decode cX12_span 65 = .ok (.getfield 73, 3) := by decide +kernel
theorem dX12_span_68 : decode cX12_span 68 = .ok (.aload_n 0, 1) := by decide +kernel
theorem dX12_span_69 : decode cX12_span 69 = .ok (.getfield 261, 3) := by decide +kernel
theorem dX12_span_72 : decode cX12_span 72 = .ok (.iconst 0, 1) := by decide +kernel
theorem dX12_span_73 : decode cX12_span 73 = .ok (.iastore, 1) := by decide +kernel
theorem dX12_span_74 : decode cX12_span 74 = .ok (.aload_n 0, 1) := by decide +kernel
theorem dX12_span_75 : decode cX12_span 75 = .ok (.dup, 1) := by decide +kernel
theorem dX12_span_76 : decode cX12_span 76 = .ok (.getfield 261, 3) := by decide +kernel
theorem dX12_span_79 : decode cX12_span 79 = .ok (.iconst 1, 1) := by decide +kernel
theorem dX12_span_80 : decode cX12_span 80 = .ok (.iadd, 1) := by decide +kernel
theorem dX12_span_81 : decode cX12_span 81 = .ok (.putfield 261, 3) := by decide +kernel
theorem dX12_span_84 : decode cX12_span 84 = .ok (.aload_n 0, 1) := by decide +kernel
theorem dX12_span_85 : decode cX12_span 85 = .ok (.iconst 0, 1) := by decide +kernel
theorem dX12_span_86 : decode cX12_span 86 = .ok (.putfield 89, 3) := by decide +kernel
theorem dX12_span_89 : decode cX12_span 89 = .ok (.aload_n 0, 1) := by decide +kernel
theorem dX12_span_90 : decode cX12_span 90 = .ok (.getfield 261, 3) := by decide +kernel
theorem dX12_span_93 : decode cX12_span 93 = .ok (.iconst 1, 1) := by decide +kernel
theorem dX12_span_94 : decode cX12_span 94 = .ok (.isub, 1) := by decide +kernel
theorem dX12_span_95 : decode cX12_span 95 = .ok (.ireturn, 1) := by decide +kernel
theorem dX12_away_0 : decode cX12_away 0 = .ok (.aload_n 0, 1) := by decide +kernel
theorem dX12_away_1 : decode cX12_away 1 = .ok (.iconst 0, 1) := by decide +kernel
theorem dX12_away_2 : decode cX12_away 2 = .ok (.putfield 261, 3) := by decide +kernel
theorem dX12_away_5 : decode cX12_away 5 = .ok (.aload_n 0, 1) := by decide +kernel
theorem dX12_away_6 : decode cX12_away 6 = .ok (.iconst 0, 1) := by decide +kernel
theorem dX12_away_7 : decode cX12_away 7 = .ok (.invokevirtual 181, 3) := by decide +kernel
theorem dX12_away_10 : decode cX12_away 10 = .ok (.ireturn, 1) := by decide +kernel
theorem dX12_hold_0 : decode cX12_hold 0 = .ok (.iload_n 1, 1) := by decide +kernel
theorem dX12_hold_1 : decode cX12_hold 1 = .ok (.ifCond .lt 8, 3) := by decide +kernel
theorem dX12_hold_4 : decode cX12_hold 4 = .ok (.iload_n 1, 1) := by decide +kernel
theorem dX12_hold_5 : decode cX12_hold 5 = .ok (.iconst 1, 1) := by decide +kernel
theorem dX12_hold_6 : decode cX12_hold 6 = .ok (.if_icmp .le 9, 3) := by decide +kernel
theorem dX12_hold_9 : decode cX12_hold 9 = .ok (.aload_n 0, 1) := by decide +kernel
theorem dX12_hold_10 : decode cX12_hold 10 = .ok (.iconst 2, 1) := by decide +kernel
theorem dX12_hold_11 : decode cX12_hold 11 = .ok (.invokevirtual 181, 3) := by decide +kernel
theorem dX12_hold_14 : decode cX12_hold 14 = .ok (.ireturn, 1) := by decide +kernel
theorem dX12_hold_15 : decode cX12_hold 15 = .ok (.aload_n 0, 1) := by decide +kernel
theorem dX12_hold_16 : decode cX12_hold 16 = .ok (.getfield 82, 3) := by decide +kernel
theorem dX12_hold_19 : decode cX12_hold 19 = .ok (.iload_n 1, 1) := by decide +kernel
theorem dX12_hold_20 : decode cX12_hold 20 = .ok (.baload, 1) := by decide +kernel
theorem dX12_hold_21 : decode cX12_hold 21 = .ok (.iload_n 2, 1) := by decide +kernel
theorem dX12_hold_22 : decode cX12_hold 22 = .ok (.if_icmp .ne 10, 3) := by decide +kernel
theorem dX12_hold_25 : decode cX12_hold 25 = .ok (.aload_n 0, 1) := by decide +kernel
theorem dX12_hold_26 : decode cX12_hold 26 = .ok (.bipush 8, 2) := by decide +kernel
theorem dX12_hold_28 : decode cX12_hold 28 = .ok (.invokevirtual 181, 3) := by decide +kernel
theorem dX12_hold_31 : decode cX12_hold 31 = .ok (.ireturn, 1) := by decide +kernel
theorem dX12_hold_32 : decode cX12_hold 32 = .ok (.aload_n 0, 1) := by decide +kernel
theorem dX12_hold_33 : decode cX12_hold 33 = .ok (.getfield 82, 3) := by decide +kernel
theorem dX12_hold_36 : decode cX12_hold 36 = .ok (.iload_n 1, 1) := by decide +kernel
theorem dX12_hold_37 : decode cX12_hold 37 = .ok (.iload_n 2, 1) := by decide +kernel
theorem dX12_hold_38 : decode cX12_hold 38 = .ok (.bastore, 1) := by decide +kernel
theorem dX12_hold_39 : decode cX12_hold 39 = .ok (.aload_n 0, 1) := by decide +kernel
theorem dX12_hold_40 : decode cX12_hold 40 = .ok (.iconst 0, 1) := by decide +kernel
theorem dX12_hold_41 : decode cX12_hold 41 = .ok (.invokevirtual 181, 3) := by decide +kernel
theorem dX12_hold_44 : decode cX12_hold 44 = .ok (.ireturn, 1) := by decide +kernel
theorem dX12_isSpan_0 : decode cX12_isSpan 0 = .ok (.iload_n 1, 1) := by decide +kernel
theorem dX12_isSpan_1 : decode cX12_isSpan 1 = .ok (.ifCond .lt 15, 3) := by decide +kernel
theorem dX12_isSpan_4 : decode cX12_isSpan 4 = .ok (.iload_n 1, 1) := by decide +kernel
theorem dX12_isSpan_5 : decode cX12_isSpan 5 = .ok (.aload_n 0, 1) := by decide +kernel
theorem dX12_isSpan_6 : decode cX12_isSpan 6 = .ok (.getfield 261, 3) := by decide +kernel
theorem dX12_isSpan_9 : decode cX12_isSpan 9 = .ok (.if_icmp .ge 7, 3) := by decide +kernel
theorem dX12_isSpan_12 : decode cX12_isSpan 12 = .ok (.iconst 1, 1) := by decide +kernel
theorem dX12_isSpan_13 : decode cX12_isSpan 13 = .ok (.goto 4, 3) := by decide +kernel
theorem dX12_isSpan_16 : decode cX12_isSpan 16 = .ok (.iconst 0, 1) := by decide +kernel
theorem dX12_isSpan_17 : decode cX12_isSpan 17 = .ok (.ireturn, 1) := by decide +kernel
theorem dX12_load_0 : decode cX12_load 0 = .ok (.aload_n 0, 1) := by decide +kernel
theorem dX12_load_1 : decode cX12_load 1 = .ok (.iload_n 1, 1) := by decide +kernel
theorem dX12_load_2 : decode cX12_load 2 = .ok (.invokevirtual 264, 3) := by decide +kernel
theorem dX12_load_5 : decode cX12_load 5 = .ok (.ifCond .ne 9, 3) := by decide +kernel
theorem dX12_load_8 : decode cX12_load 8 = .ok (.aload_n 0, 1) := by decide +kernel
theorem dX12_load_9 : decode cX12_load 9 = .ok (.iconst 1, 1) := by decide +kernel
theorem dX12_load_10 : decode cX12_load 10 = .ok (.invokevirtual 184, 3) := by decide +kernel
theorem dX12_load_13 : decode cX12_load 13 = .ok (.ireturn, 1) := by decide +kernel
theorem dX12_load_14 : decode cX12_load 14 = .ok (.iload_n 2, 1) := by decide +kernel
theorem dX12_load_15 : decode cX12_load 15 = .ok (.iconst 1, 1) := by decide +kernel
theorem dX12_load_16 : decode cX12_load 16 = .ok (.if_icmp .lt 25, 3) := by decide +kernel
theorem dX12_load_19 : decode cX12_load 19 = .ok (.iload_n 2, 1) := by decide +kernel
theorem dX12_load_20 : decode cX12_load 20 = .ok (.aload_n 0, 1) := by decide +kernel
theorem dX12_load_21 : decode cX12_load 21 = .ok (.getfield 67, 3) := by decide +kernel
theorem dX12_load_24 : decode cX12_load 24 = .ok (.iload_n 1, 1) := by decide +kernel
theorem dX12_load_25 : decode cX12_load 25 = .ok (.iaload, 1) := by decide +kernel
theorem dX12_load_26 : decode cX12_load 26 = .ok (.if_icmp .ge 15, 3) := by decide +kernel
theorem dX12_load_29 : decode cX12_load 29 = .ok (.iload_n 3, 1) := by decide +kernel
theorem dX12_load_30 : decode cX12_load 30 = .ok (.iconst 1, 1) := by decide +kernel
theorem dX12_load_31 : decode cX12_load 31 = .ok (.if_icmp .lt 10, 3) := by decide +kernel
theorem dX12_load_34 : decode cX12_load 34 = .ok (.iload_n 3, 1) := by decide +kernel
theorem dX12_load_35 : decode cX12_load 35 = .ok (.sipush 1000, 3) := by decide +kernel
theorem dX12_load_38 : decode cX12_load 38 = .ok (.if_icmp .le 9, 3) := by decide +kernel
theorem dX12_load_41 : decode cX12_load 41 = .ok (.aload_n 0, 1) := by decide +kernel
theorem dX12_load_42 : decode cX12_load 42 = .ok (.iconst 2, 1) := by decide +kernel
theorem dX12_load_43 : decode cX12_load 43 = .ok (.invokevirtual 184, 3) := by decide +kernel
theorem dX12_load_46 : decode cX12_load 46 = .ok (.ireturn, 1) := by decide +kernel
theorem dX12_load_47 : decode cX12_load 47 = .ok (.aload_n 0, 1) := by decide +kernel
theorem dX12_load_48 : decode cX12_load 48 = .ok (.getfield 73, 3) := by decide +kernel
theorem dX12_load_51 : decode cX12_load 51 = .ok (.iload_n 1, 1) := by decide +kernel
theorem dX12_load_52 : decode cX12_load 52 = .ok (.iaload, 1) := by decide +kernel
theorem dX12_load_53 : decode cX12_load 53 = .ok (.iconst 2, 1) := by decide +kernel
theorem dX12_load_54 : decode cX12_load 54 = .ok (.if_icmp .ne 9, 3) := by decide +kernel
theorem dX12_load_57 : decode cX12_load 57 = .ok (.aload_n 0, 1) := by decide +kernel
theorem dX12_load_58 : decode cX12_load 58 = .ok (.iconst 3, 1) := by decide +kernel
theorem dX12_load_59 : decode cX12_load 59 = .ok (.invokevirtual 184, 3) := by decide +kernel
theorem dX12_load_62 : decode cX12_load 62 = .ok (.ireturn, 1) := by decide +kernel
theorem dX12_load_63 : decode cX12_load 63 = .ok (.iconst 0, 1) := by decide +kernel
theorem dX12_load_64 : decode cX12_load 64 = .ok (.istore 4, 2) := by decide +kernel
theorem dX12_load_66 : decode cX12_load 66 = .ok (.iload 4, 2) := by decide +kernel
theorem dX12_load_68 : decode cX12_load 68 = .ok (.aload_n 0, 1) := by decide +kernel
theorem dX12_load_69 : decode cX12_load 69 = .ok (.getfield 73, 3) := by decide +kernel
theorem dX12_load_72 : decode cX12_load 72 = .ok (.iload_n 1, 1) := by decide +kernel
theorem dX12_load_73 : decode cX12_load 73 = .ok (.iaload, 1) := by decide +kernel
theorem dX12_load_74 : decode cX12_load 74 = .ok (.if_icmp .ge 31, 3) := by decide +kernel
theorem dX12_load_77 : decode cX12_load 77 = .ok (.aload_n 0, 1) := by decide +kernel
theorem dX12_load_78 : decode cX12_load 78 = .ok (.getfield 76, 3) := by decide +kernel
theorem dX12_load_81 : decode cX12_load 81 = .ok (.iconst 2, 1) := by decide +kernel
theorem dX12_load_82 : decode cX12_load 82 = .ok (.iload_n 1, 1) := by decide +kernel
theorem dX12_load_83 : decode cX12_load 83 = .ok (.imul, 1) := by decide +kernel
theorem dX12_load_84 : decode cX12_load 84 = .ok (.iload 4, 2) := by decide +kernel
theorem dX12_load_86 : decode cX12_load 86 = .ok (.iadd, 1) := by decide +kernel
theorem dX12_load_87 : decode cX12_load 87 = .ok (.iaload, 1) := by decide +kernel
theorem dX12_load_88 : decode cX12_load 88 = .ok (.iload_n 2, 1) := by decide +kernel
theorem dX12_load_89 : decode cX12_load 89 = .ok (.if_icmp .ne 10, 3) := by decide +kernel
theorem dX12_load_92 : decode cX12_load 92 = .ok (.aload_n 0, 1) := by decide +kernel
theorem dX12_load_93 : decode cX12_load 93 = .ok (.bipush 7, 2) := by decide +kernel
theorem dX12_load_95 : decode cX12_load 95 = .ok (.invokevirtual 184, 3) := by decide +kernel
theorem dX12_load_98 : decode cX12_load 98 = .ok (.ireturn, 1) := by decide +kernel
theorem dX12_load_99 : decode cX12_load 99 = .ok (.iinc 4 1, 3) := by decide +kernel
theorem dX12_load_102 : decode cX12_load 102 = .ok (.goto (-36), 3) := by decide +kernel
theorem dX12_load_105 : decode cX12_load 105 = .ok (.aload_n 0, 1) := by decide +kernel
theorem dX12_load_106 : decode cX12_load 106 = .ok (.getfield 76, 3) := by decide +kernel
theorem dX12_load_109 : decode cX12_load 109 = .ok (.iconst 2, 1) := by decide +kernel
theorem dX12_load_110 : decode cX12_load 110 = .ok (.iload_n 1, 1) := by decide +kernel
theorem dX12_load_111 : decode cX12_load 111 = .ok (.imul, 1) := by decide +kernel
theorem dX12_load_112 : decode cX12_load 112 = .ok (.aload_n 0, 1) := by decide +kernel
theorem dX12_load_113 : decode cX12_load 113 = .ok (.getfield 73, 3) := by decide +kernel
theorem dX12_load_116 : decode cX12_load 116 = .ok (.iload_n 1, 1) := by decide +kernel
theorem dX12_load_117 : decode cX12_load 117 = .ok (.iaload, 1) := by decide +kernel
theorem dX12_load_118 : decode cX12_load 118 = .ok (.iadd, 1) := by decide +kernel
theorem dX12_load_119 : decode cX12_load 119 = .ok (.iload_n 2, 1) := by decide +kernel
theorem dX12_load_120 : decode cX12_load 120 = .ok (.iastore, 1) := by decide +kernel
theorem dX12_load_121 : decode cX12_load 121 = .ok (.aload_n 0, 1) := by decide +kernel
theorem dX12_load_122 : decode cX12_load 122 = .ok (.getfield 79, 3) := by decide +kernel
theorem dX12_load_125 : decode cX12_load 125 = .ok (.iconst 2, 1) := by decide +kernel
theorem dX12_load_126 : decode cX12_load 126 = .ok (.iload_n 1, 1) := by decide +kernel
theorem dX12_load_127 : decode cX12_load 127 = .ok (.imul, 1) := by decide +kernel
theorem dX12_load_128 : decode cX12_load 128 = .ok (.aload_n 0, 1) := by decide +kernel
theorem dX12_load_129 : decode cX12_load 129 = .ok (.getfield 73, 3) := by decide +kernel
theorem dX12_load_132 : decode cX12_load 132 = .ok (.iload_n 1, 1) := by decide +kernel
theorem dX12_load_133 : decode cX12_load 133 = .ok (.iaload, 1) := by decide +kernel
theorem dX12_load_134 : decode cX12_load 134 = .ok (.iadd, 1) := by decide +kernel
theorem dX12_load_135 : decode cX12_load 135 = .ok (.iload_n 3, 1) := by decide +kernel
theorem dX12_load_136 : decode cX12_load 136 = .ok (.iastore, 1) := by decide +kernel
theorem dX12_load_137 : decode cX12_load 137 = .ok (.aload_n 0, 1) := by decide +kernel
theorem dX12_load_138 : decode cX12_load 138 = .ok (.getfield 73, 3) := by decide +kernel
theorem dX12_load_141 : decode cX12_load 141 = .ok (.iload_n 1, 1) := by decide +kernel
theorem dX12_load_142 : decode cX12_load 142 = .ok (.dup2, 1) := by decide +kernel
theorem dX12_load_143 : decode cX12_load 143 = .ok (.iaload, 1) := by decide +kernel
theorem dX12_load_144 : decode cX12_load 144 = .ok (.iconst 1, 1) := by decide +kernel
theorem dX12_load_145 : decode cX12_load 145 = .ok (.iadd, 1) := by decide +kernel
theorem dX12_load_146 : decode cX12_load 146 = .ok (.iastore, 1) := by decide +kernel
theorem dX12_load_147 : decode cX12_load 147 = .ok (.aload_n 0, 1) := by decide +kernel
theorem dX12_load_148 : decode cX12_load 148 = .ok (.iconst 0, 1) := by decide +kernel
theorem dX12_load_149 : decode cX12_load 149 = .ok (.putfield 89, 3) := by decide +kernel
theorem dX12_load_152 : decode cX12_load 152 = .ok (.aload_n 0, 1) := by decide +kernel
theorem dX12_load_153 : decode cX12_load 153 = .ok (.getfield 73, 3) := by decide +kernel
theorem dX12_load_156 : decode cX12_load 156 = .ok (.iload_n 1, 1) := by decide +kernel
theorem dX12_load_157 : decode cX12_load 157 = .ok (.iaload, 1) := by decide +kernel
theorem dX12_load_158 : decode cX12_load 158 = .ok (.iconst 1, 1) := by decide +kernel
theorem dX12_load_159 : decode cX12_load 159 = .ok (.isub, 1) := by decide +kernel
theorem dX12_load_160 : decode cX12_load 160 = .ok (.ireturn, 1) := by decide +kernel
theorem dX12_strengthOf_0 : decode cX12_strengthOf 0 = .ok (.aload_n 0, 1) := by decide +kernel
theorem dX12_strengthOf_1 : decode cX12_strengthOf 1 = .ok (.getfield 70, 3) := by decide +kernel
theorem dX12_strengthOf_4 : decode cX12_strengthOf 4 = .ok (.iload_n 1, 1) := by decide +kernel
theorem dX12_strengthOf_5 : decode cX12_strengthOf 5 = .ok (.iaload, 1) := by decide +kernel
theorem dX12_strengthOf_6 : decode cX12_strengthOf 6 = .ok (.istore_n 3, 1) := by decide +kernel
theorem dX12_strengthOf_7 : decode cX12_strengthOf 7 = .ok (.aload_n 0, 1) := by decide +kernel
theorem dX12_strengthOf_8 : decode cX12_strengthOf 8 = .ok (.iload_n 3, 1) := by decide +kernel
theorem dX12_strengthOf_9 : decode cX12_strengthOf 9 = .ok (.invokevirtual 195, 3) := by decide +kernel
theorem dX12_strengthOf_12 : decode cX12_strengthOf 12 = .ok (.aload_n 0, 1) := by decide +kernel
theorem dX12_strengthOf_13 : decode cX12_strengthOf 13 = .ok (.iload_n 3, 1) := by decide +kernel
theorem dX12_strengthOf_14 : decode cX12_strengthOf 14 = .ok (.lconst 0, 1) := by decide +kernel
theorem dX12_strengthOf_15 : decode cX12_strengthOf 15 = .ok (.iload_n 2, 1) := by decide +kernel
theorem dX12_strengthOf_16 : decode cX12_strengthOf 16 = .ok (.invokevirtual 235, 3) := by decide +kernel
theorem dX12_strengthOf_19 : decode cX12_strengthOf 19 = .ok (.aload_n 0, 1) := by decide +kernel
theorem dX12_strengthOf_20 : decode cX12_strengthOf 20 = .ok (.iload_n 2, 1) := by decide +kernel
theorem dX12_strengthOf_21 : decode cX12_strengthOf 21 = .ok (.ifCond .eq 10, 3) := by decide +kernel
theorem dX12_strengthOf_24 : decode cX12_strengthOf 24 = .ok (.aload_n 0, 1) := by decide +kernel
theorem dX12_strengthOf_25 : decode cX12_strengthOf 25 = .ok (.getfield 211, 3) := by decide +kernel
theorem dX12_strengthOf_28 : decode cX12_strengthOf 28 = .ok (.goto 8, 3) := by decide +kernel
theorem dX12_strengthOf_31 : decode cX12_strengthOf 31 = .ok (.aload_n 0, 1) := by decide +kernel
theorem dX12_strengthOf_32 : decode cX12_strengthOf 32 = .ok (.getfield 211, 3) := by decide +kernel
theorem dX12_strengthOf_35 : decode cX12_strengthOf 35 = .ok (.lneg, 1) := by decide +kernel
theorem dX12_strengthOf_36 : decode cX12_strengthOf 36 = .ok (.putfield 267, 3) := by decide +kernel
theorem dX12_strengthOf_39 : decode cX12_strengthOf 39 = .ok (.aload_n 0, 1) := by decide +kernel
theorem dX12_strengthOf_40 : decode cX12_strengthOf 40 = .ok (.aload_n 0, 1) := by decide +kernel
theorem dX12_strengthOf_41 : decode cX12_strengthOf 41 = .ok (.getfield 215, 3) := by decide +kernel
theorem dX12_strengthOf_44 : decode cX12_strengthOf 44 = .ok (.putfield 270, 3) := by decide +kernel
theorem dX12_strengthOf_47 : decode cX12_strengthOf 47 = .ok (.return_, 1) := by decide +kernel
theorem dX12_hogOf_0 : decode cX12_hogOf 0 = .ok (.aload_n 0, 1) := by decide +kernel
theorem dX12_hogOf_1 : decode cX12_hogOf 1 = .ok (.lconst 0, 1) := by decide +kernel
theorem dX12_hogOf_2 : decode cX12_hogOf 2 = .ok (.putfield 267, 3) := by decide +kernel
theorem dX12_hogOf_5 : decode cX12_hogOf 5 = .ok (.aload_n 0, 1) := by decide +kernel
theorem dX12_hogOf_6 : decode cX12_hogOf 6 = .ok (.lconst 1, 1) := by decide +kernel
theorem dX12_hogOf_7 : decode cX12_hogOf 7 = .ok (.putfield 270, 3) := by decide +kernel
theorem dX12_hogOf_10 : decode cX12_hogOf 10 = .ok (.iload_n 1, 1) := by decide +kernel
theorem dX12_hogOf_11 : decode cX12_hogOf 11 = .ok (.ifCond .le 7, 3) := by decide +kernel
theorem dX12_hogOf_14 : decode cX12_hogOf 14 = .ok (.iconst 1, 1) := by decide +kernel
theorem dX12_hogOf_15 : decode cX12_hogOf 15 = .ok (.goto 4, 3) := by decide +kernel
theorem dX12_hogOf_18 : decode cX12_hogOf 18 = .ok (.iconst 0, 1) := by decide +kernel
theorem dX12_hogOf_19 : decode cX12_hogOf 19 = .ok (.istore_n 2, 1) := by decide +kernel
theorem dX12_hogOf_20 : decode cX12_hogOf 20 = .ok (.iload_n 1, 1) := by decide +kernel
theorem dX12_hogOf_21 : decode cX12_hogOf 21 = .ok (.aload_n 0, 1) := by decide +kernel
theorem dX12_hogOf_22 : decode cX12_hogOf 22 = .ok (.getfield 261, 3) := by decide +kernel
theorem dX12_hogOf_25 : decode cX12_hogOf 25 = .ok (.if_icmp .ge 7, 3) := by decide +kernel
theorem dX12_hogOf_28 : decode cX12_hogOf 28 = .ok (.iconst 1, 1) := by decide +kernel
theorem dX12_hogOf_29 : decode cX12_hogOf 29 = .ok (.goto 4, 3) := by decide +kernel
theorem dX12_hogOf_32 : decode cX12_hogOf 32 = .ok (.iconst 0, 1) := by decide +kernel
theorem dX12_hogOf_33 : decode cX12_hogOf 33 = .ok (.istore_n 3, 1) := by decide +kernel
theorem dX12_hogOf_34 : decode cX12_hogOf 34 = .ok (.iload_n 2, 1) := by decide +kernel
theorem dX12_hogOf_35 : decode cX12_hogOf 35 = .ok (.ifCond .ne 12, 3) := by decide +kernel
theorem dX12_hogOf_38 : decode cX12_hogOf 38 = .ok (.aload_n 0, 1) := by decide +kernel
theorem dX12_hogOf_39 : decode cX12_hogOf 39 = .ok (.getfield 82, 3) := by decide +kernel
theorem dX12_hogOf_42 : decode cX12_hogOf 42 = .ok (.iconst 0, 1) := by decide +kernel
theorem dX12_hogOf_43 : decode cX12_hogOf 43 = .ok (.baload, 1) := by decide +kernel
theorem dX12_hogOf_44 : decode cX12_hogOf 44 = .ok (.ifCond .eq 16, 3) := by decide +kernel
theorem dX12_hogOf_47 : decode cX12_hogOf 47 = .ok (.iload_n 3, 1) := by decide +kernel
theorem dX12_hogOf_48 : decode cX12_hogOf 48 = .ok (.ifCond .ne 13, 3) := by decide +kernel
theorem dX12_hogOf_51 : decode cX12_hogOf 51 = .ok (.aload_n 0, 1) := by decide +kernel
theorem dX12_hogOf_52 : decode cX12_hogOf 52 = .ok (.getfield 82, 3) := by decide +kernel
theorem dX12_hogOf_55 : decode cX12_hogOf 55 = .ok (.iconst 1, 1) := by decide +kernel
theorem dX12_hogOf_56 : decode cX12_hogOf 56 = .ok (.baload, 1) := by decide +kernel
theorem dX12_hogOf_57 : decode cX12_hogOf 57 = .ok (.ifCond .ne 4, 3) := by decide +kernel
theorem dX12_hogOf_60 : decode cX12_hogOf 60 = .ok (.return_, 1) := by decide +kernel
theorem dX12_hogOf_61 : decode cX12_hogOf 61 = .ok (.iload_n 2, 1) := by decide +kernel
theorem dX12_hogOf_62 : decode cX12_hogOf 62 = .ok (.ifCond .eq 11, 3) := by decide +kernel
theorem dX12_hogOf_65 : decode cX12_hogOf 65 = .ok (.aload_n 0, 1) := by decide +kernel
theorem dX12_hogOf_66 : decode cX12_hogOf 66 = .ok (.iload_n 1, 1) := by decide +kernel
theorem dX12_hogOf_67 : decode cX12_hogOf 67 = .ok (.iconst 1, 1) := by decide +kernel
theorem dX12_hogOf_68 : decode cX12_hogOf 68 = .ok (.isub, 1) := by decide +kernel
theorem dX12_hogOf_69 : decode cX12_hogOf 69 = .ok (.iconst 0, 1) := by decide +kernel
theorem dX12_hogOf_70 : decode cX12_hogOf 70 = .ok (.invokevirtual 273, 3) := by decide +kernel
theorem dX12_hogOf_73 : decode cX12_hogOf 73 = .ok (.aload_n 0, 1) := by decide +kernel
theorem dX12_hogOf_74 : decode cX12_hogOf 74 = .ok (.getfield 267, 3) := by decide +kernel
theorem dX12_hogOf_77 : decode cX12_hogOf 77 = .ok (.lstore 4, 2) := by decide +kernel
theorem dX12_hogOf_79 : decode cX12_hogOf 79 = .ok (.aload_n 0, 1) := by decide +kernel
theorem dX12_hogOf_80 : decode cX12_hogOf 80 = .ok (.getfield 270, 3) := by decide +kernel
theorem dX12_hogOf_83 : decode cX12_hogOf 83 = .ok (.lstore 6, 2) := by decide +kernel
theorem dX12_hogOf_85 : decode cX12_hogOf 85 = .ok (.iload_n 3, 1) := by decide +kernel
theorem dX12_hogOf_86 : decode cX12_hogOf 86 = .ok (.ifCond .eq 9, 3) := by decide +kernel
theorem dX12_hogOf_89 : decode cX12_hogOf 89 = .ok (.aload_n 0, 1) := by decide +kernel
theorem dX12_hogOf_90 : decode cX12_hogOf 90 = .ok (.iload_n 1, 1) := by decide +kernel
theorem dX12_hogOf_91 : decode cX12_hogOf 91 = .ok (.iconst 0, 1) := by decide +kernel
theorem dX12_hogOf_92 : decode cX12_hogOf 92 = .ok (.invokevirtual 273, 3) := by decide +kernel
theorem dX12_hogOf_95 : decode cX12_hogOf 95 = .ok (.iload_n 2, 1) := by decide +kernel
theorem dX12_hogOf_96 : decode cX12_hogOf 96 = .ok (.ifCond .eq 38, 3) := by decide +kernel
theorem dX12_hogOf_99 : decode cX12_hogOf 99 = .ok (.iload_n 3, 1) := by decide +kernel
theorem dX12_hogOf_100 : decode cX12_hogOf 100 = .ok (.ifCond .eq 34, 3) := by decide +kernel
theorem dX12_hogOf_103 : decode cX12_hogOf 103 = .ok (.aload_n 0, 1) := by decide +kernel
theorem dX12_hogOf_104 : decode cX12_hogOf 104 = .ok (.lload 4, 2) := by decide +kernel
theorem dX12_hogOf_106 : decode cX12_hogOf 106 = .ok (.lload 6, 2) := by decide +kernel
theorem dX12_hogOf_108 : decode cX12_hogOf 108 = .ok (.aload_n 0, 1) := by decide +kernel
theorem dX12_hogOf_109 : decode cX12_hogOf 109 = .ok (.getfield 267, 3) := by decide +kernel
theorem dX12_hogOf_112 : decode cX12_hogOf 112 = .ok (.aload_n 0, 1) := by decide +kernel
theorem dX12_hogOf_113 : decode cX12_hogOf 113 = .ok (.getfield 270, 3) := by decide +kernel
theorem dX12_hogOf_116 : decode cX12_hogOf 116 = .ok (.invokevirtual 277, 3) := by decide +kernel
theorem dX12_hogOf_119 : decode cX12_hogOf 119 = .ok (.ifCond .eq 15, 3) := by decide +kernel
theorem dX12_hogOf_122 : decode cX12_hogOf 122 = .ok (.aload_n 0, 1) := by decide +kernel
theorem dX12_hogOf_123 : decode cX12_hogOf 123 = .ok (.lload 4, 2) := by decide +kernel
theorem dX12_hogOf_125 : decode cX12_hogOf 125 = .ok (.putfield 267, 3) := by decide +kernel
theorem dX12_hogOf_128 : decode cX12_hogOf 128 = .ok (.aload_n 0, 1) := by decide +kernel
theorem dX12_hogOf_129 : decode cX12_hogOf 129 = .ok (.lload 6, 2) := by decide +kernel
theorem dX12_hogOf_131 : decode cX12_hogOf 131 = .ok (.putfield 270, 3) := by decide +kernel
theorem dX12_hogOf_134 : decode cX12_hogOf 134 = .ok (.return_, 1) := by decide +kernel
theorem dX12_less3_0 : decode cX12_less3 0 = .ok (.aload_n 0, 1) := by decide +kernel
theorem dX12_less3_1 : decode cX12_less3 1 = .ok (.iconst 0, 1) := by decide +kernel
theorem dX12_less3_2 : decode cX12_less3 2 = .ok (.putfield 93, 3) := by decide +kernel
theorem dX12_less3_5 : decode cX12_less3 5 = .ok (.aload_n 0, 1) := by decide +kernel
theorem dX12_less3_6 : decode cX12_less3 6 = .ok (.aload_n 0, 1) := by decide +kernel
theorem dX12_less3_7 : decode cX12_less3 7 = .ok (.aload_n 0, 1) := by decide +kernel
theorem dX12_less3_8 : decode cX12_less3 8 = .ok (.aload_n 0, 1) := by decide +kernel
theorem dX12_less3_9 : decode cX12_less3 9 = .ok (.lload_n 1, 1) := by decide +kernel
theorem dX12_less3_10 : decode cX12_less3 10 = .ok (.invokevirtual 125, 3) := by decide +kernel
theorem dX12_less3_13 : decode cX12_less3 13 = .ok (.aload_n 0, 1) := by decide +kernel
theorem dX12_less3_14 : decode cX12_less3 14 = .ok (.lload 7, 2) := by decide +kernel
theorem dX12_less3_16 : decode cX12_less3 16 = .ok (.invokevirtual 125, 3) := by decide +kernel
theorem dX12_less3_19 : decode cX12_less3 19 = .ok (.invokevirtual 281, 3) := by decide +kernel
theorem dX12_less3_22 : decode cX12_less3 22 = .ok (.aload_n 0, 1) := by decide +kernel
theorem dX12_less3_23 : decode cX12_less3 23 = .ok (.aload_n 0, 1) := by decide +kernel
theorem dX12_less3_24 : decode cX12_less3 24 = .ok (.lload 5, 2) := by decide +kernel
theorem dX12_less3_26 : decode cX12_less3 26 = .ok (.invokevirtual 125, 3) := by decide +kernel
theorem dX12_less3_29 : decode cX12_less3 29 = .ok (.aload_n 0, 1) := by decide +kernel
theorem dX12_less3_30 : decode cX12_less3 30 = .ok (.lload_n 3, 1) := by decide +kernel
theorem dX12_less3_31 : decode cX12_less3 31 = .ok (.invokevirtual 125, 3) := by decide +kernel
theorem dX12_less3_34 : decode cX12_less3 34 = .ok (.invokevirtual 281, 3) := by decide +kernel
theorem dX12_less3_37 : decode cX12_less3 37 = .ok (.invokevirtual 284, 3) := by decide +kernel
theorem dX12_less3_40 : decode cX12_less3 40 = .ok (.invokevirtual 112, 3) := by decide +kernel
theorem dX12_less3_43 : decode cX12_less3 43 = .ok (.ifCond .ge 7, 3) := by decide +kernel
theorem dX12_less3_46 : decode cX12_less3 46 = .ok (.iconst 1, 1) := by decide +kernel
theorem dX12_less3_47 : decode cX12_less3 47 = .ok (.goto 4, 3) := by decide +kernel
theorem dX12_less3_50 : decode cX12_less3 50 = .ok (.iconst 0, 1) := by decide +kernel
theorem dX12_less3_51 : decode cX12_less3 51 = .ok (.ireturn, 1) := by decide +kernel
theorem dX12_gather_0 : decode cX12_gather 0 = .ok (.aload_n 0, 1) := by decide +kernel
theorem dX12_gather_1 : decode cX12_gather 1 = .ok (.iload_n 1, 1) := by decide +kernel
theorem dX12_gather_2 : decode cX12_gather 2 = .ok (.iconst 1, 1) := by decide +kernel
theorem dX12_gather_3 : decode cX12_gather 3 = .ok (.invokevirtual 273, 3) := by decide +kernel
theorem dX12_gather_6 : decode cX12_gather 6 = .ok (.aload_n 0, 1) := by decide +kernel
theorem dX12_gather_7 : decode cX12_gather 7 = .ok (.aload_n 0, 1) := by decide +kernel
theorem dX12_gather_8 : decode cX12_gather 8 = .ok (.getfield 267, 3) := by decide +kernel
theorem dX12_gather_11 : decode cX12_gather 11 = .ok (.putfield 287, 3) := by decide +kernel
theorem dX12_gather_14 : decode cX12_gather 14 = .ok (.aload_n 0, 1) := by decide +kernel
theorem dX12_gather_15 : decode cX12_gather 15 = .ok (.aload_n 0, 1) := by decide +kernel
theorem dX12_gather_16 : decode cX12_gather 16 = .ok (.getfield 270, 3) := by decide +kernel
theorem dX12_gather_19 : decode cX12_gather 19 = .ok (.putfield 290, 3) := by decide +kernel
theorem dX12_gather_22 : decode cX12_gather 22 = .ok (.aload_n 0, 1) := by decide +kernel
theorem dX12_gather_23 : decode cX12_gather 23 = .ok (.iload_n 1, 1) := by decide +kernel
theorem dX12_gather_24 : decode cX12_gather 24 = .ok (.invokevirtual 293, 3) := by decide +kernel
theorem dX12_gather_27 : decode cX12_gather 27 = .ok (.aload_n 0, 1) := by decide +kernel
theorem dX12_gather_28 : decode cX12_gather 28 = .ok (.aload_n 0, 1) := by decide +kernel
theorem dX12_gather_29 : decode cX12_gather 29 = .ok (.getfield 267, 3) := by decide +kernel
theorem dX12_gather_32 : decode cX12_gather 32 = .ok (.putfield 296, 3) := by decide +kernel
theorem dX12_gather_35 : decode cX12_gather 35 = .ok (.aload_n 0, 1) := by decide +kernel
theorem dX12_gather_36 : decode cX12_gather 36 = .ok (.aload_n 0, 1) := by decide +kernel
theorem dX12_gather_37 : decode cX12_gather 37 = .ok (.getfield 270, 3) := by decide +kernel
theorem dX12_gather_40 : decode cX12_gather 40 = .ok (.putfield 299, 3) := by decide +kernel
theorem dX12_gather_43 : decode cX12_gather 43 = .ok (.aload_n 0, 1) := by decide +kernel
theorem dX12_gather_44 : decode cX12_gather 44 = .ok (.iload_n 1, 1) := by decide +kernel
theorem dX12_gather_45 : decode cX12_gather 45 = .ok (.iconst 1, 1) := by decide +kernel
theorem dX12_gather_46 : decode cX12_gather 46 = .ok (.iadd, 1) := by decide +kernel
theorem dX12_gather_47 : decode cX12_gather 47 = .ok (.invokevirtual 293, 3) := by decide +kernel
theorem dX12_gather_50 : decode cX12_gather 50 = .ok (.aload_n 0, 1) := by decide +kernel
theorem dX12_gather_51 : decode cX12_gather 51 = .ok (.aload_n 0, 1) := by decide +kernel
theorem dX12_gather_52 : decode cX12_gather 52 = .ok (.getfield 267, 3) := by decide +kernel
theorem dX12_gather_55 : decode cX12_gather 55 = .ok (.putfield 302, 3) := by decide +kernel
theorem dX12_gather_58 : decode cX12_gather 58 = .ok (.aload_n 0, 1) := by decide +kernel
theorem dX12_gather_59 : decode cX12_gather 59 = .ok (.aload_n 0, 1) := by decide +kernel
theorem dX12_gather_60 : decode cX12_gather 60 = .ok (.getfield 270, 3) := by decide +kernel
theorem dX12_gather_63 : decode cX12_gather 63 = .ok (.putfield 305, 3) := by decide +kernel
theorem dX12_gather_66 : decode cX12_gather 66 = .ok (.aload_n 0, 1) := by decide +kernel
theorem dX12_gather_67 : decode cX12_gather 67 = .ok (.getfield 76, 3) := by decide +kernel
theorem dX12_gather_70 : decode cX12_gather 70 = .ok (.iconst 2, 1) := by decide +kernel
theorem dX12_gather_71 : decode cX12_gather 71 = .ok (.iload_n 1, 1) := by decide +kernel
theorem dX12_gather_72 : decode cX12_gather 72 = .ok (.imul, 1) := by decide +kernel
theorem dX12_gather_73 : decode cX12_gather 73 = .ok (.iload_n 2, 1) := by decide +kernel
theorem dX12_gather_74 : decode cX12_gather 74 = .ok (.iadd, 1) := by decide +kernel
theorem dX12_gather_75 : decode cX12_gather 75 = .ok (.iaload, 1) := by decide +kernel
theorem dX12_gather_76 : decode cX12_gather 76 = .ok (.istore_n 3, 1) := by decide +kernel
theorem dX12_gather_77 : decode cX12_gather 77 = .ok (.aload_n 0, 1) := by decide +kernel
theorem dX12_gather_78 : decode cX12_gather 78 = .ok (.getfield 67, 3) := by decide +kernel
theorem dX12_gather_81 : decode cX12_gather 81 = .ok (.iload_n 1, 1) := by decide +kernel
theorem dX12_gather_82 : decode cX12_gather 82 = .ok (.iaload, 1) := by decide +kernel
theorem dX12_gather_83 : decode cX12_gather 83 = .ok (.istore 4, 2) := by decide +kernel
theorem dX12_gather_85 : decode cX12_gather 85 = .ok (.aload_n 0, 1) := by decide +kernel
theorem dX12_gather_86 : decode cX12_gather 86 = .ok (.lconst 0, 1) := by decide +kernel
theorem dX12_gather_87 : decode cX12_gather 87 = .ok (.putfield 308, 3) := by decide +kernel
theorem dX12_gather_90 : decode cX12_gather 90 = .ok (.iconst 0, 1) := by decide +kernel
theorem dX12_gather_91 : decode cX12_gather 91 = .ok (.istore 5, 2) := by decide +kernel
theorem dX12_gather_93 : decode cX12_gather 93 = .ok (.iload 5, 2) := by decide +kernel
theorem dX12_gather_95 : decode cX12_gather 95 = .ok (.aload_n 0, 1) := by decide +kernel
theorem dX12_gather_96 : decode cX12_gather 96 = .ok (.getfield 73, 3) := by decide +kernel
theorem dX12_gather_99 : decode cX12_gather 99 = .ok (.iload_n 1, 1) := by decide +kernel
theorem dX12_gather_100 : decode cX12_gather 100 = .ok (.iaload, 1) := by decide +kernel
theorem dX12_gather_101 : decode cX12_gather 101 = .ok (.if_icmp .ge 68, 3) := by decide +kernel
theorem dX12_gather_104 : decode cX12_gather 104 = .ok (.aload_n 0, 1) := by decide +kernel
theorem dX12_gather_105 : decode cX12_gather 105 = .ok (.getfield 76, 3) := by decide +kernel
theorem dX12_gather_108 : decode cX12_gather 108 = .ok (.iconst 2, 1) := by decide +kernel
theorem dX12_gather_109 : decode cX12_gather 109 = .ok (.iload_n 1, 1) := by decide +kernel
theorem dX12_gather_110 : decode cX12_gather 110 = .ok (.imul, 1) := by decide +kernel
theorem dX12_gather_111 : decode cX12_gather 111 = .ok (.iload 5, 2) := by decide +kernel
theorem dX12_gather_113 : decode cX12_gather 113 = .ok (.iadd, 1) := by decide +kernel
theorem dX12_gather_114 : decode cX12_gather 114 = .ok (.iaload, 1) := by decide +kernel
theorem dX12_gather_115 : decode cX12_gather 115 = .ok (.istore 6, 2) := by decide +kernel
theorem dX12_gather_117 : decode cX12_gather 117 = .ok (.aload_n 0, 1) := by decide +kernel
theorem dX12_gather_118 : decode cX12_gather 118 = .ok (.dup, 1) := by decide +kernel
theorem dX12_gather_119 : decode cX12_gather 119 = .ok (.getfield 308, 3) := by decide +kernel
theorem dX12_gather_122 : decode cX12_gather 122 = .ok (.aload_n 0, 1) := by decide +kernel
theorem dX12_gather_123 : decode cX12_gather 123 = .ok (.getfield 79, 3) := by decide +kernel
theorem dX12_gather_126 : decode cX12_gather 126 = .ok (.iconst 2, 1) := by decide +kernel
theorem dX12_gather_127 : decode cX12_gather 127 = .ok (.iload_n 1, 1) := by decide +kernel
theorem dX12_gather_128 : decode cX12_gather 128 = .ok (.imul, 1) := by decide +kernel
theorem dX12_gather_129 : decode cX12_gather 129 = .ok (.iload 5, 2) := by decide +kernel
theorem dX12_gather_131 : decode cX12_gather 131 = .ok (.iadd, 1) := by decide +kernel
theorem dX12_gather_132 : decode cX12_gather 132 = .ok (.iaload, 1) := by decide +kernel
theorem dX12_gather_133 : decode cX12_gather 133 = .ok (.i2l, 1) := by decide +kernel
theorem dX12_gather_134 : decode cX12_gather 134 = .ok (.iload_n 3, 1) := by decide +kernel
theorem dX12_gather_135 : decode cX12_gather 135 = .ok (.iload 6, 2) := by decide +kernel
theorem dX12_gather_137 : decode cX12_gather 137 = .ok (.if_icmp .gt 13, 3) := by decide +kernel
theorem dX12_gather_140 : decode cX12_gather 140 = .ok (.iload 4, 2) := by decide +kernel
theorem dX12_gather_142 : decode cX12_gather 142 = .ok (.iload 6, 2) := by decide +kernel
theorem dX12_gather_144 : decode cX12_gather 144 = .ok (.isub, 1) := by decide +kernel
theorem dX12_gather_145 : decode cX12_gather 145 = .ok (.iload_n 3, 1) := by decide +kernel
theorem dX12_gather_146 : decode cX12_gather 146 = .ok (.imul, 1) := by decide +kernel
theorem dX12_gather_147 : decode cX12_gather 147 = .ok (.goto 10, 3) := by decide +kernel
theorem dX12_gather_150 : decode cX12_gather 150 = .ok (.iload 6, 2) := by decide +kernel
theorem dX12_gather_152 : decode cX12_gather 152 = .ok (.iload 4, 2) := by decide +kernel
theorem dX12_gather_154 : decode cX12_gather 154 = .ok (.iload_n 3, 1) := by decide +kernel
theorem dX12_gather_155 : decode cX12_gather 155 = .ok (.isub, 1) := by decide +kernel
theorem dX12_gather_156 : decode cX12_gather 156 = .ok (.imul, 1) := by decide +kernel
theorem dX12_gather_157 : decode cX12_gather 157 = .ok (.i2l, 1) := by decide +kernel
theorem dX12_gather_158 : decode cX12_gather 158 = .ok (.lmul, 1) := by decide +kernel
theorem dX12_gather_159 : decode cX12_gather 159 = .ok (.ladd, 1) := by decide +kernel
theorem dX12_gather_160 : decode cX12_gather 160 = .ok (.putfield 308, 3) := by decide +kernel
theorem dX12_gather_163 : decode cX12_gather 163 = .ok (.iinc 5 1, 3) := by decide +kernel
theorem dX12_gather_166 : decode cX12_gather 166 = .ok (.goto (-73), 3) := by decide +kernel
theorem dX12_gather_169 : decode cX12_gather 169 = .ok (.return_, 1) := by decide +kernel
theorem dX12_timesOf_0 : decode cX12_timesOf 0 = .ok (.aload_n 0, 1) := by decide +kernel
theorem dX12_timesOf_1 : decode cX12_timesOf 1 = .ok (.iload_n 1, 1) := by decide +kernel
theorem dX12_timesOf_2 : decode cX12_timesOf 2 = .ok (.iload_n 2, 1) := by decide +kernel
theorem dX12_timesOf_3 : decode cX12_timesOf 3 = .ok (.invokevirtual 311, 3) := by decide +kernel
theorem dX12_timesOf_6 : decode cX12_timesOf 6 = .ok (.aload_n 0, 1) := by decide +kernel
theorem dX12_timesOf_7 : decode cX12_timesOf 7 = .ok (.getfield 76, 3) := by decide +kernel
theorem dX12_timesOf_10 : decode cX12_timesOf 10 = .ok (.iconst 2, 1) := by decide +kernel
theorem dX12_timesOf_11 : decode cX12_timesOf 11 = .ok (.iload_n 1, 1) := by decide +kernel
theorem dX12_timesOf_12 : decode cX12_timesOf 12 = .ok (.imul, 1) := by decide +kernel
theorem dX12_timesOf_13 : decode cX12_timesOf 13 = .ok (.iload_n 2, 1) := by decide +kernel
theorem dX12_timesOf_14 : decode cX12_timesOf 14 = .ok (.iadd, 1) := by decide +kernel
theorem dX12_timesOf_15 : decode cX12_timesOf 15 = .ok (.iaload, 1) := by decide +kernel
theorem dX12_timesOf_16 : decode cX12_timesOf 16 = .ok (.istore_n 3, 1) := by decide +kernel
theorem dX12_timesOf_17 : decode cX12_timesOf 17 = .ok (.aload_n 0, 1) := by decide +kernel
theorem dX12_timesOf_18 : decode cX12_timesOf 18 = .ok (.getfield 67, 3) := by decide +kernel
theorem dX12_timesOf_21 : decode cX12_timesOf 21 = .ok (.iload_n 1, 1) := by decide +kernel
theorem dX12_timesOf_22 : decode cX12_timesOf 22 = .ok (.iaload, 1) := by decide +kernel
theorem dX12_timesOf_23 : decode cX12_timesOf 23 = .ok (.istore 4, 2) := by decide +kernel
theorem dX12_timesOf_25 : decode cX12_timesOf 25 = .ok (.aload_n 0, 1) := by decide +kernel
theorem dX12_timesOf_26 : decode cX12_timesOf 26 = .ok (.aload_n 0, 1) := by decide +kernel
theorem dX12_timesOf_27 : decode cX12_timesOf 27 = .ok (.getfield 290, 3) := by decide +kernel
theorem dX12_timesOf_30 : decode cX12_timesOf 30 = .ok (.invokevirtual 125, 3) := by decide +kernel
theorem dX12_timesOf_33 : decode cX12_timesOf 33 = .ok (.istore 5, 2) := by decide +kernel
theorem dX12_timesOf_35 : decode cX12_timesOf 35 = .ok (.aload_n 0, 1) := by decide +kernel
theorem dX12_timesOf_36 : decode cX12_timesOf 36 = .ok (.aload_n 0, 1) := by decide +kernel
theorem dX12_timesOf_37 : decode cX12_timesOf 37 = .ok (.getfield 299, 3) := by decide +kernel
theorem dX12_timesOf_40 : decode cX12_timesOf 40 = .ok (.invokevirtual 125, 3) := by decide +kernel
theorem dX12_timesOf_43 : decode cX12_timesOf 43 = .ok (.istore 6, 2) := by decide +kernel
theorem dX12_timesOf_45 : decode cX12_timesOf 45 = .ok (.aload_n 0, 1) := by decide +kernel
theorem dX12_timesOf_46 : decode cX12_timesOf 46 = .ok (.aload_n 0, 1) := by decide +kernel
theorem dX12_timesOf_47 : decode cX12_timesOf 47 = .ok (.getfield 305, 3) := by decide +kernel
theorem dX12_timesOf_50 : decode cX12_timesOf 50 = .ok (.invokevirtual 125, 3) := by decide +kernel
theorem dX12_timesOf_53 : decode cX12_timesOf 53 = .ok (.istore 7, 2) := by decide +kernel
theorem dX12_timesOf_55 : decode cX12_timesOf 55 = .ok (.aload_n 0, 1) := by decide +kernel
theorem dX12_timesOf_56 : decode cX12_timesOf 56 = .ok (.aload_n 0, 1) := by decide +kernel
theorem dX12_timesOf_57 : decode cX12_timesOf 57 = .ok (.aload_n 0, 1) := by decide +kernel
theorem dX12_timesOf_58 : decode cX12_timesOf 58 = .ok (.aload_n 0, 1) := by decide +kernel
theorem dX12_timesOf_59 : decode cX12_timesOf 59 = .ok (.getfield 287, 3) := by decide +kernel
theorem dX12_timesOf_62 : decode cX12_timesOf 62 = .ok (.invokevirtual 125, 3) := by decide +kernel
theorem dX12_timesOf_65 : decode cX12_timesOf 65 = .ok (.aload_n 0, 1) := by decide +kernel
theorem dX12_timesOf_66 : decode cX12_timesOf 66 = .ok (.iload 4, 2) := by decide +kernel
theorem dX12_timesOf_68 : decode cX12_timesOf 68 = .ok (.i2l, 1) := by decide +kernel
theorem dX12_timesOf_69 : decode cX12_timesOf 69 = .ok (.invokevirtual 125, 3) := by decide +kernel
theorem dX12_timesOf_72 : decode cX12_timesOf 72 = .ok (.invokevirtual 281, 3) := by decide +kernel
theorem dX12_timesOf_75 : decode cX12_timesOf 75 = .ok (.aload_n 0, 1) := by decide +kernel
theorem dX12_timesOf_76 : decode cX12_timesOf 76 = .ok (.iload 6, 2) := by decide +kernel
theorem dX12_timesOf_78 : decode cX12_timesOf 78 = .ok (.iload 7, 2) := by decide +kernel
theorem dX12_timesOf_80 : decode cX12_timesOf 80 = .ok (.invokevirtual 281, 3) := by decide +kernel
theorem dX12_timesOf_83 : decode cX12_timesOf 83 = .ok (.invokevirtual 281, 3) := by decide +kernel
theorem dX12_timesOf_86 : decode cX12_timesOf 86 = .ok (.istore 8, 2) := by decide +kernel
theorem dX12_timesOf_88 : decode cX12_timesOf 88 = .ok (.aload_n 0, 1) := by decide +kernel
theorem dX12_timesOf_89 : decode cX12_timesOf 89 = .ok (.iload 8, 2) := by decide +kernel
theorem dX12_timesOf_91 : decode cX12_timesOf 91 = .ok (.aload_n 0, 1) := by decide +kernel
theorem dX12_timesOf_92 : decode cX12_timesOf 92 = .ok (.aload_n 0, 1) := by decide +kernel
theorem dX12_timesOf_93 : decode cX12_timesOf 93 = .ok (.aload_n 0, 1) := by decide +kernel
theorem dX12_timesOf_94 : decode cX12_timesOf 94 = .ok (.aload_n 0, 1) := by decide +kernel
theorem dX12_timesOf_95 : decode cX12_timesOf 95 = .ok (.getfield 296, 3) := by decide +kernel
theorem dX12_timesOf_98 : decode cX12_timesOf 98 = .ok (.invokevirtual 125, 3) := by decide +kernel
theorem dX12_timesOf_101 : decode cX12_timesOf 101 = .ok (.aload_n 0, 1) := by decide +kernel
theorem dX12_timesOf_102 : decode cX12_timesOf 102 = .ok (.iload 4, 2) := by decide +kernel
theorem dX12_timesOf_104 : decode cX12_timesOf 104 = .ok (.iload_n 3, 1) := by decide +kernel
theorem dX12_timesOf_105 : decode cX12_timesOf 105 = .ok (.isub, 1) := by decide +kernel
theorem dX12_timesOf_106 : decode cX12_timesOf 106 = .ok (.i2l, 1) := by decide +kernel
theorem dX12_timesOf_107 : decode cX12_timesOf 107 = .ok (.invokevirtual 125, 3) := by decide +kernel
theorem dX12_timesOf_110 : decode cX12_timesOf 110 = .ok (.invokevirtual 281, 3) := by decide +kernel
theorem dX12_timesOf_113 : decode cX12_timesOf 113 = .ok (.aload_n 0, 1) := by decide +kernel
theorem dX12_timesOf_114 : decode cX12_timesOf 114 = .ok (.iload 5, 2) := by decide +kernel
theorem dX12_timesOf_116 : decode cX12_timesOf 116 = .ok (.iload 7, 2) := by decide +kernel
theorem dX12_timesOf_118 : decode cX12_timesOf 118 = .ok (.invokevirtual 281, 3) := by decide +kernel
theorem dX12_timesOf_121 : decode cX12_timesOf 121 = .ok (.invokevirtual 281, 3) := by decide +kernel
theorem dX12_timesOf_124 : decode cX12_timesOf 124 = .ok (.invokevirtual 132, 3) := by decide +kernel
theorem dX12_timesOf_127 : decode cX12_timesOf 127 = .ok (.istore 8, 2) := by decide +kernel
theorem dX12_timesOf_129 : decode cX12_timesOf 129 = .ok (.aload_n 0, 1) := by decide +kernel
theorem dX12_timesOf_130 : decode cX12_timesOf 130 = .ok (.aload_n 0, 1) := by decide +kernel
theorem dX12_timesOf_131 : decode cX12_timesOf 131 = .ok (.iload 8, 2) := by decide +kernel
theorem dX12_timesOf_133 : decode cX12_timesOf 133 = .ok (.aload_n 0, 1) := by decide +kernel
theorem dX12_timesOf_134 : decode cX12_timesOf 134 = .ok (.aload_n 0, 1) := by decide +kernel
theorem dX12_timesOf_135 : decode cX12_timesOf 135 = .ok (.aload_n 0, 1) := by decide +kernel
theorem dX12_timesOf_136 : decode cX12_timesOf 136 = .ok (.aload_n 0, 1) := by decide +kernel
theorem dX12_timesOf_137 : decode cX12_timesOf 137 = .ok (.getfield 302, 3) := by decide +kernel
theorem dX12_timesOf_140 : decode cX12_timesOf 140 = .ok (.invokevirtual 125, 3) := by decide +kernel
theorem dX12_timesOf_143 : decode cX12_timesOf 143 = .ok (.aload_n 0, 1) := by decide +kernel
theorem dX12_timesOf_144 : decode cX12_timesOf 144 = .ok (.iload_n 3, 1) := by decide +kernel
theorem dX12_timesOf_145 : decode cX12_timesOf 145 = .ok (.i2l, 1) := by decide +kernel
theorem dX12_timesOf_146 : decode cX12_timesOf 146 = .ok (.invokevirtual 125, 3) := by decide +kernel
theorem dX12_timesOf_149 : decode cX12_timesOf 149 = .ok (.invokevirtual 281, 3) := by decide +kernel
theorem dX12_timesOf_152 : decode cX12_timesOf 152 = .ok (.aload_n 0, 1) := by decide +kernel
theorem dX12_timesOf_153 : decode cX12_timesOf 153 = .ok (.iload 5, 2) := by decide +kernel
theorem dX12_timesOf_155 : decode cX12_timesOf 155 = .ok (.iload 6, 2) := by decide +kernel
theorem dX12_timesOf_157 : decode cX12_timesOf 157 = .ok (.invokevirtual 281, 3) := by decide +kernel
theorem dX12_timesOf_160 : decode cX12_timesOf 160 = .ok (.invokevirtual 281, 3) := by decide +kernel
theorem dX12_timesOf_163 : decode cX12_timesOf 163 = .ok (.invokevirtual 132, 3) := by decide +kernel
theorem dX12_timesOf_166 : decode cX12_timesOf 166 = .ok (.putfield 314, 3) := by decide +kernel
theorem dX12_timesOf_169 : decode cX12_timesOf 169 = .ok (.aload_n 0, 1) := by decide +kernel
theorem dX12_timesOf_170 : decode cX12_timesOf 170 = .ok (.aload_n 0, 1) := by decide +kernel
theorem dX12_timesOf_171 : decode cX12_timesOf 171 = .ok (.aload_n 0, 1) := by decide +kernel
theorem dX12_timesOf_172 : decode cX12_timesOf 172 = .ok (.iload 5, 2) := by decide +kernel
theorem dX12_timesOf_174 : decode cX12_timesOf 174 = .ok (.aload_n 0, 1) := by decide +kernel
theorem dX12_timesOf_175 : decode cX12_timesOf 175 = .ok (.iload 6, 2) := by decide +kernel
theorem dX12_timesOf_177 : decode cX12_timesOf 177 = .ok (.iload 7, 2) := by decide +kernel
theorem dX12_timesOf_179 : decode cX12_timesOf 179 = .ok (.invokevirtual 281, 3) := by decide +kernel
theorem dX12_timesOf_182 : decode cX12_timesOf 182 = .ok (.invokevirtual 281, 3) := by decide +kernel
theorem dX12_timesOf_185 : decode cX12_timesOf 185 = .ok (.aload_n 0, 1) := by decide +kernel
theorem dX12_timesOf_186 : decode cX12_timesOf 186 = .ok (.aload_n 0, 1) := by decide +kernel
theorem dX12_timesOf_187 : decode cX12_timesOf 187 = .ok (.getfield 308, 3) := by decide +kernel
theorem dX12_timesOf_190 : decode cX12_timesOf 190 = .ok (.invokevirtual 125, 3) := by decide +kernel
theorem dX12_timesOf_193 : decode cX12_timesOf 193 = .ok (.invokevirtual 281, 3) := by decide +kernel
theorem dX12_timesOf_196 : decode cX12_timesOf 196 = .ok (.putfield 317, 3) := by decide +kernel
theorem dX12_timesOf_199 : decode cX12_timesOf 199 = .ok (.return_, 1) := by decide +kernel
theorem dX12_times_0 : decode cX12_times 0 = .ok (.aload_n 0, 1) := by decide +kernel
theorem dX12_times_1 : decode cX12_times 1 = .ok (.iload_n 1, 1) := by decide +kernel
theorem dX12_times_2 : decode cX12_times 2 = .ok (.invokevirtual 264, 3) := by decide +kernel
theorem dX12_times_5 : decode cX12_times 5 = .ok (.ifCond .eq 17, 3) := by decide +kernel
theorem dX12_times_8 : decode cX12_times 8 = .ok (.iload_n 2, 1) := by decide +kernel
theorem dX12_times_9 : decode cX12_times 9 = .ok (.ifCond .lt 13, 3) := by decide +kernel
theorem dX12_times_12 : decode cX12_times 12 = .ok (.iload_n 2, 1) := by decide +kernel
theorem dX12_times_13 : decode cX12_times 13 = .ok (.aload_n 0, 1) := by decide +kernel
theorem dX12_times_14 : decode cX12_times 14 = .ok (.getfield 73, 3) := by decide +kernel
theorem dX12_times_17 : decode cX12_times 17 = .ok (.iload_n 1, 1) := by decide +kernel
theorem dX12_times_18 : decode cX12_times 18 = .ok (.iaload, 1) := by decide +kernel
theorem dX12_times_19 : decode cX12_times 19 = .ok (.if_icmp .lt 9, 3) := by decide +kernel
theorem dX12_times_22 : decode cX12_times 22 = .ok (.aload_n 0, 1) := by decide +kernel
theorem dX12_times_23 : decode cX12_times 23 = .ok (.iconst 1, 1) := by decide +kernel
theorem dX12_times_24 : decode cX12_times 24 = .ok (.invokevirtual 184, 3) := by decide +kernel
theorem dX12_times_27 : decode cX12_times 27 = .ok (.ireturn, 1) := by decide +kernel
theorem dX12_times_28 : decode cX12_times 28 = .ok (.aload_n 0, 1) := by decide +kernel
theorem dX12_times_29 : decode cX12_times 29 = .ok (.iconst 0, 1) := by decide +kernel
theorem dX12_times_30 : decode cX12_times 30 = .ok (.putfield 93, 3) := by decide +kernel
theorem dX12_times_33 : decode cX12_times 33 = .ok (.aload_n 0, 1) := by decide +kernel
theorem dX12_times_34 : decode cX12_times 34 = .ok (.iload_n 1, 1) := by decide +kernel
theorem dX12_times_35 : decode cX12_times 35 = .ok (.iload_n 2, 1) := by decide +kernel
theorem dX12_times_36 : decode cX12_times 36 = .ok (.invokevirtual 320, 3) := by decide +kernel
theorem dX12_times_39 : decode cX12_times 39 = .ok (.aload_n 0, 1) := by decide +kernel
theorem dX12_times_40 : decode cX12_times 40 = .ok (.aload_n 0, 1) := by decide +kernel
theorem dX12_times_41 : decode cX12_times 41 = .ok (.getfield 314, 3) := by decide +kernel
theorem dX12_times_44 : decode cX12_times 44 = .ok (.aload_n 0, 1) := by decide +kernel
theorem dX12_times_45 : decode cX12_times 45 = .ok (.getfield 317, 3) := by decide +kernel
theorem dX12_times_48 : decode cX12_times 48 = .ok (.invokevirtual 239, 3) := by decide +kernel
theorem dX12_times_51 : decode cX12_times 51 = .ok (.ireturn, 1) := by decide +kernel
theorem dX12_keep_0 : decode cX12_keep 0 = .ok (.iconst 0, 1) := by decide +kernel
theorem dX12_keep_1 : decode cX12_keep 1 = .ok (.istore_n 3, 1) := by decide +kernel
theorem dX12_keep_2 : decode cX12_keep 2 = .ok (.iload_n 3, 1) := by decide +kernel
theorem dX12_keep_3 : decode cX12_keep 3 = .ok (.aload_n 0, 1) := by decide +kernel
theorem dX12_keep_4 : decode cX12_keep 4 = .ok (.iload_n 2, 1) := by decide +kernel
theorem dX12_keep_5 : decode cX12_keep 5 = .ok (.invokevirtual 106, 3) := by decide +kernel
theorem dX12_keep_8 : decode cX12_keep 8 = .ok (.if_icmp .gt 28, 3) := by decide +kernel
theorem dX12_keep_11 : decode cX12_keep 11 = .ok (.aload_n 0, 1) := by decide +kernel
theorem dX12_keep_12 : decode cX12_keep 12 = .ok (.getfield 86, 3) := by decide +kernel
theorem dX12_keep_15 : decode cX12_keep 15 = .ok (.bipush 24, 2) := by decide +kernel
theorem dX12_keep_17 : decode cX12_keep 17 = .ok (.iload_n 1, 1) := by decide +kernel
theorem dX12_keep_18 : decode cX12_keep 18 = .ok (.imul, 1) := by decide +kernel
theorem dX12_keep_19 : decode cX12_keep 19 = .ok (.iload_n 3, 1) := by decide +kernel
theorem dX12_keep_20 : decode cX12_keep 20 = .ok (.iadd, 1) := by decide +kernel
theorem dX12_keep_21 : decode cX12_keep 21 = .ok (.aload_n 0, 1) := by decide +kernel
theorem dX12_keep_22 : decode cX12_keep 22 = .ok (.getfield 7, 3) := by decide +kernel
theorem dX12_keep_25 : decode cX12_keep 25 = .ok (.iload_n 2, 1) := by decide +kernel
theorem dX12_keep_26 : decode cX12_keep 26 = .ok (.iload_n 3, 1) := by decide +kernel
theorem dX12_keep_27 : decode cX12_keep 27 = .ok (.iadd, 1) := by decide +kernel
theorem dX12_keep_28 : decode cX12_keep 28 = .ok (.iaload, 1) := by decide +kernel
theorem dX12_keep_29 : decode cX12_keep 29 = .ok (.iastore, 1) := by decide +kernel
theorem dX12_keep_30 : decode cX12_keep 30 = .ok (.iinc 3 1, 3) := by decide +kernel
theorem dX12_keep_33 : decode cX12_keep 33 = .ok (.goto (-31), 3) := by decide +kernel
theorem dX12_keep_36 : decode cX12_keep 36 = .ok (.return_, 1) := by decide +kernel
theorem dX12_held_0 : decode cX12_held 0 = .ok (.aload_n 0, 1) := by decide +kernel
theorem dX12_held_1 : decode cX12_held 1 = .ok (.getfield 86, 3) := by decide +kernel
theorem dX12_held_4 : decode cX12_held 4 = .ok (.bipush 24, 2) := by decide +kernel
theorem dX12_held_6 : decode cX12_held 6 = .ok (.iload_n 1, 1) := by decide +kernel
theorem dX12_held_7 : decode cX12_held 7 = .ok (.imul, 1) := by decide +kernel
theorem dX12_held_8 : decode cX12_held 8 = .ok (.iaload, 1) := by decide +kernel
theorem dX12_held_9 : decode cX12_held 9 = .ok (.istore_n 2, 1) := by decide +kernel
theorem dX12_held_10 : decode cX12_held 10 = .ok (.aload_n 0, 1) := by decide +kernel
theorem dX12_held_11 : decode cX12_held 11 = .ok (.iload_n 2, 1) := by decide +kernel
theorem dX12_held_12 : decode cX12_held 12 = .ok (.invokevirtual 96, 3) := by decide +kernel
theorem dX12_held_15 : decode cX12_held 15 = .ok (.istore_n 3, 1) := by decide +kernel
theorem dX12_held_16 : decode cX12_held 16 = .ok (.iconst 0, 1) := by decide +kernel
theorem dX12_held_17 : decode cX12_held 17 = .ok (.istore 4, 2) := by decide +kernel
theorem dX12_held_19 : decode cX12_held 19 = .ok (.iload 4, 2) := by decide +kernel
theorem dX12_held_21 : decode cX12_held 21 = .ok (.iload_n 2, 1) := by decide +kernel
theorem dX12_held_22 : decode cX12_held 22 = .ok (.if_icmp .gt 30, 3) := by decide +kernel
theorem dX12_held_25 : decode cX12_held 25 = .ok (.aload_n 0, 1) := by decide +kernel
theorem dX12_held_26 : decode cX12_held 26 = .ok (.getfield 7, 3) := by decide +kernel
theorem dX12_held_29 : decode cX12_held 29 = .ok (.iload_n 3, 1) := by decide +kernel
theorem dX12_held_30 : decode cX12_held 30 = .ok (.iload 4, 2) := by decide +kernel
theorem dX12_held_32 : decode cX12_held 32 = .ok (.iadd, 1) := by decide +kernel
theorem dX12_held_33 : decode cX12_held 33 = .ok (.aload_n 0, 1) := by decide +kernel
theorem dX12_held_34 : decode cX12_held 34 = .ok (.getfield 86, 3) := by decide +kernel
theorem dX12_held_37 : decode cX12_held 37 = .ok (.bipush 24, 2) := by decide +kernel
theorem dX12_held_39 : decode cX12_held 39 = .ok (.iload_n 1, 1) := by decide +kernel
theorem dX12_held_40 : decode cX12_held 40 = .ok (.imul, 1) := by decide +kernel
theorem dX12_held_41 : decode cX12_held 41 = .ok (.iload 4, 2) := by decide +kernel
theorem dX12_held_43 : decode cX12_held 43 = .ok (.iadd, 1) := by decide +kernel
theorem dX12_held_44 : decode cX12_held 44 = .ok (.iaload, 1) := by decide +kernel
theorem dX12_held_45 : decode cX12_held 45 = .ok (.iastore, 1) := by decide +kernel
theorem dX12_held_46 : decode cX12_held 46 = .ok (.iinc 4 1, 3) := by decide +kernel
theorem dX12_held_49 : decode cX12_held 49 = .ok (.goto (-30), 3) := by decide +kernel
theorem dX12_held_52 : decode cX12_held 52 = .ok (.iload_n 3, 1) := by decide +kernel
theorem dX12_held_53 : decode cX12_held 53 = .ok (.ireturn, 1) := by decide +kernel
theorem dX12_finds_0 : decode cX12_finds 0 = .ok (.aload_n 0, 1) := by decide +kernel
theorem dX12_finds_1 : decode cX12_finds 1 = .ok (.iconst (-1), 1) := by decide +kernel
theorem dX12_finds_2 : decode cX12_finds 2 = .ok (.putfield 323, 3) := by decide +kernel
theorem dX12_finds_5 : decode cX12_finds 5 = .ok (.iconst 0, 1) := by decide +kernel
theorem dX12_finds_6 : decode cX12_finds 6 = .ok (.istore_n 1, 1) := by decide +kernel
theorem dX12_finds_7 : decode cX12_finds 7 = .ok (.iload_n 1, 1) := by decide +kernel
theorem dX12_finds_8 : decode cX12_finds 8 = .ok (.aload_n 0, 1) := by decide +kernel
theorem dX12_finds_9 : decode cX12_finds 9 = .ok (.getfield 261, 3) := by decide +kernel
theorem dX12_finds_12 : decode cX12_finds 12 = .ok (.if_icmp .ge 114, 3) := by decide +kernel
theorem dX12_finds_15 : decode cX12_finds 15 = .ok (.iconst 0, 1) := by decide +kernel
theorem dX12_finds_16 : decode cX12_finds 16 = .ok (.istore_n 2, 1) := by decide +kernel
theorem dX12_finds_17 : decode cX12_finds 17 = .ok (.iload_n 2, 1) := by decide +kernel
theorem dX12_finds_18 : decode cX12_finds 18 = .ok (.aload_n 0, 1) := by decide +kernel
theorem dX12_finds_19 : decode cX12_finds 19 = .ok (.getfield 73, 3) := by decide +kernel
theorem dX12_finds_22 : decode cX12_finds 22 = .ok (.iload_n 1, 1) := by decide +kernel
theorem dX12_finds_23 : decode cX12_finds 23 = .ok (.iaload, 1) := by decide +kernel
theorem dX12_finds_24 : decode cX12_finds 24 = .ok (.if_icmp .ge 96, 3) := by decide +kernel
theorem dX12_finds_27 : decode cX12_finds 27 = .ok (.aload_n 0, 1) := by decide +kernel
theorem dX12_finds_28 : decode cX12_finds 28 = .ok (.iconst 0, 1) := by decide +kernel
theorem dX12_finds_29 : decode cX12_finds 29 = .ok (.putfield 93, 3) := by decide +kernel
theorem dX12_finds_32 : decode cX12_finds 32 = .ok (.aload_n 0, 1) := by decide +kernel
theorem dX12_finds_33 : decode cX12_finds 33 = .ok (.iload_n 1, 1) := by decide +kernel
theorem dX12_finds_34 : decode cX12_finds 34 = .ok (.iload_n 2, 1) := by decide +kernel
theorem dX12_finds_35 : decode cX12_finds 35 = .ok (.invokevirtual 320, 3) := by decide +kernel
theorem dX12_finds_38 : decode cX12_finds 38 = .ok (.aload_n 0, 1) := by decide +kernel
theorem dX12_finds_39 : decode cX12_finds 39 = .ok (.getfield 323, 3) := by decide +kernel
theorem dX12_finds_42 : decode cX12_finds 42 = .ok (.iconst (-1), 1) := by decide +kernel
theorem dX12_finds_43 : decode cX12_finds 43 = .ok (.if_icmp .eq 43, 3) := by decide +kernel
theorem dX12_finds_46 : decode cX12_finds 46 = .ok (.aload_n 0, 1) := by decide +kernel
theorem dX12_finds_47 : decode cX12_finds 47 = .ok (.aload_n 0, 1) := by decide +kernel
theorem dX12_finds_48 : decode cX12_finds 48 = .ok (.aload_n 0, 1) := by decide +kernel
theorem dX12_finds_49 : decode cX12_finds 49 = .ok (.aload_n 0, 1) := by decide +kernel
theorem dX12_finds_50 : decode cX12_finds 50 = .ok (.getfield 314, 3) := by decide +kernel
theorem dX12_finds_53 : decode cX12_finds 53 = .ok (.aload_n 0, 1) := by decide +kernel
theorem dX12_finds_54 : decode cX12_finds 54 = .ok (.iconst 1, 1) := by decide +kernel
theorem dX12_finds_55 : decode cX12_finds 55 = .ok (.invokevirtual 326, 3) := by decide +kernel
theorem dX12_finds_58 : decode cX12_finds 58 = .ok (.invokevirtual 281, 3) := by decide +kernel
theorem dX12_finds_61 : decode cX12_finds 61 = .ok (.aload_n 0, 1) := by decide +kernel
theorem dX12_finds_62 : decode cX12_finds 62 = .ok (.aload_n 0, 1) := by decide +kernel
theorem dX12_finds_63 : decode cX12_finds 63 = .ok (.iconst 0, 1) := by decide +kernel
theorem dX12_finds_64 : decode cX12_finds 64 = .ok (.invokevirtual 326, 3) := by decide +kernel
theorem dX12_finds_67 : decode cX12_finds 67 = .ok (.aload_n 0, 1) := by decide +kernel
theorem dX12_finds_68 : decode cX12_finds 68 = .ok (.getfield 317, 3) := by decide +kernel
theorem dX12_finds_71 : decode cX12_finds 71 = .ok (.invokevirtual 281, 3) := by decide +kernel
theorem dX12_finds_74 : decode cX12_finds 74 = .ok (.invokevirtual 284, 3) := by decide +kernel
theorem dX12_finds_77 : decode cX12_finds 77 = .ok (.invokevirtual 112, 3) := by decide +kernel
theorem dX12_finds_80 : decode cX12_finds 80 = .ok (.ifCond .lt 6, 3) := by decide +kernel
theorem dX12_finds_83 : decode cX12_finds 83 = .ok (.goto 31, 3) := by decide +kernel
theorem dX12_finds_86 : decode cX12_finds 86 = .ok (.aload_n 0, 1) := by decide +kernel
theorem dX12_finds_87 : decode cX12_finds 87 = .ok (.bipush 10, 2) := by decide +kernel
theorem dX12_finds_89 : decode cX12_finds 89 = .ok (.iload_n 1, 1) := by decide +kernel
theorem dX12_finds_90 : decode cX12_finds 90 = .ok (.imul, 1) := by decide +kernel
theorem dX12_finds_91 : decode cX12_finds 91 = .ok (.iload_n 2, 1) := by decide +kernel
theorem dX12_finds_92 : decode cX12_finds 92 = .ok (.iadd, 1) := by decide +kernel
theorem dX12_finds_93 : decode cX12_finds 93 = .ok (.putfield 323, 3) := by decide +kernel
theorem dX12_finds_96 : decode cX12_finds 96 = .ok (.aload_n 0, 1) := by decide +kernel
theorem dX12_finds_97 : decode cX12_finds 97 = .ok (.iconst 0, 1) := by decide +kernel
theorem dX12_finds_98 : decode cX12_finds 98 = .ok (.aload_n 0, 1) := by decide +kernel
theorem dX12_finds_99 : decode cX12_finds 99 = .ok (.getfield 314, 3) := by decide +kernel
theorem dX12_finds_102 : decode cX12_finds 102 = .ok (.invokevirtual 329, 3) := by decide +kernel
theorem dX12_finds_105 : decode cX12_finds 105 = .ok (.aload_n 0, 1) := by decide +kernel
theorem dX12_finds_106 : decode cX12_finds 106 = .ok (.iconst 1, 1) := by decide +kernel
theorem dX12_finds_107 : decode cX12_finds 107 = .ok (.aload_n 0, 1) := by decide +kernel
theorem dX12_finds_108 : decode cX12_finds 108 = .ok (.getfield 317, 3) := by decide +kernel
theorem dX12_finds_111 : decode cX12_finds 111 = .ok (.invokevirtual 329, 3) := by decide +kernel
theorem dX12_finds_114 : decode cX12_finds 114 = .ok (.iinc 2 1, 3) := by decide +kernel
theorem dX12_finds_117 : decode cX12_finds 117 = .ok (.goto (-100), 3) := by decide +kernel
theorem dX12_finds_120 : decode cX12_finds 120 = .ok (.iinc 1 1, 3) := by decide +kernel
theorem dX12_finds_123 : decode cX12_finds 123 = .ok (.goto (-116), 3) := by decide +kernel
theorem dX12_finds_126 : decode cX12_finds 126 = .ok (.aload_n 0, 1) := by decide +kernel
theorem dX12_finds_127 : decode cX12_finds 127 = .ok (.getfield 323, 3) := by decide +kernel
theorem dX12_finds_130 : decode cX12_finds 130 = .ok (.iconst (-1), 1) := by decide +kernel
theorem dX12_finds_131 : decode cX12_finds 131 = .ok (.if_icmp .eq 7, 3) := by decide +kernel
theorem dX12_finds_134 : decode cX12_finds 134 = .ok (.iconst 1, 1) := by decide +kernel
theorem dX12_finds_135 : decode cX12_finds 135 = .ok (.goto 4, 3) := by decide +kernel
theorem dX12_finds_138 : decode cX12_finds 138 = .ok (.iconst 0, 1) := by decide +kernel
theorem dX12_finds_139 : decode cX12_finds 139 = .ok (.ireturn, 1) := by decide +kernel
theorem dX12_factor_0 : decode cX12_factor 0 = .ok (.aload_n 0, 1) := by decide +kernel
theorem dX12_factor_1 : decode cX12_factor 1 = .ok (.invokevirtual 332, 3) := by decide +kernel
theorem dX12_factor_4 : decode cX12_factor 4 = .ok (.ifCond .ne 10, 3) := by decide +kernel
theorem dX12_factor_7 : decode cX12_factor 7 = .ok (.aload_n 0, 1) := by decide +kernel
theorem dX12_factor_8 : decode cX12_factor 8 = .ok (.bipush 6, 2) := by decide +kernel
theorem dX12_factor_10 : decode cX12_factor 10 = .ok (.invokevirtual 184, 3) := by decide +kernel
theorem dX12_factor_13 : decode cX12_factor 13 = .ok (.ireturn, 1) := by decide +kernel
theorem dX12_factor_14 : decode cX12_factor 14 = .ok (.aload_n 0, 1) := by decide +kernel
theorem dX12_factor_15 : decode cX12_factor 15 = .ok (.iconst 0, 1) := by decide +kernel
theorem dX12_factor_16 : decode cX12_factor 16 = .ok (.putfield 93, 3) := by decide +kernel
theorem dX12_factor_19 : decode cX12_factor 19 = .ok (.aload_n 0, 1) := by decide +kernel
theorem dX12_factor_20 : decode cX12_factor 20 = .ok (.aload_n 0, 1) := by decide +kernel
theorem dX12_factor_21 : decode cX12_factor 21 = .ok (.iconst 0, 1) := by decide +kernel
theorem dX12_factor_22 : decode cX12_factor 22 = .ok (.invokevirtual 326, 3) := by decide +kernel
theorem dX12_factor_25 : decode cX12_factor 25 = .ok (.aload_n 0, 1) := by decide +kernel
theorem dX12_factor_26 : decode cX12_factor 26 = .ok (.iconst 1, 1) := by decide +kernel
theorem dX12_factor_27 : decode cX12_factor 27 = .ok (.invokevirtual 326, 3) := by decide +kernel
theorem dX12_factor_30 : decode cX12_factor 30 = .ok (.invokevirtual 239, 3) := by decide +kernel
theorem dX12_factor_33 : decode cX12_factor 33 = .ok (.ireturn, 1) := by decide +kernel
theorem dX12_weakest_0 : decode cX12_weakest 0 = .ok (.aload_n 0, 1) := by decide +kernel
theorem dX12_weakest_1 : decode cX12_weakest 1 = .ok (.invokevirtual 332, 3) := by decide +kernel
theorem dX12_weakest_4 : decode cX12_weakest 4 = .ok (.ifCond .ne 10, 3) := by decide +kernel
theorem dX12_weakest_7 : decode cX12_weakest 7 = .ok (.aload_n 0, 1) := by decide +kernel
theorem dX12_weakest_8 : decode cX12_weakest 8 = .ok (.bipush 6, 2) := by decide +kernel
theorem dX12_weakest_10 : decode cX12_weakest 10 = .ok (.invokevirtual 184, 3) := by decide +kernel
theorem dX12_weakest_13 : decode cX12_weakest 13 = .ok (.ireturn, 1) := by decide +kernel
theorem dX12_weakest_14 : decode cX12_weakest 14 = .ok (.aload_n 0, 1) := by decide +kernel
theorem dX12_weakest_15 : decode cX12_weakest 15 = .ok (.iconst 0, 1) := by decide +kernel
theorem dX12_weakest_16 : decode cX12_weakest 16 = .ok (.putfield 89, 3) := by decide +kernel
theorem dX12_weakest_19 : decode cX12_weakest 19 = .ok (.aload_n 0, 1) := by decide +kernel
theorem dX12_weakest_20 : decode cX12_weakest 20 = .ok (.getfield 323, 3) := by decide +kernel
theorem dX12_weakest_23 : decode cX12_weakest 23 = .ok (.ireturn, 1) := by decide +kernel
theorem dJ9_abs_0f7a4_0 : decode cJ9_abs_0f7a4 0 = .ok (.iload_n 0, 1) := by decide +kernel
theorem dJ9_abs_0f7a4_1 : decode cJ9_abs_0f7a4 1 = .ok (.ifCond .ge 8, 3) := by decide +kernel
theorem dJ9_abs_0f7a4_4 : decode cJ9_abs_0f7a4 4 = .ok (.iload_n 0, 1) := by decide +kernel
theorem dJ9_abs_0f7a4_5 : decode cJ9_abs_0f7a4 5 = .ok (.ineg, 1) := by decide +kernel
theorem dJ9_abs_0f7a4_6 : decode cJ9_abs_0f7a4 6 = .ok (.goto 4, 3) := by decide +kernel
theorem dJ9_abs_0f7a4_9 : decode cJ9_abs_0f7a4 9 = .ok (.iload_n 0, 1) := by decide +kernel
theorem dJ9_abs_0f7a4_10 : decode cJ9_abs_0f7a4 10 = .ok (.ireturn, 1) := by decide +kernel
theorem dJ9_abs_067f4_0 : decode cJ9_abs_067f4 0 = .ok (.lload_n 0, 1) := by decide +kernel
theorem dJ9_abs_067f4_1 : decode cJ9_abs_067f4 1 = .ok (.lconst 0, 1) := by decide +kernel
theorem dJ9_abs_067f4_2 : decode cJ9_abs_067f4 2 = .ok (.lcmp, 1) := by decide +kernel
theorem dJ9_abs_067f4_3 : decode cJ9_abs_067f4 3 = .ok (.ifCond .ge 8, 3) := by decide +kernel
theorem dJ9_abs_067f4_6 : decode cJ9_abs_067f4 6 = .ok (.lload_n 0, 1) := by decide +kernel
theorem dJ9_abs_067f4_7 : decode cJ9_abs_067f4 7 = .ok (.lneg, 1) := by decide +kernel
theorem dJ9_abs_067f4_8 : decode cJ9_abs_067f4 8 = .ok (.goto 4, 3) := by decide +kernel
theorem dJ9_abs_067f4_11 : decode cJ9_abs_067f4 11 = .ok (.lload_n 0, 1) := by decide +kernel
theorem dJ9_abs_067f4_12 : decode cJ9_abs_067f4 12 = .ok (.lreturn, 1) := by decide +kernel
theorem dJ9_max_7cf53_0 : decode cJ9_max_7cf53 0 = .ok (.iload_n 0, 1) := by decide +kernel
theorem dJ9_max_7cf53_1 : decode cJ9_max_7cf53 1 = .ok (.iload_n 1, 1) := by decide +kernel
theorem dJ9_max_7cf53_2 : decode cJ9_max_7cf53 2 = .ok (.if_icmp .lt 7, 3) := by decide +kernel
theorem dJ9_max_7cf53_5 : decode cJ9_max_7cf53 5 = .ok (.iload_n 0, 1) := by decide +kernel
theorem dJ9_max_7cf53_6 : decode cJ9_max_7cf53 6 = .ok (.goto 4, 3) := by decide +kernel
theorem dJ9_max_7cf53_9 : decode cJ9_max_7cf53 9 = .ok (.iload_n 1, 1) := by decide +kernel
theorem dJ9_max_7cf53_10 : decode cJ9_max_7cf53 10 = .ok (.ireturn, 1) := by decide +kernel
theorem dJ9_max_f86c9_0 : decode cJ9_max_f86c9 0 = .ok (.lload_n 0, 1) := by decide +kernel
theorem dJ9_max_f86c9_1 : decode cJ9_max_f86c9 1 = .ok (.lload_n 2, 1) := by decide +kernel
theorem dJ9_max_f86c9_2 : decode cJ9_max_f86c9 2 = .ok (.lcmp, 1) := by decide +kernel
theorem dJ9_max_f86c9_3 : decode cJ9_max_f86c9 3 = .ok (.ifCond .lt 7, 3) := by decide +kernel
theorem dJ9_max_f86c9_6 : decode cJ9_max_f86c9 6 = .ok (.lload_n 0, 1) := by decide +kernel
theorem dJ9_max_f86c9_7 : decode cJ9_max_f86c9 7 = .ok (.goto 4, 3) := by decide +kernel
theorem dJ9_max_f86c9_10 : decode cJ9_max_f86c9 10 = .ok (.lload_n 2, 1) := by decide +kernel
theorem dJ9_max_f86c9_11 : decode cJ9_max_f86c9 11 = .ok (.lreturn, 1) := by decide +kernel
theorem dJ9_min_7cf53_0 : decode cJ9_min_7cf53 0 = .ok (.iload_n 0, 1) := by decide +kernel
theorem dJ9_min_7cf53_1 : decode cJ9_min_7cf53 1 = .ok (.iload_n 1, 1) := by decide +kernel
theorem dJ9_min_7cf53_2 : decode cJ9_min_7cf53 2 = .ok (.if_icmp .gt 7, 3) := by decide +kernel
theorem dJ9_min_7cf53_5 : decode cJ9_min_7cf53 5 = .ok (.iload_n 0, 1) := by decide +kernel
theorem dJ9_min_7cf53_6 : decode cJ9_min_7cf53 6 = .ok (.goto 4, 3) := by decide +kernel
theorem dJ9_min_7cf53_9 : decode cJ9_min_7cf53 9 = .ok (.iload_n 1, 1) := by decide +kernel
theorem dJ9_min_7cf53_10 : decode cJ9_min_7cf53 10 = .ok (.ireturn, 1) := by decide +kernel
theorem dJ9_min_f86c9_0 : decode cJ9_min_f86c9 0 = .ok (.lload_n 0, 1) := by decide +kernel
theorem dJ9_min_f86c9_1 : decode cJ9_min_f86c9 1 = .ok (.lload_n 2, 1) := by decide +kernel
theorem dJ9_min_f86c9_2 : decode cJ9_min_f86c9 2 = .ok (.lcmp, 1) := by decide +kernel
theorem dJ9_min_f86c9_3 : decode cJ9_min_f86c9 3 = .ok (.ifCond .gt 7, 3) := by decide +kernel
theorem dJ9_min_f86c9_6 : decode cJ9_min_f86c9 6 = .ok (.lload_n 0, 1) := by decide +kernel
theorem dJ9_min_f86c9_7 : decode cJ9_min_f86c9 7 = .ok (.goto 4, 3) := by decide +kernel
theorem dJ9_min_f86c9_10 : decode cJ9_min_f86c9 10 = .ok (.lload_n 2, 1) := by decide +kernel
theorem dJ9_min_f86c9_11 : decode cJ9_min_f86c9 11 = .ok (.lreturn, 1) := by decide +kernel
theorem dJ7_fill_d0a16_0 : decode cJ7_fill_d0a16 0 = .ok (.iconst 0, 1) := by decide +kernel
theorem dJ7_fill_d0a16_1 : decode cJ7_fill_d0a16 1 = .ok (.istore_n 3, 1) := by decide +kernel
theorem dJ7_fill_d0a16_2 : decode cJ7_fill_d0a16 2 = .ok (.aload_n 0, 1) := by decide +kernel
theorem dJ7_fill_d0a16_3 : decode cJ7_fill_d0a16 3 = .ok (.arraylength, 1) := by decide +kernel
theorem dJ7_fill_d0a16_4 : decode cJ7_fill_d0a16 4 = .ok (.istore 4, 2) := by decide +kernel
theorem dJ7_fill_d0a16_6 : decode cJ7_fill_d0a16 6 = .ok (.iload_n 3, 1) := by decide +kernel
theorem dJ7_fill_d0a16_7 : decode cJ7_fill_d0a16 7 = .ok (.iload 4, 2) := by decide +kernel
theorem dJ7_fill_d0a16_9 : decode cJ7_fill_d0a16 9 = .ok (.if_icmp .ge 13, 3) := by decide +kernel
theorem dJ7_fill_d0a16_12 : decode cJ7_fill_d0a16 12 = .ok (.aload_n 0, 1) := by decide +kernel
theorem dJ7_fill_d0a16_13 : decode cJ7_fill_d0a16 13 = .ok (.iload_n 3, 1) := by decide +kernel
theorem dJ7_fill_d0a16_14 : decode cJ7_fill_d0a16 14 = .ok (.lload_n 1, 1) := by decide +kernel
theorem dJ7_fill_d0a16_15 : decode cJ7_fill_d0a16 15 = .ok (.lastore, 1) := by decide +kernel
theorem dJ7_fill_d0a16_16 : decode cJ7_fill_d0a16 16 = .ok (.iinc 3 1, 3) := by decide +kernel
theorem dJ7_fill_d0a16_19 : decode cJ7_fill_d0a16 19 = .ok (.goto (-13), 3) := by decide +kernel
theorem dJ7_fill_d0a16_22 : decode cJ7_fill_d0a16 22 = .ok (.return_, 1) := by decide +kernel
theorem dJ7_fill_53178_0 : decode cJ7_fill_53178 0 = .ok (.iconst 0, 1) := by decide +kernel
theorem dJ7_fill_53178_1 : decode cJ7_fill_53178 1 = .ok (.istore_n 2, 1) := by decide +kernel
theorem dJ7_fill_53178_2 : decode cJ7_fill_53178 2 = .ok (.aload_n 0, 1) := by decide +kernel
theorem dJ7_fill_53178_3 : decode cJ7_fill_53178 3 = .ok (.arraylength, 1) := by decide +kernel
theorem dJ7_fill_53178_4 : decode cJ7_fill_53178 4 = .ok (.istore_n 3, 1) := by decide +kernel
theorem dJ7_fill_53178_5 : decode cJ7_fill_53178 5 = .ok (.iload_n 2, 1) := by decide +kernel
theorem dJ7_fill_53178_6 : decode cJ7_fill_53178 6 = .ok (.iload_n 3, 1) := by decide +kernel
theorem dJ7_fill_53178_7 : decode cJ7_fill_53178 7 = .ok (.if_icmp .ge 13, 3) := by decide +kernel
theorem dJ7_fill_53178_10 : decode cJ7_fill_53178 10 = .ok (.aload_n 0, 1) := by decide +kernel
theorem dJ7_fill_53178_11 : decode cJ7_fill_53178 11 = .ok (.iload_n 2, 1) := by decide +kernel
theorem dJ7_fill_53178_12 : decode cJ7_fill_53178 12 = .ok (.iload_n 1, 1) := by decide +kernel
theorem dJ7_fill_53178_13 : decode cJ7_fill_53178 13 = .ok (.iastore, 1) := by decide +kernel
theorem dJ7_fill_53178_14 : decode cJ7_fill_53178 14 = .ok (.iinc 2 1, 3) := by decide +kernel
theorem dJ7_fill_53178_17 : decode cJ7_fill_53178 17 = .ok (.goto (-12), 3) := by decide +kernel
theorem dJ7_fill_53178_20 : decode cJ7_fill_53178 20 = .ok (.return_, 1) := by decide +kernel
theorem dL_law_0 : decode cL_law 0 = .ok (.new 7, 3) := by decide +kernel
theorem dL_law_3 : decode cL_law 3 = .ok (.dup, 1) := by decide +kernel
theorem dL_law_4 : decode cL_law 4 = .ok (.invokespecial 9, 3) := by decide +kernel
theorem dL_law_7 : decode cL_law 7 = .ok (.astore_n 1, 1) := by decide +kernel
theorem dL_law_8 : decode cL_law 8 = .ok (.new 10, 3) := by decide +kernel
theorem dL_law_11 : decode cL_law 11 = .ok (.dup, 1) := by decide +kernel
theorem dL_law_12 : decode cL_law 12 = .ok (.invokespecial 12, 3) := by decide +kernel
theorem dL_law_15 : decode cL_law 15 = .ok (.astore_n 2, 1) := by decide +kernel
theorem dL_law_16 : decode cL_law 16 = .ok (.iconst 0, 1) := by decide +kernel
theorem dL_law_17 : decode cL_law 17 = .ok (.istore_n 3, 1) := by decide +kernel
theorem dL_law_18 : decode cL_law 18 = .ok (.iload_n 3, 1) := by decide +kernel
theorem dL_law_19 : decode cL_law 19 = .ok (.aload_n 0, 1) := by decide +kernel
theorem dL_law_20 : decode cL_law 20 = .ok (.arraylength, 1) := by decide +kernel
theorem dL_law_21 : decode cL_law 21 = .ok (.iconst 5, 1) := by decide +kernel
theorem dL_law_22 : decode cL_law 22 = .ok (.isub, 1) := by decide +kernel
theorem dL_law_23 : decode cL_law 23 = .ok (.if_icmp .gt 991, 3) := by decide +kernel
theorem dL_law_26 : decode cL_law 26 = .ok (.aload_n 0, 1) := by decide +kernel
theorem dL_law_27 : decode cL_law 27 = .ok (.iload_n 3, 1) := by decide +kernel
theorem dL_law_28 : decode cL_law 28 = .ok (.iaload, 1) := by decide +kernel
theorem dL_law_29 : decode cL_law 29 = .ok (.bipush 31, 2) := by decide +kernel
theorem dL_law_31 : decode cL_law 31 = .ok (.iand, 1) := by decide +kernel
theorem dL_law_32 : decode cL_law 32 = .ok (.tableswitch 976 0 25 #[120, 133, 156, 199, 252, 295, 338, 371, 404, 437, 496, 555, 598, 631, 644, 667, 700, 723, 756, 779, 812, 825, 874, 917, 950, 963], 120) := by decide +kernel
theorem dL_law_152 : decode cL_law 152 = .ok (.aload_n 1, 1) := by decide +kernel
theorem dL_law_153 : decode cL_law 153 = .ok (.invokevirtual 13, 3) := by decide +kernel
theorem dL_law_156 : decode cL_law 156 = .ok (.aload_n 2, 1) := by decide +kernel
theorem dL_law_157 : decode cL_law 157 = .ok (.invokevirtual 17, 3) := by decide +kernel
theorem dL_law_160 : decode cL_law 160 = .ok (.if_icmp .eq 848, 3) := by decide +kernel
theorem dL_law_163 : decode cL_law 163 = .ok (.iconst 0, 1) := by decide +kernel
theorem dL_law_164 : decode cL_law 164 = .ok (.ireturn, 1) := by decide +kernel
theorem dL_law_165 : decode cL_law 165 = .ok (.aload_n 1, 1) := by decide +kernel
theorem dL_law_166 : decode cL_law 166 = .ok (.aload_n 0, 1) := by decide +kernel
theorem dL_law_167 : decode cL_law 167 = .ok (.iload_n 3, 1) := by decide +kernel
theorem dL_law_168 : decode cL_law 168 = .ok (.iconst 1, 1) := by decide +kernel
theorem dL_law_169 : decode cL_law 169 = .ok (.iadd, 1) := by decide +kernel
theorem dL_law_170 : decode cL_law 170 = .ok (.iaload, 1) := by decide +kernel
theorem dL_law_171 : decode cL_law 171 = .ok (.invokevirtual 18, 3) := by decide +kernel
theorem dL_law_174 : decode cL_law 174 = .ok (.aload_n 2, 1) := by decide +kernel
theorem dL_law_175 : decode cL_law 175 = .ok (.aload_n 0, 1) := by decide +kernel
theorem dL_law_176 : decode cL_law 176 = .ok (.iload_n 3, 1) := by decide +kernel
theorem dL_law_177 : decode cL_law 177 = .ok (.iconst 1, 1) := by decide +kernel
theorem dL_law_178 : decode cL_law 178 = .ok (.iadd, 1) := by decide +kernel
theorem dL_law_179 : decode cL_law 179 = .ok (.iaload, 1) := by decide +kernel
theorem dL_law_180 : decode cL_law 180 = .ok (.invokevirtual 22, 3) := by decide +kernel
theorem dL_law_183 : decode cL_law 183 = .ok (.if_icmp .eq 825, 3) := by decide +kernel
theorem dL_law_186 : decode cL_law 186 = .ok (.iconst 0, 1) := by decide +kernel
theorem dL_law_187 : decode cL_law 187 = .ok (.ireturn, 1) := by decide +kernel
theorem dL_law_188 : decode cL_law 188 = .ok (.aload_n 1, 1) := by decide +kernel
theorem dL_law_189 : decode cL_law 189 = .ok (.aload_n 0, 1) := by decide +kernel
theorem dL_law_190 : decode cL_law 190 = .ok (.iload_n 3, 1) := by decide +kernel
theorem dL_law_191 : decode cL_law 191 = .ok (.iconst 1, 1) := by decide +kernel
theorem dL_law_192 : decode cL_law 192 = .ok (.iadd, 1) := by decide +kernel
theorem dL_law_193 : decode cL_law 193 = .ok (.iaload, 1) := by decide +kernel
theorem dL_law_194 : decode cL_law 194 = .ok (.aload_n 0, 1) := by decide +kernel
theorem dL_law_195 : decode cL_law 195 = .ok (.iload_n 3, 1) := by decide +kernel
theorem dL_law_196 : decode cL_law 196 = .ok (.iconst 2, 1) := by decide +kernel
theorem dL_law_197 : decode cL_law 197 = .ok (.iadd, 1) := by decide +kernel
theorem dL_law_198 : decode cL_law 198 = .ok (.iaload, 1) := by decide +kernel
theorem dL_law_199 : decode cL_law 199 = .ok (.aload_n 0, 1) := by decide +kernel
theorem dL_law_200 : decode cL_law 200 = .ok (.iload_n 3, 1) := by decide +kernel
theorem dL_law_201 : decode cL_law 201 = .ok (.iconst 3, 1) := by decide +kernel
theorem dL_law_202 : decode cL_law 202 = .ok (.iadd, 1) := by decide +kernel
theorem dL_law_203 : decode cL_law 203 = .ok (.iaload, 1) := by decide +kernel
theorem dL_law_204 : decode cL_law 204 = .ok (.invokevirtual 23, 3) := by decide +kernel
theorem dL_law_207 : decode cL_law 207 = .ok (.aload_n 2, 1) := by decide +kernel
theorem dL_law_208 : decode cL_law 208 = .ok (.aload_n 0, 1) := by decide +kernel
theorem dL_law_209 : decode cL_law 209 = .ok (.iload_n 3, 1) := by decide +kernel
theorem dL_law_210 : decode cL_law 210 = .ok (.iconst 1, 1) := by decide +kernel
theorem dL_law_211 : decode cL_law 211 = .ok (.iadd, 1) := by decide +kernel
theorem dL_law_212 : decode cL_law 212 = .ok (.iaload, 1) := by decide +kernel
theorem dL_law_213 : decode cL_law 213 = .ok (.aload_n 0, 1) := by decide +kernel
theorem dL_law_214 : decode cL_law 214 = .ok (.iload_n 3, 1) := by decide +kernel
theorem dL_law_215 : decode cL_law 215 = .ok (.iconst 2, 1) := by decide +kernel
theorem dL_law_216 : decode cL_law 216 = .ok (.iadd, 1) := by decide +kernel
theorem dL_law_217 : decode cL_law 217 = .ok (.iaload, 1) := by decide +kernel
theorem dL_law_218 : decode cL_law 218 = .ok (.aload_n 0, 1) := by decide +kernel
theorem dL_law_219 : decode cL_law 219 = .ok (.iload_n 3, 1) := by decide +kernel
theorem dL_law_220 : decode cL_law 220 = .ok (.iconst 3, 1) := by decide +kernel
theorem dL_law_221 : decode cL_law 221 = .ok (.iadd, 1) := by decide +kernel
theorem dL_law_222 : decode cL_law 222 = .ok (.iaload, 1) := by decide +kernel
theorem dL_law_223 : decode cL_law 223 = .ok (.invokevirtual 27, 3) := by decide +kernel
theorem dL_law_226 : decode cL_law 226 = .ok (.if_icmp .eq 782, 3) := by decide +kernel
theorem dL_law_229 : decode cL_law 229 = .ok (.iconst 0, 1) := by decide +kernel
theorem dL_law_230 : decode cL_law 230 = .ok (.ireturn, 1) := by decide +kernel
theorem dL_law_231 : decode cL_law 231 = .ok (.aload_n 1, 1) := by decide +kernel
theorem dL_law_232 : decode cL_law 232 = .ok (.aload_n 0, 1) := by decide +kernel
theorem dL_law_233 : decode cL_law 233 = .ok (.iload_n 3, 1) := by decide +kernel
theorem dL_law_234 : decode cL_law 234 = .ok (.iconst 1, 1) := by decide +kernel
theorem dL_law_235 : decode cL_law 235 = .ok (.iadd, 1) := by decide +kernel
theorem dL_law_236 : decode cL_law 236 = .ok (.iaload, 1) := by decide +kernel
theorem dL_law_237 : decode cL_law 237 = .ok (.aload_n 0, 1) := by decide +kernel
theorem dL_law_238 : decode cL_law 238 = .ok (.iload_n 3, 1) := by decide +kernel
theorem dL_law_239 : decode cL_law 239 = .ok (.iconst 2, 1) := by decide +kernel
theorem dL_law_240 : decode cL_law 240 = .ok (.iadd, 1) := by decide +kernel
theorem dL_law_241 : decode cL_law 241 = .ok (.iaload, 1) := by decide +kernel
theorem dL_law_242 : decode cL_law 242 = .ok (.aload_n 0, 1) := by decide +kernel
theorem dL_law_243 : decode cL_law 243 = .ok (.iload_n 3, 1) := by decide +kernel
theorem dL_law_244 : decode cL_law 244 = .ok (.iconst 3, 1) := by decide +kernel
theorem dL_law_245 : decode cL_law 245 = .ok (.iadd, 1) := by decide +kernel
theorem dL_law_246 : decode cL_law 246 = .ok (.iaload, 1) := by decide +kernel
theorem dL_law_247 : decode cL_law 247 = .ok (.aload_n 0, 1) := by decide +kernel
theorem dL_law_248 : decode cL_law 248 = .ok (.iload_n 3, 1) := by decide +kernel
theorem dL_law_249 : decode cL_law 249 = .ok (.iconst 4, 1) := by decide +kernel
theorem dL_law_250 : decode cL_law 250 = .ok (.iadd, 1) := by decide +kernel
theorem dL_law_251 : decode cL_law 251 = .ok (.iaload, 1) := by decide +kernel
theorem dL_law_252 : decode cL_law 252 = .ok (.invokevirtual 28, 3) := by decide +kernel
theorem dL_law_255 : decode cL_law 255 = .ok (.aload_n 2, 1) := by decide +kernel
theorem dL_law_256 : decode cL_law 256 = .ok (.aload_n 0, 1) := by decide +kernel
theorem dL_law_257 : decode cL_law 257 = .ok (.iload_n 3, 1) := by decide +kernel
theorem dL_law_258 : decode cL_law 258 = .ok (.iconst 1, 1) := by decide +kernel
theorem dL_law_259 : decode cL_law 259 = .ok (.iadd, 1) := by decide +kernel
theorem dL_law_260 : decode cL_law 260 = .ok (.iaload, 1) := by decide +kernel
theorem dL_law_261 : decode cL_law 261 = .ok (.aload_n 0, 1) := by decide +kernel
theorem dL_law_262 : decode cL_law 262 = .ok (.iload_n 3, 1) := by decide +kernel
theorem dL_law_263 : decode cL_law 263 = .ok (.iconst 2, 1) := by decide +kernel
theorem dL_law_264 : decode cL_law 264 = .ok (.iadd, 1) := by decide +kernel
theorem dL_law_265 : decode cL_law 265 = .ok (.iaload, 1) := by decide +kernel
theorem dL_law_266 : decode cL_law 266 = .ok (.aload_n 0, 1) := by decide +kernel
theorem dL_law_267 : decode cL_law 267 = .ok (.iload_n 3, 1) := by decide +kernel
theorem dL_law_268 : decode cL_law 268 = .ok (.iconst 3, 1) := by decide +kernel
theorem dL_law_269 : decode cL_law 269 = .ok (.iadd, 1) := by decide +kernel
theorem dL_law_270 : decode cL_law 270 = .ok (.iaload, 1) := by decide +kernel
theorem dL_law_271 : decode cL_law 271 = .ok (.aload_n 0, 1) := by decide +kernel
theorem dL_law_272 : decode cL_law 272 = .ok (.iload_n 3, 1) := by decide +kernel
theorem dL_law_273 : decode cL_law 273 = .ok (.iconst 4, 1) := by decide +kernel
theorem dL_law_274 : decode cL_law 274 = .ok (.iadd, 1) := by decide +kernel
theorem dL_law_275 : decode cL_law 275 = .ok (.iaload, 1) := by decide +kernel
theorem dL_law_276 : decode cL_law 276 = .ok (.invokevirtual 32, 3) := by decide +kernel
theorem dL_law_279 : decode cL_law 279 = .ok (.if_icmp .eq 729, 3) := by decide +kernel
theorem dL_law_282 : decode cL_law 282 = .ok (.iconst 0, 1) := by decide +kernel
theorem dL_law_283 : decode cL_law 283 = .ok (.ireturn, 1) := by decide +kernel
theorem dL_law_284 : decode cL_law 284 = .ok (.aload_n 1, 1) := by decide +kernel
theorem dL_law_285 : decode cL_law 285 = .ok (.aload_n 0, 1) := by decide +kernel
theorem dL_law_286 : decode cL_law 286 = .ok (.iload_n 3, 1) := by decide +kernel
theorem dL_law_287 : decode cL_law 287 = .ok (.iconst 1, 1) := by decide +kernel
theorem dL_law_288 : decode cL_law 288 = .ok (.iadd, 1) := by decide +kernel
theorem dL_law_289 : decode cL_law 289 = .ok (.iaload, 1) := by decide +kernel
theorem dL_law_290 : decode cL_law 290 = .ok (.aload_n 0, 1) := by decide +kernel
theorem dL_law_291 : decode cL_law 291 = .ok (.iload_n 3, 1) := by decide +kernel
theorem dL_law_292 : decode cL_law 292 = .ok (.iconst 2, 1) := by decide +kernel
theorem dL_law_293 : decode cL_law 293 = .ok (.iadd, 1) := by decide +kernel
theorem dL_law_294 : decode cL_law 294 = .ok (.iaload, 1) := by decide +kernel
theorem dL_law_295 : decode cL_law 295 = .ok (.aload_n 0, 1) := by decide +kernel
theorem dL_law_296 : decode cL_law 296 = .ok (.iload_n 3, 1) := by decide +kernel
theorem dL_law_297 : decode cL_law 297 = .ok (.iconst 3, 1) := by decide +kernel
theorem dL_law_298 : decode cL_law 298 = .ok (.iadd, 1) := by decide +kernel
theorem dL_law_299 : decode cL_law 299 = .ok (.iaload, 1) := by decide +kernel
theorem dL_law_300 : decode cL_law 300 = .ok (.invokevirtual 33, 3) := by decide +kernel
theorem dL_law_303 : decode cL_law 303 = .ok (.aload_n 2, 1) := by decide +kernel
theorem dL_law_304 : decode cL_law 304 = .ok (.aload_n 0, 1) := by decide +kernel
theorem dL_law_305 : decode cL_law 305 = .ok (.iload_n 3, 1) := by decide +kernel
theorem dL_law_306 : decode cL_law 306 = .ok (.iconst 1, 1) := by decide +kernel
theorem dL_law_307 : decode cL_law 307 = .ok (.iadd, 1) := by decide +kernel
theorem dL_law_308 : decode cL_law 308 = .ok (.iaload, 1) := by decide +kernel
theorem dL_law_309 : decode cL_law 309 = .ok (.aload_n 0, 1) := by decide +kernel
theorem dL_law_310 : decode cL_law 310 = .ok (.iload_n 3, 1) := by decide +kernel
theorem dL_law_311 : decode cL_law 311 = .ok (.iconst 2, 1) := by decide +kernel
theorem dL_law_312 : decode cL_law 312 = .ok (.iadd, 1) := by decide +kernel
theorem dL_law_313 : decode cL_law 313 = .ok (.iaload, 1) := by decide +kernel
theorem dL_law_314 : decode cL_law 314 = .ok (.aload_n 0, 1) := by decide +kernel
theorem dL_law_315 : decode cL_law 315 = .ok (.iload_n 3, 1) := by decide +kernel
theorem dL_law_316 : decode cL_law 316 = .ok (.iconst 3, 1) := by decide +kernel
theorem dL_law_317 : decode cL_law 317 = .ok (.iadd, 1) := by decide +kernel
theorem dL_law_318 : decode cL_law 318 = .ok (.iaload, 1) := by decide +kernel
theorem dL_law_319 : decode cL_law 319 = .ok (.invokevirtual 37, 3) := by decide +kernel
theorem dL_law_322 : decode cL_law 322 = .ok (.if_icmp .eq 686, 3) := by decide +kernel
theorem dL_law_325 : decode cL_law 325 = .ok (.iconst 0, 1) := by decide +kernel
theorem dL_law_326 : decode cL_law 326 = .ok (.ireturn, 1) := by decide +kernel
theorem dL_law_327 : decode cL_law 327 = .ok (.aload_n 1, 1) := by decide +kernel
theorem dL_law_328 : decode cL_law 328 = .ok (.aload_n 0, 1) := by decide +kernel
theorem dL_law_329 : decode cL_law 329 = .ok (.iload_n 3, 1) := by decide +kernel
theorem dL_law_330 : decode cL_law 330 = .ok (.iconst 1, 1) := by decide +kernel
theorem dL_law_331 : decode cL_law 331 = .ok (.iadd, 1) := by decide +kernel
theorem dL_law_332 : decode cL_law 332 = .ok (.iaload, 1) := by decide +kernel
theorem dL_law_333 : decode cL_law 333 = .ok (.aload_n 0, 1) := by decide +kernel
theorem dL_law_334 : decode cL_law 334 = .ok (.iload_n 3, 1) := by decide +kernel
theorem dL_law_335 : decode cL_law 335 = .ok (.iconst 2, 1) := by decide +kernel
theorem dL_law_336 : decode cL_law 336 = .ok (.iadd, 1) := by decide +kernel
theorem dL_law_337 : decode cL_law 337 = .ok (.iaload, 1) := by decide +kernel
theorem dL_law_338 : decode cL_law 338 = .ok (.aload_n 0, 1) := by decide +kernel
theorem dL_law_339 : decode cL_law 339 = .ok (.iload_n 3, 1) := by decide +kernel
theorem dL_law_340 : decode cL_law 340 = .ok (.iconst 3, 1) := by decide +kernel
theorem dL_law_341 : decode cL_law 341 = .ok (.iadd, 1) := by decide +kernel
theorem dL_law_342 : decode cL_law 342 = .ok (.iaload, 1) := by decide +kernel
theorem dL_law_343 : decode cL_law 343 = .ok (.invokevirtual 38, 3) := by decide +kernel
theorem dL_law_346 : decode cL_law 346 = .ok (.aload_n 2, 1) := by decide +kernel
theorem dL_law_347 : decode cL_law 347 = .ok (.aload_n 0, 1) := by decide +kernel
theorem dL_law_348 : decode cL_law 348 = .ok (.iload_n 3, 1) := by decide +kernel
theorem dL_law_349 : decode cL_law 349 = .ok (.iconst 1, 1) := by decide +kernel
theorem dL_law_350 : decode cL_law 350 = .ok (.iadd, 1) := by decide +kernel
theorem dL_law_351 : decode cL_law 351 = .ok (.iaload, 1) := by decide +kernel
theorem dL_law_352 : decode cL_law 352 = .ok (.aload_n 0, 1) := by decide +kernel
theorem dL_law_353 : decode cL_law 353 = .ok (.iload_n 3, 1) := by decide +kernel
theorem dL_law_354 : decode cL_law 354 = .ok (.iconst 2, 1) := by decide +kernel
theorem dL_law_355 : decode cL_law 355 = .ok (.iadd, 1) := by decide +kernel
theorem dL_law_356 : decode cL_law 356 = .ok (.iaload, 1) := by decide +kernel
theorem dL_law_357 : decode cL_law 357 = .ok (.aload_n 0, 1) := by decide +kernel
theorem dL_law_358 : decode cL_law 358 = .ok (.iload_n 3, 1) := by decide +kernel
theorem dL_law_359 : decode cL_law 359 = .ok (.iconst 3, 1) := by decide +kernel
theorem dL_law_360 : decode cL_law 360 = .ok (.iadd, 1) := by decide +kernel
theorem dL_law_361 : decode cL_law 361 = .ok (.iaload, 1) := by decide +kernel
theorem dL_law_362 : decode cL_law 362 = .ok (.invokevirtual 41, 3) := by decide +kernel
theorem dL_law_365 : decode cL_law 365 = .ok (.if_icmp .eq 643, 3) := by decide +kernel
theorem dL_law_368 : decode cL_law 368 = .ok (.iconst 0, 1) := by decide +kernel
theorem dL_law_369 : decode cL_law 369 = .ok (.ireturn, 1) := by decide +kernel
theorem dL_law_370 : decode cL_law 370 = .ok (.aload_n 1, 1) := by decide +kernel
theorem dL_law_371 : decode cL_law 371 = .ok (.aload_n 0, 1) := by decide +kernel
theorem dL_law_372 : decode cL_law 372 = .ok (.iload_n 3, 1) := by decide +kernel
theorem dL_law_373 : decode cL_law 373 = .ok (.iconst 1, 1) := by decide +kernel
theorem dL_law_374 : decode cL_law 374 = .ok (.iadd, 1) := by decide +kernel
theorem dL_law_375 : decode cL_law 375 = .ok (.iaload, 1) := by decide +kernel
theorem dL_law_376 : decode cL_law 376 = .ok (.aload_n 0, 1) := by decide +kernel
theorem dL_law_377 : decode cL_law 377 = .ok (.iload_n 3, 1) := by decide +kernel
theorem dL_law_378 : decode cL_law 378 = .ok (.iconst 2, 1) := by decide +kernel
theorem dL_law_379 : decode cL_law 379 = .ok (.iadd, 1) := by decide +kernel
theorem dL_law_380 : decode cL_law 380 = .ok (.iaload, 1) := by decide +kernel
theorem dL_law_381 : decode cL_law 381 = .ok (.invokevirtual 42, 3) := by decide +kernel
theorem dL_law_384 : decode cL_law 384 = .ok (.aload_n 2, 1) := by decide +kernel
theorem dL_law_385 : decode cL_law 385 = .ok (.aload_n 0, 1) := by decide +kernel
theorem dL_law_386 : decode cL_law 386 = .ok (.iload_n 3, 1) := by decide +kernel
theorem dL_law_387 : decode cL_law 387 = .ok (.iconst 1, 1) := by decide +kernel
theorem dL_law_388 : decode cL_law 388 = .ok (.iadd, 1) := by decide +kernel
theorem dL_law_389 : decode cL_law 389 = .ok (.iaload, 1) := by decide +kernel
theorem dL_law_390 : decode cL_law 390 = .ok (.aload_n 0, 1) := by decide +kernel
theorem dL_law_391 : decode cL_law 391 = .ok (.iload_n 3, 1) := by decide +kernel
theorem dL_law_392 : decode cL_law 392 = .ok (.iconst 2, 1) := by decide +kernel
theorem dL_law_393 : decode cL_law 393 = .ok (.iadd, 1) := by decide +kernel
theorem dL_law_394 : decode cL_law 394 = .ok (.iaload, 1) := by decide +kernel
theorem dL_law_395 : decode cL_law 395 = .ok (.invokevirtual 46, 3) := by decide +kernel
theorem dL_law_398 : decode cL_law 398 = .ok (.if_icmp .eq 610, 3) := by decide +kernel
theorem dL_law_401 : decode cL_law 401 = .ok (.iconst 0, 1) := by decide +kernel
theorem dL_law_402 : decode cL_law 402 = .ok (.ireturn, 1) := by decide +kernel
theorem dL_law_403 : decode cL_law 403 = .ok (.aload_n 1, 1) := by decide +kernel
theorem dL_law_404 : decode cL_law 404 = .ok (.aload_n 0, 1) := by decide +kernel
theorem dL_law_405 : decode cL_law 405 = .ok (.iload_n 3, 1) := by decide +kernel
theorem dL_law_406 : decode cL_law 406 = .ok (.iconst 1, 1) := by decide +kernel
theorem dL_law_407 : decode cL_law 407 = .ok (.iadd, 1) := by decide +kernel
theorem dL_law_408 : decode cL_law 408 = .ok (.iaload, 1) := by decide +kernel
theorem dL_law_409 : decode cL_law 409 = .ok (.aload_n 0, 1) := by decide +kernel
theorem dL_law_410 : decode cL_law 410 = .ok (.iload_n 3, 1) := by decide +kernel
theorem dL_law_411 : decode cL_law 411 = .ok (.iconst 2, 1) := by decide +kernel
theorem dL_law_412 : decode cL_law 412 = .ok (.iadd, 1) := by decide +kernel
theorem dL_law_413 : decode cL_law 413 = .ok (.iaload, 1) := by decide +kernel
theorem dL_law_414 : decode cL_law 414 = .ok (.invokevirtual 47, 3) := by decide +kernel
theorem dL_law_417 : decode cL_law 417 = .ok (.aload_n 2, 1) := by decide +kernel
theorem dL_law_418 : decode cL_law 418 = .ok (.aload_n 0, 1) := by decide +kernel
theorem dL_law_419 : decode cL_law 419 = .ok (.iload_n 3, 1) := by decide +kernel
theorem dL_law_420 : decode cL_law 420 = .ok (.iconst 1, 1) := by decide +kernel
theorem dL_law_421 : decode cL_law 421 = .ok (.iadd, 1) := by decide +kernel
theorem dL_law_422 : decode cL_law 422 = .ok (.iaload, 1) := by decide +kernel
theorem dL_law_423 : decode cL_law 423 = .ok (.aload_n 0, 1) := by decide +kernel
theorem dL_law_424 : decode cL_law 424 = .ok (.iload_n 3, 1) := by decide +kernel
theorem dL_law_425 : decode cL_law 425 = .ok (.iconst 2, 1) := by decide +kernel
theorem dL_law_426 : decode cL_law 426 = .ok (.iadd, 1) := by decide +kernel
theorem dL_law_427 : decode cL_law 427 = .ok (.iaload, 1) := by decide +kernel
theorem dL_law_428 : decode cL_law 428 = .ok (.invokevirtual 50, 3) := by decide +kernel
theorem dL_law_431 : decode cL_law 431 = .ok (.if_icmp .eq 577, 3) := by decide +kernel
theorem dL_law_434 : decode cL_law 434 = .ok (.iconst 0, 1) := by decide +kernel
theorem dL_law_435 : decode cL_law 435 = .ok (.ireturn, 1) := by decide +kernel
theorem dL_law_436 : decode cL_law 436 = .ok (.aload_n 1, 1) := by decide +kernel
theorem dL_law_437 : decode cL_law 437 = .ok (.aload_n 0, 1) := by decide +kernel
theorem dL_law_438 : decode cL_law 438 = .ok (.iload_n 3, 1) := by decide +kernel
theorem dL_law_439 : decode cL_law 439 = .ok (.iconst 1, 1) := by decide +kernel
theorem dL_law_440 : decode cL_law 440 = .ok (.iadd, 1) := by decide +kernel
theorem dL_law_441 : decode cL_law 441 = .ok (.iaload, 1) := by decide +kernel
theorem dL_law_442 : decode cL_law 442 = .ok (.aload_n 0, 1) := by decide +kernel
theorem dL_law_443 : decode cL_law 443 = .ok (.iload_n 3, 1) := by decide +kernel
theorem dL_law_444 : decode cL_law 444 = .ok (.iconst 2, 1) := by decide +kernel
theorem dL_law_445 : decode cL_law 445 = .ok (.iadd, 1) := by decide +kernel
theorem dL_law_446 : decode cL_law 446 = .ok (.iaload, 1) := by decide +kernel
theorem dL_law_447 : decode cL_law 447 = .ok (.invokevirtual 51, 3) := by decide +kernel
theorem dL_law_450 : decode cL_law 450 = .ok (.aload_n 2, 1) := by decide +kernel
theorem dL_law_451 : decode cL_law 451 = .ok (.aload_n 0, 1) := by decide +kernel
theorem dL_law_452 : decode cL_law 452 = .ok (.iload_n 3, 1) := by decide +kernel
theorem dL_law_453 : decode cL_law 453 = .ok (.iconst 1, 1) := by decide +kernel
theorem dL_law_454 : decode cL_law 454 = .ok (.iadd, 1) := by decide +kernel
theorem dL_law_455 : decode cL_law 455 = .ok (.iaload, 1) := by decide +kernel
theorem dL_law_456 : decode cL_law 456 = .ok (.aload_n 0, 1) := by decide +kernel
theorem dL_law_457 : decode cL_law 457 = .ok (.iload_n 3, 1) := by decide +kernel
theorem dL_law_458 : decode cL_law 458 = .ok (.iconst 2, 1) := by decide +kernel
theorem dL_law_459 : decode cL_law 459 = .ok (.iadd, 1) := by decide +kernel
theorem dL_law_460 : decode cL_law 460 = .ok (.iaload, 1) := by decide +kernel
theorem dL_law_461 : decode cL_law 461 = .ok (.invokevirtual 54, 3) := by decide +kernel
theorem dL_law_464 : decode cL_law 464 = .ok (.if_icmp .eq 544, 3) := by decide +kernel
theorem dL_law_467 : decode cL_law 467 = .ok (.iconst 0, 1) := by decide +kernel
theorem dL_law_468 : decode cL_law 468 = .ok (.ireturn, 1) := by decide +kernel
theorem dL_law_469 : decode cL_law 469 = .ok (.aload_n 1, 1) := by decide +kernel
theorem dL_law_470 : decode cL_law 470 = .ok (.aload_n 0, 1) := by decide +kernel
theorem dL_law_471 : decode cL_law 471 = .ok (.iload_n 3, 1) := by decide +kernel
theorem dL_law_472 : decode cL_law 472 = .ok (.iconst 1, 1) := by decide +kernel
theorem dL_law_473 : decode cL_law 473 = .ok (.iadd, 1) := by decide +kernel
theorem dL_law_474 : decode cL_law 474 = .ok (.iaload, 1) := by decide +kernel
theorem dL_law_475 : decode cL_law 475 = .ok (.aload_n 0, 1) := by decide +kernel
theorem dL_law_476 : decode cL_law 476 = .ok (.iload_n 3, 1) := by decide +kernel
theorem dL_law_477 : decode cL_law 477 = .ok (.iconst 2, 1) := by decide +kernel
theorem dL_law_478 : decode cL_law 478 = .ok (.iadd, 1) := by decide +kernel
theorem dL_law_479 : decode cL_law 479 = .ok (.iaload, 1) := by decide +kernel
theorem dL_law_480 : decode cL_law 480 = .ok (.aload_n 0, 1) := by decide +kernel
theorem dL_law_481 : decode cL_law 481 = .ok (.iload_n 3, 1) := by decide +kernel
theorem dL_law_482 : decode cL_law 482 = .ok (.iconst 3, 1) := by decide +kernel
theorem dL_law_483 : decode cL_law 483 = .ok (.iadd, 1) := by decide +kernel
theorem dL_law_484 : decode cL_law 484 = .ok (.iaload, 1) := by decide +kernel
theorem dL_law_485 : decode cL_law 485 = .ok (.ifCond .eq 7, 3) := by decide +kernel
theorem dL_law_488 : decode cL_law 488 = .ok (.iconst 1, 1) := by decide +kernel
theorem dL_law_489 : decode cL_law 489 = .ok (.goto 4, 3) := by decide +kernel
theorem dL_law_492 : decode cL_law 492 = .ok (.iconst 0, 1) := by decide +kernel
theorem dL_law_493 : decode cL_law 493 = .ok (.invokevirtual 55, 3) := by decide +kernel
theorem dL_law_496 : decode cL_law 496 = .ok (.aload_n 2, 1) := by decide +kernel
theorem dL_law_497 : decode cL_law 497 = .ok (.aload_n 0, 1) := by decide +kernel
theorem dL_law_498 : decode cL_law 498 = .ok (.iload_n 3, 1) := by decide +kernel
theorem dL_law_499 : decode cL_law 499 = .ok (.iconst 1, 1) := by decide +kernel
theorem dL_law_500 : decode cL_law 500 = .ok (.iadd, 1) := by decide +kernel
theorem dL_law_501 : decode cL_law 501 = .ok (.iaload, 1) := by decide +kernel
theorem dL_law_502 : decode cL_law 502 = .ok (.aload_n 0, 1) := by decide +kernel
theorem dL_law_503 : decode cL_law 503 = .ok (.iload_n 3, 1) := by decide +kernel
theorem dL_law_504 : decode cL_law 504 = .ok (.iconst 2, 1) := by decide +kernel
theorem dL_law_505 : decode cL_law 505 = .ok (.iadd, 1) := by decide +kernel
theorem dL_law_506 : decode cL_law 506 = .ok (.iaload, 1) := by decide +kernel
theorem dL_law_507 : decode cL_law 507 = .ok (.aload_n 0, 1) := by decide +kernel
theorem dL_law_508 : decode cL_law 508 = .ok (.iload_n 3, 1) := by decide +kernel
theorem dL_law_509 : decode cL_law 509 = .ok (.iconst 3, 1) := by decide +kernel
theorem dL_law_510 : decode cL_law 510 = .ok (.iadd, 1) := by decide +kernel
theorem dL_law_511 : decode cL_law 511 = .ok (.iaload, 1) := by decide +kernel
theorem dL_law_512 : decode cL_law 512 = .ok (.ifCond .eq 7, 3) := by decide +kernel
theorem dL_law_515 : decode cL_law 515 = .ok (.iconst 1, 1) := by decide +kernel
theorem dL_law_516 : decode cL_law 516 = .ok (.goto 4, 3) := by decide +kernel
theorem dL_law_519 : decode cL_law 519 = .ok (.iconst 0, 1) := by decide +kernel
theorem dL_law_520 : decode cL_law 520 = .ok (.invokevirtual 59, 3) := by decide +kernel
theorem dL_law_523 : decode cL_law 523 = .ok (.if_icmp .eq 485, 3) := by decide +kernel
theorem dL_law_526 : decode cL_law 526 = .ok (.iconst 0, 1) := by decide +kernel
theorem dL_law_527 : decode cL_law 527 = .ok (.ireturn, 1) := by decide +kernel
theorem dL_law_528 : decode cL_law 528 = .ok (.aload_n 1, 1) := by decide +kernel
theorem dL_law_529 : decode cL_law 529 = .ok (.aload_n 0, 1) := by decide +kernel
theorem dL_law_530 : decode cL_law 530 = .ok (.iload_n 3, 1) := by decide +kernel
theorem dL_law_531 : decode cL_law 531 = .ok (.iconst 1, 1) := by decide +kernel
theorem dL_law_532 : decode cL_law 532 = .ok (.iadd, 1) := by decide +kernel
theorem dL_law_533 : decode cL_law 533 = .ok (.iaload, 1) := by decide +kernel
theorem dL_law_534 : decode cL_law 534 = .ok (.aload_n 0, 1) := by decide +kernel
theorem dL_law_535 : decode cL_law 535 = .ok (.iload_n 3, 1) := by decide +kernel
theorem dL_law_536 : decode cL_law 536 = .ok (.iconst 2, 1) := by decide +kernel
theorem dL_law_537 : decode cL_law 537 = .ok (.iadd, 1) := by decide +kernel
theorem dL_law_538 : decode cL_law 538 = .ok (.iaload, 1) := by decide +kernel
theorem dL_law_539 : decode cL_law 539 = .ok (.aload_n 0, 1) := by decide +kernel
theorem dL_law_540 : decode cL_law 540 = .ok (.iload_n 3, 1) := by decide +kernel
theorem dL_law_541 : decode cL_law 541 = .ok (.iconst 3, 1) := by decide +kernel
theorem dL_law_542 : decode cL_law 542 = .ok (.iadd, 1) := by decide +kernel
theorem dL_law_543 : decode cL_law 543 = .ok (.iaload, 1) := by decide +kernel
theorem dL_law_544 : decode cL_law 544 = .ok (.ifCond .eq 7, 3) := by decide +kernel
theorem dL_law_547 : decode cL_law 547 = .ok (.iconst 1, 1) := by decide +kernel
theorem dL_law_548 : decode cL_law 548 = .ok (.goto 4, 3) := by decide +kernel
theorem dL_law_551 : decode cL_law 551 = .ok (.iconst 0, 1) := by decide +kernel
theorem dL_law_552 : decode cL_law 552 = .ok (.invokevirtual 60, 3) := by decide +kernel
theorem dL_law_555 : decode cL_law 555 = .ok (.aload_n 2, 1) := by decide +kernel
theorem dL_law_556 : decode cL_law 556 = .ok (.aload_n 0, 1) := by decide +kernel
theorem dL_law_557 : decode cL_law 557 = .ok (.iload_n 3, 1) := by decide +kernel
theorem dL_law_558 : decode cL_law 558 = .ok (.iconst 1, 1) := by decide +kernel
theorem dL_law_559 : decode cL_law 559 = .ok (.iadd, 1) := by decide +kernel
theorem dL_law_560 : decode cL_law 560 = .ok (.iaload, 1) := by decide +kernel
theorem dL_law_561 : decode cL_law 561 = .ok (.aload_n 0, 1) := by decide +kernel
theorem dL_law_562 : decode cL_law 562 = .ok (.iload_n 3, 1) := by decide +kernel
theorem dL_law_563 : decode cL_law 563 = .ok (.iconst 2, 1) := by decide +kernel
theorem dL_law_564 : decode cL_law 564 = .ok (.iadd, 1) := by decide +kernel
theorem dL_law_565 : decode cL_law 565 = .ok (.iaload, 1) := by decide +kernel
theorem dL_law_566 : decode cL_law 566 = .ok (.aload_n 0, 1) := by decide +kernel
theorem dL_law_567 : decode cL_law 567 = .ok (.iload_n 3, 1) := by decide +kernel
theorem dL_law_568 : decode cL_law 568 = .ok (.iconst 3, 1) := by decide +kernel
theorem dL_law_569 : decode cL_law 569 = .ok (.iadd, 1) := by decide +kernel
theorem dL_law_570 : decode cL_law 570 = .ok (.iaload, 1) := by decide +kernel
theorem dL_law_571 : decode cL_law 571 = .ok (.ifCond .eq 7, 3) := by decide +kernel
theorem dL_law_574 : decode cL_law 574 = .ok (.iconst 1, 1) := by decide +kernel
theorem dL_law_575 : decode cL_law 575 = .ok (.goto 4, 3) := by decide +kernel
theorem dL_law_578 : decode cL_law 578 = .ok (.iconst 0, 1) := by decide +kernel
theorem dL_law_579 : decode cL_law 579 = .ok (.invokevirtual 63, 3) := by decide +kernel
theorem dL_law_582 : decode cL_law 582 = .ok (.if_icmp .eq 426, 3) := by decide +kernel
theorem dL_law_585 : decode cL_law 585 = .ok (.iconst 0, 1) := by decide +kernel
theorem dL_law_586 : decode cL_law 586 = .ok (.ireturn, 1) := by decide +kernel
theorem dL_law_587 : decode cL_law 587 = .ok (.aload_n 1, 1) := by decide +kernel
theorem dL_law_588 : decode cL_law 588 = .ok (.aload_n 0, 1) := by decide +kernel
theorem dL_law_589 : decode cL_law 589 = .ok (.iload_n 3, 1) := by decide +kernel
theorem dL_law_590 : decode cL_law 590 = .ok (.iconst 1, 1) := by decide +kernel
theorem dL_law_591 : decode cL_law 591 = .ok (.iadd, 1) := by decide +kernel
theorem dL_law_592 : decode cL_law 592 = .ok (.iaload, 1) := by decide +kernel
theorem dL_law_593 : decode cL_law 593 = .ok (.aload_n 0, 1) := by decide +kernel
theorem dL_law_594 : decode cL_law 594 = .ok (.iload_n 3, 1) := by decide +kernel
theorem dL_law_595 : decode cL_law 595 = .ok (.iconst 2, 1) := by decide +kernel
theorem dL_law_596 : decode cL_law 596 = .ok (.iadd, 1) := by decide +kernel
theorem dL_law_597 : decode cL_law 597 = .ok (.iaload, 1) := by decide +kernel
theorem dL_law_598 : decode cL_law 598 = .ok (.aload_n 0, 1) := by decide +kernel
theorem dL_law_599 : decode cL_law 599 = .ok (.iload_n 3, 1) := by decide +kernel
theorem dL_law_600 : decode cL_law 600 = .ok (.iconst 3, 1) := by decide +kernel
theorem dL_law_601 : decode cL_law 601 = .ok (.iadd, 1) := by decide +kernel
theorem dL_law_602 : decode cL_law 602 = .ok (.iaload, 1) := by decide +kernel
theorem dL_law_603 : decode cL_law 603 = .ok (.invokevirtual 64, 3) := by decide +kernel
theorem dL_law_606 : decode cL_law 606 = .ok (.aload_n 2, 1) := by decide +kernel
theorem dL_law_607 : decode cL_law 607 = .ok (.aload_n 0, 1) := by decide +kernel
theorem dL_law_608 : decode cL_law 608 = .ok (.iload_n 3, 1) := by decide +kernel
theorem dL_law_609 : decode cL_law 609 = .ok (.iconst 1, 1) := by decide +kernel
theorem dL_law_610 : decode cL_law 610 = .ok (.iadd, 1) := by decide +kernel
theorem dL_law_611 : decode cL_law 611 = .ok (.iaload, 1) := by decide +kernel
theorem dL_law_612 : decode cL_law 612 = .ok (.aload_n 0, 1) := by decide +kernel
theorem dL_law_613 : decode cL_law 613 = .ok (.iload_n 3, 1) := by decide +kernel
theorem dL_law_614 : decode cL_law 614 = .ok (.iconst 2, 1) := by decide +kernel
theorem dL_law_615 : decode cL_law 615 = .ok (.iadd, 1) := by decide +kernel
theorem dL_law_616 : decode cL_law 616 = .ok (.iaload, 1) := by decide +kernel
theorem dL_law_617 : decode cL_law 617 = .ok (.aload_n 0, 1) := by decide +kernel
theorem dL_law_618 : decode cL_law 618 = .ok (.iload_n 3, 1) := by decide +kernel
theorem dL_law_619 : decode cL_law 619 = .ok (.iconst 3, 1) := by decide +kernel
theorem dL_law_620 : decode cL_law 620 = .ok (.iadd, 1) := by decide +kernel
theorem dL_law_621 : decode cL_law 621 = .ok (.iaload, 1) := by decide +kernel
theorem dL_law_622 : decode cL_law 622 = .ok (.invokevirtual 67, 3) := by decide +kernel
theorem dL_law_625 : decode cL_law 625 = .ok (.if_icmp .eq 383, 3) := by decide +kernel
theorem dL_law_628 : decode cL_law 628 = .ok (.iconst 0, 1) := by decide +kernel
theorem dL_law_629 : decode cL_law 629 = .ok (.ireturn, 1) := by decide +kernel
theorem dL_law_630 : decode cL_law 630 = .ok (.aload_n 1, 1) := by decide +kernel
theorem dL_law_631 : decode cL_law 631 = .ok (.aload_n 0, 1) := by decide +kernel
theorem dL_law_632 : decode cL_law 632 = .ok (.iload_n 3, 1) := by decide +kernel
theorem dL_law_633 : decode cL_law 633 = .ok (.iconst 1, 1) := by decide +kernel
theorem dL_law_634 : decode cL_law 634 = .ok (.iadd, 1) := by decide +kernel
theorem dL_law_635 : decode cL_law 635 = .ok (.iaload, 1) := by decide +kernel
theorem dL_law_636 : decode cL_law 636 = .ok (.aload_n 0, 1) := by decide +kernel
theorem dL_law_637 : decode cL_law 637 = .ok (.iload_n 3, 1) := by decide +kernel
theorem dL_law_638 : decode cL_law 638 = .ok (.iconst 2, 1) := by decide +kernel
theorem dL_law_639 : decode cL_law 639 = .ok (.iadd, 1) := by decide +kernel
theorem dL_law_640 : decode cL_law 640 = .ok (.iaload, 1) := by decide +kernel
theorem dL_law_641 : decode cL_law 641 = .ok (.invokevirtual 68, 3) := by decide +kernel
theorem dL_law_644 : decode cL_law 644 = .ok (.aload_n 2, 1) := by decide +kernel
theorem dL_law_645 : decode cL_law 645 = .ok (.aload_n 0, 1) := by decide +kernel
theorem dL_law_646 : decode cL_law 646 = .ok (.iload_n 3, 1) := by decide +kernel
theorem dL_law_647 : decode cL_law 647 = .ok (.iconst 1, 1) := by decide +kernel
theorem dL_law_648 : decode cL_law 648 = .ok (.iadd, 1) := by decide +kernel
theorem dL_law_649 : decode cL_law 649 = .ok (.iaload, 1) := by decide +kernel
theorem dL_law_650 : decode cL_law 650 = .ok (.aload_n 0, 1) := by decide +kernel
theorem dL_law_651 : decode cL_law 651 = .ok (.iload_n 3, 1) := by decide +kernel
theorem dL_law_652 : decode cL_law 652 = .ok (.iconst 2, 1) := by decide +kernel
theorem dL_law_653 : decode cL_law 653 = .ok (.iadd, 1) := by decide +kernel
theorem dL_law_654 : decode cL_law 654 = .ok (.iaload, 1) := by decide +kernel
theorem dL_law_655 : decode cL_law 655 = .ok (.invokevirtual 71, 3) := by decide +kernel
theorem dL_law_658 : decode cL_law 658 = .ok (.if_icmp .eq 350, 3) := by decide +kernel
theorem dL_law_661 : decode cL_law 661 = .ok (.iconst 0, 1) := by decide +kernel
theorem dL_law_662 : decode cL_law 662 = .ok (.ireturn, 1) := by decide +kernel
theorem dL_law_663 : decode cL_law 663 = .ok (.aload_n 1, 1) := by decide +kernel
theorem dL_law_664 : decode cL_law 664 = .ok (.invokevirtual 72, 3) := by decide +kernel
theorem dL_law_667 : decode cL_law 667 = .ok (.aload_n 2, 1) := by decide +kernel
theorem dL_law_668 : decode cL_law 668 = .ok (.invokevirtual 76, 3) := by decide +kernel
theorem dL_law_671 : decode cL_law 671 = .ok (.if_icmp .eq 337, 3) := by decide +kernel
theorem dL_law_674 : decode cL_law 674 = .ok (.iconst 0, 1) := by decide +kernel
theorem dL_law_675 : decode cL_law 675 = .ok (.ireturn, 1) := by decide +kernel
theorem dL_law_676 : decode cL_law 676 = .ok (.aload_n 1, 1) := by decide +kernel
theorem dL_law_677 : decode cL_law 677 = .ok (.aload_n 0, 1) := by decide +kernel
theorem dL_law_678 : decode cL_law 678 = .ok (.iload_n 3, 1) := by decide +kernel
theorem dL_law_679 : decode cL_law 679 = .ok (.iconst 1, 1) := by decide +kernel
theorem dL_law_680 : decode cL_law 680 = .ok (.iadd, 1) := by decide +kernel
theorem dL_law_681 : decode cL_law 681 = .ok (.iaload, 1) := by decide +kernel
theorem dL_law_682 : decode cL_law 682 = .ok (.invokevirtual 77, 3) := by decide +kernel
theorem dL_law_685 : decode cL_law 685 = .ok (.aload_n 2, 1) := by decide +kernel
theorem dL_law_686 : decode cL_law 686 = .ok (.aload_n 0, 1) := by decide +kernel
theorem dL_law_687 : decode cL_law 687 = .ok (.iload_n 3, 1) := by decide +kernel
theorem dL_law_688 : decode cL_law 688 = .ok (.iconst 1, 1) := by decide +kernel
theorem dL_law_689 : decode cL_law 689 = .ok (.iadd, 1) := by decide +kernel
theorem dL_law_690 : decode cL_law 690 = .ok (.iaload, 1) := by decide +kernel
theorem dL_law_691 : decode cL_law 691 = .ok (.invokevirtual 80, 3) := by decide +kernel
theorem dL_law_694 : decode cL_law 694 = .ok (.if_icmp .eq 314, 3) := by decide +kernel
theorem dL_law_697 : decode cL_law 697 = .ok (.iconst 0, 1) := by decide +kernel
theorem dL_law_698 : decode cL_law 698 = .ok (.ireturn, 1) := by decide +kernel
theorem dL_law_699 : decode cL_law 699 = .ok (.aload_n 1, 1) := by decide +kernel
theorem dL_law_700 : decode cL_law 700 = .ok (.aload_n 0, 1) := by decide +kernel
theorem dL_law_701 : decode cL_law 701 = .ok (.iload_n 3, 1) := by decide +kernel
theorem dL_law_702 : decode cL_law 702 = .ok (.iconst 1, 1) := by decide +kernel
theorem dL_law_703 : decode cL_law 703 = .ok (.iadd, 1) := by decide +kernel
theorem dL_law_704 : decode cL_law 704 = .ok (.iaload, 1) := by decide +kernel
