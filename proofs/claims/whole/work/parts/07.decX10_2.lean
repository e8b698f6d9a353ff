theorem dX10_letter_19 : decode cX10_letter 19 = .ok (.iload_n 2, 1) := by decide +kernel
theorem dX10_letter_20 : decode cX10_letter 20 = .ok (.i2l, 1) := by decide +kernel
theorem dX10_letter_21 : decode cX10_letter 21 = .ok (.lconst 0, 1) := by decide +kernel
theorem dX10_letter_22 : decode cX10_letter 22 = .ok (.aload_n 0, 1) := by decide +kernel
theorem dX10_letter_23 : decode cX10_letter 23 = .ok (.getfield 125, 3) := by decide +kernel
theorem dX10_letter_26 : decode cX10_letter 26 = .ok (.iconst 1, 1) := by decide +kernel
theorem dX10_letter_27 : decode cX10_letter 27 = .ok (.isub, 1) := by decide +kernel
theorem dX10_letter_28 : decode cX10_letter 28 = .ok (.i2l, 1) := by decide +kernel
theorem dX10_letter_29 : decode cX10_letter 29 = .ok (.invokestatic 53, 3) := by decide +kernel
theorem dX10_letter_32 : decode cX10_letter 32 = .ok (.ifCond .ne 6, 3) := by decide +kernel
theorem dX10_letter_35 : decode cX10_letter 35 = .ok (.bipush (-9), 2) := by decide +kernel
theorem dX10_letter_37 : decode cX10_letter 37 = .ok (.ireturn, 1) := by decide +kernel
theorem dX10_letter_38 : decode cX10_letter 38 = .ok (.iload_n 3, 1) := by decide +kernel
theorem dX10_letter_39 : decode cX10_letter 39 = .ok (.ifCond .eq 12, 3) := by decide +kernel
theorem dX10_letter_42 : decode cX10_letter 42 = .ok (.aload_n 0, 1) := by decide +kernel
theorem dX10_letter_43 : decode cX10_letter 43 = .ok (.getfield 38, 3) := by decide +kernel
theorem dX10_letter_46 : decode cX10_letter 46 = .ok (.iload_n 2, 1) := by decide +kernel
theorem dX10_letter_47 : decode cX10_letter 47 = .ok (.iaload, 1) := by decide +kernel
theorem dX10_letter_48 : decode cX10_letter 48 = .ok (.goto 9, 3) := by decide +kernel
theorem dX10_letter_51 : decode cX10_letter 51 = .ok (.aload_n 0, 1) := by decide +kernel
theorem dX10_letter_52 : decode cX10_letter 52 = .ok (.getfield 35, 3) := by decide +kernel
theorem dX10_letter_55 : decode cX10_letter 55 = .ok (.iload_n 2, 1) := by decide +kernel
theorem dX10_letter_56 : decode cX10_letter 56 = .ok (.iaload, 1) := by decide +kernel
theorem dX10_letter_57 : decode cX10_letter 57 = .ok (.ireturn, 1) := by decide +kernel
theorem dX10_judged_0 : decode cX10_judged 0 = .ok (.iload_n 2, 1) := by decide +kernel
theorem dX10_judged_1 : decode cX10_judged 1 = .ok (.bipush 100, 2) := by decide +kernel
theorem dX10_judged_3 : decode cX10_judged 3 = .ok (.idiv, 1) := by decide +kernel
theorem dX10_judged_4 : decode cX10_judged 4 = .ok (.istore_n 3, 1) := by decide +kernel
theorem dX10_judged_5 : decode cX10_judged 5 = .ok (.iload_n 2, 1) := by decide +kernel
theorem dX10_judged_6 : decode cX10_judged 6 = .ok (.bipush 100, 2) := by decide +kernel
theorem dX10_judged_8 : decode cX10_judged 8 = .ok (.irem, 1) := by decide +kernel
theorem dX10_judged_9 : decode cX10_judged 9 = .ok (.istore 4, 2) := by decide +kernel
theorem dX10_judged_11 : decode cX10_judged 11 = .ok (.iload_n 1, 1) := by decide +kernel
theorem dX10_judged_12 : decode cX10_judged 12 = .ok (.tableswitch 255 1 6 #[40, 81, 110, 127, 157, 226], 40) := by decide +kernel
theorem dX10_judged_52 : decode cX10_judged 52 = .ok (.iload_n 3, 1) := by decide +kernel
theorem dX10_judged_53 : decode cX10_judged 53 = .ok (.iconst 1, 1) := by decide +kernel
theorem dX10_judged_54 : decode cX10_judged 54 = .ok (.if_icmp .gt 25, 3) := by decide +kernel
theorem dX10_judged_57 : decode cX10_judged 57 = .ok (.iload 4, 2) := by decide +kernel
theorem dX10_judged_59 : decode cX10_judged 59 = .ok (.ifCond .eq 20, 3) := by decide +kernel
theorem dX10_judged_62 : decode cX10_judged 62 = .ok (.aload_n 0, 1) := by decide +kernel
theorem dX10_judged_63 : decode cX10_judged 63 = .ok (.getfield 16, 3) := by decide +kernel
theorem dX10_judged_66 : decode cX10_judged 66 = .ok (.sipush 360, 3) := by decide +kernel
theorem dX10_judged_69 : decode cX10_judged 69 = .ok (.iaload, 1) := by decide +kernel
theorem dX10_judged_70 : decode cX10_judged 70 = .ok (.iload 4, 2) := by decide +kernel
theorem dX10_judged_72 : decode cX10_judged 72 = .ok (.iadd, 1) := by decide +kernel
theorem dX10_judged_73 : decode cX10_judged 73 = .ok (.sipush 360, 3) := by decide +kernel
theorem dX10_judged_76 : decode cX10_judged 76 = .ok (.if_icmp .le 5, 3) := by decide +kernel
theorem dX10_judged_79 : decode cX10_judged 79 = .ok (.iconst 0, 1) := by decide +kernel
theorem dX10_judged_80 : decode cX10_judged 80 = .ok (.ireturn, 1) := by decide +kernel
theorem dX10_judged_81 : decode cX10_judged 81 = .ok (.aload_n 0, 1) := by decide +kernel
theorem dX10_judged_82 : decode cX10_judged 82 = .ok (.getfield 16, 3) := by decide +kernel
theorem dX10_judged_85 : decode cX10_judged 85 = .ok (.iload_n 3, 1) := by decide +kernel
theorem dX10_judged_86 : decode cX10_judged 86 = .ok (.iload 4, 2) := by decide +kernel
theorem dX10_judged_88 : decode cX10_judged 88 = .ok (.invokestatic 212, 3) := by decide +kernel
theorem dX10_judged_91 : decode cX10_judged 91 = .ok (.iconst 1, 1) := by decide +kernel
theorem dX10_judged_92 : decode cX10_judged 92 = .ok (.ireturn, 1) := by decide +kernel
theorem dX10_judged_93 : decode cX10_judged 93 = .ok (.aload_n 0, 1) := by decide +kernel
theorem dX10_judged_94 : decode cX10_judged 94 = .ok (.getfield 16, 3) := by decide +kernel
theorem dX10_judged_97 : decode cX10_judged 97 = .ok (.iload_n 2, 1) := by decide +kernel
theorem dX10_judged_98 : decode cX10_judged 98 = .ok (.invokestatic 117, 3) := by decide +kernel
theorem dX10_judged_101 : decode cX10_judged 101 = .ok (.ifCond .ne 5, 3) := by decide +kernel
theorem dX10_judged_104 : decode cX10_judged 104 = .ok (.iconst 0, 1) := by decide +kernel
theorem dX10_judged_105 : decode cX10_judged 105 = .ok (.ireturn, 1) := by decide +kernel
theorem dX10_judged_106 : decode cX10_judged 106 = .ok (.aload_n 0, 1) := by decide +kernel
theorem dX10_judged_107 : decode cX10_judged 107 = .ok (.getfield 16, 3) := by decide +kernel
theorem dX10_judged_110 : decode cX10_judged 110 = .ok (.iload_n 2, 1) := by decide +kernel
theorem dX10_judged_111 : decode cX10_judged 111 = .ok (.iconst 1, 1) := by decide +kernel
theorem dX10_judged_112 : decode cX10_judged 112 = .ok (.aload_n 0, 1) := by decide +kernel
theorem dX10_judged_113 : decode cX10_judged 113 = .ok (.getfield 16, 3) := by decide +kernel
theorem dX10_judged_116 : decode cX10_judged 116 = .ok (.iload_n 2, 1) := by decide +kernel
theorem dX10_judged_117 : decode cX10_judged 117 = .ok (.iaload, 1) := by decide +kernel
theorem dX10_judged_118 : decode cX10_judged 118 = .ok (.isub, 1) := by decide +kernel
theorem dX10_judged_119 : decode cX10_judged 119 = .ok (.iastore, 1) := by decide +kernel
theorem dX10_judged_120 : decode cX10_judged 120 = .ok (.iconst 1, 1) := by decide +kernel
theorem dX10_judged_121 : decode cX10_judged 121 = .ok (.ireturn, 1) := by decide +kernel
theorem dX10_judged_122 : decode cX10_judged 122 = .ok (.aload_n 0, 1) := by decide +kernel
theorem dX10_judged_123 : decode cX10_judged 123 = .ok (.getfield 16, 3) := by decide +kernel
theorem dX10_judged_126 : decode cX10_judged 126 = .ok (.invokestatic 172, 3) := by decide +kernel
theorem dX10_judged_129 : decode cX10_judged 129 = .ok (.iload_n 2, 1) := by decide +kernel
theorem dX10_judged_130 : decode cX10_judged 130 = .ok (.if_icmp .ne 7, 3) := by decide +kernel
theorem dX10_judged_133 : decode cX10_judged 133 = .ok (.iconst 1, 1) := by decide +kernel
theorem dX10_judged_134 : decode cX10_judged 134 = .ok (.goto 4, 3) := by decide +kernel
theorem dX10_judged_137 : decode cX10_judged 137 = .ok (.iconst 0, 1) := by decide +kernel
theorem dX10_judged_138 : decode cX10_judged 138 = .ok (.ireturn, 1) := by decide +kernel
theorem dX10_judged_139 : decode cX10_judged 139 = .ok (.iload_n 2, 1) := by decide +kernel
theorem dX10_judged_140 : decode cX10_judged 140 = .ok (.i2l, 1) := by decide +kernel
theorem dX10_judged_141 : decode cX10_judged 141 = .ok (.lconst 1, 1) := by decide +kernel
theorem dX10_judged_142 : decode cX10_judged 142 = .ok (.aload_n 0, 1) := by decide +kernel
theorem dX10_judged_143 : decode cX10_judged 143 = .ok (.getfield 16, 3) := by decide +kernel
theorem dX10_judged_146 : decode cX10_judged 146 = .ok (.sipush 360, 3) := by decide +kernel
theorem dX10_judged_149 : decode cX10_judged 149 = .ok (.iaload, 1) := by decide +kernel
theorem dX10_judged_150 : decode cX10_judged 150 = .ok (.i2l, 1) := by decide +kernel
theorem dX10_judged_151 : decode cX10_judged 151 = .ok (.invokestatic 53, 3) := by decide +kernel
theorem dX10_judged_154 : decode cX10_judged 154 = .ok (.ifCond .ne 5, 3) := by decide +kernel
theorem dX10_judged_157 : decode cX10_judged 157 = .ok (.iconst 0, 1) := by decide +kernel
theorem dX10_judged_158 : decode cX10_judged 158 = .ok (.ireturn, 1) := by decide +kernel
theorem dX10_judged_159 : decode cX10_judged 159 = .ok (.aload_n 0, 1) := by decide +kernel
theorem dX10_judged_160 : decode cX10_judged 160 = .ok (.getfield 16, 3) := by decide +kernel
theorem dX10_judged_163 : decode cX10_judged 163 = .ok (.iload_n 2, 1) := by decide +kernel
theorem dX10_judged_164 : decode cX10_judged 164 = .ok (.invokestatic 224, 3) := by decide +kernel
theorem dX10_judged_167 : decode cX10_judged 167 = .ok (.iconst 1, 1) := by decide +kernel
theorem dX10_judged_168 : decode cX10_judged 168 = .ok (.ireturn, 1) := by decide +kernel
theorem dX10_judged_169 : decode cX10_judged 169 = .ok (.aload_n 0, 1) := by decide +kernel
theorem dX10_judged_170 : decode cX10_judged 170 = .ok (.aload_n 0, 1) := by decide +kernel
theorem dX10_judged_171 : decode cX10_judged 171 = .ok (.getfield 16, 3) := by decide +kernel
theorem dX10_judged_174 : decode cX10_judged 174 = .ok (.invokevirtual 165, 3) := by decide +kernel
theorem dX10_judged_177 : decode cX10_judged 177 = .ok (.istore 5, 2) := by decide +kernel
theorem dX10_judged_179 : decode cX10_judged 179 = .ok (.iload 5, 2) := by decide +kernel
theorem dX10_judged_181 : decode cX10_judged 181 = .ok (.bipush (-9), 2) := by decide +kernel
theorem dX10_judged_183 : decode cX10_judged 183 = .ok (.if_icmp .eq 20, 3) := by decide +kernel
theorem dX10_judged_186 : decode cX10_judged 186 = .ok (.iload 5, 2) := by decide +kernel
theorem dX10_judged_188 : decode cX10_judged 188 = .ok (.sipush 10000, 3) := by decide +kernel
theorem dX10_judged_191 : decode cX10_judged 191 = .ok (.idiv, 1) := by decide +kernel
theorem dX10_judged_192 : decode cX10_judged 192 = .ok (.iload_n 2, 1) := by decide +kernel
theorem dX10_judged_193 : decode cX10_judged 193 = .ok (.bipush 10, 2) := by decide +kernel
theorem dX10_judged_195 : decode cX10_judged 195 = .ok (.idiv, 1) := by decide +kernel
theorem dX10_judged_196 : decode cX10_judged 196 = .ok (.if_icmp .ne 7, 3) := by decide +kernel
theorem dX10_judged_199 : decode cX10_judged 199 = .ok (.iconst 1, 1) := by decide +kernel
theorem dX10_judged_200 : decode cX10_judged 200 = .ok (.goto 4, 3) := by decide +kernel
theorem dX10_judged_203 : decode cX10_judged 203 = .ok (.iconst 0, 1) := by decide +kernel
theorem dX10_judged_204 : decode cX10_judged 204 = .ok (.istore 6, 2) := by decide +kernel
theorem dX10_judged_206 : decode cX10_judged 206 = .ok (.iload_n 2, 1) := by decide +kernel
theorem dX10_judged_207 : decode cX10_judged 207 = .ok (.bipush 10, 2) := by decide +kernel
theorem dX10_judged_209 : decode cX10_judged 209 = .ok (.irem, 1) := by decide +kernel
theorem dX10_judged_210 : decode cX10_judged 210 = .ok (.iconst 2, 1) := by decide +kernel
theorem dX10_judged_211 : decode cX10_judged 211 = .ok (.if_icmp .ge 25, 3) := by decide +kernel
theorem dX10_judged_214 : decode cX10_judged 214 = .ok (.iload 6, 2) := by decide +kernel
theorem dX10_judged_216 : decode cX10_judged 216 = .ok (.iload_n 2, 1) := by decide +kernel
theorem dX10_judged_217 : decode cX10_judged 217 = .ok (.bipush 10, 2) := by decide +kernel
theorem dX10_judged_219 : decode cX10_judged 219 = .ok (.irem, 1) := by decide +kernel
theorem dX10_judged_220 : decode cX10_judged 220 = .ok (.iconst 1, 1) := by decide +kernel
theorem dX10_judged_221 : decode cX10_judged 221 = .ok (.if_icmp .ne 7, 3) := by decide +kernel
theorem dX10_judged_224 : decode cX10_judged 224 = .ok (.iconst 1, 1) := by decide +kernel
theorem dX10_judged_225 : decode cX10_judged 225 = .ok (.goto 4, 3) := by decide +kernel
theorem dX10_judged_228 : decode cX10_judged 228 = .ok (.iconst 0, 1) := by decide +kernel
theorem dX10_judged_229 : decode cX10_judged 229 = .ok (.if_icmp .ne 7, 3) := by decide +kernel
theorem dX10_judged_232 : decode cX10_judged 232 = .ok (.iconst 1, 1) := by decide +kernel
theorem dX10_judged_233 : decode cX10_judged 233 = .ok (.goto 4, 3) := by decide +kernel
theorem dX10_judged_236 : decode cX10_judged 236 = .ok (.iconst 0, 1) := by decide +kernel
theorem dX10_judged_237 : decode cX10_judged 237 = .ok (.ireturn, 1) := by decide +kernel
theorem dX10_judged_238 : decode cX10_judged 238 = .ok (.aload_n 0, 1) := by decide +kernel
theorem dX10_judged_239 : decode cX10_judged 239 = .ok (.aload_n 0, 1) := by decide +kernel
theorem dX10_judged_240 : decode cX10_judged 240 = .ok (.getfield 16, 3) := by decide +kernel
theorem dX10_judged_243 : decode cX10_judged 243 = .ok (.invokevirtual 165, 3) := by decide +kernel
theorem dX10_judged_246 : decode cX10_judged 246 = .ok (.bipush (-9), 2) := by decide +kernel
theorem dX10_judged_248 : decode cX10_judged 248 = .ok (.if_icmp .eq 17, 3) := by decide +kernel
theorem dX10_judged_251 : decode cX10_judged 251 = .ok (.aload_n 0, 1) := by decide +kernel
theorem dX10_judged_252 : decode cX10_judged 252 = .ok (.getfield 41, 3) := by decide +kernel
theorem dX10_judged_255 : decode cX10_judged 255 = .ok (.iconst 0, 1) := by decide +kernel
theorem dX10_judged_256 : decode cX10_judged 256 = .ok (.iaload, 1) := by decide +kernel
theorem dX10_judged_257 : decode cX10_judged 257 = .ok (.iload_n 2, 1) := by decide +kernel
theorem dX10_judged_258 : decode cX10_judged 258 = .ok (.if_icmp .ne 7, 3) := by decide +kernel
theorem dX10_judged_261 : decode cX10_judged 261 = .ok (.iconst 1, 1) := by decide +kernel
theorem dX10_judged_262 : decode cX10_judged 262 = .ok (.goto 4, 3) := by decide +kernel
theorem dX10_judged_265 : decode cX10_judged 265 = .ok (.iconst 0, 1) := by decide +kernel
theorem dX10_judged_266 : decode cX10_judged 266 = .ok (.ireturn, 1) := by decide +kernel
theorem dX10_judged_267 : decode cX10_judged 267 = .ok (.iconst 0, 1) := by decide +kernel
theorem dX10_judged_268 : decode cX10_judged 268 = .ok (.ireturn, 1) := by decide +kernel
theorem dX10_tenThousands_0 : decode cX10_tenThousands 0 = .ok (.lconst 1, 1) := by decide +kernel
theorem dX10_tenThousands_1 : decode cX10_tenThousands 1 = .ok (.lstore_n 1, 1) := by decide +kernel
theorem dX10_tenThousands_2 : decode cX10_tenThousands 2 = .ok (.iconst 0, 1) := by decide +kernel
theorem dX10_tenThousands_3 : decode cX10_tenThousands 3 = .ok (.istore_n 3, 1) := by decide +kernel
theorem dX10_tenThousands_4 : decode cX10_tenThousands 4 = .ok (.iload_n 3, 1) := by decide +kernel
theorem dX10_tenThousands_5 : decode cX10_tenThousands 5 = .ok (.iload_n 0, 1) := by decide +kernel
theorem dX10_tenThousands_6 : decode cX10_tenThousands 6 = .ok (.if_icmp .ge 15, 3) := by decide +kernel
theorem dX10_tenThousands_9 : decode cX10_tenThousands 9 = .ok (.lload_n 1, 1) := by decide +kernel
theorem dX10_tenThousands_10 : decode cX10_tenThousands 10 = .ok (.ldc2_w 229, 3) := by decide +kernel
theorem dX10_tenThousands_13 : decode cX10_tenThousands 13 = .ok (.lmul, 1) := by decide +kernel
theorem dX10_tenThousands_14 : decode cX10_tenThousands 14 = .ok (.lstore_n 1, 1) := by decide +kernel
theorem dX10_tenThousands_15 : decode cX10_tenThousands 15 = .ok (.iinc 3 1, 3) := by decide +kernel
theorem dX10_tenThousands_18 : decode cX10_tenThousands 18 = .ok (.goto (-14), 3) := by decide +kernel
theorem dX10_tenThousands_21 : decode cX10_tenThousands 21 = .ok (.lload_n 1, 1) := by decide +kernel
theorem dX10_tenThousands_22 : decode cX10_tenThousands 22 = .ok (.lreturn, 1) := by decide +kernel
theorem dX10_judge_0 : decode cX10_judge 0 = .ok (.iload_n 1, 1) := by decide +kernel
theorem dX10_judge_1 : decode cX10_judge 1 = .ok (.i2l, 1) := by decide +kernel
theorem dX10_judge_2 : decode cX10_judge 2 = .ok (.lconst 1, 1) := by decide +kernel
theorem dX10_judge_3 : decode cX10_judge 3 = .ok (.ldc2_w 231, 3) := by decide +kernel
theorem dX10_judge_6 : decode cX10_judge 6 = .ok (.invokestatic 53, 3) := by decide +kernel
theorem dX10_judge_9 : decode cX10_judge 9 = .ok (.ifCond .eq 17, 3) := by decide +kernel
theorem dX10_judge_12 : decode cX10_judge 12 = .ok (.lload_n 2, 1) := by decide +kernel
theorem dX10_judge_13 : decode cX10_judge 13 = .ok (.lconst 0, 1) := by decide +kernel
theorem dX10_judge_14 : decode cX10_judge 14 = .ok (.iload_n 1, 1) := by decide +kernel
theorem dX10_judge_15 : decode cX10_judge 15 = .ok (.invokestatic 233, 3) := by decide +kernel
theorem dX10_judge_18 : decode cX10_judge 18 = .ok (.lconst 1, 1) := by decide +kernel
theorem dX10_judge_19 : decode cX10_judge 19 = .ok (.lsub, 1) := by decide +kernel
theorem dX10_judge_20 : decode cX10_judge 20 = .ok (.invokestatic 53, 3) := by decide +kernel
theorem dX10_judge_23 : decode cX10_judge 23 = .ok (.ifCond .ne 6, 3) := by decide +kernel
theorem dX10_judge_26 : decode cX10_judge 26 = .ok (.bipush (-2), 2) := by decide +kernel
theorem dX10_judge_28 : decode cX10_judge 28 = .ok (.ireturn, 1) := by decide +kernel
theorem dX10_judge_29 : decode cX10_judge 29 = .ok (.aload_n 0, 1) := by decide +kernel
theorem dX10_judge_30 : decode cX10_judge 30 = .ok (.getfield 13, 3) := by decide +kernel
theorem dX10_judge_33 : decode cX10_judge 33 = .ok (.aload_n 0, 1) := by decide +kernel
theorem dX10_judge_34 : decode cX10_judge 34 = .ok (.getfield 16, 3) := by decide +kernel
theorem dX10_judge_37 : decode cX10_judge 37 = .ok (.invokestatic 237, 3) := by decide +kernel
theorem dX10_judge_40 : decode cX10_judge 40 = .ok (.iconst 0, 1) := by decide +kernel
theorem dX10_judge_41 : decode cX10_judge 41 = .ok (.istore 4, 2) := by decide +kernel
theorem dX10_judge_43 : decode cX10_judge 43 = .ok (.iload 4, 2) := by decide +kernel
theorem dX10_judge_45 : decode cX10_judge 45 = .ok (.iload_n 1, 1) := by decide +kernel
theorem dX10_judge_46 : decode cX10_judge 46 = .ok (.if_icmp .ge 49, 3) := by decide +kernel
theorem dX10_judge_49 : decode cX10_judge 49 = .ok (.lload_n 2, 1) := by decide +kernel
theorem dX10_judge_50 : decode cX10_judge 50 = .ok (.iload_n 1, 1) := by decide +kernel
theorem dX10_judge_51 : decode cX10_judge 51 = .ok (.iconst 1, 1) := by decide +kernel
theorem dX10_judge_52 : decode cX10_judge 52 = .ok (.isub, 1) := by decide +kernel
theorem dX10_judge_53 : decode cX10_judge 53 = .ok (.iload 4, 2) := by decide +kernel
theorem dX10_judge_55 : decode cX10_judge 55 = .ok (.isub, 1) := by decide +kernel
theorem dX10_judge_56 : decode cX10_judge 56 = .ok (.invokestatic 233, 3) := by decide +kernel
theorem dX10_judge_59 : decode cX10_judge 59 = .ok (.ldiv, 1) := by decide +kernel
theorem dX10_judge_60 : decode cX10_judge 60 = .ok (.ldc2_w 229, 3) := by decide +kernel
theorem dX10_judge_63 : decode cX10_judge 63 = .ok (.lrem, 1) := by decide +kernel
theorem dX10_judge_64 : decode cX10_judge 64 = .ok (.l2i, 1) := by decide +kernel
theorem dX10_judge_65 : decode cX10_judge 65 = .ok (.istore 5, 2) := by decide +kernel
theorem dX10_judge_67 : decode cX10_judge 67 = .ok (.aload_n 0, 1) := by decide +kernel
theorem dX10_judge_68 : decode cX10_judge 68 = .ok (.iload 5, 2) := by decide +kernel
theorem dX10_judge_70 : decode cX10_judge 70 = .ok (.sipush 1000, 3) := by decide +kernel
theorem dX10_judge_73 : decode cX10_judge 73 = .ok (.idiv, 1) := by decide +kernel
theorem dX10_judge_74 : decode cX10_judge 74 = .ok (.iload 5, 2) := by decide +kernel
theorem dX10_judge_76 : decode cX10_judge 76 = .ok (.sipush 1000, 3) := by decide +kernel
theorem dX10_judge_79 : decode cX10_judge 79 = .ok (.irem, 1) := by decide +kernel
theorem dX10_judge_80 : decode cX10_judge 80 = .ok (.invokevirtual 241, 3) := by decide +kernel
theorem dX10_judge_83 : decode cX10_judge 83 = .ok (.ifCond .ne 6, 3) := by decide +kernel
theorem dX10_judge_86 : decode cX10_judge 86 = .ok (.iload 4, 2) := by decide +kernel
theorem dX10_judge_88 : decode cX10_judge 88 = .ok (.ireturn, 1) := by decide +kernel
theorem dX10_judge_89 : decode cX10_judge 89 = .ok (.iinc 4 1, 3) := by decide +kernel
theorem dX10_judge_92 : decode cX10_judge 92 = .ok (.goto (-49), 3) := by decide +kernel
theorem dX10_judge_95 : decode cX10_judge 95 = .ok (.bipush (-9), 2) := by decide +kernel
theorem dX10_judge_97 : decode cX10_judge 97 = .ok (.ireturn, 1) := by decide +kernel
theorem dX10_know_0 : decode cX10_know 0 = .ok (.iload_n 1, 1) := by decide +kernel
theorem dX10_know_1 : decode cX10_know 1 = .ok (.i2l, 1) := by decide +kernel
theorem dX10_know_2 : decode cX10_know 2 = .ok (.lconst 0, 1) := by decide +kernel
theorem dX10_know_3 : decode cX10_know 3 = .ok (.ldc2_w 72, 3) := by decide +kernel
theorem dX10_know_6 : decode cX10_know 6 = .ok (.invokestatic 53, 3) := by decide +kernel
theorem dX10_know_9 : decode cX10_know 9 = .ok (.ifCond .eq 15, 3) := by decide +kernel
theorem dX10_know_12 : decode cX10_know 12 = .ok (.iload_n 2, 1) := by decide +kernel
theorem dX10_know_13 : decode cX10_know 13 = .ok (.i2l, 1) := by decide +kernel
theorem dX10_know_14 : decode cX10_know 14 = .ok (.lconst 0, 1) := by decide +kernel
theorem dX10_know_15 : decode cX10_know 15 = .ok (.ldc2_w 57, 3) := by decide +kernel
theorem dX10_know_18 : decode cX10_know 18 = .ok (.invokestatic 53, 3) := by decide +kernel
theorem dX10_know_21 : decode cX10_know 21 = .ok (.ifCond .ne 6, 3) := by decide +kernel
theorem dX10_know_24 : decode cX10_know 24 = .ok (.bipush (-2), 2) := by decide +kernel
theorem dX10_know_26 : decode cX10_know 26 = .ok (.ireturn, 1) := by decide +kernel
theorem dX10_know_27 : decode cX10_know 27 = .ok (.aload_n 0, 1) := by decide +kernel
theorem dX10_know_28 : decode cX10_know 28 = .ok (.getfield 185, 3) := by decide +kernel
theorem dX10_know_31 : decode cX10_know 31 = .ok (.iconst 5, 1) := by decide +kernel
theorem dX10_know_32 : decode cX10_know 32 = .ok (.if_icmp .ne 6, 3) := by decide +kernel
theorem dX10_know_35 : decode cX10_know 35 = .ok (.bipush (-4), 2) := by decide +kernel
theorem dX10_know_37 : decode cX10_know 37 = .ok (.ireturn, 1) := by decide +kernel
theorem dX10_know_38 : decode cX10_know 38 = .ok (.aload_n 0, 1) := by decide +kernel
theorem dX10_know_39 : decode cX10_know 39 = .ok (.getfield 29, 3) := by decide +kernel
theorem dX10_know_42 : decode cX10_know 42 = .ok (.aload_n 0, 1) := by decide +kernel
theorem dX10_know_43 : decode cX10_know 43 = .ok (.getfield 185, 3) := by decide +kernel
theorem dX10_know_46 : decode cX10_know 46 = .ok (.iload_n 1, 1) := by decide +kernel
theorem dX10_know_47 : decode cX10_know 47 = .ok (.iastore, 1) := by decide +kernel
theorem dX10_know_48 : decode cX10_know 48 = .ok (.aload_n 0, 1) := by decide +kernel
theorem dX10_know_49 : decode cX10_know 49 = .ok (.getfield 32, 3) := by decide +kernel
theorem dX10_know_52 : decode cX10_know 52 = .ok (.aload_n 0, 1) := by decide +kernel
theorem dX10_know_53 : decode cX10_know 53 = .ok (.getfield 185, 3) := by decide +kernel
theorem dX10_know_56 : decode cX10_know 56 = .ok (.iload_n 2, 1) := by decide +kernel
theorem dX10_know_57 : decode cX10_know 57 = .ok (.iastore, 1) := by decide +kernel
theorem dX10_know_58 : decode cX10_know 58 = .ok (.aload_n 0, 1) := by decide +kernel
theorem dX10_know_59 : decode cX10_know 59 = .ok (.dup, 1) := by decide +kernel
theorem dX10_know_60 : decode cX10_know 60 = .ok (.getfield 185, 3) := by decide +kernel
theorem dX10_know_63 : decode cX10_know 63 = .ok (.iconst 1, 1) := by decide +kernel
theorem dX10_know_64 : decode cX10_know 64 = .ok (.iadd, 1) := by decide +kernel
theorem dX10_know_65 : decode cX10_know 65 = .ok (.putfield 185, 3) := by decide +kernel
theorem dX10_know_68 : decode cX10_know 68 = .ok (.aload_n 0, 1) := by decide +kernel
theorem dX10_know_69 : decode cX10_know 69 = .ok (.getfield 185, 3) := by decide +kernel
theorem dX10_know_72 : decode cX10_know 72 = .ok (.ireturn, 1) := by decide +kernel
theorem dX10_forget_0 : decode cX10_forget 0 = .ok (.aload_n 0, 1) := by decide +kernel
theorem dX10_forget_1 : decode cX10_forget 1 = .ok (.getfield 185, 3) := by decide +kernel
theorem dX10_forget_4 : decode cX10_forget 4 = .ok (.istore_n 1, 1) := by decide +kernel
theorem dX10_forget_5 : decode cX10_forget 5 = .ok (.aload_n 0, 1) := by decide +kernel
theorem dX10_forget_6 : decode cX10_forget 6 = .ok (.iconst 0, 1) := by decide +kernel
theorem dX10_forget_7 : decode cX10_forget 7 = .ok (.putfield 185, 3) := by decide +kernel
theorem dX10_forget_10 : decode cX10_forget 10 = .ok (.iload_n 1, 1) := by decide +kernel
theorem dX10_forget_11 : decode cX10_forget 11 = .ok (.ireturn, 1) := by decide +kernel
theorem dX10_share_0 : decode cX10_share 0 = .ok (.iload_n 1, 1) := by decide +kernel
theorem dX10_share_1 : decode cX10_share 1 = .ok (.i2l, 1) := by decide +kernel
theorem dX10_share_2 : decode cX10_share 2 = .ok (.lconst 0, 1) := by decide +kernel
theorem dX10_share_3 : decode cX10_share 3 = .ok (.aload_n 0, 1) := by decide +kernel
theorem dX10_share_4 : decode cX10_share 4 = .ok (.getfield 185, 3) := by decide +kernel
theorem dX10_share_7 : decode cX10_share 7 = .ok (.iconst 1, 1) := by decide +kernel
theorem dX10_share_8 : decode cX10_share 8 = .ok (.isub, 1) := by decide +kernel
theorem dX10_share_9 : decode cX10_share 9 = .ok (.i2l, 1) := by decide +kernel
theorem dX10_share_10 : decode cX10_share 10 = .ok (.invokestatic 53, 3) := by decide +kernel
theorem dX10_share_13 : decode cX10_share 13 = .ok (.ifCond .ne 5, 3) := by decide +kernel
theorem dX10_share_16 : decode cX10_share 16 = .ok (.iconst (-1), 1) := by decide +kernel
theorem dX10_share_17 : decode cX10_share 17 = .ok (.ireturn, 1) := by decide +kernel
theorem dX10_share_18 : decode cX10_share 18 = .ok (.iconst 0, 1) := by decide +kernel
theorem dX10_share_19 : decode cX10_share 19 = .ok (.istore_n 3, 1) := by decide +kernel
theorem dX10_share_20 : decode cX10_share 20 = .ok (.iload_n 3, 1) := by decide +kernel
theorem dX10_share_21 : decode cX10_share 21 = .ok (.iconst 1, 1) := by decide +kernel
theorem dX10_share_22 : decode cX10_share 22 = .ok (.aload_n 0, 1) := by decide +kernel
theorem dX10_share_23 : decode cX10_share 23 = .ok (.getfield 185, 3) := by decide +kernel
theorem dX10_share_26 : decode cX10_share 26 = .ok (.ishl, 1) := by decide +kernel
theorem dX10_share_27 : decode cX10_share 27 = .ok (.if_icmp .ge 21, 3) := by decide +kernel
theorem dX10_share_30 : decode cX10_share 30 = .ok (.aload_n 0, 1) := by decide +kernel
theorem dX10_share_31 : decode cX10_share 31 = .ok (.getfield 47, 3) := by decide +kernel
theorem dX10_share_34 : decode cX10_share 34 = .ok (.iload_n 3, 1) := by decide +kernel
theorem dX10_share_35 : decode cX10_share 35 = .ok (.aload_n 0, 1) := by decide +kernel
theorem dX10_share_36 : decode cX10_share 36 = .ok (.iload_n 3, 1) := by decide +kernel
theorem dX10_share_37 : decode cX10_share 37 = .ok (.iconst 0, 1) := by decide +kernel
theorem dX10_share_38 : decode cX10_share 38 = .ok (.invokevirtual 200, 3) := by decide +kernel
theorem dX10_share_41 : decode cX10_share 41 = .ok (.iastore, 1) := by decide +kernel
theorem dX10_share_42 : decode cX10_share 42 = .ok (.iinc 3 1, 3) := by decide +kernel
theorem dX10_share_45 : decode cX10_share 45 = .ok (.goto (-25), 3) := by decide +kernel
theorem dX10_share_48 : decode cX10_share 48 = .ok (.iconst 0, 1) := by decide +kernel
theorem dX10_share_49 : decode cX10_share 49 = .ok (.istore_n 3, 1) := by decide +kernel
theorem dX10_share_50 : decode cX10_share 50 = .ok (.iconst 0, 1) := by decide +kernel
theorem dX10_share_51 : decode cX10_share 51 = .ok (.istore 4, 2) := by decide +kernel
theorem dX10_share_53 : decode cX10_share 53 = .ok (.iload 4, 2) := by decide +kernel
theorem dX10_share_55 : decode cX10_share 55 = .ok (.iconst 1, 1) := by decide +kernel
theorem dX10_share_56 : decode cX10_share 56 = .ok (.aload_n 0, 1) := by decide +kernel
theorem dX10_share_57 : decode cX10_share 57 = .ok (.getfield 185, 3) := by decide +kernel
theorem dX10_share_60 : decode cX10_share 60 = .ok (.ishl, 1) := by decide +kernel
theorem dX10_share_61 : decode cX10_share 61 = .ok (.if_icmp .ge 66, 3) := by decide +kernel
theorem dX10_share_64 : decode cX10_share 64 = .ok (.iload 4, 2) := by decide +kernel
theorem dX10_share_66 : decode cX10_share 66 = .ok (.iload_n 1, 1) := by decide +kernel
theorem dX10_share_67 : decode cX10_share 67 = .ok (.ishr, 1) := by decide +kernel
theorem dX10_share_68 : decode cX10_share 68 = .ok (.iconst 1, 1) := by decide +kernel
theorem dX10_share_69 : decode cX10_share 69 = .ok (.iand, 1) := by decide +kernel
theorem dX10_share_70 : decode cX10_share 70 = .ok (.ifCond .ne 51, 3) := by decide +kernel
theorem dX10_share_73 : decode cX10_share 73 = .ok (.iload 4, 2) := by decide +kernel
theorem dX10_share_75 : decode cX10_share 75 = .ok (.invokestatic 245, 3) := by decide +kernel
theorem dX10_share_78 : decode cX10_share 78 = .ok (.istore 5, 2) := by decide +kernel
theorem dX10_share_80 : decode cX10_share 80 = .ok (.iload_n 3, 1) := by decide +kernel
theorem dX10_share_81 : decode cX10_share 81 = .ok (.iload 5, 2) := by decide +kernel
theorem dX10_share_83 : decode cX10_share 83 = .ok (.invokestatic 248, 3) := by decide +kernel
theorem dX10_share_86 : decode cX10_share 86 = .ok (.aload_n 0, 1) := by decide +kernel
theorem dX10_share_87 : decode cX10_share 87 = .ok (.getfield 185, 3) := by decide +kernel
theorem dX10_share_90 : decode cX10_share 90 = .ok (.iconst 1, 1) := by decide +kernel
theorem dX10_share_91 : decode cX10_share 91 = .ok (.isub, 1) := by decide +kernel
theorem dX10_share_92 : decode cX10_share 92 = .ok (.iload 5, 2) := by decide +kernel
theorem dX10_share_94 : decode cX10_share 94 = .ok (.isub, 1) := by decide +kernel
theorem dX10_share_95 : decode cX10_share 95 = .ok (.invokestatic 248, 3) := by decide +kernel
theorem dX10_share_98 : decode cX10_share 98 = .ok (.imul, 1) := by decide +kernel
theorem dX10_share_99 : decode cX10_share 99 = .ok (.aload_n 0, 1) := by decide +kernel
theorem dX10_share_100 : decode cX10_share 100 = .ok (.getfield 47, 3) := by decide +kernel
theorem dX10_share_103 : decode cX10_share 103 = .ok (.iload 4, 2) := by decide +kernel
theorem dX10_share_105 : decode cX10_share 105 = .ok (.iaload, 1) := by decide +kernel
theorem dX10_share_106 : decode cX10_share 106 = .ok (.aload_n 0, 1) := by decide +kernel
theorem dX10_share_107 : decode cX10_share 107 = .ok (.getfield 47, 3) := by decide +kernel
theorem dX10_share_110 : decode cX10_share 110 = .ok (.iload 4, 2) := by decide +kernel
theorem dX10_share_112 : decode cX10_share 112 = .ok (.iconst 1, 1) := by decide +kernel
theorem dX10_share_113 : decode cX10_share 113 = .ok (.iload_n 1, 1) := by decide +kernel
theorem dX10_share_114 : decode cX10_share 114 = .ok (.ishl, 1) := by decide +kernel
theorem dX10_share_115 : decode cX10_share 115 = .ok (.ior, 1) := by decide +kernel
theorem dX10_share_116 : decode cX10_share 116 = .ok (.iaload, 1) := by decide +kernel
theorem dX10_share_117 : decode cX10_share 117 = .ok (.isub, 1) := by decide +kernel
theorem dX10_share_118 : decode cX10_share 118 = .ok (.imul, 1) := by decide +kernel
theorem dX10_share_119 : decode cX10_share 119 = .ok (.iadd, 1) := by decide +kernel
theorem dX10_share_120 : decode cX10_share 120 = .ok (.istore_n 3, 1) := by decide +kernel
theorem dX10_share_121 : decode cX10_share 121 = .ok (.iinc 4 1, 3) := by decide +kernel
theorem dX10_share_124 : decode cX10_share 124 = .ok (.goto (-71), 3) := by decide +kernel
theorem dX10_share_127 : decode cX10_share 127 = .ok (.iload_n 3, 1) := by decide +kernel
theorem dX10_share_128 : decode cX10_share 128 = .ok (.aload_n 0, 1) := by decide +kernel
theorem dX10_share_129 : decode cX10_share 129 = .ok (.getfield 185, 3) := by decide +kernel
theorem dX10_share_132 : decode cX10_share 132 = .ok (.invokestatic 248, 3) := by decide +kernel
theorem dX10_share_135 : decode cX10_share 135 = .ok (.iload_n 2, 1) := by decide +kernel
theorem dX10_share_136 : decode cX10_share 136 = .ok (.invokestatic 251, 3) := by decide +kernel
theorem dX10_share_139 : decode cX10_share 139 = .ok (.ireturn, 1) := by decide +kernel
theorem dX10_flipSome_0 : decode cX10_flipSome 0 = .ok (.iconst 0, 1) := by decide +kernel
theorem dX10_flipSome_1 : decode cX10_flipSome 1 = .ok (.istore_n 2, 1) := by decide +kernel
theorem dX10_flipSome_2 : decode cX10_flipSome 2 = .ok (.aload_n 0, 1) := by decide +kernel
theorem dX10_flipSome_3 : decode cX10_flipSome 3 = .ok (.getfield 13, 3) := by decide +kernel
theorem dX10_flipSome_6 : decode cX10_flipSome 6 = .ok (.aload_n 0, 1) := by decide +kernel
theorem dX10_flipSome_7 : decode cX10_flipSome 7 = .ok (.getfield 16, 3) := by decide +kernel
theorem dX10_flipSome_10 : decode cX10_flipSome 10 = .ok (.invokestatic 237, 3) := by decide +kernel
theorem dX10_flipSome_13 : decode cX10_flipSome 13 = .ok (.iconst 1, 1) := by decide +kernel
theorem dX10_flipSome_14 : decode cX10_flipSome 14 = .ok (.istore_n 3, 1) := by decide +kernel
theorem dX10_flipSome_15 : decode cX10_flipSome 15 = .ok (.iload_n 3, 1) := by decide +kernel
theorem dX10_flipSome_16 : decode cX10_flipSome 16 = .ok (.aload_n 0, 1) := by decide +kernel
theorem dX10_flipSome_17 : decode cX10_flipSome 17 = .ok (.getfield 13, 3) := by decide +kernel
theorem dX10_flipSome_20 : decode cX10_flipSome 20 = .ok (.sipush 360, 3) := by decide +kernel
theorem dX10_flipSome_23 : decode cX10_flipSome 23 = .ok (.iaload, 1) := by decide +kernel
theorem dX10_flipSome_24 : decode cX10_flipSome 24 = .ok (.if_icmp .ge 67, 3) := by decide +kernel
theorem dX10_flipSome_27 : decode cX10_flipSome 27 = .ok (.aload_n 0, 1) := by decide +kernel
theorem dX10_flipSome_28 : decode cX10_flipSome 28 = .ok (.getfield 13, 3) := by decide +kernel
theorem dX10_flipSome_31 : decode cX10_flipSome 31 = .ok (.iload_n 3, 1) := by decide +kernel
theorem dX10_flipSome_32 : decode cX10_flipSome 32 = .ok (.iaload, 1) := by decide +kernel
theorem dX10_flipSome_33 : decode cX10_flipSome 33 = .ok (.aload_n 0, 1) := by decide +kernel
theorem dX10_flipSome_34 : decode cX10_flipSome 34 = .ok (.getfield 13, 3) := by decide +kernel
theorem dX10_flipSome_37 : decode cX10_flipSome 37 = .ok (.iload_n 3, 1) := by decide +kernel
theorem dX10_flipSome_38 : decode cX10_flipSome 38 = .ok (.iconst 1, 1) := by decide +kernel
theorem dX10_flipSome_39 : decode cX10_flipSome 39 = .ok (.isub, 1) := by decide +kernel
theorem dX10_flipSome_40 : decode cX10_flipSome 40 = .ok (.iaload, 1) := by decide +kernel
theorem dX10_flipSome_41 : decode cX10_flipSome 41 = .ok (.if_icmp .eq 44, 3) := by decide +kernel
theorem dX10_flipSome_44 : decode cX10_flipSome 44 = .ok (.aload_n 0, 1) := by decide +kernel
theorem dX10_flipSome_45 : decode cX10_flipSome 45 = .ok (.getfield 16, 3) := by decide +kernel
theorem dX10_flipSome_48 : decode cX10_flipSome 48 = .ok (.iload_n 3, 1) := by decide +kernel
theorem dX10_flipSome_49 : decode cX10_flipSome 49 = .ok (.iload_n 2, 1) := by decide +kernel
theorem dX10_flipSome_50 : decode cX10_flipSome 50 = .ok (.bipush 6, 2) := by decide +kernel
theorem dX10_flipSome_52 : decode cX10_flipSome 52 = .ok (.if_icmp .ge 23, 3) := by decide +kernel
theorem dX10_flipSome_55 : decode cX10_flipSome 55 = .ok (.iload_n 1, 1) := by decide +kernel
theorem dX10_flipSome_56 : decode cX10_flipSome 56 = .ok (.iload_n 2, 1) := by decide +kernel
theorem dX10_flipSome_57 : decode cX10_flipSome 57 = .ok (.ishr, 1) := by decide +kernel
theorem dX10_flipSome_58 : decode cX10_flipSome 58 = .ok (.iconst 1, 1) := by decide +kernel
theorem dX10_flipSome_59 : decode cX10_flipSome 59 = .ok (.iand, 1) := by decide +kernel
theorem dX10_flipSome_60 : decode cX10_flipSome 60 = .ok (.iconst 1, 1) := by decide +kernel
theorem dX10_flipSome_61 : decode cX10_flipSome 61 = .ok (.if_icmp .ne 14, 3) := by decide +kernel
theorem dX10_flipSome_64 : decode cX10_flipSome 64 = .ok (.iconst 1, 1) := by decide +kernel
theorem dX10_flipSome_65 : decode cX10_flipSome 65 = .ok (.aload_n 0, 1) := by decide +kernel
theorem dX10_flipSome_66 : decode cX10_flipSome 66 = .ok (.getfield 13, 3) := by decide +kernel
theorem dX10_flipSome_69 : decode cX10_flipSome 69 = .ok (.iload_n 3, 1) := by decide +kernel
theorem dX10_flipSome_70 : decode cX10_flipSome 70 = .ok (.iaload, 1) := by decide +kernel
theorem dX10_flipSome_71 : decode cX10_flipSome 71 = .ok (.isub, 1) := by decide +kernel
theorem dX10_flipSome_72 : decode cX10_flipSome 72 = .ok (.goto 9, 3) := by decide +kernel
theorem dX10_flipSome_75 : decode cX10_flipSome 75 = .ok (.aload_n 0, 1) := by decide +kernel
theorem dX10_flipSome_76 : decode cX10_flipSome 76 = .ok (.getfield 13, 3) := by decide +kernel
theorem dX10_flipSome_79 : decode cX10_flipSome 79 = .ok (.iload_n 3, 1) := by decide +kernel
theorem dX10_flipSome_80 : decode cX10_flipSome 80 = .ok (.iaload, 1) := by decide +kernel
theorem dX10_flipSome_81 : decode cX10_flipSome 81 = .ok (.iastore, 1) := by decide +kernel
theorem dX10_flipSome_82 : decode cX10_flipSome 82 = .ok (.iinc 2 1, 3) := by decide +kernel
theorem dX10_flipSome_85 : decode cX10_flipSome 85 = .ok (.iinc 3 1, 3) := by decide +kernel
theorem dX10_flipSome_88 : decode cX10_flipSome 88 = .ok (.goto (-73), 3) := by decide +kernel
theorem dX10_flipSome_91 : decode cX10_flipSome 91 = .ok (.return_, 1) := by decide +kernel
theorem dX10_chance_0 : decode cX10_chance 0 = .ok (.aload_n 0, 1) := by decide +kernel
theorem dX10_chance_1 : decode cX10_chance 1 = .ok (.iload_n 1, 1) := by decide +kernel
theorem dX10_chance_2 : decode cX10_chance 2 = .ok (.invokevirtual 152, 3) := by decide +kernel
theorem dX10_chance_5 : decode cX10_chance 5 = .ok (.ifCond .eq 27, 3) := by decide +kernel
theorem dX10_chance_8 : decode cX10_chance 8 = .ok (.iload_n 2, 1) := by decide +kernel
theorem dX10_chance_9 : decode cX10_chance 9 = .ok (.i2l, 1) := by decide +kernel
theorem dX10_chance_10 : decode cX10_chance 10 = .ok (.lconst 0, 1) := by decide +kernel
theorem dX10_chance_11 : decode cX10_chance 11 = .ok (.ldc2_w 255, 3) := by decide +kernel
theorem dX10_chance_14 : decode cX10_chance 14 = .ok (.invokestatic 53, 3) := by decide +kernel
theorem dX10_chance_17 : decode cX10_chance 17 = .ok (.ifCond .eq 15, 3) := by decide +kernel
theorem dX10_chance_20 : decode cX10_chance 20 = .ok (.iload_n 3, 1) := by decide +kernel
theorem dX10_chance_21 : decode cX10_chance 21 = .ok (.i2l, 1) := by decide +kernel
theorem dX10_chance_22 : decode cX10_chance 22 = .ok (.lconst 0, 1) := by decide +kernel
theorem dX10_chance_23 : decode cX10_chance 23 = .ok (.ldc2_w 257, 3) := by decide +kernel
theorem dX10_chance_26 : decode cX10_chance 26 = .ok (.invokestatic 53, 3) := by decide +kernel
theorem dX10_chance_29 : decode cX10_chance 29 = .ok (.ifCond .ne 6, 3) := by decide +kernel
theorem dX10_chance_32 : decode cX10_chance 32 = .ok (.bipush (-2), 2) := by decide +kernel
theorem dX10_chance_34 : decode cX10_chance 34 = .ok (.ireturn, 1) := by decide +kernel
theorem dX10_chance_35 : decode cX10_chance 35 = .ok (.aload_n 0, 1) := by decide +kernel
theorem dX10_chance_36 : decode cX10_chance 36 = .ok (.getfield 13, 3) := by decide +kernel
theorem dX10_chance_39 : decode cX10_chance 39 = .ok (.invokestatic 172, 3) := by decide +kernel
theorem dX10_chance_42 : decode cX10_chance 42 = .ok (.iload_n 2, 1) := by decide +kernel
theorem dX10_chance_43 : decode cX10_chance 43 = .ok (.if_icmp .ge 13, 3) := by decide +kernel
theorem dX10_chance_46 : decode cX10_chance 46 = .ok (.aload_n 0, 1) := by decide +kernel
theorem dX10_chance_47 : decode cX10_chance 47 = .ok (.getfield 13, 3) := by decide +kernel
theorem dX10_chance_50 : decode cX10_chance 50 = .ok (.invokestatic 172, 3) := by decide +kernel
theorem dX10_chance_53 : decode cX10_chance 53 = .ok (.goto 4, 3) := by decide +kernel
theorem dX10_chance_56 : decode cX10_chance 56 = .ok (.iload_n 2, 1) := by decide +kernel
theorem dX10_chance_57 : decode cX10_chance 57 = .ok (.istore 5, 2) := by decide +kernel
theorem dX10_chance_59 : decode cX10_chance 59 = .ok (.iconst 0, 1) := by decide +kernel
theorem dX10_chance_60 : decode cX10_chance 60 = .ok (.istore 6, 2) := by decide +kernel
theorem dX10_chance_62 : decode cX10_chance 62 = .ok (.iconst 0, 1) := by decide +kernel
theorem dX10_chance_63 : decode cX10_chance 63 = .ok (.istore 7, 2) := by decide +kernel
theorem dX10_chance_65 : decode cX10_chance 65 = .ok (.iload 7, 2) := by decide +kernel
theorem dX10_chance_67 : decode cX10_chance 67 = .ok (.iconst 1, 1) := by decide +kernel
theorem dX10_chance_68 : decode cX10_chance 68 = .ok (.iload 5, 2) := by decide +kernel
theorem dX10_chance_70 : decode cX10_chance 70 = .ok (.ishl, 1) := by decide +kernel
theorem dX10_chance_71 : decode cX10_chance 71 = .ok (.if_icmp .ge 64, 3) := by decide +kernel
theorem dX10_chance_74 : decode cX10_chance 74 = .ok (.aload_n 0, 1) := by decide +kernel
theorem dX10_chance_75 : decode cX10_chance 75 = .ok (.iload 7, 2) := by decide +kernel
theorem dX10_chance_77 : decode cX10_chance 77 = .ok (.invokevirtual 259, 3) := by decide +kernel
theorem dX10_chance_80 : decode cX10_chance 80 = .ok (.aload_n 0, 1) := by decide +kernel
theorem dX10_chance_81 : decode cX10_chance 81 = .ok (.aload_n 0, 1) := by decide +kernel
theorem dX10_chance_82 : decode cX10_chance 82 = .ok (.getfield 16, 3) := by decide +kernel
theorem dX10_chance_85 : decode cX10_chance 85 = .ok (.invokevirtual 155, 3) := by decide +kernel
theorem dX10_chance_88 : decode cX10_chance 88 = .ok (.iload 6, 2) := by decide +kernel
theorem dX10_chance_90 : decode cX10_chance 90 = .ok (.aload_n 0, 1) := by decide +kernel
theorem dX10_chance_91 : decode cX10_chance 91 = .ok (.invokevirtual 158, 3) := by decide +kernel
theorem dX10_chance_94 : decode cX10_chance 94 = .ok (.ifCond .eq 31, 3) := by decide +kernel
theorem dX10_chance_97 : decode cX10_chance 97 = .ok (.iload_n 3, 1) := by decide +kernel
theorem dX10_chance_98 : decode cX10_chance 98 = .ok (.iload 7, 2) := by decide +kernel
theorem dX10_chance_100 : decode cX10_chance 100 = .ok (.invokestatic 245, 3) := by decide +kernel
theorem dX10_chance_103 : decode cX10_chance 103 = .ok (.invokestatic 263, 3) := by decide +kernel
theorem dX10_chance_106 : decode cX10_chance 106 = .ok (.bipush 10, 2) := by decide +kernel
theorem dX10_chance_108 : decode cX10_chance 108 = .ok (.iload_n 3, 1) := by decide +kernel
theorem dX10_chance_109 : decode cX10_chance 109 = .ok (.isub, 1) := by decide +kernel
theorem dX10_chance_110 : decode cX10_chance 110 = .ok (.iload 5, 2) := by decide +kernel
theorem dX10_chance_112 : decode cX10_chance 112 = .ok (.iload 7, 2) := by decide +kernel
theorem dX10_chance_114 : decode cX10_chance 114 = .ok (.invokestatic 245, 3) := by decide +kernel
theorem dX10_chance_117 : decode cX10_chance 117 = .ok (.isub, 1) := by decide +kernel
theorem dX10_chance_118 : decode cX10_chance 118 = .ok (.invokestatic 263, 3) := by decide +kernel
theorem dX10_chance_121 : decode cX10_chance 121 = .ok (.imul, 1) := by decide +kernel
theorem dX10_chance_122 : decode cX10_chance 122 = .ok (.goto 4, 3) := by decide +kernel
theorem dX10_chance_125 : decode cX10_chance 125 = .ok (.iconst 0, 1) := by decide +kernel
theorem dX10_chance_126 : decode cX10_chance 126 = .ok (.iadd, 1) := by decide +kernel
theorem dX10_chance_127 : decode cX10_chance 127 = .ok (.istore 6, 2) := by decide +kernel
theorem dX10_chance_129 : decode cX10_chance 129 = .ok (.iinc 7 1, 3) := by decide +kernel
theorem dX10_chance_132 : decode cX10_chance 132 = .ok (.goto (-67), 3) := by decide +kernel
theorem dX10_chance_135 : decode cX10_chance 135 = .ok (.iload 6, 2) := by decide +kernel
theorem dX10_chance_137 : decode cX10_chance 137 = .ok (.bipush 10, 2) := by decide +kernel
theorem dX10_chance_139 : decode cX10_chance 139 = .ok (.iload 5, 2) := by decide +kernel
theorem dX10_chance_141 : decode cX10_chance 141 = .ok (.invokestatic 263, 3) := by decide +kernel
theorem dX10_chance_144 : decode cX10_chance 144 = .ok (.iload 4, 2) := by decide +kernel
theorem dX10_chance_146 : decode cX10_chance 146 = .ok (.invokestatic 251, 3) := by decide +kernel
theorem dX10_chance_149 : decode cX10_chance 149 = .ok (.ireturn, 1) := by decide +kernel
theorem dX10_seed_0 : decode cX10_seed 0 = .ok (.aload_n 0, 1) := by decide +kernel
theorem dX10_seed_1 : decode cX10_seed 1 = .ok (.getfield 266, 3) := by decide +kernel
theorem dX10_seed_4 : decode cX10_seed 4 = .ok (.lstore_n 3, 1) := by decide +kernel
theorem dX10_seed_5 : decode cX10_seed 5 = .ok (.aload_n 0, 1) := by decide +kernel
theorem dX10_seed_6 : decode cX10_seed 6 = .ok (.lload_n 1, 1) := by decide +kernel
theorem dX10_seed_7 : decode cX10_seed 7 = .ok (.putfield 266, 3) := by decide +kernel
theorem dX10_seed_10 : decode cX10_seed 10 = .ok (.lload_n 3, 1) := by decide +kernel
theorem dX10_seed_11 : decode cX10_seed 11 = .ok (.lreturn, 1) := by decide +kernel
theorem dX10_drawn_0 : decode cX10_drawn 0 = .ok (.aload_n 0, 1) := by decide +kernel
theorem dX10_drawn_1 : decode cX10_drawn 1 = .ok (.iload_n 1, 1) := by decide +kernel
theorem dX10_drawn_2 : decode cX10_drawn 2 = .ok (.invokevirtual 152, 3) := by decide +kernel
theorem dX10_drawn_5 : decode cX10_drawn 5 = .ok (.ifCond .eq 15, 3) := by decide +kernel
theorem dX10_drawn_8 : decode cX10_drawn 8 = .ok (.iload_n 2, 1) := by decide +kernel
theorem dX10_drawn_9 : decode cX10_drawn 9 = .ok (.i2l, 1) := by decide +kernel
theorem dX10_drawn_10 : decode cX10_drawn 10 = .ok (.lconst 1, 1) := by decide +kernel
theorem dX10_drawn_11 : decode cX10_drawn 11 = .ok (.ldc2_w 257, 3) := by decide +kernel
theorem dX10_drawn_14 : decode cX10_drawn 14 = .ok (.invokestatic 53, 3) := by decide +kernel
theorem dX10_drawn_17 : decode cX10_drawn 17 = .ok (.ifCond .ne 6, 3) := by decide +kernel
theorem dX10_drawn_20 : decode cX10_drawn 20 = .ok (.bipush (-2), 2) := by decide +kernel
theorem dX10_drawn_22 : decode cX10_drawn 22 = .ok (.ireturn, 1) := by decide +kernel
theorem dX10_drawn_23 : decode cX10_drawn 23 = .ok (.aload_n 0, 1) := by decide +kernel
theorem dX10_drawn_24 : decode cX10_drawn 24 = .ok (.getfield 13, 3) := by decide +kernel
theorem dX10_drawn_27 : decode cX10_drawn 27 = .ok (.aload_n 0, 1) := by decide +kernel
theorem dX10_drawn_28 : decode cX10_drawn 28 = .ok (.getfield 16, 3) := by decide +kernel
theorem dX10_drawn_31 : decode cX10_drawn 31 = .ok (.invokestatic 237, 3) := by decide +kernel
theorem dX10_drawn_34 : decode cX10_drawn 34 = .ok (.iconst 0, 1) := by decide +kernel
theorem dX10_drawn_35 : decode cX10_drawn 35 = .ok (.istore_n 3, 1) := by decide +kernel
theorem dX10_drawn_36 : decode cX10_drawn 36 = .ok (.iconst 0, 1) := by decide +kernel
theorem dX10_drawn_37 : decode cX10_drawn 37 = .ok (.istore 4, 2) := by decide +kernel
theorem dX10_drawn_39 : decode cX10_drawn 39 = .ok (.iload 4, 2) := by decide +kernel
theorem dX10_drawn_41 : decode cX10_drawn 41 = .ok (.iload_n 2, 1) := by decide +kernel
theorem dX10_drawn_42 : decode cX10_drawn 42 = .ok (.if_icmp .ge 126, 3) := by decide +kernel
theorem dX10_drawn_45 : decode cX10_drawn 45 = .ok (.aload_n 0, 1) := by decide +kernel
theorem dX10_drawn_46 : decode cX10_drawn 46 = .ok (.aload_n 0, 1) := by decide +kernel
theorem dX10_drawn_47 : decode cX10_drawn 47 = .ok (.getfield 266, 3) := by decide +kernel
theorem dX10_drawn_50 : decode cX10_drawn 50 = .ok (.ldc2_w 270, 3) := by decide +kernel
theorem dX10_drawn_53 : decode cX10_drawn 53 = .ok (.lmul, 1) := by decide +kernel
theorem dX10_drawn_54 : decode cX10_drawn 54 = .ok (.ldc2_w 272, 3) := by decide +kernel
theorem dX10_drawn_57 : decode cX10_drawn 57 = .ok (.ladd, 1) := by decide +kernel
theorem dX10_drawn_58 : decode cX10_drawn 58 = .ok (.putfield 266, 3) := by decide +kernel
theorem dX10_drawn_61 : decode cX10_drawn 61 = .ok (.aload_n 0, 1) := by decide +kernel
theorem dX10_drawn_62 : decode cX10_drawn 62 = .ok (.getfield 266, 3) := by decide +kernel
theorem dX10_drawn_65 : decode cX10_drawn 65 = .ok (.bipush 33, 2) := by decide +kernel
theorem dX10_drawn_67 : decode cX10_drawn 67 = .ok (.lushr, 1) := by decide +kernel
theorem dX10_drawn_68 : decode cX10_drawn 68 = .ok (.l2i, 1) := by decide +kernel
theorem dX10_drawn_69 : decode cX10_drawn 69 = .ok (.istore 5, 2) := by decide +kernel
theorem dX10_drawn_71 : decode cX10_drawn 71 = .ok (.aload_n 0, 1) := by decide +kernel
theorem dX10_drawn_72 : decode cX10_drawn 72 = .ok (.aload_n 0, 1) := by decide +kernel
theorem dX10_drawn_73 : decode cX10_drawn 73 = .ok (.getfield 16, 3) := by decide +kernel
theorem dX10_drawn_76 : decode cX10_drawn 76 = .ok (.invokevirtual 216, 3) := by decide +kernel
theorem dX10_drawn_79 : decode cX10_drawn 79 = .ok (.ifCond .eq 17, 3) := by decide +kernel
theorem dX10_drawn_82 : decode cX10_drawn 82 = .ok (.aload_n 0, 1) := by decide +kernel
theorem dX10_drawn_83 : decode cX10_drawn 83 = .ok (.aload_n 0, 1) := by decide +kernel
theorem dX10_drawn_84 : decode cX10_drawn 84 = .ok (.getfield 16, 3) := by decide +kernel
theorem dX10_drawn_87 : decode cX10_drawn 87 = .ok (.iload 5, 2) := by decide +kernel
theorem dX10_drawn_89 : decode cX10_drawn 89 = .ok (.sipush 255, 3) := by decide +kernel
theorem dX10_drawn_92 : decode cX10_drawn 92 = .ok (.iand, 1) := by decide +kernel
theorem dX10_drawn_93 : decode cX10_drawn 93 = .ok (.invokevirtual 220, 3) := by decide +kernel
theorem dX10_drawn_96 : decode cX10_drawn 96 = .ok (.iload 5, 2) := by decide +kernel
theorem dX10_drawn_98 : decode cX10_drawn 98 = .ok (.sipush 256, 3) := by decide +kernel
theorem dX10_drawn_101 : decode cX10_drawn 101 = .ok (.idiv, 1) := by decide +kernel
theorem dX10_drawn_102 : decode cX10_drawn 102 = .ok (.sipush 400, 3) := by decide +kernel
theorem dX10_drawn_105 : decode cX10_drawn 105 = .ok (.irem, 1) := by decide +kernel
theorem dX10_drawn_106 : decode cX10_drawn 106 = .ok (.istore 6, 2) := by decide +kernel
theorem dX10_drawn_108 : decode cX10_drawn 108 = .ok (.aload_n 0, 1) := by decide +kernel
theorem dX10_drawn_109 : decode cX10_drawn 109 = .ok (.getfield 16, 3) := by decide +kernel
theorem dX10_drawn_112 : decode cX10_drawn 112 = .ok (.iload 6, 2) := by decide +kernel
theorem dX10_drawn_114 : decode cX10_drawn 114 = .ok (.invokestatic 117, 3) := by decide +kernel
theorem dX10_drawn_117 : decode cX10_drawn 117 = .ok (.ifCond .eq 30, 3) := by decide +kernel
theorem dX10_drawn_120 : decode cX10_drawn 120 = .ok (.iload 5, 2) := by decide +kernel
theorem dX10_drawn_122 : decode cX10_drawn 122 = .ok (.ldc_w 274, 3) := by decide +kernel
theorem dX10_drawn_125 : decode cX10_drawn 125 = .ok (.idiv, 1) := by decide +kernel
theorem dX10_drawn_126 : decode cX10_drawn 126 = .ok (.iconst 4, 1) := by decide +kernel
theorem dX10_drawn_127 : decode cX10_drawn 127 = .ok (.irem, 1) := by decide +kernel
theorem dX10_drawn_128 : decode cX10_drawn 128 = .ok (.ifCond .ne 19, 3) := by decide +kernel
theorem dX10_drawn_131 : decode cX10_drawn 131 = .ok (.aload_n 0, 1) := by decide +kernel
theorem dX10_drawn_132 : decode cX10_drawn 132 = .ok (.getfield 16, 3) := by decide +kernel
theorem dX10_drawn_135 : decode cX10_drawn 135 = .ok (.iload 6, 2) := by decide +kernel
theorem dX10_drawn_137 : decode cX10_drawn 137 = .ok (.iconst 1, 1) := by decide +kernel
theorem dX10_drawn_138 : decode cX10_drawn 138 = .ok (.aload_n 0, 1) := by decide +kernel
theorem dX10_drawn_139 : decode cX10_drawn 139 = .ok (.getfield 16, 3) := by decide +kernel
theorem dX10_drawn_142 : decode cX10_drawn 142 = .ok (.iload 6, 2) := by decide +kernel
theorem dX10_drawn_144 : decode cX10_drawn 144 = .ok (.iaload, 1) := by decide +kernel
theorem dX10_drawn_145 : decode cX10_drawn 145 = .ok (.isub, 1) := by decide +kernel
theorem dX10_drawn_146 : decode cX10_drawn 146 = .ok (.iastore, 1) := by decide +kernel
theorem dX10_drawn_147 : decode cX10_drawn 147 = .ok (.aload_n 0, 1) := by decide +kernel
theorem dX10_drawn_148 : decode cX10_drawn 148 = .ok (.aload_n 0, 1) := by decide +kernel
theorem dX10_drawn_149 : decode cX10_drawn 149 = .ok (.getfield 16, 3) := by decide +kernel
theorem dX10_drawn_152 : decode cX10_drawn 152 = .ok (.invokevirtual 155, 3) := by decide +kernel
theorem dX10_drawn_155 : decode cX10_drawn 155 = .ok (.iload_n 3, 1) := by decide +kernel
theorem dX10_drawn_156 : decode cX10_drawn 156 = .ok (.aload_n 0, 1) := by decide +kernel
theorem dX10_drawn_157 : decode cX10_drawn 157 = .ok (.getfield 125, 3) := by decide +kernel
theorem dX10_drawn_160 : decode cX10_drawn 160 = .ok (.iadd, 1) := by decide +kernel
theorem dX10_drawn_161 : decode cX10_drawn 161 = .ok (.istore_n 3, 1) := by decide +kernel
theorem dX10_drawn_162 : decode cX10_drawn 162 = .ok (.iinc 4 1, 3) := by decide +kernel
theorem dX10_drawn_165 : decode cX10_drawn 165 = .ok (.goto (-126), 3) := by decide +kernel
theorem dX10_drawn_168 : decode cX10_drawn 168 = .ok (.iload_n 3, 1) := by decide +kernel
theorem dX10_drawn_169 : decode cX10_drawn 169 = .ok (.ireturn, 1) := by decide +kernel
theorem dX10_keep_0 : decode cX10_keep 0 = .ok (.iload_n 1, 1) := by decide +kernel
theorem dX10_keep_1 : decode cX10_keep 1 = .ok (.i2l, 1) := by decide +kernel
theorem dX10_keep_2 : decode cX10_keep 2 = .ok (.lconst 0, 1) := by decide +kernel
theorem dX10_keep_3 : decode cX10_keep 3 = .ok (.lconst 1, 1) := by decide +kernel
theorem dX10_keep_4 : decode cX10_keep 4 = .ok (.invokestatic 53, 3) := by decide +kernel
theorem dX10_keep_7 : decode cX10_keep 7 = .ok (.ifCond .ne 5, 3) := by decide +kernel
theorem dX10_keep_10 : decode cX10_keep 10 = .ok (.iconst (-1), 1) := by decide +kernel
theorem dX10_keep_11 : decode cX10_keep 11 = .ok (.ireturn, 1) := by decide +kernel
theorem dX10_keep_12 : decode cX10_keep 12 = .ok (.aload_n 0, 1) := by decide +kernel
theorem dX10_keep_13 : decode cX10_keep 13 = .ok (.getfield 25, 3) := by decide +kernel
theorem dX10_keep_16 : decode cX10_keep 16 = .ok (.iload_n 1, 1) := by decide +kernel
theorem dX10_keep_17 : decode cX10_keep 17 = .ok (.iconst 1, 1) := by decide +kernel
theorem dX10_keep_18 : decode cX10_keep 18 = .ok (.bastore, 1) := by decide +kernel
theorem dX10_keep_19 : decode cX10_keep 19 = .ok (.iconst 0, 1) := by decide +kernel
theorem dX10_keep_20 : decode cX10_keep 20 = .ok (.istore_n 2, 1) := by decide +kernel
theorem dX10_keep_21 : decode cX10_keep 21 = .ok (.iload_n 2, 1) := by decide +kernel
theorem dX10_keep_22 : decode cX10_keep 22 = .ok (.sipush 361, 3) := by decide +kernel
theorem dX10_keep_25 : decode cX10_keep 25 = .ok (.if_icmp .ge 27, 3) := by decide +kernel
theorem dX10_keep_28 : decode cX10_keep 28 = .ok (.aload_n 0, 1) := by decide +kernel
theorem dX10_keep_29 : decode cX10_keep 29 = .ok (.getfield 22, 3) := by decide +kernel
theorem dX10_keep_32 : decode cX10_keep 32 = .ok (.sipush 361, 3) := by decide +kernel
theorem dX10_keep_35 : decode cX10_keep 35 = .ok (.iload_n 1, 1) := by decide +kernel
theorem dX10_keep_36 : decode cX10_keep 36 = .ok (.imul, 1) := by decide +kernel
theorem dX10_keep_37 : decode cX10_keep 37 = .ok (.iload_n 2, 1) := by decide +kernel
theorem dX10_keep_38 : decode cX10_keep 38 = .ok (.iadd, 1) := by decide +kernel
theorem dX10_keep_39 : decode cX10_keep 39 = .ok (.aload_n 0, 1) := by decide +kernel
theorem dX10_keep_40 : decode cX10_keep 40 = .ok (.getfield 13, 3) := by decide +kernel
theorem dX10_keep_43 : decode cX10_keep 43 = .ok (.iload_n 2, 1) := by decide +kernel
theorem dX10_keep_44 : decode cX10_keep 44 = .ok (.iaload, 1) := by decide +kernel
theorem dX10_keep_45 : decode cX10_keep 45 = .ok (.iastore, 1) := by decide +kernel
theorem dX10_keep_46 : decode cX10_keep 46 = .ok (.iinc 2 1, 3) := by decide +kernel
theorem dX10_keep_49 : decode cX10_keep 49 = .ok (.goto (-28), 3) := by decide +kernel
theorem dX10_keep_52 : decode cX10_keep 52 = .ok (.aload_n 0, 1) := by decide +kernel
theorem dX10_keep_53 : decode cX10_keep 53 = .ok (.getfield 13, 3) := by decide +kernel
theorem dX10_keep_56 : decode cX10_keep 56 = .ok (.sipush 360, 3) := by decide +kernel
theorem dX10_keep_59 : decode cX10_keep 59 = .ok (.iaload, 1) := by decide +kernel
theorem dX10_keep_60 : decode cX10_keep 60 = .ok (.ireturn, 1) := by decide +kernel
theorem dX10_again_0 : decode cX10_again 0 = .ok (.iload_n 1, 1) := by decide +kernel
theorem dX10_again_1 : decode cX10_again 1 = .ok (.i2l, 1) := by decide +kernel
theorem dX10_again_2 : decode cX10_again 2 = .ok (.lconst 0, 1) := by decide +kernel
theorem dX10_again_3 : decode cX10_again 3 = .ok (.lconst 1, 1) := by decide +kernel
theorem dX10_again_4 : decode cX10_again 4 = .ok (.invokestatic 53, 3) := by decide +kernel
theorem dX10_again_7 : decode cX10_again 7 = .ok (.ifCond .ne 5, 3) := by decide +kernel
theorem dX10_again_10 : decode cX10_again 10 = .ok (.iconst (-1), 1) := by decide +kernel
theorem dX10_again_11 : decode cX10_again 11 = .ok (.ireturn, 1) := by decide +kernel
theorem dX10_again_12 : decode cX10_again 12 = .ok (.aload_n 0, 1) := by decide +kernel
theorem dX10_again_13 : decode cX10_again 13 = .ok (.getfield 25, 3) := by decide +kernel
theorem dX10_again_16 : decode cX10_again 16 = .ok (.iload_n 1, 1) := by decide +kernel
theorem dX10_again_17 : decode cX10_again 17 = .ok (.baload, 1) := by decide +kernel
theorem dX10_again_18 : decode cX10_again 18 = .ok (.ifCond .ne 6, 3) := by decide +kernel
theorem dX10_again_21 : decode cX10_again 21 = .ok (.bipush (-3), 2) := by decide +kernel
theorem dX10_again_23 : decode cX10_again 23 = .ok (.ireturn, 1) := by decide +kernel
theorem dX10_again_24 : decode cX10_again 24 = .ok (.iconst 0, 1) := by decide +kernel
theorem dX10_again_25 : decode cX10_again 25 = .ok (.istore_n 2, 1) := by decide +kernel
theorem dX10_again_26 : decode cX10_again 26 = .ok (.iload_n 2, 1) := by decide +kernel
theorem dX10_again_27 : decode cX10_again 27 = .ok (.sipush 361, 3) := by decide +kernel
theorem dX10_again_30 : decode cX10_again 30 = .ok (.if_icmp .ge 27, 3) := by decide +kernel
theorem dX10_again_33 : decode cX10_again 33 = .ok (.aload_n 0, 1) := by decide +kernel
theorem dX10_again_34 : decode cX10_again 34 = .ok (.getfield 13, 3) := by decide +kernel
theorem dX10_again_37 : decode cX10_again 37 = .ok (.iload_n 2, 1) := by decide +kernel
theorem dX10_again_38 : decode cX10_again 38 = .ok (.aload_n 0, 1) := by decide +kernel
theorem dX10_again_39 : decode cX10_again 39 = .ok (.getfield 22, 3) := by decide +kernel
theorem dX10_again_42 : decode cX10_again 42 = .ok (.sipush 361, 3) := by decide +kernel
theorem dX10_again_45 : decode cX10_again 45 = .ok (.iload_n 1, 1) := by decide +kernel
theorem dX10_again_46 : decode cX10_again 46 = .ok (.imul, 1) := by decide +kernel
theorem dX10_again_47 : decode cX10_again 47 = .ok (.iload_n 2, 1) := by decide +kernel
theorem dX10_again_48 : decode cX10_again 48 = .ok (.iadd, 1) := by decide +kernel
theorem dX10_again_49 : decode cX10_again 49 = .ok (.iaload, 1) := by decide +kernel
theorem dX10_again_50 : decode cX10_again 50 = .ok (.iastore, 1) := by decide +kernel
theorem dX10_again_51 : decode cX10_again 51 = .ok (.iinc 2 1, 3) := by decide +kernel
theorem dX10_again_54 : decode cX10_again 54 = .ok (.goto (-28), 3) := by decide +kernel
theorem dX10_again_57 : decode cX10_again 57 = .ok (.aload_n 0, 1) := by decide +kernel
theorem dX10_again_58 : decode cX10_again 58 = .ok (.iconst 0, 1) := by decide +kernel
theorem dX10_again_59 : decode cX10_again 59 = .ok (.putfield 85, 3) := by decide +kernel
theorem dX10_again_62 : decode cX10_again 62 = .ok (.aload_n 0, 1) := by decide +kernel
theorem dX10_again_63 : decode cX10_again 63 = .ok (.getfield 13, 3) := by decide +kernel
theorem dX10_again_66 : decode cX10_again 66 = .ok (.sipush 360, 3) := by decide +kernel
theorem dX10_again_69 : decode cX10_again 69 = .ok (.iaload, 1) := by decide +kernel
theorem dX10_again_70 : decode cX10_again 70 = .ok (.ireturn, 1) := by decide +kernel
