theorem dX9_init_0 : decode cX9_init 0 = .ok (.aload_n 0, 1) := by decide +kernel
theorem dX9_init_1 : decode cX9_init 1 = .ok (.invokespecial 1, 3) := by decide +kernel
theorem dX9_init_4 : decode cX9_init 4 = .ok (.aload_n 0, 1) := by decide +kernel
theorem dX9_init_5 : decode cX9_init 5 = .ok (.new 7, 3) := by decide +kernel
theorem dX9_init_8 : decode cX9_init 8 = .ok (.dup, 1) := by decide +kernel
theorem dX9_init_9 : decode cX9_init 9 = .ok (.invokespecial 9, 3) := by decide +kernel
theorem dX9_init_12 : decode cX9_init 12 = .ok (.putfield 10, 3) := by decide +kernel
theorem dX9_init_15 : decode cX9_init 15 = .ok (.aload_n 0, 1) := by decide +kernel
theorem dX9_init_16 : decode cX9_init 16 = .ok (.new 16, 3) := by decide +kernel
theorem dX9_init_19 : decode cX9_init 19 = .ok (.dup, 1) := by decide +kernel
theorem dX9_init_20 : decode cX9_init 20 = .ok (.invokespecial 18, 3) := by decide +kernel
theorem dX9_init_23 : decode cX9_init 23 = .ok (.putfield 19, 3) := by decide +kernel
theorem dX9_init_26 : decode cX9_init 26 = .ok (.aload_n 0, 1) := by decide +kernel
theorem dX9_init_27 : decode cX9_init 27 = .ok (.new 16, 3) := by decide +kernel
theorem dX9_init_30 : decode cX9_init 30 = .ok (.dup, 1) := by decide +kernel
theorem dX9_init_31 : decode cX9_init 31 = .ok (.invokespecial 18, 3) := by decide +kernel
theorem dX9_init_34 : decode cX9_init 34 = .ok (.putfield 23, 3) := by decide +kernel
theorem dX9_init_37 : decode cX9_init 37 = .ok (.aload_n 0, 1) := by decide +kernel
theorem dX9_init_38 : decode cX9_init 38 = .ok (.new 26, 3) := by decide +kernel
theorem dX9_init_41 : decode cX9_init 41 = .ok (.dup, 1) := by decide +kernel
theorem dX9_init_42 : decode cX9_init 42 = .ok (.invokespecial 28, 3) := by decide +kernel
theorem dX9_init_45 : decode cX9_init 45 = .ok (.putfield 29, 3) := by decide +kernel
theorem dX9_init_48 : decode cX9_init 48 = .ok (.aload_n 0, 1) := by decide +kernel
theorem dX9_init_49 : decode cX9_init 49 = .ok (.new 33, 3) := by decide +kernel
theorem dX9_init_52 : decode cX9_init 52 = .ok (.dup, 1) := by decide +kernel
theorem dX9_init_53 : decode cX9_init 53 = .ok (.invokespecial 35, 3) := by decide +kernel
theorem dX9_init_56 : decode cX9_init 56 = .ok (.putfield 36, 3) := by decide +kernel
theorem dX9_init_59 : decode cX9_init 59 = .ok (.aload_n 0, 1) := by decide +kernel
theorem dX9_init_60 : decode cX9_init 60 = .ok (.new 40, 3) := by decide +kernel
theorem dX9_init_63 : decode cX9_init 63 = .ok (.dup, 1) := by decide +kernel
theorem dX9_init_64 : decode cX9_init 64 = .ok (.invokespecial 42, 3) := by decide +kernel
theorem dX9_init_67 : decode cX9_init 67 = .ok (.putfield 43, 3) := by decide +kernel
theorem dX9_init_70 : decode cX9_init 70 = .ok (.aload_n 0, 1) := by decide +kernel
theorem dX9_init_71 : decode cX9_init 71 = .ok (.new 47, 3) := by decide +kernel
theorem dX9_init_74 : decode cX9_init 74 = .ok (.dup, 1) := by decide +kernel
theorem dX9_init_75 : decode cX9_init 75 = .ok (.invokespecial 49, 3) := by decide +kernel
theorem dX9_init_78 : decode cX9_init 78 = .ok (.putfield 50, 3) := by decide +kernel
theorem dX9_init_81 : decode cX9_init 81 = .ok (.aload_n 0, 1) := by decide +kernel
theorem dX9_init_82 : decode cX9_init 82 = .ok (.new 54, 3) := by decide +kernel
theorem dX9_init_85 : decode cX9_init 85 = .ok (.dup, 1) := by decide +kernel
theorem dX9_init_86 : decode cX9_init 86 = .ok (.invokespecial 56, 3) := by decide +kernel
theorem dX9_init_89 : decode cX9_init 89 = .ok (.putfield 57, 3) := by decide +kernel
theorem dX9_init_92 : decode cX9_init 92 = .ok (.aload_n 0, 1) := by decide +kernel
theorem dX9_init_93 : decode cX9_init 93 = .ok (.new 61, 3) := by decide +kernel
theorem dX9_init_96 : decode cX9_init 96 = .ok (.dup, 1) := by decide +kernel
theorem dX9_init_97 : decode cX9_init 97 = .ok (.invokespecial 63, 3) := by decide +kernel
theorem dX9_init_100 : decode cX9_init 100 = .ok (.putfield 64, 3) := by decide +kernel
theorem dX9_init_103 : decode cX9_init 103 = .ok (.aload_n 0, 1) := by decide +kernel
theorem dX9_init_104 : decode cX9_init 104 = .ok (.bipush 6, 2) := by decide +kernel
theorem dX9_init_106 : decode cX9_init 106 = .ok (.newarray .int, 2) := by decide +kernel
theorem dX9_init_108 : decode cX9_init 108 = .ok (.putfield 68, 3) := by decide +kernel
theorem dX9_init_111 : decode cX9_init 111 = .ok (.aload_n 0, 1) := by decide +kernel
theorem dX9_init_112 : decode cX9_init 112 = .ok (.lconst 0, 1) := by decide +kernel
theorem dX9_init_113 : decode cX9_init 113 = .ok (.putfield 72, 3) := by decide +kernel
theorem dX9_init_116 : decode cX9_init 116 = .ok (.return_, 1) := by decide +kernel
theorem dX9_write_0 : decode cX9_write 0 = .ok (.iload_n 1, 1) := by decide +kernel
theorem dX9_write_1 : decode cX9_write 1 = .ok (.invokestatic 76, 3) := by decide +kernel
theorem dX9_write_4 : decode cX9_write 4 = .ok (.ifCond .ne 6, 3) := by decide +kernel
theorem dX9_write_7 : decode cX9_write 7 = .ok (.bipush (-2), 2) := by decide +kernel
theorem dX9_write_9 : decode cX9_write 9 = .ok (.ireturn, 1) := by decide +kernel
theorem dX9_write_10 : decode cX9_write 10 = .ok (.aload_n 0, 1) := by decide +kernel
theorem dX9_write_11 : decode cX9_write 11 = .ok (.getfield 10, 3) := by decide +kernel
theorem dX9_write_14 : decode cX9_write 14 = .ok (.invokevirtual 80, 3) := by decide +kernel
theorem dX9_write_17 : decode cX9_write 17 = .ok (.ifCond .eq 6, 3) := by decide +kernel
theorem dX9_write_20 : decode cX9_write 20 = .ok (.bipush (-4), 2) := by decide +kernel
theorem dX9_write_22 : decode cX9_write 22 = .ok (.ireturn, 1) := by decide +kernel
theorem dX9_write_23 : decode cX9_write 23 = .ok (.aload_n 0, 1) := by decide +kernel
theorem dX9_write_24 : decode cX9_write 24 = .ok (.getfield 10, 3) := by decide +kernel
theorem dX9_write_27 : decode cX9_write 27 = .ok (.iload_n 1, 1) := by decide +kernel
theorem dX9_write_28 : decode cX9_write 28 = .ok (.invokevirtual 84, 3) := by decide +kernel
theorem dX9_write_31 : decode cX9_write 31 = .ok (.aload_n 0, 1) := by decide +kernel
theorem dX9_write_32 : decode cX9_write 32 = .ok (.getfield 10, 3) := by decide +kernel
theorem dX9_write_35 : decode cX9_write 35 = .ok (.getfield 88, 3) := by decide +kernel
theorem dX9_write_38 : decode cX9_write 38 = .ok (.ireturn, 1) := by decide +kernel
theorem dX9_wipe_0 : decode cX9_wipe 0 = .ok (.aload_n 0, 1) := by decide +kernel
theorem dX9_wipe_1 : decode cX9_wipe 1 = .ok (.getfield 10, 3) := by decide +kernel
theorem dX9_wipe_4 : decode cX9_wipe 4 = .ok (.getfield 88, 3) := by decide +kernel
theorem dX9_wipe_7 : decode cX9_wipe 7 = .ok (.istore_n 1, 1) := by decide +kernel
theorem dX9_wipe_8 : decode cX9_wipe 8 = .ok (.aload_n 0, 1) := by decide +kernel
theorem dX9_wipe_9 : decode cX9_wipe 9 = .ok (.getfield 10, 3) := by decide +kernel
theorem dX9_wipe_12 : decode cX9_wipe 12 = .ok (.iconst 0, 1) := by decide +kernel
theorem dX9_wipe_13 : decode cX9_wipe 13 = .ok (.putfield 88, 3) := by decide +kernel
theorem dX9_wipe_16 : decode cX9_wipe 16 = .ok (.iload_n 1, 1) := by decide +kernel
theorem dX9_wipe_17 : decode cX9_wipe 17 = .ok (.ireturn, 1) := by decide +kernel
theorem dX9_fault_0 : decode cX9_fault 0 = .ok (.aload_n 0, 1) := by decide +kernel
theorem dX9_fault_1 : decode cX9_fault 1 = .ok (.getfield 10, 3) := by decide +kernel
theorem dX9_fault_4 : decode cX9_fault 4 = .ok (.invokevirtual 92, 3) := by decide +kernel
theorem dX9_fault_7 : decode cX9_fault 7 = .ok (.ireturn, 1) := by decide +kernel
theorem dX9_take_0 : decode cX9_take 0 = .ok (.aload_n 0, 1) := by decide +kernel
theorem dX9_take_1 : decode cX9_take 1 = .ok (.getfield 10, 3) := by decide +kernel
theorem dX9_take_4 : decode cX9_take 4 = .ok (.invokevirtual 92, 3) := by decide +kernel
theorem dX9_take_7 : decode cX9_take 7 = .ok (.bipush (-9), 2) := by decide +kernel
theorem dX9_take_9 : decode cX9_take 9 = .ok (.if_icmp .eq 6, 3) := by decide +kernel
theorem dX9_take_12 : decode cX9_take 12 = .ok (.bipush (-3), 2) := by decide +kernel
theorem dX9_take_14 : decode cX9_take 14 = .ok (.ireturn, 1) := by decide +kernel
theorem dX9_take_15 : decode cX9_take 15 = .ok (.aload_n 0, 1) := by decide +kernel
theorem dX9_take_16 : decode cX9_take 16 = .ok (.getfield 10, 3) := by decide +kernel
theorem dX9_take_19 : decode cX9_take 19 = .ok (.aload_n 0, 1) := by decide +kernel
theorem dX9_take_20 : decode cX9_take 20 = .ok (.getfield 19, 3) := by decide +kernel
theorem dX9_take_23 : decode cX9_take 23 = .ok (.invokevirtual 96, 3) := by decide +kernel
theorem dX9_take_26 : decode cX9_take 26 = .ok (.aload_n 0, 1) := by decide +kernel
theorem dX9_take_27 : decode cX9_take 27 = .ok (.getfield 36, 3) := by decide +kernel
theorem dX9_take_30 : decode cX9_take 30 = .ok (.invokevirtual 100, 3) := by decide +kernel
theorem dX9_take_33 : decode cX9_take 33 = .ok (.aload_n 0, 1) := by decide +kernel
theorem dX9_take_34 : decode cX9_take 34 = .ok (.getfield 29, 3) := by decide +kernel
theorem dX9_take_37 : decode cX9_take 37 = .ok (.invokevirtual 103, 3) := by decide +kernel
theorem dX9_take_40 : decode cX9_take 40 = .ok (.aload_n 0, 1) := by decide +kernel
theorem dX9_take_41 : decode cX9_take 41 = .ok (.getfield 19, 3) := by decide +kernel
theorem dX9_take_44 : decode cX9_take 44 = .ok (.getfield 104, 3) := by decide +kernel
theorem dX9_take_47 : decode cX9_take 47 = .ok (.ireturn, 1) := by decide +kernel
theorem dX9_about_0 : decode cX9_about 0 = .ok (.iload_n 1, 1) := by decide +kernel
theorem dX9_about_1 : decode cX9_about 1 = .ok (.tableswitch 262 0 10 #[59, 67, 89, 112, 135, 162, 184, 211, 238, 246, 254], 59) := by decide +kernel
theorem dX9_about_60 : decode cX9_about 60 = .ok (.aload_n 0, 1) := by decide +kernel
theorem dX9_about_61 : decode cX9_about 61 = .ok (.getfield 19, 3) := by decide +kernel
theorem dX9_about_64 : decode cX9_about 64 = .ok (.getfield 104, 3) := by decide +kernel
theorem dX9_about_67 : decode cX9_about 67 = .ok (.ireturn, 1) := by decide +kernel
theorem dX9_about_68 : decode cX9_about 68 = .ok (.aload_n 0, 1) := by decide +kernel
theorem dX9_about_69 : decode cX9_about 69 = .ok (.getfield 57, 3) := by decide +kernel
theorem dX9_about_72 : decode cX9_about 72 = .ok (.aload_n 0, 1) := by decide +kernel
theorem dX9_about_73 : decode cX9_about 73 = .ok (.getfield 19, 3) := by decide +kernel
theorem dX9_about_76 : decode cX9_about 76 = .ok (.invokevirtual 107, 3) := by decide +kernel
theorem dX9_about_79 : decode cX9_about 79 = .ok (.aload_n 0, 1) := by decide +kernel
theorem dX9_about_80 : decode cX9_about 80 = .ok (.getfield 57, 3) := by decide +kernel
theorem dX9_about_83 : decode cX9_about 83 = .ok (.getfield 110, 3) := by decide +kernel
theorem dX9_about_86 : decode cX9_about 86 = .ok (.invokevirtual 114, 3) := by decide +kernel
theorem dX9_about_89 : decode cX9_about 89 = .ok (.ireturn, 1) := by decide +kernel
theorem dX9_about_90 : decode cX9_about 90 = .ok (.aload_n 0, 1) := by decide +kernel
theorem dX9_about_91 : decode cX9_about 91 = .ok (.getfield 64, 3) := by decide +kernel
theorem dX9_about_94 : decode cX9_about 94 = .ok (.aload_n 0, 1) := by decide +kernel
theorem dX9_about_95 : decode cX9_about 95 = .ok (.getfield 19, 3) := by decide +kernel
theorem dX9_about_98 : decode cX9_about 98 = .ok (.aload_n 0, 1) := by decide +kernel
theorem dX9_about_99 : decode cX9_about 99 = .ok (.getfield 57, 3) := by decide +kernel
theorem dX9_about_102 : decode cX9_about 102 = .ok (.invokevirtual 119, 3) := by decide +kernel
theorem dX9_about_105 : decode cX9_about 105 = .ok (.aload_n 0, 1) := by decide +kernel
theorem dX9_about_106 : decode cX9_about 106 = .ok (.getfield 64, 3) := by decide +kernel
theorem dX9_about_109 : decode cX9_about 109 = .ok (.getfield 123, 3) := by decide +kernel
theorem dX9_about_112 : decode cX9_about 112 = .ok (.ireturn, 1) := by decide +kernel
theorem dX9_about_113 : decode cX9_about 113 = .ok (.aload_n 0, 1) := by decide +kernel
theorem dX9_about_114 : decode cX9_about 114 = .ok (.getfield 64, 3) := by decide +kernel
theorem dX9_about_117 : decode cX9_about 117 = .ok (.aload_n 0, 1) := by decide +kernel
theorem dX9_about_118 : decode cX9_about 118 = .ok (.getfield 19, 3) := by decide +kernel
theorem dX9_about_121 : decode cX9_about 121 = .ok (.aload_n 0, 1) := by decide +kernel
theorem dX9_about_122 : decode cX9_about 122 = .ok (.getfield 57, 3) := by decide +kernel
theorem dX9_about_125 : decode cX9_about 125 = .ok (.invokevirtual 119, 3) := by decide +kernel
theorem dX9_about_128 : decode cX9_about 128 = .ok (.aload_n 0, 1) := by decide +kernel
theorem dX9_about_129 : decode cX9_about 129 = .ok (.getfield 64, 3) := by decide +kernel
theorem dX9_about_132 : decode cX9_about 132 = .ok (.getfield 126, 3) := by decide +kernel
theorem dX9_about_135 : decode cX9_about 135 = .ok (.ireturn, 1) := by decide +kernel
theorem dX9_about_136 : decode cX9_about 136 = .ok (.aload_n 0, 1) := by decide +kernel
theorem dX9_about_137 : decode cX9_about 137 = .ok (.getfield 64, 3) := by decide +kernel
theorem dX9_about_140 : decode cX9_about 140 = .ok (.aload_n 0, 1) := by decide +kernel
theorem dX9_about_141 : decode cX9_about 141 = .ok (.getfield 19, 3) := by decide +kernel
theorem dX9_about_144 : decode cX9_about 144 = .ok (.aload_n 0, 1) := by decide +kernel
theorem dX9_about_145 : decode cX9_about 145 = .ok (.getfield 57, 3) := by decide +kernel
theorem dX9_about_148 : decode cX9_about 148 = .ok (.invokevirtual 119, 3) := by decide +kernel
theorem dX9_about_151 : decode cX9_about 151 = .ok (.aload_n 0, 1) := by decide +kernel
theorem dX9_about_152 : decode cX9_about 152 = .ok (.getfield 64, 3) := by decide +kernel
theorem dX9_about_155 : decode cX9_about 155 = .ok (.aload_n 0, 1) := by decide +kernel
theorem dX9_about_156 : decode cX9_about 156 = .ok (.getfield 57, 3) := by decide +kernel
theorem dX9_about_159 : decode cX9_about 159 = .ok (.invokevirtual 129, 3) := by decide +kernel
theorem dX9_about_162 : decode cX9_about 162 = .ok (.ireturn, 1) := by decide +kernel
theorem dX9_about_163 : decode cX9_about 163 = .ok (.aload_n 0, 1) := by decide +kernel
theorem dX9_about_164 : decode cX9_about 164 = .ok (.getfield 57, 3) := by decide +kernel
theorem dX9_about_167 : decode cX9_about 167 = .ok (.aload_n 0, 1) := by decide +kernel
theorem dX9_about_168 : decode cX9_about 168 = .ok (.getfield 19, 3) := by decide +kernel
theorem dX9_about_171 : decode cX9_about 171 = .ok (.invokevirtual 107, 3) := by decide +kernel
theorem dX9_about_174 : decode cX9_about 174 = .ok (.aload_n 0, 1) := by decide +kernel
theorem dX9_about_175 : decode cX9_about 175 = .ok (.getfield 57, 3) := by decide +kernel
theorem dX9_about_178 : decode cX9_about 178 = .ok (.getfield 110, 3) := by decide +kernel
theorem dX9_about_181 : decode cX9_about 181 = .ok (.invokevirtual 133, 3) := by decide +kernel
theorem dX9_about_184 : decode cX9_about 184 = .ok (.ireturn, 1) := by decide +kernel
theorem dX9_about_185 : decode cX9_about 185 = .ok (.aload_n 0, 1) := by decide +kernel
theorem dX9_about_186 : decode cX9_about 186 = .ok (.getfield 64, 3) := by decide +kernel
theorem dX9_about_189 : decode cX9_about 189 = .ok (.aload_n 0, 1) := by decide +kernel
theorem dX9_about_190 : decode cX9_about 190 = .ok (.getfield 19, 3) := by decide +kernel
theorem dX9_about_193 : decode cX9_about 193 = .ok (.aload_n 0, 1) := by decide +kernel
theorem dX9_about_194 : decode cX9_about 194 = .ok (.getfield 57, 3) := by decide +kernel
theorem dX9_about_197 : decode cX9_about 197 = .ok (.aload_n 0, 1) := by decide +kernel
theorem dX9_about_198 : decode cX9_about 198 = .ok (.getfield 43, 3) := by decide +kernel
theorem dX9_about_201 : decode cX9_about 201 = .ok (.invokevirtual 136, 3) := by decide +kernel
theorem dX9_about_204 : decode cX9_about 204 = .ok (.aload_n 0, 1) := by decide +kernel
theorem dX9_about_205 : decode cX9_about 205 = .ok (.getfield 64, 3) := by decide +kernel
theorem dX9_about_208 : decode cX9_about 208 = .ok (.getfield 140, 3) := by decide +kernel
theorem dX9_about_211 : decode cX9_about 211 = .ok (.ireturn, 1) := by decide +kernel
theorem dX9_about_212 : decode cX9_about 212 = .ok (.aload_n 0, 1) := by decide +kernel
theorem dX9_about_213 : decode cX9_about 213 = .ok (.getfield 64, 3) := by decide +kernel
theorem dX9_about_216 : decode cX9_about 216 = .ok (.aload_n 0, 1) := by decide +kernel
theorem dX9_about_217 : decode cX9_about 217 = .ok (.getfield 19, 3) := by decide +kernel
theorem dX9_about_220 : decode cX9_about 220 = .ok (.aload_n 0, 1) := by decide +kernel
theorem dX9_about_221 : decode cX9_about 221 = .ok (.getfield 57, 3) := by decide +kernel
theorem dX9_about_224 : decode cX9_about 224 = .ok (.aload_n 0, 1) := by decide +kernel
theorem dX9_about_225 : decode cX9_about 225 = .ok (.getfield 43, 3) := by decide +kernel
theorem dX9_about_228 : decode cX9_about 228 = .ok (.invokevirtual 136, 3) := by decide +kernel
theorem dX9_about_231 : decode cX9_about 231 = .ok (.aload_n 0, 1) := by decide +kernel
theorem dX9_about_232 : decode cX9_about 232 = .ok (.getfield 64, 3) := by decide +kernel
theorem dX9_about_235 : decode cX9_about 235 = .ok (.getfield 143, 3) := by decide +kernel
theorem dX9_about_238 : decode cX9_about 238 = .ok (.ireturn, 1) := by decide +kernel
theorem dX9_about_239 : decode cX9_about 239 = .ok (.aload_n 0, 1) := by decide +kernel
theorem dX9_about_240 : decode cX9_about 240 = .ok (.getfield 36, 3) := by decide +kernel
theorem dX9_about_243 : decode cX9_about 243 = .ok (.getfield 146, 3) := by decide +kernel
theorem dX9_about_246 : decode cX9_about 246 = .ok (.ireturn, 1) := by decide +kernel
theorem dX9_about_247 : decode cX9_about 247 = .ok (.aload_n 0, 1) := by decide +kernel
theorem dX9_about_248 : decode cX9_about 248 = .ok (.getfield 43, 3) := by decide +kernel
theorem dX9_about_251 : decode cX9_about 251 = .ok (.getfield 149, 3) := by decide +kernel
theorem dX9_about_254 : decode cX9_about 254 = .ok (.ireturn, 1) := by decide +kernel
theorem dX9_about_255 : decode cX9_about 255 = .ok (.aload_n 0, 1) := by decide +kernel
theorem dX9_about_256 : decode cX9_about 256 = .ok (.getfield 10, 3) := by decide +kernel
theorem dX9_about_259 : decode cX9_about 259 = .ok (.getfield 88, 3) := by decide +kernel
theorem dX9_about_262 : decode cX9_about 262 = .ok (.ireturn, 1) := by decide +kernel
theorem dX9_about_263 : decode cX9_about 263 = .ok (.bipush (-2), 2) := by decide +kernel
theorem dX9_about_265 : decode cX9_about 265 = .ok (.ireturn, 1) := by decide +kernel
theorem dX9_level_0 : decode cX9_level 0 = .ok (.aload_n 0, 1) := by decide +kernel
theorem dX9_level_1 : decode cX9_level 1 = .ok (.getfield 19, 3) := by decide +kernel
theorem dX9_level_4 : decode cX9_level 4 = .ok (.iload_n 1, 1) := by decide +kernel
theorem dX9_level_5 : decode cX9_level 5 = .ok (.invokevirtual 150, 3) := by decide +kernel
theorem dX9_level_8 : decode cX9_level 8 = .ok (.ifCond .eq 14, 3) := by decide +kernel
theorem dX9_level_11 : decode cX9_level 11 = .ok (.aload_n 0, 1) := by decide +kernel
theorem dX9_level_12 : decode cX9_level 12 = .ok (.getfield 19, 3) := by decide +kernel
theorem dX9_level_15 : decode cX9_level 15 = .ok (.iload_n 1, 1) := by decide +kernel
theorem dX9_level_16 : decode cX9_level 16 = .ok (.invokevirtual 153, 3) := by decide +kernel
theorem dX9_level_19 : decode cX9_level 19 = .ok (.goto 4, 3) := by decide +kernel
theorem dX9_level_22 : decode cX9_level 22 = .ok (.iconst (-1), 1) := by decide +kernel
theorem dX9_level_23 : decode cX9_level 23 = .ok (.ireturn, 1) := by decide +kernel
theorem dX9_run_0 : decode cX9_run 0 = .ok (.aload_n 0, 1) := by decide +kernel
theorem dX9_run_1 : decode cX9_run 1 = .ok (.getfield 57, 3) := by decide +kernel
theorem dX9_run_4 : decode cX9_run 4 = .ok (.aload_n 0, 1) := by decide +kernel
theorem dX9_run_5 : decode cX9_run 5 = .ok (.getfield 19, 3) := by decide +kernel
theorem dX9_run_8 : decode cX9_run 8 = .ok (.invokevirtual 107, 3) := by decide +kernel
theorem dX9_run_11 : decode cX9_run 11 = .ok (.aload_n 0, 1) := by decide +kernel
theorem dX9_run_12 : decode cX9_run 12 = .ok (.getfield 57, 3) := by decide +kernel
theorem dX9_run_15 : decode cX9_run 15 = .ok (.getfield 110, 3) := by decide +kernel
theorem dX9_run_18 : decode cX9_run 18 = .ok (.iload_n 1, 1) := by decide +kernel
theorem dX9_run_19 : decode cX9_run 19 = .ok (.invokevirtual 157, 3) := by decide +kernel
theorem dX9_run_22 : decode cX9_run 22 = .ok (.ireturn, 1) := by decide +kernel
theorem dX9_off_0 : decode cX9_off 0 = .ok (.iload_n 1, 1) := by decide +kernel
theorem dX9_off_1 : decode cX9_off 1 = .ok (.iconst 1, 1) := by decide +kernel
theorem dX9_off_2 : decode cX9_off 2 = .ok (.if_icmp .lt 9, 3) := by decide +kernel
theorem dX9_off_5 : decode cX9_off 5 = .ok (.iload_n 1, 1) := by decide +kernel
theorem dX9_off_6 : decode cX9_off 6 = .ok (.bipush 16, 2) := by decide +kernel
theorem dX9_off_8 : decode cX9_off 8 = .ok (.if_icmp .le 6, 3) := by decide +kernel
theorem dX9_off_11 : decode cX9_off 11 = .ok (.bipush (-2), 2) := by decide +kernel
theorem dX9_off_13 : decode cX9_off 13 = .ok (.ireturn, 1) := by decide +kernel
theorem dX9_off_14 : decode cX9_off 14 = .ok (.aload_n 0, 1) := by decide +kernel
theorem dX9_off_15 : decode cX9_off 15 = .ok (.getfield 57, 3) := by decide +kernel
theorem dX9_off_18 : decode cX9_off 18 = .ok (.aload_n 0, 1) := by decide +kernel
theorem dX9_off_19 : decode cX9_off 19 = .ok (.getfield 19, 3) := by decide +kernel
theorem dX9_off_22 : decode cX9_off 22 = .ok (.invokevirtual 107, 3) := by decide +kernel
theorem dX9_off_25 : decode cX9_off 25 = .ok (.aload_n 0, 1) := by decide +kernel
theorem dX9_off_26 : decode cX9_off 26 = .ok (.getfield 57, 3) := by decide +kernel
theorem dX9_off_29 : decode cX9_off 29 = .ok (.getfield 110, 3) := by decide +kernel
theorem dX9_off_32 : decode cX9_off 32 = .ok (.iload_n 1, 1) := by decide +kernel
theorem dX9_off_33 : decode cX9_off 33 = .ok (.invokevirtual 160, 3) := by decide +kernel
theorem dX9_off_36 : decode cX9_off 36 = .ok (.ireturn, 1) := by decide +kernel
theorem dX9_hear_0 : decode cX9_hear 0 = .ok (.iload_n 1, 1) := by decide +kernel
theorem dX9_hear_1 : decode cX9_hear 1 = .ok (.invokestatic 163, 3) := by decide +kernel
theorem dX9_hear_4 : decode cX9_hear 4 = .ok (.ifCond .eq 14, 3) := by decide +kernel
theorem dX9_hear_7 : decode cX9_hear 7 = .ok (.iload_n 2, 1) := by decide +kernel
theorem dX9_hear_8 : decode cX9_hear 8 = .ok (.iconst 1, 1) := by decide +kernel
theorem dX9_hear_9 : decode cX9_hear 9 = .ok (.if_icmp .lt 9, 3) := by decide +kernel
theorem dX9_hear_12 : decode cX9_hear 12 = .ok (.iload_n 2, 1) := by decide +kernel
theorem dX9_hear_13 : decode cX9_hear 13 = .ok (.bipush 99, 2) := by decide +kernel
theorem dX9_hear_15 : decode cX9_hear 15 = .ok (.if_icmp .le 6, 3) := by decide +kernel
theorem dX9_hear_18 : decode cX9_hear 18 = .ok (.bipush (-2), 2) := by decide +kernel
theorem dX9_hear_20 : decode cX9_hear 20 = .ok (.ireturn, 1) := by decide +kernel
theorem dX9_hear_21 : decode cX9_hear 21 = .ok (.aload_n 0, 1) := by decide +kernel
theorem dX9_hear_22 : decode cX9_hear 22 = .ok (.getfield 19, 3) := by decide +kernel
theorem dX9_hear_25 : decode cX9_hear 25 = .ok (.iload_n 2, 1) := by decide +kernel
theorem dX9_hear_26 : decode cX9_hear 26 = .ok (.invokevirtual 166, 3) := by decide +kernel
theorem dX9_hear_29 : decode cX9_hear 29 = .ok (.ifCond .ne 6, 3) := by decide +kernel
theorem dX9_hear_32 : decode cX9_hear 32 = .ok (.bipush (-4), 2) := by decide +kernel
theorem dX9_hear_34 : decode cX9_hear 34 = .ok (.ireturn, 1) := by decide +kernel
theorem dX9_hear_35 : decode cX9_hear 35 = .ok (.aload_n 0, 1) := by decide +kernel
theorem dX9_hear_36 : decode cX9_hear 36 = .ok (.getfield 19, 3) := by decide +kernel
theorem dX9_hear_39 : decode cX9_hear 39 = .ok (.iload_n 1, 1) := by decide +kernel
theorem dX9_hear_40 : decode cX9_hear 40 = .ok (.iload_n 2, 1) := by decide +kernel
theorem dX9_hear_41 : decode cX9_hear 41 = .ok (.invokevirtual 169, 3) := by decide +kernel
theorem dX9_hear_44 : decode cX9_hear 44 = .ok (.aload_n 0, 1) := by decide +kernel
theorem dX9_hear_45 : decode cX9_hear 45 = .ok (.getfield 36, 3) := by decide +kernel
theorem dX9_hear_48 : decode cX9_hear 48 = .ok (.iload_n 2, 1) := by decide +kernel
theorem dX9_hear_49 : decode cX9_hear 49 = .ok (.invokevirtual 173, 3) := by decide +kernel
theorem dX9_hear_52 : decode cX9_hear 52 = .ok (.aload_n 0, 1) := by decide +kernel
theorem dX9_hear_53 : decode cX9_hear 53 = .ok (.getfield 19, 3) := by decide +kernel
theorem dX9_hear_56 : decode cX9_hear 56 = .ok (.getfield 104, 3) := by decide +kernel
theorem dX9_hear_59 : decode cX9_hear 59 = .ok (.ireturn, 1) := by decide +kernel
theorem dX9_send_0 : decode cX9_send 0 = .ok (.aload_n 0, 1) := by decide +kernel
theorem dX9_send_1 : decode cX9_send 1 = .ok (.getfield 50, 3) := by decide +kernel
theorem dX9_send_4 : decode cX9_send 4 = .ok (.iload_n 1, 1) := by decide +kernel
theorem dX9_send_5 : decode cX9_send 5 = .ok (.invokevirtual 176, 3) := by decide +kernel
theorem dX9_send_8 : decode cX9_send 8 = .ok (.ifCond .eq 10, 3) := by decide +kernel
theorem dX9_send_11 : decode cX9_send 11 = .ok (.iload_n 2, 1) := by decide +kernel
theorem dX9_send_12 : decode cX9_send 12 = .ok (.invokestatic 76, 3) := by decide +kernel
theorem dX9_send_15 : decode cX9_send 15 = .ok (.ifCond .ne 6, 3) := by decide +kernel
theorem dX9_send_18 : decode cX9_send 18 = .ok (.bipush (-2), 2) := by decide +kernel
theorem dX9_send_20 : decode cX9_send 20 = .ok (.ireturn, 1) := by decide +kernel
theorem dX9_send_21 : decode cX9_send 21 = .ok (.aload_n 0, 1) := by decide +kernel
theorem dX9_send_22 : decode cX9_send 22 = .ok (.getfield 50, 3) := by decide +kernel
theorem dX9_send_25 : decode cX9_send 25 = .ok (.invokevirtual 179, 3) := by decide +kernel
theorem dX9_send_28 : decode cX9_send 28 = .ok (.istore_n 3, 1) := by decide +kernel
theorem dX9_send_29 : decode cX9_send 29 = .ok (.aload_n 0, 1) := by decide +kernel
theorem dX9_send_30 : decode cX9_send 30 = .ok (.getfield 19, 3) := by decide +kernel
theorem dX9_send_33 : decode cX9_send 33 = .ok (.iload_n 3, 1) := by decide +kernel
theorem dX9_send_34 : decode cX9_send 34 = .ok (.invokevirtual 166, 3) := by decide +kernel
theorem dX9_send_37 : decode cX9_send 37 = .ok (.ifCond .ne 6, 3) := by decide +kernel
theorem dX9_send_40 : decode cX9_send 40 = .ok (.bipush (-4), 2) := by decide +kernel
theorem dX9_send_42 : decode cX9_send 42 = .ok (.ireturn, 1) := by decide +kernel
theorem dX9_send_43 : decode cX9_send 43 = .ok (.aload_n 0, 1) := by decide +kernel
theorem dX9_send_44 : decode cX9_send 44 = .ok (.getfield 19, 3) := by decide +kernel
theorem dX9_send_47 : decode cX9_send 47 = .ok (.aload_n 0, 1) := by decide +kernel
theorem dX9_send_48 : decode cX9_send 48 = .ok (.getfield 50, 3) := by decide +kernel
theorem dX9_send_51 : decode cX9_send 51 = .ok (.iload_n 2, 1) := by decide +kernel
theorem dX9_send_52 : decode cX9_send 52 = .ok (.invokevirtual 182, 3) := by decide +kernel
theorem dX9_send_55 : decode cX9_send 55 = .ok (.aload_n 0, 1) := by decide +kernel
theorem dX9_send_56 : decode cX9_send 56 = .ok (.getfield 36, 3) := by decide +kernel
theorem dX9_send_59 : decode cX9_send 59 = .ok (.iload_n 3, 1) := by decide +kernel
theorem dX9_send_60 : decode cX9_send 60 = .ok (.invokevirtual 173, 3) := by decide +kernel
theorem dX9_send_63 : decode cX9_send 63 = .ok (.aload_n 0, 1) := by decide +kernel
theorem dX9_send_64 : decode cX9_send 64 = .ok (.getfield 19, 3) := by decide +kernel
theorem dX9_send_67 : decode cX9_send 67 = .ok (.getfield 104, 3) := by decide +kernel
theorem dX9_send_70 : decode cX9_send 70 = .ok (.ireturn, 1) := by decide +kernel
theorem dX9_flip_0 : decode cX9_flip 0 = .ok (.aload_n 0, 1) := by decide +kernel
theorem dX9_flip_1 : decode cX9_flip 1 = .ok (.getfield 19, 3) := by decide +kernel
theorem dX9_flip_4 : decode cX9_flip 4 = .ok (.iload_n 1, 1) := by decide +kernel
theorem dX9_flip_5 : decode cX9_flip 5 = .ok (.invokevirtual 150, 3) := by decide +kernel
theorem dX9_flip_8 : decode cX9_flip 8 = .ok (.ifCond .ne 5, 3) := by decide +kernel
theorem dX9_flip_11 : decode cX9_flip 11 = .ok (.iconst (-1), 1) := by decide +kernel
theorem dX9_flip_12 : decode cX9_flip 12 = .ok (.ireturn, 1) := by decide +kernel
theorem dX9_flip_13 : decode cX9_flip 13 = .ok (.aload_n 0, 1) := by decide +kernel
theorem dX9_flip_14 : decode cX9_flip 14 = .ok (.getfield 19, 3) := by decide +kernel
theorem dX9_flip_17 : decode cX9_flip 17 = .ok (.iload_n 1, 1) := by decide +kernel
theorem dX9_flip_18 : decode cX9_flip 18 = .ok (.invokevirtual 186, 3) := by decide +kernel
theorem dX9_flip_21 : decode cX9_flip 21 = .ok (.aload_n 0, 1) := by decide +kernel
theorem dX9_flip_22 : decode cX9_flip 22 = .ok (.getfield 36, 3) := by decide +kernel
theorem dX9_flip_25 : decode cX9_flip 25 = .ok (.iload_n 1, 1) := by decide +kernel
theorem dX9_flip_26 : decode cX9_flip 26 = .ok (.invokevirtual 189, 3) := by decide +kernel
theorem dX9_flip_29 : decode cX9_flip 29 = .ok (.aload_n 0, 1) := by decide +kernel
theorem dX9_flip_30 : decode cX9_flip 30 = .ok (.getfield 19, 3) := by decide +kernel
theorem dX9_flip_33 : decode cX9_flip 33 = .ok (.iload_n 1, 1) := by decide +kernel
theorem dX9_flip_34 : decode cX9_flip 34 = .ok (.invokevirtual 153, 3) := by decide +kernel
theorem dX9_flip_37 : decode cX9_flip 37 = .ok (.ireturn, 1) := by decide +kernel
theorem dX9_cut_0 : decode cX9_cut 0 = .ok (.iload_n 1, 1) := by decide +kernel
theorem dX9_cut_1 : decode cX9_cut 1 = .ok (.iconst 1, 1) := by decide +kernel
theorem dX9_cut_2 : decode cX9_cut 2 = .ok (.if_icmp .lt 14, 3) := by decide +kernel
theorem dX9_cut_5 : decode cX9_cut 5 = .ok (.iload_n 1, 1) := by decide +kernel
theorem dX9_cut_6 : decode cX9_cut 6 = .ok (.aload_n 0, 1) := by decide +kernel
theorem dX9_cut_7 : decode cX9_cut 7 = .ok (.getfield 19, 3) := by decide +kernel
theorem dX9_cut_10 : decode cX9_cut 10 = .ok (.getfield 104, 3) := by decide +kernel
theorem dX9_cut_13 : decode cX9_cut 13 = .ok (.if_icmp .le 6, 3) := by decide +kernel
theorem dX9_cut_16 : decode cX9_cut 16 = .ok (.bipush (-2), 2) := by decide +kernel
theorem dX9_cut_18 : decode cX9_cut 18 = .ok (.ireturn, 1) := by decide +kernel
theorem dX9_cut_19 : decode cX9_cut 19 = .ok (.aload_n 0, 1) := by decide +kernel
theorem dX9_cut_20 : decode cX9_cut 20 = .ok (.getfield 36, 3) := by decide +kernel
theorem dX9_cut_23 : decode cX9_cut 23 = .ok (.aload_n 0, 1) := by decide +kernel
theorem dX9_cut_24 : decode cX9_cut 24 = .ok (.getfield 19, 3) := by decide +kernel
theorem dX9_cut_27 : decode cX9_cut 27 = .ok (.iload_n 1, 1) := by decide +kernel
theorem dX9_cut_28 : decode cX9_cut 28 = .ok (.invokevirtual 192, 3) := by decide +kernel
theorem dX9_cut_31 : decode cX9_cut 31 = .ok (.aload_n 0, 1) := by decide +kernel
theorem dX9_cut_32 : decode cX9_cut 32 = .ok (.getfield 19, 3) := by decide +kernel
theorem dX9_cut_35 : decode cX9_cut 35 = .ok (.iload_n 1, 1) := by decide +kernel
theorem dX9_cut_36 : decode cX9_cut 36 = .ok (.invokevirtual 196, 3) := by decide +kernel
theorem dX9_cut_39 : decode cX9_cut 39 = .ok (.aload_n 0, 1) := by decide +kernel
theorem dX9_cut_40 : decode cX9_cut 40 = .ok (.getfield 19, 3) := by decide +kernel
theorem dX9_cut_43 : decode cX9_cut 43 = .ok (.getfield 104, 3) := by decide +kernel
theorem dX9_cut_46 : decode cX9_cut 46 = .ok (.ireturn, 1) := by decide +kernel
theorem dX9_undo_0 : decode cX9_undo 0 = .ok (.aload_n 0, 1) := by decide +kernel
theorem dX9_undo_1 : decode cX9_undo 1 = .ok (.getfield 36, 3) := by decide +kernel
theorem dX9_undo_4 : decode cX9_undo 4 = .ok (.getfield 146, 3) := by decide +kernel
theorem dX9_undo_7 : decode cX9_undo 7 = .ok (.ifCond .ne 6, 3) := by decide +kernel
theorem dX9_undo_10 : decode cX9_undo 10 = .ok (.bipush (-3), 2) := by decide +kernel
theorem dX9_undo_12 : decode cX9_undo 12 = .ok (.ireturn, 1) := by decide +kernel
theorem dX9_undo_13 : decode cX9_undo 13 = .ok (.aload_n 0, 1) := by decide +kernel
theorem dX9_undo_14 : decode cX9_undo 14 = .ok (.getfield 36, 3) := by decide +kernel
theorem dX9_undo_17 : decode cX9_undo 17 = .ok (.aload_n 0, 1) := by decide +kernel
theorem dX9_undo_18 : decode cX9_undo 18 = .ok (.getfield 19, 3) := by decide +kernel
theorem dX9_undo_21 : decode cX9_undo 21 = .ok (.invokevirtual 199, 3) := by decide +kernel
theorem dX9_undo_24 : decode cX9_undo 24 = .ok (.aload_n 0, 1) := by decide +kernel
theorem dX9_undo_25 : decode cX9_undo 25 = .ok (.getfield 36, 3) := by decide +kernel
theorem dX9_undo_28 : decode cX9_undo 28 = .ok (.getfield 146, 3) := by decide +kernel
theorem dX9_undo_31 : decode cX9_undo 31 = .ok (.ireturn, 1) := by decide +kernel
theorem dX9_guess_0 : decode cX9_guess 0 = .ok (.aload_n 0, 1) := by decide +kernel
theorem dX9_guess_1 : decode cX9_guess 1 = .ok (.getfield 50, 3) := by decide +kernel
theorem dX9_guess_4 : decode cX9_guess 4 = .ok (.iload_n 1, 1) := by decide +kernel
theorem dX9_guess_5 : decode cX9_guess 5 = .ok (.invokevirtual 176, 3) := by decide +kernel
theorem dX9_guess_8 : decode cX9_guess 8 = .ok (.ifCond .eq 12, 3) := by decide +kernel
theorem dX9_guess_11 : decode cX9_guess 11 = .ok (.iload_n 2, 1) := by decide +kernel
theorem dX9_guess_12 : decode cX9_guess 12 = .ok (.ifCond .lt 8, 3) := by decide +kernel
theorem dX9_guess_15 : decode cX9_guess 15 = .ok (.iload_n 2, 1) := by decide +kernel
theorem dX9_guess_16 : decode cX9_guess 16 = .ok (.iconst 4, 1) := by decide +kernel
theorem dX9_guess_17 : decode cX9_guess 17 = .ok (.if_icmp .le 6, 3) := by decide +kernel
theorem dX9_guess_20 : decode cX9_guess 20 = .ok (.bipush (-2), 2) := by decide +kernel
theorem dX9_guess_22 : decode cX9_guess 22 = .ok (.ireturn, 1) := by decide +kernel
theorem dX9_guess_23 : decode cX9_guess 23 = .ok (.aload_n 0, 1) := by decide +kernel
theorem dX9_guess_24 : decode cX9_guess 24 = .ok (.getfield 57, 3) := by decide +kernel
theorem dX9_guess_27 : decode cX9_guess 27 = .ok (.aload_n 0, 1) := by decide +kernel
theorem dX9_guess_28 : decode cX9_guess 28 = .ok (.getfield 19, 3) := by decide +kernel
theorem dX9_guess_31 : decode cX9_guess 31 = .ok (.invokevirtual 107, 3) := by decide +kernel
theorem dX9_guess_34 : decode cX9_guess 34 = .ok (.aload_n 0, 1) := by decide +kernel
theorem dX9_guess_35 : decode cX9_guess 35 = .ok (.getfield 57, 3) := by decide +kernel
theorem dX9_guess_38 : decode cX9_guess 38 = .ok (.aload_n 0, 1) := by decide +kernel
theorem dX9_guess_39 : decode cX9_guess 39 = .ok (.getfield 50, 3) := by decide +kernel
theorem dX9_guess_42 : decode cX9_guess 42 = .ok (.invokevirtual 202, 3) := by decide +kernel
theorem dX9_guess_45 : decode cX9_guess 45 = .ok (.iload_n 2, 1) := by decide +kernel
theorem dX9_guess_46 : decode cX9_guess 46 = .ok (.tableswitch 70 0 3 #[30, 38, 54, 62], 30) := by decide +kernel
theorem dX9_guess_76 : decode cX9_guess 76 = .ok (.aload_n 0, 1) := by decide +kernel
theorem dX9_guess_77 : decode cX9_guess 77 = .ok (.getfield 57, 3) := by decide +kernel
theorem dX9_guess_80 : decode cX9_guess 80 = .ok (.getfield 206, 3) := by decide +kernel
theorem dX9_guess_83 : decode cX9_guess 83 = .ok (.ireturn, 1) := by decide +kernel
theorem dX9_guess_84 : decode cX9_guess 84 = .ok (.aload_n 0, 1) := by decide +kernel
theorem dX9_guess_85 : decode cX9_guess 85 = .ok (.getfield 57, 3) := by decide +kernel
theorem dX9_guess_88 : decode cX9_guess 88 = .ok (.invokevirtual 209, 3) := by decide +kernel
theorem dX9_guess_91 : decode cX9_guess 91 = .ok (.ifCond .eq 7, 3) := by decide +kernel
theorem dX9_guess_94 : decode cX9_guess 94 = .ok (.iconst 1, 1) := by decide +kernel
theorem dX9_guess_95 : decode cX9_guess 95 = .ok (.goto 4, 3) := by decide +kernel
theorem dX9_guess_98 : decode cX9_guess 98 = .ok (.iconst 0, 1) := by decide +kernel
theorem dX9_guess_99 : decode cX9_guess 99 = .ok (.ireturn, 1) := by decide +kernel
theorem dX9_guess_100 : decode cX9_guess 100 = .ok (.aload_n 0, 1) := by decide +kernel
theorem dX9_guess_101 : decode cX9_guess 101 = .ok (.getfield 57, 3) := by decide +kernel
theorem dX9_guess_104 : decode cX9_guess 104 = .ok (.getfield 211, 3) := by decide +kernel
theorem dX9_guess_107 : decode cX9_guess 107 = .ok (.ireturn, 1) := by decide +kernel
theorem dX9_guess_108 : decode cX9_guess 108 = .ok (.aload_n 0, 1) := by decide +kernel
theorem dX9_guess_109 : decode cX9_guess 109 = .ok (.getfield 57, 3) := by decide +kernel
theorem dX9_guess_112 : decode cX9_guess 112 = .ok (.getfield 214, 3) := by decide +kernel
theorem dX9_guess_115 : decode cX9_guess 115 = .ok (.ireturn, 1) := by decide +kernel
theorem dX9_guess_116 : decode cX9_guess 116 = .ok (.aload_n 0, 1) := by decide +kernel
theorem dX9_guess_117 : decode cX9_guess 117 = .ok (.getfield 57, 3) := by decide +kernel
theorem dX9_guess_120 : decode cX9_guess 120 = .ok (.invokevirtual 209, 3) := by decide +kernel
theorem dX9_guess_123 : decode cX9_guess 123 = .ok (.ifCond .eq 13, 3) := by decide +kernel
theorem dX9_guess_126 : decode cX9_guess 126 = .ok (.aload_n 0, 1) := by decide +kernel
theorem dX9_guess_127 : decode cX9_guess 127 = .ok (.getfield 57, 3) := by decide +kernel
theorem dX9_guess_130 : decode cX9_guess 130 = .ok (.getfield 217, 3) := by decide +kernel
theorem dX9_guess_133 : decode cX9_guess 133 = .ok (.goto 5, 3) := by decide +kernel
theorem dX9_guess_136 : decode cX9_guess 136 = .ok (.bipush (-9), 2) := by decide +kernel
theorem dX9_guess_138 : decode cX9_guess 138 = .ok (.ireturn, 1) := by decide +kernel
theorem dX9_letter_0 : decode cX9_letter 0 = .ok (.aload_n 0, 1) := by decide +kernel
theorem dX9_letter_1 : decode cX9_letter 1 = .ok (.getfield 50, 3) := by decide +kernel
theorem dX9_letter_4 : decode cX9_letter 4 = .ok (.iload_n 1, 1) := by decide +kernel
theorem dX9_letter_5 : decode cX9_letter 5 = .ok (.invokevirtual 176, 3) := by decide +kernel
theorem dX9_letter_8 : decode cX9_letter 8 = .ok (.ifCond .ne 6, 3) := by decide +kernel
theorem dX9_letter_11 : decode cX9_letter 11 = .ok (.bipush (-2), 2) := by decide +kernel
theorem dX9_letter_13 : decode cX9_letter 13 = .ok (.ireturn, 1) := by decide +kernel
theorem dX9_letter_14 : decode cX9_letter 14 = .ok (.aload_n 0, 1) := by decide +kernel
theorem dX9_letter_15 : decode cX9_letter 15 = .ok (.getfield 57, 3) := by decide +kernel
theorem dX9_letter_18 : decode cX9_letter 18 = .ok (.aload_n 0, 1) := by decide +kernel
theorem dX9_letter_19 : decode cX9_letter 19 = .ok (.getfield 19, 3) := by decide +kernel
theorem dX9_letter_22 : decode cX9_letter 22 = .ok (.invokevirtual 107, 3) := by decide +kernel
theorem dX9_letter_25 : decode cX9_letter 25 = .ok (.aload_n 0, 1) := by decide +kernel
theorem dX9_letter_26 : decode cX9_letter 26 = .ok (.getfield 57, 3) := by decide +kernel
theorem dX9_letter_29 : decode cX9_letter 29 = .ok (.aload_n 0, 1) := by decide +kernel
theorem dX9_letter_30 : decode cX9_letter 30 = .ok (.getfield 50, 3) := by decide +kernel
theorem dX9_letter_33 : decode cX9_letter 33 = .ok (.invokevirtual 202, 3) := by decide +kernel
theorem dX9_letter_36 : decode cX9_letter 36 = .ok (.iload_n 3, 1) := by decide +kernel
theorem dX9_letter_37 : decode cX9_letter 37 = .ok (.ifCond .eq 14, 3) := by decide +kernel
theorem dX9_letter_40 : decode cX9_letter 40 = .ok (.aload_n 0, 1) := by decide +kernel
theorem dX9_letter_41 : decode cX9_letter 41 = .ok (.getfield 57, 3) := by decide +kernel
theorem dX9_letter_44 : decode cX9_letter 44 = .ok (.iload_n 2, 1) := by decide +kernel
theorem dX9_letter_45 : decode cX9_letter 45 = .ok (.invokevirtual 220, 3) := by decide +kernel
theorem dX9_letter_48 : decode cX9_letter 48 = .ok (.goto 11, 3) := by decide +kernel
theorem dX9_letter_51 : decode cX9_letter 51 = .ok (.aload_n 0, 1) := by decide +kernel
theorem dX9_letter_52 : decode cX9_letter 52 = .ok (.getfield 57, 3) := by decide +kernel
theorem dX9_letter_55 : decode cX9_letter 55 = .ok (.iload_n 2, 1) := by decide +kernel
theorem dX9_letter_56 : decode cX9_letter 56 = .ok (.invokevirtual 223, 3) := by decide +kernel
theorem dX9_letter_59 : decode cX9_letter 59 = .ok (.ireturn, 1) := by decide +kernel
theorem dX9_judge_0 : decode cX9_judge 0 = .ok (.iload_n 1, 1) := by decide +kernel
theorem dX9_judge_1 : decode cX9_judge 1 = .ok (.iconst 1, 1) := by decide +kernel
theorem dX9_judge_2 : decode cX9_judge 2 = .ok (.if_icmp .lt 24, 3) := by decide +kernel
theorem dX9_judge_5 : decode cX9_judge 5 = .ok (.iload_n 1, 1) := by decide +kernel
theorem dX9_judge_6 : decode cX9_judge 6 = .ok (.iconst 3, 1) := by decide +kernel
theorem dX9_judge_7 : decode cX9_judge 7 = .ok (.if_icmp .gt 19, 3) := by decide +kernel
theorem dX9_judge_10 : decode cX9_judge 10 = .ok (.lload_n 2, 1) := by decide +kernel
theorem dX9_judge_11 : decode cX9_judge 11 = .ok (.lconst 0, 1) := by decide +kernel
theorem dX9_judge_12 : decode cX9_judge 12 = .ok (.lcmp, 1) := by decide +kernel
theorem dX9_judge_13 : decode cX9_judge 13 = .ok (.ifCond .lt 13, 3) := by decide +kernel
theorem dX9_judge_16 : decode cX9_judge 16 = .ok (.lload_n 2, 1) := by decide +kernel
theorem dX9_judge_17 : decode cX9_judge 17 = .ok (.iload_n 1, 1) := by decide +kernel
theorem dX9_judge_18 : decode cX9_judge 18 = .ok (.invokestatic 226, 3) := by decide +kernel
theorem dX9_judge_21 : decode cX9_judge 21 = .ok (.lconst 0, 1) := by decide +kernel
theorem dX9_judge_22 : decode cX9_judge 22 = .ok (.lcmp, 1) := by decide +kernel
theorem dX9_judge_23 : decode cX9_judge 23 = .ok (.ifCond .eq 6, 3) := by decide +kernel
theorem dX9_judge_26 : decode cX9_judge 26 = .ok (.bipush (-2), 2) := by decide +kernel
theorem dX9_judge_28 : decode cX9_judge 28 = .ok (.ireturn, 1) := by decide +kernel
theorem dX9_judge_29 : decode cX9_judge 29 = .ok (.aload_n 0, 1) := by decide +kernel
theorem dX9_judge_30 : decode cX9_judge 30 = .ok (.getfield 23, 3) := by decide +kernel
theorem dX9_judge_33 : decode cX9_judge 33 = .ok (.aload_n 0, 1) := by decide +kernel
theorem dX9_judge_34 : decode cX9_judge 34 = .ok (.getfield 19, 3) := by decide +kernel
theorem dX9_judge_37 : decode cX9_judge 37 = .ok (.invokevirtual 230, 3) := by decide +kernel
theorem dX9_judge_40 : decode cX9_judge 40 = .ok (.iconst 0, 1) := by decide +kernel
theorem dX9_judge_41 : decode cX9_judge 41 = .ok (.istore 4, 2) := by decide +kernel
theorem dX9_judge_43 : decode cX9_judge 43 = .ok (.iload 4, 2) := by decide +kernel
theorem dX9_judge_45 : decode cX9_judge 45 = .ok (.iload_n 1, 1) := by decide +kernel
theorem dX9_judge_46 : decode cX9_judge 46 = .ok (.if_icmp .ge 48, 3) := by decide +kernel
theorem dX9_judge_49 : decode cX9_judge 49 = .ok (.lload_n 2, 1) := by decide +kernel
theorem dX9_judge_50 : decode cX9_judge 50 = .ok (.iload_n 1, 1) := by decide +kernel
theorem dX9_judge_51 : decode cX9_judge 51 = .ok (.iconst 1, 1) := by decide +kernel
theorem dX9_judge_52 : decode cX9_judge 52 = .ok (.isub, 1) := by decide +kernel
theorem dX9_judge_53 : decode cX9_judge 53 = .ok (.iload 4, 2) := by decide +kernel
theorem dX9_judge_55 : decode cX9_judge 55 = .ok (.isub, 1) := by decide +kernel
theorem dX9_judge_56 : decode cX9_judge 56 = .ok (.invokestatic 226, 3) := by decide +kernel
theorem dX9_judge_59 : decode cX9_judge 59 = .ok (.ldc2_w 233, 3) := by decide +kernel
theorem dX9_judge_62 : decode cX9_judge 62 = .ok (.lrem, 1) := by decide +kernel
theorem dX9_judge_63 : decode cX9_judge 63 = .ok (.l2i, 1) := by decide +kernel
theorem dX9_judge_64 : decode cX9_judge 64 = .ok (.istore 5, 2) := by decide +kernel
theorem dX9_judge_66 : decode cX9_judge 66 = .ok (.aload_n 0, 1) := by decide +kernel
theorem dX9_judge_67 : decode cX9_judge 67 = .ok (.iload 5, 2) := by decide +kernel
theorem dX9_judge_69 : decode cX9_judge 69 = .ok (.sipush 1000, 3) := by decide +kernel
theorem dX9_judge_72 : decode cX9_judge 72 = .ok (.idiv, 1) := by decide +kernel
theorem dX9_judge_73 : decode cX9_judge 73 = .ok (.iload 5, 2) := by decide +kernel
theorem dX9_judge_75 : decode cX9_judge 75 = .ok (.sipush 1000, 3) := by decide +kernel
theorem dX9_judge_78 : decode cX9_judge 78 = .ok (.irem, 1) := by decide +kernel
theorem dX9_judge_79 : decode cX9_judge 79 = .ok (.invokevirtual 235, 3) := by decide +kernel
theorem dX9_judge_82 : decode cX9_judge 82 = .ok (.ifCond .ne 6, 3) := by decide +kernel
theorem dX9_judge_85 : decode cX9_judge 85 = .ok (.iload 4, 2) := by decide +kernel
theorem dX9_judge_87 : decode cX9_judge 87 = .ok (.ireturn, 1) := by decide +kernel
theorem dX9_judge_88 : decode cX9_judge 88 = .ok (.iinc 4 1, 3) := by decide +kernel
theorem dX9_judge_91 : decode cX9_judge 91 = .ok (.goto (-48), 3) := by decide +kernel
theorem dX9_judge_94 : decode cX9_judge 94 = .ok (.bipush (-9), 2) := by decide +kernel
theorem dX9_judge_96 : decode cX9_judge 96 = .ok (.ireturn, 1) := by decide +kernel
theorem dX9_know_0 : decode cX9_know 0 = .ok (.iload_n 1, 1) := by decide +kernel
theorem dX9_know_1 : decode cX9_know 1 = .ok (.ifCond .lt 16, 3) := by decide +kernel
theorem dX9_know_4 : decode cX9_know 4 = .ok (.iload_n 1, 1) := by decide +kernel
theorem dX9_know_5 : decode cX9_know 5 = .ok (.bipush 9, 2) := by decide +kernel
theorem dX9_know_7 : decode cX9_know 7 = .ok (.if_icmp .gt 10, 3) := by decide +kernel
theorem dX9_know_10 : decode cX9_know 10 = .ok (.iload_n 2, 1) := by decide +kernel
theorem dX9_know_11 : decode cX9_know 11 = .ok (.invokestatic 76, 3) := by decide +kernel
theorem dX9_know_14 : decode cX9_know 14 = .ok (.ifCond .ne 6, 3) := by decide +kernel
theorem dX9_know_17 : decode cX9_know 17 = .ok (.bipush (-2), 2) := by decide +kernel
theorem dX9_know_19 : decode cX9_know 19 = .ok (.ireturn, 1) := by decide +kernel
theorem dX9_know_20 : decode cX9_know 20 = .ok (.aload_n 0, 1) := by decide +kernel
theorem dX9_know_21 : decode cX9_know 21 = .ok (.getfield 43, 3) := by decide +kernel
theorem dX9_know_24 : decode cX9_know 24 = .ok (.invokevirtual 239, 3) := by decide +kernel
theorem dX9_know_27 : decode cX9_know 27 = .ok (.ifCond .eq 6, 3) := by decide +kernel
theorem dX9_know_30 : decode cX9_know 30 = .ok (.bipush (-4), 2) := by decide +kernel
theorem dX9_know_32 : decode cX9_know 32 = .ok (.ireturn, 1) := by decide +kernel
theorem dX9_know_33 : decode cX9_know 33 = .ok (.aload_n 0, 1) := by decide +kernel
theorem dX9_know_34 : decode cX9_know 34 = .ok (.getfield 43, 3) := by decide +kernel
theorem dX9_know_37 : decode cX9_know 37 = .ok (.iload_n 1, 1) := by decide +kernel
theorem dX9_know_38 : decode cX9_know 38 = .ok (.iload_n 2, 1) := by decide +kernel
theorem dX9_know_39 : decode cX9_know 39 = .ok (.invokevirtual 240, 3) := by decide +kernel
theorem dX9_know_42 : decode cX9_know 42 = .ok (.aload_n 0, 1) := by decide +kernel
theorem dX9_know_43 : decode cX9_know 43 = .ok (.getfield 43, 3) := by decide +kernel
theorem dX9_know_46 : decode cX9_know 46 = .ok (.getfield 149, 3) := by decide +kernel
theorem dX9_know_49 : decode cX9_know 49 = .ok (.ireturn, 1) := by decide +kernel
theorem dX9_forget_0 : decode cX9_forget 0 = .ok (.aload_n 0, 1) := by decide +kernel
theorem dX9_forget_1 : decode cX9_forget 1 = .ok (.getfield 43, 3) := by decide +kernel
theorem dX9_forget_4 : decode cX9_forget 4 = .ok (.getfield 149, 3) := by decide +kernel
theorem dX9_forget_7 : decode cX9_forget 7 = .ok (.istore_n 1, 1) := by decide +kernel
theorem dX9_forget_8 : decode cX9_forget 8 = .ok (.aload_n 0, 1) := by decide +kernel
theorem dX9_forget_9 : decode cX9_forget 9 = .ok (.getfield 43, 3) := by decide +kernel
theorem dX9_forget_12 : decode cX9_forget 12 = .ok (.iconst 0, 1) := by decide +kernel
theorem dX9_forget_13 : decode cX9_forget 13 = .ok (.putfield 149, 3) := by decide +kernel
theorem dX9_forget_16 : decode cX9_forget 16 = .ok (.iload_n 1, 1) := by decide +kernel
theorem dX9_forget_17 : decode cX9_forget 17 = .ok (.ireturn, 1) := by decide +kernel
theorem dX9_share_0 : decode cX9_share 0 = .ok (.iload_n 1, 1) := by decide +kernel
theorem dX9_share_1 : decode cX9_share 1 = .ok (.ifCond .lt 14, 3) := by decide +kernel
theorem dX9_share_4 : decode cX9_share 4 = .ok (.iload_n 1, 1) := by decide +kernel
theorem dX9_share_5 : decode cX9_share 5 = .ok (.aload_n 0, 1) := by decide +kernel
theorem dX9_share_6 : decode cX9_share 6 = .ok (.getfield 43, 3) := by decide +kernel
theorem dX9_share_9 : decode cX9_share 9 = .ok (.getfield 149, 3) := by decide +kernel
theorem dX9_share_12 : decode cX9_share 12 = .ok (.if_icmp .lt 5, 3) := by decide +kernel
theorem dX9_share_15 : decode cX9_share 15 = .ok (.iconst (-1), 1) := by decide +kernel
theorem dX9_share_16 : decode cX9_share 16 = .ok (.ireturn, 1) := by decide +kernel
theorem dX9_share_17 : decode cX9_share 17 = .ok (.aload_n 0, 1) := by decide +kernel
theorem dX9_share_18 : decode cX9_share 18 = .ok (.getfield 64, 3) := by decide +kernel
theorem dX9_share_21 : decode cX9_share 21 = .ok (.aload_n 0, 1) := by decide +kernel
theorem dX9_share_22 : decode cX9_share 22 = .ok (.getfield 19, 3) := by decide +kernel
theorem dX9_share_25 : decode cX9_share 25 = .ok (.aload_n 0, 1) := by decide +kernel
theorem dX9_share_26 : decode cX9_share 26 = .ok (.getfield 57, 3) := by decide +kernel
theorem dX9_share_29 : decode cX9_share 29 = .ok (.aload_n 0, 1) := by decide +kernel
theorem dX9_share_30 : decode cX9_share 30 = .ok (.getfield 43, 3) := by decide +kernel
theorem dX9_share_33 : decode cX9_share 33 = .ok (.iload_n 1, 1) := by decide +kernel
theorem dX9_share_34 : decode cX9_share 34 = .ok (.invokevirtual 242, 3) := by decide +kernel
theorem dX9_share_37 : decode cX9_share 37 = .ok (.istore_n 3, 1) := by decide +kernel
theorem dX9_share_38 : decode cX9_share 38 = .ok (.iload_n 3, 1) := by decide +kernel
theorem dX9_share_39 : decode cX9_share 39 = .ok (.bipush 60, 2) := by decide +kernel
theorem dX9_share_41 : decode cX9_share 41 = .ok (.iload_n 2, 1) := by decide +kernel
theorem dX9_share_42 : decode cX9_share 42 = .ok (.invokestatic 246, 3) := by decide +kernel
theorem dX9_share_45 : decode cX9_share 45 = .ok (.ireturn, 1) := by decide +kernel
theorem dX9_chance_0 : decode cX9_chance 0 = .ok (.aload_n 0, 1) := by decide +kernel
theorem dX9_chance_1 : decode cX9_chance 1 = .ok (.getfield 50, 3) := by decide +kernel
theorem dX9_chance_4 : decode cX9_chance 4 = .ok (.iload_n 1, 1) := by decide +kernel
theorem dX9_chance_5 : decode cX9_chance 5 = .ok (.invokevirtual 176, 3) := by decide +kernel
theorem dX9_chance_8 : decode cX9_chance 8 = .ok (.ifCond .eq 23, 3) := by decide +kernel
theorem dX9_chance_11 : decode cX9_chance 11 = .ok (.iload_n 2, 1) := by decide +kernel
theorem dX9_chance_12 : decode cX9_chance 12 = .ok (.ifCond .lt 19, 3) := by decide +kernel
theorem dX9_chance_15 : decode cX9_chance 15 = .ok (.iload_n 2, 1) := by decide +kernel
theorem dX9_chance_16 : decode cX9_chance 16 = .ok (.bipush 6, 2) := by decide +kernel
theorem dX9_chance_18 : decode cX9_chance 18 = .ok (.if_icmp .gt 13, 3) := by decide +kernel
theorem dX9_chance_21 : decode cX9_chance 21 = .ok (.iload_n 3, 1) := by decide +kernel
theorem dX9_chance_22 : decode cX9_chance 22 = .ok (.ifCond .lt 9, 3) := by decide +kernel
theorem dX9_chance_25 : decode cX9_chance 25 = .ok (.iload_n 3, 1) := by decide +kernel
theorem dX9_chance_26 : decode cX9_chance 26 = .ok (.bipush 10, 2) := by decide +kernel
theorem dX9_chance_28 : decode cX9_chance 28 = .ok (.if_icmp .le 6, 3) := by decide +kernel
theorem dX9_chance_31 : decode cX9_chance 31 = .ok (.bipush (-2), 2) := by decide +kernel
theorem dX9_chance_33 : decode cX9_chance 33 = .ok (.ireturn, 1) := by decide +kernel
theorem dX9_chance_34 : decode cX9_chance 34 = .ok (.aload_n 0, 1) := by decide +kernel
theorem dX9_chance_35 : decode cX9_chance 35 = .ok (.iload_n 2, 1) := by decide +kernel
theorem dX9_chance_36 : decode cX9_chance 36 = .ok (.invokevirtual 250, 3) := by decide +kernel
theorem dX9_chance_39 : decode cX9_chance 39 = .ok (.istore 5, 2) := by decide +kernel
theorem dX9_chance_41 : decode cX9_chance 41 = .ok (.iconst 1, 1) := by decide +kernel
theorem dX9_chance_42 : decode cX9_chance 42 = .ok (.istore 6, 2) := by decide +kernel
theorem dX9_chance_44 : decode cX9_chance 44 = .ok (.iconst 0, 1) := by decide +kernel
theorem dX9_chance_45 : decode cX9_chance 45 = .ok (.istore 7, 2) := by decide +kernel
theorem dX9_chance_47 : decode cX9_chance 47 = .ok (.iload 7, 2) := by decide +kernel
theorem dX9_chance_49 : decode cX9_chance 49 = .ok (.iload 5, 2) := by decide +kernel
theorem dX9_chance_51 : decode cX9_chance 51 = .ok (.if_icmp .ge 16, 3) := by decide +kernel
theorem dX9_chance_54 : decode cX9_chance 54 = .ok (.iload 6, 2) := by decide +kernel
theorem dX9_chance_56 : decode cX9_chance 56 = .ok (.bipush 10, 2) := by decide +kernel
theorem dX9_chance_58 : decode cX9_chance 58 = .ok (.imul, 1) := by decide +kernel
theorem dX9_chance_59 : decode cX9_chance 59 = .ok (.istore 6, 2) := by decide +kernel
theorem dX9_chance_61 : decode cX9_chance 61 = .ok (.iinc 7 1, 3) := by decide +kernel
theorem dX9_chance_64 : decode cX9_chance 64 = .ok (.goto (-17), 3) := by decide +kernel
theorem dX9_chance_67 : decode cX9_chance 67 = .ok (.iconst 0, 1) := by decide +kernel
theorem dX9_chance_68 : decode cX9_chance 68 = .ok (.istore 7, 2) := by decide +kernel
theorem dX9_chance_70 : decode cX9_chance 70 = .ok (.iconst 0, 1) := by decide +kernel
theorem dX9_chance_71 : decode cX9_chance 71 = .ok (.istore 8, 2) := by decide +kernel
theorem dX9_chance_73 : decode cX9_chance 73 = .ok (.iload 8, 2) := by decide +kernel
theorem dX9_chance_75 : decode cX9_chance 75 = .ok (.iconst 1, 1) := by decide +kernel
theorem dX9_chance_76 : decode cX9_chance 76 = .ok (.iload 5, 2) := by decide +kernel
theorem dX9_chance_78 : decode cX9_chance 78 = .ok (.ishl, 1) := by decide +kernel
theorem dX9_chance_79 : decode cX9_chance 79 = .ok (.if_icmp .ge 33, 3) := by decide +kernel
theorem dX9_chance_82 : decode cX9_chance 82 = .ok (.aload_n 0, 1) := by decide +kernel
theorem dX9_chance_83 : decode cX9_chance 83 = .ok (.iload 8, 2) := by decide +kernel
theorem dX9_chance_85 : decode cX9_chance 85 = .ok (.iload 5, 2) := by decide +kernel
theorem dX9_chance_87 : decode cX9_chance 87 = .ok (.invokevirtual 253, 3) := by decide +kernel
theorem dX9_chance_90 : decode cX9_chance 90 = .ok (.ifCond .eq 16, 3) := by decide +kernel
theorem dX9_chance_93 : decode cX9_chance 93 = .ok (.iload 7, 2) := by decide +kernel
theorem dX9_chance_95 : decode cX9_chance 95 = .ok (.iload 8, 2) := by decide +kernel
theorem dX9_chance_97 : decode cX9_chance 97 = .ok (.iload 5, 2) := by decide +kernel
theorem dX9_chance_99 : decode cX9_chance 99 = .ok (.iload_n 3, 1) := by decide +kernel
theorem dX9_chance_100 : decode cX9_chance 100 = .ok (.invokestatic 256, 3) := by decide +kernel
theorem dX9_chance_103 : decode cX9_chance 103 = .ok (.iadd, 1) := by decide +kernel
theorem dX9_chance_104 : decode cX9_chance 104 = .ok (.istore 7, 2) := by decide +kernel
theorem dX9_chance_106 : decode cX9_chance 106 = .ok (.iinc 8 1, 3) := by decide +kernel
theorem dX9_chance_109 : decode cX9_chance 109 = .ok (.goto (-36), 3) := by decide +kernel
theorem dX9_chance_112 : decode cX9_chance 112 = .ok (.iload 7, 2) := by decide +kernel
theorem dX9_chance_114 : decode cX9_chance 114 = .ok (.iload 6, 2) := by decide +kernel
theorem dX9_chance_116 : decode cX9_chance 116 = .ok (.iload 4, 2) := by decide +kernel
theorem dX9_chance_118 : decode cX9_chance 118 = .ok (.invokestatic 246, 3) := by decide +kernel
theorem dX9_chance_121 : decode cX9_chance 121 = .ok (.ireturn, 1) := by decide +kernel
theorem dX9_seed_0 : decode cX9_seed 0 = .ok (.aload_n 0, 1) := by decide +kernel
theorem dX9_seed_1 : decode cX9_seed 1 = .ok (.getfield 72, 3) := by decide +kernel
theorem dX9_seed_4 : decode cX9_seed 4 = .ok (.lstore_n 3, 1) := by decide +kernel
theorem dX9_seed_5 : decode cX9_seed 5 = .ok (.aload_n 0, 1) := by decide +kernel
theorem dX9_seed_6 : decode cX9_seed 6 = .ok (.lload_n 1, 1) := by decide +kernel
theorem dX9_seed_7 : decode cX9_seed 7 = .ok (.putfield 72, 3) := by decide +kernel
theorem dX9_seed_10 : decode cX9_seed 10 = .ok (.lload_n 3, 1) := by decide +kernel
theorem dX9_seed_11 : decode cX9_seed 11 = .ok (.lreturn, 1) := by decide +kernel
theorem dX9_drawn_0 : decode cX9_drawn 0 = .ok (.aload_n 0, 1) := by decide +kernel
theorem dX9_drawn_1 : decode cX9_drawn 1 = .ok (.getfield 50, 3) := by decide +kernel
theorem dX9_drawn_4 : decode cX9_drawn 4 = .ok (.iload_n 1, 1) := by decide +kernel
theorem dX9_drawn_5 : decode cX9_drawn 5 = .ok (.invokevirtual 176, 3) := by decide +kernel
theorem dX9_drawn_8 : decode cX9_drawn 8 = .ok (.ifCond .eq 14, 3) := by decide +kernel
theorem dX9_drawn_11 : decode cX9_drawn 11 = .ok (.iload_n 2, 1) := by decide +kernel
theorem dX9_drawn_12 : decode cX9_drawn 12 = .ok (.iconst 1, 1) := by decide +kernel
theorem dX9_drawn_13 : decode cX9_drawn 13 = .ok (.if_icmp .lt 9, 3) := by decide +kernel
theorem dX9_drawn_16 : decode cX9_drawn 16 = .ok (.iload_n 2, 1) := by decide +kernel
theorem dX9_drawn_17 : decode cX9_drawn 17 = .ok (.bipush 10, 2) := by decide +kernel
theorem dX9_drawn_19 : decode cX9_drawn 19 = .ok (.if_icmp .le 6, 3) := by decide +kernel
theorem dX9_drawn_22 : decode cX9_drawn 22 = .ok (.bipush (-2), 2) := by decide +kernel
theorem dX9_drawn_24 : decode cX9_drawn 24 = .ok (.ireturn, 1) := by decide +kernel
theorem dX9_drawn_25 : decode cX9_drawn 25 = .ok (.aload_n 0, 1) := by decide +kernel
theorem dX9_drawn_26 : decode cX9_drawn 26 = .ok (.getfield 23, 3) := by decide +kernel
theorem dX9_drawn_29 : decode cX9_drawn 29 = .ok (.aload_n 0, 1) := by decide +kernel
theorem dX9_drawn_30 : decode cX9_drawn 30 = .ok (.getfield 19, 3) := by decide +kernel
theorem dX9_drawn_33 : decode cX9_drawn 33 = .ok (.invokevirtual 230, 3) := by decide +kernel
theorem dX9_drawn_36 : decode cX9_drawn 36 = .ok (.iconst 0, 1) := by decide +kernel
theorem dX9_drawn_37 : decode cX9_drawn 37 = .ok (.istore_n 3, 1) := by decide +kernel
theorem dX9_drawn_38 : decode cX9_drawn 38 = .ok (.iconst 0, 1) := by decide +kernel
theorem dX9_drawn_39 : decode cX9_drawn 39 = .ok (.istore 4, 2) := by decide +kernel
theorem dX9_drawn_41 : decode cX9_drawn 41 = .ok (.iload 4, 2) := by decide +kernel
theorem dX9_drawn_43 : decode cX9_drawn 43 = .ok (.iload_n 2, 1) := by decide +kernel
theorem dX9_drawn_44 : decode cX9_drawn 44 = .ok (.if_icmp .ge 69, 3) := by decide +kernel
theorem dX9_drawn_47 : decode cX9_drawn 47 = .ok (.aload_n 0, 1) := by decide +kernel
theorem dX9_drawn_48 : decode cX9_drawn 48 = .ok (.aload_n 0, 1) := by decide +kernel
theorem dX9_drawn_49 : decode cX9_drawn 49 = .ok (.getfield 72, 3) := by decide +kernel
theorem dX9_drawn_52 : decode cX9_drawn 52 = .ok (.ldc2_w 260, 3) := by decide +kernel
theorem dX9_drawn_55 : decode cX9_drawn 55 = .ok (.lmul, 1) := by decide +kernel
theorem dX9_drawn_56 : decode cX9_drawn 56 = .ok (.ldc2_w 262, 3) := by decide +kernel
theorem dX9_drawn_59 : decode cX9_drawn 59 = .ok (.ladd, 1) := by decide +kernel
theorem dX9_drawn_60 : decode cX9_drawn 60 = .ok (.putfield 72, 3) := by decide +kernel
theorem dX9_drawn_63 : decode cX9_drawn 63 = .ok (.aload_n 0, 1) := by decide +kernel
theorem dX9_drawn_64 : decode cX9_drawn 64 = .ok (.aload_n 0, 1) := by decide +kernel
theorem dX9_drawn_65 : decode cX9_drawn 65 = .ok (.getfield 72, 3) := by decide +kernel
theorem dX9_drawn_68 : decode cX9_drawn 68 = .ok (.bipush 33, 2) := by decide +kernel
theorem dX9_drawn_70 : decode cX9_drawn 70 = .ok (.lushr, 1) := by decide +kernel
theorem dX9_drawn_71 : decode cX9_drawn 71 = .ok (.l2i, 1) := by decide +kernel
theorem dX9_drawn_72 : decode cX9_drawn 72 = .ok (.invokevirtual 264, 3) := by decide +kernel
theorem dX9_drawn_75 : decode cX9_drawn 75 = .ok (.aload_n 0, 1) := by decide +kernel
theorem dX9_drawn_76 : decode cX9_drawn 76 = .ok (.getfield 57, 3) := by decide +kernel
theorem dX9_drawn_79 : decode cX9_drawn 79 = .ok (.aload_n 0, 1) := by decide +kernel
theorem dX9_drawn_80 : decode cX9_drawn 80 = .ok (.getfield 23, 3) := by decide +kernel
theorem dX9_drawn_83 : decode cX9_drawn 83 = .ok (.invokevirtual 107, 3) := by decide +kernel
theorem dX9_drawn_86 : decode cX9_drawn 86 = .ok (.aload_n 0, 1) := by decide +kernel
theorem dX9_drawn_87 : decode cX9_drawn 87 = .ok (.getfield 57, 3) := by decide +kernel
theorem dX9_drawn_90 : decode cX9_drawn 90 = .ok (.aload_n 0, 1) := by decide +kernel
theorem dX9_drawn_91 : decode cX9_drawn 91 = .ok (.getfield 50, 3) := by decide +kernel
theorem dX9_drawn_94 : decode cX9_drawn 94 = .ok (.invokevirtual 202, 3) := by decide +kernel
theorem dX9_drawn_97 : decode cX9_drawn 97 = .ok (.iload_n 3, 1) := by decide +kernel
theorem dX9_drawn_98 : decode cX9_drawn 98 = .ok (.aload_n 0, 1) := by decide +kernel
theorem dX9_drawn_99 : decode cX9_drawn 99 = .ok (.getfield 57, 3) := by decide +kernel
theorem dX9_drawn_102 : decode cX9_drawn 102 = .ok (.getfield 206, 3) := by decide +kernel
theorem dX9_drawn_105 : decode cX9_drawn 105 = .ok (.iadd, 1) := by decide +kernel
theorem dX9_drawn_106 : decode cX9_drawn 106 = .ok (.istore_n 3, 1) := by decide +kernel
theorem dX9_drawn_107 : decode cX9_drawn 107 = .ok (.iinc 4 1, 3) := by decide +kernel
theorem dX9_drawn_110 : decode cX9_drawn 110 = .ok (.goto (-69), 3) := by decide +kernel
theorem dX9_drawn_113 : decode cX9_drawn 113 = .ok (.iload_n 3, 1) := by decide +kernel
theorem dX9_drawn_114 : decode cX9_drawn 114 = .ok (.ireturn, 1) := by decide +kernel
theorem dX9_keep_0 : decode cX9_keep 0 = .ok (.aload_n 0, 1) := by decide +kernel
theorem dX9_keep_1 : decode cX9_keep 1 = .ok (.getfield 29, 3) := by decide +kernel
theorem dX9_keep_4 : decode cX9_keep 4 = .ok (.iload_n 1, 1) := by decide +kernel
theorem dX9_keep_5 : decode cX9_keep 5 = .ok (.invokevirtual 267, 3) := by decide +kernel
theorem dX9_keep_8 : decode cX9_keep 8 = .ok (.ifCond .ne 5, 3) := by decide +kernel
theorem dX9_keep_11 : decode cX9_keep 11 = .ok (.iconst (-1), 1) := by decide +kernel
theorem dX9_keep_12 : decode cX9_keep 12 = .ok (.ireturn, 1) := by decide +kernel
theorem dX9_keep_13 : decode cX9_keep 13 = .ok (.aload_n 0, 1) := by decide +kernel
theorem dX9_keep_14 : decode cX9_keep 14 = .ok (.getfield 29, 3) := by decide +kernel
theorem dX9_keep_17 : decode cX9_keep 17 = .ok (.iload_n 1, 1) := by decide +kernel
theorem dX9_keep_18 : decode cX9_keep 18 = .ok (.aload_n 0, 1) := by decide +kernel
theorem dX9_keep_19 : decode cX9_keep 19 = .ok (.getfield 19, 3) := by decide +kernel
theorem dX9_keep_22 : decode cX9_keep 22 = .ok (.invokevirtual 268, 3) := by decide +kernel
theorem dX9_keep_25 : decode cX9_keep 25 = .ok (.aload_n 0, 1) := by decide +kernel
theorem dX9_keep_26 : decode cX9_keep 26 = .ok (.getfield 19, 3) := by decide +kernel
theorem dX9_keep_29 : decode cX9_keep 29 = .ok (.getfield 104, 3) := by decide +kernel
theorem dX9_keep_32 : decode cX9_keep 32 = .ok (.ireturn, 1) := by decide +kernel
theorem dX9_again_0 : decode cX9_again 0 = .ok (.aload_n 0, 1) := by decide +kernel
theorem dX9_again_1 : decode cX9_again 1 = .ok (.getfield 29, 3) := by decide +kernel
theorem dX9_again_4 : decode cX9_again 4 = .ok (.iload_n 1, 1) := by decide +kernel
theorem dX9_again_5 : decode cX9_again 5 = .ok (.invokevirtual 267, 3) := by decide +kernel
theorem dX9_again_8 : decode cX9_again 8 = .ok (.ifCond .ne 5, 3) := by decide +kernel
theorem dX9_again_11 : decode cX9_again 11 = .ok (.iconst (-1), 1) := by decide +kernel
theorem dX9_again_12 : decode cX9_again 12 = .ok (.ireturn, 1) := by decide +kernel
theorem dX9_again_13 : decode cX9_again 13 = .ok (.aload_n 0, 1) := by decide +kernel
theorem dX9_again_14 : decode cX9_again 14 = .ok (.getfield 29, 3) := by decide +kernel
theorem dX9_again_17 : decode cX9_again 17 = .ok (.iload_n 1, 1) := by decide +kernel
theorem dX9_again_18 : decode cX9_again 18 = .ok (.invokevirtual 272, 3) := by decide +kernel
theorem dX9_again_21 : decode cX9_again 21 = .ok (.ifCond .ne 6, 3) := by decide +kernel
theorem dX9_again_24 : decode cX9_again 24 = .ok (.bipush (-3), 2) := by decide +kernel
theorem dX9_again_26 : decode cX9_again 26 = .ok (.ireturn, 1) := by decide +kernel
theorem dX9_again_27 : decode cX9_again 27 = .ok (.aload_n 0, 1) := by decide +kernel
theorem dX9_again_28 : decode cX9_again 28 = .ok (.getfield 29, 3) := by decide +kernel
theorem dX9_again_31 : decode cX9_again 31 = .ok (.iload_n 1, 1) := by decide +kernel
theorem dX9_again_32 : decode cX9_again 32 = .ok (.aload_n 0, 1) := by decide +kernel
theorem dX9_again_33 : decode cX9_again 33 = .ok (.getfield 19, 3) := by decide +kernel
theorem dX9_again_36 : decode cX9_again 36 = .ok (.invokevirtual 275, 3) := by decide +kernel
theorem dX9_again_39 : decode cX9_again 39 = .ok (.aload_n 0, 1) := by decide +kernel
theorem dX9_again_40 : decode cX9_again 40 = .ok (.getfield 36, 3) := by decide +kernel
theorem dX9_again_43 : decode cX9_again 43 = .ok (.invokevirtual 100, 3) := by decide +kernel
theorem dX9_again_46 : decode cX9_again 46 = .ok (.aload_n 0, 1) := by decide +kernel
theorem dX9_again_47 : decode cX9_again 47 = .ok (.getfield 19, 3) := by decide +kernel
theorem dX9_again_50 : decode cX9_again 50 = .ok (.getfield 104, 3) := by decide +kernel
theorem dX9_again_53 : decode cX9_again 53 = .ok (.ireturn, 1) := by decide +kernel
theorem dX9_isLevel_0 : decode cX9_isLevel 0 = .ok (.iload_n 0, 1) := by decide +kernel
theorem dX9_isLevel_1 : decode cX9_isLevel 1 = .ok (.ifCond .eq 8, 3) := by decide +kernel
theorem dX9_isLevel_4 : decode cX9_isLevel 4 = .ok (.iload_n 0, 1) := by decide +kernel
theorem dX9_isLevel_5 : decode cX9_isLevel 5 = .ok (.iconst 1, 1) := by decide +kernel
theorem dX9_isLevel_6 : decode cX9_isLevel 6 = .ok (.if_icmp .ne 7, 3) := by decide +kernel
theorem dX9_isLevel_9 : decode cX9_isLevel 9 = .ok (.iconst 1, 1) := by decide +kernel
theorem dX9_isLevel_10 : decode cX9_isLevel 10 = .ok (.goto 4, 3) := by decide +kernel
theorem dX9_isLevel_13 : decode cX9_isLevel 13 = .ok (.iconst 0, 1) := by decide +kernel
theorem dX9_isLevel_14 : decode cX9_isLevel 14 = .ok (.ireturn, 1) := by decide +kernel
theorem dX9_isLetter_0 : decode cX9_isLetter 0 = .ok (.iload_n 0, 1) := by decide +kernel
theorem dX9_isLetter_1 : decode cX9_isLetter 1 = .ok (.ifCond .lt 14, 3) := by decide +kernel
theorem dX9_isLetter_4 : decode cX9_isLetter 4 = .ok (.iload_n 0, 1) := by decide +kernel
theorem dX9_isLetter_5 : decode cX9_isLetter 5 = .ok (.sipush 255, 3) := by decide +kernel
theorem dX9_isLetter_8 : decode cX9_isLetter 8 = .ok (.if_icmp .gt 7, 3) := by decide +kernel
theorem dX9_isLetter_11 : decode cX9_isLetter 11 = .ok (.iconst 1, 1) := by decide +kernel
theorem dX9_isLetter_12 : decode cX9_isLetter 12 = .ok (.goto 4, 3) := by decide +kernel
theorem dX9_isLetter_15 : decode cX9_isLetter 15 = .ok (.iconst 0, 1) := by decide +kernel
theorem dX9_isLetter_16 : decode cX9_isLetter 16 = .ok (.ireturn, 1) := by decide +kernel
theorem dX9_withoutLastDoings_0 : decode cX9_withoutLastDoings 0 = .ok (.lload_n 0, 1) := by decide +kernel
theorem dX9_withoutLastDoings_1 : decode cX9_withoutLastDoings 1 = .ok (.lstore_n 3, 1) := by decide +kernel
theorem dX9_withoutLastDoings_2 : decode cX9_withoutLastDoings 2 = .ok (.iconst 0, 1) := by decide +kernel
theorem dX9_withoutLastDoings_3 : decode cX9_withoutLastDoings 3 = .ok (.istore 5, 2) := by decide +kernel
theorem dX9_withoutLastDoings_5 : decode cX9_withoutLastDoings 5 = .ok (.iload 5, 2) := by decide +kernel
theorem dX9_withoutLastDoings_7 : decode cX9_withoutLastDoings 7 = .ok (.iload_n 2, 1) := by decide +kernel
theorem dX9_withoutLastDoings_8 : decode cX9_withoutLastDoings 8 = .ok (.if_icmp .ge 15, 3) := by decide +kernel
theorem dX9_withoutLastDoings_11 : decode cX9_withoutLastDoings 11 = .ok (.lload_n 3, 1) := by decide +kernel
theorem dX9_withoutLastDoings_12 : decode cX9_withoutLastDoings 12 = .ok (.ldc2_w 233, 3) := by decide +kernel
theorem dX9_withoutLastDoings_15 : decode cX9_withoutLastDoings 15 = .ok (.ldiv, 1) := by decide +kernel
theorem dX9_withoutLastDoings_16 : decode cX9_withoutLastDoings 16 = .ok (.lstore_n 3, 1) := by decide +kernel
theorem dX9_withoutLastDoings_17 : decode cX9_withoutLastDoings 17 = .ok (.iinc 5 1, 3) := by decide +kernel
theorem dX9_withoutLastDoings_20 : decode cX9_withoutLastDoings 20 = .ok (.goto (-15), 3) := by decide +kernel
theorem dX9_withoutLastDoings_23 : decode cX9_withoutLastDoings 23 = .ok (.lload_n 3, 1) := by decide +kernel
theorem dX9_withoutLastDoings_24 : decode cX9_withoutLastDoings 24 = .ok (.lreturn, 1) := by decide +kernel
theorem dX9_isSo_0 : decode cX9_isSo 0 = .ok (.iload_n 1, 1) := by decide +kernel
theorem dX9_isSo_1 : decode cX9_isSo 1 = .ok (.tableswitch 154 1 6 #[39, 52, 58, 89, 95, 108], 39) := by decide +kernel
theorem dX9_isSo_40 : decode cX9_isSo 40 = .ok (.aload_n 0, 1) := by decide +kernel
theorem dX9_isSo_41 : decode cX9_isSo 41 = .ok (.iload_n 2, 1) := by decide +kernel
theorem dX9_isSo_42 : decode cX9_isSo 42 = .ok (.bipush 100, 2) := by decide +kernel
theorem dX9_isSo_44 : decode cX9_isSo 44 = .ok (.idiv, 1) := by decide +kernel
theorem dX9_isSo_45 : decode cX9_isSo 45 = .ok (.iload_n 2, 1) := by decide +kernel
theorem dX9_isSo_46 : decode cX9_isSo 46 = .ok (.bipush 100, 2) := by decide +kernel
theorem dX9_isSo_48 : decode cX9_isSo 48 = .ok (.irem, 1) := by decide +kernel
theorem dX9_isSo_49 : decode cX9_isSo 49 = .ok (.invokevirtual 278, 3) := by decide +kernel
theorem dX9_isSo_52 : decode cX9_isSo 52 = .ok (.ireturn, 1) := by decide +kernel
theorem dX9_isSo_53 : decode cX9_isSo 53 = .ok (.aload_n 0, 1) := by decide +kernel
theorem dX9_isSo_54 : decode cX9_isSo 54 = .ok (.iload_n 2, 1) := by decide +kernel
theorem dX9_isSo_55 : decode cX9_isSo 55 = .ok (.invokevirtual 281, 3) := by decide +kernel
theorem dX9_isSo_58 : decode cX9_isSo 58 = .ok (.ireturn, 1) := by decide +kernel
theorem dX9_isSo_59 : decode cX9_isSo 59 = .ok (.aload_n 0, 1) := by decide +kernel
theorem dX9_isSo_60 : decode cX9_isSo 60 = .ok (.getfield 57, 3) := by decide +kernel
theorem dX9_isSo_63 : decode cX9_isSo 63 = .ok (.aload_n 0, 1) := by decide +kernel
theorem dX9_isSo_64 : decode cX9_isSo 64 = .ok (.getfield 23, 3) := by decide +kernel
theorem dX9_isSo_67 : decode cX9_isSo 67 = .ok (.invokevirtual 107, 3) := by decide +kernel
theorem dX9_isSo_70 : decode cX9_isSo 70 = .ok (.aload_n 0, 1) := by decide +kernel
theorem dX9_isSo_71 : decode cX9_isSo 71 = .ok (.getfield 57, 3) := by decide +kernel
theorem dX9_isSo_74 : decode cX9_isSo 74 = .ok (.getfield 110, 3) := by decide +kernel
theorem dX9_isSo_77 : decode cX9_isSo 77 = .ok (.invokevirtual 114, 3) := by decide +kernel
theorem dX9_isSo_80 : decode cX9_isSo 80 = .ok (.iload_n 2, 1) := by decide +kernel
theorem dX9_isSo_81 : decode cX9_isSo 81 = .ok (.if_icmp .ne 7, 3) := by decide +kernel
theorem dX9_isSo_84 : decode cX9_isSo 84 = .ok (.iconst 1, 1) := by decide +kernel
theorem dX9_isSo_85 : decode cX9_isSo 85 = .ok (.goto 4, 3) := by decide +kernel
theorem dX9_isSo_88 : decode cX9_isSo 88 = .ok (.iconst 0, 1) := by decide +kernel
theorem dX9_isSo_89 : decode cX9_isSo 89 = .ok (.ireturn, 1) := by decide +kernel
theorem dX9_isSo_90 : decode cX9_isSo 90 = .ok (.aload_n 0, 1) := by decide +kernel
theorem dX9_isSo_91 : decode cX9_isSo 91 = .ok (.iload_n 2, 1) := by decide +kernel
theorem dX9_isSo_92 : decode cX9_isSo 92 = .ok (.invokevirtual 284, 3) := by decide +kernel
theorem dX9_isSo_95 : decode cX9_isSo 95 = .ok (.ireturn, 1) := by decide +kernel
theorem dX9_isSo_96 : decode cX9_isSo 96 = .ok (.aload_n 0, 1) := by decide +kernel
theorem dX9_isSo_97 : decode cX9_isSo 97 = .ok (.iload_n 2, 1) := by decide +kernel
theorem dX9_isSo_98 : decode cX9_isSo 98 = .ok (.bipush 10, 2) := by decide +kernel
theorem dX9_isSo_100 : decode cX9_isSo 100 = .ok (.idiv, 1) := by decide +kernel
theorem dX9_isSo_101 : decode cX9_isSo 101 = .ok (.iload_n 2, 1) := by decide +kernel
theorem dX9_isSo_102 : decode cX9_isSo 102 = .ok (.bipush 10, 2) := by decide +kernel
theorem dX9_isSo_104 : decode cX9_isSo 104 = .ok (.irem, 1) := by decide +kernel
theorem dX9_isSo_105 : decode cX9_isSo 105 = .ok (.invokevirtual 287, 3) := by decide +kernel
theorem dX9_isSo_108 : decode cX9_isSo 108 = .ok (.ireturn, 1) := by decide +kernel
theorem dX9_isSo_109 : decode cX9_isSo 109 = .ok (.aload_n 0, 1) := by decide +kernel
theorem dX9_isSo_110 : decode cX9_isSo 110 = .ok (.getfield 64, 3) := by decide +kernel
theorem dX9_isSo_113 : decode cX9_isSo 113 = .ok (.aload_n 0, 1) := by decide +kernel
theorem dX9_isSo_114 : decode cX9_isSo 114 = .ok (.getfield 23, 3) := by decide +kernel
theorem dX9_isSo_117 : decode cX9_isSo 117 = .ok (.aload_n 0, 1) := by decide +kernel
theorem dX9_isSo_118 : decode cX9_isSo 118 = .ok (.getfield 57, 3) := by decide +kernel
theorem dX9_isSo_121 : decode cX9_isSo 121 = .ok (.invokevirtual 119, 3) := by decide +kernel
theorem dX9_isSo_124 : decode cX9_isSo 124 = .ok (.aload_n 0, 1) := by decide +kernel
theorem dX9_isSo_125 : decode cX9_isSo 125 = .ok (.getfield 64, 3) := by decide +kernel
theorem dX9_isSo_128 : decode cX9_isSo 128 = .ok (.getfield 126, 3) := by decide +kernel
theorem dX9_isSo_131 : decode cX9_isSo 131 = .ok (.bipush (-9), 2) := by decide +kernel
theorem dX9_isSo_133 : decode cX9_isSo 133 = .ok (.if_icmp .eq 20, 3) := by decide +kernel
theorem dX9_isSo_136 : decode cX9_isSo 136 = .ok (.aload_n 0, 1) := by decide +kernel
theorem dX9_isSo_137 : decode cX9_isSo 137 = .ok (.getfield 64, 3) := by decide +kernel
theorem dX9_isSo_140 : decode cX9_isSo 140 = .ok (.getfield 290, 3) := by decide +kernel
theorem dX9_isSo_143 : decode cX9_isSo 143 = .ok (.iconst 0, 1) := by decide +kernel
theorem dX9_isSo_144 : decode cX9_isSo 144 = .ok (.iaload, 1) := by decide +kernel
theorem dX9_isSo_145 : decode cX9_isSo 145 = .ok (.iload_n 2, 1) := by decide +kernel
theorem dX9_isSo_146 : decode cX9_isSo 146 = .ok (.if_icmp .ne 7, 3) := by decide +kernel
theorem dX9_isSo_149 : decode cX9_isSo 149 = .ok (.iconst 1, 1) := by decide +kernel
theorem dX9_isSo_150 : decode cX9_isSo 150 = .ok (.goto 4, 3) := by decide +kernel
theorem dX9_isSo_153 : decode cX9_isSo 153 = .ok (.iconst 0, 1) := by decide +kernel
theorem dX9_isSo_154 : decode cX9_isSo 154 = .ok (.ireturn, 1) := by decide +kernel
theorem dX9_isSo_155 : decode cX9_isSo 155 = .ok (.iconst 0, 1) := by decide +kernel
theorem dX9_isSo_156 : decode cX9_isSo 156 = .ok (.ireturn, 1) := by decide +kernel
theorem dX9_couldHear_0 : decode cX9_couldHear 0 = .ok (.iload_n 1, 1) := by decide +kernel
theorem dX9_couldHear_1 : decode cX9_couldHear 1 = .ok (.invokestatic 163, 3) := by decide +kernel
theorem dX9_couldHear_4 : decode cX9_couldHear 4 = .ok (.ifCond .eq 19, 3) := by decide +kernel
theorem dX9_couldHear_7 : decode cX9_couldHear 7 = .ok (.iload_n 2, 1) := by decide +kernel
theorem dX9_couldHear_8 : decode cX9_couldHear 8 = .ok (.iconst 1, 1) := by decide +kernel
theorem dX9_couldHear_9 : decode cX9_couldHear 9 = .ok (.if_icmp .lt 14, 3) := by decide +kernel
theorem dX9_couldHear_12 : decode cX9_couldHear 12 = .ok (.aload_n 0, 1) := by decide +kernel
theorem dX9_couldHear_13 : decode cX9_couldHear 13 = .ok (.getfield 23, 3) := by decide +kernel
theorem dX9_couldHear_16 : decode cX9_couldHear 16 = .ok (.iload_n 2, 1) := by decide +kernel
theorem dX9_couldHear_17 : decode cX9_couldHear 17 = .ok (.invokevirtual 166, 3) := by decide +kernel
theorem dX9_couldHear_20 : decode cX9_couldHear 20 = .ok (.ifCond .ne 5, 3) := by decide +kernel
theorem dX9_couldHear_23 : decode cX9_couldHear 23 = .ok (.iconst 0, 1) := by decide +kernel
theorem dX9_couldHear_24 : decode cX9_couldHear 24 = .ok (.ireturn, 1) := by decide +kernel
theorem dX9_couldHear_25 : decode cX9_couldHear 25 = .ok (.aload_n 0, 1) := by decide +kernel
theorem dX9_couldHear_26 : decode cX9_couldHear 26 = .ok (.getfield 23, 3) := by decide +kernel
theorem dX9_couldHear_29 : decode cX9_couldHear 29 = .ok (.iload_n 1, 1) := by decide +kernel
theorem dX9_couldHear_30 : decode cX9_couldHear 30 = .ok (.iload_n 2, 1) := by decide +kernel
theorem dX9_couldHear_31 : decode cX9_couldHear 31 = .ok (.invokevirtual 169, 3) := by decide +kernel
theorem dX9_couldHear_34 : decode cX9_couldHear 34 = .ok (.iconst 1, 1) := by decide +kernel
theorem dX9_couldHear_35 : decode cX9_couldHear 35 = .ok (.ireturn, 1) := by decide +kernel
theorem dX9_couldFlip_0 : decode cX9_couldFlip 0 = .ok (.aload_n 0, 1) := by decide +kernel
theorem dX9_couldFlip_1 : decode cX9_couldFlip 1 = .ok (.getfield 23, 3) := by decide +kernel
theorem dX9_couldFlip_4 : decode cX9_couldFlip 4 = .ok (.iload_n 1, 1) := by decide +kernel
theorem dX9_couldFlip_5 : decode cX9_couldFlip 5 = .ok (.invokevirtual 150, 3) := by decide +kernel
theorem dX9_couldFlip_8 : decode cX9_couldFlip 8 = .ok (.ifCond .ne 5, 3) := by decide +kernel
theorem dX9_couldFlip_11 : decode cX9_couldFlip 11 = .ok (.iconst 0, 1) := by decide +kernel
theorem dX9_couldFlip_12 : decode cX9_couldFlip 12 = .ok (.ireturn, 1) := by decide +kernel
theorem dX9_couldFlip_13 : decode cX9_couldFlip 13 = .ok (.aload_n 0, 1) := by decide +kernel
theorem dX9_couldFlip_14 : decode cX9_couldFlip 14 = .ok (.getfield 23, 3) := by decide +kernel
theorem dX9_couldFlip_17 : decode cX9_couldFlip 17 = .ok (.iload_n 1, 1) := by decide +kernel
theorem dX9_couldFlip_18 : decode cX9_couldFlip 18 = .ok (.invokevirtual 186, 3) := by decide +kernel
theorem dX9_couldFlip_21 : decode cX9_couldFlip 21 = .ok (.iconst 1, 1) := by decide +kernel
theorem dX9_couldFlip_22 : decode cX9_couldFlip 22 = .ok (.ireturn, 1) := by decide +kernel
theorem dX9_couldCut_0 : decode cX9_couldCut 0 = .ok (.iload_n 1, 1) := by decide +kernel
theorem dX9_couldCut_1 : decode cX9_couldCut 1 = .ok (.iconst 1, 1) := by decide +kernel
theorem dX9_couldCut_2 : decode cX9_couldCut 2 = .ok (.if_icmp .lt 14, 3) := by decide +kernel
theorem dX9_couldCut_5 : decode cX9_couldCut 5 = .ok (.iload_n 1, 1) := by decide +kernel
theorem dX9_couldCut_6 : decode cX9_couldCut 6 = .ok (.aload_n 0, 1) := by decide +kernel
theorem dX9_couldCut_7 : decode cX9_couldCut 7 = .ok (.getfield 23, 3) := by decide +kernel
theorem dX9_couldCut_10 : decode cX9_couldCut 10 = .ok (.getfield 104, 3) := by decide +kernel
theorem dX9_couldCut_13 : decode cX9_couldCut 13 = .ok (.if_icmp .le 5, 3) := by decide +kernel
theorem dX9_couldCut_16 : decode cX9_couldCut 16 = .ok (.iconst 0, 1) := by decide +kernel
theorem dX9_couldCut_17 : decode cX9_couldCut 17 = .ok (.ireturn, 1) := by decide +kernel
theorem dX9_couldCut_18 : decode cX9_couldCut 18 = .ok (.aload_n 0, 1) := by decide +kernel
theorem dX9_couldCut_19 : decode cX9_couldCut 19 = .ok (.getfield 23, 3) := by decide +kernel
theorem dX9_couldCut_22 : decode cX9_couldCut 22 = .ok (.iload_n 1, 1) := by decide +kernel
theorem dX9_couldCut_23 : decode cX9_couldCut 23 = .ok (.invokevirtual 196, 3) := by decide +kernel
theorem dX9_couldCut_26 : decode cX9_couldCut 26 = .ok (.iconst 1, 1) := by decide +kernel
theorem dX9_couldCut_27 : decode cX9_couldCut 27 = .ok (.ireturn, 1) := by decide +kernel
theorem dX9_isBestBit_0 : decode cX9_isBestBit 0 = .ok (.iload_n 2, 1) := by decide +kernel
