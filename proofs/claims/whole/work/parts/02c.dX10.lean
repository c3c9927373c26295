theorem dX10_init_0 : decode cX10_init 0 = .ok (.aload_n 0, 1) := by decide +kernel
theorem dX10_init_1 : decode cX10_init 1 = .ok (.invokespecial 1, 3) := by decide +kernel
theorem dX10_init_4 : decode cX10_init 4 = .ok (.aload_n 0, 1) := by decide +kernel
theorem dX10_init_5 : decode cX10_init 5 = .ok (.bipush 8, 2) := by decide +kernel
theorem dX10_init_7 : decode cX10_init 7 = .ok (.newarray .int, 2) := by decide +kernel
theorem dX10_init_9 : decode cX10_init 9 = .ok (.putfield 7, 3) := by decide +kernel
theorem dX10_init_12 : decode cX10_init 12 = .ok (.aload_n 0, 1) := by decide +kernel
theorem dX10_init_13 : decode cX10_init 13 = .ok (.bipush 6, 2) := by decide +kernel
theorem dX10_init_15 : decode cX10_init 15 = .ok (.newarray .int, 2) := by decide +kernel
theorem dX10_init_17 : decode cX10_init 17 = .ok (.putfield 13, 3) := by decide +kernel
theorem dX10_init_20 : decode cX10_init 20 = .ok (.aload_n 0, 1) := by decide +kernel
theorem dX10_init_21 : decode cX10_init 21 = .ok (.bipush 60, 2) := by decide +kernel
theorem dX10_init_23 : decode cX10_init 23 = .ok (.newarray .int, 2) := by decide +kernel
theorem dX10_init_25 : decode cX10_init 25 = .ok (.putfield 16, 3) := by decide +kernel
theorem dX10_init_28 : decode cX10_init 28 = .ok (.aload_n 0, 1) := by decide +kernel
theorem dX10_init_29 : decode cX10_init 29 = .ok (.bipush 6, 2) := by decide +kernel
theorem dX10_init_31 : decode cX10_init 31 = .ok (.newarray .int, 2) := by decide +kernel
theorem dX10_init_33 : decode cX10_init 33 = .ok (.putfield 19, 3) := by decide +kernel
theorem dX10_init_36 : decode cX10_init 36 = .ok (.aload_n 0, 1) := by decide +kernel
theorem dX10_init_37 : decode cX10_init 37 = .ok (.bipush 6, 2) := by decide +kernel
theorem dX10_init_39 : decode cX10_init 39 = .ok (.newarray .int, 2) := by decide +kernel
theorem dX10_init_41 : decode cX10_init 41 = .ok (.putfield 22, 3) := by decide +kernel
theorem dX10_init_44 : decode cX10_init 44 = .ok (.aload_n 0, 1) := by decide +kernel
theorem dX10_init_45 : decode cX10_init 45 = .ok (.bipush 6, 2) := by decide +kernel
theorem dX10_init_47 : decode cX10_init 47 = .ok (.newarray .int, 2) := by decide +kernel
theorem dX10_init_49 : decode cX10_init 49 = .ok (.putfield 25, 3) := by decide +kernel
theorem dX10_init_52 : decode cX10_init 52 = .ok (.aload_n 0, 1) := by decide +kernel
theorem dX10_init_53 : decode cX10_init 53 = .ok (.bipush 6, 2) := by decide +kernel
theorem dX10_init_55 : decode cX10_init 55 = .ok (.newarray .int, 2) := by decide +kernel
theorem dX10_init_57 : decode cX10_init 57 = .ok (.putfield 28, 3) := by decide +kernel
theorem dX10_init_60 : decode cX10_init 60 = .ok (.aload_n 0, 1) := by decide +kernel
theorem dX10_init_61 : decode cX10_init 61 = .ok (.bipush 6, 2) := by decide +kernel
theorem dX10_init_63 : decode cX10_init 63 = .ok (.newarray .int, 2) := by decide +kernel
theorem dX10_init_65 : decode cX10_init 65 = .ok (.putfield 31, 3) := by decide +kernel
theorem dX10_init_68 : decode cX10_init 68 = .ok (.aload_n 0, 1) := by decide +kernel
theorem dX10_init_69 : decode cX10_init 69 = .ok (.bipush 120, 2) := by decide +kernel
theorem dX10_init_71 : decode cX10_init 71 = .ok (.newarray .int, 2) := by decide +kernel
theorem dX10_init_73 : decode cX10_init 73 = .ok (.putfield 34, 3) := by decide +kernel
theorem dX10_init_76 : decode cX10_init 76 = .ok (.aload_n 0, 1) := by decide +kernel
theorem dX10_init_77 : decode cX10_init 77 = .ok (.bipush 6, 2) := by decide +kernel
theorem dX10_init_79 : decode cX10_init 79 = .ok (.newarray .int, 2) := by decide +kernel
theorem dX10_init_81 : decode cX10_init 81 = .ok (.putfield 37, 3) := by decide +kernel
theorem dX10_init_84 : decode cX10_init 84 = .ok (.aload_n 0, 1) := by decide +kernel
theorem dX10_init_85 : decode cX10_init 85 = .ok (.iconst 3, 1) := by decide +kernel
theorem dX10_init_86 : decode cX10_init 86 = .ok (.newarray .int, 2) := by decide +kernel
theorem dX10_init_88 : decode cX10_init 88 = .ok (.putfield 40, 3) := by decide +kernel
theorem dX10_init_91 : decode cX10_init 91 = .ok (.aload_n 0, 1) := by decide +kernel
theorem dX10_init_92 : decode cX10_init 92 = .ok (.sipush 200, 3) := by decide +kernel
theorem dX10_init_95 : decode cX10_init 95 = .ok (.newarray .int, 2) := by decide +kernel
theorem dX10_init_97 : decode cX10_init 97 = .ok (.putfield 43, 3) := by decide +kernel
theorem dX10_init_100 : decode cX10_init 100 = .ok (.aload_n 0, 1) := by decide +kernel
theorem dX10_init_101 : decode cX10_init 101 = .ok (.sipush 200, 3) := by decide +kernel
theorem dX10_init_104 : decode cX10_init 104 = .ok (.newarray .int, 2) := by decide +kernel
theorem dX10_init_106 : decode cX10_init 106 = .ok (.putfield 46, 3) := by decide +kernel
theorem dX10_init_109 : decode cX10_init 109 = .ok (.aload_n 0, 1) := by decide +kernel
theorem dX10_init_110 : decode cX10_init 110 = .ok (.sipush 200, 3) := by decide +kernel
theorem dX10_init_113 : decode cX10_init 113 = .ok (.newarray .int, 2) := by decide +kernel
theorem dX10_init_115 : decode cX10_init 115 = .ok (.putfield 49, 3) := by decide +kernel
theorem dX10_init_118 : decode cX10_init 118 = .ok (.aload_n 0, 1) := by decide +kernel
theorem dX10_init_119 : decode cX10_init 119 = .ok (.sipush 200, 3) := by decide +kernel
theorem dX10_init_122 : decode cX10_init 122 = .ok (.newarray .int, 2) := by decide +kernel
theorem dX10_init_124 : decode cX10_init 124 = .ok (.putfield 52, 3) := by decide +kernel
theorem dX10_init_127 : decode cX10_init 127 = .ok (.aload_n 0, 1) := by decide +kernel
theorem dX10_init_128 : decode cX10_init 128 = .ok (.sipush 200, 3) := by decide +kernel
theorem dX10_init_131 : decode cX10_init 131 = .ok (.newarray .int, 2) := by decide +kernel
theorem dX10_init_133 : decode cX10_init 133 = .ok (.putfield 55, 3) := by decide +kernel
theorem dX10_init_136 : decode cX10_init 136 = .ok (.aload_n 0, 1) := by decide +kernel
theorem dX10_init_137 : decode cX10_init 137 = .ok (.sipush 366, 3) := by decide +kernel
theorem dX10_init_140 : decode cX10_init 140 = .ok (.newarray .int, 2) := by decide +kernel
theorem dX10_init_142 : decode cX10_init 142 = .ok (.putfield 58, 3) := by decide +kernel
theorem dX10_init_145 : decode cX10_init 145 = .ok (.aload_n 0, 1) := by decide +kernel
theorem dX10_init_146 : decode cX10_init 146 = .ok (.sipush 366, 3) := by decide +kernel
theorem dX10_init_149 : decode cX10_init 149 = .ok (.newarray .int, 2) := by decide +kernel
theorem dX10_init_151 : decode cX10_init 151 = .ok (.putfield 61, 3) := by decide +kernel
theorem dX10_init_154 : decode cX10_init 154 = .ok (.aload_n 0, 1) := by decide +kernel
theorem dX10_init_155 : decode cX10_init 155 = .ok (.bipush 61, 2) := by decide +kernel
theorem dX10_init_157 : decode cX10_init 157 = .ok (.newarray .int, 2) := by decide +kernel
theorem dX10_init_159 : decode cX10_init 159 = .ok (.putfield 64, 3) := by decide +kernel
theorem dX10_init_162 : decode cX10_init 162 = .ok (.aload_n 0, 1) := by decide +kernel
theorem dX10_init_163 : decode cX10_init 163 = .ok (.bipush 8, 2) := by decide +kernel
theorem dX10_init_165 : decode cX10_init 165 = .ok (.newarray .int, 2) := by decide +kernel
theorem dX10_init_167 : decode cX10_init 167 = .ok (.putfield 67, 3) := by decide +kernel
theorem dX10_init_170 : decode cX10_init 170 = .ok (.aload_n 0, 1) := by decide +kernel
theorem dX10_init_171 : decode cX10_init 171 = .ok (.bipush 8, 2) := by decide +kernel
theorem dX10_init_173 : decode cX10_init 173 = .ok (.newarray .int, 2) := by decide +kernel
theorem dX10_init_175 : decode cX10_init 175 = .ok (.putfield 70, 3) := by decide +kernel
theorem dX10_init_178 : decode cX10_init 178 = .ok (.aload_n 0, 1) := by decide +kernel
theorem dX10_init_179 : decode cX10_init 179 = .ok (.sipush 1280, 3) := by decide +kernel
theorem dX10_init_182 : decode cX10_init 182 = .ok (.newarray .long, 2) := by decide +kernel
theorem dX10_init_184 : decode cX10_init 184 = .ok (.putfield 73, 3) := by decide +kernel
theorem dX10_init_187 : decode cX10_init 187 = .ok (.aload_n 0, 1) := by decide +kernel
theorem dX10_init_188 : decode cX10_init 188 = .ok (.bipush 60, 2) := by decide +kernel
theorem dX10_init_190 : decode cX10_init 190 = .ok (.newarray .int, 2) := by decide +kernel
theorem dX10_init_192 : decode cX10_init 192 = .ok (.putfield 77, 3) := by decide +kernel
theorem dX10_init_195 : decode cX10_init 195 = .ok (.aload_n 0, 1) := by decide +kernel
theorem dX10_init_196 : decode cX10_init 196 = .ok (.bipush 60, 2) := by decide +kernel
theorem dX10_init_198 : decode cX10_init 198 = .ok (.newarray .int, 2) := by decide +kernel
theorem dX10_init_200 : decode cX10_init 200 = .ok (.putfield 80, 3) := by decide +kernel
theorem dX10_init_203 : decode cX10_init 203 = .ok (.aload_n 0, 1) := by decide +kernel
theorem dX10_init_204 : decode cX10_init 204 = .ok (.bipush 60, 2) := by decide +kernel
theorem dX10_init_206 : decode cX10_init 206 = .ok (.newarray .int, 2) := by decide +kernel
theorem dX10_init_208 : decode cX10_init 208 = .ok (.putfield 83, 3) := by decide +kernel
theorem dX10_init_211 : decode cX10_init 211 = .ok (.aload_n 0, 1) := by decide +kernel
theorem dX10_init_212 : decode cX10_init 212 = .ok (.bipush 60, 2) := by decide +kernel
theorem dX10_init_214 : decode cX10_init 214 = .ok (.newarray .int, 2) := by decide +kernel
theorem dX10_init_216 : decode cX10_init 216 = .ok (.putfield 86, 3) := by decide +kernel
theorem dX10_init_219 : decode cX10_init 219 = .ok (.aload_n 0, 1) := by decide +kernel
theorem dX10_init_220 : decode cX10_init 220 = .ok (.iconst (-1), 1) := by decide +kernel
theorem dX10_init_221 : decode cX10_init 221 = .ok (.putfield 89, 3) := by decide +kernel
theorem dX10_init_224 : decode cX10_init 224 = .ok (.aload_n 0, 1) := by decide +kernel
theorem dX10_init_225 : decode cX10_init 225 = .ok (.bipush 90, 2) := by decide +kernel
theorem dX10_init_227 : decode cX10_init 227 = .ok (.newarray .int, 2) := by decide +kernel
theorem dX10_init_229 : decode cX10_init 229 = .ok (.putfield 93, 3) := by decide +kernel
theorem dX10_init_232 : decode cX10_init 232 = .ok (.aload_n 0, 1) := by decide +kernel
theorem dX10_init_233 : decode cX10_init 233 = .ok (.iconst 3, 1) := by decide +kernel
theorem dX10_init_234 : decode cX10_init 234 = .ok (.putfield 96, 3) := by decide +kernel
theorem dX10_init_237 : decode cX10_init 237 = .ok (.aload_n 0, 1) := by decide +kernel
theorem dX10_init_238 : decode cX10_init 238 = .ok (.iconst 2, 1) := by decide +kernel
theorem dX10_init_239 : decode cX10_init 239 = .ok (.putfield 99, 3) := by decide +kernel
theorem dX10_init_242 : decode cX10_init 242 = .ok (.aload_n 0, 1) := by decide +kernel
theorem dX10_init_243 : decode cX10_init 243 = .ok (.iconst 4, 1) := by decide +kernel
theorem dX10_init_244 : decode cX10_init 244 = .ok (.putfield 102, 3) := by decide +kernel
theorem dX10_init_247 : decode cX10_init 247 = .ok (.aload_n 0, 1) := by decide +kernel
theorem dX10_init_248 : decode cX10_init 248 = .ok (.iconst 1, 1) := by decide +kernel
theorem dX10_init_249 : decode cX10_init 249 = .ok (.putfield 105, 3) := by decide +kernel
theorem dX10_init_252 : decode cX10_init 252 = .ok (.iconst 0, 1) := by decide +kernel
theorem dX10_init_253 : decode cX10_init 253 = .ok (.istore_n 1, 1) := by decide +kernel
theorem dX10_init_254 : decode cX10_init 254 = .ok (.iload_n 1, 1) := by decide +kernel
theorem dX10_init_255 : decode cX10_init 255 = .ok (.bipush 6, 2) := by decide +kernel
theorem dX10_init_257 : decode cX10_init 257 = .ok (.if_icmp .ge 23, 3) := by decide +kernel
theorem dX10_init_260 : decode cX10_init 260 = .ok (.aload_n 0, 1) := by decide +kernel
theorem dX10_init_261 : decode cX10_init 261 = .ok (.getfield 13, 3) := by decide +kernel
theorem dX10_init_264 : decode cX10_init 264 = .ok (.iload_n 1, 1) := by decide +kernel
theorem dX10_init_265 : decode cX10_init 265 = .ok (.iconst 1, 1) := by decide +kernel
theorem dX10_init_266 : decode cX10_init 266 = .ok (.iastore, 1) := by decide +kernel
theorem dX10_init_267 : decode cX10_init 267 = .ok (.aload_n 0, 1) := by decide +kernel
theorem dX10_init_268 : decode cX10_init 268 = .ok (.getfield 19, 3) := by decide +kernel
theorem dX10_init_271 : decode cX10_init 271 = .ok (.iload_n 1, 1) := by decide +kernel
theorem dX10_init_272 : decode cX10_init 272 = .ok (.iconst (-1), 1) := by decide +kernel
theorem dX10_init_273 : decode cX10_init 273 = .ok (.iastore, 1) := by decide +kernel
theorem dX10_init_274 : decode cX10_init 274 = .ok (.iinc 1 1, 3) := by decide +kernel
theorem dX10_init_277 : decode cX10_init 277 = .ok (.goto (-23), 3) := by decide +kernel
theorem dX10_init_280 : decode cX10_init 280 = .ok (.return_, 1) := by decide +kernel
theorem dX10_no_0 : decode cX10_no 0 = .ok (.aload_n 0, 1) := by decide +kernel
theorem dX10_no_1 : decode cX10_no 1 = .ok (.getfield 7, 3) := by decide +kernel
theorem dX10_no_4 : decode cX10_no 4 = .ok (.iload_n 1, 1) := by decide +kernel
theorem dX10_no_5 : decode cX10_no 5 = .ok (.ineg, 1) := by decide +kernel
theorem dX10_no_6 : decode cX10_no 6 = .ok (.dup2, 1) := by decide +kernel
theorem dX10_no_7 : decode cX10_no 7 = .ok (.iaload, 1) := by decide +kernel
theorem dX10_no_8 : decode cX10_no 8 = .ok (.iconst 1, 1) := by decide +kernel
theorem dX10_no_9 : decode cX10_no 9 = .ok (.iadd, 1) := by decide +kernel
theorem dX10_no_10 : decode cX10_no 10 = .ok (.iastore, 1) := by decide +kernel
theorem dX10_no_11 : decode cX10_no 11 = .ok (.iload_n 1, 1) := by decide +kernel
theorem dX10_no_12 : decode cX10_no 12 = .ok (.ireturn, 1) := by decide +kernel
theorem dX10_isIn_0 : decode cX10_isIn 0 = .ok (.iload_n 0, 1) := by decide +kernel
theorem dX10_isIn_1 : decode cX10_isIn 1 = .ok (.iload_n 1, 1) := by decide +kernel
theorem dX10_isIn_2 : decode cX10_isIn 2 = .ok (.if_icmp .lt 12, 3) := by decide +kernel
theorem dX10_isIn_5 : decode cX10_isIn 5 = .ok (.iload_n 0, 1) := by decide +kernel
theorem dX10_isIn_6 : decode cX10_isIn 6 = .ok (.iload_n 2, 1) := by decide +kernel
theorem dX10_isIn_7 : decode cX10_isIn 7 = .ok (.if_icmp .gt 7, 3) := by decide +kernel
theorem dX10_isIn_10 : decode cX10_isIn 10 = .ok (.iconst 1, 1) := by decide +kernel
theorem dX10_isIn_11 : decode cX10_isIn 11 = .ok (.goto 4, 3) := by decide +kernel
theorem dX10_isIn_14 : decode cX10_isIn 14 = .ok (.iconst 0, 1) := by decide +kernel
theorem dX10_isIn_15 : decode cX10_isIn 15 = .ok (.ireturn, 1) := by decide +kernel
theorem dX10_isSite_0 : decode cX10_isSite 0 = .ok (.iload_n 1, 1) := by decide +kernel
theorem dX10_isSite_1 : decode cX10_isSite 1 = .ok (.iconst 0, 1) := by decide +kernel
theorem dX10_isSite_2 : decode cX10_isSite 2 = .ok (.aload_n 0, 1) := by decide +kernel
theorem dX10_isSite_3 : decode cX10_isSite 3 = .ok (.getfield 96, 3) := by decide +kernel
theorem dX10_isSite_6 : decode cX10_isSite 6 = .ok (.invokestatic 108, 3) := by decide +kernel
theorem dX10_isSite_9 : decode cX10_isSite 9 = .ok (.ireturn, 1) := by decide +kernel
theorem dX10_isTick_0 : decode cX10_isTick 0 = .ok (.iload_n 0, 1) := by decide +kernel
theorem dX10_isTick_1 : decode cX10_isTick 1 = .ok (.iconst 0, 1) := by decide +kernel
theorem dX10_isTick_2 : decode cX10_isTick 2 = .ok (.bipush 60, 2) := by decide +kernel
theorem dX10_isTick_4 : decode cX10_isTick 4 = .ok (.invokestatic 108, 3) := by decide +kernel
theorem dX10_isTick_7 : decode cX10_isTick 7 = .ok (.ireturn, 1) := by decide +kernel
theorem dX10_isDown_0 : decode cX10_isDown 0 = .ok (.iload_n 0, 1) := by decide +kernel
theorem dX10_isDown_1 : decode cX10_isDown 1 = .ok (.iconst (-1), 1) := by decide +kernel
theorem dX10_isDown_2 : decode cX10_isDown 2 = .ok (.if_icmp .eq 28, 3) := by decide +kernel
theorem dX10_isDown_5 : decode cX10_isDown 5 = .ok (.iload_n 0, 1) := by decide +kernel
theorem dX10_isDown_6 : decode cX10_isDown 6 = .ok (.iconst 0, 1) := by decide +kernel
theorem dX10_isDown_7 : decode cX10_isDown 7 = .ok (.bipush 60, 2) := by decide +kernel
theorem dX10_isDown_9 : decode cX10_isDown 9 = .ok (.invokestatic 108, 3) := by decide +kernel
theorem dX10_isDown_12 : decode cX10_isDown 12 = .ok (.ifCond .eq 22, 3) := by decide +kernel
theorem dX10_isDown_15 : decode cX10_isDown 15 = .ok (.iload_n 1, 1) := by decide +kernel
theorem dX10_isDown_16 : decode cX10_isDown 16 = .ok (.iconst 0, 1) := by decide +kernel
theorem dX10_isDown_17 : decode cX10_isDown 17 = .ok (.bipush 60, 2) := by decide +kernel
theorem dX10_isDown_19 : decode cX10_isDown 19 = .ok (.invokestatic 108, 3) := by decide +kernel
theorem dX10_isDown_22 : decode cX10_isDown 22 = .ok (.ifCond .eq 12, 3) := by decide +kernel
theorem dX10_isDown_25 : decode cX10_isDown 25 = .ok (.iload_n 0, 1) := by decide +kernel
theorem dX10_isDown_26 : decode cX10_isDown 26 = .ok (.iload_n 1, 1) := by decide +kernel
theorem dX10_isDown_27 : decode cX10_isDown 27 = .ok (.if_icmp .ge 7, 3) := by decide +kernel
theorem dX10_isDown_30 : decode cX10_isDown 30 = .ok (.iconst 1, 1) := by decide +kernel
theorem dX10_isDown_31 : decode cX10_isDown 31 = .ok (.goto 4, 3) := by decide +kernel
theorem dX10_isDown_34 : decode cX10_isDown 34 = .ok (.iconst 0, 1) := by decide +kernel
theorem dX10_isDown_35 : decode cX10_isDown 35 = .ok (.ireturn, 1) := by decide +kernel
theorem dX10_sends_0 : decode cX10_sends 0 = .ok (.aload_n 0, 1) := by decide +kernel
theorem dX10_sends_1 : decode cX10_sends 1 = .ok (.getfield 112, 3) := by decide +kernel
theorem dX10_sends_4 : decode cX10_sends 4 = .ok (.sipush 200, 3) := by decide +kernel
theorem dX10_sends_7 : decode cX10_sends 7 = .ok (.if_icmp .ne 4, 3) := by decide +kernel
theorem dX10_sends_10 : decode cX10_sends 10 = .ok (.return_, 1) := by decide +kernel
theorem dX10_sends_11 : decode cX10_sends 11 = .ok (.aload_n 0, 1) := by decide +kernel
theorem dX10_sends_12 : decode cX10_sends 12 = .ok (.getfield 43, 3) := by decide +kernel
theorem dX10_sends_15 : decode cX10_sends 15 = .ok (.aload_n 0, 1) := by decide +kernel
theorem dX10_sends_16 : decode cX10_sends 16 = .ok (.getfield 112, 3) := by decide +kernel
theorem dX10_sends_19 : decode cX10_sends 19 = .ok (.iload_n 1, 1) := by decide +kernel
theorem dX10_sends_20 : decode cX10_sends 20 = .ok (.iastore, 1) := by decide +kernel
theorem dX10_sends_21 : decode cX10_sends 21 = .ok (.aload_n 0, 1) := by decide +kernel
theorem dX10_sends_22 : decode cX10_sends 22 = .ok (.getfield 46, 3) := by decide +kernel
theorem dX10_sends_25 : decode cX10_sends 25 = .ok (.aload_n 0, 1) := by decide +kernel
theorem dX10_sends_26 : decode cX10_sends 26 = .ok (.getfield 112, 3) := by decide +kernel
theorem dX10_sends_29 : decode cX10_sends 29 = .ok (.iload_n 2, 1) := by decide +kernel
theorem dX10_sends_30 : decode cX10_sends 30 = .ok (.iastore, 1) := by decide +kernel
theorem dX10_sends_31 : decode cX10_sends 31 = .ok (.aload_n 0, 1) := by decide +kernel
theorem dX10_sends_32 : decode cX10_sends 32 = .ok (.getfield 49, 3) := by decide +kernel
theorem dX10_sends_35 : decode cX10_sends 35 = .ok (.aload_n 0, 1) := by decide +kernel
theorem dX10_sends_36 : decode cX10_sends 36 = .ok (.getfield 112, 3) := by decide +kernel
theorem dX10_sends_39 : decode cX10_sends 39 = .ok (.iload_n 3, 1) := by decide +kernel
theorem dX10_sends_40 : decode cX10_sends 40 = .ok (.iastore, 1) := by decide +kernel
theorem dX10_sends_41 : decode cX10_sends 41 = .ok (.aload_n 0, 1) := by decide +kernel
theorem dX10_sends_42 : decode cX10_sends 42 = .ok (.getfield 52, 3) := by decide +kernel
theorem dX10_sends_45 : decode cX10_sends 45 = .ok (.aload_n 0, 1) := by decide +kernel
theorem dX10_sends_46 : decode cX10_sends 46 = .ok (.getfield 112, 3) := by decide +kernel
theorem dX10_sends_49 : decode cX10_sends 49 = .ok (.aload_n 0, 1) := by decide +kernel
theorem dX10_sends_50 : decode cX10_sends 50 = .ok (.getfield 115, 3) := by decide +kernel
theorem dX10_sends_53 : decode cX10_sends 53 = .ok (.iastore, 1) := by decide +kernel
theorem dX10_sends_54 : decode cX10_sends 54 = .ok (.aload_n 0, 1) := by decide +kernel
theorem dX10_sends_55 : decode cX10_sends 55 = .ok (.getfield 55, 3) := by decide +kernel
theorem dX10_sends_58 : decode cX10_sends 58 = .ok (.aload_n 0, 1) := by decide +kernel
theorem dX10_sends_59 : decode cX10_sends 59 = .ok (.getfield 112, 3) := by decide +kernel
theorem dX10_sends_62 : decode cX10_sends 62 = .ok (.iconst 3, 1) := by decide +kernel
theorem dX10_sends_63 : decode cX10_sends 63 = .ok (.iastore, 1) := by decide +kernel
theorem dX10_sends_64 : decode cX10_sends 64 = .ok (.aload_n 0, 1) := by decide +kernel
theorem dX10_sends_65 : decode cX10_sends 65 = .ok (.dup, 1) := by decide +kernel
theorem dX10_sends_66 : decode cX10_sends 66 = .ok (.getfield 112, 3) := by decide +kernel
theorem dX10_sends_69 : decode cX10_sends 69 = .ok (.iconst 1, 1) := by decide +kernel
theorem dX10_sends_70 : decode cX10_sends 70 = .ok (.iadd, 1) := by decide +kernel
theorem dX10_sends_71 : decode cX10_sends 71 = .ok (.putfield 112, 3) := by decide +kernel
theorem dX10_sends_74 : decode cX10_sends 74 = .ok (.return_, 1) := by decide +kernel
theorem dX10_sendsAll_0 : decode cX10_sendsAll 0 = .ok (.iconst 1, 1) := by decide +kernel
theorem dX10_sendsAll_1 : decode cX10_sendsAll 1 = .ok (.istore_n 2, 1) := by decide +kernel
theorem dX10_sendsAll_2 : decode cX10_sendsAll 2 = .ok (.iload_n 2, 1) := by decide +kernel
theorem dX10_sendsAll_3 : decode cX10_sendsAll 3 = .ok (.aload_n 0, 1) := by decide +kernel
theorem dX10_sendsAll_4 : decode cX10_sendsAll 4 = .ok (.getfield 96, 3) := by decide +kernel
theorem dX10_sendsAll_7 : decode cX10_sendsAll 7 = .ok (.if_icmp .gt 16, 3) := by decide +kernel
theorem dX10_sendsAll_10 : decode cX10_sendsAll 10 = .ok (.aload_n 0, 1) := by decide +kernel
theorem dX10_sendsAll_11 : decode cX10_sendsAll 11 = .ok (.iload_n 1, 1) := by decide +kernel
theorem dX10_sendsAll_12 : decode cX10_sendsAll 12 = .ok (.iconst 0, 1) := by decide +kernel
theorem dX10_sendsAll_13 : decode cX10_sendsAll 13 = .ok (.iload_n 2, 1) := by decide +kernel
theorem dX10_sendsAll_14 : decode cX10_sendsAll 14 = .ok (.invokevirtual 118, 3) := by decide +kernel
theorem dX10_sendsAll_17 : decode cX10_sendsAll 17 = .ok (.iinc 2 1, 3) := by decide +kernel
theorem dX10_sendsAll_20 : decode cX10_sendsAll 20 = .ok (.goto (-18), 3) := by decide +kernel
theorem dX10_sendsAll_23 : decode cX10_sendsAll 23 = .ok (.return_, 1) := by decide +kernel
theorem dX10_notes_0 : decode cX10_notes 0 = .ok (.aload_n 0, 1) := by decide +kernel
theorem dX10_notes_1 : decode cX10_notes 1 = .ok (.getfield 34, 3) := by decide +kernel
theorem dX10_notes_4 : decode cX10_notes 4 = .ok (.bipush 20, 2) := by decide +kernel
theorem dX10_notes_6 : decode cX10_notes 6 = .ok (.iload_n 1, 1) := by decide +kernel
theorem dX10_notes_7 : decode cX10_notes 7 = .ok (.imul, 1) := by decide +kernel
theorem dX10_notes_8 : decode cX10_notes 8 = .ok (.aload_n 0, 1) := by decide +kernel
theorem dX10_notes_9 : decode cX10_notes 9 = .ok (.getfield 37, 3) := by decide +kernel
theorem dX10_notes_12 : decode cX10_notes 12 = .ok (.iload_n 1, 1) := by decide +kernel
theorem dX10_notes_13 : decode cX10_notes 13 = .ok (.iaload, 1) := by decide +kernel
theorem dX10_notes_14 : decode cX10_notes 14 = .ok (.iadd, 1) := by decide +kernel
theorem dX10_notes_15 : decode cX10_notes 15 = .ok (.iload_n 2, 1) := by decide +kernel
theorem dX10_notes_16 : decode cX10_notes 16 = .ok (.iastore, 1) := by decide +kernel
theorem dX10_notes_17 : decode cX10_notes 17 = .ok (.aload_n 0, 1) := by decide +kernel
theorem dX10_notes_18 : decode cX10_notes 18 = .ok (.getfield 37, 3) := by decide +kernel
theorem dX10_notes_21 : decode cX10_notes 21 = .ok (.iload_n 1, 1) := by decide +kernel
theorem dX10_notes_22 : decode cX10_notes 22 = .ok (.dup2, 1) := by decide +kernel
theorem dX10_notes_23 : decode cX10_notes 23 = .ok (.iaload, 1) := by decide +kernel
theorem dX10_notes_24 : decode cX10_notes 24 = .ok (.iconst 1, 1) := by decide +kernel
theorem dX10_notes_25 : decode cX10_notes 25 = .ok (.iadd, 1) := by decide +kernel
theorem dX10_notes_26 : decode cX10_notes 26 = .ok (.iastore, 1) := by decide +kernel
theorem dX10_notes_27 : decode cX10_notes 27 = .ok (.return_, 1) := by decide +kernel
theorem dX10_startsTimer_0 : decode cX10_startsTimer 0 = .ok (.aload_n 0, 1) := by decide +kernel
theorem dX10_startsTimer_1 : decode cX10_startsTimer 1 = .ok (.getfield 31, 3) := by decide +kernel
theorem dX10_startsTimer_4 : decode cX10_startsTimer 4 = .ok (.iload_n 1, 1) := by decide +kernel
theorem dX10_startsTimer_5 : decode cX10_startsTimer 5 = .ok (.aload_n 0, 1) := by decide +kernel
theorem dX10_startsTimer_6 : decode cX10_startsTimer 6 = .ok (.getfield 115, 3) := by decide +kernel
theorem dX10_startsTimer_9 : decode cX10_startsTimer 9 = .ok (.aload_n 0, 1) := by decide +kernel
theorem dX10_startsTimer_10 : decode cX10_startsTimer 10 = .ok (.getfield 102, 3) := by decide +kernel
theorem dX10_startsTimer_13 : decode cX10_startsTimer 13 = .ok (.iadd, 1) := by decide +kernel
theorem dX10_startsTimer_14 : decode cX10_startsTimer 14 = .ok (.iastore, 1) := by decide +kernel
theorem dX10_startsTimer_15 : decode cX10_startsTimer 15 = .ok (.return_, 1) := by decide +kernel
theorem dX10_decidesCommit_0 : decode cX10_decidesCommit 0 = .ok (.aload_n 0, 1) := by decide +kernel
theorem dX10_decidesCommit_1 : decode cX10_decidesCommit 1 = .ok (.bipush 6, 2) := by decide +kernel
theorem dX10_decidesCommit_3 : decode cX10_decidesCommit 3 = .ok (.putfield 122, 3) := by decide +kernel
theorem dX10_decidesCommit_6 : decode cX10_decidesCommit 6 = .ok (.aload_n 0, 1) := by decide +kernel
theorem dX10_decidesCommit_7 : decode cX10_decidesCommit 7 = .ok (.iconst 0, 1) := by decide +kernel
theorem dX10_decidesCommit_8 : decode cX10_decidesCommit 8 = .ok (.iconst 4, 1) := by decide +kernel
theorem dX10_decidesCommit_9 : decode cX10_decidesCommit 9 = .ok (.invokevirtual 125, 3) := by decide +kernel
theorem dX10_decidesCommit_12 : decode cX10_decidesCommit 12 = .ok (.aload_n 0, 1) := by decide +kernel
theorem dX10_decidesCommit_13 : decode cX10_decidesCommit 13 = .ok (.getfield 25, 3) := by decide +kernel
theorem dX10_decidesCommit_16 : decode cX10_decidesCommit 16 = .ok (.iconst 0, 1) := by decide +kernel
theorem dX10_decidesCommit_17 : decode cX10_decidesCommit 17 = .ok (.iconst 3, 1) := by decide +kernel
theorem dX10_decidesCommit_18 : decode cX10_decidesCommit 18 = .ok (.iastore, 1) := by decide +kernel
theorem dX10_decidesCommit_19 : decode cX10_decidesCommit 19 = .ok (.aload_n 0, 1) := by decide +kernel
theorem dX10_decidesCommit_20 : decode cX10_decidesCommit 20 = .ok (.bipush 6, 2) := by decide +kernel
theorem dX10_decidesCommit_22 : decode cX10_decidesCommit 22 = .ok (.invokevirtual 129, 3) := by decide +kernel
theorem dX10_decidesCommit_25 : decode cX10_decidesCommit 25 = .ok (.aload_n 0, 1) := by decide +kernel
theorem dX10_decidesCommit_26 : decode cX10_decidesCommit 26 = .ok (.iconst 0, 1) := by decide +kernel
theorem dX10_decidesCommit_27 : decode cX10_decidesCommit 27 = .ok (.invokevirtual 133, 3) := by decide +kernel
theorem dX10_decidesCommit_30 : decode cX10_decidesCommit 30 = .ok (.return_, 1) := by decide +kernel
theorem dX10_decidesAbort_0 : decode cX10_decidesAbort 0 = .ok (.aload_n 0, 1) := by decide +kernel
theorem dX10_decidesAbort_1 : decode cX10_decidesAbort 1 = .ok (.bipush 7, 2) := by decide +kernel
theorem dX10_decidesAbort_3 : decode cX10_decidesAbort 3 = .ok (.putfield 122, 3) := by decide +kernel
theorem dX10_decidesAbort_6 : decode cX10_decidesAbort 6 = .ok (.aload_n 0, 1) := by decide +kernel
theorem dX10_decidesAbort_7 : decode cX10_decidesAbort 7 = .ok (.getfield 136, 3) := by decide +kernel
theorem dX10_decidesAbort_10 : decode cX10_decidesAbort 10 = .ok (.iconst 1, 1) := by decide +kernel
theorem dX10_decidesAbort_11 : decode cX10_decidesAbort 11 = .ok (.if_icmp .ne 26, 3) := by decide +kernel
theorem dX10_decidesAbort_14 : decode cX10_decidesAbort 14 = .ok (.aload_n 0, 1) := by decide +kernel
theorem dX10_decidesAbort_15 : decode cX10_decidesAbort 15 = .ok (.getfield 25, 3) := by decide +kernel
theorem dX10_decidesAbort_18 : decode cX10_decidesAbort 18 = .ok (.iconst 0, 1) := by decide +kernel
theorem dX10_decidesAbort_19 : decode cX10_decidesAbort 19 = .ok (.iconst 5, 1) := by decide +kernel
theorem dX10_decidesAbort_20 : decode cX10_decidesAbort 20 = .ok (.iastore, 1) := by decide +kernel
theorem dX10_decidesAbort_21 : decode cX10_decidesAbort 21 = .ok (.aload_n 0, 1) := by decide +kernel
theorem dX10_decidesAbort_22 : decode cX10_decidesAbort 22 = .ok (.bipush 7, 2) := by decide +kernel
theorem dX10_decidesAbort_24 : decode cX10_decidesAbort 24 = .ok (.invokevirtual 129, 3) := by decide +kernel
theorem dX10_decidesAbort_27 : decode cX10_decidesAbort 27 = .ok (.aload_n 0, 1) := by decide +kernel
theorem dX10_decidesAbort_28 : decode cX10_decidesAbort 28 = .ok (.getfield 31, 3) := by decide +kernel
theorem dX10_decidesAbort_31 : decode cX10_decidesAbort 31 = .ok (.iconst 0, 1) := by decide +kernel
theorem dX10_decidesAbort_32 : decode cX10_decidesAbort 32 = .ok (.sipush 1000, 3) := by decide +kernel
theorem dX10_decidesAbort_35 : decode cX10_decidesAbort 35 = .ok (.iastore, 1) := by decide +kernel
theorem dX10_decidesAbort_36 : decode cX10_decidesAbort 36 = .ok (.return_, 1) := by decide +kernel
theorem dX10_decidesAbort_37 : decode cX10_decidesAbort 37 = .ok (.aload_n 0, 1) := by decide +kernel
theorem dX10_decidesAbort_38 : decode cX10_decidesAbort 38 = .ok (.iconst 0, 1) := by decide +kernel
theorem dX10_decidesAbort_39 : decode cX10_decidesAbort 39 = .ok (.iconst 5, 1) := by decide +kernel
theorem dX10_decidesAbort_40 : decode cX10_decidesAbort 40 = .ok (.invokevirtual 125, 3) := by decide +kernel
theorem dX10_decidesAbort_43 : decode cX10_decidesAbort 43 = .ok (.aload_n 0, 1) := by decide +kernel
theorem dX10_decidesAbort_44 : decode cX10_decidesAbort 44 = .ok (.getfield 25, 3) := by decide +kernel
theorem dX10_decidesAbort_47 : decode cX10_decidesAbort 47 = .ok (.iconst 0, 1) := by decide +kernel
theorem dX10_decidesAbort_48 : decode cX10_decidesAbort 48 = .ok (.iconst 4, 1) := by decide +kernel
theorem dX10_decidesAbort_49 : decode cX10_decidesAbort 49 = .ok (.iastore, 1) := by decide +kernel
theorem dX10_decidesAbort_50 : decode cX10_decidesAbort 50 = .ok (.aload_n 0, 1) := by decide +kernel
theorem dX10_decidesAbort_51 : decode cX10_decidesAbort 51 = .ok (.bipush 7, 2) := by decide +kernel
theorem dX10_decidesAbort_53 : decode cX10_decidesAbort 53 = .ok (.invokevirtual 129, 3) := by decide +kernel
theorem dX10_decidesAbort_56 : decode cX10_decidesAbort 56 = .ok (.aload_n 0, 1) := by decide +kernel
theorem dX10_decidesAbort_57 : decode cX10_decidesAbort 57 = .ok (.iconst 0, 1) := by decide +kernel
theorem dX10_decidesAbort_58 : decode cX10_decidesAbort 58 = .ok (.invokevirtual 133, 3) := by decide +kernel
theorem dX10_decidesAbort_61 : decode cX10_decidesAbort 61 = .ok (.return_, 1) := by decide +kernel
theorem dX10_beginsCoordinator_0 : decode cX10_beginsCoordinator 0 = .ok (.aload_n 0, 1) := by decide +kernel
theorem dX10_beginsCoordinator_1 : decode cX10_beginsCoordinator 1 = .ok (.iconst 0, 1) := by decide +kernel
theorem dX10_beginsCoordinator_2 : decode cX10_beginsCoordinator 2 = .ok (.iconst 1, 1) := by decide +kernel
theorem dX10_beginsCoordinator_3 : decode cX10_beginsCoordinator 3 = .ok (.invokevirtual 125, 3) := by decide +kernel
theorem dX10_beginsCoordinator_6 : decode cX10_beginsCoordinator 6 = .ok (.aload_n 0, 1) := by decide +kernel
theorem dX10_beginsCoordinator_7 : decode cX10_beginsCoordinator 7 = .ok (.getfield 25, 3) := by decide +kernel
theorem dX10_beginsCoordinator_10 : decode cX10_beginsCoordinator 10 = .ok (.iconst 0, 1) := by decide +kernel
theorem dX10_beginsCoordinator_11 : decode cX10_beginsCoordinator 11 = .ok (.iconst 1, 1) := by decide +kernel
theorem dX10_beginsCoordinator_12 : decode cX10_beginsCoordinator 12 = .ok (.iastore, 1) := by decide +kernel
theorem dX10_beginsCoordinator_13 : decode cX10_beginsCoordinator 13 = .ok (.aload_n 0, 1) := by decide +kernel
theorem dX10_beginsCoordinator_14 : decode cX10_beginsCoordinator 14 = .ok (.iconst 1, 1) := by decide +kernel
theorem dX10_beginsCoordinator_15 : decode cX10_beginsCoordinator 15 = .ok (.invokevirtual 129, 3) := by decide +kernel
theorem dX10_beginsCoordinator_18 : decode cX10_beginsCoordinator 18 = .ok (.aload_n 0, 1) := by decide +kernel
theorem dX10_beginsCoordinator_19 : decode cX10_beginsCoordinator 19 = .ok (.iconst 0, 1) := by decide +kernel
theorem dX10_beginsCoordinator_20 : decode cX10_beginsCoordinator 20 = .ok (.invokevirtual 133, 3) := by decide +kernel
theorem dX10_beginsCoordinator_23 : decode cX10_beginsCoordinator 23 = .ok (.return_, 1) := by decide +kernel
theorem dX10_becomesPre_0 : decode cX10_becomesPre 0 = .ok (.aload_n 0, 1) := by decide +kernel
theorem dX10_becomesPre_1 : decode cX10_becomesPre 1 = .ok (.iconst 0, 1) := by decide +kernel
theorem dX10_becomesPre_2 : decode cX10_becomesPre 2 = .ok (.iconst 3, 1) := by decide +kernel
theorem dX10_becomesPre_3 : decode cX10_becomesPre 3 = .ok (.invokevirtual 125, 3) := by decide +kernel
theorem dX10_becomesPre_6 : decode cX10_becomesPre 6 = .ok (.aload_n 0, 1) := by decide +kernel
theorem dX10_becomesPre_7 : decode cX10_becomesPre 7 = .ok (.getfield 25, 3) := by decide +kernel
theorem dX10_becomesPre_10 : decode cX10_becomesPre 10 = .ok (.iconst 0, 1) := by decide +kernel
theorem dX10_becomesPre_11 : decode cX10_becomesPre 11 = .ok (.iconst 2, 1) := by decide +kernel
theorem dX10_becomesPre_12 : decode cX10_becomesPre 12 = .ok (.iastore, 1) := by decide +kernel
theorem dX10_becomesPre_13 : decode cX10_becomesPre 13 = .ok (.aload_n 0, 1) := by decide +kernel
theorem dX10_becomesPre_14 : decode cX10_becomesPre 14 = .ok (.iconst 4, 1) := by decide +kernel
theorem dX10_becomesPre_15 : decode cX10_becomesPre 15 = .ok (.invokevirtual 129, 3) := by decide +kernel
theorem dX10_becomesPre_18 : decode cX10_becomesPre 18 = .ok (.aload_n 0, 1) := by decide +kernel
theorem dX10_becomesPre_19 : decode cX10_becomesPre 19 = .ok (.iconst 0, 1) := by decide +kernel
theorem dX10_becomesPre_20 : decode cX10_becomesPre 20 = .ok (.invokevirtual 133, 3) := by decide +kernel
theorem dX10_becomesPre_23 : decode cX10_becomesPre 23 = .ok (.return_, 1) := by decide +kernel
theorem dX10_countsAll_0 : decode cX10_countsAll 0 = .ok (.aload_n 0, 1) := by decide +kernel
theorem dX10_countsAll_1 : decode cX10_countsAll 1 = .ok (.getfield 40, 3) := by decide +kernel
theorem dX10_countsAll_4 : decode cX10_countsAll 4 = .ok (.iload_n 1, 1) := by decide +kernel
theorem dX10_countsAll_5 : decode cX10_countsAll 5 = .ok (.dup2, 1) := by decide +kernel
theorem dX10_countsAll_6 : decode cX10_countsAll 6 = .ok (.iaload, 1) := by decide +kernel
theorem dX10_countsAll_7 : decode cX10_countsAll 7 = .ok (.iconst 1, 1) := by decide +kernel
theorem dX10_countsAll_8 : decode cX10_countsAll 8 = .ok (.iload_n 2, 1) := by decide +kernel
theorem dX10_countsAll_9 : decode cX10_countsAll 9 = .ok (.ishl, 1) := by decide +kernel
theorem dX10_countsAll_10 : decode cX10_countsAll 10 = .ok (.ior, 1) := by decide +kernel
theorem dX10_countsAll_11 : decode cX10_countsAll 11 = .ok (.iastore, 1) := by decide +kernel
theorem dX10_countsAll_12 : decode cX10_countsAll 12 = .ok (.aload_n 0, 1) := by decide +kernel
theorem dX10_countsAll_13 : decode cX10_countsAll 13 = .ok (.getfield 40, 3) := by decide +kernel
theorem dX10_countsAll_16 : decode cX10_countsAll 16 = .ok (.iload_n 1, 1) := by decide +kernel
theorem dX10_countsAll_17 : decode cX10_countsAll 17 = .ok (.iaload, 1) := by decide +kernel
theorem dX10_countsAll_18 : decode cX10_countsAll 18 = .ok (.iconst 1, 1) := by decide +kernel
theorem dX10_countsAll_19 : decode cX10_countsAll 19 = .ok (.aload_n 0, 1) := by decide +kernel
theorem dX10_countsAll_20 : decode cX10_countsAll 20 = .ok (.getfield 96, 3) := by decide +kernel
theorem dX10_countsAll_23 : decode cX10_countsAll 23 = .ok (.iconst 1, 1) := by decide +kernel
theorem dX10_countsAll_24 : decode cX10_countsAll 24 = .ok (.iadd, 1) := by decide +kernel
theorem dX10_countsAll_25 : decode cX10_countsAll 25 = .ok (.ishl, 1) := by decide +kernel
theorem dX10_countsAll_26 : decode cX10_countsAll 26 = .ok (.iconst 2, 1) := by decide +kernel
theorem dX10_countsAll_27 : decode cX10_countsAll 27 = .ok (.isub, 1) := by decide +kernel
theorem dX10_countsAll_28 : decode cX10_countsAll 28 = .ok (.if_icmp .ne 7, 3) := by decide +kernel
theorem dX10_countsAll_31 : decode cX10_countsAll 31 = .ok (.iconst 1, 1) := by decide +kernel
theorem dX10_countsAll_32 : decode cX10_countsAll 32 = .ok (.goto 4, 3) := by decide +kernel
theorem dX10_countsAll_35 : decode cX10_countsAll 35 = .ok (.iconst 0, 1) := by decide +kernel
theorem dX10_countsAll_36 : decode cX10_countsAll 36 = .ok (.ireturn, 1) := by decide +kernel
theorem dX10_hasDecided_0 : decode cX10_hasDecided 0 = .ok (.aload_n 0, 1) := by decide +kernel
theorem dX10_hasDecided_1 : decode cX10_hasDecided 1 = .ok (.getfield 25, 3) := by decide +kernel
theorem dX10_hasDecided_4 : decode cX10_hasDecided 4 = .ok (.iconst 0, 1) := by decide +kernel
theorem dX10_hasDecided_5 : decode cX10_hasDecided 5 = .ok (.iaload, 1) := by decide +kernel
theorem dX10_hasDecided_6 : decode cX10_hasDecided 6 = .ok (.iconst 3, 1) := by decide +kernel
theorem dX10_hasDecided_7 : decode cX10_hasDecided 7 = .ok (.if_icmp .eq 13, 3) := by decide +kernel
theorem dX10_hasDecided_10 : decode cX10_hasDecided 10 = .ok (.aload_n 0, 1) := by decide +kernel
theorem dX10_hasDecided_11 : decode cX10_hasDecided 11 = .ok (.getfield 25, 3) := by decide +kernel
theorem dX10_hasDecided_14 : decode cX10_hasDecided 14 = .ok (.iconst 0, 1) := by decide +kernel
theorem dX10_hasDecided_15 : decode cX10_hasDecided 15 = .ok (.iaload, 1) := by decide +kernel
theorem dX10_hasDecided_16 : decode cX10_hasDecided 16 = .ok (.iconst 4, 1) := by decide +kernel
theorem dX10_hasDecided_17 : decode cX10_hasDecided 17 = .ok (.if_icmp .ne 7, 3) := by decide +kernel
theorem dX10_hasDecided_20 : decode cX10_hasDecided 20 = .ok (.iconst 1, 1) := by decide +kernel
theorem dX10_hasDecided_21 : decode cX10_hasDecided 21 = .ok (.goto 4, 3) := by decide +kernel
theorem dX10_hasDecided_24 : decode cX10_hasDecided 24 = .ok (.iconst 0, 1) := by decide +kernel
theorem dX10_hasDecided_25 : decode cX10_hasDecided 25 = .ok (.ireturn, 1) := by decide +kernel
theorem dX10_ends_0 : decode cX10_ends 0 = .ok (.aload_n 0, 1) := by decide +kernel
theorem dX10_ends_1 : decode cX10_ends 1 = .ok (.iconst 0, 1) := by decide +kernel
theorem dX10_ends_2 : decode cX10_ends 2 = .ok (.bipush 6, 2) := by decide +kernel
theorem dX10_ends_4 : decode cX10_ends 4 = .ok (.invokevirtual 125, 3) := by decide +kernel
theorem dX10_ends_7 : decode cX10_ends 7 = .ok (.aload_n 0, 1) := by decide +kernel
theorem dX10_ends_8 : decode cX10_ends 8 = .ok (.getfield 25, 3) := by decide +kernel
theorem dX10_ends_11 : decode cX10_ends 11 = .ok (.iconst 0, 1) := by decide +kernel
theorem dX10_ends_12 : decode cX10_ends 12 = .ok (.iconst 5, 1) := by decide +kernel
theorem dX10_ends_13 : decode cX10_ends 13 = .ok (.iastore, 1) := by decide +kernel
theorem dX10_ends_14 : decode cX10_ends 14 = .ok (.aload_n 0, 1) := by decide +kernel
theorem dX10_ends_15 : decode cX10_ends 15 = .ok (.getfield 31, 3) := by decide +kernel
theorem dX10_ends_18 : decode cX10_ends 18 = .ok (.iconst 0, 1) := by decide +kernel
theorem dX10_ends_19 : decode cX10_ends 19 = .ok (.sipush 1000, 3) := by decide +kernel
theorem dX10_ends_22 : decode cX10_ends 22 = .ok (.iastore, 1) := by decide +kernel
theorem dX10_ends_23 : decode cX10_ends 23 = .ok (.return_, 1) := by decide +kernel
theorem dX10_comesToCoordinator_0 : decode cX10_comesToCoordinator 0 = .ok (.iload_n 1, 1) := by decide +kernel
theorem dX10_comesToCoordinator_1 : decode cX10_comesToCoordinator 1 = .ok (.tableswitch 178 2 9 #[47, 89, 178, 106, 178, 178, 132, 155], 47) := by decide +kernel
theorem dX10_comesToCoordinator_48 : decode cX10_comesToCoordinator 48 = .ok (.aload_n 0, 1) := by decide +kernel
theorem dX10_comesToCoordinator_49 : decode cX10_comesToCoordinator 49 = .ok (.getfield 25, 3) := by decide +kernel
theorem dX10_comesToCoordinator_52 : decode cX10_comesToCoordinator 52 = .ok (.iconst 0, 1) := by decide +kernel
theorem dX10_comesToCoordinator_53 : decode cX10_comesToCoordinator 53 = .ok (.iaload, 1) := by decide +kernel
theorem dX10_comesToCoordinator_54 : decode cX10_comesToCoordinator 54 = .ok (.iconst 1, 1) := by decide +kernel
theorem dX10_comesToCoordinator_55 : decode cX10_comesToCoordinator 55 = .ok (.if_icmp .ne 12, 3) := by decide +kernel
theorem dX10_comesToCoordinator_58 : decode cX10_comesToCoordinator 58 = .ok (.aload_n 0, 1) := by decide +kernel
theorem dX10_comesToCoordinator_59 : decode cX10_comesToCoordinator 59 = .ok (.iconst 0, 1) := by decide +kernel
theorem dX10_comesToCoordinator_60 : decode cX10_comesToCoordinator 60 = .ok (.iload_n 2, 1) := by decide +kernel
theorem dX10_comesToCoordinator_61 : decode cX10_comesToCoordinator 61 = .ok (.invokevirtual 139, 3) := by decide +kernel
theorem dX10_comesToCoordinator_64 : decode cX10_comesToCoordinator 64 = .ok (.ifCond .ne 4, 3) := by decide +kernel
theorem dX10_comesToCoordinator_67 : decode cX10_comesToCoordinator 67 = .ok (.return_, 1) := by decide +kernel
theorem dX10_comesToCoordinator_68 : decode cX10_comesToCoordinator 68 = .ok (.aload_n 0, 1) := by decide +kernel
theorem dX10_comesToCoordinator_69 : decode cX10_comesToCoordinator 69 = .ok (.getfield 99, 3) := by decide +kernel
theorem dX10_comesToCoordinator_72 : decode cX10_comesToCoordinator 72 = .ok (.iconst 2, 1) := by decide +kernel
theorem dX10_comesToCoordinator_73 : decode cX10_comesToCoordinator 73 = .ok (.if_icmp .ne 10, 3) := by decide +kernel
theorem dX10_comesToCoordinator_76 : decode cX10_comesToCoordinator 76 = .ok (.aload_n 0, 1) := by decide +kernel
theorem dX10_comesToCoordinator_77 : decode cX10_comesToCoordinator 77 = .ok (.invokevirtual 143, 3) := by decide +kernel
theorem dX10_comesToCoordinator_80 : decode cX10_comesToCoordinator 80 = .ok (.goto 99, 3) := by decide +kernel
theorem dX10_comesToCoordinator_83 : decode cX10_comesToCoordinator 83 = .ok (.aload_n 0, 1) := by decide +kernel
theorem dX10_comesToCoordinator_84 : decode cX10_comesToCoordinator 84 = .ok (.invokevirtual 146, 3) := by decide +kernel
theorem dX10_comesToCoordinator_87 : decode cX10_comesToCoordinator 87 = .ok (.goto 92, 3) := by decide +kernel
theorem dX10_comesToCoordinator_90 : decode cX10_comesToCoordinator 90 = .ok (.aload_n 0, 1) := by decide +kernel
theorem dX10_comesToCoordinator_91 : decode cX10_comesToCoordinator 91 = .ok (.getfield 25, 3) := by decide +kernel
theorem dX10_comesToCoordinator_94 : decode cX10_comesToCoordinator 94 = .ok (.iconst 0, 1) := by decide +kernel
theorem dX10_comesToCoordinator_95 : decode cX10_comesToCoordinator 95 = .ok (.iaload, 1) := by decide +kernel
theorem dX10_comesToCoordinator_96 : decode cX10_comesToCoordinator 96 = .ok (.iconst 1, 1) := by decide +kernel
theorem dX10_comesToCoordinator_97 : decode cX10_comesToCoordinator 97 = .ok (.if_icmp .ne 82, 3) := by decide +kernel
theorem dX10_comesToCoordinator_100 : decode cX10_comesToCoordinator 100 = .ok (.aload_n 0, 1) := by decide +kernel
theorem dX10_comesToCoordinator_101 : decode cX10_comesToCoordinator 101 = .ok (.invokevirtual 149, 3) := by decide +kernel
theorem dX10_comesToCoordinator_104 : decode cX10_comesToCoordinator 104 = .ok (.goto 75, 3) := by decide +kernel
theorem dX10_comesToCoordinator_107 : decode cX10_comesToCoordinator 107 = .ok (.aload_n 0, 1) := by decide +kernel
theorem dX10_comesToCoordinator_108 : decode cX10_comesToCoordinator 108 = .ok (.getfield 25, 3) := by decide +kernel
theorem dX10_comesToCoordinator_111 : decode cX10_comesToCoordinator 111 = .ok (.iconst 0, 1) := by decide +kernel
theorem dX10_comesToCoordinator_112 : decode cX10_comesToCoordinator 112 = .ok (.iaload, 1) := by decide +kernel
theorem dX10_comesToCoordinator_113 : decode cX10_comesToCoordinator 113 = .ok (.iconst 2, 1) := by decide +kernel
theorem dX10_comesToCoordinator_114 : decode cX10_comesToCoordinator 114 = .ok (.if_icmp .ne 65, 3) := by decide +kernel
theorem dX10_comesToCoordinator_117 : decode cX10_comesToCoordinator 117 = .ok (.aload_n 0, 1) := by decide +kernel
theorem dX10_comesToCoordinator_118 : decode cX10_comesToCoordinator 118 = .ok (.iconst 1, 1) := by decide +kernel
theorem dX10_comesToCoordinator_119 : decode cX10_comesToCoordinator 119 = .ok (.iload_n 2, 1) := by decide +kernel
theorem dX10_comesToCoordinator_120 : decode cX10_comesToCoordinator 120 = .ok (.invokevirtual 139, 3) := by decide +kernel
theorem dX10_comesToCoordinator_123 : decode cX10_comesToCoordinator 123 = .ok (.ifCond .eq 56, 3) := by decide +kernel
theorem dX10_comesToCoordinator_126 : decode cX10_comesToCoordinator 126 = .ok (.aload_n 0, 1) := by decide +kernel
theorem dX10_comesToCoordinator_127 : decode cX10_comesToCoordinator 127 = .ok (.invokevirtual 143, 3) := by decide +kernel
theorem dX10_comesToCoordinator_130 : decode cX10_comesToCoordinator 130 = .ok (.goto 49, 3) := by decide +kernel
theorem dX10_comesToCoordinator_133 : decode cX10_comesToCoordinator 133 = .ok (.aload_n 0, 1) := by decide +kernel
theorem dX10_comesToCoordinator_134 : decode cX10_comesToCoordinator 134 = .ok (.invokevirtual 152, 3) := by decide +kernel
theorem dX10_comesToCoordinator_137 : decode cX10_comesToCoordinator 137 = .ok (.ifCond .eq 42, 3) := by decide +kernel
theorem dX10_comesToCoordinator_140 : decode cX10_comesToCoordinator 140 = .ok (.aload_n 0, 1) := by decide +kernel
theorem dX10_comesToCoordinator_141 : decode cX10_comesToCoordinator 141 = .ok (.iconst 2, 1) := by decide +kernel
theorem dX10_comesToCoordinator_142 : decode cX10_comesToCoordinator 142 = .ok (.iload_n 2, 1) := by decide +kernel
theorem dX10_comesToCoordinator_143 : decode cX10_comesToCoordinator 143 = .ok (.invokevirtual 139, 3) := by decide +kernel
theorem dX10_comesToCoordinator_146 : decode cX10_comesToCoordinator 146 = .ok (.ifCond .eq 33, 3) := by decide +kernel
theorem dX10_comesToCoordinator_149 : decode cX10_comesToCoordinator 149 = .ok (.aload_n 0, 1) := by decide +kernel
theorem dX10_comesToCoordinator_150 : decode cX10_comesToCoordinator 150 = .ok (.invokevirtual 156, 3) := by decide +kernel
theorem dX10_comesToCoordinator_153 : decode cX10_comesToCoordinator 153 = .ok (.goto 26, 3) := by decide +kernel
theorem dX10_comesToCoordinator_156 : decode cX10_comesToCoordinator 156 = .ok (.aload_n 0, 1) := by decide +kernel
theorem dX10_comesToCoordinator_157 : decode cX10_comesToCoordinator 157 = .ok (.getfield 25, 3) := by decide +kernel
theorem dX10_comesToCoordinator_160 : decode cX10_comesToCoordinator 160 = .ok (.iconst 0, 1) := by decide +kernel
theorem dX10_comesToCoordinator_161 : decode cX10_comesToCoordinator 161 = .ok (.iaload, 1) := by decide +kernel
theorem dX10_comesToCoordinator_162 : decode cX10_comesToCoordinator 162 = .ok (.iconst 2, 1) := by decide +kernel
theorem dX10_comesToCoordinator_163 : decode cX10_comesToCoordinator 163 = .ok (.if_icmp .le 16, 3) := by decide +kernel
theorem dX10_comesToCoordinator_166 : decode cX10_comesToCoordinator 166 = .ok (.aload_n 0, 1) := by decide +kernel
theorem dX10_comesToCoordinator_167 : decode cX10_comesToCoordinator 167 = .ok (.aload_n 0, 1) := by decide +kernel
theorem dX10_comesToCoordinator_168 : decode cX10_comesToCoordinator 168 = .ok (.getfield 122, 3) := by decide +kernel
theorem dX10_comesToCoordinator_171 : decode cX10_comesToCoordinator 171 = .ok (.iconst 0, 1) := by decide +kernel
theorem dX10_comesToCoordinator_172 : decode cX10_comesToCoordinator 172 = .ok (.iload_n 2, 1) := by decide +kernel
theorem dX10_comesToCoordinator_173 : decode cX10_comesToCoordinator 173 = .ok (.invokevirtual 118, 3) := by decide +kernel
theorem dX10_comesToCoordinator_176 : decode cX10_comesToCoordinator 176 = .ok (.goto 3, 3) := by decide +kernel
theorem dX10_comesToCoordinator_179 : decode cX10_comesToCoordinator 179 = .ok (.return_, 1) := by decide +kernel
theorem dX10_timesOutCoordinator_0 : decode cX10_timesOutCoordinator 0 = .ok (.aload_n 0, 1) := by decide +kernel
theorem dX10_timesOutCoordinator_1 : decode cX10_timesOutCoordinator 1 = .ok (.getfield 25, 3) := by decide +kernel
theorem dX10_timesOutCoordinator_4 : decode cX10_timesOutCoordinator 4 = .ok (.iconst 0, 1) := by decide +kernel
theorem dX10_timesOutCoordinator_5 : decode cX10_timesOutCoordinator 5 = .ok (.iaload, 1) := by decide +kernel
theorem dX10_timesOutCoordinator_6 : decode cX10_timesOutCoordinator 6 = .ok (.iconst 1, 1) := by decide +kernel
theorem dX10_timesOutCoordinator_7 : decode cX10_timesOutCoordinator 7 = .ok (.if_icmp .ne 10, 3) := by decide +kernel
theorem dX10_timesOutCoordinator_10 : decode cX10_timesOutCoordinator 10 = .ok (.aload_n 0, 1) := by decide +kernel
theorem dX10_timesOutCoordinator_11 : decode cX10_timesOutCoordinator 11 = .ok (.invokevirtual 149, 3) := by decide +kernel
theorem dX10_timesOutCoordinator_14 : decode cX10_timesOutCoordinator 14 = .ok (.goto 71, 3) := by decide +kernel
theorem dX10_timesOutCoordinator_17 : decode cX10_timesOutCoordinator 17 = .ok (.aload_n 0, 1) := by decide +kernel
theorem dX10_timesOutCoordinator_18 : decode cX10_timesOutCoordinator 18 = .ok (.getfield 25, 3) := by decide +kernel
theorem dX10_timesOutCoordinator_21 : decode cX10_timesOutCoordinator 21 = .ok (.iconst 0, 1) := by decide +kernel
theorem dX10_timesOutCoordinator_22 : decode cX10_timesOutCoordinator 22 = .ok (.iaload, 1) := by decide +kernel
theorem dX10_timesOutCoordinator_23 : decode cX10_timesOutCoordinator 23 = .ok (.iconst 2, 1) := by decide +kernel
theorem dX10_timesOutCoordinator_24 : decode cX10_timesOutCoordinator 24 = .ok (.if_icmp .ne 10, 3) := by decide +kernel
theorem dX10_timesOutCoordinator_27 : decode cX10_timesOutCoordinator 27 = .ok (.aload_n 0, 1) := by decide +kernel
theorem dX10_timesOutCoordinator_28 : decode cX10_timesOutCoordinator 28 = .ok (.invokevirtual 143, 3) := by decide +kernel
theorem dX10_timesOutCoordinator_31 : decode cX10_timesOutCoordinator 31 = .ok (.goto 54, 3) := by decide +kernel
theorem dX10_timesOutCoordinator_34 : decode cX10_timesOutCoordinator 34 = .ok (.aload_n 0, 1) := by decide +kernel
theorem dX10_timesOutCoordinator_35 : decode cX10_timesOutCoordinator 35 = .ok (.invokevirtual 152, 3) := by decide +kernel
theorem dX10_timesOutCoordinator_38 : decode cX10_timesOutCoordinator 38 = .ok (.ifCond .eq 47, 3) := by decide +kernel
theorem dX10_timesOutCoordinator_41 : decode cX10_timesOutCoordinator 41 = .ok (.iconst 1, 1) := by decide +kernel
theorem dX10_timesOutCoordinator_42 : decode cX10_timesOutCoordinator 42 = .ok (.istore_n 1, 1) := by decide +kernel
theorem dX10_timesOutCoordinator_43 : decode cX10_timesOutCoordinator 43 = .ok (.iload_n 1, 1) := by decide +kernel
theorem dX10_timesOutCoordinator_44 : decode cX10_timesOutCoordinator 44 = .ok (.aload_n 0, 1) := by decide +kernel
theorem dX10_timesOutCoordinator_45 : decode cX10_timesOutCoordinator 45 = .ok (.getfield 96, 3) := by decide +kernel
theorem dX10_timesOutCoordinator_48 : decode cX10_timesOutCoordinator 48 = .ok (.if_icmp .gt 32, 3) := by decide +kernel
theorem dX10_timesOutCoordinator_51 : decode cX10_timesOutCoordinator 51 = .ok (.aload_n 0, 1) := by decide +kernel
theorem dX10_timesOutCoordinator_52 : decode cX10_timesOutCoordinator 52 = .ok (.getfield 40, 3) := by decide +kernel
theorem dX10_timesOutCoordinator_55 : decode cX10_timesOutCoordinator 55 = .ok (.iconst 2, 1) := by decide +kernel
theorem dX10_timesOutCoordinator_56 : decode cX10_timesOutCoordinator 56 = .ok (.iaload, 1) := by decide +kernel
theorem dX10_timesOutCoordinator_57 : decode cX10_timesOutCoordinator 57 = .ok (.iload_n 1, 1) := by decide +kernel
theorem dX10_timesOutCoordinator_58 : decode cX10_timesOutCoordinator 58 = .ok (.ishr, 1) := by decide +kernel
theorem dX10_timesOutCoordinator_59 : decode cX10_timesOutCoordinator 59 = .ok (.iconst 1, 1) := by decide +kernel
theorem dX10_timesOutCoordinator_60 : decode cX10_timesOutCoordinator 60 = .ok (.iand, 1) := by decide +kernel
theorem dX10_timesOutCoordinator_61 : decode cX10_timesOutCoordinator 61 = .ok (.ifCond .ne 13, 3) := by decide +kernel
theorem dX10_timesOutCoordinator_64 : decode cX10_timesOutCoordinator 64 = .ok (.aload_n 0, 1) := by decide +kernel
theorem dX10_timesOutCoordinator_65 : decode cX10_timesOutCoordinator 65 = .ok (.aload_n 0, 1) := by decide +kernel
theorem dX10_timesOutCoordinator_66 : decode cX10_timesOutCoordinator 66 = .ok (.getfield 122, 3) := by decide +kernel
theorem dX10_timesOutCoordinator_69 : decode cX10_timesOutCoordinator 69 = .ok (.iconst 0, 1) := by decide +kernel
theorem dX10_timesOutCoordinator_70 : decode cX10_timesOutCoordinator 70 = .ok (.iload_n 1, 1) := by decide +kernel
theorem dX10_timesOutCoordinator_71 : decode cX10_timesOutCoordinator 71 = .ok (.invokevirtual 118, 3) := by decide +kernel
theorem dX10_timesOutCoordinator_74 : decode cX10_timesOutCoordinator 74 = .ok (.iinc 1 1, 3) := by decide +kernel
theorem dX10_timesOutCoordinator_77 : decode cX10_timesOutCoordinator 77 = .ok (.goto (-34), 3) := by decide +kernel
theorem dX10_timesOutCoordinator_80 : decode cX10_timesOutCoordinator 80 = .ok (.aload_n 0, 1) := by decide +kernel
theorem dX10_timesOutCoordinator_81 : decode cX10_timesOutCoordinator 81 = .ok (.iconst 0, 1) := by decide +kernel
theorem dX10_timesOutCoordinator_82 : decode cX10_timesOutCoordinator 82 = .ok (.invokevirtual 133, 3) := by decide +kernel
theorem dX10_timesOutCoordinator_85 : decode cX10_timesOutCoordinator 85 = .ok (.return_, 1) := by decide +kernel
theorem dX10_comesPrepare_0 : decode cX10_comesPrepare 0 = .ok (.aload_n 0, 1) := by decide +kernel
theorem dX10_comesPrepare_1 : decode cX10_comesPrepare 1 = .ok (.getfield 25, 3) := by decide +kernel
theorem dX10_comesPrepare_4 : decode cX10_comesPrepare 4 = .ok (.iload_n 1, 1) := by decide +kernel
theorem dX10_comesPrepare_5 : decode cX10_comesPrepare 5 = .ok (.iaload, 1) := by decide +kernel
theorem dX10_comesPrepare_6 : decode cX10_comesPrepare 6 = .ok (.ifCond .eq 4, 3) := by decide +kernel
theorem dX10_comesPrepare_9 : decode cX10_comesPrepare 9 = .ok (.return_, 1) := by decide +kernel
theorem dX10_comesPrepare_10 : decode cX10_comesPrepare 10 = .ok (.aload_n 0, 1) := by decide +kernel
theorem dX10_comesPrepare_11 : decode cX10_comesPrepare 11 = .ok (.getfield 13, 3) := by decide +kernel
theorem dX10_comesPrepare_14 : decode cX10_comesPrepare 14 = .ok (.iload_n 1, 1) := by decide +kernel
theorem dX10_comesPrepare_15 : decode cX10_comesPrepare 15 = .ok (.iaload, 1) := by decide +kernel
theorem dX10_comesPrepare_16 : decode cX10_comesPrepare 16 = .ok (.iconst 1, 1) := by decide +kernel
theorem dX10_comesPrepare_17 : decode cX10_comesPrepare 17 = .ok (.if_icmp .ne 31, 3) := by decide +kernel
theorem dX10_comesPrepare_20 : decode cX10_comesPrepare 20 = .ok (.aload_n 0, 1) := by decide +kernel
theorem dX10_comesPrepare_21 : decode cX10_comesPrepare 21 = .ok (.iload_n 1, 1) := by decide +kernel
theorem dX10_comesPrepare_22 : decode cX10_comesPrepare 22 = .ok (.iconst 2, 1) := by decide +kernel
theorem dX10_comesPrepare_23 : decode cX10_comesPrepare 23 = .ok (.invokevirtual 125, 3) := by decide +kernel
theorem dX10_comesPrepare_26 : decode cX10_comesPrepare 26 = .ok (.aload_n 0, 1) := by decide +kernel
theorem dX10_comesPrepare_27 : decode cX10_comesPrepare 27 = .ok (.getfield 25, 3) := by decide +kernel
theorem dX10_comesPrepare_30 : decode cX10_comesPrepare 30 = .ok (.iload_n 1, 1) := by decide +kernel
theorem dX10_comesPrepare_31 : decode cX10_comesPrepare 31 = .ok (.iconst 1, 1) := by decide +kernel
theorem dX10_comesPrepare_32 : decode cX10_comesPrepare 32 = .ok (.iastore, 1) := by decide +kernel
theorem dX10_comesPrepare_33 : decode cX10_comesPrepare 33 = .ok (.aload_n 0, 1) := by decide +kernel
theorem dX10_comesPrepare_34 : decode cX10_comesPrepare 34 = .ok (.iconst 2, 1) := by decide +kernel
theorem dX10_comesPrepare_35 : decode cX10_comesPrepare 35 = .ok (.iload_n 1, 1) := by decide +kernel
theorem dX10_comesPrepare_36 : decode cX10_comesPrepare 36 = .ok (.iconst 0, 1) := by decide +kernel
theorem dX10_comesPrepare_37 : decode cX10_comesPrepare 37 = .ok (.invokevirtual 118, 3) := by decide +kernel
theorem dX10_comesPrepare_40 : decode cX10_comesPrepare 40 = .ok (.aload_n 0, 1) := by decide +kernel
theorem dX10_comesPrepare_41 : decode cX10_comesPrepare 41 = .ok (.iload_n 1, 1) := by decide +kernel
theorem dX10_comesPrepare_42 : decode cX10_comesPrepare 42 = .ok (.invokevirtual 133, 3) := by decide +kernel
theorem dX10_comesPrepare_45 : decode cX10_comesPrepare 45 = .ok (.goto 23, 3) := by decide +kernel
theorem dX10_comesPrepare_48 : decode cX10_comesPrepare 48 = .ok (.aload_n 0, 1) := by decide +kernel
theorem dX10_comesPrepare_49 : decode cX10_comesPrepare 49 = .ok (.iload_n 1, 1) := by decide +kernel
theorem dX10_comesPrepare_50 : decode cX10_comesPrepare 50 = .ok (.iconst 5, 1) := by decide +kernel
theorem dX10_comesPrepare_51 : decode cX10_comesPrepare 51 = .ok (.invokevirtual 125, 3) := by decide +kernel
theorem dX10_comesPrepare_54 : decode cX10_comesPrepare 54 = .ok (.aload_n 0, 1) := by decide +kernel
theorem dX10_comesPrepare_55 : decode cX10_comesPrepare 55 = .ok (.getfield 25, 3) := by decide +kernel
theorem dX10_comesPrepare_58 : decode cX10_comesPrepare 58 = .ok (.iload_n 1, 1) := by decide +kernel
theorem dX10_comesPrepare_59 : decode cX10_comesPrepare 59 = .ok (.iconst 4, 1) := by decide +kernel
theorem dX10_comesPrepare_60 : decode cX10_comesPrepare 60 = .ok (.iastore, 1) := by decide +kernel
theorem dX10_comesPrepare_61 : decode cX10_comesPrepare 61 = .ok (.aload_n 0, 1) := by decide +kernel
theorem dX10_comesPrepare_62 : decode cX10_comesPrepare 62 = .ok (.iconst 3, 1) := by decide +kernel
theorem dX10_comesPrepare_63 : decode cX10_comesPrepare 63 = .ok (.iload_n 1, 1) := by decide +kernel
theorem dX10_comesPrepare_64 : decode cX10_comesPrepare 64 = .ok (.iconst 0, 1) := by decide +kernel
theorem dX10_comesPrepare_65 : decode cX10_comesPrepare 65 = .ok (.invokevirtual 118, 3) := by decide +kernel
theorem dX10_comesPrepare_68 : decode cX10_comesPrepare 68 = .ok (.return_, 1) := by decide +kernel
theorem dX10_comesPre_0 : decode cX10_comesPre 0 = .ok (.aload_n 0, 1) := by decide +kernel
theorem dX10_comesPre_1 : decode cX10_comesPre 1 = .ok (.getfield 25, 3) := by decide +kernel
theorem dX10_comesPre_4 : decode cX10_comesPre 4 = .ok (.iload_n 1, 1) := by decide +kernel
theorem dX10_comesPre_5 : decode cX10_comesPre 5 = .ok (.iaload, 1) := by decide +kernel
theorem dX10_comesPre_6 : decode cX10_comesPre 6 = .ok (.iconst 1, 1) := by decide +kernel
theorem dX10_comesPre_7 : decode cX10_comesPre 7 = .ok (.if_icmp .ne 31, 3) := by decide +kernel
theorem dX10_comesPre_10 : decode cX10_comesPre 10 = .ok (.aload_n 0, 1) := by decide +kernel
theorem dX10_comesPre_11 : decode cX10_comesPre 11 = .ok (.iload_n 1, 1) := by decide +kernel
theorem dX10_comesPre_12 : decode cX10_comesPre 12 = .ok (.iconst 3, 1) := by decide +kernel
theorem dX10_comesPre_13 : decode cX10_comesPre 13 = .ok (.invokevirtual 125, 3) := by decide +kernel
theorem dX10_comesPre_16 : decode cX10_comesPre 16 = .ok (.aload_n 0, 1) := by decide +kernel
theorem dX10_comesPre_17 : decode cX10_comesPre 17 = .ok (.getfield 25, 3) := by decide +kernel
theorem dX10_comesPre_20 : decode cX10_comesPre 20 = .ok (.iload_n 1, 1) := by decide +kernel
theorem dX10_comesPre_21 : decode cX10_comesPre 21 = .ok (.iconst 2, 1) := by decide +kernel
theorem dX10_comesPre_22 : decode cX10_comesPre 22 = .ok (.iastore, 1) := by decide +kernel
theorem dX10_comesPre_23 : decode cX10_comesPre 23 = .ok (.aload_n 0, 1) := by decide +kernel
theorem dX10_comesPre_24 : decode cX10_comesPre 24 = .ok (.iconst 5, 1) := by decide +kernel
theorem dX10_comesPre_25 : decode cX10_comesPre 25 = .ok (.iload_n 1, 1) := by decide +kernel
theorem dX10_comesPre_26 : decode cX10_comesPre 26 = .ok (.iconst 0, 1) := by decide +kernel
theorem dX10_comesPre_27 : decode cX10_comesPre 27 = .ok (.invokevirtual 118, 3) := by decide +kernel
theorem dX10_comesPre_30 : decode cX10_comesPre 30 = .ok (.aload_n 0, 1) := by decide +kernel
theorem dX10_comesPre_31 : decode cX10_comesPre 31 = .ok (.iload_n 1, 1) := by decide +kernel
theorem dX10_comesPre_32 : decode cX10_comesPre 32 = .ok (.invokevirtual 133, 3) := by decide +kernel
theorem dX10_comesPre_35 : decode cX10_comesPre 35 = .ok (.goto 20, 3) := by decide +kernel
theorem dX10_comesPre_38 : decode cX10_comesPre 38 = .ok (.aload_n 0, 1) := by decide +kernel
theorem dX10_comesPre_39 : decode cX10_comesPre 39 = .ok (.getfield 25, 3) := by decide +kernel
theorem dX10_comesPre_42 : decode cX10_comesPre 42 = .ok (.iload_n 1, 1) := by decide +kernel
theorem dX10_comesPre_43 : decode cX10_comesPre 43 = .ok (.iaload, 1) := by decide +kernel
theorem dX10_comesPre_44 : decode cX10_comesPre 44 = .ok (.iconst 2, 1) := by decide +kernel
theorem dX10_comesPre_45 : decode cX10_comesPre 45 = .ok (.if_icmp .ne 10, 3) := by decide +kernel
theorem dX10_comesPre_48 : decode cX10_comesPre 48 = .ok (.aload_n 0, 1) := by decide +kernel
theorem dX10_comesPre_49 : decode cX10_comesPre 49 = .ok (.iconst 5, 1) := by decide +kernel
theorem dX10_comesPre_50 : decode cX10_comesPre 50 = .ok (.iload_n 1, 1) := by decide +kernel
theorem dX10_comesPre_51 : decode cX10_comesPre 51 = .ok (.iconst 0, 1) := by decide +kernel
theorem dX10_comesPre_52 : decode cX10_comesPre 52 = .ok (.invokevirtual 118, 3) := by decide +kernel
theorem dX10_comesPre_55 : decode cX10_comesPre 55 = .ok (.return_, 1) := by decide +kernel
theorem dX10_comesDecision_0 : decode cX10_comesDecision 0 = .ok (.aload_n 0, 1) := by decide +kernel
theorem dX10_comesDecision_1 : decode cX10_comesDecision 1 = .ok (.getfield 25, 3) := by decide +kernel
theorem dX10_comesDecision_4 : decode cX10_comesDecision 4 = .ok (.iload_n 1, 1) := by decide +kernel
theorem dX10_comesDecision_5 : decode cX10_comesDecision 5 = .ok (.iaload, 1) := by decide +kernel
theorem dX10_comesDecision_6 : decode cX10_comesDecision 6 = .ok (.iconst 3, 1) := by decide +kernel
theorem dX10_comesDecision_7 : decode cX10_comesDecision 7 = .ok (.if_icmp .ge 45, 3) := by decide +kernel
theorem dX10_comesDecision_10 : decode cX10_comesDecision 10 = .ok (.aload_n 0, 1) := by decide +kernel
theorem dX10_comesDecision_11 : decode cX10_comesDecision 11 = .ok (.iload_n 1, 1) := by decide +kernel
theorem dX10_comesDecision_12 : decode cX10_comesDecision 12 = .ok (.iload_n 2, 1) := by decide +kernel
theorem dX10_comesDecision_13 : decode cX10_comesDecision 13 = .ok (.bipush 6, 2) := by decide +kernel
theorem dX10_comesDecision_15 : decode cX10_comesDecision 15 = .ok (.if_icmp .ne 7, 3) := by decide +kernel
theorem dX10_comesDecision_18 : decode cX10_comesDecision 18 = .ok (.iconst 4, 1) := by decide +kernel
theorem dX10_comesDecision_19 : decode cX10_comesDecision 19 = .ok (.goto 4, 3) := by decide +kernel
theorem dX10_comesDecision_22 : decode cX10_comesDecision 22 = .ok (.iconst 5, 1) := by decide +kernel
theorem dX10_comesDecision_23 : decode cX10_comesDecision 23 = .ok (.invokevirtual 125, 3) := by decide +kernel
theorem dX10_comesDecision_26 : decode cX10_comesDecision 26 = .ok (.aload_n 0, 1) := by decide +kernel
theorem dX10_comesDecision_27 : decode cX10_comesDecision 27 = .ok (.getfield 25, 3) := by decide +kernel
theorem dX10_comesDecision_30 : decode cX10_comesDecision 30 = .ok (.iload_n 1, 1) := by decide +kernel
theorem dX10_comesDecision_31 : decode cX10_comesDecision 31 = .ok (.iload_n 2, 1) := by decide +kernel
theorem dX10_comesDecision_32 : decode cX10_comesDecision 32 = .ok (.bipush 6, 2) := by decide +kernel
theorem dX10_comesDecision_34 : decode cX10_comesDecision 34 = .ok (.if_icmp .ne 7, 3) := by decide +kernel
theorem dX10_comesDecision_37 : decode cX10_comesDecision 37 = .ok (.iconst 3, 1) := by decide +kernel
theorem dX10_comesDecision_38 : decode cX10_comesDecision 38 = .ok (.goto 4, 3) := by decide +kernel
theorem dX10_comesDecision_41 : decode cX10_comesDecision 41 = .ok (.iconst 4, 1) := by decide +kernel
theorem dX10_comesDecision_42 : decode cX10_comesDecision 42 = .ok (.iastore, 1) := by decide +kernel
theorem dX10_comesDecision_43 : decode cX10_comesDecision 43 = .ok (.aload_n 0, 1) := by decide +kernel
theorem dX10_comesDecision_44 : decode cX10_comesDecision 44 = .ok (.getfield 31, 3) := by decide +kernel
theorem dX10_comesDecision_47 : decode cX10_comesDecision 47 = .ok (.iload_n 1, 1) := by decide +kernel
theorem dX10_comesDecision_48 : decode cX10_comesDecision 48 = .ok (.sipush 1000, 3) := by decide +kernel
theorem dX10_comesDecision_51 : decode cX10_comesDecision 51 = .ok (.iastore, 1) := by decide +kernel
theorem dX10_comesDecision_52 : decode cX10_comesDecision 52 = .ok (.iload_n 2, 1) := by decide +kernel
theorem dX10_comesDecision_53 : decode cX10_comesDecision 53 = .ok (.bipush 6, 2) := by decide +kernel
theorem dX10_comesDecision_55 : decode cX10_comesDecision 55 = .ok (.if_icmp .eq 10, 3) := by decide +kernel
theorem dX10_comesDecision_58 : decode cX10_comesDecision 58 = .ok (.aload_n 0, 1) := by decide +kernel
theorem dX10_comesDecision_59 : decode cX10_comesDecision 59 = .ok (.getfield 136, 3) := by decide +kernel
theorem dX10_comesDecision_62 : decode cX10_comesDecision 62 = .ok (.ifCond .ne 11, 3) := by decide +kernel
theorem dX10_comesDecision_65 : decode cX10_comesDecision 65 = .ok (.aload_n 0, 1) := by decide +kernel
theorem dX10_comesDecision_66 : decode cX10_comesDecision 66 = .ok (.bipush 8, 2) := by decide +kernel
theorem dX10_comesDecision_68 : decode cX10_comesDecision 68 = .ok (.iload_n 1, 1) := by decide +kernel
theorem dX10_comesDecision_69 : decode cX10_comesDecision 69 = .ok (.iconst 0, 1) := by decide +kernel
theorem dX10_comesDecision_70 : decode cX10_comesDecision 70 = .ok (.invokevirtual 118, 3) := by decide +kernel
theorem dX10_comesDecision_73 : decode cX10_comesDecision 73 = .ok (.return_, 1) := by decide +kernel
theorem dX10_comesAsk_0 : decode cX10_comesAsk 0 = .ok (.aload_n 0, 1) := by decide +kernel
theorem dX10_comesAsk_1 : decode cX10_comesAsk 1 = .ok (.getfield 25, 3) := by decide +kernel
theorem dX10_comesAsk_4 : decode cX10_comesAsk 4 = .ok (.iload_n 1, 1) := by decide +kernel
theorem dX10_comesAsk_5 : decode cX10_comesAsk 5 = .ok (.iaload, 1) := by decide +kernel
theorem dX10_comesAsk_6 : decode cX10_comesAsk 6 = .ok (.ifCond .ne 16, 3) := by decide +kernel
theorem dX10_comesAsk_9 : decode cX10_comesAsk 9 = .ok (.aload_n 0, 1) := by decide +kernel
theorem dX10_comesAsk_10 : decode cX10_comesAsk 10 = .ok (.iload_n 1, 1) := by decide +kernel
theorem dX10_comesAsk_11 : decode cX10_comesAsk 11 = .ok (.iconst 5, 1) := by decide +kernel
theorem dX10_comesAsk_12 : decode cX10_comesAsk 12 = .ok (.invokevirtual 125, 3) := by decide +kernel
theorem dX10_comesAsk_15 : decode cX10_comesAsk 15 = .ok (.aload_n 0, 1) := by decide +kernel
theorem dX10_comesAsk_16 : decode cX10_comesAsk 16 = .ok (.getfield 25, 3) := by decide +kernel
theorem dX10_comesAsk_19 : decode cX10_comesAsk 19 = .ok (.iload_n 1, 1) := by decide +kernel
theorem dX10_comesAsk_20 : decode cX10_comesAsk 20 = .ok (.iconst 4, 1) := by decide +kernel
theorem dX10_comesAsk_21 : decode cX10_comesAsk 21 = .ok (.iastore, 1) := by decide +kernel
theorem dX10_comesAsk_22 : decode cX10_comesAsk 22 = .ok (.aload_n 0, 1) := by decide +kernel
theorem dX10_comesAsk_23 : decode cX10_comesAsk 23 = .ok (.getfield 25, 3) := by decide +kernel
theorem dX10_comesAsk_26 : decode cX10_comesAsk 26 = .ok (.iload_n 1, 1) := by decide +kernel
theorem dX10_comesAsk_27 : decode cX10_comesAsk 27 = .ok (.iaload, 1) := by decide +kernel
theorem dX10_comesAsk_28 : decode cX10_comesAsk 28 = .ok (.iconst 3, 1) := by decide +kernel
theorem dX10_comesAsk_29 : decode cX10_comesAsk 29 = .ok (.if_icmp .ne 11, 3) := by decide +kernel
theorem dX10_comesAsk_32 : decode cX10_comesAsk 32 = .ok (.aload_n 0, 1) := by decide +kernel
theorem dX10_comesAsk_33 : decode cX10_comesAsk 33 = .ok (.bipush 6, 2) := by decide +kernel
theorem dX10_comesAsk_35 : decode cX10_comesAsk 35 = .ok (.iload_n 1, 1) := by decide +kernel
theorem dX10_comesAsk_36 : decode cX10_comesAsk 36 = .ok (.iload_n 2, 1) := by decide +kernel
theorem dX10_comesAsk_37 : decode cX10_comesAsk 37 = .ok (.invokevirtual 118, 3) := by decide +kernel
theorem dX10_comesAsk_40 : decode cX10_comesAsk 40 = .ok (.aload_n 0, 1) := by decide +kernel
theorem dX10_comesAsk_41 : decode cX10_comesAsk 41 = .ok (.getfield 25, 3) := by decide +kernel
theorem dX10_comesAsk_44 : decode cX10_comesAsk 44 = .ok (.iload_n 1, 1) := by decide +kernel
theorem dX10_comesAsk_45 : decode cX10_comesAsk 45 = .ok (.iaload, 1) := by decide +kernel
theorem dX10_comesAsk_46 : decode cX10_comesAsk 46 = .ok (.iconst 4, 1) := by decide +kernel
theorem dX10_comesAsk_47 : decode cX10_comesAsk 47 = .ok (.if_icmp .ne 11, 3) := by decide +kernel
theorem dX10_comesAsk_50 : decode cX10_comesAsk 50 = .ok (.aload_n 0, 1) := by decide +kernel
theorem dX10_comesAsk_51 : decode cX10_comesAsk 51 = .ok (.bipush 7, 2) := by decide +kernel
theorem dX10_comesAsk_53 : decode cX10_comesAsk 53 = .ok (.iload_n 1, 1) := by decide +kernel
theorem dX10_comesAsk_54 : decode cX10_comesAsk 54 = .ok (.iload_n 2, 1) := by decide +kernel
theorem dX10_comesAsk_55 : decode cX10_comesAsk 55 = .ok (.invokevirtual 118, 3) := by decide +kernel
theorem dX10_comesAsk_58 : decode cX10_comesAsk 58 = .ok (.return_, 1) := by decide +kernel
theorem dX10_comesToParticipant_0 : decode cX10_comesToParticipant 0 = .ok (.iload_n 2, 1) := by decide +kernel
theorem dX10_comesToParticipant_1 : decode cX10_comesToParticipant 1 = .ok (.tableswitch 85 1 9 #[51, 85, 85, 59, 85, 67, 67, 85, 76], 51) := by decide +kernel
theorem dX10_comesToParticipant_52 : decode cX10_comesToParticipant 52 = .ok (.aload_n 0, 1) := by decide +kernel
theorem dX10_comesToParticipant_53 : decode cX10_comesToParticipant 53 = .ok (.iload_n 1, 1) := by decide +kernel
theorem dX10_comesToParticipant_54 : decode cX10_comesToParticipant 54 = .ok (.invokevirtual 159, 3) := by decide +kernel
theorem dX10_comesToParticipant_57 : decode cX10_comesToParticipant 57 = .ok (.goto 29, 3) := by decide +kernel
theorem dX10_comesToParticipant_60 : decode cX10_comesToParticipant 60 = .ok (.aload_n 0, 1) := by decide +kernel
theorem dX10_comesToParticipant_61 : decode cX10_comesToParticipant 61 = .ok (.iload_n 1, 1) := by decide +kernel
theorem dX10_comesToParticipant_62 : decode cX10_comesToParticipant 62 = .ok (.invokevirtual 162, 3) := by decide +kernel
theorem dX10_comesToParticipant_65 : decode cX10_comesToParticipant 65 = .ok (.goto 21, 3) := by decide +kernel
theorem dX10_comesToParticipant_68 : decode cX10_comesToParticipant 68 = .ok (.aload_n 0, 1) := by decide +kernel
theorem dX10_comesToParticipant_69 : decode cX10_comesToParticipant 69 = .ok (.iload_n 1, 1) := by decide +kernel
theorem dX10_comesToParticipant_70 : decode cX10_comesToParticipant 70 = .ok (.iload_n 2, 1) := by decide +kernel
theorem dX10_comesToParticipant_71 : decode cX10_comesToParticipant 71 = .ok (.invokevirtual 165, 3) := by decide +kernel
theorem dX10_comesToParticipant_74 : decode cX10_comesToParticipant 74 = .ok (.goto 12, 3) := by decide +kernel
theorem dX10_comesToParticipant_77 : decode cX10_comesToParticipant 77 = .ok (.aload_n 0, 1) := by decide +kernel
theorem dX10_comesToParticipant_78 : decode cX10_comesToParticipant 78 = .ok (.iload_n 1, 1) := by decide +kernel
theorem dX10_comesToParticipant_79 : decode cX10_comesToParticipant 79 = .ok (.iload_n 3, 1) := by decide +kernel
theorem dX10_comesToParticipant_80 : decode cX10_comesToParticipant 80 = .ok (.invokevirtual 168, 3) := by decide +kernel
theorem dX10_comesToParticipant_83 : decode cX10_comesToParticipant 83 = .ok (.goto 3, 3) := by decide +kernel
theorem dX10_comesToParticipant_86 : decode cX10_comesToParticipant 86 = .ok (.return_, 1) := by decide +kernel
theorem dX10_asksAll_0 : decode cX10_asksAll 0 = .ok (.aload_n 0, 1) := by decide +kernel
theorem dX10_asksAll_1 : decode cX10_asksAll 1 = .ok (.bipush 9, 2) := by decide +kernel
theorem dX10_asksAll_3 : decode cX10_asksAll 3 = .ok (.iload_n 1, 1) := by decide +kernel
theorem dX10_asksAll_4 : decode cX10_asksAll 4 = .ok (.iconst 0, 1) := by decide +kernel
theorem dX10_asksAll_5 : decode cX10_asksAll 5 = .ok (.invokevirtual 118, 3) := by decide +kernel
theorem dX10_asksAll_8 : decode cX10_asksAll 8 = .ok (.iconst 1, 1) := by decide +kernel
theorem dX10_asksAll_9 : decode cX10_asksAll 9 = .ok (.istore_n 2, 1) := by decide +kernel
theorem dX10_asksAll_10 : decode cX10_asksAll 10 = .ok (.iload_n 2, 1) := by decide +kernel
theorem dX10_asksAll_11 : decode cX10_asksAll 11 = .ok (.aload_n 0, 1) := by decide +kernel
theorem dX10_asksAll_12 : decode cX10_asksAll 12 = .ok (.getfield 96, 3) := by decide +kernel
theorem dX10_asksAll_15 : decode cX10_asksAll 15 = .ok (.if_icmp .gt 22, 3) := by decide +kernel
theorem dX10_asksAll_18 : decode cX10_asksAll 18 = .ok (.iload_n 2, 1) := by decide +kernel
theorem dX10_asksAll_19 : decode cX10_asksAll 19 = .ok (.iload_n 1, 1) := by decide +kernel
theorem dX10_asksAll_20 : decode cX10_asksAll 20 = .ok (.if_icmp .eq 11, 3) := by decide +kernel
theorem dX10_asksAll_23 : decode cX10_asksAll 23 = .ok (.aload_n 0, 1) := by decide +kernel
theorem dX10_asksAll_24 : decode cX10_asksAll 24 = .ok (.bipush 9, 2) := by decide +kernel
theorem dX10_asksAll_26 : decode cX10_asksAll 26 = .ok (.iload_n 1, 1) := by decide +kernel
theorem dX10_asksAll_27 : decode cX10_asksAll 27 = .ok (.iload_n 2, 1) := by decide +kernel
theorem dX10_asksAll_28 : decode cX10_asksAll 28 = .ok (.invokevirtual 118, 3) := by decide +kernel
theorem dX10_asksAll_31 : decode cX10_asksAll 31 = .ok (.iinc 2 1, 3) := by decide +kernel
theorem dX10_asksAll_34 : decode cX10_asksAll 34 = .ok (.goto (-24), 3) := by decide +kernel
theorem dX10_asksAll_37 : decode cX10_asksAll 37 = .ok (.aload_n 0, 1) := by decide +kernel
theorem dX10_asksAll_38 : decode cX10_asksAll 38 = .ok (.iload_n 1, 1) := by decide +kernel
theorem dX10_asksAll_39 : decode cX10_asksAll 39 = .ok (.invokevirtual 133, 3) := by decide +kernel
theorem dX10_asksAll_42 : decode cX10_asksAll 42 = .ok (.return_, 1) := by decide +kernel
theorem dX10_timesOutParticipant_0 : decode cX10_timesOutParticipant 0 = .ok (.aload_n 0, 1) := by decide +kernel
theorem dX10_timesOutParticipant_1 : decode cX10_timesOutParticipant 1 = .ok (.getfield 25, 3) := by decide +kernel
theorem dX10_timesOutParticipant_4 : decode cX10_timesOutParticipant 4 = .ok (.iload_n 1, 1) := by decide +kernel
theorem dX10_timesOutParticipant_5 : decode cX10_timesOutParticipant 5 = .ok (.iaload, 1) := by decide +kernel
theorem dX10_timesOutParticipant_6 : decode cX10_timesOutParticipant 6 = .ok (.iconst 1, 1) := by decide +kernel
theorem dX10_timesOutParticipant_7 : decode cX10_timesOutParticipant 7 = .ok (.if_icmp .ne 19, 3) := by decide +kernel
theorem dX10_timesOutParticipant_10 : decode cX10_timesOutParticipant 10 = .ok (.aload_n 0, 1) := by decide +kernel
theorem dX10_timesOutParticipant_11 : decode cX10_timesOutParticipant 11 = .ok (.getfield 99, 3) := by decide +kernel
theorem dX10_timesOutParticipant_14 : decode cX10_timesOutParticipant 14 = .ok (.iconst 2, 1) := by decide +kernel
theorem dX10_timesOutParticipant_15 : decode cX10_timesOutParticipant 15 = .ok (.if_icmp .ne 11, 3) := by decide +kernel
theorem dX10_timesOutParticipant_18 : decode cX10_timesOutParticipant 18 = .ok (.aload_n 0, 1) := by decide +kernel
theorem dX10_timesOutParticipant_19 : decode cX10_timesOutParticipant 19 = .ok (.iload_n 1, 1) := by decide +kernel
theorem dX10_timesOutParticipant_20 : decode cX10_timesOutParticipant 20 = .ok (.invokevirtual 171, 3) := by decide +kernel
theorem dX10_timesOutParticipant_23 : decode cX10_timesOutParticipant 23 = .ok (.goto 52, 3) := by decide +kernel
theorem dX10_timesOutParticipant_26 : decode cX10_timesOutParticipant 26 = .ok (.aload_n 0, 1) := by decide +kernel
theorem dX10_timesOutParticipant_27 : decode cX10_timesOutParticipant 27 = .ok (.getfield 25, 3) := by decide +kernel
theorem dX10_timesOutParticipant_30 : decode cX10_timesOutParticipant 30 = .ok (.iload_n 1, 1) := by decide +kernel
theorem dX10_timesOutParticipant_31 : decode cX10_timesOutParticipant 31 = .ok (.iaload, 1) := by decide +kernel
theorem dX10_timesOutParticipant_32 : decode cX10_timesOutParticipant 32 = .ok (.iconst 1, 1) := by decide +kernel
theorem dX10_timesOutParticipant_33 : decode cX10_timesOutParticipant 33 = .ok (.if_icmp .ne 19, 3) := by decide +kernel
theorem dX10_timesOutParticipant_36 : decode cX10_timesOutParticipant 36 = .ok (.aload_n 0, 1) := by decide +kernel
theorem dX10_timesOutParticipant_37 : decode cX10_timesOutParticipant 37 = .ok (.iload_n 1, 1) := by decide +kernel
theorem dX10_timesOutParticipant_38 : decode cX10_timesOutParticipant 38 = .ok (.iconst 5, 1) := by decide +kernel
theorem dX10_timesOutParticipant_39 : decode cX10_timesOutParticipant 39 = .ok (.invokevirtual 125, 3) := by decide +kernel
theorem dX10_timesOutParticipant_42 : decode cX10_timesOutParticipant 42 = .ok (.aload_n 0, 1) := by decide +kernel
theorem dX10_timesOutParticipant_43 : decode cX10_timesOutParticipant 43 = .ok (.getfield 25, 3) := by decide +kernel
theorem dX10_timesOutParticipant_46 : decode cX10_timesOutParticipant 46 = .ok (.iload_n 1, 1) := by decide +kernel
theorem dX10_timesOutParticipant_47 : decode cX10_timesOutParticipant 47 = .ok (.iconst 4, 1) := by decide +kernel
theorem dX10_timesOutParticipant_48 : decode cX10_timesOutParticipant 48 = .ok (.iastore, 1) := by decide +kernel
theorem dX10_timesOutParticipant_49 : decode cX10_timesOutParticipant 49 = .ok (.goto 26, 3) := by decide +kernel
theorem dX10_timesOutParticipant_52 : decode cX10_timesOutParticipant 52 = .ok (.aload_n 0, 1) := by decide +kernel
theorem dX10_timesOutParticipant_53 : decode cX10_timesOutParticipant 53 = .ok (.getfield 25, 3) := by decide +kernel
theorem dX10_timesOutParticipant_56 : decode cX10_timesOutParticipant 56 = .ok (.iload_n 1, 1) := by decide +kernel
theorem dX10_timesOutParticipant_57 : decode cX10_timesOutParticipant 57 = .ok (.iaload, 1) := by decide +kernel
theorem dX10_timesOutParticipant_58 : decode cX10_timesOutParticipant 58 = .ok (.iconst 2, 1) := by decide +kernel
theorem dX10_timesOutParticipant_59 : decode cX10_timesOutParticipant 59 = .ok (.if_icmp .ne 16, 3) := by decide +kernel
theorem dX10_timesOutParticipant_62 : decode cX10_timesOutParticipant 62 = .ok (.aload_n 0, 1) := by decide +kernel
theorem dX10_timesOutParticipant_63 : decode cX10_timesOutParticipant 63 = .ok (.iload_n 1, 1) := by decide +kernel
theorem dX10_timesOutParticipant_64 : decode cX10_timesOutParticipant 64 = .ok (.iconst 4, 1) := by decide +kernel
theorem dX10_timesOutParticipant_65 : decode cX10_timesOutParticipant 65 = .ok (.invokevirtual 125, 3) := by decide +kernel
theorem dX10_timesOutParticipant_68 : decode cX10_timesOutParticipant 68 = .ok (.aload_n 0, 1) := by decide +kernel
theorem dX10_timesOutParticipant_69 : decode cX10_timesOutParticipant 69 = .ok (.getfield 25, 3) := by decide +kernel
theorem dX10_timesOutParticipant_72 : decode cX10_timesOutParticipant 72 = .ok (.iload_n 1, 1) := by decide +kernel
theorem dX10_timesOutParticipant_73 : decode cX10_timesOutParticipant 73 = .ok (.iconst 3, 1) := by decide +kernel
theorem dX10_timesOutParticipant_74 : decode cX10_timesOutParticipant 74 = .ok (.iastore, 1) := by decide +kernel
theorem dX10_timesOutParticipant_75 : decode cX10_timesOutParticipant 75 = .ok (.return_, 1) := by decide +kernel
theorem dX10_lastOf_0 : decode cX10_lastOf 0 = .ok (.iload_n 2, 1) := by decide +kernel
theorem dX10_lastOf_1 : decode cX10_lastOf 1 = .ok (.ifCond .ne 7, 3) := by decide +kernel
theorem dX10_lastOf_4 : decode cX10_lastOf 4 = .ok (.iconst 0, 1) := by decide +kernel
theorem dX10_lastOf_5 : decode cX10_lastOf 5 = .ok (.goto 16, 3) := by decide +kernel
theorem dX10_lastOf_8 : decode cX10_lastOf 8 = .ok (.aload_n 0, 1) := by decide +kernel
theorem dX10_lastOf_9 : decode cX10_lastOf 9 = .ok (.getfield 34, 3) := by decide +kernel
theorem dX10_lastOf_12 : decode cX10_lastOf 12 = .ok (.bipush 20, 2) := by decide +kernel
theorem dX10_lastOf_14 : decode cX10_lastOf 14 = .ok (.iload_n 1, 1) := by decide +kernel
theorem dX10_lastOf_15 : decode cX10_lastOf 15 = .ok (.imul, 1) := by decide +kernel
theorem dX10_lastOf_16 : decode cX10_lastOf 16 = .ok (.iload_n 2, 1) := by decide +kernel
theorem dX10_lastOf_17 : decode cX10_lastOf 17 = .ok (.iadd, 1) := by decide +kernel
theorem dX10_lastOf_18 : decode cX10_lastOf 18 = .ok (.iconst 1, 1) := by decide +kernel
theorem dX10_lastOf_19 : decode cX10_lastOf 19 = .ok (.isub, 1) := by decide +kernel
theorem dX10_lastOf_20 : decode cX10_lastOf 20 = .ok (.iaload, 1) := by decide +kernel
theorem dX10_lastOf_21 : decode cX10_lastOf 21 = .ok (.ireturn, 1) := by decide +kernel
theorem dX10_recoversCoordinator_0 : decode cX10_recoversCoordinator 0 = .ok (.iconst 0, 1) := by decide +kernel
theorem dX10_recoversCoordinator_1 : decode cX10_recoversCoordinator 1 = .ok (.istore_n 1, 1) := by decide +kernel
theorem dX10_recoversCoordinator_2 : decode cX10_recoversCoordinator 2 = .ok (.iload_n 1, 1) := by decide +kernel
theorem dX10_recoversCoordinator_3 : decode cX10_recoversCoordinator 3 = .ok (.iconst 3, 1) := by decide +kernel
theorem dX10_recoversCoordinator_4 : decode cX10_recoversCoordinator 4 = .ok (.if_icmp .ge 16, 3) := by decide +kernel
theorem dX10_recoversCoordinator_7 : decode cX10_recoversCoordinator 7 = .ok (.aload_n 0, 1) := by decide +kernel
theorem dX10_recoversCoordinator_8 : decode cX10_recoversCoordinator 8 = .ok (.getfield 40, 3) := by decide +kernel
theorem dX10_recoversCoordinator_11 : decode cX10_recoversCoordinator 11 = .ok (.iload_n 1, 1) := by decide +kernel
theorem dX10_recoversCoordinator_12 : decode cX10_recoversCoordinator 12 = .ok (.iconst 0, 1) := by decide +kernel
theorem dX10_recoversCoordinator_13 : decode cX10_recoversCoordinator 13 = .ok (.iastore, 1) := by decide +kernel
theorem dX10_recoversCoordinator_14 : decode cX10_recoversCoordinator 14 = .ok (.iinc 1 1, 3) := by decide +kernel
theorem dX10_recoversCoordinator_17 : decode cX10_recoversCoordinator 17 = .ok (.goto (-15), 3) := by decide +kernel
theorem dX10_recoversCoordinator_20 : decode cX10_recoversCoordinator 20 = .ok (.aload_n 0, 1) := by decide +kernel
theorem dX10_recoversCoordinator_21 : decode cX10_recoversCoordinator 21 = .ok (.iconst 0, 1) := by decide +kernel
theorem dX10_recoversCoordinator_22 : decode cX10_recoversCoordinator 22 = .ok (.aload_n 0, 1) := by decide +kernel
theorem dX10_recoversCoordinator_23 : decode cX10_recoversCoordinator 23 = .ok (.getfield 37, 3) := by decide +kernel
theorem dX10_recoversCoordinator_26 : decode cX10_recoversCoordinator 26 = .ok (.iconst 0, 1) := by decide +kernel
theorem dX10_recoversCoordinator_27 : decode cX10_recoversCoordinator 27 = .ok (.iaload, 1) := by decide +kernel
theorem dX10_recoversCoordinator_28 : decode cX10_recoversCoordinator 28 = .ok (.invokevirtual 174, 3) := by decide +kernel
theorem dX10_recoversCoordinator_31 : decode cX10_recoversCoordinator 31 = .ok (.tableswitch 141 3 6 #[29, 49, 76, 103], 29) := by decide +kernel
theorem dX10_recoversCoordinator_60 : decode cX10_recoversCoordinator 60 = .ok (.aload_n 0, 1) := by decide +kernel
theorem dX10_recoversCoordinator_61 : decode cX10_recoversCoordinator 61 = .ok (.getfield 25, 3) := by decide +kernel
theorem dX10_recoversCoordinator_64 : decode cX10_recoversCoordinator 64 = .ok (.iconst 0, 1) := by decide +kernel
theorem dX10_recoversCoordinator_65 : decode cX10_recoversCoordinator 65 = .ok (.iconst 2, 1) := by decide +kernel
theorem dX10_recoversCoordinator_66 : decode cX10_recoversCoordinator 66 = .ok (.iastore, 1) := by decide +kernel
theorem dX10_recoversCoordinator_67 : decode cX10_recoversCoordinator 67 = .ok (.aload_n 0, 1) := by decide +kernel
theorem dX10_recoversCoordinator_68 : decode cX10_recoversCoordinator 68 = .ok (.iconst 4, 1) := by decide +kernel
theorem dX10_recoversCoordinator_69 : decode cX10_recoversCoordinator 69 = .ok (.invokevirtual 129, 3) := by decide +kernel
theorem dX10_recoversCoordinator_72 : decode cX10_recoversCoordinator 72 = .ok (.aload_n 0, 1) := by decide +kernel
theorem dX10_recoversCoordinator_73 : decode cX10_recoversCoordinator 73 = .ok (.iconst 0, 1) := by decide +kernel
theorem dX10_recoversCoordinator_74 : decode cX10_recoversCoordinator 74 = .ok (.invokevirtual 133, 3) := by decide +kernel
theorem dX10_recoversCoordinator_77 : decode cX10_recoversCoordinator 77 = .ok (.goto 99, 3) := by decide +kernel
theorem dX10_recoversCoordinator_80 : decode cX10_recoversCoordinator 80 = .ok (.aload_n 0, 1) := by decide +kernel
theorem dX10_recoversCoordinator_81 : decode cX10_recoversCoordinator 81 = .ok (.getfield 25, 3) := by decide +kernel
theorem dX10_recoversCoordinator_84 : decode cX10_recoversCoordinator 84 = .ok (.iconst 0, 1) := by decide +kernel
theorem dX10_recoversCoordinator_85 : decode cX10_recoversCoordinator 85 = .ok (.iconst 3, 1) := by decide +kernel
theorem dX10_recoversCoordinator_86 : decode cX10_recoversCoordinator 86 = .ok (.iastore, 1) := by decide +kernel
theorem dX10_recoversCoordinator_87 : decode cX10_recoversCoordinator 87 = .ok (.aload_n 0, 1) := by decide +kernel
theorem dX10_recoversCoordinator_88 : decode cX10_recoversCoordinator 88 = .ok (.bipush 6, 2) := by decide +kernel
theorem dX10_recoversCoordinator_90 : decode cX10_recoversCoordinator 90 = .ok (.putfield 122, 3) := by decide +kernel
theorem dX10_recoversCoordinator_93 : decode cX10_recoversCoordinator 93 = .ok (.aload_n 0, 1) := by decide +kernel
theorem dX10_recoversCoordinator_94 : decode cX10_recoversCoordinator 94 = .ok (.bipush 6, 2) := by decide +kernel
theorem dX10_recoversCoordinator_96 : decode cX10_recoversCoordinator 96 = .ok (.invokevirtual 129, 3) := by decide +kernel
theorem dX10_recoversCoordinator_99 : decode cX10_recoversCoordinator 99 = .ok (.aload_n 0, 1) := by decide +kernel
theorem dX10_recoversCoordinator_100 : decode cX10_recoversCoordinator 100 = .ok (.iconst 0, 1) := by decide +kernel
theorem dX10_recoversCoordinator_101 : decode cX10_recoversCoordinator 101 = .ok (.invokevirtual 133, 3) := by decide +kernel
theorem dX10_recoversCoordinator_104 : decode cX10_recoversCoordinator 104 = .ok (.goto 72, 3) := by decide +kernel
theorem dX10_recoversCoordinator_107 : decode cX10_recoversCoordinator 107 = .ok (.aload_n 0, 1) := by decide +kernel
theorem dX10_recoversCoordinator_108 : decode cX10_recoversCoordinator 108 = .ok (.getfield 25, 3) := by decide +kernel
theorem dX10_recoversCoordinator_111 : decode cX10_recoversCoordinator 111 = .ok (.iconst 0, 1) := by decide +kernel
theorem dX10_recoversCoordinator_112 : decode cX10_recoversCoordinator 112 = .ok (.iconst 4, 1) := by decide +kernel
theorem dX10_recoversCoordinator_113 : decode cX10_recoversCoordinator 113 = .ok (.iastore, 1) := by decide +kernel
theorem dX10_recoversCoordinator_114 : decode cX10_recoversCoordinator 114 = .ok (.aload_n 0, 1) := by decide +kernel
theorem dX10_recoversCoordinator_115 : decode cX10_recoversCoordinator 115 = .ok (.bipush 7, 2) := by decide +kernel
theorem dX10_recoversCoordinator_117 : decode cX10_recoversCoordinator 117 = .ok (.putfield 122, 3) := by decide +kernel
theorem dX10_recoversCoordinator_120 : decode cX10_recoversCoordinator 120 = .ok (.aload_n 0, 1) := by decide +kernel
theorem dX10_recoversCoordinator_121 : decode cX10_recoversCoordinator 121 = .ok (.bipush 7, 2) := by decide +kernel
theorem dX10_recoversCoordinator_123 : decode cX10_recoversCoordinator 123 = .ok (.invokevirtual 129, 3) := by decide +kernel
theorem dX10_recoversCoordinator_126 : decode cX10_recoversCoordinator 126 = .ok (.aload_n 0, 1) := by decide +kernel
theorem dX10_recoversCoordinator_127 : decode cX10_recoversCoordinator 127 = .ok (.iconst 0, 1) := by decide +kernel
theorem dX10_recoversCoordinator_128 : decode cX10_recoversCoordinator 128 = .ok (.invokevirtual 133, 3) := by decide +kernel
theorem dX10_recoversCoordinator_131 : decode cX10_recoversCoordinator 131 = .ok (.goto 45, 3) := by decide +kernel
theorem dX10_recoversCoordinator_134 : decode cX10_recoversCoordinator 134 = .ok (.aload_n 0, 1) := by decide +kernel
theorem dX10_recoversCoordinator_135 : decode cX10_recoversCoordinator 135 = .ok (.getfield 25, 3) := by decide +kernel
theorem dX10_recoversCoordinator_138 : decode cX10_recoversCoordinator 138 = .ok (.iconst 0, 1) := by decide +kernel
theorem dX10_recoversCoordinator_139 : decode cX10_recoversCoordinator 139 = .ok (.iconst 5, 1) := by decide +kernel
theorem dX10_recoversCoordinator_140 : decode cX10_recoversCoordinator 140 = .ok (.iastore, 1) := by decide +kernel
theorem dX10_recoversCoordinator_141 : decode cX10_recoversCoordinator 141 = .ok (.aload_n 0, 1) := by decide +kernel
theorem dX10_recoversCoordinator_142 : decode cX10_recoversCoordinator 142 = .ok (.aload_n 0, 1) := by decide +kernel
theorem dX10_recoversCoordinator_143 : decode cX10_recoversCoordinator 143 = .ok (.iconst 0, 1) := by decide +kernel
theorem dX10_recoversCoordinator_144 : decode cX10_recoversCoordinator 144 = .ok (.aload_n 0, 1) := by decide +kernel
theorem dX10_recoversCoordinator_145 : decode cX10_recoversCoordinator 145 = .ok (.getfield 37, 3) := by decide +kernel
theorem dX10_recoversCoordinator_148 : decode cX10_recoversCoordinator 148 = .ok (.iconst 0, 1) := by decide +kernel
theorem dX10_recoversCoordinator_149 : decode cX10_recoversCoordinator 149 = .ok (.iaload, 1) := by decide +kernel
theorem dX10_recoversCoordinator_150 : decode cX10_recoversCoordinator 150 = .ok (.iconst 1, 1) := by decide +kernel
theorem dX10_recoversCoordinator_151 : decode cX10_recoversCoordinator 151 = .ok (.isub, 1) := by decide +kernel
theorem dX10_recoversCoordinator_152 : decode cX10_recoversCoordinator 152 = .ok (.invokevirtual 174, 3) := by decide +kernel
theorem dX10_recoversCoordinator_155 : decode cX10_recoversCoordinator 155 = .ok (.iconst 4, 1) := by decide +kernel
theorem dX10_recoversCoordinator_156 : decode cX10_recoversCoordinator 156 = .ok (.if_icmp .ne 8, 3) := by decide +kernel
theorem dX10_recoversCoordinator_159 : decode cX10_recoversCoordinator 159 = .ok (.bipush 6, 2) := by decide +kernel
theorem dX10_recoversCoordinator_161 : decode cX10_recoversCoordinator 161 = .ok (.goto 5, 3) := by decide +kernel
theorem dX10_recoversCoordinator_164 : decode cX10_recoversCoordinator 164 = .ok (.bipush 7, 2) := by decide +kernel
theorem dX10_recoversCoordinator_166 : decode cX10_recoversCoordinator 166 = .ok (.putfield 122, 3) := by decide +kernel
theorem dX10_recoversCoordinator_169 : decode cX10_recoversCoordinator 169 = .ok (.goto 7, 3) := by decide +kernel
theorem dX10_recoversCoordinator_172 : decode cX10_recoversCoordinator 172 = .ok (.aload_n 0, 1) := by decide +kernel
theorem dX10_recoversCoordinator_173 : decode cX10_recoversCoordinator 173 = .ok (.invokevirtual 149, 3) := by decide +kernel
theorem dX10_recoversCoordinator_176 : decode cX10_recoversCoordinator 176 = .ok (.return_, 1) := by decide +kernel
theorem dX10_recoversParticipant_0 : decode cX10_recoversParticipant 0 = .ok (.aload_n 0, 1) := by decide +kernel
theorem dX10_recoversParticipant_1 : decode cX10_recoversParticipant 1 = .ok (.iload_n 1, 1) := by decide +kernel
theorem dX10_recoversParticipant_2 : decode cX10_recoversParticipant 2 = .ok (.aload_n 0, 1) := by decide +kernel
theorem dX10_recoversParticipant_3 : decode cX10_recoversParticipant 3 = .ok (.getfield 37, 3) := by decide +kernel
theorem dX10_recoversParticipant_6 : decode cX10_recoversParticipant 6 = .ok (.iload_n 1, 1) := by decide +kernel
theorem dX10_recoversParticipant_7 : decode cX10_recoversParticipant 7 = .ok (.iaload, 1) := by decide +kernel
theorem dX10_recoversParticipant_8 : decode cX10_recoversParticipant 8 = .ok (.invokevirtual 174, 3) := by decide +kernel
theorem dX10_recoversParticipant_11 : decode cX10_recoversParticipant 11 = .ok (.tableswitch 80 0 3 #[29, 80, 45, 65], 29) := by decide +kernel
theorem dX10_recoversParticipant_40 : decode cX10_recoversParticipant 40 = .ok (.aload_n 0, 1) := by decide +kernel
theorem dX10_recoversParticipant_41 : decode cX10_recoversParticipant 41 = .ok (.iload_n 1, 1) := by decide +kernel
theorem dX10_recoversParticipant_42 : decode cX10_recoversParticipant 42 = .ok (.iconst 5, 1) := by decide +kernel
theorem dX10_recoversParticipant_43 : decode cX10_recoversParticipant 43 = .ok (.invokevirtual 125, 3) := by decide +kernel
theorem dX10_recoversParticipant_46 : decode cX10_recoversParticipant 46 = .ok (.aload_n 0, 1) := by decide +kernel
theorem dX10_recoversParticipant_47 : decode cX10_recoversParticipant 47 = .ok (.getfield 25, 3) := by decide +kernel
theorem dX10_recoversParticipant_50 : decode cX10_recoversParticipant 50 = .ok (.iload_n 1, 1) := by decide +kernel
theorem dX10_recoversParticipant_51 : decode cX10_recoversParticipant 51 = .ok (.iconst 4, 1) := by decide +kernel
theorem dX10_recoversParticipant_52 : decode cX10_recoversParticipant 52 = .ok (.iastore, 1) := by decide +kernel
theorem dX10_recoversParticipant_53 : decode cX10_recoversParticipant 53 = .ok (.goto 64, 3) := by decide +kernel
theorem dX10_recoversParticipant_56 : decode cX10_recoversParticipant 56 = .ok (.aload_n 0, 1) := by decide +kernel
theorem dX10_recoversParticipant_57 : decode cX10_recoversParticipant 57 = .ok (.getfield 25, 3) := by decide +kernel
theorem dX10_recoversParticipant_60 : decode cX10_recoversParticipant 60 = .ok (.iload_n 1, 1) := by decide +kernel
theorem dX10_recoversParticipant_61 : decode cX10_recoversParticipant 61 = .ok (.iconst 1, 1) := by decide +kernel
theorem dX10_recoversParticipant_62 : decode cX10_recoversParticipant 62 = .ok (.iastore, 1) := by decide +kernel
theorem dX10_recoversParticipant_63 : decode cX10_recoversParticipant 63 = .ok (.aload_n 0, 1) := by decide +kernel
theorem dX10_recoversParticipant_64 : decode cX10_recoversParticipant 64 = .ok (.getfield 31, 3) := by decide +kernel
theorem dX10_recoversParticipant_67 : decode cX10_recoversParticipant 67 = .ok (.iload_n 1, 1) := by decide +kernel
theorem dX10_recoversParticipant_68 : decode cX10_recoversParticipant 68 = .ok (.aload_n 0, 1) := by decide +kernel
theorem dX10_recoversParticipant_69 : decode cX10_recoversParticipant 69 = .ok (.getfield 115, 3) := by decide +kernel
theorem dX10_recoversParticipant_72 : decode cX10_recoversParticipant 72 = .ok (.iastore, 1) := by decide +kernel
theorem dX10_recoversParticipant_73 : decode cX10_recoversParticipant 73 = .ok (.goto 44, 3) := by decide +kernel
theorem dX10_recoversParticipant_76 : decode cX10_recoversParticipant 76 = .ok (.aload_n 0, 1) := by decide +kernel
theorem dX10_recoversParticipant_77 : decode cX10_recoversParticipant 77 = .ok (.getfield 25, 3) := by decide +kernel
theorem dX10_recoversParticipant_80 : decode cX10_recoversParticipant 80 = .ok (.iload_n 1, 1) := by decide +kernel
theorem dX10_recoversParticipant_81 : decode cX10_recoversParticipant 81 = .ok (.iconst 2, 1) := by decide +kernel
theorem dX10_recoversParticipant_82 : decode cX10_recoversParticipant 82 = .ok (.iastore, 1) := by decide +kernel
theorem dX10_recoversParticipant_83 : decode cX10_recoversParticipant 83 = .ok (.aload_n 0, 1) := by decide +kernel
theorem dX10_recoversParticipant_84 : decode cX10_recoversParticipant 84 = .ok (.iload_n 1, 1) := by decide +kernel
theorem dX10_recoversParticipant_85 : decode cX10_recoversParticipant 85 = .ok (.invokevirtual 133, 3) := by decide +kernel
theorem dX10_recoversParticipant_88 : decode cX10_recoversParticipant 88 = .ok (.goto 29, 3) := by decide +kernel
theorem dX10_recoversParticipant_91 : decode cX10_recoversParticipant 91 = .ok (.aload_n 0, 1) := by decide +kernel
theorem dX10_recoversParticipant_92 : decode cX10_recoversParticipant 92 = .ok (.getfield 25, 3) := by decide +kernel
theorem dX10_recoversParticipant_95 : decode cX10_recoversParticipant 95 = .ok (.iload_n 1, 1) := by decide +kernel
theorem dX10_recoversParticipant_96 : decode cX10_recoversParticipant 96 = .ok (.aload_n 0, 1) := by decide +kernel
theorem dX10_recoversParticipant_97 : decode cX10_recoversParticipant 97 = .ok (.iload_n 1, 1) := by decide +kernel
theorem dX10_recoversParticipant_98 : decode cX10_recoversParticipant 98 = .ok (.aload_n 0, 1) := by decide +kernel
theorem dX10_recoversParticipant_99 : decode cX10_recoversParticipant 99 = .ok (.getfield 37, 3) := by decide +kernel
theorem dX10_recoversParticipant_102 : decode cX10_recoversParticipant 102 = .ok (.iload_n 1, 1) := by decide +kernel
theorem dX10_recoversParticipant_103 : decode cX10_recoversParticipant 103 = .ok (.iaload, 1) := by decide +kernel
theorem dX10_recoversParticipant_104 : decode cX10_recoversParticipant 104 = .ok (.invokevirtual 174, 3) := by decide +kernel
theorem dX10_recoversParticipant_107 : decode cX10_recoversParticipant 107 = .ok (.iconst 4, 1) := by decide +kernel
theorem dX10_recoversParticipant_108 : decode cX10_recoversParticipant 108 = .ok (.if_icmp .ne 7, 3) := by decide +kernel
theorem dX10_recoversParticipant_111 : decode cX10_recoversParticipant 111 = .ok (.iconst 3, 1) := by decide +kernel
theorem dX10_recoversParticipant_112 : decode cX10_recoversParticipant 112 = .ok (.goto 4, 3) := by decide +kernel
theorem dX10_recoversParticipant_115 : decode cX10_recoversParticipant 115 = .ok (.iconst 4, 1) := by decide +kernel
theorem dX10_recoversParticipant_116 : decode cX10_recoversParticipant 116 = .ok (.iastore, 1) := by decide +kernel
theorem dX10_recoversParticipant_117 : decode cX10_recoversParticipant 117 = .ok (.return_, 1) := by decide +kernel
theorem dX10_recovers_0 : decode cX10_recovers 0 = .ok (.aload_n 0, 1) := by decide +kernel
theorem dX10_recovers_1 : decode cX10_recovers 1 = .ok (.getfield 28, 3) := by decide +kernel
theorem dX10_recovers_4 : decode cX10_recovers 4 = .ok (.iload_n 1, 1) := by decide +kernel
theorem dX10_recovers_5 : decode cX10_recovers 5 = .ok (.iconst 1, 1) := by decide +kernel
theorem dX10_recovers_6 : decode cX10_recovers 6 = .ok (.iastore, 1) := by decide +kernel
theorem dX10_recovers_7 : decode cX10_recovers 7 = .ok (.aload_n 0, 1) := by decide +kernel
theorem dX10_recovers_8 : decode cX10_recovers 8 = .ok (.getfield 31, 3) := by decide +kernel
theorem dX10_recovers_11 : decode cX10_recovers 11 = .ok (.iload_n 1, 1) := by decide +kernel
theorem dX10_recovers_12 : decode cX10_recovers 12 = .ok (.sipush 1000, 3) := by decide +kernel
theorem dX10_recovers_15 : decode cX10_recovers 15 = .ok (.iastore, 1) := by decide +kernel
theorem dX10_recovers_16 : decode cX10_recovers 16 = .ok (.iload_n 1, 1) := by decide +kernel
theorem dX10_recovers_17 : decode cX10_recovers 17 = .ok (.ifCond .ne 10, 3) := by decide +kernel
theorem dX10_recovers_20 : decode cX10_recovers 20 = .ok (.aload_n 0, 1) := by decide +kernel
theorem dX10_recovers_21 : decode cX10_recovers 21 = .ok (.invokevirtual 178, 3) := by decide +kernel
theorem dX10_recovers_24 : decode cX10_recovers 24 = .ok (.goto 8, 3) := by decide +kernel
theorem dX10_recovers_27 : decode cX10_recovers 27 = .ok (.aload_n 0, 1) := by decide +kernel
theorem dX10_recovers_28 : decode cX10_recovers 28 = .ok (.iload_n 1, 1) := by decide +kernel
theorem dX10_recovers_29 : decode cX10_recovers 29 = .ok (.invokevirtual 181, 3) := by decide +kernel
theorem dX10_recovers_32 : decode cX10_recovers 32 = .ok (.return_, 1) := by decide +kernel
theorem dX10_arrives_0 : decode cX10_arrives 0 = .ok (.aload_n 0, 1) := by decide +kernel
theorem dX10_arrives_1 : decode cX10_arrives 1 = .ok (.getfield 49, 3) := by decide +kernel
theorem dX10_arrives_4 : decode cX10_arrives 4 = .ok (.iload_n 1, 1) := by decide +kernel
theorem dX10_arrives_5 : decode cX10_arrives 5 = .ok (.iaload, 1) := by decide +kernel
theorem dX10_arrives_6 : decode cX10_arrives 6 = .ok (.istore_n 2, 1) := by decide +kernel
theorem dX10_arrives_7 : decode cX10_arrives 7 = .ok (.iload_n 1, 1) := by decide +kernel
theorem dX10_arrives_8 : decode cX10_arrives 8 = .ok (.bipush 60, 2) := by decide +kernel
theorem dX10_arrives_10 : decode cX10_arrives 10 = .ok (.if_icmp .ge 23, 3) := by decide +kernel
theorem dX10_arrives_13 : decode cX10_arrives 13 = .ok (.aload_n 0, 1) := by decide +kernel
theorem dX10_arrives_14 : decode cX10_arrives 14 = .ok (.getfield 16, 3) := by decide +kernel
theorem dX10_arrives_17 : decode cX10_arrives 17 = .ok (.iload_n 1, 1) := by decide +kernel
theorem dX10_arrives_18 : decode cX10_arrives 18 = .ok (.iaload, 1) := by decide +kernel
theorem dX10_arrives_19 : decode cX10_arrives 19 = .ok (.iconst 1, 1) := by decide +kernel
theorem dX10_arrives_20 : decode cX10_arrives 20 = .ok (.if_icmp .ne 13, 3) := by decide +kernel
theorem dX10_arrives_23 : decode cX10_arrives 23 = .ok (.aload_n 0, 1) := by decide +kernel
theorem dX10_arrives_24 : decode cX10_arrives 24 = .ok (.getfield 55, 3) := by decide +kernel
theorem dX10_arrives_27 : decode cX10_arrives 27 = .ok (.iload_n 1, 1) := by decide +kernel
theorem dX10_arrives_28 : decode cX10_arrives 28 = .ok (.iconst 1, 1) := by decide +kernel
theorem dX10_arrives_29 : decode cX10_arrives 29 = .ok (.iastore, 1) := by decide +kernel
theorem dX10_arrives_30 : decode cX10_arrives 30 = .ok (.goto 69, 3) := by decide +kernel
theorem dX10_arrives_33 : decode cX10_arrives 33 = .ok (.aload_n 0, 1) := by decide +kernel
theorem dX10_arrives_34 : decode cX10_arrives 34 = .ok (.getfield 28, 3) := by decide +kernel
theorem dX10_arrives_37 : decode cX10_arrives 37 = .ok (.iload_n 2, 1) := by decide +kernel
theorem dX10_arrives_38 : decode cX10_arrives 38 = .ok (.iaload, 1) := by decide +kernel
theorem dX10_arrives_39 : decode cX10_arrives 39 = .ok (.ifCond .ne 13, 3) := by decide +kernel
theorem dX10_arrives_42 : decode cX10_arrives 42 = .ok (.aload_n 0, 1) := by decide +kernel
theorem dX10_arrives_43 : decode cX10_arrives 43 = .ok (.getfield 55, 3) := by decide +kernel
theorem dX10_arrives_46 : decode cX10_arrives 46 = .ok (.iload_n 1, 1) := by decide +kernel
theorem dX10_arrives_47 : decode cX10_arrives 47 = .ok (.iconst 2, 1) := by decide +kernel
theorem dX10_arrives_48 : decode cX10_arrives 48 = .ok (.iastore, 1) := by decide +kernel
theorem dX10_arrives_49 : decode cX10_arrives 49 = .ok (.goto 50, 3) := by decide +kernel
theorem dX10_arrives_52 : decode cX10_arrives 52 = .ok (.aload_n 0, 1) := by decide +kernel
theorem dX10_arrives_53 : decode cX10_arrives 53 = .ok (.getfield 55, 3) := by decide +kernel
theorem dX10_arrives_56 : decode cX10_arrives 56 = .ok (.iload_n 1, 1) := by decide +kernel
theorem dX10_arrives_57 : decode cX10_arrives 57 = .ok (.iconst 0, 1) := by decide +kernel
theorem dX10_arrives_58 : decode cX10_arrives 58 = .ok (.iastore, 1) := by decide +kernel
theorem dX10_arrives_59 : decode cX10_arrives 59 = .ok (.iload_n 2, 1) := by decide +kernel
theorem dX10_arrives_60 : decode cX10_arrives 60 = .ok (.ifCond .ne 22, 3) := by decide +kernel
theorem dX10_arrives_63 : decode cX10_arrives 63 = .ok (.aload_n 0, 1) := by decide +kernel
theorem dX10_arrives_64 : decode cX10_arrives 64 = .ok (.aload_n 0, 1) := by decide +kernel
theorem dX10_arrives_65 : decode cX10_arrives 65 = .ok (.getfield 43, 3) := by decide +kernel
theorem dX10_arrives_68 : decode cX10_arrives 68 = .ok (.iload_n 1, 1) := by decide +kernel
theorem dX10_arrives_69 : decode cX10_arrives 69 = .ok (.iaload, 1) := by decide +kernel
theorem dX10_arrives_70 : decode cX10_arrives 70 = .ok (.aload_n 0, 1) := by decide +kernel
theorem dX10_arrives_71 : decode cX10_arrives 71 = .ok (.getfield 46, 3) := by decide +kernel
theorem dX10_arrives_74 : decode cX10_arrives 74 = .ok (.iload_n 1, 1) := by decide +kernel
theorem dX10_arrives_75 : decode cX10_arrives 75 = .ok (.iaload, 1) := by decide +kernel
theorem dX10_arrives_76 : decode cX10_arrives 76 = .ok (.invokevirtual 184, 3) := by decide +kernel
theorem dX10_arrives_79 : decode cX10_arrives 79 = .ok (.goto 20, 3) := by decide +kernel
theorem dX10_arrives_82 : decode cX10_arrives 82 = .ok (.aload_n 0, 1) := by decide +kernel
theorem dX10_arrives_83 : decode cX10_arrives 83 = .ok (.iload_n 2, 1) := by decide +kernel
theorem dX10_arrives_84 : decode cX10_arrives 84 = .ok (.aload_n 0, 1) := by decide +kernel
theorem dX10_arrives_85 : decode cX10_arrives 85 = .ok (.getfield 43, 3) := by decide +kernel
theorem dX10_arrives_88 : decode cX10_arrives 88 = .ok (.iload_n 1, 1) := by decide +kernel
theorem dX10_arrives_89 : decode cX10_arrives 89 = .ok (.iaload, 1) := by decide +kernel
theorem dX10_arrives_90 : decode cX10_arrives 90 = .ok (.aload_n 0, 1) := by decide +kernel
theorem dX10_arrives_91 : decode cX10_arrives 91 = .ok (.getfield 46, 3) := by decide +kernel
theorem dX10_arrives_94 : decode cX10_arrives 94 = .ok (.iload_n 1, 1) := by decide +kernel
theorem dX10_arrives_95 : decode cX10_arrives 95 = .ok (.iaload, 1) := by decide +kernel
theorem dX10_arrives_96 : decode cX10_arrives 96 = .ok (.invokevirtual 187, 3) := by decide +kernel
theorem dX10_arrives_99 : decode cX10_arrives 99 = .ok (.return_, 1) := by decide +kernel
theorem dX10_timesOut_0 : decode cX10_timesOut 0 = .ok (.aload_n 0, 1) := by decide +kernel
theorem dX10_timesOut_1 : decode cX10_timesOut 1 = .ok (.getfield 31, 3) := by decide +kernel
theorem dX10_timesOut_4 : decode cX10_timesOut 4 = .ok (.iload_n 1, 1) := by decide +kernel
theorem dX10_timesOut_5 : decode cX10_timesOut 5 = .ok (.sipush 1000, 3) := by decide +kernel
theorem dX10_timesOut_8 : decode cX10_timesOut 8 = .ok (.iastore, 1) := by decide +kernel
theorem dX10_timesOut_9 : decode cX10_timesOut 9 = .ok (.iload_n 1, 1) := by decide +kernel
theorem dX10_timesOut_10 : decode cX10_timesOut 10 = .ok (.ifCond .ne 10, 3) := by decide +kernel
theorem dX10_timesOut_13 : decode cX10_timesOut 13 = .ok (.aload_n 0, 1) := by decide +kernel
theorem dX10_timesOut_14 : decode cX10_timesOut 14 = .ok (.invokevirtual 190, 3) := by decide +kernel
theorem dX10_timesOut_17 : decode cX10_timesOut 17 = .ok (.goto 8, 3) := by decide +kernel
theorem dX10_timesOut_20 : decode cX10_timesOut 20 = .ok (.aload_n 0, 1) := by decide +kernel
theorem dX10_timesOut_21 : decode cX10_timesOut 21 = .ok (.iload_n 1, 1) := by decide +kernel
theorem dX10_timesOut_22 : decode cX10_timesOut 22 = .ok (.invokevirtual 193, 3) := by decide +kernel
theorem dX10_timesOut_25 : decode cX10_timesOut 25 = .ok (.return_, 1) := by decide +kernel
theorem dX10_goesSites_0 : decode cX10_goesSites 0 = .ok (.iconst 0, 1) := by decide +kernel
theorem dX10_goesSites_1 : decode cX10_goesSites 1 = .ok (.istore_n 1, 1) := by decide +kernel
theorem dX10_goesSites_2 : decode cX10_goesSites 2 = .ok (.iload_n 1, 1) := by decide +kernel
theorem dX10_goesSites_3 : decode cX10_goesSites 3 = .ok (.aload_n 0, 1) := by decide +kernel
theorem dX10_goesSites_4 : decode cX10_goesSites 4 = .ok (.getfield 96, 3) := by decide +kernel
theorem dX10_goesSites_7 : decode cX10_goesSites 7 = .ok (.if_icmp .gt 37, 3) := by decide +kernel
theorem dX10_goesSites_10 : decode cX10_goesSites 10 = .ok (.aload_n 0, 1) := by decide +kernel
theorem dX10_goesSites_11 : decode cX10_goesSites 11 = .ok (.getfield 19, 3) := by decide +kernel
theorem dX10_goesSites_14 : decode cX10_goesSites 14 = .ok (.iload_n 1, 1) := by decide +kernel
theorem dX10_goesSites_15 : decode cX10_goesSites 15 = .ok (.iaload, 1) := by decide +kernel
theorem dX10_goesSites_16 : decode cX10_goesSites 16 = .ok (.iconst (-1), 1) := by decide +kernel
theorem dX10_goesSites_17 : decode cX10_goesSites 17 = .ok (.if_icmp .eq 21, 3) := by decide +kernel
theorem dX10_goesSites_20 : decode cX10_goesSites 20 = .ok (.aload_n 0, 1) := by decide +kernel
theorem dX10_goesSites_21 : decode cX10_goesSites 21 = .ok (.getfield 22, 3) := by decide +kernel
theorem dX10_goesSites_24 : decode cX10_goesSites 24 = .ok (.iload_n 1, 1) := by decide +kernel
theorem dX10_goesSites_25 : decode cX10_goesSites 25 = .ok (.iaload, 1) := by decide +kernel
theorem dX10_goesSites_26 : decode cX10_goesSites 26 = .ok (.aload_n 0, 1) := by decide +kernel
theorem dX10_goesSites_27 : decode cX10_goesSites 27 = .ok (.getfield 115, 3) := by decide +kernel
theorem dX10_goesSites_30 : decode cX10_goesSites 30 = .ok (.if_icmp .ne 8, 3) := by decide +kernel
theorem dX10_goesSites_33 : decode cX10_goesSites 33 = .ok (.aload_n 0, 1) := by decide +kernel
theorem dX10_goesSites_34 : decode cX10_goesSites 34 = .ok (.iload_n 1, 1) := by decide +kernel
theorem dX10_goesSites_35 : decode cX10_goesSites 35 = .ok (.invokevirtual 196, 3) := by decide +kernel
theorem dX10_goesSites_38 : decode cX10_goesSites 38 = .ok (.iinc 1 1, 3) := by decide +kernel
theorem dX10_goesSites_41 : decode cX10_goesSites 41 = .ok (.goto (-39), 3) := by decide +kernel
theorem dX10_goesSites_44 : decode cX10_goesSites 44 = .ok (.iconst 0, 1) := by decide +kernel
theorem dX10_goesSites_45 : decode cX10_goesSites 45 = .ok (.istore_n 1, 1) := by decide +kernel
theorem dX10_goesSites_46 : decode cX10_goesSites 46 = .ok (.iload_n 1, 1) := by decide +kernel
theorem dX10_goesSites_47 : decode cX10_goesSites 47 = .ok (.aload_n 0, 1) := by decide +kernel
theorem dX10_goesSites_48 : decode cX10_goesSites 48 = .ok (.getfield 96, 3) := by decide +kernel
theorem dX10_goesSites_51 : decode cX10_goesSites 51 = .ok (.if_icmp .gt 29, 3) := by decide +kernel
theorem dX10_goesSites_54 : decode cX10_goesSites 54 = .ok (.aload_n 0, 1) := by decide +kernel
theorem dX10_goesSites_55 : decode cX10_goesSites 55 = .ok (.getfield 19, 3) := by decide +kernel
theorem dX10_goesSites_58 : decode cX10_goesSites 58 = .ok (.iload_n 1, 1) := by decide +kernel
theorem dX10_goesSites_59 : decode cX10_goesSites 59 = .ok (.iaload, 1) := by decide +kernel
theorem dX10_goesSites_60 : decode cX10_goesSites 60 = .ok (.aload_n 0, 1) := by decide +kernel
theorem dX10_goesSites_61 : decode cX10_goesSites 61 = .ok (.getfield 115, 3) := by decide +kernel
theorem dX10_goesSites_64 : decode cX10_goesSites 64 = .ok (.if_icmp .ne 10, 3) := by decide +kernel
theorem dX10_goesSites_67 : decode cX10_goesSites 67 = .ok (.aload_n 0, 1) := by decide +kernel
theorem dX10_goesSites_68 : decode cX10_goesSites 68 = .ok (.getfield 28, 3) := by decide +kernel
theorem dX10_goesSites_71 : decode cX10_goesSites 71 = .ok (.iload_n 1, 1) := by decide +kernel
theorem dX10_goesSites_72 : decode cX10_goesSites 72 = .ok (.iconst 0, 1) := by decide +kernel
theorem dX10_goesSites_73 : decode cX10_goesSites 73 = .ok (.iastore, 1) := by decide +kernel
theorem dX10_goesSites_74 : decode cX10_goesSites 74 = .ok (.iinc 1 1, 3) := by decide +kernel
theorem dX10_goesSites_77 : decode cX10_goesSites 77 = .ok (.goto (-31), 3) := by decide +kernel
theorem dX10_goesSites_80 : decode cX10_goesSites 80 = .ok (.return_, 1) := by decide +kernel
theorem dX10_goesTick_0 : decode cX10_goesTick 0 = .ok (.aload_n 0, 1) := by decide +kernel
theorem dX10_goesTick_1 : decode cX10_goesTick 1 = .ok (.getfield 112, 3) := by decide +kernel
theorem dX10_goesTick_4 : decode cX10_goesTick 4 = .ok (.istore_n 1, 1) := by decide +kernel
theorem dX10_goesTick_5 : decode cX10_goesTick 5 = .ok (.aload_n 0, 1) := by decide +kernel
theorem dX10_goesTick_6 : decode cX10_goesTick 6 = .ok (.invokevirtual 199, 3) := by decide +kernel
theorem dX10_goesTick_9 : decode cX10_goesTick 9 = .ok (.aload_n 0, 1) := by decide +kernel
theorem dX10_goesTick_10 : decode cX10_goesTick 10 = .ok (.getfield 202, 3) := by decide +kernel
theorem dX10_goesTick_13 : decode cX10_goesTick 13 = .ok (.istore_n 2, 1) := by decide +kernel
theorem dX10_goesTick_14 : decode cX10_goesTick 14 = .ok (.iload_n 2, 1) := by decide +kernel
theorem dX10_goesTick_15 : decode cX10_goesTick 15 = .ok (.iload_n 1, 1) := by decide +kernel
theorem dX10_goesTick_16 : decode cX10_goesTick 16 = .ok (.if_icmp .ge 14, 3) := by decide +kernel
theorem dX10_goesTick_19 : decode cX10_goesTick 19 = .ok (.aload_n 0, 1) := by decide +kernel
theorem dX10_goesTick_20 : decode cX10_goesTick 20 = .ok (.iload_n 2, 1) := by decide +kernel
theorem dX10_goesTick_21 : decode cX10_goesTick 21 = .ok (.invokevirtual 205, 3) := by decide +kernel
theorem dX10_goesTick_24 : decode cX10_goesTick 24 = .ok (.iinc 2 1, 3) := by decide +kernel
theorem dX10_goesTick_27 : decode cX10_goesTick 27 = .ok (.goto (-13), 3) := by decide +kernel
theorem dX10_goesTick_30 : decode cX10_goesTick 30 = .ok (.aload_n 0, 1) := by decide +kernel
theorem dX10_goesTick_31 : decode cX10_goesTick 31 = .ok (.iload_n 1, 1) := by decide +kernel
theorem dX10_goesTick_32 : decode cX10_goesTick 32 = .ok (.putfield 202, 3) := by decide +kernel
theorem dX10_goesTick_35 : decode cX10_goesTick 35 = .ok (.aload_n 0, 1) := by decide +kernel
theorem dX10_goesTick_36 : decode cX10_goesTick 36 = .ok (.getfield 115, 3) := by decide +kernel
theorem dX10_goesTick_39 : decode cX10_goesTick 39 = .ok (.ifCond .ne 17, 3) := by decide +kernel
theorem dX10_goesTick_42 : decode cX10_goesTick 42 = .ok (.aload_n 0, 1) := by decide +kernel
theorem dX10_goesTick_43 : decode cX10_goesTick 43 = .ok (.getfield 28, 3) := by decide +kernel
theorem dX10_goesTick_46 : decode cX10_goesTick 46 = .ok (.iconst 0, 1) := by decide +kernel
theorem dX10_goesTick_47 : decode cX10_goesTick 47 = .ok (.iaload, 1) := by decide +kernel
theorem dX10_goesTick_48 : decode cX10_goesTick 48 = .ok (.iconst 1, 1) := by decide +kernel
theorem dX10_goesTick_49 : decode cX10_goesTick 49 = .ok (.if_icmp .ne 7, 3) := by decide +kernel
theorem dX10_goesTick_52 : decode cX10_goesTick 52 = .ok (.aload_n 0, 1) := by decide +kernel
theorem dX10_goesTick_53 : decode cX10_goesTick 53 = .ok (.invokevirtual 208, 3) := by decide +kernel
theorem dX10_goesTick_56 : decode cX10_goesTick 56 = .ok (.iconst 0, 1) := by decide +kernel
theorem dX10_goesTick_57 : decode cX10_goesTick 57 = .ok (.istore_n 2, 1) := by decide +kernel
theorem dX10_goesTick_58 : decode cX10_goesTick 58 = .ok (.iload_n 2, 1) := by decide +kernel
theorem dX10_goesTick_59 : decode cX10_goesTick 59 = .ok (.aload_n 0, 1) := by decide +kernel
theorem dX10_goesTick_60 : decode cX10_goesTick 60 = .ok (.getfield 96, 3) := by decide +kernel
theorem dX10_goesTick_63 : decode cX10_goesTick 63 = .ok (.if_icmp .gt 37, 3) := by decide +kernel
theorem dX10_goesTick_66 : decode cX10_goesTick 66 = .ok (.aload_n 0, 1) := by decide +kernel
theorem dX10_goesTick_67 : decode cX10_goesTick 67 = .ok (.getfield 28, 3) := by decide +kernel
theorem dX10_goesTick_70 : decode cX10_goesTick 70 = .ok (.iload_n 2, 1) := by decide +kernel
theorem dX10_goesTick_71 : decode cX10_goesTick 71 = .ok (.iaload, 1) := by decide +kernel
theorem dX10_goesTick_72 : decode cX10_goesTick 72 = .ok (.iconst 1, 1) := by decide +kernel
theorem dX10_goesTick_73 : decode cX10_goesTick 73 = .ok (.if_icmp .ne 21, 3) := by decide +kernel
theorem dX10_goesTick_76 : decode cX10_goesTick 76 = .ok (.aload_n 0, 1) := by decide +kernel
theorem dX10_goesTick_77 : decode cX10_goesTick 77 = .ok (.getfield 31, 3) := by decide +kernel
theorem dX10_goesTick_80 : decode cX10_goesTick 80 = .ok (.iload_n 2, 1) := by decide +kernel
theorem dX10_goesTick_81 : decode cX10_goesTick 81 = .ok (.iaload, 1) := by decide +kernel
theorem dX10_goesTick_82 : decode cX10_goesTick 82 = .ok (.aload_n 0, 1) := by decide +kernel
theorem dX10_goesTick_83 : decode cX10_goesTick 83 = .ok (.getfield 115, 3) := by decide +kernel
theorem dX10_goesTick_86 : decode cX10_goesTick 86 = .ok (.if_icmp .gt 8, 3) := by decide +kernel
theorem dX10_goesTick_89 : decode cX10_goesTick 89 = .ok (.aload_n 0, 1) := by decide +kernel
theorem dX10_goesTick_90 : decode cX10_goesTick 90 = .ok (.iload_n 2, 1) := by decide +kernel
theorem dX10_goesTick_91 : decode cX10_goesTick 91 = .ok (.invokevirtual 211, 3) := by decide +kernel
theorem dX10_goesTick_94 : decode cX10_goesTick 94 = .ok (.iinc 2 1, 3) := by decide +kernel
theorem dX10_goesTick_97 : decode cX10_goesTick 97 = .ok (.goto (-39), 3) := by decide +kernel
theorem dX10_goesTick_100 : decode cX10_goesTick 100 = .ok (.return_, 1) := by decide +kernel
theorem dX10_runs_0 : decode cX10_runs 0 = .ok (.aload_n 0, 1) := by decide +kernel
theorem dX10_runs_1 : decode cX10_runs 1 = .ok (.iconst 0, 1) := by decide +kernel
theorem dX10_runs_2 : decode cX10_runs 2 = .ok (.putfield 112, 3) := by decide +kernel
theorem dX10_runs_5 : decode cX10_runs 5 = .ok (.aload_n 0, 1) := by decide +kernel
theorem dX10_runs_6 : decode cX10_runs 6 = .ok (.iconst 0, 1) := by decide +kernel
theorem dX10_runs_7 : decode cX10_runs 7 = .ok (.putfield 202, 3) := by decide +kernel
theorem dX10_runs_10 : decode cX10_runs 10 = .ok (.aload_n 0, 1) := by decide +kernel
theorem dX10_runs_11 : decode cX10_runs 11 = .ok (.iconst 0, 1) := by decide +kernel
theorem dX10_runs_12 : decode cX10_runs 12 = .ok (.putfield 122, 3) := by decide +kernel
theorem dX10_runs_15 : decode cX10_runs 15 = .ok (.iconst 0, 1) := by decide +kernel
theorem dX10_runs_16 : decode cX10_runs 16 = .ok (.istore_n 1, 1) := by decide +kernel
theorem dX10_runs_17 : decode cX10_runs 17 = .ok (.iload_n 1, 1) := by decide +kernel
theorem dX10_runs_18 : decode cX10_runs 18 = .ok (.iconst 3, 1) := by decide +kernel
theorem dX10_runs_19 : decode cX10_runs 19 = .ok (.if_icmp .ge 16, 3) := by decide +kernel
theorem dX10_runs_22 : decode cX10_runs 22 = .ok (.aload_n 0, 1) := by decide +kernel
theorem dX10_runs_23 : decode cX10_runs 23 = .ok (.getfield 40, 3) := by decide +kernel
theorem dX10_runs_26 : decode cX10_runs 26 = .ok (.iload_n 1, 1) := by decide +kernel
theorem dX10_runs_27 : decode cX10_runs 27 = .ok (.iconst 0, 1) := by decide +kernel
theorem dX10_runs_28 : decode cX10_runs 28 = .ok (.iastore, 1) := by decide +kernel
theorem dX10_runs_29 : decode cX10_runs 29 = .ok (.iinc 1 1, 3) := by decide +kernel
theorem dX10_runs_32 : decode cX10_runs 32 = .ok (.goto (-15), 3) := by decide +kernel
theorem dX10_runs_35 : decode cX10_runs 35 = .ok (.iconst 0, 1) := by decide +kernel
theorem dX10_runs_36 : decode cX10_runs 36 = .ok (.istore_n 1, 1) := by decide +kernel
theorem dX10_runs_37 : decode cX10_runs 37 = .ok (.iload_n 1, 1) := by decide +kernel
theorem dX10_runs_38 : decode cX10_runs 38 = .ok (.bipush 6, 2) := by decide +kernel
theorem dX10_runs_40 : decode cX10_runs 40 = .ok (.if_icmp .ge 39, 3) := by decide +kernel
theorem dX10_runs_43 : decode cX10_runs 43 = .ok (.aload_n 0, 1) := by decide +kernel
theorem dX10_runs_44 : decode cX10_runs 44 = .ok (.getfield 25, 3) := by decide +kernel
theorem dX10_runs_47 : decode cX10_runs 47 = .ok (.iload_n 1, 1) := by decide +kernel
theorem dX10_runs_48 : decode cX10_runs 48 = .ok (.iconst 0, 1) := by decide +kernel
theorem dX10_runs_49 : decode cX10_runs 49 = .ok (.iastore, 1) := by decide +kernel
theorem dX10_runs_50 : decode cX10_runs 50 = .ok (.aload_n 0, 1) := by decide +kernel
theorem dX10_runs_51 : decode cX10_runs 51 = .ok (.getfield 28, 3) := by decide +kernel
theorem dX10_runs_54 : decode cX10_runs 54 = .ok (.iload_n 1, 1) := by decide +kernel
theorem dX10_runs_55 : decode cX10_runs 55 = .ok (.iconst 1, 1) := by decide +kernel
theorem dX10_runs_56 : decode cX10_runs 56 = .ok (.iastore, 1) := by decide +kernel
theorem dX10_runs_57 : decode cX10_runs 57 = .ok (.aload_n 0, 1) := by decide +kernel
theorem dX10_runs_58 : decode cX10_runs 58 = .ok (.getfield 31, 3) := by decide +kernel
theorem dX10_runs_61 : decode cX10_runs 61 = .ok (.iload_n 1, 1) := by decide +kernel
theorem dX10_runs_62 : decode cX10_runs 62 = .ok (.sipush 1000, 3) := by decide +kernel
theorem dX10_runs_65 : decode cX10_runs 65 = .ok (.iastore, 1) := by decide +kernel
theorem dX10_runs_66 : decode cX10_runs 66 = .ok (.aload_n 0, 1) := by decide +kernel
theorem dX10_runs_67 : decode cX10_runs 67 = .ok (.getfield 37, 3) := by decide +kernel
theorem dX10_runs_70 : decode cX10_runs 70 = .ok (.iload_n 1, 1) := by decide +kernel
theorem dX10_runs_71 : decode cX10_runs 71 = .ok (.iconst 0, 1) := by decide +kernel
theorem dX10_runs_72 : decode cX10_runs 72 = .ok (.iastore, 1) := by decide +kernel
theorem dX10_runs_73 : decode cX10_runs 73 = .ok (.iinc 1 1, 3) := by decide +kernel
theorem dX10_runs_76 : decode cX10_runs 76 = .ok (.goto (-39), 3) := by decide +kernel
theorem dX10_runs_79 : decode cX10_runs 79 = .ok (.aload_n 0, 1) := by decide +kernel
theorem dX10_runs_80 : decode cX10_runs 80 = .ok (.iconst 0, 1) := by decide +kernel
theorem dX10_runs_81 : decode cX10_runs 81 = .ok (.putfield 115, 3) := by decide +kernel
theorem dX10_runs_84 : decode cX10_runs 84 = .ok (.aload_n 0, 1) := by decide +kernel
theorem dX10_runs_85 : decode cX10_runs 85 = .ok (.getfield 115, 3) := by decide +kernel
theorem dX10_runs_88 : decode cX10_runs 88 = .ok (.bipush 61, 2) := by decide +kernel
theorem dX10_runs_90 : decode cX10_runs 90 = .ok (.if_icmp .ge 104, 3) := by decide +kernel
theorem dX10_runs_93 : decode cX10_runs 93 = .ok (.aload_n 0, 1) := by decide +kernel
theorem dX10_runs_94 : decode cX10_runs 94 = .ok (.invokevirtual 214, 3) := by decide +kernel
theorem dX10_runs_97 : decode cX10_runs 97 = .ok (.iconst 0, 1) := by decide +kernel
theorem dX10_runs_98 : decode cX10_runs 98 = .ok (.istore_n 1, 1) := by decide +kernel
theorem dX10_runs_99 : decode cX10_runs 99 = .ok (.iload_n 1, 1) := by decide +kernel
theorem dX10_runs_100 : decode cX10_runs 100 = .ok (.aload_n 0, 1) := by decide +kernel
theorem dX10_runs_101 : decode cX10_runs 101 = .ok (.getfield 96, 3) := by decide +kernel
theorem dX10_runs_104 : decode cX10_runs 104 = .ok (.if_icmp .gt 64, 3) := by decide +kernel
theorem dX10_runs_107 : decode cX10_runs 107 = .ok (.aload_n 0, 1) := by decide +kernel
theorem dX10_runs_108 : decode cX10_runs 108 = .ok (.getfield 58, 3) := by decide +kernel
theorem dX10_runs_111 : decode cX10_runs 111 = .ok (.bipush 6, 2) := by decide +kernel
theorem dX10_runs_113 : decode cX10_runs 113 = .ok (.aload_n 0, 1) := by decide +kernel
theorem dX10_runs_114 : decode cX10_runs 114 = .ok (.getfield 115, 3) := by decide +kernel
theorem dX10_runs_117 : decode cX10_runs 117 = .ok (.imul, 1) := by decide +kernel
theorem dX10_runs_118 : decode cX10_runs 118 = .ok (.iload_n 1, 1) := by decide +kernel
theorem dX10_runs_119 : decode cX10_runs 119 = .ok (.iadd, 1) := by decide +kernel
theorem dX10_runs_120 : decode cX10_runs 120 = .ok (.aload_n 0, 1) := by decide +kernel
theorem dX10_runs_121 : decode cX10_runs 121 = .ok (.getfield 28, 3) := by decide +kernel
theorem dX10_runs_124 : decode cX10_runs 124 = .ok (.iload_n 1, 1) := by decide +kernel
theorem dX10_runs_125 : decode cX10_runs 125 = .ok (.iaload, 1) := by decide +kernel
theorem dX10_runs_126 : decode cX10_runs 126 = .ok (.iconst 1, 1) := by decide +kernel
theorem dX10_runs_127 : decode cX10_runs 127 = .ok (.if_icmp .ne 12, 3) := by decide +kernel
theorem dX10_runs_130 : decode cX10_runs 130 = .ok (.aload_n 0, 1) := by decide +kernel
theorem dX10_runs_131 : decode cX10_runs 131 = .ok (.getfield 25, 3) := by decide +kernel
theorem dX10_runs_134 : decode cX10_runs 134 = .ok (.iload_n 1, 1) := by decide +kernel
theorem dX10_runs_135 : decode cX10_runs 135 = .ok (.iaload, 1) := by decide +kernel
theorem dX10_runs_136 : decode cX10_runs 136 = .ok (.goto 5, 3) := by decide +kernel
theorem dX10_runs_139 : decode cX10_runs 139 = .ok (.bipush 9, 2) := by decide +kernel
theorem dX10_runs_141 : decode cX10_runs 141 = .ok (.iastore, 1) := by decide +kernel
theorem dX10_runs_142 : decode cX10_runs 142 = .ok (.aload_n 0, 1) := by decide +kernel
theorem dX10_runs_143 : decode cX10_runs 143 = .ok (.getfield 61, 3) := by decide +kernel
theorem dX10_runs_146 : decode cX10_runs 146 = .ok (.bipush 6, 2) := by decide +kernel
theorem dX10_runs_148 : decode cX10_runs 148 = .ok (.aload_n 0, 1) := by decide +kernel
theorem dX10_runs_149 : decode cX10_runs 149 = .ok (.getfield 115, 3) := by decide +kernel
theorem dX10_runs_152 : decode cX10_runs 152 = .ok (.imul, 1) := by decide +kernel
theorem dX10_runs_153 : decode cX10_runs 153 = .ok (.iload_n 1, 1) := by decide +kernel
theorem dX10_runs_154 : decode cX10_runs 154 = .ok (.iadd, 1) := by decide +kernel
theorem dX10_runs_155 : decode cX10_runs 155 = .ok (.aload_n 0, 1) := by decide +kernel
theorem dX10_runs_156 : decode cX10_runs 156 = .ok (.getfield 37, 3) := by decide +kernel
theorem dX10_runs_159 : decode cX10_runs 159 = .ok (.iload_n 1, 1) := by decide +kernel
theorem dX10_runs_160 : decode cX10_runs 160 = .ok (.iaload, 1) := by decide +kernel
theorem dX10_runs_161 : decode cX10_runs 161 = .ok (.iastore, 1) := by decide +kernel
theorem dX10_runs_162 : decode cX10_runs 162 = .ok (.iinc 1 1, 3) := by decide +kernel
theorem dX10_runs_165 : decode cX10_runs 165 = .ok (.goto (-66), 3) := by decide +kernel
theorem dX10_runs_168 : decode cX10_runs 168 = .ok (.aload_n 0, 1) := by decide +kernel
theorem dX10_runs_169 : decode cX10_runs 169 = .ok (.getfield 64, 3) := by decide +kernel
theorem dX10_runs_172 : decode cX10_runs 172 = .ok (.aload_n 0, 1) := by decide +kernel
theorem dX10_runs_173 : decode cX10_runs 173 = .ok (.getfield 115, 3) := by decide +kernel
theorem dX10_runs_176 : decode cX10_runs 176 = .ok (.aload_n 0, 1) := by decide +kernel
theorem dX10_runs_177 : decode cX10_runs 177 = .ok (.getfield 112, 3) := by decide +kernel
theorem dX10_runs_180 : decode cX10_runs 180 = .ok (.iastore, 1) := by decide +kernel
theorem dX10_runs_181 : decode cX10_runs 181 = .ok (.aload_n 0, 1) := by decide +kernel
theorem dX10_runs_182 : decode cX10_runs 182 = .ok (.dup, 1) := by decide +kernel
theorem dX10_runs_183 : decode cX10_runs 183 = .ok (.getfield 115, 3) := by decide +kernel
theorem dX10_runs_186 : decode cX10_runs 186 = .ok (.iconst 1, 1) := by decide +kernel
theorem dX10_runs_187 : decode cX10_runs 187 = .ok (.iadd, 1) := by decide +kernel
theorem dX10_runs_188 : decode cX10_runs 188 = .ok (.putfield 115, 3) := by decide +kernel
theorem dX10_runs_191 : decode cX10_runs 191 = .ok (.goto (-107), 3) := by decide +kernel
theorem dX10_runs_194 : decode cX10_runs 194 = .ok (.return_, 1) := by decide +kernel
theorem dX10_isShelf_0 : decode cX10_isShelf 0 = .ok (.iload_n 0, 1) := by decide +kernel
theorem dX10_isShelf_1 : decode cX10_isShelf 1 = .ok (.iconst 0, 1) := by decide +kernel
theorem dX10_isShelf_2 : decode cX10_isShelf 2 = .ok (.bipush 7, 2) := by decide +kernel
theorem dX10_isShelf_4 : decode cX10_isShelf 4 = .ok (.invokestatic 108, 3) := by decide +kernel
theorem dX10_isShelf_7 : decode cX10_isShelf 7 = .ok (.ireturn, 1) := by decide +kernel
theorem dX10_isRow_0 : decode cX10_isRow 0 = .ok (.aload_n 0, 1) := by decide +kernel
theorem dX10_isRow_1 : decode cX10_isRow 1 = .ok (.getfield 67, 3) := by decide +kernel
theorem dX10_isRow_4 : decode cX10_isRow 4 = .ok (.iload_n 1, 1) := by decide +kernel
theorem dX10_isRow_5 : decode cX10_isRow 5 = .ok (.iaload, 1) := by decide +kernel
theorem dX10_isRow_6 : decode cX10_isRow 6 = .ok (.bipush 100, 2) := by decide +kernel
theorem dX10_isRow_8 : decode cX10_isRow 8 = .ok (.if_icmp .lt 19, 3) := by decide +kernel
theorem dX10_isRow_11 : decode cX10_isRow 11 = .ok (.aload_n 0, 1) := by decide +kernel
theorem dX10_isRow_12 : decode cX10_isRow 12 = .ok (.getfield 67, 3) := by decide +kernel
theorem dX10_isRow_15 : decode cX10_isRow 15 = .ok (.iload_n 1, 1) := by decide +kernel
theorem dX10_isRow_16 : decode cX10_isRow 16 = .ok (.iaload, 1) := by decide +kernel
theorem dX10_isRow_17 : decode cX10_isRow 17 = .ok (.sipush 200, 3) := by decide +kernel
theorem dX10_isRow_20 : decode cX10_isRow 20 = .ok (.if_icmp .ge 7, 3) := by decide +kernel
theorem dX10_isRow_23 : decode cX10_isRow 23 = .ok (.iconst 1, 1) := by decide +kernel
theorem dX10_isRow_24 : decode cX10_isRow 24 = .ok (.goto 4, 3) := by decide +kernel
theorem dX10_isRow_27 : decode cX10_isRow 27 = .ok (.iconst 0, 1) := by decide +kernel
theorem dX10_isRow_28 : decode cX10_isRow 28 = .ok (.ireturn, 1) := by decide +kernel
theorem dX10_lowest_0 : decode cX10_lowest 0 = .ok (.iload_n 0, 1) := by decide +kernel
theorem dX10_lowest_1 : decode cX10_lowest 1 = .ok (.ifCond .ne 10, 3) := by decide +kernel
theorem dX10_lowest_4 : decode cX10_lowest 4 = .ok (.lload_n 1, 1) := by decide +kernel
theorem dX10_lowest_5 : decode cX10_lowest 5 = .ok (.l2i, 1) := by decide +kernel
theorem dX10_lowest_6 : decode cX10_lowest 6 = .ok (.i2b, 1) := by decide +kernel
theorem dX10_lowest_7 : decode cX10_lowest 7 = .ok (.i2l, 1) := by decide +kernel
theorem dX10_lowest_8 : decode cX10_lowest 8 = .ok (.goto 27, 3) := by decide +kernel
theorem dX10_lowest_11 : decode cX10_lowest 11 = .ok (.iload_n 0, 1) := by decide +kernel
theorem dX10_lowest_12 : decode cX10_lowest 12 = .ok (.iconst 1, 1) := by decide +kernel
theorem dX10_lowest_13 : decode cX10_lowest 13 = .ok (.if_icmp .ne 10, 3) := by decide +kernel
theorem dX10_lowest_16 : decode cX10_lowest 16 = .ok (.lload_n 1, 1) := by decide +kernel
theorem dX10_lowest_17 : decode cX10_lowest 17 = .ok (.l2i, 1) := by decide +kernel
theorem dX10_lowest_18 : decode cX10_lowest 18 = .ok (.i2s, 1) := by decide +kernel
theorem dX10_lowest_19 : decode cX10_lowest 19 = .ok (.i2l, 1) := by decide +kernel
theorem dX10_lowest_20 : decode cX10_lowest 20 = .ok (.goto 15, 3) := by decide +kernel
theorem dX10_lowest_23 : decode cX10_lowest 23 = .ok (.iload_n 0, 1) := by decide +kernel
theorem dX10_lowest_24 : decode cX10_lowest 24 = .ok (.iconst 2, 1) := by decide +kernel
theorem dX10_lowest_25 : decode cX10_lowest 25 = .ok (.if_icmp .ne 9, 3) := by decide +kernel
theorem dX10_lowest_28 : decode cX10_lowest 28 = .ok (.lload_n 1, 1) := by decide +kernel
theorem dX10_lowest_29 : decode cX10_lowest 29 = .ok (.l2i, 1) := by decide +kernel
theorem dX10_lowest_30 : decode cX10_lowest 30 = .ok (.i2l, 1) := by decide +kernel
theorem dX10_lowest_31 : decode cX10_lowest 31 = .ok (.goto 4, 3) := by decide +kernel
theorem dX10_lowest_34 : decode cX10_lowest 34 = .ok (.lload_n 1, 1) := by decide +kernel
theorem dX10_lowest_35 : decode cX10_lowest 35 = .ok (.lreturn, 1) := by decide +kernel
theorem dX10_notRow_0 : decode cX10_notRow 0 = .ok (.iload_n 1, 1) := by decide +kernel
theorem dX10_notRow_1 : decode cX10_notRow 1 = .ok (.invokestatic 217, 3) := by decide +kernel
theorem dX10_notRow_4 : decode cX10_notRow 4 = .ok (.ifCond .ne 7, 3) := by decide +kernel
theorem dX10_notRow_7 : decode cX10_notRow 7 = .ok (.iconst (-1), 1) := by decide +kernel
theorem dX10_notRow_8 : decode cX10_notRow 8 = .ok (.goto 35, 3) := by decide +kernel
theorem dX10_notRow_11 : decode cX10_notRow 11 = .ok (.aload_n 0, 1) := by decide +kernel
theorem dX10_notRow_12 : decode cX10_notRow 12 = .ok (.getfield 67, 3) := by decide +kernel
theorem dX10_notRow_15 : decode cX10_notRow 15 = .ok (.iload_n 1, 1) := by decide +kernel
theorem dX10_notRow_16 : decode cX10_notRow 16 = .ok (.iaload, 1) := by decide +kernel
theorem dX10_notRow_17 : decode cX10_notRow 17 = .ok (.sipush 200, 3) := by decide +kernel
theorem dX10_notRow_20 : decode cX10_notRow 20 = .ok (.if_icmp .lt 8, 3) := by decide +kernel
theorem dX10_notRow_23 : decode cX10_notRow 23 = .ok (.bipush (-2), 2) := by decide +kernel
theorem dX10_notRow_25 : decode cX10_notRow 25 = .ok (.goto 18, 3) := by decide +kernel
theorem dX10_notRow_28 : decode cX10_notRow 28 = .ok (.aload_n 0, 1) := by decide +kernel
theorem dX10_notRow_29 : decode cX10_notRow 29 = .ok (.getfield 67, 3) := by decide +kernel
theorem dX10_notRow_32 : decode cX10_notRow 32 = .ok (.iload_n 1, 1) := by decide +kernel
theorem dX10_notRow_33 : decode cX10_notRow 33 = .ok (.iaload, 1) := by decide +kernel
theorem dX10_notRow_34 : decode cX10_notRow 34 = .ok (.ifCond .ne 8, 3) := by decide +kernel
theorem dX10_notRow_37 : decode cX10_notRow 37 = .ok (.bipush (-3), 2) := by decide +kernel
theorem dX10_notRow_39 : decode cX10_notRow 39 = .ok (.goto 4, 3) := by decide +kernel
theorem dX10_notRow_42 : decode cX10_notRow 42 = .ok (.iconst 0, 1) := by decide +kernel
theorem dX10_notRow_43 : decode cX10_notRow 43 = .ok (.ireturn, 1) := by decide +kernel
theorem dX10_row_0 : decode cX10_row 0 = .ok (.iload_n 1, 1) := by decide +kernel
theorem dX10_row_1 : decode cX10_row 1 = .ok (.invokestatic 217, 3) := by decide +kernel
theorem dX10_row_4 : decode cX10_row 4 = .ok (.ifCond .ne 7, 3) := by decide +kernel
theorem dX10_row_7 : decode cX10_row 7 = .ok (.iconst (-1), 1) := by decide +kernel
theorem dX10_row_8 : decode cX10_row 8 = .ok (.goto 39, 3) := by decide +kernel
theorem dX10_row_11 : decode cX10_row 11 = .ok (.iload_n 3, 1) := by decide +kernel
theorem dX10_row_12 : decode cX10_row 12 = .ok (.ifCond .ge 8, 3) := by decide +kernel
theorem dX10_row_15 : decode cX10_row 15 = .ok (.bipush (-4), 2) := by decide +kernel
theorem dX10_row_17 : decode cX10_row 17 = .ok (.goto 30, 3) := by decide +kernel
theorem dX10_row_20 : decode cX10_row 20 = .ok (.iload_n 2, 1) := by decide +kernel
theorem dX10_row_21 : decode cX10_row 21 = .ok (.iconst 0, 1) := by decide +kernel
theorem dX10_row_22 : decode cX10_row 22 = .ok (.iconst 3, 1) := by decide +kernel
theorem dX10_row_23 : decode cX10_row 23 = .ok (.invokestatic 108, 3) := by decide +kernel
theorem dX10_row_26 : decode cX10_row 26 = .ok (.ifCond .ne 8, 3) := by decide +kernel
theorem dX10_row_29 : decode cX10_row 29 = .ok (.bipush (-6), 2) := by decide +kernel
theorem dX10_row_31 : decode cX10_row 31 = .ok (.goto 16, 3) := by decide +kernel
theorem dX10_row_34 : decode cX10_row 34 = .ok (.iload_n 3, 1) := by decide +kernel
theorem dX10_row_35 : decode cX10_row 35 = .ok (.sipush 160, 3) := by decide +kernel
theorem dX10_row_38 : decode cX10_row 38 = .ok (.if_icmp .le 8, 3) := by decide +kernel
theorem dX10_row_41 : decode cX10_row 41 = .ok (.bipush (-7), 2) := by decide +kernel
theorem dX10_row_43 : decode cX10_row 43 = .ok (.goto 4, 3) := by decide +kernel
theorem dX10_row_46 : decode cX10_row 46 = .ok (.iconst 0, 1) := by decide +kernel
theorem dX10_row_47 : decode cX10_row 47 = .ok (.istore 4, 2) := by decide +kernel
theorem dX10_row_49 : decode cX10_row 49 = .ok (.iload 4, 2) := by decide +kernel
theorem dX10_row_51 : decode cX10_row 51 = .ok (.ifCond .eq 10, 3) := by decide +kernel
theorem dX10_row_54 : decode cX10_row 54 = .ok (.aload_n 0, 1) := by decide +kernel
theorem dX10_row_55 : decode cX10_row 55 = .ok (.iload 4, 2) := by decide +kernel
theorem dX10_row_57 : decode cX10_row 57 = .ok (.invokevirtual 221, 3) := by decide +kernel
theorem dX10_row_60 : decode cX10_row 60 = .ok (.ireturn, 1) := by decide +kernel
theorem dX10_row_61 : decode cX10_row 61 = .ok (.aload_n 0, 1) := by decide +kernel
theorem dX10_row_62 : decode cX10_row 62 = .ok (.getfield 67, 3) := by decide +kernel
theorem dX10_row_65 : decode cX10_row 65 = .ok (.iload_n 1, 1) := by decide +kernel
theorem dX10_row_66 : decode cX10_row 66 = .ok (.bipush 100, 2) := by decide +kernel
theorem dX10_row_68 : decode cX10_row 68 = .ok (.iload_n 2, 1) := by decide +kernel
theorem dX10_row_69 : decode cX10_row 69 = .ok (.iadd, 1) := by decide +kernel
theorem dX10_row_70 : decode cX10_row 70 = .ok (.iastore, 1) := by decide +kernel
theorem dX10_row_71 : decode cX10_row 71 = .ok (.aload_n 0, 1) := by decide +kernel
theorem dX10_row_72 : decode cX10_row 72 = .ok (.getfield 70, 3) := by decide +kernel
theorem dX10_row_75 : decode cX10_row 75 = .ok (.iload_n 1, 1) := by decide +kernel
theorem dX10_row_76 : decode cX10_row 76 = .ok (.iload_n 3, 1) := by decide +kernel
theorem dX10_row_77 : decode cX10_row 77 = .ok (.iastore, 1) := by decide +kernel
theorem dX10_row_78 : decode cX10_row 78 = .ok (.iconst 0, 1) := by decide +kernel
theorem dX10_row_79 : decode cX10_row 79 = .ok (.istore 5, 2) := by decide +kernel
theorem dX10_row_81 : decode cX10_row 81 = .ok (.iload 5, 2) := by decide +kernel
theorem dX10_row_83 : decode cX10_row 83 = .ok (.iload_n 3, 1) := by decide +kernel
theorem dX10_row_84 : decode cX10_row 84 = .ok (.if_icmp .ge 23, 3) := by decide +kernel
theorem dX10_row_87 : decode cX10_row 87 = .ok (.aload_n 0, 1) := by decide +kernel
theorem dX10_row_88 : decode cX10_row 88 = .ok (.getfield 73, 3) := by decide +kernel
theorem dX10_row_91 : decode cX10_row 91 = .ok (.sipush 160, 3) := by decide +kernel
theorem dX10_row_94 : decode cX10_row 94 = .ok (.iload_n 1, 1) := by decide +kernel
theorem dX10_row_95 : decode cX10_row 95 = .ok (.imul, 1) := by decide +kernel
theorem dX10_row_96 : decode cX10_row 96 = .ok (.iload 5, 2) := by decide +kernel
theorem dX10_row_98 : decode cX10_row 98 = .ok (.iadd, 1) := by decide +kernel
theorem dX10_row_99 : decode cX10_row 99 = .ok (.lconst 0, 1) := by decide +kernel
theorem dX10_row_100 : decode cX10_row 100 = .ok (.lastore, 1) := by decide +kernel
theorem dX10_row_101 : decode cX10_row 101 = .ok (.iinc 5 1, 3) := by decide +kernel
theorem dX10_row_104 : decode cX10_row 104 = .ok (.goto (-23), 3) := by decide +kernel
theorem dX10_row_107 : decode cX10_row 107 = .ok (.iconst 1, 1) := by decide +kernel
theorem dX10_row_108 : decode cX10_row 108 = .ok (.ireturn, 1) := by decide +kernel
theorem dX10_set_0 : decode cX10_set 0 = .ok (.aload_n 0, 1) := by decide +kernel
theorem dX10_set_1 : decode cX10_set 1 = .ok (.iload_n 1, 1) := by decide +kernel
theorem dX10_set_2 : decode cX10_set 2 = .ok (.invokevirtual 225, 3) := by decide +kernel
theorem dX10_set_5 : decode cX10_set 5 = .ok (.istore 5, 2) := by decide +kernel
theorem dX10_set_7 : decode cX10_set 7 = .ok (.iload 5, 2) := by decide +kernel
theorem dX10_set_9 : decode cX10_set 9 = .ok (.ifCond .ne 23, 3) := by decide +kernel
theorem dX10_set_12 : decode cX10_set 12 = .ok (.iload_n 2, 1) := by decide +kernel
theorem dX10_set_13 : decode cX10_set 13 = .ok (.iconst 0, 1) := by decide +kernel
theorem dX10_set_14 : decode cX10_set 14 = .ok (.aload_n 0, 1) := by decide +kernel
theorem dX10_set_15 : decode cX10_set 15 = .ok (.getfield 70, 3) := by decide +kernel
theorem dX10_set_18 : decode cX10_set 18 = .ok (.iload_n 1, 1) := by decide +kernel
theorem dX10_set_19 : decode cX10_set 19 = .ok (.iaload, 1) := by decide +kernel
theorem dX10_set_20 : decode cX10_set 20 = .ok (.iconst 1, 1) := by decide +kernel
theorem dX10_set_21 : decode cX10_set 21 = .ok (.isub, 1) := by decide +kernel
theorem dX10_set_22 : decode cX10_set 22 = .ok (.invokestatic 108, 3) := by decide +kernel
theorem dX10_set_25 : decode cX10_set 25 = .ok (.ifCond .ne 7, 3) := by decide +kernel
theorem dX10_set_28 : decode cX10_set 28 = .ok (.bipush (-5), 2) := by decide +kernel
theorem dX10_set_30 : decode cX10_set 30 = .ok (.istore 5, 2) := by decide +kernel
theorem dX10_set_32 : decode cX10_set 32 = .ok (.iload 5, 2) := by decide +kernel
theorem dX10_set_34 : decode cX10_set 34 = .ok (.ifCond .eq 10, 3) := by decide +kernel
theorem dX10_set_37 : decode cX10_set 37 = .ok (.aload_n 0, 1) := by decide +kernel
theorem dX10_set_38 : decode cX10_set 38 = .ok (.iload 5, 2) := by decide +kernel
theorem dX10_set_40 : decode cX10_set 40 = .ok (.invokevirtual 221, 3) := by decide +kernel
theorem dX10_set_43 : decode cX10_set 43 = .ok (.ireturn, 1) := by decide +kernel
theorem dX10_set_44 : decode cX10_set 44 = .ok (.aload_n 0, 1) := by decide +kernel
theorem dX10_set_45 : decode cX10_set 45 = .ok (.getfield 73, 3) := by decide +kernel
theorem dX10_set_48 : decode cX10_set 48 = .ok (.sipush 160, 3) := by decide +kernel
theorem dX10_set_51 : decode cX10_set 51 = .ok (.iload_n 1, 1) := by decide +kernel
theorem dX10_set_52 : decode cX10_set 52 = .ok (.imul, 1) := by decide +kernel
theorem dX10_set_53 : decode cX10_set 53 = .ok (.iload_n 2, 1) := by decide +kernel
theorem dX10_set_54 : decode cX10_set 54 = .ok (.iadd, 1) := by decide +kernel
theorem dX10_set_55 : decode cX10_set 55 = .ok (.aload_n 0, 1) := by decide +kernel
theorem dX10_set_56 : decode cX10_set 56 = .ok (.getfield 67, 3) := by decide +kernel
theorem dX10_set_59 : decode cX10_set 59 = .ok (.iload_n 1, 1) := by decide +kernel
theorem dX10_set_60 : decode cX10_set 60 = .ok (.iaload, 1) := by decide +kernel
theorem dX10_set_61 : decode cX10_set 61 = .ok (.bipush 100, 2) := by decide +kernel
theorem dX10_set_63 : decode cX10_set 63 = .ok (.isub, 1) := by decide +kernel
theorem dX10_set_64 : decode cX10_set 64 = .ok (.lload_n 3, 1) := by decide +kernel
theorem dX10_set_65 : decode cX10_set 65 = .ok (.invokestatic 228, 3) := by decide +kernel
theorem dX10_set_68 : decode cX10_set 68 = .ok (.lastore, 1) := by decide +kernel
theorem dX10_set_69 : decode cX10_set 69 = .ok (.iconst 1, 1) := by decide +kernel
theorem dX10_set_70 : decode cX10_set 70 = .ok (.ireturn, 1) := by decide +kernel
theorem dX10_notCopied_0 : decode cX10_notCopied 0 = .ok (.iload_n 1, 1) := by decide +kernel
theorem dX10_notCopied_1 : decode cX10_notCopied 1 = .ok (.invokestatic 217, 3) := by decide +kernel
theorem dX10_notCopied_4 : decode cX10_notCopied 4 = .ok (.ifCond .eq 10, 3) := by decide +kernel
theorem dX10_notCopied_7 : decode cX10_notCopied 7 = .ok (.iload_n 2, 1) := by decide +kernel
theorem dX10_notCopied_8 : decode cX10_notCopied 8 = .ok (.invokestatic 217, 3) := by decide +kernel
theorem dX10_notCopied_11 : decode cX10_notCopied 11 = .ok (.ifCond .ne 5, 3) := by decide +kernel
theorem dX10_notCopied_14 : decode cX10_notCopied 14 = .ok (.iconst (-1), 1) := by decide +kernel
theorem dX10_notCopied_15 : decode cX10_notCopied 15 = .ok (.ireturn, 1) := by decide +kernel
theorem dX10_notCopied_16 : decode cX10_notCopied 16 = .ok (.aload_n 0, 1) := by decide +kernel
theorem dX10_notCopied_17 : decode cX10_notCopied 17 = .ok (.getfield 67, 3) := by decide +kernel
theorem dX10_notCopied_20 : decode cX10_notCopied 20 = .ok (.iload_n 1, 1) := by decide +kernel
theorem dX10_notCopied_21 : decode cX10_notCopied 21 = .ok (.iaload, 1) := by decide +kernel
theorem dX10_notCopied_22 : decode cX10_notCopied 22 = .ok (.ifCond .eq 31, 3) := by decide +kernel
theorem dX10_notCopied_25 : decode cX10_notCopied 25 = .ok (.aload_n 0, 1) := by decide +kernel
theorem dX10_notCopied_26 : decode cX10_notCopied 26 = .ok (.getfield 67, 3) := by decide +kernel
theorem dX10_notCopied_29 : decode cX10_notCopied 29 = .ok (.iload_n 2, 1) := by decide +kernel
theorem dX10_notCopied_30 : decode cX10_notCopied 30 = .ok (.iaload, 1) := by decide +kernel
theorem dX10_notCopied_31 : decode cX10_notCopied 31 = .ok (.ifCond .eq 22, 3) := by decide +kernel
theorem dX10_notCopied_34 : decode cX10_notCopied 34 = .ok (.aload_n 0, 1) := by decide +kernel
theorem dX10_notCopied_35 : decode cX10_notCopied 35 = .ok (.getfield 67, 3) := by decide +kernel
theorem dX10_notCopied_38 : decode cX10_notCopied 38 = .ok (.iload_n 1, 1) := by decide +kernel
theorem dX10_notCopied_39 : decode cX10_notCopied 39 = .ok (.iaload, 1) := by decide +kernel
theorem dX10_notCopied_40 : decode cX10_notCopied 40 = .ok (.aload_n 0, 1) := by decide +kernel
theorem dX10_notCopied_41 : decode cX10_notCopied 41 = .ok (.getfield 67, 3) := by decide +kernel
theorem dX10_notCopied_44 : decode cX10_notCopied 44 = .ok (.iload_n 2, 1) := by decide +kernel
theorem dX10_notCopied_45 : decode cX10_notCopied 45 = .ok (.iaload, 1) := by decide +kernel
theorem dX10_notCopied_46 : decode cX10_notCopied 46 = .ok (.if_icmp .eq 7, 3) := by decide +kernel
theorem dX10_notCopied_49 : decode cX10_notCopied 49 = .ok (.iconst 1, 1) := by decide +kernel
theorem dX10_notCopied_50 : decode cX10_notCopied 50 = .ok (.goto 4, 3) := by decide +kernel
theorem dX10_notCopied_53 : decode cX10_notCopied 53 = .ok (.iconst 0, 1) := by decide +kernel
theorem dX10_notCopied_54 : decode cX10_notCopied 54 = .ok (.istore 6, 2) := by decide +kernel
theorem dX10_notCopied_56 : decode cX10_notCopied 56 = .ok (.aload_n 0, 1) := by decide +kernel
theorem dX10_notCopied_57 : decode cX10_notCopied 57 = .ok (.getfield 67, 3) := by decide +kernel
theorem dX10_notCopied_60 : decode cX10_notCopied 60 = .ok (.iload_n 1, 1) := by decide +kernel
theorem dX10_notCopied_61 : decode cX10_notCopied 61 = .ok (.iaload, 1) := by decide +kernel
theorem dX10_notCopied_62 : decode cX10_notCopied 62 = .ok (.sipush 200, 3) := by decide +kernel
theorem dX10_notCopied_65 : decode cX10_notCopied 65 = .ok (.if_icmp .ge 20, 3) := by decide +kernel
theorem dX10_notCopied_68 : decode cX10_notCopied 68 = .ok (.aload_n 0, 1) := by decide +kernel
theorem dX10_notCopied_69 : decode cX10_notCopied 69 = .ok (.getfield 67, 3) := by decide +kernel
theorem dX10_notCopied_72 : decode cX10_notCopied 72 = .ok (.iload_n 2, 1) := by decide +kernel
theorem dX10_notCopied_73 : decode cX10_notCopied 73 = .ok (.iaload, 1) := by decide +kernel
theorem dX10_notCopied_74 : decode cX10_notCopied 74 = .ok (.sipush 200, 3) := by decide +kernel
theorem dX10_notCopied_77 : decode cX10_notCopied 77 = .ok (.if_icmp .ge 8, 3) := by decide +kernel
theorem dX10_notCopied_80 : decode cX10_notCopied 80 = .ok (.iload 6, 2) := by decide +kernel
theorem dX10_notCopied_82 : decode cX10_notCopied 82 = .ok (.ifCond .eq 6, 3) := by decide +kernel
theorem dX10_notCopied_85 : decode cX10_notCopied 85 = .ok (.bipush (-2), 2) := by decide +kernel
theorem dX10_notCopied_87 : decode cX10_notCopied 87 = .ok (.ireturn, 1) := by decide +kernel
theorem dX10_notCopied_88 : decode cX10_notCopied 88 = .ok (.aload_n 0, 1) := by decide +kernel
theorem dX10_notCopied_89 : decode cX10_notCopied 89 = .ok (.getfield 67, 3) := by decide +kernel
theorem dX10_notCopied_92 : decode cX10_notCopied 92 = .ok (.iload_n 1, 1) := by decide +kernel
theorem dX10_notCopied_93 : decode cX10_notCopied 93 = .ok (.iaload, 1) := by decide +kernel
theorem dX10_notCopied_94 : decode cX10_notCopied 94 = .ok (.ifCond .eq 12, 3) := by decide +kernel
theorem dX10_notCopied_97 : decode cX10_notCopied 97 = .ok (.aload_n 0, 1) := by decide +kernel
theorem dX10_notCopied_98 : decode cX10_notCopied 98 = .ok (.getfield 67, 3) := by decide +kernel
theorem dX10_notCopied_101 : decode cX10_notCopied 101 = .ok (.iload_n 2, 1) := by decide +kernel
theorem dX10_notCopied_102 : decode cX10_notCopied 102 = .ok (.iaload, 1) := by decide +kernel
theorem dX10_notCopied_103 : decode cX10_notCopied 103 = .ok (.ifCond .ne 6, 3) := by decide +kernel
theorem dX10_notCopied_106 : decode cX10_notCopied 106 = .ok (.bipush (-3), 2) := by decide +kernel
theorem dX10_notCopied_108 : decode cX10_notCopied 108 = .ok (.ireturn, 1) := by decide +kernel
theorem dX10_notCopied_109 : decode cX10_notCopied 109 = .ok (.iload 5, 2) := by decide +kernel
theorem dX10_notCopied_111 : decode cX10_notCopied 111 = .ok (.ifCond .ge 6, 3) := by decide +kernel
theorem dX10_notCopied_114 : decode cX10_notCopied 114 = .ok (.bipush (-4), 2) := by decide +kernel
theorem dX10_notCopied_116 : decode cX10_notCopied 116 = .ok (.ireturn, 1) := by decide +kernel
theorem dX10_notCopied_117 : decode cX10_notCopied 117 = .ok (.iload_n 3, 1) := by decide +kernel
theorem dX10_notCopied_118 : decode cX10_notCopied 118 = .ok (.ifCond .lt 35, 3) := by decide +kernel
theorem dX10_notCopied_121 : decode cX10_notCopied 121 = .ok (.iload 4, 2) := by decide +kernel
theorem dX10_notCopied_123 : decode cX10_notCopied 123 = .ok (.ifCond .lt 30, 3) := by decide +kernel
theorem dX10_notCopied_126 : decode cX10_notCopied 126 = .ok (.iload_n 3, 1) := by decide +kernel
theorem dX10_notCopied_127 : decode cX10_notCopied 127 = .ok (.aload_n 0, 1) := by decide +kernel
theorem dX10_notCopied_128 : decode cX10_notCopied 128 = .ok (.getfield 70, 3) := by decide +kernel
theorem dX10_notCopied_131 : decode cX10_notCopied 131 = .ok (.iload_n 1, 1) := by decide +kernel
theorem dX10_notCopied_132 : decode cX10_notCopied 132 = .ok (.iaload, 1) := by decide +kernel
theorem dX10_notCopied_133 : decode cX10_notCopied 133 = .ok (.iload 5, 2) := by decide +kernel
theorem dX10_notCopied_135 : decode cX10_notCopied 135 = .ok (.isub, 1) := by decide +kernel
theorem dX10_notCopied_136 : decode cX10_notCopied 136 = .ok (.if_icmp .gt 17, 3) := by decide +kernel
theorem dX10_notCopied_139 : decode cX10_notCopied 139 = .ok (.iload 4, 2) := by decide +kernel
theorem dX10_notCopied_141 : decode cX10_notCopied 141 = .ok (.aload_n 0, 1) := by decide +kernel
theorem dX10_notCopied_142 : decode cX10_notCopied 142 = .ok (.getfield 70, 3) := by decide +kernel
theorem dX10_notCopied_145 : decode cX10_notCopied 145 = .ok (.iload_n 2, 1) := by decide +kernel
theorem dX10_notCopied_146 : decode cX10_notCopied 146 = .ok (.iaload, 1) := by decide +kernel
theorem dX10_notCopied_147 : decode cX10_notCopied 147 = .ok (.iload 5, 2) := by decide +kernel
theorem dX10_notCopied_149 : decode cX10_notCopied 149 = .ok (.isub, 1) := by decide +kernel
theorem dX10_notCopied_150 : decode cX10_notCopied 150 = .ok (.if_icmp .le 8, 3) := by decide +kernel
theorem dX10_notCopied_153 : decode cX10_notCopied 153 = .ok (.bipush (-5), 2) := by decide +kernel
theorem dX10_notCopied_155 : decode cX10_notCopied 155 = .ok (.goto 4, 3) := by decide +kernel
theorem dX10_notCopied_158 : decode cX10_notCopied 158 = .ok (.iconst 0, 1) := by decide +kernel
theorem dX10_notCopied_159 : decode cX10_notCopied 159 = .ok (.ireturn, 1) := by decide +kernel
theorem dX10_copy_0 : decode cX10_copy 0 = .ok (.aload_n 0, 1) := by decide +kernel
theorem dX10_copy_1 : decode cX10_copy 1 = .ok (.iload_n 1, 1) := by decide +kernel
theorem dX10_copy_2 : decode cX10_copy 2 = .ok (.iload_n 2, 1) := by decide +kernel
theorem dX10_copy_3 : decode cX10_copy 3 = .ok (.iload_n 3, 1) := by decide +kernel
theorem dX10_copy_4 : decode cX10_copy 4 = .ok (.iload 4, 2) := by decide +kernel
theorem dX10_copy_6 : decode cX10_copy 6 = .ok (.iload 5, 2) := by decide +kernel
theorem dX10_copy_8 : decode cX10_copy 8 = .ok (.invokevirtual 232, 3) := by decide +kernel
theorem dX10_copy_11 : decode cX10_copy 11 = .ok (.istore 6, 2) := by decide +kernel
theorem dX10_copy_13 : decode cX10_copy 13 = .ok (.iload 6, 2) := by decide +kernel
theorem dX10_copy_15 : decode cX10_copy 15 = .ok (.ifCond .eq 10, 3) := by decide +kernel
theorem dX10_copy_18 : decode cX10_copy 18 = .ok (.aload_n 0, 1) := by decide +kernel
theorem dX10_copy_19 : decode cX10_copy 19 = .ok (.iload 6, 2) := by decide +kernel
theorem dX10_copy_21 : decode cX10_copy 21 = .ok (.invokevirtual 221, 3) := by decide +kernel
theorem dX10_copy_24 : decode cX10_copy 24 = .ok (.ireturn, 1) := by decide +kernel
theorem dX10_copy_25 : decode cX10_copy 25 = .ok (.sipush 160, 3) := by decide +kernel
theorem dX10_copy_28 : decode cX10_copy 28 = .ok (.iload_n 1, 1) := by decide +kernel
theorem dX10_copy_29 : decode cX10_copy 29 = .ok (.imul, 1) := by decide +kernel
theorem dX10_copy_30 : decode cX10_copy 30 = .ok (.iload_n 3, 1) := by decide +kernel
theorem dX10_copy_31 : decode cX10_copy 31 = .ok (.iadd, 1) := by decide +kernel
theorem dX10_copy_32 : decode cX10_copy 32 = .ok (.istore 7, 2) := by decide +kernel
theorem dX10_copy_34 : decode cX10_copy 34 = .ok (.sipush 160, 3) := by decide +kernel
theorem dX10_copy_37 : decode cX10_copy 37 = .ok (.iload_n 2, 1) := by decide +kernel
theorem dX10_copy_38 : decode cX10_copy 38 = .ok (.imul, 1) := by decide +kernel
theorem dX10_copy_39 : decode cX10_copy 39 = .ok (.iload 4, 2) := by decide +kernel
theorem dX10_copy_41 : decode cX10_copy 41 = .ok (.iadd, 1) := by decide +kernel
theorem dX10_copy_42 : decode cX10_copy 42 = .ok (.istore 8, 2) := by decide +kernel
theorem dX10_copy_44 : decode cX10_copy 44 = .ok (.iconst 0, 1) := by decide +kernel
theorem dX10_copy_45 : decode cX10_copy 45 = .ok (.istore 9, 2) := by decide +kernel
theorem dX10_copy_47 : decode cX10_copy 47 = .ok (.iload 9, 2) := by decide +kernel
theorem dX10_copy_49 : decode cX10_copy 49 = .ok (.iload 5, 2) := by decide +kernel
theorem dX10_copy_51 : decode cX10_copy 51 = .ok (.if_icmp .ge 50, 3) := by decide +kernel
theorem dX10_copy_54 : decode cX10_copy 54 = .ok (.iload 7, 2) := by decide +kernel
theorem dX10_copy_56 : decode cX10_copy 56 = .ok (.iload 8, 2) := by decide +kernel
theorem dX10_copy_58 : decode cX10_copy 58 = .ok (.if_icmp .ge 13, 3) := by decide +kernel
theorem dX10_copy_61 : decode cX10_copy 61 = .ok (.iload 5, 2) := by decide +kernel
theorem dX10_copy_63 : decode cX10_copy 63 = .ok (.iconst 1, 1) := by decide +kernel
theorem dX10_copy_64 : decode cX10_copy 64 = .ok (.isub, 1) := by decide +kernel
theorem dX10_copy_65 : decode cX10_copy 65 = .ok (.iload 9, 2) := by decide +kernel
theorem dX10_copy_67 : decode cX10_copy 67 = .ok (.isub, 1) := by decide +kernel
theorem dX10_copy_68 : decode cX10_copy 68 = .ok (.goto 5, 3) := by decide +kernel
theorem dX10_copy_71 : decode cX10_copy 71 = .ok (.iload 9, 2) := by decide +kernel
theorem dX10_copy_73 : decode cX10_copy 73 = .ok (.istore 10, 2) := by decide +kernel
theorem dX10_copy_75 : decode cX10_copy 75 = .ok (.aload_n 0, 1) := by decide +kernel
theorem dX10_copy_76 : decode cX10_copy 76 = .ok (.getfield 73, 3) := by decide +kernel
theorem dX10_copy_79 : decode cX10_copy 79 = .ok (.iload 8, 2) := by decide +kernel
theorem dX10_copy_81 : decode cX10_copy 81 = .ok (.iload 10, 2) := by decide +kernel
theorem dX10_copy_83 : decode cX10_copy 83 = .ok (.iadd, 1) := by decide +kernel
theorem dX10_copy_84 : decode cX10_copy 84 = .ok (.aload_n 0, 1) := by decide +kernel
theorem dX10_copy_85 : decode cX10_copy 85 = .ok (.getfield 73, 3) := by decide +kernel
theorem dX10_copy_88 : decode cX10_copy 88 = .ok (.iload 7, 2) := by decide +kernel
theorem dX10_copy_90 : decode cX10_copy 90 = .ok (.iload 10, 2) := by decide +kernel
theorem dX10_copy_92 : decode cX10_copy 92 = .ok (.iadd, 1) := by decide +kernel
theorem dX10_copy_93 : decode cX10_copy 93 = .ok (.laload, 1) := by decide +kernel
theorem dX10_copy_94 : decode cX10_copy 94 = .ok (.lastore, 1) := by decide +kernel
theorem dX10_copy_95 : decode cX10_copy 95 = .ok (.iinc 9 1, 3) := by decide +kernel
theorem dX10_copy_98 : decode cX10_copy 98 = .ok (.goto (-51), 3) := by decide +kernel
theorem dX10_copy_101 : decode cX10_copy 101 = .ok (.iconst 1, 1) := by decide +kernel
theorem dX10_copy_102 : decode cX10_copy 102 = .ok (.ireturn, 1) := by decide +kernel
theorem dX10_element_0 : decode cX10_element 0 = .ok (.iload_n 1, 1) := by decide +kernel
theorem dX10_element_1 : decode cX10_element 1 = .ok (.invokestatic 217, 3) := by decide +kernel
theorem dX10_element_4 : decode cX10_element 4 = .ok (.ifCond .eq 42, 3) := by decide +kernel
theorem dX10_element_7 : decode cX10_element 7 = .ok (.aload_n 0, 1) := by decide +kernel
theorem dX10_element_8 : decode cX10_element 8 = .ok (.iload_n 1, 1) := by decide +kernel
theorem dX10_element_9 : decode cX10_element 9 = .ok (.invokevirtual 236, 3) := by decide +kernel
theorem dX10_element_12 : decode cX10_element 12 = .ok (.ifCond .eq 34, 3) := by decide +kernel
theorem dX10_element_15 : decode cX10_element 15 = .ok (.iload_n 2, 1) := by decide +kernel
theorem dX10_element_16 : decode cX10_element 16 = .ok (.iconst 0, 1) := by decide +kernel
theorem dX10_element_17 : decode cX10_element 17 = .ok (.aload_n 0, 1) := by decide +kernel
theorem dX10_element_18 : decode cX10_element 18 = .ok (.getfield 70, 3) := by decide +kernel
theorem dX10_element_21 : decode cX10_element 21 = .ok (.iload_n 1, 1) := by decide +kernel
theorem dX10_element_22 : decode cX10_element 22 = .ok (.iaload, 1) := by decide +kernel
theorem dX10_element_23 : decode cX10_element 23 = .ok (.iconst 1, 1) := by decide +kernel
theorem dX10_element_24 : decode cX10_element 24 = .ok (.isub, 1) := by decide +kernel
theorem dX10_element_25 : decode cX10_element 25 = .ok (.invokestatic 108, 3) := by decide +kernel
theorem dX10_element_28 : decode cX10_element 28 = .ok (.ifCond .eq 18, 3) := by decide +kernel
theorem dX10_element_31 : decode cX10_element 31 = .ok (.aload_n 0, 1) := by decide +kernel
theorem dX10_element_32 : decode cX10_element 32 = .ok (.getfield 73, 3) := by decide +kernel
theorem dX10_element_35 : decode cX10_element 35 = .ok (.sipush 160, 3) := by decide +kernel
theorem dX10_element_38 : decode cX10_element 38 = .ok (.iload_n 1, 1) := by decide +kernel
theorem dX10_element_39 : decode cX10_element 39 = .ok (.imul, 1) := by decide +kernel
theorem dX10_element_40 : decode cX10_element 40 = .ok (.iload_n 2, 1) := by decide +kernel
theorem dX10_element_41 : decode cX10_element 41 = .ok (.iadd, 1) := by decide +kernel
theorem dX10_element_42 : decode cX10_element 42 = .ok (.laload, 1) := by decide +kernel
theorem dX10_element_43 : decode cX10_element 43 = .ok (.goto 4, 3) := by decide +kernel
theorem dX10_element_46 : decode cX10_element 46 = .ok (.lconst 0, 1) := by decide +kernel
theorem dX10_element_47 : decode cX10_element 47 = .ok (.lreturn, 1) := by decide +kernel
theorem dX10_show_0 : decode cX10_show 0 = .ok (.iload_n 1, 1) := by decide +kernel
theorem dX10_show_1 : decode cX10_show 1 = .ok (.invokestatic 217, 3) := by decide +kernel
theorem dX10_show_4 : decode cX10_show 4 = .ok (.ifCond .ne 9, 3) := by decide +kernel
theorem dX10_show_7 : decode cX10_show 7 = .ok (.aload_n 0, 1) := by decide +kernel
theorem dX10_show_8 : decode cX10_show 8 = .ok (.iconst (-1), 1) := by decide +kernel
theorem dX10_show_9 : decode cX10_show 9 = .ok (.invokevirtual 221, 3) := by decide +kernel
theorem dX10_show_12 : decode cX10_show 12 = .ok (.ireturn, 1) := by decide +kernel
theorem dX10_show_13 : decode cX10_show 13 = .ok (.iload_n 2, 1) := by decide +kernel
theorem dX10_show_14 : decode cX10_show 14 = .ok (.iconst (-1), 1) := by decide +kernel
theorem dX10_show_15 : decode cX10_show 15 = .ok (.if_icmp .ne 12, 3) := by decide +kernel
theorem dX10_show_18 : decode cX10_show 18 = .ok (.aload_n 0, 1) := by decide +kernel
theorem dX10_show_19 : decode cX10_show 19 = .ok (.getfield 67, 3) := by decide +kernel
theorem dX10_show_22 : decode cX10_show 22 = .ok (.iload_n 1, 1) := by decide +kernel
theorem dX10_show_23 : decode cX10_show 23 = .ok (.iconst 0, 1) := by decide +kernel
theorem dX10_show_24 : decode cX10_show 24 = .ok (.iastore, 1) := by decide +kernel
theorem dX10_show_25 : decode cX10_show 25 = .ok (.iconst 0, 1) := by decide +kernel
theorem dX10_show_26 : decode cX10_show 26 = .ok (.ireturn, 1) := by decide +kernel
theorem dX10_show_27 : decode cX10_show 27 = .ok (.aload_n 0, 1) := by decide +kernel
theorem dX10_show_28 : decode cX10_show 28 = .ok (.invokevirtual 239, 3) := by decide +kernel
theorem dX10_show_31 : decode cX10_show 31 = .ok (.iload_n 2, 1) := by decide +kernel
theorem dX10_show_32 : decode cX10_show 32 = .ok (.iconst 0, 1) := by decide +kernel
theorem dX10_show_33 : decode cX10_show 33 = .ok (.aload_n 0, 1) := by decide +kernel
theorem dX10_show_34 : decode cX10_show 34 = .ok (.getfield 112, 3) := by decide +kernel
theorem dX10_show_37 : decode cX10_show 37 = .ok (.iconst 1, 1) := by decide +kernel
theorem dX10_show_38 : decode cX10_show 38 = .ok (.isub, 1) := by decide +kernel
theorem dX10_show_39 : decode cX10_show 39 = .ok (.invokestatic 108, 3) := by decide +kernel
theorem dX10_show_42 : decode cX10_show 42 = .ok (.ifCond .ne 9, 3) := by decide +kernel
theorem dX10_show_45 : decode cX10_show 45 = .ok (.aload_n 0, 1) := by decide +kernel
theorem dX10_show_46 : decode cX10_show 46 = .ok (.iconst (-1), 1) := by decide +kernel
theorem dX10_show_47 : decode cX10_show 47 = .ok (.invokevirtual 221, 3) := by decide +kernel
theorem dX10_show_50 : decode cX10_show 50 = .ok (.ireturn, 1) := by decide +kernel
theorem dX10_show_51 : decode cX10_show 51 = .ok (.aload_n 0, 1) := by decide +kernel
theorem dX10_show_52 : decode cX10_show 52 = .ok (.getfield 67, 3) := by decide +kernel
theorem dX10_show_55 : decode cX10_show 55 = .ok (.iload_n 1, 1) := by decide +kernel
theorem dX10_show_56 : decode cX10_show 56 = .ok (.sipush 200, 3) := by decide +kernel
theorem dX10_show_59 : decode cX10_show 59 = .ok (.aload_n 0, 1) := by decide +kernel
theorem dX10_show_60 : decode cX10_show 60 = .ok (.getfield 43, 3) := by decide +kernel
theorem dX10_show_63 : decode cX10_show 63 = .ok (.iload_n 2, 1) := by decide +kernel
theorem dX10_show_64 : decode cX10_show 64 = .ok (.iaload, 1) := by decide +kernel
theorem dX10_show_65 : decode cX10_show 65 = .ok (.iadd, 1) := by decide +kernel
theorem dX10_show_66 : decode cX10_show 66 = .ok (.iastore, 1) := by decide +kernel
theorem dX10_show_67 : decode cX10_show 67 = .ok (.aload_n 0, 1) := by decide +kernel
theorem dX10_show_68 : decode cX10_show 68 = .ok (.getfield 73, 3) := by decide +kernel
theorem dX10_show_71 : decode cX10_show 71 = .ok (.sipush 160, 3) := by decide +kernel
theorem dX10_show_74 : decode cX10_show 74 = .ok (.iload_n 1, 1) := by decide +kernel
theorem dX10_show_75 : decode cX10_show 75 = .ok (.imul, 1) := by decide +kernel
theorem dX10_show_76 : decode cX10_show 76 = .ok (.bipush 10, 2) := by decide +kernel
theorem dX10_show_78 : decode cX10_show 78 = .ok (.aload_n 0, 1) := by decide +kernel
theorem dX10_show_79 : decode cX10_show 79 = .ok (.getfield 46, 3) := by decide +kernel
theorem dX10_show_82 : decode cX10_show 82 = .ok (.iload_n 2, 1) := by decide +kernel
theorem dX10_show_83 : decode cX10_show 83 = .ok (.iaload, 1) := by decide +kernel
theorem dX10_show_84 : decode cX10_show 84 = .ok (.imul, 1) := by decide +kernel
theorem dX10_show_85 : decode cX10_show 85 = .ok (.aload_n 0, 1) := by decide +kernel
theorem dX10_show_86 : decode cX10_show 86 = .ok (.getfield 49, 3) := by decide +kernel
theorem dX10_show_89 : decode cX10_show 89 = .ok (.iload_n 2, 1) := by decide +kernel
theorem dX10_show_90 : decode cX10_show 90 = .ok (.iaload, 1) := by decide +kernel
theorem dX10_show_91 : decode cX10_show 91 = .ok (.iadd, 1) := by decide +kernel
theorem dX10_show_92 : decode cX10_show 92 = .ok (.i2l, 1) := by decide +kernel
theorem dX10_show_93 : decode cX10_show 93 = .ok (.lastore, 1) := by decide +kernel
theorem dX10_show_94 : decode cX10_show 94 = .ok (.aload_n 0, 1) := by decide +kernel
theorem dX10_show_95 : decode cX10_show 95 = .ok (.getfield 73, 3) := by decide +kernel
theorem dX10_show_98 : decode cX10_show 98 = .ok (.sipush 160, 3) := by decide +kernel
theorem dX10_show_101 : decode cX10_show 101 = .ok (.iload_n 1, 1) := by decide +kernel
theorem dX10_show_102 : decode cX10_show 102 = .ok (.imul, 1) := by decide +kernel
theorem dX10_show_103 : decode cX10_show 103 = .ok (.iconst 1, 1) := by decide +kernel
theorem dX10_show_104 : decode cX10_show 104 = .ok (.iadd, 1) := by decide +kernel
theorem dX10_show_105 : decode cX10_show 105 = .ok (.aload_n 0, 1) := by decide +kernel
theorem dX10_show_106 : decode cX10_show 106 = .ok (.getfield 52, 3) := by decide +kernel
theorem dX10_show_109 : decode cX10_show 109 = .ok (.iload_n 2, 1) := by decide +kernel
theorem dX10_show_110 : decode cX10_show 110 = .ok (.iaload, 1) := by decide +kernel
theorem dX10_show_111 : decode cX10_show 111 = .ok (.i2l, 1) := by decide +kernel
theorem dX10_show_112 : decode cX10_show 112 = .ok (.lastore, 1) := by decide +kernel
theorem dX10_show_113 : decode cX10_show 113 = .ok (.iconst 1, 1) := by decide +kernel
theorem dX10_show_114 : decode cX10_show 114 = .ok (.ireturn, 1) := by decide +kernel
theorem dX10_holds_0 : decode cX10_holds 0 = .ok (.iload_n 1, 1) := by decide +kernel
theorem dX10_holds_1 : decode cX10_holds 1 = .ok (.invokestatic 217, 3) := by decide +kernel
theorem dX10_holds_4 : decode cX10_holds 4 = .ok (.ifCond .eq 12, 3) := by decide +kernel
theorem dX10_holds_7 : decode cX10_holds 7 = .ok (.aload_n 0, 1) := by decide +kernel
theorem dX10_holds_8 : decode cX10_holds 8 = .ok (.getfield 67, 3) := by decide +kernel
theorem dX10_holds_11 : decode cX10_holds 11 = .ok (.iload_n 1, 1) := by decide +kernel
theorem dX10_holds_12 : decode cX10_holds 12 = .ok (.iaload, 1) := by decide +kernel
theorem dX10_holds_13 : decode cX10_holds 13 = .ok (.ifCond .ne 7, 3) := by decide +kernel
theorem dX10_holds_16 : decode cX10_holds 16 = .ok (.iconst (-1), 1) := by decide +kernel
theorem dX10_holds_17 : decode cX10_holds 17 = .ok (.goto 9, 3) := by decide +kernel
theorem dX10_holds_20 : decode cX10_holds 20 = .ok (.aload_n 0, 1) := by decide +kernel
theorem dX10_holds_21 : decode cX10_holds 21 = .ok (.getfield 67, 3) := by decide +kernel
theorem dX10_holds_24 : decode cX10_holds 24 = .ok (.iload_n 1, 1) := by decide +kernel
theorem dX10_holds_25 : decode cX10_holds 25 = .ok (.iaload, 1) := by decide +kernel
theorem dX10_holds_26 : decode cX10_holds 26 = .ok (.ireturn, 1) := by decide +kernel
theorem dX10_kindOf_0 : decode cX10_kindOf 0 = .ok (.iload_n 0, 1) := by decide +kernel
theorem dX10_kindOf_1 : decode cX10_kindOf 1 = .ok (.iconst 2, 1) := by decide +kernel
theorem dX10_kindOf_2 : decode cX10_kindOf 2 = .ok (.if_icmp .eq 19, 3) := by decide +kernel
theorem dX10_kindOf_5 : decode cX10_kindOf 5 = .ok (.iload_n 0, 1) := by decide +kernel
theorem dX10_kindOf_6 : decode cX10_kindOf 6 = .ok (.iconst 3, 1) := by decide +kernel
theorem dX10_kindOf_7 : decode cX10_kindOf 7 = .ok (.if_icmp .eq 14, 3) := by decide +kernel
theorem dX10_kindOf_10 : decode cX10_kindOf 10 = .ok (.iload_n 0, 1) := by decide +kernel
theorem dX10_kindOf_11 : decode cX10_kindOf 11 = .ok (.iconst 5, 1) := by decide +kernel
theorem dX10_kindOf_12 : decode cX10_kindOf 12 = .ok (.if_icmp .eq 9, 3) := by decide +kernel
theorem dX10_kindOf_15 : decode cX10_kindOf 15 = .ok (.iload_n 0, 1) := by decide +kernel
theorem dX10_kindOf_16 : decode cX10_kindOf 16 = .ok (.bipush 8, 2) := by decide +kernel
theorem dX10_kindOf_18 : decode cX10_kindOf 18 = .ok (.if_icmp .ne 5, 3) := by decide +kernel
theorem dX10_kindOf_21 : decode cX10_kindOf 21 = .ok (.iconst 1, 1) := by decide +kernel
theorem dX10_kindOf_22 : decode cX10_kindOf 22 = .ok (.ireturn, 1) := by decide +kernel
theorem dX10_kindOf_23 : decode cX10_kindOf 23 = .ok (.iload_n 0, 1) := by decide +kernel
theorem dX10_kindOf_24 : decode cX10_kindOf 24 = .ok (.bipush 6, 2) := by decide +kernel
theorem dX10_kindOf_26 : decode cX10_kindOf 26 = .ok (.if_icmp .eq 9, 3) := by decide +kernel
theorem dX10_kindOf_29 : decode cX10_kindOf 29 = .ok (.iload_n 0, 1) := by decide +kernel
theorem dX10_kindOf_30 : decode cX10_kindOf 30 = .ok (.bipush 7, 2) := by decide +kernel
theorem dX10_kindOf_32 : decode cX10_kindOf 32 = .ok (.if_icmp .ne 7, 3) := by decide +kernel
theorem dX10_kindOf_35 : decode cX10_kindOf 35 = .ok (.iconst 2, 1) := by decide +kernel
theorem dX10_kindOf_36 : decode cX10_kindOf 36 = .ok (.goto 14, 3) := by decide +kernel
theorem dX10_kindOf_39 : decode cX10_kindOf 39 = .ok (.iload_n 0, 1) := by decide +kernel
theorem dX10_kindOf_40 : decode cX10_kindOf 40 = .ok (.bipush 9, 2) := by decide +kernel
theorem dX10_kindOf_42 : decode cX10_kindOf 42 = .ok (.if_icmp .ne 7, 3) := by decide +kernel
theorem dX10_kindOf_45 : decode cX10_kindOf 45 = .ok (.iconst 3, 1) := by decide +kernel
theorem dX10_kindOf_46 : decode cX10_kindOf 46 = .ok (.goto 4, 3) := by decide +kernel
theorem dX10_kindOf_49 : decode cX10_kindOf 49 = .ok (.iconst 0, 1) := by decide +kernel
theorem dX10_kindOf_50 : decode cX10_kindOf 50 = .ok (.ireturn, 1) := by decide +kernel
theorem dX10_says_0 : decode cX10_says 0 = .ok (.iload_n 1, 1) := by decide +kernel
theorem dX10_says_1 : decode cX10_says 1 = .ok (.invokestatic 217, 3) := by decide +kernel
theorem dX10_says_4 : decode cX10_says 4 = .ok (.ifCond .eq 12, 3) := by decide +kernel
theorem dX10_says_7 : decode cX10_says 7 = .ok (.iload_n 2, 1) := by decide +kernel
theorem dX10_says_8 : decode cX10_says 8 = .ok (.iconst 0, 1) := by decide +kernel
theorem dX10_says_9 : decode cX10_says 9 = .ok (.iconst 3, 1) := by decide +kernel
theorem dX10_says_10 : decode cX10_says 10 = .ok (.invokestatic 108, 3) := by decide +kernel
theorem dX10_says_13 : decode cX10_says 13 = .ok (.ifCond .ne 7, 3) := by decide +kernel
theorem dX10_says_16 : decode cX10_says 16 = .ok (.iconst (-1), 1) := by decide +kernel
theorem dX10_says_17 : decode cX10_says 17 = .ok (.goto 61, 3) := by decide +kernel
theorem dX10_says_20 : decode cX10_says 20 = .ok (.aload_n 0, 1) := by decide +kernel
theorem dX10_says_21 : decode cX10_says 21 = .ok (.iload_n 1, 1) := by decide +kernel
theorem dX10_says_22 : decode cX10_says 22 = .ok (.invokevirtual 236, 3) := by decide +kernel
theorem dX10_says_25 : decode cX10_says 25 = .ok (.ifCond .ne 33, 3) := by decide +kernel
theorem dX10_says_28 : decode cX10_says 28 = .ok (.aload_n 0, 1) := by decide +kernel
theorem dX10_says_29 : decode cX10_says 29 = .ok (.getfield 67, 3) := by decide +kernel
theorem dX10_says_32 : decode cX10_says 32 = .ok (.iload_n 1, 1) := by decide +kernel
theorem dX10_says_33 : decode cX10_says 33 = .ok (.iaload, 1) := by decide +kernel
theorem dX10_says_34 : decode cX10_says 34 = .ok (.ifCond .eq 29, 3) := by decide +kernel
theorem dX10_says_37 : decode cX10_says 37 = .ok (.iload_n 2, 1) := by decide +kernel
theorem dX10_says_38 : decode cX10_says 38 = .ok (.ifCond .le 25, 3) := by decide +kernel
theorem dX10_says_41 : decode cX10_says 41 = .ok (.aload_n 0, 1) := by decide +kernel
theorem dX10_says_42 : decode cX10_says 42 = .ok (.getfield 67, 3) := by decide +kernel
theorem dX10_says_45 : decode cX10_says 45 = .ok (.iload_n 1, 1) := by decide +kernel
theorem dX10_says_46 : decode cX10_says 46 = .ok (.iaload, 1) := by decide +kernel
theorem dX10_says_47 : decode cX10_says 47 = .ok (.sipush 200, 3) := by decide +kernel
theorem dX10_says_50 : decode cX10_says 50 = .ok (.isub, 1) := by decide +kernel
theorem dX10_says_51 : decode cX10_says 51 = .ok (.invokestatic 242, 3) := by decide +kernel
theorem dX10_says_54 : decode cX10_says 54 = .ok (.iload_n 2, 1) := by decide +kernel
theorem dX10_says_55 : decode cX10_says 55 = .ok (.if_icmp .eq 8, 3) := by decide +kernel
theorem dX10_says_58 : decode cX10_says 58 = .ok (.bipush (-2), 2) := by decide +kernel
theorem dX10_says_60 : decode cX10_says 60 = .ok (.goto 18, 3) := by decide +kernel
theorem dX10_says_63 : decode cX10_says 63 = .ok (.aload_n 0, 1) := by decide +kernel
theorem dX10_says_64 : decode cX10_says 64 = .ok (.getfield 67, 3) := by decide +kernel
theorem dX10_says_67 : decode cX10_says 67 = .ok (.iload_n 1, 1) := by decide +kernel
theorem dX10_says_68 : decode cX10_says 68 = .ok (.iaload, 1) := by decide +kernel
theorem dX10_says_69 : decode cX10_says 69 = .ok (.ifCond .ne 8, 3) := by decide +kernel
theorem dX10_says_72 : decode cX10_says 72 = .ok (.bipush (-3), 2) := by decide +kernel
theorem dX10_says_74 : decode cX10_says 74 = .ok (.goto 4, 3) := by decide +kernel
theorem dX10_says_77 : decode cX10_says 77 = .ok (.iconst 0, 1) := by decide +kernel
theorem dX10_says_78 : decode cX10_says 78 = .ok (.istore_n 3, 1) := by decide +kernel
theorem dX10_says_79 : decode cX10_says 79 = .ok (.iload_n 3, 1) := by decide +kernel
theorem dX10_says_80 : decode cX10_says 80 = .ok (.ifCond .eq 9, 3) := by decide +kernel
theorem dX10_says_83 : decode cX10_says 83 = .ok (.aload_n 0, 1) := by decide +kernel
theorem dX10_says_84 : decode cX10_says 84 = .ok (.iload_n 3, 1) := by decide +kernel
theorem dX10_says_85 : decode cX10_says 85 = .ok (.invokevirtual 221, 3) := by decide +kernel
theorem dX10_says_88 : decode cX10_says 88 = .ok (.ireturn, 1) := by decide +kernel
theorem dX10_says_89 : decode cX10_says 89 = .ok (.aload_n 0, 1) := by decide +kernel
theorem dX10_says_90 : decode cX10_says 90 = .ok (.getfield 67, 3) := by decide +kernel
theorem dX10_says_93 : decode cX10_says 93 = .ok (.iload_n 1, 1) := by decide +kernel
theorem dX10_says_94 : decode cX10_says 94 = .ok (.iaload, 1) := by decide +kernel
theorem dX10_says_95 : decode cX10_says 95 = .ok (.sipush 200, 3) := by decide +kernel
theorem dX10_says_98 : decode cX10_says 98 = .ok (.isub, 1) := by decide +kernel
theorem dX10_says_99 : decode cX10_says 99 = .ok (.istore 4, 2) := by decide +kernel
theorem dX10_says_101 : decode cX10_says 101 = .ok (.iload_n 2, 1) := by decide +kernel
theorem dX10_says_102 : decode cX10_says 102 = .ok (.tableswitch 63 0 2 #[26, 38, 50], 26) := by decide +kernel
theorem dX10_says_128 : decode cX10_says 128 = .ok (.aload_n 0, 1) := by decide +kernel
theorem dX10_says_129 : decode cX10_says 129 = .ok (.getfield 73, 3) := by decide +kernel
theorem dX10_says_132 : decode cX10_says 132 = .ok (.sipush 160, 3) := by decide +kernel
theorem dX10_says_135 : decode cX10_says 135 = .ok (.iload_n 1, 1) := by decide +kernel
theorem dX10_says_136 : decode cX10_says 136 = .ok (.imul, 1) := by decide +kernel
theorem dX10_says_137 : decode cX10_says 137 = .ok (.laload, 1) := by decide +kernel
theorem dX10_says_138 : decode cX10_says 138 = .ok (.l2i, 1) := by decide +kernel
theorem dX10_says_139 : decode cX10_says 139 = .ok (.ireturn, 1) := by decide +kernel
theorem dX10_says_140 : decode cX10_says 140 = .ok (.iload 4, 2) := by decide +kernel
theorem dX10_says_142 : decode cX10_says 142 = .ok (.iconst 2, 1) := by decide +kernel
theorem dX10_says_143 : decode cX10_says 143 = .ok (.if_icmp .ne 7, 3) := by decide +kernel
theorem dX10_says_146 : decode cX10_says 146 = .ok (.iconst 1, 1) := by decide +kernel
theorem dX10_says_147 : decode cX10_says 147 = .ok (.goto 4, 3) := by decide +kernel
theorem dX10_says_150 : decode cX10_says 150 = .ok (.iconst 0, 1) := by decide +kernel
theorem dX10_says_151 : decode cX10_says 151 = .ok (.ireturn, 1) := by decide +kernel
theorem dX10_says_152 : decode cX10_says 152 = .ok (.iload 4, 2) := by decide +kernel
theorem dX10_says_154 : decode cX10_says 154 = .ok (.bipush 6, 2) := by decide +kernel
theorem dX10_says_156 : decode cX10_says 156 = .ok (.if_icmp .ne 7, 3) := by decide +kernel
theorem dX10_says_159 : decode cX10_says 159 = .ok (.iconst 1, 1) := by decide +kernel
theorem dX10_says_160 : decode cX10_says 160 = .ok (.goto 4, 3) := by decide +kernel
theorem dX10_says_163 : decode cX10_says 163 = .ok (.iconst 2, 1) := by decide +kernel
theorem dX10_says_164 : decode cX10_says 164 = .ok (.ireturn, 1) := by decide +kernel
theorem dX10_says_165 : decode cX10_says 165 = .ok (.aload_n 0, 1) := by decide +kernel
theorem dX10_says_166 : decode cX10_says 166 = .ok (.getfield 73, 3) := by decide +kernel
theorem dX10_says_169 : decode cX10_says 169 = .ok (.sipush 160, 3) := by decide +kernel
theorem dX10_says_172 : decode cX10_says 172 = .ok (.iload_n 1, 1) := by decide +kernel
theorem dX10_says_173 : decode cX10_says 173 = .ok (.imul, 1) := by decide +kernel
theorem dX10_says_174 : decode cX10_says 174 = .ok (.iconst 1, 1) := by decide +kernel
theorem dX10_says_175 : decode cX10_says 175 = .ok (.iadd, 1) := by decide +kernel
theorem dX10_says_176 : decode cX10_says 176 = .ok (.laload, 1) := by decide +kernel
theorem dX10_says_177 : decode cX10_says 177 = .ok (.l2i, 1) := by decide +kernel
theorem dX10_says_178 : decode cX10_says 178 = .ok (.ireturn, 1) := by decide +kernel
theorem dX10_sign_0 : decode cX10_sign 0 = .ok (.iload_n 1, 1) := by decide +kernel
theorem dX10_sign_1 : decode cX10_sign 1 = .ok (.aload_n 0, 1) := by decide +kernel
theorem dX10_sign_2 : decode cX10_sign 2 = .ok (.getfield 70, 3) := by decide +kernel
theorem dX10_sign_5 : decode cX10_sign 5 = .ok (.aload_n 0, 1) := by decide +kernel
theorem dX10_sign_6 : decode cX10_sign 6 = .ok (.getfield 245, 3) := by decide +kernel
theorem dX10_sign_9 : decode cX10_sign 9 = .ok (.iaload, 1) := by decide +kernel
theorem dX10_sign_10 : decode cX10_sign 10 = .ok (.if_icmp .ge 22, 3) := by decide +kernel
theorem dX10_sign_13 : decode cX10_sign 13 = .ok (.aload_n 0, 1) := by decide +kernel
theorem dX10_sign_14 : decode cX10_sign 14 = .ok (.getfield 73, 3) := by decide +kernel
theorem dX10_sign_17 : decode cX10_sign 17 = .ok (.sipush 160, 3) := by decide +kernel
theorem dX10_sign_20 : decode cX10_sign 20 = .ok (.aload_n 0, 1) := by decide +kernel
theorem dX10_sign_21 : decode cX10_sign 21 = .ok (.getfield 245, 3) := by decide +kernel
theorem dX10_sign_24 : decode cX10_sign 24 = .ok (.imul, 1) := by decide +kernel
theorem dX10_sign_25 : decode cX10_sign 25 = .ok (.iload_n 1, 1) := by decide +kernel
theorem dX10_sign_26 : decode cX10_sign 26 = .ok (.iadd, 1) := by decide +kernel
theorem dX10_sign_27 : decode cX10_sign 27 = .ok (.laload, 1) := by decide +kernel
theorem dX10_sign_28 : decode cX10_sign 28 = .ok (.l2i, 1) := by decide +kernel
theorem dX10_sign_29 : decode cX10_sign 29 = .ok (.goto 4, 3) := by decide +kernel
theorem dX10_sign_32 : decode cX10_sign 32 = .ok (.iconst (-1), 1) := by decide +kernel
theorem dX10_sign_33 : decode cX10_sign 33 = .ok (.ireturn, 1) := by decide +kernel
theorem dX10_lettersOf_0 : decode cX10_lettersOf 0 = .ok (.iload_n 0, 1) := by decide +kernel
theorem dX10_lettersOf_1 : decode cX10_lettersOf 1 = .ok (.tableswitch 69 0 9 #[55, 57, 60, 62, 64, 60, 60, 60, 64, 66], 55) := by decide +kernel
theorem dX10_lettersOf_56 : decode cX10_lettersOf 56 = .ok (.iconst 5, 1) := by decide +kernel
theorem dX10_lettersOf_57 : decode cX10_lettersOf 57 = .ok (.ireturn, 1) := by decide +kernel
theorem dX10_lettersOf_58 : decode cX10_lettersOf 58 = .ok (.bipush 6, 2) := by decide +kernel
theorem dX10_lettersOf_60 : decode cX10_lettersOf 60 = .ok (.ireturn, 1) := by decide +kernel
theorem dX10_lettersOf_61 : decode cX10_lettersOf 61 = .ok (.iconst 4, 1) := by decide +kernel
theorem dX10_lettersOf_62 : decode cX10_lettersOf 62 = .ok (.ireturn, 1) := by decide +kernel
theorem dX10_lettersOf_63 : decode cX10_lettersOf 63 = .ok (.iconst 3, 1) := by decide +kernel
theorem dX10_lettersOf_64 : decode cX10_lettersOf 64 = .ok (.ireturn, 1) := by decide +kernel
theorem dX10_lettersOf_65 : decode cX10_lettersOf 65 = .ok (.iconst 2, 1) := by decide +kernel
theorem dX10_lettersOf_66 : decode cX10_lettersOf 66 = .ok (.ireturn, 1) := by decide +kernel
theorem dX10_lettersOf_67 : decode cX10_lettersOf 67 = .ok (.bipush 7, 2) := by decide +kernel
theorem dX10_lettersOf_69 : decode cX10_lettersOf 69 = .ok (.ireturn, 1) := by decide +kernel
theorem dX10_lettersOf_70 : decode cX10_lettersOf 70 = .ok (.iconst 5, 1) := by decide +kernel
theorem dX10_lettersOf_71 : decode cX10_lettersOf 71 = .ok (.ireturn, 1) := by decide +kernel
theorem dX10_letterOf_0 : decode cX10_letterOf 0 = .ok (.getstatic 248, 3) := by decide +kernel
theorem dX10_letterOf_3 : decode cX10_letterOf 3 = .ok (.bipush 8, 2) := by decide +kernel
theorem dX10_letterOf_5 : decode cX10_letterOf 5 = .ok (.iload_n 0, 1) := by decide +kernel
theorem dX10_letterOf_6 : decode cX10_letterOf 6 = .ok (.imul, 1) := by decide +kernel
theorem dX10_letterOf_7 : decode cX10_letterOf 7 = .ok (.iload_n 1, 1) := by decide +kernel
theorem dX10_letterOf_8 : decode cX10_letterOf 8 = .ok (.iadd, 1) := by decide +kernel
theorem dX10_letterOf_9 : decode cX10_letterOf 9 = .ok (.iaload, 1) := by decide +kernel
theorem dX10_letterOf_10 : decode cX10_letterOf 10 = .ok (.ireturn, 1) := by decide +kernel
theorem dX10_matches_0 : decode cX10_matches 0 = .ok (.iconst 0, 1) := by decide +kernel
theorem dX10_matches_1 : decode cX10_matches 1 = .ok (.istore_n 2, 1) := by decide +kernel
theorem dX10_matches_2 : decode cX10_matches 2 = .ok (.iload_n 2, 1) := by decide +kernel
theorem dX10_matches_3 : decode cX10_matches 3 = .ok (.iload_n 1, 1) := by decide +kernel
theorem dX10_matches_4 : decode cX10_matches 4 = .ok (.invokestatic 251, 3) := by decide +kernel
theorem dX10_matches_7 : decode cX10_matches 7 = .ok (.if_icmp .ge 27, 3) := by decide +kernel
theorem dX10_matches_10 : decode cX10_matches 10 = .ok (.aload_n 0, 1) := by decide +kernel
theorem dX10_matches_11 : decode cX10_matches 11 = .ok (.aload_n 0, 1) := by decide +kernel
theorem dX10_matches_12 : decode cX10_matches 12 = .ok (.getfield 254, 3) := by decide +kernel
theorem dX10_matches_15 : decode cX10_matches 15 = .ok (.iload_n 2, 1) := by decide +kernel
theorem dX10_matches_16 : decode cX10_matches 16 = .ok (.iadd, 1) := by decide +kernel
theorem dX10_matches_17 : decode cX10_matches 17 = .ok (.invokevirtual 257, 3) := by decide +kernel
theorem dX10_matches_20 : decode cX10_matches 20 = .ok (.iload_n 1, 1) := by decide +kernel
theorem dX10_matches_21 : decode cX10_matches 21 = .ok (.iload_n 2, 1) := by decide +kernel
theorem dX10_matches_22 : decode cX10_matches 22 = .ok (.invokestatic 260, 3) := by decide +kernel
theorem dX10_matches_25 : decode cX10_matches 25 = .ok (.if_icmp .ne 9, 3) := by decide +kernel
theorem dX10_matches_28 : decode cX10_matches 28 = .ok (.iinc 2 1, 3) := by decide +kernel
theorem dX10_matches_31 : decode cX10_matches 31 = .ok (.goto (-29), 3) := by decide +kernel
theorem dX10_matches_34 : decode cX10_matches 34 = .ok (.iload_n 2, 1) := by decide +kernel
theorem dX10_matches_35 : decode cX10_matches 35 = .ok (.ireturn, 1) := by decide +kernel
theorem dX10_readsWord_0 : decode cX10_readsWord 0 = .ok (.iconst 0, 1) := by decide +kernel
theorem dX10_readsWord_1 : decode cX10_readsWord 1 = .ok (.istore_n 1, 1) := by decide +kernel
theorem dX10_readsWord_2 : decode cX10_readsWord 2 = .ok (.iconst 0, 1) := by decide +kernel
theorem dX10_readsWord_3 : decode cX10_readsWord 3 = .ok (.istore_n 2, 1) := by decide +kernel
theorem dX10_readsWord_4 : decode cX10_readsWord 4 = .ok (.iload_n 2, 1) := by decide +kernel
theorem dX10_readsWord_5 : decode cX10_readsWord 5 = .ok (.bipush 11, 2) := by decide +kernel
theorem dX10_readsWord_7 : decode cX10_readsWord 7 = .ok (.if_icmp .ge 46, 3) := by decide +kernel
theorem dX10_readsWord_10 : decode cX10_readsWord 10 = .ok (.aload_n 0, 1) := by decide +kernel
theorem dX10_readsWord_11 : decode cX10_readsWord 11 = .ok (.iload_n 2, 1) := by decide +kernel
theorem dX10_readsWord_12 : decode cX10_readsWord 12 = .ok (.invokevirtual 263, 3) := by decide +kernel
theorem dX10_readsWord_15 : decode cX10_readsWord 15 = .ok (.istore_n 3, 1) := by decide +kernel
theorem dX10_readsWord_16 : decode cX10_readsWord 16 = .ok (.iload_n 3, 1) := by decide +kernel
theorem dX10_readsWord_17 : decode cX10_readsWord 17 = .ok (.iload_n 2, 1) := by decide +kernel
theorem dX10_readsWord_18 : decode cX10_readsWord 18 = .ok (.invokestatic 251, 3) := by decide +kernel
theorem dX10_readsWord_21 : decode cX10_readsWord 21 = .ok (.if_icmp .ne 15, 3) := by decide +kernel
theorem dX10_readsWord_24 : decode cX10_readsWord 24 = .ok (.aload_n 0, 1) := by decide +kernel
theorem dX10_readsWord_25 : decode cX10_readsWord 25 = .ok (.dup, 1) := by decide +kernel
theorem dX10_readsWord_26 : decode cX10_readsWord 26 = .ok (.getfield 254, 3) := by decide +kernel
theorem dX10_readsWord_29 : decode cX10_readsWord 29 = .ok (.iload_n 3, 1) := by decide +kernel
theorem dX10_readsWord_30 : decode cX10_readsWord 30 = .ok (.iadd, 1) := by decide +kernel
theorem dX10_readsWord_31 : decode cX10_readsWord 31 = .ok (.putfield 254, 3) := by decide +kernel
theorem dX10_readsWord_34 : decode cX10_readsWord 34 = .ok (.iload_n 2, 1) := by decide +kernel
theorem dX10_readsWord_35 : decode cX10_readsWord 35 = .ok (.ireturn, 1) := by decide +kernel
theorem dX10_readsWord_36 : decode cX10_readsWord 36 = .ok (.iload_n 3, 1) := by decide +kernel
theorem dX10_readsWord_37 : decode cX10_readsWord 37 = .ok (.iload_n 1, 1) := by decide +kernel
theorem dX10_readsWord_38 : decode cX10_readsWord 38 = .ok (.if_icmp .le 7, 3) := by decide +kernel
theorem dX10_readsWord_41 : decode cX10_readsWord 41 = .ok (.iload_n 3, 1) := by decide +kernel
theorem dX10_readsWord_42 : decode cX10_readsWord 42 = .ok (.goto 4, 3) := by decide +kernel
theorem dX10_readsWord_45 : decode cX10_readsWord 45 = .ok (.iload_n 1, 1) := by decide +kernel
theorem dX10_readsWord_46 : decode cX10_readsWord 46 = .ok (.istore_n 1, 1) := by decide +kernel
theorem dX10_readsWord_47 : decode cX10_readsWord 47 = .ok (.iinc 2 1, 3) := by decide +kernel
theorem dX10_readsWord_50 : decode cX10_readsWord 50 = .ok (.goto (-46), 3) := by decide +kernel
theorem dX10_readsWord_53 : decode cX10_readsWord 53 = .ok (.aload_n 0, 1) := by decide +kernel
theorem dX10_readsWord_54 : decode cX10_readsWord 54 = .ok (.dup, 1) := by decide +kernel
theorem dX10_readsWord_55 : decode cX10_readsWord 55 = .ok (.getfield 254, 3) := by decide +kernel
theorem dX10_readsWord_58 : decode cX10_readsWord 58 = .ok (.iload_n 1, 1) := by decide +kernel
theorem dX10_readsWord_59 : decode cX10_readsWord 59 = .ok (.iadd, 1) := by decide +kernel
theorem dX10_readsWord_60 : decode cX10_readsWord 60 = .ok (.putfield 254, 3) := by decide +kernel
theorem dX10_readsWord_63 : decode cX10_readsWord 63 = .ok (.iconst (-1), 1) := by decide +kernel
theorem dX10_readsWord_64 : decode cX10_readsWord 64 = .ok (.ireturn, 1) := by decide +kernel
theorem dX10_readsNumber_0 : decode cX10_readsNumber 0 = .ok (.aload_n 0, 1) := by decide +kernel
theorem dX10_readsNumber_1 : decode cX10_readsNumber 1 = .ok (.aload_n 0, 1) := by decide +kernel
theorem dX10_readsNumber_2 : decode cX10_readsNumber 2 = .ok (.getfield 254, 3) := by decide +kernel
theorem dX10_readsNumber_5 : decode cX10_readsNumber 5 = .ok (.invokevirtual 257, 3) := by decide +kernel
theorem dX10_readsNumber_8 : decode cX10_readsNumber 8 = .ok (.bipush 32, 2) := by decide +kernel
theorem dX10_readsNumber_10 : decode cX10_readsNumber 10 = .ok (.if_icmp .eq 5, 3) := by decide +kernel
theorem dX10_readsNumber_13 : decode cX10_readsNumber 13 = .ok (.iconst (-1), 1) := by decide +kernel
theorem dX10_readsNumber_14 : decode cX10_readsNumber 14 = .ok (.ireturn, 1) := by decide +kernel
theorem dX10_readsNumber_15 : decode cX10_readsNumber 15 = .ok (.aload_n 0, 1) := by decide +kernel
theorem dX10_readsNumber_16 : decode cX10_readsNumber 16 = .ok (.dup, 1) := by decide +kernel
theorem dX10_readsNumber_17 : decode cX10_readsNumber 17 = .ok (.getfield 254, 3) := by decide +kernel
theorem dX10_readsNumber_20 : decode cX10_readsNumber 20 = .ok (.iconst 1, 1) := by decide +kernel
theorem dX10_readsNumber_21 : decode cX10_readsNumber 21 = .ok (.iadd, 1) := by decide +kernel
theorem dX10_readsNumber_22 : decode cX10_readsNumber 22 = .ok (.putfield 254, 3) := by decide +kernel
theorem dX10_readsNumber_25 : decode cX10_readsNumber 25 = .ok (.aload_n 0, 1) := by decide +kernel
theorem dX10_readsNumber_26 : decode cX10_readsNumber 26 = .ok (.getfield 254, 3) := by decide +kernel
theorem dX10_readsNumber_29 : decode cX10_readsNumber 29 = .ok (.istore_n 3, 1) := by decide +kernel
theorem dX10_readsNumber_30 : decode cX10_readsNumber 30 = .ok (.iconst 0, 1) := by decide +kernel
theorem dX10_readsNumber_31 : decode cX10_readsNumber 31 = .ok (.istore 4, 2) := by decide +kernel
theorem dX10_readsNumber_33 : decode cX10_readsNumber 33 = .ok (.aload_n 0, 1) := by decide +kernel
theorem dX10_readsNumber_34 : decode cX10_readsNumber 34 = .ok (.getfield 254, 3) := by decide +kernel
theorem dX10_readsNumber_37 : decode cX10_readsNumber 37 = .ok (.iload_n 3, 1) := by decide +kernel
theorem dX10_readsNumber_38 : decode cX10_readsNumber 38 = .ok (.iconst 2, 1) := by decide +kernel
theorem dX10_readsNumber_39 : decode cX10_readsNumber 39 = .ok (.iadd, 1) := by decide +kernel
theorem dX10_readsNumber_40 : decode cX10_readsNumber 40 = .ok (.if_icmp .ge 53, 3) := by decide +kernel
theorem dX10_readsNumber_43 : decode cX10_readsNumber 43 = .ok (.aload_n 0, 1) := by decide +kernel
theorem dX10_readsNumber_44 : decode cX10_readsNumber 44 = .ok (.aload_n 0, 1) := by decide +kernel
theorem dX10_readsNumber_45 : decode cX10_readsNumber 45 = .ok (.getfield 254, 3) := by decide +kernel
theorem dX10_readsNumber_48 : decode cX10_readsNumber 48 = .ok (.invokevirtual 257, 3) := by decide +kernel
theorem dX10_readsNumber_51 : decode cX10_readsNumber 51 = .ok (.bipush 48, 2) := by decide +kernel
theorem dX10_readsNumber_53 : decode cX10_readsNumber 53 = .ok (.bipush 57, 2) := by decide +kernel
theorem dX10_readsNumber_55 : decode cX10_readsNumber 55 = .ok (.invokestatic 108, 3) := by decide +kernel
theorem dX10_readsNumber_58 : decode cX10_readsNumber 58 = .ok (.ifCond .eq 35, 3) := by decide +kernel
theorem dX10_readsNumber_61 : decode cX10_readsNumber 61 = .ok (.bipush 10, 2) := by decide +kernel
theorem dX10_readsNumber_63 : decode cX10_readsNumber 63 = .ok (.iload 4, 2) := by decide +kernel
theorem dX10_readsNumber_65 : decode cX10_readsNumber 65 = .ok (.imul, 1) := by decide +kernel
theorem dX10_readsNumber_66 : decode cX10_readsNumber 66 = .ok (.aload_n 0, 1) := by decide +kernel
theorem dX10_readsNumber_67 : decode cX10_readsNumber 67 = .ok (.aload_n 0, 1) := by decide +kernel
theorem dX10_readsNumber_68 : decode cX10_readsNumber 68 = .ok (.getfield 254, 3) := by decide +kernel
theorem dX10_readsNumber_71 : decode cX10_readsNumber 71 = .ok (.invokevirtual 257, 3) := by decide +kernel
theorem dX10_readsNumber_74 : decode cX10_readsNumber 74 = .ok (.iadd, 1) := by decide +kernel
theorem dX10_readsNumber_75 : decode cX10_readsNumber 75 = .ok (.bipush 48, 2) := by decide +kernel
theorem dX10_readsNumber_77 : decode cX10_readsNumber 77 = .ok (.isub, 1) := by decide +kernel
theorem dX10_readsNumber_78 : decode cX10_readsNumber 78 = .ok (.istore 4, 2) := by decide +kernel
theorem dX10_readsNumber_80 : decode cX10_readsNumber 80 = .ok (.aload_n 0, 1) := by decide +kernel
theorem dX10_readsNumber_81 : decode cX10_readsNumber 81 = .ok (.dup, 1) := by decide +kernel
theorem dX10_readsNumber_82 : decode cX10_readsNumber 82 = .ok (.getfield 254, 3) := by decide +kernel
theorem dX10_readsNumber_85 : decode cX10_readsNumber 85 = .ok (.iconst 1, 1) := by decide +kernel
theorem dX10_readsNumber_86 : decode cX10_readsNumber 86 = .ok (.iadd, 1) := by decide +kernel
theorem dX10_readsNumber_87 : decode cX10_readsNumber 87 = .ok (.putfield 254, 3) := by decide +kernel
theorem dX10_readsNumber_90 : decode cX10_readsNumber 90 = .ok (.goto (-57), 3) := by decide +kernel
theorem dX10_readsNumber_93 : decode cX10_readsNumber 93 = .ok (.aload_n 0, 1) := by decide +kernel
theorem dX10_readsNumber_94 : decode cX10_readsNumber 94 = .ok (.getfield 254, 3) := by decide +kernel
theorem dX10_readsNumber_97 : decode cX10_readsNumber 97 = .ok (.iload_n 3, 1) := by decide +kernel
theorem dX10_readsNumber_98 : decode cX10_readsNumber 98 = .ok (.if_icmp .le 16, 3) := by decide +kernel
theorem dX10_readsNumber_101 : decode cX10_readsNumber 101 = .ok (.iload 4, 2) := by decide +kernel
theorem dX10_readsNumber_103 : decode cX10_readsNumber 103 = .ok (.iload_n 1, 1) := by decide +kernel
theorem dX10_readsNumber_104 : decode cX10_readsNumber 104 = .ok (.iload_n 2, 1) := by decide +kernel
theorem dX10_readsNumber_105 : decode cX10_readsNumber 105 = .ok (.invokestatic 108, 3) := by decide +kernel
theorem dX10_readsNumber_108 : decode cX10_readsNumber 108 = .ok (.ifCond .eq 6, 3) := by decide +kernel
theorem dX10_readsNumber_111 : decode cX10_readsNumber 111 = .ok (.iload 4, 2) := by decide +kernel
theorem dX10_readsNumber_113 : decode cX10_readsNumber 113 = .ok (.ireturn, 1) := by decide +kernel
theorem dX10_readsNumber_114 : decode cX10_readsNumber 114 = .ok (.aload_n 0, 1) := by decide +kernel
theorem dX10_readsNumber_115 : decode cX10_readsNumber 115 = .ok (.iload_n 3, 1) := by decide +kernel
theorem dX10_readsNumber_116 : decode cX10_readsNumber 116 = .ok (.putfield 254, 3) := by decide +kernel
theorem dX10_readsNumber_119 : decode cX10_readsNumber 119 = .ok (.iconst (-1), 1) := by decide +kernel
theorem dX10_readsNumber_120 : decode cX10_readsNumber 120 = .ok (.ireturn, 1) := by decide +kernel
theorem dX10_readsDown_0 : decode cX10_readsDown 0 = .ok (.aload_n 0, 1) := by decide +kernel
theorem dX10_readsDown_1 : decode cX10_readsDown 1 = .ok (.getfield 80, 3) := by decide +kernel
theorem dX10_readsDown_4 : decode cX10_readsDown 4 = .ok (.aload_n 0, 1) := by decide +kernel
theorem dX10_readsDown_5 : decode cX10_readsDown 5 = .ok (.getfield 266, 3) := by decide +kernel
theorem dX10_readsDown_8 : decode cX10_readsDown 8 = .ok (.aload_n 0, 1) := by decide +kernel
theorem dX10_readsDown_9 : decode cX10_readsDown 9 = .ok (.iconst 0, 1) := by decide +kernel
theorem dX10_readsDown_10 : decode cX10_readsDown 10 = .ok (.iconst 5, 1) := by decide +kernel
theorem dX10_readsDown_11 : decode cX10_readsDown 11 = .ok (.invokevirtual 269, 3) := by decide +kernel
theorem dX10_readsDown_14 : decode cX10_readsDown 14 = .ok (.iastore, 1) := by decide +kernel
theorem dX10_readsDown_15 : decode cX10_readsDown 15 = .ok (.aload_n 0, 1) := by decide +kernel
theorem dX10_readsDown_16 : decode cX10_readsDown 16 = .ok (.getfield 80, 3) := by decide +kernel
theorem dX10_readsDown_19 : decode cX10_readsDown 19 = .ok (.aload_n 0, 1) := by decide +kernel
theorem dX10_readsDown_20 : decode cX10_readsDown 20 = .ok (.getfield 266, 3) := by decide +kernel
theorem dX10_readsDown_23 : decode cX10_readsDown 23 = .ok (.iaload, 1) := by decide +kernel
theorem dX10_readsDown_24 : decode cX10_readsDown 24 = .ok (.ifCond .ge 5, 3) := by decide +kernel
theorem dX10_readsDown_27 : decode cX10_readsDown 27 = .ok (.iconst 0, 1) := by decide +kernel
theorem dX10_readsDown_28 : decode cX10_readsDown 28 = .ok (.ireturn, 1) := by decide +kernel
theorem dX10_readsDown_29 : decode cX10_readsDown 29 = .ok (.aload_n 0, 1) := by decide +kernel
theorem dX10_readsDown_30 : decode cX10_readsDown 30 = .ok (.getfield 83, 3) := by decide +kernel
theorem dX10_readsDown_33 : decode cX10_readsDown 33 = .ok (.aload_n 0, 1) := by decide +kernel
theorem dX10_readsDown_34 : decode cX10_readsDown 34 = .ok (.getfield 266, 3) := by decide +kernel
theorem dX10_readsDown_37 : decode cX10_readsDown 37 = .ok (.aload_n 0, 1) := by decide +kernel
theorem dX10_readsDown_38 : decode cX10_readsDown 38 = .ok (.iconst 0, 1) := by decide +kernel
theorem dX10_readsDown_39 : decode cX10_readsDown 39 = .ok (.bipush 60, 2) := by decide +kernel
theorem dX10_readsDown_41 : decode cX10_readsDown 41 = .ok (.invokevirtual 269, 3) := by decide +kernel
theorem dX10_readsDown_44 : decode cX10_readsDown 44 = .ok (.iastore, 1) := by decide +kernel
theorem dX10_readsDown_45 : decode cX10_readsDown 45 = .ok (.aload_n 0, 1) := by decide +kernel
theorem dX10_readsDown_46 : decode cX10_readsDown 46 = .ok (.getfield 83, 3) := by decide +kernel
theorem dX10_readsDown_49 : decode cX10_readsDown 49 = .ok (.aload_n 0, 1) := by decide +kernel
theorem dX10_readsDown_50 : decode cX10_readsDown 50 = .ok (.getfield 266, 3) := by decide +kernel
theorem dX10_readsDown_53 : decode cX10_readsDown 53 = .ok (.iaload, 1) := by decide +kernel
theorem dX10_readsDown_54 : decode cX10_readsDown 54 = .ok (.ifCond .ge 5, 3) := by decide +kernel
theorem dX10_readsDown_57 : decode cX10_readsDown 57 = .ok (.iconst 0, 1) := by decide +kernel
theorem dX10_readsDown_58 : decode cX10_readsDown 58 = .ok (.ireturn, 1) := by decide +kernel
theorem dX10_readsDown_59 : decode cX10_readsDown 59 = .ok (.aload_n 0, 1) := by decide +kernel
theorem dX10_readsDown_60 : decode cX10_readsDown 60 = .ok (.getfield 86, 3) := by decide +kernel
theorem dX10_readsDown_63 : decode cX10_readsDown 63 = .ok (.aload_n 0, 1) := by decide +kernel
theorem dX10_readsDown_64 : decode cX10_readsDown 64 = .ok (.getfield 266, 3) := by decide +kernel
theorem dX10_readsDown_67 : decode cX10_readsDown 67 = .ok (.aload_n 0, 1) := by decide +kernel
theorem dX10_readsDown_68 : decode cX10_readsDown 68 = .ok (.aload_n 0, 1) := by decide +kernel
theorem dX10_readsDown_69 : decode cX10_readsDown 69 = .ok (.getfield 83, 3) := by decide +kernel
theorem dX10_readsDown_72 : decode cX10_readsDown 72 = .ok (.aload_n 0, 1) := by decide +kernel
theorem dX10_readsDown_73 : decode cX10_readsDown 73 = .ok (.getfield 266, 3) := by decide +kernel
theorem dX10_readsDown_76 : decode cX10_readsDown 76 = .ok (.iaload, 1) := by decide +kernel
theorem dX10_readsDown_77 : decode cX10_readsDown 77 = .ok (.iconst 1, 1) := by decide +kernel
theorem dX10_readsDown_78 : decode cX10_readsDown 78 = .ok (.iadd, 1) := by decide +kernel
theorem dX10_readsDown_79 : decode cX10_readsDown 79 = .ok (.bipush 60, 2) := by decide +kernel
theorem dX10_readsDown_81 : decode cX10_readsDown 81 = .ok (.invokevirtual 269, 3) := by decide +kernel
theorem dX10_readsDown_84 : decode cX10_readsDown 84 = .ok (.iastore, 1) := by decide +kernel
theorem dX10_readsDown_85 : decode cX10_readsDown 85 = .ok (.aload_n 0, 1) := by decide +kernel
theorem dX10_readsDown_86 : decode cX10_readsDown 86 = .ok (.getfield 86, 3) := by decide +kernel
theorem dX10_readsDown_89 : decode cX10_readsDown 89 = .ok (.aload_n 0, 1) := by decide +kernel
theorem dX10_readsDown_90 : decode cX10_readsDown 90 = .ok (.getfield 266, 3) := by decide +kernel
theorem dX10_readsDown_93 : decode cX10_readsDown 93 = .ok (.iaload, 1) := by decide +kernel
theorem dX10_readsDown_94 : decode cX10_readsDown 94 = .ok (.ifCond .lt 7, 3) := by decide +kernel
theorem dX10_readsDown_97 : decode cX10_readsDown 97 = .ok (.iconst 1, 1) := by decide +kernel
theorem dX10_readsDown_98 : decode cX10_readsDown 98 = .ok (.goto 4, 3) := by decide +kernel
theorem dX10_readsDown_101 : decode cX10_readsDown 101 = .ok (.iconst 0, 1) := by decide +kernel
theorem dX10_readsDown_102 : decode cX10_readsDown 102 = .ok (.ireturn, 1) := by decide +kernel
theorem dX10_readsFirst_0 : decode cX10_readsFirst 0 = .ok (.aload_n 0, 1) := by decide +kernel
theorem dX10_readsFirst_1 : decode cX10_readsFirst 1 = .ok (.getfield 80, 3) := by decide +kernel
theorem dX10_readsFirst_4 : decode cX10_readsFirst 4 = .ok (.aload_n 0, 1) := by decide +kernel
theorem dX10_readsFirst_5 : decode cX10_readsFirst 5 = .ok (.getfield 266, 3) := by decide +kernel
theorem dX10_readsFirst_8 : decode cX10_readsFirst 8 = .ok (.aload_n 0, 1) := by decide +kernel
theorem dX10_readsFirst_9 : decode cX10_readsFirst 9 = .ok (.iload_n 1, 1) := by decide +kernel
theorem dX10_readsFirst_10 : decode cX10_readsFirst 10 = .ok (.iload_n 2, 1) := by decide +kernel
theorem dX10_readsFirst_11 : decode cX10_readsFirst 11 = .ok (.invokevirtual 269, 3) := by decide +kernel
theorem dX10_readsFirst_14 : decode cX10_readsFirst 14 = .ok (.iastore, 1) := by decide +kernel
theorem dX10_readsFirst_15 : decode cX10_readsFirst 15 = .ok (.aload_n 0, 1) := by decide +kernel
theorem dX10_readsFirst_16 : decode cX10_readsFirst 16 = .ok (.getfield 80, 3) := by decide +kernel
theorem dX10_readsFirst_19 : decode cX10_readsFirst 19 = .ok (.aload_n 0, 1) := by decide +kernel
theorem dX10_readsFirst_20 : decode cX10_readsFirst 20 = .ok (.getfield 266, 3) := by decide +kernel
theorem dX10_readsFirst_23 : decode cX10_readsFirst 23 = .ok (.iaload, 1) := by decide +kernel
theorem dX10_readsFirst_24 : decode cX10_readsFirst 24 = .ok (.ifCond .lt 7, 3) := by decide +kernel
theorem dX10_readsFirst_27 : decode cX10_readsFirst 27 = .ok (.iconst 1, 1) := by decide +kernel
theorem dX10_readsFirst_28 : decode cX10_readsFirst 28 = .ok (.goto 4, 3) := by decide +kernel
theorem dX10_readsFirst_31 : decode cX10_readsFirst 31 = .ok (.iconst 0, 1) := by decide +kernel
theorem dX10_readsFirst_32 : decode cX10_readsFirst 32 = .ok (.ireturn, 1) := by decide +kernel
theorem dX10_readsItem_0 : decode cX10_readsItem 0 = .ok (.aload_n 0, 1) := by decide +kernel
theorem dX10_readsItem_1 : decode cX10_readsItem 1 = .ok (.getfield 77, 3) := by decide +kernel
theorem dX10_readsItem_4 : decode cX10_readsItem 4 = .ok (.aload_n 0, 1) := by decide +kernel
theorem dX10_readsItem_5 : decode cX10_readsItem 5 = .ok (.getfield 266, 3) := by decide +kernel
theorem dX10_readsItem_8 : decode cX10_readsItem 8 = .ok (.aload_n 0, 1) := by decide +kernel
theorem dX10_readsItem_9 : decode cX10_readsItem 9 = .ok (.invokevirtual 272, 3) := by decide +kernel
theorem dX10_readsItem_12 : decode cX10_readsItem 12 = .ok (.iastore, 1) := by decide +kernel
theorem dX10_readsItem_13 : decode cX10_readsItem 13 = .ok (.aload_n 0, 1) := by decide +kernel
theorem dX10_readsItem_14 : decode cX10_readsItem 14 = .ok (.getfield 77, 3) := by decide +kernel
theorem dX10_readsItem_17 : decode cX10_readsItem 17 = .ok (.aload_n 0, 1) := by decide +kernel
theorem dX10_readsItem_18 : decode cX10_readsItem 18 = .ok (.getfield 266, 3) := by decide +kernel
theorem dX10_readsItem_21 : decode cX10_readsItem 21 = .ok (.iaload, 1) := by decide +kernel
theorem dX10_readsItem_22 : decode cX10_readsItem 22 = .ok (.tableswitch 98 (-1) 8 #[54, 56, 63, 70, 56, 56, 78, 78, 86, 91], 54) := by decide +kernel
theorem dX10_readsItem_76 : decode cX10_readsItem 76 = .ok (.iconst 0, 1) := by decide +kernel
theorem dX10_readsItem_77 : decode cX10_readsItem 77 = .ok (.ireturn, 1) := by decide +kernel
theorem dX10_readsItem_78 : decode cX10_readsItem 78 = .ok (.aload_n 0, 1) := by decide +kernel
theorem dX10_readsItem_79 : decode cX10_readsItem 79 = .ok (.iconst 1, 1) := by decide +kernel
theorem dX10_readsItem_80 : decode cX10_readsItem 80 = .ok (.iconst 5, 1) := by decide +kernel
theorem dX10_readsItem_81 : decode cX10_readsItem 81 = .ok (.invokevirtual 276, 3) := by decide +kernel
theorem dX10_readsItem_84 : decode cX10_readsItem 84 = .ok (.ireturn, 1) := by decide +kernel
theorem dX10_readsItem_85 : decode cX10_readsItem 85 = .ok (.aload_n 0, 1) := by decide +kernel
theorem dX10_readsItem_86 : decode cX10_readsItem 86 = .ok (.iconst 2, 1) := by decide +kernel
theorem dX10_readsItem_87 : decode cX10_readsItem 87 = .ok (.iconst 3, 1) := by decide +kernel
theorem dX10_readsItem_88 : decode cX10_readsItem 88 = .ok (.invokevirtual 276, 3) := by decide +kernel
theorem dX10_readsItem_91 : decode cX10_readsItem 91 = .ok (.ireturn, 1) := by decide +kernel
theorem dX10_readsItem_92 : decode cX10_readsItem 92 = .ok (.aload_n 0, 1) := by decide +kernel
theorem dX10_readsItem_93 : decode cX10_readsItem 93 = .ok (.iconst 2, 1) := by decide +kernel
theorem dX10_readsItem_94 : decode cX10_readsItem 94 = .ok (.bipush 9, 2) := by decide +kernel
theorem dX10_readsItem_96 : decode cX10_readsItem 96 = .ok (.invokevirtual 276, 3) := by decide +kernel
theorem dX10_readsItem_99 : decode cX10_readsItem 99 = .ok (.ireturn, 1) := by decide +kernel
theorem dX10_readsItem_100 : decode cX10_readsItem 100 = .ok (.aload_n 0, 1) := by decide +kernel
theorem dX10_readsItem_101 : decode cX10_readsItem 101 = .ok (.iconst 0, 1) := by decide +kernel
theorem dX10_readsItem_102 : decode cX10_readsItem 102 = .ok (.bipush 59, 2) := by decide +kernel
theorem dX10_readsItem_104 : decode cX10_readsItem 104 = .ok (.invokevirtual 276, 3) := by decide +kernel
theorem dX10_readsItem_107 : decode cX10_readsItem 107 = .ok (.ireturn, 1) := by decide +kernel
theorem dX10_readsItem_108 : decode cX10_readsItem 108 = .ok (.aload_n 0, 1) := by decide +kernel
theorem dX10_readsItem_109 : decode cX10_readsItem 109 = .ok (.invokevirtual 279, 3) := by decide +kernel
theorem dX10_readsItem_112 : decode cX10_readsItem 112 = .ok (.ireturn, 1) := by decide +kernel
theorem dX10_readsItem_113 : decode cX10_readsItem 113 = .ok (.aload_n 0, 1) := by decide +kernel
theorem dX10_readsItem_114 : decode cX10_readsItem 114 = .ok (.iconst 0, 1) := by decide +kernel
theorem dX10_readsItem_115 : decode cX10_readsItem 115 = .ok (.iconst 5, 1) := by decide +kernel
theorem dX10_readsItem_116 : decode cX10_readsItem 116 = .ok (.invokevirtual 276, 3) := by decide +kernel
theorem dX10_readsItem_119 : decode cX10_readsItem 119 = .ok (.ireturn, 1) := by decide +kernel
theorem dX10_readsItem_120 : decode cX10_readsItem 120 = .ok (.iconst 1, 1) := by decide +kernel
theorem dX10_readsItem_121 : decode cX10_readsItem 121 = .ok (.ireturn, 1) := by decide +kernel
theorem dX10_readsAll_0 : decode cX10_readsAll 0 = .ok (.aload_n 0, 1) := by decide +kernel
theorem dX10_readsAll_1 : decode cX10_readsAll 1 = .ok (.iconst 0, 1) := by decide +kernel
theorem dX10_readsAll_2 : decode cX10_readsAll 2 = .ok (.putfield 254, 3) := by decide +kernel
theorem dX10_readsAll_5 : decode cX10_readsAll 5 = .ok (.aload_n 0, 1) := by decide +kernel
theorem dX10_readsAll_6 : decode cX10_readsAll 6 = .ok (.iconst 0, 1) := by decide +kernel
theorem dX10_readsAll_7 : decode cX10_readsAll 7 = .ok (.putfield 266, 3) := by decide +kernel
theorem dX10_readsAll_10 : decode cX10_readsAll 10 = .ok (.iconst 1, 1) := by decide +kernel
theorem dX10_readsAll_11 : decode cX10_readsAll 11 = .ok (.istore_n 1, 1) := by decide +kernel
theorem dX10_readsAll_12 : decode cX10_readsAll 12 = .ok (.iload_n 1, 1) := by decide +kernel
theorem dX10_readsAll_13 : decode cX10_readsAll 13 = .ok (.ifCond .eq 74, 3) := by decide +kernel
theorem dX10_readsAll_16 : decode cX10_readsAll 16 = .ok (.aload_n 0, 1) := by decide +kernel
theorem dX10_readsAll_17 : decode cX10_readsAll 17 = .ok (.invokevirtual 282, 3) := by decide +kernel
theorem dX10_readsAll_20 : decode cX10_readsAll 20 = .ok (.ifCond .ne 5, 3) := by decide +kernel
theorem dX10_readsAll_23 : decode cX10_readsAll 23 = .ok (.iconst 0, 1) := by decide +kernel
theorem dX10_readsAll_24 : decode cX10_readsAll 24 = .ok (.ireturn, 1) := by decide +kernel
theorem dX10_readsAll_25 : decode cX10_readsAll 25 = .ok (.aload_n 0, 1) := by decide +kernel
theorem dX10_readsAll_26 : decode cX10_readsAll 26 = .ok (.dup, 1) := by decide +kernel
theorem dX10_readsAll_27 : decode cX10_readsAll 27 = .ok (.getfield 266, 3) := by decide +kernel
theorem dX10_readsAll_30 : decode cX10_readsAll 30 = .ok (.iconst 1, 1) := by decide +kernel
theorem dX10_readsAll_31 : decode cX10_readsAll 31 = .ok (.iadd, 1) := by decide +kernel
theorem dX10_readsAll_32 : decode cX10_readsAll 32 = .ok (.putfield 266, 3) := by decide +kernel
theorem dX10_readsAll_35 : decode cX10_readsAll 35 = .ok (.aload_n 0, 1) := by decide +kernel
theorem dX10_readsAll_36 : decode cX10_readsAll 36 = .ok (.aload_n 0, 1) := by decide +kernel
theorem dX10_readsAll_37 : decode cX10_readsAll 37 = .ok (.getfield 254, 3) := by decide +kernel
theorem dX10_readsAll_40 : decode cX10_readsAll 40 = .ok (.invokevirtual 257, 3) := by decide +kernel
theorem dX10_readsAll_43 : decode cX10_readsAll 43 = .ok (.bipush 59, 2) := by decide +kernel
theorem dX10_readsAll_45 : decode cX10_readsAll 45 = .ok (.if_icmp .ne 23, 3) := by decide +kernel
theorem dX10_readsAll_48 : decode cX10_readsAll 48 = .ok (.aload_n 0, 1) := by decide +kernel
theorem dX10_readsAll_49 : decode cX10_readsAll 49 = .ok (.getfield 254, 3) := by decide +kernel
theorem dX10_readsAll_52 : decode cX10_readsAll 52 = .ok (.aload_n 0, 1) := by decide +kernel
theorem dX10_readsAll_53 : decode cX10_readsAll 53 = .ok (.getfield 70, 3) := by decide +kernel
theorem dX10_readsAll_56 : decode cX10_readsAll 56 = .ok (.aload_n 0, 1) := by decide +kernel
theorem dX10_readsAll_57 : decode cX10_readsAll 57 = .ok (.getfield 245, 3) := by decide +kernel
theorem dX10_readsAll_60 : decode cX10_readsAll 60 = .ok (.iaload, 1) := by decide +kernel
theorem dX10_readsAll_61 : decode cX10_readsAll 61 = .ok (.if_icmp .ge 7, 3) := by decide +kernel
theorem dX10_readsAll_64 : decode cX10_readsAll 64 = .ok (.iconst 1, 1) := by decide +kernel
theorem dX10_readsAll_65 : decode cX10_readsAll 65 = .ok (.goto 4, 3) := by decide +kernel
theorem dX10_readsAll_68 : decode cX10_readsAll 68 = .ok (.iconst 0, 1) := by decide +kernel
theorem dX10_readsAll_69 : decode cX10_readsAll 69 = .ok (.istore_n 1, 1) := by decide +kernel
theorem dX10_readsAll_70 : decode cX10_readsAll 70 = .ok (.iload_n 1, 1) := by decide +kernel
theorem dX10_readsAll_71 : decode cX10_readsAll 71 = .ok (.ifCond .eq (-59), 3) := by decide +kernel
theorem dX10_readsAll_74 : decode cX10_readsAll 74 = .ok (.aload_n 0, 1) := by decide +kernel
theorem dX10_readsAll_75 : decode cX10_readsAll 75 = .ok (.dup, 1) := by decide +kernel
theorem dX10_readsAll_76 : decode cX10_readsAll 76 = .ok (.getfield 254, 3) := by decide +kernel
theorem dX10_readsAll_79 : decode cX10_readsAll 79 = .ok (.iconst 1, 1) := by decide +kernel
theorem dX10_readsAll_80 : decode cX10_readsAll 80 = .ok (.iadd, 1) := by decide +kernel
theorem dX10_readsAll_81 : decode cX10_readsAll 81 = .ok (.putfield 254, 3) := by decide +kernel
theorem dX10_readsAll_84 : decode cX10_readsAll 84 = .ok (.goto (-72), 3) := by decide +kernel
theorem dX10_readsAll_87 : decode cX10_readsAll 87 = .ok (.aload_n 0, 1) := by decide +kernel
theorem dX10_readsAll_88 : decode cX10_readsAll 88 = .ok (.getfield 254, 3) := by decide +kernel
theorem dX10_readsAll_91 : decode cX10_readsAll 91 = .ok (.aload_n 0, 1) := by decide +kernel
theorem dX10_readsAll_92 : decode cX10_readsAll 92 = .ok (.getfield 70, 3) := by decide +kernel
theorem dX10_readsAll_95 : decode cX10_readsAll 95 = .ok (.aload_n 0, 1) := by decide +kernel
theorem dX10_readsAll_96 : decode cX10_readsAll 96 = .ok (.getfield 245, 3) := by decide +kernel
theorem dX10_readsAll_99 : decode cX10_readsAll 99 = .ok (.iaload, 1) := by decide +kernel
theorem dX10_readsAll_100 : decode cX10_readsAll 100 = .ok (.if_icmp .ne 7, 3) := by decide +kernel
theorem dX10_readsAll_103 : decode cX10_readsAll 103 = .ok (.iconst 1, 1) := by decide +kernel
theorem dX10_readsAll_104 : decode cX10_readsAll 104 = .ok (.goto 4, 3) := by decide +kernel
theorem dX10_readsAll_107 : decode cX10_readsAll 107 = .ok (.iconst 0, 1) := by decide +kernel
theorem dX10_readsAll_108 : decode cX10_readsAll 108 = .ok (.ireturn, 1) := by decide +kernel
theorem dX10_holdsItem_0 : decode cX10_holdsItem 0 = .ok (.aload_n 0, 1) := by decide +kernel
theorem dX10_holdsItem_1 : decode cX10_holdsItem 1 = .ok (.getfield 80, 3) := by decide +kernel
theorem dX10_holdsItem_4 : decode cX10_holdsItem 4 = .ok (.iload_n 1, 1) := by decide +kernel
theorem dX10_holdsItem_5 : decode cX10_holdsItem 5 = .ok (.iaload, 1) := by decide +kernel
theorem dX10_holdsItem_6 : decode cX10_holdsItem 6 = .ok (.istore_n 2, 1) := by decide +kernel
theorem dX10_holdsItem_7 : decode cX10_holdsItem 7 = .ok (.aload_n 0, 1) := by decide +kernel
theorem dX10_holdsItem_8 : decode cX10_holdsItem 8 = .ok (.getfield 77, 3) := by decide +kernel
theorem dX10_holdsItem_11 : decode cX10_holdsItem 11 = .ok (.iload_n 1, 1) := by decide +kernel
theorem dX10_holdsItem_12 : decode cX10_holdsItem 12 = .ok (.iaload, 1) := by decide +kernel
theorem dX10_holdsItem_13 : decode cX10_holdsItem 13 = .ok (.tableswitch 160 0 8 #[51, 59, 67, 75, 75, 99, 99, 123, 150], 51) := by decide +kernel
theorem dX10_holdsItem_64 : decode cX10_holdsItem 64 = .ok (.aload_n 0, 1) := by decide +kernel
theorem dX10_holdsItem_65 : decode cX10_holdsItem 65 = .ok (.iload_n 2, 1) := by decide +kernel
theorem dX10_holdsItem_66 : decode cX10_holdsItem 66 = .ok (.putfield 96, 3) := by decide +kernel
theorem dX10_holdsItem_69 : decode cX10_holdsItem 69 = .ok (.goto 124, 3) := by decide +kernel
theorem dX10_holdsItem_72 : decode cX10_holdsItem 72 = .ok (.aload_n 0, 1) := by decide +kernel
theorem dX10_holdsItem_73 : decode cX10_holdsItem 73 = .ok (.iload_n 2, 1) := by decide +kernel
theorem dX10_holdsItem_74 : decode cX10_holdsItem 74 = .ok (.putfield 99, 3) := by decide +kernel
theorem dX10_holdsItem_77 : decode cX10_holdsItem 77 = .ok (.goto 116, 3) := by decide +kernel
theorem dX10_holdsItem_80 : decode cX10_holdsItem 80 = .ok (.aload_n 0, 1) := by decide +kernel
theorem dX10_holdsItem_81 : decode cX10_holdsItem 81 = .ok (.iload_n 2, 1) := by decide +kernel
theorem dX10_holdsItem_82 : decode cX10_holdsItem 82 = .ok (.putfield 102, 3) := by decide +kernel
theorem dX10_holdsItem_85 : decode cX10_holdsItem 85 = .ok (.goto 108, 3) := by decide +kernel
theorem dX10_holdsItem_88 : decode cX10_holdsItem 88 = .ok (.aload_n 0, 1) := by decide +kernel
theorem dX10_holdsItem_89 : decode cX10_holdsItem 89 = .ok (.getfield 13, 3) := by decide +kernel
theorem dX10_holdsItem_92 : decode cX10_holdsItem 92 = .ok (.iload_n 2, 1) := by decide +kernel
theorem dX10_holdsItem_93 : decode cX10_holdsItem 93 = .ok (.aload_n 0, 1) := by decide +kernel
theorem dX10_holdsItem_94 : decode cX10_holdsItem 94 = .ok (.getfield 77, 3) := by decide +kernel
theorem dX10_holdsItem_97 : decode cX10_holdsItem 97 = .ok (.iload_n 1, 1) := by decide +kernel
theorem dX10_holdsItem_98 : decode cX10_holdsItem 98 = .ok (.iaload, 1) := by decide +kernel
theorem dX10_holdsItem_99 : decode cX10_holdsItem 99 = .ok (.iconst 3, 1) := by decide +kernel
theorem dX10_holdsItem_100 : decode cX10_holdsItem 100 = .ok (.if_icmp .ne 7, 3) := by decide +kernel
theorem dX10_holdsItem_103 : decode cX10_holdsItem 103 = .ok (.iconst 1, 1) := by decide +kernel
theorem dX10_holdsItem_104 : decode cX10_holdsItem 104 = .ok (.goto 4, 3) := by decide +kernel
theorem dX10_holdsItem_107 : decode cX10_holdsItem 107 = .ok (.iconst 0, 1) := by decide +kernel
theorem dX10_holdsItem_108 : decode cX10_holdsItem 108 = .ok (.iastore, 1) := by decide +kernel
theorem dX10_holdsItem_109 : decode cX10_holdsItem 109 = .ok (.goto 84, 3) := by decide +kernel
theorem dX10_holdsItem_112 : decode cX10_holdsItem 112 = .ok (.aload_n 0, 1) := by decide +kernel
theorem dX10_holdsItem_113 : decode cX10_holdsItem 113 = .ok (.getfield 16, 3) := by decide +kernel
theorem dX10_holdsItem_116 : decode cX10_holdsItem 116 = .ok (.iload_n 2, 1) := by decide +kernel
theorem dX10_holdsItem_117 : decode cX10_holdsItem 117 = .ok (.aload_n 0, 1) := by decide +kernel
theorem dX10_holdsItem_118 : decode cX10_holdsItem 118 = .ok (.getfield 77, 3) := by decide +kernel
theorem dX10_holdsItem_121 : decode cX10_holdsItem 121 = .ok (.iload_n 1, 1) := by decide +kernel
theorem dX10_holdsItem_122 : decode cX10_holdsItem 122 = .ok (.iaload, 1) := by decide +kernel
theorem dX10_holdsItem_123 : decode cX10_holdsItem 123 = .ok (.iconst 5, 1) := by decide +kernel
theorem dX10_holdsItem_124 : decode cX10_holdsItem 124 = .ok (.if_icmp .ne 7, 3) := by decide +kernel
theorem dX10_holdsItem_127 : decode cX10_holdsItem 127 = .ok (.iconst 1, 1) := by decide +kernel
theorem dX10_holdsItem_128 : decode cX10_holdsItem 128 = .ok (.goto 4, 3) := by decide +kernel
theorem dX10_holdsItem_131 : decode cX10_holdsItem 131 = .ok (.iconst 0, 1) := by decide +kernel
theorem dX10_holdsItem_132 : decode cX10_holdsItem 132 = .ok (.iastore, 1) := by decide +kernel
theorem dX10_holdsItem_133 : decode cX10_holdsItem 133 = .ok (.goto 60, 3) := by decide +kernel
theorem dX10_holdsItem_136 : decode cX10_holdsItem 136 = .ok (.aload_n 0, 1) := by decide +kernel
theorem dX10_holdsItem_137 : decode cX10_holdsItem 137 = .ok (.getfield 19, 3) := by decide +kernel
theorem dX10_holdsItem_140 : decode cX10_holdsItem 140 = .ok (.iload_n 2, 1) := by decide +kernel
theorem dX10_holdsItem_141 : decode cX10_holdsItem 141 = .ok (.aload_n 0, 1) := by decide +kernel
theorem dX10_holdsItem_142 : decode cX10_holdsItem 142 = .ok (.getfield 83, 3) := by decide +kernel
theorem dX10_holdsItem_145 : decode cX10_holdsItem 145 = .ok (.iload_n 1, 1) := by decide +kernel
theorem dX10_holdsItem_146 : decode cX10_holdsItem 146 = .ok (.iaload, 1) := by decide +kernel
theorem dX10_holdsItem_147 : decode cX10_holdsItem 147 = .ok (.iastore, 1) := by decide +kernel
theorem dX10_holdsItem_148 : decode cX10_holdsItem 148 = .ok (.aload_n 0, 1) := by decide +kernel
theorem dX10_holdsItem_149 : decode cX10_holdsItem 149 = .ok (.getfield 22, 3) := by decide +kernel
theorem dX10_holdsItem_152 : decode cX10_holdsItem 152 = .ok (.iload_n 2, 1) := by decide +kernel
theorem dX10_holdsItem_153 : decode cX10_holdsItem 153 = .ok (.aload_n 0, 1) := by decide +kernel
theorem dX10_holdsItem_154 : decode cX10_holdsItem 154 = .ok (.getfield 86, 3) := by decide +kernel
theorem dX10_holdsItem_157 : decode cX10_holdsItem 157 = .ok (.iload_n 1, 1) := by decide +kernel
theorem dX10_holdsItem_158 : decode cX10_holdsItem 158 = .ok (.iaload, 1) := by decide +kernel
theorem dX10_holdsItem_159 : decode cX10_holdsItem 159 = .ok (.iastore, 1) := by decide +kernel
theorem dX10_holdsItem_160 : decode cX10_holdsItem 160 = .ok (.goto 33, 3) := by decide +kernel
theorem dX10_holdsItem_163 : decode cX10_holdsItem 163 = .ok (.aload_n 0, 1) := by decide +kernel
theorem dX10_holdsItem_164 : decode cX10_holdsItem 164 = .ok (.getfield 19, 3) := by decide +kernel
theorem dX10_holdsItem_167 : decode cX10_holdsItem 167 = .ok (.iload_n 2, 1) := by decide +kernel
theorem dX10_holdsItem_168 : decode cX10_holdsItem 168 = .ok (.iconst (-1), 1) := by decide +kernel
theorem dX10_holdsItem_169 : decode cX10_holdsItem 169 = .ok (.iastore, 1) := by decide +kernel
theorem dX10_holdsItem_170 : decode cX10_holdsItem 170 = .ok (.goto 23, 3) := by decide +kernel
theorem dX10_holdsItem_173 : decode cX10_holdsItem 173 = .ok (.aload_n 0, 1) := by decide +kernel
theorem dX10_holdsItem_174 : decode cX10_holdsItem 174 = .ok (.aload_n 0, 1) := by decide +kernel
theorem dX10_holdsItem_175 : decode cX10_holdsItem 175 = .ok (.getfield 77, 3) := by decide +kernel
theorem dX10_holdsItem_178 : decode cX10_holdsItem 178 = .ok (.iload_n 1, 1) := by decide +kernel
theorem dX10_holdsItem_179 : decode cX10_holdsItem 179 = .ok (.iaload, 1) := by decide +kernel
theorem dX10_holdsItem_180 : decode cX10_holdsItem 180 = .ok (.bipush 9, 2) := by decide +kernel
theorem dX10_holdsItem_182 : decode cX10_holdsItem 182 = .ok (.if_icmp .ne 7, 3) := by decide +kernel
theorem dX10_holdsItem_185 : decode cX10_holdsItem 185 = .ok (.iconst 1, 1) := by decide +kernel
theorem dX10_holdsItem_186 : decode cX10_holdsItem 186 = .ok (.goto 4, 3) := by decide +kernel
theorem dX10_holdsItem_189 : decode cX10_holdsItem 189 = .ok (.iconst 0, 1) := by decide +kernel
theorem dX10_holdsItem_190 : decode cX10_holdsItem 190 = .ok (.putfield 136, 3) := by decide +kernel
theorem dX10_holdsItem_193 : decode cX10_holdsItem 193 = .ok (.return_, 1) := by decide +kernel
theorem dX10_read_0 : decode cX10_read 0 = .ok (.aload_n 0, 1) := by decide +kernel
theorem dX10_read_1 : decode cX10_read 1 = .ok (.iload_n 1, 1) := by decide +kernel
theorem dX10_read_2 : decode cX10_read 2 = .ok (.invokevirtual 225, 3) := by decide +kernel
theorem dX10_read_5 : decode cX10_read 5 = .ok (.istore_n 2, 1) := by decide +kernel
theorem dX10_read_6 : decode cX10_read 6 = .ok (.iload_n 2, 1) := by decide +kernel
theorem dX10_read_7 : decode cX10_read 7 = .ok (.ifCond .eq 9, 3) := by decide +kernel
theorem dX10_read_10 : decode cX10_read 10 = .ok (.aload_n 0, 1) := by decide +kernel
theorem dX10_read_11 : decode cX10_read 11 = .ok (.iload_n 2, 1) := by decide +kernel
theorem dX10_read_12 : decode cX10_read 12 = .ok (.invokevirtual 221, 3) := by decide +kernel
theorem dX10_read_15 : decode cX10_read 15 = .ok (.ireturn, 1) := by decide +kernel
theorem dX10_read_16 : decode cX10_read 16 = .ok (.aload_n 0, 1) := by decide +kernel
theorem dX10_read_17 : decode cX10_read 17 = .ok (.iload_n 1, 1) := by decide +kernel
theorem dX10_read_18 : decode cX10_read 18 = .ok (.putfield 245, 3) := by decide +kernel
theorem dX10_read_21 : decode cX10_read 21 = .ok (.aload_n 0, 1) := by decide +kernel
theorem dX10_read_22 : decode cX10_read 22 = .ok (.iconst (-1), 1) := by decide +kernel
theorem dX10_read_23 : decode cX10_read 23 = .ok (.putfield 89, 3) := by decide +kernel
theorem dX10_read_26 : decode cX10_read 26 = .ok (.aload_n 0, 1) := by decide +kernel
theorem dX10_read_27 : decode cX10_read 27 = .ok (.invokevirtual 285, 3) := by decide +kernel
theorem dX10_read_30 : decode cX10_read 30 = .ok (.ifCond .ne 18, 3) := by decide +kernel
theorem dX10_read_33 : decode cX10_read 33 = .ok (.aload_n 0, 1) := by decide +kernel
theorem dX10_read_34 : decode cX10_read 34 = .ok (.aload_n 0, 1) := by decide +kernel
theorem dX10_read_35 : decode cX10_read 35 = .ok (.getfield 254, 3) := by decide +kernel
theorem dX10_read_38 : decode cX10_read 38 = .ok (.putfield 89, 3) := by decide +kernel
theorem dX10_read_41 : decode cX10_read 41 = .ok (.aload_n 0, 1) := by decide +kernel
theorem dX10_read_42 : decode cX10_read 42 = .ok (.bipush (-6), 2) := by decide +kernel
theorem dX10_read_44 : decode cX10_read 44 = .ok (.invokevirtual 221, 3) := by decide +kernel
theorem dX10_read_47 : decode cX10_read 47 = .ok (.ireturn, 1) := by decide +kernel
theorem dX10_read_48 : decode cX10_read 48 = .ok (.iconst 0, 1) := by decide +kernel
theorem dX10_read_49 : decode cX10_read 49 = .ok (.istore_n 3, 1) := by decide +kernel
theorem dX10_read_50 : decode cX10_read 50 = .ok (.iload_n 3, 1) := by decide +kernel
theorem dX10_read_51 : decode cX10_read 51 = .ok (.aload_n 0, 1) := by decide +kernel
theorem dX10_read_52 : decode cX10_read 52 = .ok (.getfield 266, 3) := by decide +kernel
theorem dX10_read_55 : decode cX10_read 55 = .ok (.if_icmp .ge 14, 3) := by decide +kernel
theorem dX10_read_58 : decode cX10_read 58 = .ok (.aload_n 0, 1) := by decide +kernel
theorem dX10_read_59 : decode cX10_read 59 = .ok (.iload_n 3, 1) := by decide +kernel
theorem dX10_read_60 : decode cX10_read 60 = .ok (.invokevirtual 288, 3) := by decide +kernel
theorem dX10_read_63 : decode cX10_read 63 = .ok (.iinc 3 1, 3) := by decide +kernel
theorem dX10_read_66 : decode cX10_read 66 = .ok (.goto (-16), 3) := by decide +kernel
theorem dX10_read_69 : decode cX10_read 69 = .ok (.aload_n 0, 1) := by decide +kernel
theorem dX10_read_70 : decode cX10_read 70 = .ok (.getfield 266, 3) := by decide +kernel
theorem dX10_read_73 : decode cX10_read 73 = .ok (.ireturn, 1) := by decide +kernel
theorem dX10_fault_0 : decode cX10_fault 0 = .ok (.aload_n 0, 1) := by decide +kernel
theorem dX10_fault_1 : decode cX10_fault 1 = .ok (.getfield 89, 3) := by decide +kernel
theorem dX10_fault_4 : decode cX10_fault 4 = .ok (.ireturn, 1) := by decide +kernel
theorem dX10_put_0 : decode cX10_put 0 = .ok (.iload_n 1, 1) := by decide +kernel
theorem dX10_put_1 : decode cX10_put 1 = .ok (.ifCond .ne 12, 3) := by decide +kernel
theorem dX10_put_4 : decode cX10_put 4 = .ok (.iload_n 2, 1) := by decide +kernel
theorem dX10_put_5 : decode cX10_put 5 = .ok (.iconst 1, 1) := by decide +kernel
theorem dX10_put_6 : decode cX10_put 6 = .ok (.iconst 5, 1) := by decide +kernel
theorem dX10_put_7 : decode cX10_put 7 = .ok (.invokestatic 108, 3) := by decide +kernel
theorem dX10_put_10 : decode cX10_put 10 = .ok (.goto 38, 3) := by decide +kernel
theorem dX10_put_13 : decode cX10_put 13 = .ok (.iload_n 1, 1) := by decide +kernel
theorem dX10_put_14 : decode cX10_put 14 = .ok (.iconst 1, 1) := by decide +kernel
theorem dX10_put_15 : decode cX10_put 15 = .ok (.if_icmp .ne 12, 3) := by decide +kernel
theorem dX10_put_18 : decode cX10_put 18 = .ok (.iload_n 2, 1) := by decide +kernel
theorem dX10_put_19 : decode cX10_put 19 = .ok (.iconst 2, 1) := by decide +kernel
theorem dX10_put_20 : decode cX10_put 20 = .ok (.iconst 3, 1) := by decide +kernel
theorem dX10_put_21 : decode cX10_put 21 = .ok (.invokestatic 108, 3) := by decide +kernel
theorem dX10_put_24 : decode cX10_put 24 = .ok (.goto 24, 3) := by decide +kernel
theorem dX10_put_27 : decode cX10_put 27 = .ok (.iload_n 1, 1) := by decide +kernel
theorem dX10_put_28 : decode cX10_put 28 = .ok (.iconst 2, 1) := by decide +kernel
theorem dX10_put_29 : decode cX10_put 29 = .ok (.if_icmp .ne 13, 3) := by decide +kernel
theorem dX10_put_32 : decode cX10_put 32 = .ok (.iload_n 2, 1) := by decide +kernel
theorem dX10_put_33 : decode cX10_put 33 = .ok (.iconst 2, 1) := by decide +kernel
theorem dX10_put_34 : decode cX10_put 34 = .ok (.bipush 9, 2) := by decide +kernel
theorem dX10_put_36 : decode cX10_put 36 = .ok (.invokestatic 108, 3) := by decide +kernel
theorem dX10_put_39 : decode cX10_put 39 = .ok (.goto 9, 3) := by decide +kernel
theorem dX10_put_42 : decode cX10_put 42 = .ok (.iload_n 2, 1) := by decide +kernel
theorem dX10_put_43 : decode cX10_put 43 = .ok (.iconst 0, 1) := by decide +kernel
theorem dX10_put_44 : decode cX10_put 44 = .ok (.iconst 1, 1) := by decide +kernel
theorem dX10_put_45 : decode cX10_put 45 = .ok (.invokestatic 108, 3) := by decide +kernel
theorem dX10_put_48 : decode cX10_put 48 = .ok (.istore_n 3, 1) := by decide +kernel
theorem dX10_put_49 : decode cX10_put 49 = .ok (.iload_n 1, 1) := by decide +kernel
theorem dX10_put_50 : decode cX10_put 50 = .ok (.iconst 0, 1) := by decide +kernel
theorem dX10_put_51 : decode cX10_put 51 = .ok (.iconst 3, 1) := by decide +kernel
theorem dX10_put_52 : decode cX10_put 52 = .ok (.invokestatic 108, 3) := by decide +kernel
theorem dX10_put_55 : decode cX10_put 55 = .ok (.ifCond .ne 8, 3) := by decide +kernel
theorem dX10_put_58 : decode cX10_put 58 = .ok (.bipush (-5), 2) := by decide +kernel
theorem dX10_put_60 : decode cX10_put 60 = .ok (.goto 13, 3) := by decide +kernel
theorem dX10_put_63 : decode cX10_put 63 = .ok (.iload_n 3, 1) := by decide +kernel
theorem dX10_put_64 : decode cX10_put 64 = .ok (.ifCond .ne 8, 3) := by decide +kernel
theorem dX10_put_67 : decode cX10_put 67 = .ok (.bipush (-6), 2) := by decide +kernel
theorem dX10_put_69 : decode cX10_put 69 = .ok (.goto 4, 3) := by decide +kernel
theorem dX10_put_72 : decode cX10_put 72 = .ok (.iconst 0, 1) := by decide +kernel
theorem dX10_put_73 : decode cX10_put 73 = .ok (.istore 4, 2) := by decide +kernel
theorem dX10_put_75 : decode cX10_put 75 = .ok (.iload 4, 2) := by decide +kernel
theorem dX10_put_77 : decode cX10_put 77 = .ok (.ifCond .eq 10, 3) := by decide +kernel
theorem dX10_put_80 : decode cX10_put 80 = .ok (.aload_n 0, 1) := by decide +kernel
theorem dX10_put_81 : decode cX10_put 81 = .ok (.iload 4, 2) := by decide +kernel
theorem dX10_put_83 : decode cX10_put 83 = .ok (.invokevirtual 221, 3) := by decide +kernel
theorem dX10_put_86 : decode cX10_put 86 = .ok (.ireturn, 1) := by decide +kernel
theorem dX10_put_87 : decode cX10_put 87 = .ok (.aload_n 0, 1) := by decide +kernel
theorem dX10_put_88 : decode cX10_put 88 = .ok (.iload_n 1, 1) := by decide +kernel
theorem dX10_put_89 : decode cX10_put 89 = .ok (.invokevirtual 291, 3) := by decide +kernel
theorem dX10_put_92 : decode cX10_put 92 = .ok (.istore 5, 2) := by decide +kernel
theorem dX10_put_94 : decode cX10_put 94 = .ok (.iload_n 1, 1) := by decide +kernel
theorem dX10_put_95 : decode cX10_put 95 = .ok (.ifCond .ne 8, 3) := by decide +kernel
theorem dX10_put_98 : decode cX10_put 98 = .ok (.aload_n 0, 1) := by decide +kernel
theorem dX10_put_99 : decode cX10_put 99 = .ok (.iload_n 2, 1) := by decide +kernel
theorem dX10_put_100 : decode cX10_put 100 = .ok (.putfield 96, 3) := by decide +kernel
theorem dX10_put_103 : decode cX10_put 103 = .ok (.iload_n 1, 1) := by decide +kernel
theorem dX10_put_104 : decode cX10_put 104 = .ok (.iconst 1, 1) := by decide +kernel
theorem dX10_put_105 : decode cX10_put 105 = .ok (.if_icmp .ne 8, 3) := by decide +kernel
theorem dX10_put_108 : decode cX10_put 108 = .ok (.aload_n 0, 1) := by decide +kernel
theorem dX10_put_109 : decode cX10_put 109 = .ok (.iload_n 2, 1) := by decide +kernel
theorem dX10_put_110 : decode cX10_put 110 = .ok (.putfield 99, 3) := by decide +kernel
theorem dX10_put_113 : decode cX10_put 113 = .ok (.iload_n 1, 1) := by decide +kernel
theorem dX10_put_114 : decode cX10_put 114 = .ok (.iconst 2, 1) := by decide +kernel
theorem dX10_put_115 : decode cX10_put 115 = .ok (.if_icmp .ne 8, 3) := by decide +kernel
theorem dX10_put_118 : decode cX10_put 118 = .ok (.aload_n 0, 1) := by decide +kernel
theorem dX10_put_119 : decode cX10_put 119 = .ok (.iload_n 2, 1) := by decide +kernel
theorem dX10_put_120 : decode cX10_put 120 = .ok (.putfield 102, 3) := by decide +kernel
theorem dX10_put_123 : decode cX10_put 123 = .ok (.iload_n 1, 1) := by decide +kernel
theorem dX10_put_124 : decode cX10_put 124 = .ok (.iconst 3, 1) := by decide +kernel
theorem dX10_put_125 : decode cX10_put 125 = .ok (.if_icmp .ne 8, 3) := by decide +kernel
theorem dX10_put_128 : decode cX10_put 128 = .ok (.aload_n 0, 1) := by decide +kernel
theorem dX10_put_129 : decode cX10_put 129 = .ok (.iload_n 2, 1) := by decide +kernel
theorem dX10_put_130 : decode cX10_put 130 = .ok (.putfield 136, 3) := by decide +kernel
theorem dX10_put_133 : decode cX10_put 133 = .ok (.iload 5, 2) := by decide +kernel
theorem dX10_put_135 : decode cX10_put 135 = .ok (.ireturn, 1) := by decide +kernel
theorem dX10_vote_0 : decode cX10_vote 0 = .ok (.iload_n 1, 1) := by decide +kernel
theorem dX10_vote_1 : decode cX10_vote 1 = .ok (.iconst 1, 1) := by decide +kernel
theorem dX10_vote_2 : decode cX10_vote 2 = .ok (.iconst 5, 1) := by decide +kernel
theorem dX10_vote_3 : decode cX10_vote 3 = .ok (.invokestatic 108, 3) := by decide +kernel
theorem dX10_vote_6 : decode cX10_vote 6 = .ok (.ifCond .ne 9, 3) := by decide +kernel
theorem dX10_vote_9 : decode cX10_vote 9 = .ok (.aload_n 0, 1) := by decide +kernel
theorem dX10_vote_10 : decode cX10_vote 10 = .ok (.iconst (-1), 1) := by decide +kernel
theorem dX10_vote_11 : decode cX10_vote 11 = .ok (.invokevirtual 221, 3) := by decide +kernel
theorem dX10_vote_14 : decode cX10_vote 14 = .ok (.ireturn, 1) := by decide +kernel
theorem dX10_vote_15 : decode cX10_vote 15 = .ok (.aload_n 0, 1) := by decide +kernel
theorem dX10_vote_16 : decode cX10_vote 16 = .ok (.getfield 13, 3) := by decide +kernel
theorem dX10_vote_19 : decode cX10_vote 19 = .ok (.iload_n 1, 1) := by decide +kernel
theorem dX10_vote_20 : decode cX10_vote 20 = .ok (.iaload, 1) := by decide +kernel
theorem dX10_vote_21 : decode cX10_vote 21 = .ok (.istore_n 3, 1) := by decide +kernel
theorem dX10_vote_22 : decode cX10_vote 22 = .ok (.aload_n 0, 1) := by decide +kernel
theorem dX10_vote_23 : decode cX10_vote 23 = .ok (.getfield 13, 3) := by decide +kernel
theorem dX10_vote_26 : decode cX10_vote 26 = .ok (.iload_n 1, 1) := by decide +kernel
theorem dX10_vote_27 : decode cX10_vote 27 = .ok (.iload_n 2, 1) := by decide +kernel
theorem dX10_vote_28 : decode cX10_vote 28 = .ok (.ifCond .eq 7, 3) := by decide +kernel
theorem dX10_vote_31 : decode cX10_vote 31 = .ok (.iconst 1, 1) := by decide +kernel
theorem dX10_vote_32 : decode cX10_vote 32 = .ok (.goto 4, 3) := by decide +kernel
theorem dX10_vote_35 : decode cX10_vote 35 = .ok (.iconst 0, 1) := by decide +kernel
theorem dX10_vote_36 : decode cX10_vote 36 = .ok (.iastore, 1) := by decide +kernel
theorem dX10_vote_37 : decode cX10_vote 37 = .ok (.iload_n 3, 1) := by decide +kernel
theorem dX10_vote_38 : decode cX10_vote 38 = .ok (.ireturn, 1) := by decide +kernel
theorem dX10_lose_0 : decode cX10_lose 0 = .ok (.iload_n 1, 1) := by decide +kernel
theorem dX10_lose_1 : decode cX10_lose 1 = .ok (.iconst 0, 1) := by decide +kernel
theorem dX10_lose_2 : decode cX10_lose 2 = .ok (.bipush 59, 2) := by decide +kernel
theorem dX10_lose_4 : decode cX10_lose 4 = .ok (.invokestatic 108, 3) := by decide +kernel
theorem dX10_lose_7 : decode cX10_lose 7 = .ok (.ifCond .ne 9, 3) := by decide +kernel
theorem dX10_lose_10 : decode cX10_lose 10 = .ok (.aload_n 0, 1) := by decide +kernel
theorem dX10_lose_11 : decode cX10_lose 11 = .ok (.iconst (-1), 1) := by decide +kernel
theorem dX10_lose_12 : decode cX10_lose 12 = .ok (.invokevirtual 221, 3) := by decide +kernel
theorem dX10_lose_15 : decode cX10_lose 15 = .ok (.ireturn, 1) := by decide +kernel
theorem dX10_lose_16 : decode cX10_lose 16 = .ok (.aload_n 0, 1) := by decide +kernel
theorem dX10_lose_17 : decode cX10_lose 17 = .ok (.getfield 16, 3) := by decide +kernel
theorem dX10_lose_20 : decode cX10_lose 20 = .ok (.iload_n 1, 1) := by decide +kernel
theorem dX10_lose_21 : decode cX10_lose 21 = .ok (.iaload, 1) := by decide +kernel
theorem dX10_lose_22 : decode cX10_lose 22 = .ok (.istore_n 3, 1) := by decide +kernel
theorem dX10_lose_23 : decode cX10_lose 23 = .ok (.aload_n 0, 1) := by decide +kernel
theorem dX10_lose_24 : decode cX10_lose 24 = .ok (.getfield 16, 3) := by decide +kernel
theorem dX10_lose_27 : decode cX10_lose 27 = .ok (.iload_n 1, 1) := by decide +kernel
theorem dX10_lose_28 : decode cX10_lose 28 = .ok (.iload_n 2, 1) := by decide +kernel
theorem dX10_lose_29 : decode cX10_lose 29 = .ok (.ifCond .eq 7, 3) := by decide +kernel
theorem dX10_lose_32 : decode cX10_lose 32 = .ok (.iconst 1, 1) := by decide +kernel
theorem dX10_lose_33 : decode cX10_lose 33 = .ok (.goto 4, 3) := by decide +kernel
theorem dX10_lose_36 : decode cX10_lose 36 = .ok (.iconst 0, 1) := by decide +kernel
theorem dX10_lose_37 : decode cX10_lose 37 = .ok (.iastore, 1) := by decide +kernel
theorem dX10_lose_38 : decode cX10_lose 38 = .ok (.iload_n 3, 1) := by decide +kernel
theorem dX10_lose_39 : decode cX10_lose 39 = .ok (.ireturn, 1) := by decide +kernel
theorem dX10_down_0 : decode cX10_down 0 = .ok (.iload_n 1, 1) := by decide +kernel
theorem dX10_down_1 : decode cX10_down 1 = .ok (.iconst 0, 1) := by decide +kernel
theorem dX10_down_2 : decode cX10_down 2 = .ok (.iconst 5, 1) := by decide +kernel
theorem dX10_down_3 : decode cX10_down 3 = .ok (.invokestatic 108, 3) := by decide +kernel
theorem dX10_down_6 : decode cX10_down 6 = .ok (.ifCond .ne 7, 3) := by decide +kernel
theorem dX10_down_9 : decode cX10_down 9 = .ok (.iconst (-1), 1) := by decide +kernel
theorem dX10_down_10 : decode cX10_down 10 = .ok (.goto 17, 3) := by decide +kernel
theorem dX10_down_13 : decode cX10_down 13 = .ok (.iload_n 2, 1) := by decide +kernel
theorem dX10_down_14 : decode cX10_down 14 = .ok (.iload_n 3, 1) := by decide +kernel
theorem dX10_down_15 : decode cX10_down 15 = .ok (.invokestatic 294, 3) := by decide +kernel
theorem dX10_down_18 : decode cX10_down 18 = .ok (.ifCond .ne 8, 3) := by decide +kernel
theorem dX10_down_21 : decode cX10_down 21 = .ok (.bipush (-6), 2) := by decide +kernel
theorem dX10_down_23 : decode cX10_down 23 = .ok (.goto 4, 3) := by decide +kernel
theorem dX10_down_26 : decode cX10_down 26 = .ok (.iconst 0, 1) := by decide +kernel
theorem dX10_down_27 : decode cX10_down 27 = .ok (.istore 4, 2) := by decide +kernel
theorem dX10_down_29 : decode cX10_down 29 = .ok (.iload 4, 2) := by decide +kernel
theorem dX10_down_31 : decode cX10_down 31 = .ok (.ifCond .eq 10, 3) := by decide +kernel
theorem dX10_down_34 : decode cX10_down 34 = .ok (.aload_n 0, 1) := by decide +kernel
theorem dX10_down_35 : decode cX10_down 35 = .ok (.iload 4, 2) := by decide +kernel
theorem dX10_down_37 : decode cX10_down 37 = .ok (.invokevirtual 221, 3) := by decide +kernel
theorem dX10_down_40 : decode cX10_down 40 = .ok (.ireturn, 1) := by decide +kernel
theorem dX10_down_41 : decode cX10_down 41 = .ok (.aload_n 0, 1) := by decide +kernel
theorem dX10_down_42 : decode cX10_down 42 = .ok (.getfield 19, 3) := by decide +kernel
theorem dX10_down_45 : decode cX10_down 45 = .ok (.iload_n 1, 1) := by decide +kernel
theorem dX10_down_46 : decode cX10_down 46 = .ok (.iload_n 2, 1) := by decide +kernel
theorem dX10_down_47 : decode cX10_down 47 = .ok (.iastore, 1) := by decide +kernel
theorem dX10_down_48 : decode cX10_down 48 = .ok (.aload_n 0, 1) := by decide +kernel
theorem dX10_down_49 : decode cX10_down 49 = .ok (.getfield 22, 3) := by decide +kernel
theorem dX10_down_52 : decode cX10_down 52 = .ok (.iload_n 1, 1) := by decide +kernel
theorem dX10_down_53 : decode cX10_down 53 = .ok (.iload_n 3, 1) := by decide +kernel
theorem dX10_down_54 : decode cX10_down 54 = .ok (.iastore, 1) := by decide +kernel
theorem dX10_down_55 : decode cX10_down 55 = .ok (.iconst 1, 1) := by decide +kernel
theorem dX10_down_56 : decode cX10_down 56 = .ok (.ireturn, 1) := by decide +kernel
theorem dX10_manyLosses_0 : decode cX10_manyLosses 0 = .ok (.iconst 0, 1) := by decide +kernel
theorem dX10_manyLosses_1 : decode cX10_manyLosses 1 = .ok (.istore_n 1, 1) := by decide +kernel
theorem dX10_manyLosses_2 : decode cX10_manyLosses 2 = .ok (.iconst 0, 1) := by decide +kernel
theorem dX10_manyLosses_3 : decode cX10_manyLosses 3 = .ok (.istore_n 2, 1) := by decide +kernel
theorem dX10_manyLosses_4 : decode cX10_manyLosses 4 = .ok (.iload_n 2, 1) := by decide +kernel
theorem dX10_manyLosses_5 : decode cX10_manyLosses 5 = .ok (.bipush 60, 2) := by decide +kernel
theorem dX10_manyLosses_7 : decode cX10_manyLosses 7 = .ok (.if_icmp .ge 18, 3) := by decide +kernel
theorem dX10_manyLosses_10 : decode cX10_manyLosses 10 = .ok (.iload_n 1, 1) := by decide +kernel
theorem dX10_manyLosses_11 : decode cX10_manyLosses 11 = .ok (.aload_n 0, 1) := by decide +kernel
theorem dX10_manyLosses_12 : decode cX10_manyLosses 12 = .ok (.getfield 16, 3) := by decide +kernel
theorem dX10_manyLosses_15 : decode cX10_manyLosses 15 = .ok (.iload_n 2, 1) := by decide +kernel
theorem dX10_manyLosses_16 : decode cX10_manyLosses 16 = .ok (.iaload, 1) := by decide +kernel
theorem dX10_manyLosses_17 : decode cX10_manyLosses 17 = .ok (.iadd, 1) := by decide +kernel
theorem dX10_manyLosses_18 : decode cX10_manyLosses 18 = .ok (.istore_n 1, 1) := by decide +kernel
theorem dX10_manyLosses_19 : decode cX10_manyLosses 19 = .ok (.iinc 2 1, 3) := by decide +kernel
theorem dX10_manyLosses_22 : decode cX10_manyLosses 22 = .ok (.goto (-18), 3) := by decide +kernel
theorem dX10_manyLosses_25 : decode cX10_manyLosses 25 = .ok (.iload_n 1, 1) := by decide +kernel
theorem dX10_manyLosses_26 : decode cX10_manyLosses 26 = .ok (.ireturn, 1) := by decide +kernel
theorem dX10_setOf_0 : decode cX10_setOf 0 = .ok (.iconst 0, 1) := by decide +kernel
theorem dX10_setOf_1 : decode cX10_setOf 1 = .ok (.istore_n 2, 1) := by decide +kernel
theorem dX10_setOf_2 : decode cX10_setOf 2 = .ok (.iload_n 1, 1) := by decide +kernel
theorem dX10_setOf_3 : decode cX10_setOf 3 = .ok (.ifCond .eq 7, 3) := by decide +kernel
theorem dX10_setOf_6 : decode cX10_setOf 6 = .ok (.iconst 1, 1) := by decide +kernel
theorem dX10_setOf_7 : decode cX10_setOf 7 = .ok (.goto 4, 3) := by decide +kernel
theorem dX10_setOf_10 : decode cX10_setOf 10 = .ok (.iconst 0, 1) := by decide +kernel
theorem dX10_setOf_11 : decode cX10_setOf 11 = .ok (.istore_n 3, 1) := by decide +kernel
theorem dX10_setOf_12 : decode cX10_setOf 12 = .ok (.iload_n 3, 1) := by decide +kernel
theorem dX10_setOf_13 : decode cX10_setOf 13 = .ok (.aload_n 0, 1) := by decide +kernel
theorem dX10_setOf_14 : decode cX10_setOf 14 = .ok (.getfield 96, 3) := by decide +kernel
theorem dX10_setOf_17 : decode cX10_setOf 17 = .ok (.if_icmp .gt 46, 3) := by decide +kernel
theorem dX10_setOf_20 : decode cX10_setOf 20 = .ok (.iload_n 2, 1) := by decide +kernel
theorem dX10_setOf_21 : decode cX10_setOf 21 = .ok (.iload_n 1, 1) := by decide +kernel
theorem dX10_setOf_22 : decode cX10_setOf 22 = .ok (.ifCond .eq 16, 3) := by decide +kernel
theorem dX10_setOf_25 : decode cX10_setOf 25 = .ok (.aload_n 0, 1) := by decide +kernel
theorem dX10_setOf_26 : decode cX10_setOf 26 = .ok (.getfield 13, 3) := by decide +kernel
theorem dX10_setOf_29 : decode cX10_setOf 29 = .ok (.iload_n 3, 1) := by decide +kernel
theorem dX10_setOf_30 : decode cX10_setOf 30 = .ok (.iaload, 1) := by decide +kernel
theorem dX10_setOf_31 : decode cX10_setOf 31 = .ok (.iconst 1, 1) := by decide +kernel
theorem dX10_setOf_32 : decode cX10_setOf 32 = .ok (.if_icmp .ne 22, 3) := by decide +kernel
theorem dX10_setOf_35 : decode cX10_setOf 35 = .ok (.goto 13, 3) := by decide +kernel
theorem dX10_setOf_38 : decode cX10_setOf 38 = .ok (.aload_n 0, 1) := by decide +kernel
theorem dX10_setOf_39 : decode cX10_setOf 39 = .ok (.getfield 19, 3) := by decide +kernel
theorem dX10_setOf_42 : decode cX10_setOf 42 = .ok (.iload_n 3, 1) := by decide +kernel
theorem dX10_setOf_43 : decode cX10_setOf 43 = .ok (.iaload, 1) := by decide +kernel
theorem dX10_setOf_44 : decode cX10_setOf 44 = .ok (.iconst (-1), 1) := by decide +kernel
theorem dX10_setOf_45 : decode cX10_setOf 45 = .ok (.if_icmp .eq 9, 3) := by decide +kernel
theorem dX10_setOf_48 : decode cX10_setOf 48 = .ok (.iconst 1, 1) := by decide +kernel
theorem dX10_setOf_49 : decode cX10_setOf 49 = .ok (.iload_n 3, 1) := by decide +kernel
theorem dX10_setOf_50 : decode cX10_setOf 50 = .ok (.ishl, 1) := by decide +kernel
theorem dX10_setOf_51 : decode cX10_setOf 51 = .ok (.goto 4, 3) := by decide +kernel
theorem dX10_setOf_54 : decode cX10_setOf 54 = .ok (.iconst 0, 1) := by decide +kernel
theorem dX10_setOf_55 : decode cX10_setOf 55 = .ok (.ior, 1) := by decide +kernel
theorem dX10_setOf_56 : decode cX10_setOf 56 = .ok (.istore_n 2, 1) := by decide +kernel
theorem dX10_setOf_57 : decode cX10_setOf 57 = .ok (.iinc 3 1, 3) := by decide +kernel
theorem dX10_setOf_60 : decode cX10_setOf 60 = .ok (.goto (-48), 3) := by decide +kernel
theorem dX10_setOf_63 : decode cX10_setOf 63 = .ok (.iload_n 2, 1) := by decide +kernel
theorem dX10_setOf_64 : decode cX10_setOf 64 = .ok (.ireturn, 1) := by decide +kernel
theorem dX10_told_0 : decode cX10_told 0 = .ok (.iload_n 1, 1) := by decide +kernel
theorem dX10_told_1 : decode cX10_told 1 = .ok (.tableswitch 89 0 7 #[47, 52, 57, 62, 67, 73, 78, 84], 47) := by decide +kernel
theorem dX10_told_48 : decode cX10_told 48 = .ok (.aload_n 0, 1) := by decide +kernel
theorem dX10_told_49 : decode cX10_told 49 = .ok (.getfield 96, 3) := by decide +kernel
theorem dX10_told_52 : decode cX10_told 52 = .ok (.ireturn, 1) := by decide +kernel
theorem dX10_told_53 : decode cX10_told 53 = .ok (.aload_n 0, 1) := by decide +kernel
theorem dX10_told_54 : decode cX10_told 54 = .ok (.getfield 99, 3) := by decide +kernel
theorem dX10_told_57 : decode cX10_told 57 = .ok (.ireturn, 1) := by decide +kernel
theorem dX10_told_58 : decode cX10_told 58 = .ok (.aload_n 0, 1) := by decide +kernel
theorem dX10_told_59 : decode cX10_told 59 = .ok (.getfield 102, 3) := by decide +kernel
theorem dX10_told_62 : decode cX10_told 62 = .ok (.ireturn, 1) := by decide +kernel
theorem dX10_told_63 : decode cX10_told 63 = .ok (.aload_n 0, 1) := by decide +kernel
theorem dX10_told_64 : decode cX10_told 64 = .ok (.getfield 136, 3) := by decide +kernel
theorem dX10_told_67 : decode cX10_told 67 = .ok (.ireturn, 1) := by decide +kernel
theorem dX10_told_68 : decode cX10_told 68 = .ok (.aload_n 0, 1) := by decide +kernel
theorem dX10_told_69 : decode cX10_told 69 = .ok (.iconst 1, 1) := by decide +kernel
theorem dX10_told_70 : decode cX10_told 70 = .ok (.invokevirtual 297, 3) := by decide +kernel
theorem dX10_told_73 : decode cX10_told 73 = .ok (.ireturn, 1) := by decide +kernel
theorem dX10_told_74 : decode cX10_told 74 = .ok (.aload_n 0, 1) := by decide +kernel
theorem dX10_told_75 : decode cX10_told 75 = .ok (.invokevirtual 301, 3) := by decide +kernel
theorem dX10_told_78 : decode cX10_told 78 = .ok (.ireturn, 1) := by decide +kernel
theorem dX10_told_79 : decode cX10_told 79 = .ok (.aload_n 0, 1) := by decide +kernel
theorem dX10_told_80 : decode cX10_told 80 = .ok (.iconst 0, 1) := by decide +kernel
theorem dX10_told_81 : decode cX10_told 81 = .ok (.invokevirtual 297, 3) := by decide +kernel
theorem dX10_told_84 : decode cX10_told 84 = .ok (.ireturn, 1) := by decide +kernel
theorem dX10_told_85 : decode cX10_told 85 = .ok (.aload_n 0, 1) := by decide +kernel
theorem dX10_told_86 : decode cX10_told 86 = .ok (.getfield 105, 3) := by decide +kernel
theorem dX10_told_89 : decode cX10_told 89 = .ok (.ireturn, 1) := by decide +kernel
theorem dX10_told_90 : decode cX10_told 90 = .ok (.aload_n 0, 1) := by decide +kernel
theorem dX10_told_91 : decode cX10_told 91 = .ok (.bipush (-5), 2) := by decide +kernel
theorem dX10_told_93 : decode cX10_told 93 = .ok (.invokevirtual 221, 3) := by decide +kernel
theorem dX10_told_96 : decode cX10_told 96 = .ok (.ireturn, 1) := by decide +kernel
theorem dX10_notThen_0 : decode cX10_notThen 0 = .ok (.aload_n 0, 1) := by decide +kernel
theorem dX10_notThen_1 : decode cX10_notThen 1 = .ok (.iload_n 2, 1) := by decide +kernel
theorem dX10_notThen_2 : decode cX10_notThen 2 = .ok (.invokevirtual 304, 3) := by decide +kernel
theorem dX10_notThen_5 : decode cX10_notThen 5 = .ok (.ifCond .ne 7, 3) := by decide +kernel
theorem dX10_notThen_8 : decode cX10_notThen 8 = .ok (.iconst (-1), 1) := by decide +kernel
theorem dX10_notThen_9 : decode cX10_notThen 9 = .ok (.goto 16, 3) := by decide +kernel
theorem dX10_notThen_12 : decode cX10_notThen 12 = .ok (.iload_n 1, 1) := by decide +kernel
theorem dX10_notThen_13 : decode cX10_notThen 13 = .ok (.invokestatic 307, 3) := by decide +kernel
theorem dX10_notThen_16 : decode cX10_notThen 16 = .ok (.ifCond .ne 8, 3) := by decide +kernel
theorem dX10_notThen_19 : decode cX10_notThen 19 = .ok (.bipush (-6), 2) := by decide +kernel
theorem dX10_notThen_21 : decode cX10_notThen 21 = .ok (.goto 4, 3) := by decide +kernel
theorem dX10_notThen_24 : decode cX10_notThen 24 = .ok (.iconst 0, 1) := by decide +kernel
theorem dX10_notThen_25 : decode cX10_notThen 25 = .ok (.ireturn, 1) := by decide +kernel
theorem dX10_state_0 : decode cX10_state 0 = .ok (.aload_n 0, 1) := by decide +kernel
theorem dX10_state_1 : decode cX10_state 1 = .ok (.iload_n 1, 1) := by decide +kernel
theorem dX10_state_2 : decode cX10_state 2 = .ok (.iload_n 2, 1) := by decide +kernel
theorem dX10_state_3 : decode cX10_state 3 = .ok (.invokevirtual 310, 3) := by decide +kernel
theorem dX10_state_6 : decode cX10_state 6 = .ok (.istore_n 3, 1) := by decide +kernel
theorem dX10_state_7 : decode cX10_state 7 = .ok (.iload_n 3, 1) := by decide +kernel
theorem dX10_state_8 : decode cX10_state 8 = .ok (.ifCond .eq 9, 3) := by decide +kernel
theorem dX10_state_11 : decode cX10_state 11 = .ok (.aload_n 0, 1) := by decide +kernel
theorem dX10_state_12 : decode cX10_state 12 = .ok (.iload_n 3, 1) := by decide +kernel
theorem dX10_state_13 : decode cX10_state 13 = .ok (.invokevirtual 221, 3) := by decide +kernel
theorem dX10_state_16 : decode cX10_state 16 = .ok (.ireturn, 1) := by decide +kernel
theorem dX10_state_17 : decode cX10_state 17 = .ok (.aload_n 0, 1) := by decide +kernel
theorem dX10_state_18 : decode cX10_state 18 = .ok (.invokevirtual 239, 3) := by decide +kernel
theorem dX10_state_21 : decode cX10_state 21 = .ok (.aload_n 0, 1) := by decide +kernel
theorem dX10_state_22 : decode cX10_state 22 = .ok (.getfield 58, 3) := by decide +kernel
theorem dX10_state_25 : decode cX10_state 25 = .ok (.bipush 6, 2) := by decide +kernel
theorem dX10_state_27 : decode cX10_state 27 = .ok (.iload_n 1, 1) := by decide +kernel
theorem dX10_state_28 : decode cX10_state 28 = .ok (.imul, 1) := by decide +kernel
theorem dX10_state_29 : decode cX10_state 29 = .ok (.iload_n 2, 1) := by decide +kernel
theorem dX10_state_30 : decode cX10_state 30 = .ok (.iadd, 1) := by decide +kernel
theorem dX10_state_31 : decode cX10_state 31 = .ok (.iaload, 1) := by decide +kernel
theorem dX10_state_32 : decode cX10_state 32 = .ok (.ireturn, 1) := by decide +kernel
theorem dX10_hasNoted_0 : decode cX10_hasNoted 0 = .ok (.iconst 0, 1) := by decide +kernel
theorem dX10_hasNoted_1 : decode cX10_hasNoted 1 = .ok (.istore 4, 2) := by decide +kernel
theorem dX10_hasNoted_3 : decode cX10_hasNoted 3 = .ok (.iload 4, 2) := by decide +kernel
theorem dX10_hasNoted_5 : decode cX10_hasNoted 5 = .ok (.aload_n 0, 1) := by decide +kernel
theorem dX10_hasNoted_6 : decode cX10_hasNoted 6 = .ok (.getfield 61, 3) := by decide +kernel
theorem dX10_hasNoted_9 : decode cX10_hasNoted 9 = .ok (.bipush 6, 2) := by decide +kernel
theorem dX10_hasNoted_11 : decode cX10_hasNoted 11 = .ok (.iload_n 1, 1) := by decide +kernel
theorem dX10_hasNoted_12 : decode cX10_hasNoted 12 = .ok (.imul, 1) := by decide +kernel
theorem dX10_hasNoted_13 : decode cX10_hasNoted 13 = .ok (.iload_n 2, 1) := by decide +kernel
theorem dX10_hasNoted_14 : decode cX10_hasNoted 14 = .ok (.iadd, 1) := by decide +kernel
theorem dX10_hasNoted_15 : decode cX10_hasNoted 15 = .ok (.iaload, 1) := by decide +kernel
theorem dX10_hasNoted_16 : decode cX10_hasNoted 16 = .ok (.if_icmp .ge 27, 3) := by decide +kernel
theorem dX10_hasNoted_19 : decode cX10_hasNoted 19 = .ok (.aload_n 0, 1) := by decide +kernel
theorem dX10_hasNoted_20 : decode cX10_hasNoted 20 = .ok (.getfield 34, 3) := by decide +kernel
theorem dX10_hasNoted_23 : decode cX10_hasNoted 23 = .ok (.bipush 20, 2) := by decide +kernel
theorem dX10_hasNoted_25 : decode cX10_hasNoted 25 = .ok (.iload_n 2, 1) := by decide +kernel
theorem dX10_hasNoted_26 : decode cX10_hasNoted 26 = .ok (.imul, 1) := by decide +kernel
theorem dX10_hasNoted_27 : decode cX10_hasNoted 27 = .ok (.iload 4, 2) := by decide +kernel
theorem dX10_hasNoted_29 : decode cX10_hasNoted 29 = .ok (.iadd, 1) := by decide +kernel
theorem dX10_hasNoted_30 : decode cX10_hasNoted 30 = .ok (.iaload, 1) := by decide +kernel
theorem dX10_hasNoted_31 : decode cX10_hasNoted 31 = .ok (.iload_n 3, 1) := by decide +kernel
theorem dX10_hasNoted_32 : decode cX10_hasNoted 32 = .ok (.if_icmp .ne 5, 3) := by decide +kernel
theorem dX10_hasNoted_35 : decode cX10_hasNoted 35 = .ok (.iconst 1, 1) := by decide +kernel
theorem dX10_hasNoted_36 : decode cX10_hasNoted 36 = .ok (.ireturn, 1) := by decide +kernel
theorem dX10_hasNoted_37 : decode cX10_hasNoted 37 = .ok (.iinc 4 1, 3) := by decide +kernel
theorem dX10_hasNoted_40 : decode cX10_hasNoted 40 = .ok (.goto (-37), 3) := by decide +kernel
theorem dX10_hasNoted_43 : decode cX10_hasNoted 43 = .ok (.iconst 0, 1) := by decide +kernel
theorem dX10_hasNoted_44 : decode cX10_hasNoted 44 = .ok (.ireturn, 1) := by decide +kernel
theorem dX10_decidedAt_0 : decode cX10_decidedAt 0 = .ok (.aload_n 0, 1) := by decide +kernel
theorem dX10_decidedAt_1 : decode cX10_decidedAt 1 = .ok (.iload_n 1, 1) := by decide +kernel
theorem dX10_decidedAt_2 : decode cX10_decidedAt 2 = .ok (.iload_n 2, 1) := by decide +kernel
theorem dX10_decidedAt_3 : decode cX10_decidedAt 3 = .ok (.iconst 4, 1) := by decide +kernel
theorem dX10_decidedAt_4 : decode cX10_decidedAt 4 = .ok (.invokevirtual 313, 3) := by decide +kernel
theorem dX10_decidedAt_7 : decode cX10_decidedAt 7 = .ok (.ifCond .eq 5, 3) := by decide +kernel
theorem dX10_decidedAt_10 : decode cX10_decidedAt 10 = .ok (.iconst 1, 1) := by decide +kernel
theorem dX10_decidedAt_11 : decode cX10_decidedAt 11 = .ok (.ireturn, 1) := by decide +kernel
theorem dX10_decidedAt_12 : decode cX10_decidedAt 12 = .ok (.aload_n 0, 1) := by decide +kernel
theorem dX10_decidedAt_13 : decode cX10_decidedAt 13 = .ok (.iload_n 1, 1) := by decide +kernel
theorem dX10_decidedAt_14 : decode cX10_decidedAt 14 = .ok (.iload_n 2, 1) := by decide +kernel
theorem dX10_decidedAt_15 : decode cX10_decidedAt 15 = .ok (.iconst 5, 1) := by decide +kernel
theorem dX10_decidedAt_16 : decode cX10_decidedAt 16 = .ok (.invokevirtual 313, 3) := by decide +kernel
theorem dX10_decidedAt_19 : decode cX10_decidedAt 19 = .ok (.ifCond .eq 5, 3) := by decide +kernel
theorem dX10_decidedAt_22 : decode cX10_decidedAt 22 = .ok (.iconst 2, 1) := by decide +kernel
theorem dX10_decidedAt_23 : decode cX10_decidedAt 23 = .ok (.ireturn, 1) := by decide +kernel
theorem dX10_decidedAt_24 : decode cX10_decidedAt 24 = .ok (.iload_n 2, 1) := by decide +kernel
theorem dX10_decidedAt_25 : decode cX10_decidedAt 25 = .ok (.ifCond .ne 28, 3) := by decide +kernel
theorem dX10_decidedAt_28 : decode cX10_decidedAt 28 = .ok (.aload_n 0, 1) := by decide +kernel
theorem dX10_decidedAt_29 : decode cX10_decidedAt 29 = .ok (.getfield 136, 3) := by decide +kernel
theorem dX10_decidedAt_32 : decode cX10_decidedAt 32 = .ok (.iconst 1, 1) := by decide +kernel
theorem dX10_decidedAt_33 : decode cX10_decidedAt 33 = .ok (.if_icmp .ne 20, 3) := by decide +kernel
theorem dX10_decidedAt_36 : decode cX10_decidedAt 36 = .ok (.aload_n 0, 1) := by decide +kernel
theorem dX10_decidedAt_37 : decode cX10_decidedAt 37 = .ok (.getfield 58, 3) := by decide +kernel
theorem dX10_decidedAt_40 : decode cX10_decidedAt 40 = .ok (.bipush 6, 2) := by decide +kernel
theorem dX10_decidedAt_42 : decode cX10_decidedAt 42 = .ok (.iload_n 1, 1) := by decide +kernel
theorem dX10_decidedAt_43 : decode cX10_decidedAt 43 = .ok (.imul, 1) := by decide +kernel
theorem dX10_decidedAt_44 : decode cX10_decidedAt 44 = .ok (.iaload, 1) := by decide +kernel
theorem dX10_decidedAt_45 : decode cX10_decidedAt 45 = .ok (.iconst 5, 1) := by decide +kernel
theorem dX10_decidedAt_46 : decode cX10_decidedAt 46 = .ok (.if_icmp .ne 7, 3) := by decide +kernel
theorem dX10_decidedAt_49 : decode cX10_decidedAt 49 = .ok (.iconst 2, 1) := by decide +kernel
theorem dX10_decidedAt_50 : decode cX10_decidedAt 50 = .ok (.goto 4, 3) := by decide +kernel
theorem dX10_decidedAt_53 : decode cX10_decidedAt 53 = .ok (.iconst 0, 1) := by decide +kernel
theorem dX10_decidedAt_54 : decode cX10_decidedAt 54 = .ok (.ireturn, 1) := by decide +kernel
theorem dX10_decided_0 : decode cX10_decided 0 = .ok (.aload_n 0, 1) := by decide +kernel
theorem dX10_decided_1 : decode cX10_decided 1 = .ok (.iload_n 1, 1) := by decide +kernel
theorem dX10_decided_2 : decode cX10_decided 2 = .ok (.iload_n 2, 1) := by decide +kernel
theorem dX10_decided_3 : decode cX10_decided 3 = .ok (.invokevirtual 310, 3) := by decide +kernel
theorem dX10_decided_6 : decode cX10_decided 6 = .ok (.istore_n 3, 1) := by decide +kernel
theorem dX10_decided_7 : decode cX10_decided 7 = .ok (.iload_n 3, 1) := by decide +kernel
theorem dX10_decided_8 : decode cX10_decided 8 = .ok (.ifCond .eq 9, 3) := by decide +kernel
theorem dX10_decided_11 : decode cX10_decided 11 = .ok (.aload_n 0, 1) := by decide +kernel
theorem dX10_decided_12 : decode cX10_decided 12 = .ok (.iload_n 3, 1) := by decide +kernel
theorem dX10_decided_13 : decode cX10_decided 13 = .ok (.invokevirtual 221, 3) := by decide +kernel
theorem dX10_decided_16 : decode cX10_decided 16 = .ok (.ireturn, 1) := by decide +kernel
theorem dX10_decided_17 : decode cX10_decided 17 = .ok (.aload_n 0, 1) := by decide +kernel
theorem dX10_decided_18 : decode cX10_decided 18 = .ok (.invokevirtual 239, 3) := by decide +kernel
theorem dX10_decided_21 : decode cX10_decided 21 = .ok (.aload_n 0, 1) := by decide +kernel
theorem dX10_decided_22 : decode cX10_decided 22 = .ok (.iload_n 1, 1) := by decide +kernel
theorem dX10_decided_23 : decode cX10_decided 23 = .ok (.iload_n 2, 1) := by decide +kernel
theorem dX10_decided_24 : decode cX10_decided 24 = .ok (.invokevirtual 316, 3) := by decide +kernel
theorem dX10_decided_27 : decode cX10_decided 27 = .ok (.ireturn, 1) := by decide +kernel
theorem dX10_records_0 : decode cX10_records 0 = .ok (.aload_n 0, 1) := by decide +kernel
theorem dX10_records_1 : decode cX10_records 1 = .ok (.iload_n 1, 1) := by decide +kernel
theorem dX10_records_2 : decode cX10_records 2 = .ok (.iload_n 2, 1) := by decide +kernel
theorem dX10_records_3 : decode cX10_records 3 = .ok (.invokevirtual 310, 3) := by decide +kernel
theorem dX10_records_6 : decode cX10_records 6 = .ok (.istore_n 3, 1) := by decide +kernel
theorem dX10_records_7 : decode cX10_records 7 = .ok (.iload_n 3, 1) := by decide +kernel
theorem dX10_records_8 : decode cX10_records 8 = .ok (.ifCond .eq 9, 3) := by decide +kernel
theorem dX10_records_11 : decode cX10_records 11 = .ok (.aload_n 0, 1) := by decide +kernel
theorem dX10_records_12 : decode cX10_records 12 = .ok (.iload_n 3, 1) := by decide +kernel
theorem dX10_records_13 : decode cX10_records 13 = .ok (.invokevirtual 221, 3) := by decide +kernel
theorem dX10_records_16 : decode cX10_records 16 = .ok (.ireturn, 1) := by decide +kernel
theorem dX10_records_17 : decode cX10_records 17 = .ok (.aload_n 0, 1) := by decide +kernel
theorem dX10_records_18 : decode cX10_records 18 = .ok (.invokevirtual 239, 3) := by decide +kernel
theorem dX10_records_21 : decode cX10_records 21 = .ok (.aload_n 0, 1) := by decide +kernel
theorem dX10_records_22 : decode cX10_records 22 = .ok (.getfield 61, 3) := by decide +kernel
theorem dX10_records_25 : decode cX10_records 25 = .ok (.bipush 6, 2) := by decide +kernel
theorem dX10_records_27 : decode cX10_records 27 = .ok (.iload_n 1, 1) := by decide +kernel
theorem dX10_records_28 : decode cX10_records 28 = .ok (.imul, 1) := by decide +kernel
theorem dX10_records_29 : decode cX10_records 29 = .ok (.iload_n 2, 1) := by decide +kernel
theorem dX10_records_30 : decode cX10_records 30 = .ok (.iadd, 1) := by decide +kernel
theorem dX10_records_31 : decode cX10_records 31 = .ok (.iaload, 1) := by decide +kernel
theorem dX10_records_32 : decode cX10_records 32 = .ok (.ireturn, 1) := by decide +kernel
theorem dX10_record_0 : decode cX10_record 0 = .ok (.aload_n 0, 1) := by decide +kernel
theorem dX10_record_1 : decode cX10_record 1 = .ok (.iload_n 1, 1) := by decide +kernel
theorem dX10_record_2 : decode cX10_record 2 = .ok (.invokevirtual 304, 3) := by decide +kernel
theorem dX10_record_5 : decode cX10_record 5 = .ok (.ifCond .ne 9, 3) := by decide +kernel
theorem dX10_record_8 : decode cX10_record 8 = .ok (.aload_n 0, 1) := by decide +kernel
theorem dX10_record_9 : decode cX10_record 9 = .ok (.iconst (-1), 1) := by decide +kernel
theorem dX10_record_10 : decode cX10_record 10 = .ok (.invokevirtual 221, 3) := by decide +kernel
theorem dX10_record_13 : decode cX10_record 13 = .ok (.ireturn, 1) := by decide +kernel
theorem dX10_record_14 : decode cX10_record 14 = .ok (.aload_n 0, 1) := by decide +kernel
theorem dX10_record_15 : decode cX10_record 15 = .ok (.invokevirtual 239, 3) := by decide +kernel
theorem dX10_record_18 : decode cX10_record 18 = .ok (.iload_n 2, 1) := by decide +kernel
theorem dX10_record_19 : decode cX10_record 19 = .ok (.iconst 0, 1) := by decide +kernel
theorem dX10_record_20 : decode cX10_record 20 = .ok (.aload_n 0, 1) := by decide +kernel
theorem dX10_record_21 : decode cX10_record 21 = .ok (.getfield 37, 3) := by decide +kernel
theorem dX10_record_24 : decode cX10_record 24 = .ok (.iload_n 1, 1) := by decide +kernel
theorem dX10_record_25 : decode cX10_record 25 = .ok (.iaload, 1) := by decide +kernel
theorem dX10_record_26 : decode cX10_record 26 = .ok (.iconst 1, 1) := by decide +kernel
theorem dX10_record_27 : decode cX10_record 27 = .ok (.isub, 1) := by decide +kernel
theorem dX10_record_28 : decode cX10_record 28 = .ok (.invokestatic 108, 3) := by decide +kernel
theorem dX10_record_31 : decode cX10_record 31 = .ok (.ifCond .eq 17, 3) := by decide +kernel
theorem dX10_record_34 : decode cX10_record 34 = .ok (.aload_n 0, 1) := by decide +kernel
theorem dX10_record_35 : decode cX10_record 35 = .ok (.getfield 34, 3) := by decide +kernel
theorem dX10_record_38 : decode cX10_record 38 = .ok (.bipush 20, 2) := by decide +kernel
theorem dX10_record_40 : decode cX10_record 40 = .ok (.iload_n 1, 1) := by decide +kernel
theorem dX10_record_41 : decode cX10_record 41 = .ok (.imul, 1) := by decide +kernel
theorem dX10_record_42 : decode cX10_record 42 = .ok (.iload_n 2, 1) := by decide +kernel
theorem dX10_record_43 : decode cX10_record 43 = .ok (.iadd, 1) := by decide +kernel
theorem dX10_record_44 : decode cX10_record 44 = .ok (.iaload, 1) := by decide +kernel
theorem dX10_record_45 : decode cX10_record 45 = .ok (.goto 9, 3) := by decide +kernel
theorem dX10_record_48 : decode cX10_record 48 = .ok (.aload_n 0, 1) := by decide +kernel
theorem dX10_record_49 : decode cX10_record 49 = .ok (.bipush (-5), 2) := by decide +kernel
theorem dX10_record_51 : decode cX10_record 51 = .ok (.invokevirtual 221, 3) := by decide +kernel
theorem dX10_record_54 : decode cX10_record 54 = .ok (.ireturn, 1) := by decide +kernel
theorem dX10_sent_0 : decode cX10_sent 0 = .ok (.iload_n 1, 1) := by decide +kernel
theorem dX10_sent_1 : decode cX10_sent 1 = .ok (.invokestatic 307, 3) := by decide +kernel
theorem dX10_sent_4 : decode cX10_sent 4 = .ok (.ifCond .ne 10, 3) := by decide +kernel
theorem dX10_sent_7 : decode cX10_sent 7 = .ok (.aload_n 0, 1) := by decide +kernel
theorem dX10_sent_8 : decode cX10_sent 8 = .ok (.bipush (-6), 2) := by decide +kernel
theorem dX10_sent_10 : decode cX10_sent 10 = .ok (.invokevirtual 221, 3) := by decide +kernel
theorem dX10_sent_13 : decode cX10_sent 13 = .ok (.ireturn, 1) := by decide +kernel
theorem dX10_sent_14 : decode cX10_sent 14 = .ok (.aload_n 0, 1) := by decide +kernel
theorem dX10_sent_15 : decode cX10_sent 15 = .ok (.invokevirtual 239, 3) := by decide +kernel
theorem dX10_sent_18 : decode cX10_sent 18 = .ok (.aload_n 0, 1) := by decide +kernel
theorem dX10_sent_19 : decode cX10_sent 19 = .ok (.getfield 64, 3) := by decide +kernel
theorem dX10_sent_22 : decode cX10_sent 22 = .ok (.iload_n 1, 1) := by decide +kernel
theorem dX10_sent_23 : decode cX10_sent 23 = .ok (.iaload, 1) := by decide +kernel
theorem dX10_sent_24 : decode cX10_sent 24 = .ok (.ireturn, 1) := by decide +kernel
theorem dX10_message_0 : decode cX10_message 0 = .ok (.aload_n 0, 1) := by decide +kernel
theorem dX10_message_1 : decode cX10_message 1 = .ok (.invokevirtual 239, 3) := by decide +kernel
theorem dX10_message_4 : decode cX10_message 4 = .ok (.iload_n 1, 1) := by decide +kernel
theorem dX10_message_5 : decode cX10_message 5 = .ok (.iconst 0, 1) := by decide +kernel
theorem dX10_message_6 : decode cX10_message 6 = .ok (.aload_n 0, 1) := by decide +kernel
theorem dX10_message_7 : decode cX10_message 7 = .ok (.getfield 112, 3) := by decide +kernel
theorem dX10_message_10 : decode cX10_message 10 = .ok (.iconst 1, 1) := by decide +kernel
theorem dX10_message_11 : decode cX10_message 11 = .ok (.isub, 1) := by decide +kernel
theorem dX10_message_12 : decode cX10_message 12 = .ok (.invokestatic 108, 3) := by decide +kernel
theorem dX10_message_15 : decode cX10_message 15 = .ok (.ifCond .eq 12, 3) := by decide +kernel
theorem dX10_message_18 : decode cX10_message 18 = .ok (.iload_n 2, 1) := by decide +kernel
theorem dX10_message_19 : decode cX10_message 19 = .ok (.iconst 0, 1) := by decide +kernel
theorem dX10_message_20 : decode cX10_message 20 = .ok (.iconst 4, 1) := by decide +kernel
theorem dX10_message_21 : decode cX10_message 21 = .ok (.invokestatic 108, 3) := by decide +kernel
theorem dX10_message_24 : decode cX10_message 24 = .ok (.ifCond .ne 10, 3) := by decide +kernel
theorem dX10_message_27 : decode cX10_message 27 = .ok (.aload_n 0, 1) := by decide +kernel
theorem dX10_message_28 : decode cX10_message 28 = .ok (.bipush (-5), 2) := by decide +kernel
theorem dX10_message_30 : decode cX10_message 30 = .ok (.invokevirtual 221, 3) := by decide +kernel
theorem dX10_message_33 : decode cX10_message 33 = .ok (.ireturn, 1) := by decide +kernel
theorem dX10_message_34 : decode cX10_message 34 = .ok (.iload_n 2, 1) := by decide +kernel
theorem dX10_message_35 : decode cX10_message 35 = .ok (.tableswitch 57 0 3 #[29, 36, 43, 50], 29) := by decide +kernel
theorem dX10_message_64 : decode cX10_message 64 = .ok (.aload_n 0, 1) := by decide +kernel
theorem dX10_message_65 : decode cX10_message 65 = .ok (.getfield 43, 3) := by decide +kernel
theorem dX10_message_68 : decode cX10_message 68 = .ok (.iload_n 1, 1) := by decide +kernel
theorem dX10_message_69 : decode cX10_message 69 = .ok (.iaload, 1) := by decide +kernel
theorem dX10_message_70 : decode cX10_message 70 = .ok (.ireturn, 1) := by decide +kernel
theorem dX10_message_71 : decode cX10_message 71 = .ok (.aload_n 0, 1) := by decide +kernel
theorem dX10_message_72 : decode cX10_message 72 = .ok (.getfield 46, 3) := by decide +kernel
theorem dX10_message_75 : decode cX10_message 75 = .ok (.iload_n 1, 1) := by decide +kernel
theorem dX10_message_76 : decode cX10_message 76 = .ok (.iaload, 1) := by decide +kernel
theorem dX10_message_77 : decode cX10_message 77 = .ok (.ireturn, 1) := by decide +kernel
theorem dX10_message_78 : decode cX10_message 78 = .ok (.aload_n 0, 1) := by decide +kernel
theorem dX10_message_79 : decode cX10_message 79 = .ok (.getfield 49, 3) := by decide +kernel
theorem dX10_message_82 : decode cX10_message 82 = .ok (.iload_n 1, 1) := by decide +kernel
theorem dX10_message_83 : decode cX10_message 83 = .ok (.iaload, 1) := by decide +kernel
theorem dX10_message_84 : decode cX10_message 84 = .ok (.ireturn, 1) := by decide +kernel
theorem dX10_message_85 : decode cX10_message 85 = .ok (.aload_n 0, 1) := by decide +kernel
theorem dX10_message_86 : decode cX10_message 86 = .ok (.getfield 52, 3) := by decide +kernel
theorem dX10_message_89 : decode cX10_message 89 = .ok (.iload_n 1, 1) := by decide +kernel
theorem dX10_message_90 : decode cX10_message 90 = .ok (.iaload, 1) := by decide +kernel
theorem dX10_message_91 : decode cX10_message 91 = .ok (.ireturn, 1) := by decide +kernel
theorem dX10_message_92 : decode cX10_message 92 = .ok (.aload_n 0, 1) := by decide +kernel
theorem dX10_message_93 : decode cX10_message 93 = .ok (.getfield 55, 3) := by decide +kernel
theorem dX10_message_96 : decode cX10_message 96 = .ok (.iload_n 1, 1) := by decide +kernel
theorem dX10_message_97 : decode cX10_message 97 = .ok (.iaload, 1) := by decide +kernel
theorem dX10_message_98 : decode cX10_message 98 = .ok (.ireturn, 1) := by decide +kernel
theorem dX10_areAlike_0 : decode cX10_areAlike 0 = .ok (.iconst 0, 1) := by decide +kernel
theorem dX10_areAlike_1 : decode cX10_areAlike 1 = .ok (.istore_n 2, 1) := by decide +kernel
theorem dX10_areAlike_2 : decode cX10_areAlike 2 = .ok (.iconst 0, 1) := by decide +kernel
theorem dX10_areAlike_3 : decode cX10_areAlike 3 = .ok (.istore_n 3, 1) := by decide +kernel
theorem dX10_areAlike_4 : decode cX10_areAlike 4 = .ok (.iload_n 3, 1) := by decide +kernel
theorem dX10_areAlike_5 : decode cX10_areAlike 5 = .ok (.aload_n 0, 1) := by decide +kernel
theorem dX10_areAlike_6 : decode cX10_areAlike 6 = .ok (.getfield 96, 3) := by decide +kernel
theorem dX10_areAlike_9 : decode cX10_areAlike 9 = .ok (.if_icmp .gt 20, 3) := by decide +kernel
theorem dX10_areAlike_12 : decode cX10_areAlike 12 = .ok (.iload_n 2, 1) := by decide +kernel
theorem dX10_areAlike_13 : decode cX10_areAlike 13 = .ok (.iconst 1, 1) := by decide +kernel
theorem dX10_areAlike_14 : decode cX10_areAlike 14 = .ok (.aload_n 0, 1) := by decide +kernel
theorem dX10_areAlike_15 : decode cX10_areAlike 15 = .ok (.iload_n 1, 1) := by decide +kernel
theorem dX10_areAlike_16 : decode cX10_areAlike 16 = .ok (.iload_n 3, 1) := by decide +kernel
theorem dX10_areAlike_17 : decode cX10_areAlike 17 = .ok (.invokevirtual 316, 3) := by decide +kernel
theorem dX10_areAlike_20 : decode cX10_areAlike 20 = .ok (.ishl, 1) := by decide +kernel
theorem dX10_areAlike_21 : decode cX10_areAlike 21 = .ok (.ior, 1) := by decide +kernel
theorem dX10_areAlike_22 : decode cX10_areAlike 22 = .ok (.istore_n 2, 1) := by decide +kernel
theorem dX10_areAlike_23 : decode cX10_areAlike 23 = .ok (.iinc 3 1, 3) := by decide +kernel
theorem dX10_areAlike_26 : decode cX10_areAlike 26 = .ok (.goto (-22), 3) := by decide +kernel
theorem dX10_areAlike_29 : decode cX10_areAlike 29 = .ok (.iload_n 2, 1) := by decide +kernel
theorem dX10_areAlike_30 : decode cX10_areAlike 30 = .ok (.bipush 6, 2) := by decide +kernel
theorem dX10_areAlike_32 : decode cX10_areAlike 32 = .ok (.iand, 1) := by decide +kernel
theorem dX10_areAlike_33 : decode cX10_areAlike 33 = .ok (.bipush 6, 2) := by decide +kernel
theorem dX10_areAlike_35 : decode cX10_areAlike 35 = .ok (.if_icmp .eq 7, 3) := by decide +kernel
theorem dX10_areAlike_38 : decode cX10_areAlike 38 = .ok (.iconst 1, 1) := by decide +kernel
theorem dX10_areAlike_39 : decode cX10_areAlike 39 = .ok (.goto 4, 3) := by decide +kernel
theorem dX10_areAlike_42 : decode cX10_areAlike 42 = .ok (.iconst 0, 1) := by decide +kernel
theorem dX10_areAlike_43 : decode cX10_areAlike 43 = .ok (.ireturn, 1) := by decide +kernel
theorem dX10_alike_0 : decode cX10_alike 0 = .ok (.iload_n 1, 1) := by decide +kernel
theorem dX10_alike_1 : decode cX10_alike 1 = .ok (.invokestatic 307, 3) := by decide +kernel
theorem dX10_alike_4 : decode cX10_alike 4 = .ok (.ifCond .ne 10, 3) := by decide +kernel
theorem dX10_alike_7 : decode cX10_alike 7 = .ok (.aload_n 0, 1) := by decide +kernel
theorem dX10_alike_8 : decode cX10_alike 8 = .ok (.bipush (-6), 2) := by decide +kernel
theorem dX10_alike_10 : decode cX10_alike 10 = .ok (.invokevirtual 221, 3) := by decide +kernel
theorem dX10_alike_13 : decode cX10_alike 13 = .ok (.ireturn, 1) := by decide +kernel
theorem dX10_alike_14 : decode cX10_alike 14 = .ok (.aload_n 0, 1) := by decide +kernel
theorem dX10_alike_15 : decode cX10_alike 15 = .ok (.invokevirtual 239, 3) := by decide +kernel
theorem dX10_alike_18 : decode cX10_alike 18 = .ok (.aload_n 0, 1) := by decide +kernel
theorem dX10_alike_19 : decode cX10_alike 19 = .ok (.iload_n 1, 1) := by decide +kernel
theorem dX10_alike_20 : decode cX10_alike 20 = .ok (.invokevirtual 319, 3) := by decide +kernel
theorem dX10_alike_23 : decode cX10_alike 23 = .ok (.ifCond .eq 7, 3) := by decide +kernel
theorem dX10_alike_26 : decode cX10_alike 26 = .ok (.iconst 1, 1) := by decide +kernel
theorem dX10_alike_27 : decode cX10_alike 27 = .ok (.goto 4, 3) := by decide +kernel
theorem dX10_alike_30 : decode cX10_alike 30 = .ok (.iconst 0, 1) := by decide +kernel
theorem dX10_alike_31 : decode cX10_alike 31 = .ok (.ireturn, 1) := by decide +kernel
theorem dX10_blockedNow_0 : decode cX10_blockedNow 0 = .ok (.iconst 0, 1) := by decide +kernel
theorem dX10_blockedNow_1 : decode cX10_blockedNow 1 = .ok (.istore_n 1, 1) := by decide +kernel
theorem dX10_blockedNow_2 : decode cX10_blockedNow 2 = .ok (.iconst 1, 1) := by decide +kernel
theorem dX10_blockedNow_3 : decode cX10_blockedNow 3 = .ok (.istore_n 2, 1) := by decide +kernel
theorem dX10_blockedNow_4 : decode cX10_blockedNow 4 = .ok (.iload_n 2, 1) := by decide +kernel
theorem dX10_blockedNow_5 : decode cX10_blockedNow 5 = .ok (.aload_n 0, 1) := by decide +kernel
theorem dX10_blockedNow_6 : decode cX10_blockedNow 6 = .ok (.getfield 96, 3) := by decide +kernel
theorem dX10_blockedNow_9 : decode cX10_blockedNow 9 = .ok (.if_icmp .gt 40, 3) := by decide +kernel
theorem dX10_blockedNow_12 : decode cX10_blockedNow 12 = .ok (.aload_n 0, 1) := by decide +kernel
theorem dX10_blockedNow_13 : decode cX10_blockedNow 13 = .ok (.getfield 58, 3) := by decide +kernel
theorem dX10_blockedNow_16 : decode cX10_blockedNow 16 = .ok (.sipush 360, 3) := by decide +kernel
theorem dX10_blockedNow_19 : decode cX10_blockedNow 19 = .ok (.iload_n 2, 1) := by decide +kernel
theorem dX10_blockedNow_20 : decode cX10_blockedNow 20 = .ok (.iadd, 1) := by decide +kernel
theorem dX10_blockedNow_21 : decode cX10_blockedNow 21 = .ok (.iaload, 1) := by decide +kernel
theorem dX10_blockedNow_22 : decode cX10_blockedNow 22 = .ok (.istore_n 3, 1) := by decide +kernel
theorem dX10_blockedNow_23 : decode cX10_blockedNow 23 = .ok (.iload_n 1, 1) := by decide +kernel
theorem dX10_blockedNow_24 : decode cX10_blockedNow 24 = .ok (.iload_n 3, 1) := by decide +kernel
theorem dX10_blockedNow_25 : decode cX10_blockedNow 25 = .ok (.iconst 1, 1) := by decide +kernel
theorem dX10_blockedNow_26 : decode cX10_blockedNow 26 = .ok (.if_icmp .eq 8, 3) := by decide +kernel
theorem dX10_blockedNow_29 : decode cX10_blockedNow 29 = .ok (.iload_n 3, 1) := by decide +kernel
theorem dX10_blockedNow_30 : decode cX10_blockedNow 30 = .ok (.iconst 2, 1) := by decide +kernel
theorem dX10_blockedNow_31 : decode cX10_blockedNow 31 = .ok (.if_icmp .ne 9, 3) := by decide +kernel
theorem dX10_blockedNow_34 : decode cX10_blockedNow 34 = .ok (.iconst 1, 1) := by decide +kernel
theorem dX10_blockedNow_35 : decode cX10_blockedNow 35 = .ok (.iload_n 2, 1) := by decide +kernel
theorem dX10_blockedNow_36 : decode cX10_blockedNow 36 = .ok (.ishl, 1) := by decide +kernel
theorem dX10_blockedNow_37 : decode cX10_blockedNow 37 = .ok (.goto 4, 3) := by decide +kernel
theorem dX10_blockedNow_40 : decode cX10_blockedNow 40 = .ok (.iconst 0, 1) := by decide +kernel
theorem dX10_blockedNow_41 : decode cX10_blockedNow 41 = .ok (.ior, 1) := by decide +kernel
theorem dX10_blockedNow_42 : decode cX10_blockedNow 42 = .ok (.istore_n 1, 1) := by decide +kernel
theorem dX10_blockedNow_43 : decode cX10_blockedNow 43 = .ok (.iinc 2 1, 3) := by decide +kernel
theorem dX10_blockedNow_46 : decode cX10_blockedNow 46 = .ok (.goto (-42), 3) := by decide +kernel
theorem dX10_blockedNow_49 : decode cX10_blockedNow 49 = .ok (.iload_n 1, 1) := by decide +kernel
theorem dX10_blockedNow_50 : decode cX10_blockedNow 50 = .ok (.ireturn, 1) := by decide +kernel
theorem dX10_blocked_0 : decode cX10_blocked 0 = .ok (.aload_n 0, 1) := by decide +kernel
theorem dX10_blocked_1 : decode cX10_blocked 1 = .ok (.invokevirtual 239, 3) := by decide +kernel
theorem dX10_blocked_4 : decode cX10_blocked 4 = .ok (.aload_n 0, 1) := by decide +kernel
theorem dX10_blocked_5 : decode cX10_blocked 5 = .ok (.invokevirtual 322, 3) := by decide +kernel
theorem dX10_blocked_8 : decode cX10_blocked 8 = .ok (.ireturn, 1) := by decide +kernel
theorem dX10_isAsLast_0 : decode cX10_isAsLast 0 = .ok (.iconst 0, 1) := by decide +kernel
theorem dX10_isAsLast_1 : decode cX10_isAsLast 1 = .ok (.istore_n 2, 1) := by decide +kernel
theorem dX10_isAsLast_2 : decode cX10_isAsLast 2 = .ok (.iload_n 2, 1) := by decide +kernel
theorem dX10_isAsLast_3 : decode cX10_isAsLast 3 = .ok (.aload_n 0, 1) := by decide +kernel
theorem dX10_isAsLast_4 : decode cX10_isAsLast 4 = .ok (.getfield 96, 3) := by decide +kernel
theorem dX10_isAsLast_7 : decode cX10_isAsLast 7 = .ok (.if_icmp .gt 55, 3) := by decide +kernel
theorem dX10_isAsLast_10 : decode cX10_isAsLast 10 = .ok (.aload_n 0, 1) := by decide +kernel
theorem dX10_isAsLast_11 : decode cX10_isAsLast 11 = .ok (.getfield 58, 3) := by decide +kernel
theorem dX10_isAsLast_14 : decode cX10_isAsLast 14 = .ok (.bipush 6, 2) := by decide +kernel
theorem dX10_isAsLast_16 : decode cX10_isAsLast 16 = .ok (.iload_n 1, 1) := by decide +kernel
theorem dX10_isAsLast_17 : decode cX10_isAsLast 17 = .ok (.imul, 1) := by decide +kernel
theorem dX10_isAsLast_18 : decode cX10_isAsLast 18 = .ok (.iload_n 2, 1) := by decide +kernel
theorem dX10_isAsLast_19 : decode cX10_isAsLast 19 = .ok (.iadd, 1) := by decide +kernel
theorem dX10_isAsLast_20 : decode cX10_isAsLast 20 = .ok (.iaload, 1) := by decide +kernel
theorem dX10_isAsLast_21 : decode cX10_isAsLast 21 = .ok (.aload_n 0, 1) := by decide +kernel
theorem dX10_isAsLast_22 : decode cX10_isAsLast 22 = .ok (.getfield 58, 3) := by decide +kernel
theorem dX10_isAsLast_25 : decode cX10_isAsLast 25 = .ok (.sipush 360, 3) := by decide +kernel
theorem dX10_isAsLast_28 : decode cX10_isAsLast 28 = .ok (.iload_n 2, 1) := by decide +kernel
theorem dX10_isAsLast_29 : decode cX10_isAsLast 29 = .ok (.iadd, 1) := by decide +kernel
theorem dX10_isAsLast_30 : decode cX10_isAsLast 30 = .ok (.iaload, 1) := by decide +kernel
theorem dX10_isAsLast_31 : decode cX10_isAsLast 31 = .ok (.if_icmp .ne 23, 3) := by decide +kernel
theorem dX10_isAsLast_34 : decode cX10_isAsLast 34 = .ok (.aload_n 0, 1) := by decide +kernel
theorem dX10_isAsLast_35 : decode cX10_isAsLast 35 = .ok (.getfield 61, 3) := by decide +kernel
theorem dX10_isAsLast_38 : decode cX10_isAsLast 38 = .ok (.bipush 6, 2) := by decide +kernel
theorem dX10_isAsLast_40 : decode cX10_isAsLast 40 = .ok (.iload_n 1, 1) := by decide +kernel
theorem dX10_isAsLast_41 : decode cX10_isAsLast 41 = .ok (.imul, 1) := by decide +kernel
theorem dX10_isAsLast_42 : decode cX10_isAsLast 42 = .ok (.iload_n 2, 1) := by decide +kernel
theorem dX10_isAsLast_43 : decode cX10_isAsLast 43 = .ok (.iadd, 1) := by decide +kernel
theorem dX10_isAsLast_44 : decode cX10_isAsLast 44 = .ok (.iaload, 1) := by decide +kernel
theorem dX10_isAsLast_45 : decode cX10_isAsLast 45 = .ok (.aload_n 0, 1) := by decide +kernel
theorem dX10_isAsLast_46 : decode cX10_isAsLast 46 = .ok (.getfield 37, 3) := by decide +kernel
theorem dX10_isAsLast_49 : decode cX10_isAsLast 49 = .ok (.iload_n 2, 1) := by decide +kernel
theorem dX10_isAsLast_50 : decode cX10_isAsLast 50 = .ok (.iaload, 1) := by decide +kernel
theorem dX10_isAsLast_51 : decode cX10_isAsLast 51 = .ok (.if_icmp .eq 5, 3) := by decide +kernel
theorem dX10_isAsLast_54 : decode cX10_isAsLast 54 = .ok (.iconst 0, 1) := by decide +kernel
theorem dX10_isAsLast_55 : decode cX10_isAsLast 55 = .ok (.ireturn, 1) := by decide +kernel
theorem dX10_isAsLast_56 : decode cX10_isAsLast 56 = .ok (.iinc 2 1, 3) := by decide +kernel
theorem dX10_isAsLast_59 : decode cX10_isAsLast 59 = .ok (.goto (-57), 3) := by decide +kernel
theorem dX10_isAsLast_62 : decode cX10_isAsLast 62 = .ok (.iconst 1, 1) := by decide +kernel
theorem dX10_isAsLast_63 : decode cX10_isAsLast 63 = .ok (.ireturn, 1) := by decide +kernel
theorem dX10_quiet_0 : decode cX10_quiet 0 = .ok (.aload_n 0, 1) := by decide +kernel
theorem dX10_quiet_1 : decode cX10_quiet 1 = .ok (.invokevirtual 239, 3) := by decide +kernel
theorem dX10_quiet_4 : decode cX10_quiet 4 = .ok (.bipush 60, 2) := by decide +kernel
theorem dX10_quiet_6 : decode cX10_quiet 6 = .ok (.istore_n 1, 1) := by decide +kernel
theorem dX10_quiet_7 : decode cX10_quiet 7 = .ok (.iload_n 1, 1) := by decide +kernel
theorem dX10_quiet_8 : decode cX10_quiet 8 = .ok (.ifCond .le 19, 3) := by decide +kernel
theorem dX10_quiet_11 : decode cX10_quiet 11 = .ok (.aload_n 0, 1) := by decide +kernel
theorem dX10_quiet_12 : decode cX10_quiet 12 = .ok (.iload_n 1, 1) := by decide +kernel
theorem dX10_quiet_13 : decode cX10_quiet 13 = .ok (.iconst 1, 1) := by decide +kernel
theorem dX10_quiet_14 : decode cX10_quiet 14 = .ok (.isub, 1) := by decide +kernel
theorem dX10_quiet_15 : decode cX10_quiet 15 = .ok (.invokevirtual 325, 3) := by decide +kernel
theorem dX10_quiet_18 : decode cX10_quiet 18 = .ok (.ifCond .eq 9, 3) := by decide +kernel
theorem dX10_quiet_21 : decode cX10_quiet 21 = .ok (.iinc 1 (-1), 3) := by decide +kernel
theorem dX10_quiet_24 : decode cX10_quiet 24 = .ok (.goto (-17), 3) := by decide +kernel
theorem dX10_quiet_27 : decode cX10_quiet 27 = .ok (.iload_n 1, 1) := by decide +kernel
theorem dX10_quiet_28 : decode cX10_quiet 28 = .ok (.ireturn, 1) := by decide +kernel
theorem dX10_lossesThat_0 : decode cX10_lossesThat 0 = .ok (.aload_n 0, 1) := by decide +kernel
theorem dX10_lossesThat_1 : decode cX10_lossesThat 1 = .ok (.invokevirtual 239, 3) := by decide +kernel
theorem dX10_lossesThat_4 : decode cX10_lossesThat 4 = .ok (.aload_n 0, 1) := by decide +kernel
theorem dX10_lossesThat_5 : decode cX10_lossesThat 5 = .ok (.getfield 112, 3) := by decide +kernel
theorem dX10_lossesThat_8 : decode cX10_lossesThat 8 = .ok (.istore_n 3, 1) := by decide +kernel
theorem dX10_lossesThat_9 : decode cX10_lossesThat 9 = .ok (.iconst 0, 1) := by decide +kernel
theorem dX10_lossesThat_10 : decode cX10_lossesThat 10 = .ok (.istore 4, 2) := by decide +kernel
theorem dX10_lossesThat_12 : decode cX10_lossesThat 12 = .ok (.iconst 0, 1) := by decide +kernel
theorem dX10_lossesThat_13 : decode cX10_lossesThat 13 = .ok (.istore 5, 2) := by decide +kernel
theorem dX10_lossesThat_15 : decode cX10_lossesThat 15 = .ok (.iload 5, 2) := by decide +kernel
theorem dX10_lossesThat_17 : decode cX10_lossesThat 17 = .ok (.bipush 30, 2) := by decide +kernel
theorem dX10_lossesThat_19 : decode cX10_lossesThat 19 = .ok (.if_icmp .ge 94, 3) := by decide +kernel
theorem dX10_lossesThat_22 : decode cX10_lossesThat 22 = .ok (.bipush 30, 2) := by decide +kernel
theorem dX10_lossesThat_24 : decode cX10_lossesThat 24 = .ok (.iload_n 1, 1) := by decide +kernel
theorem dX10_lossesThat_25 : decode cX10_lossesThat 25 = .ok (.imul, 1) := by decide +kernel
theorem dX10_lossesThat_26 : decode cX10_lossesThat 26 = .ok (.iload 5, 2) := by decide +kernel
theorem dX10_lossesThat_28 : decode cX10_lossesThat 28 = .ok (.iadd, 1) := by decide +kernel
theorem dX10_lossesThat_29 : decode cX10_lossesThat 29 = .ok (.istore 6, 2) := by decide +kernel
theorem dX10_lossesThat_31 : decode cX10_lossesThat 31 = .ok (.iload 6, 2) := by decide +kernel
theorem dX10_lossesThat_33 : decode cX10_lossesThat 33 = .ok (.iload_n 3, 1) := by decide +kernel
theorem dX10_lossesThat_34 : decode cX10_lossesThat 34 = .ok (.if_icmp .ge 73, 3) := by decide +kernel
theorem dX10_lossesThat_37 : decode cX10_lossesThat 37 = .ok (.aload_n 0, 1) := by decide +kernel
theorem dX10_lossesThat_38 : decode cX10_lossesThat 38 = .ok (.getfield 16, 3) := by decide +kernel
theorem dX10_lossesThat_41 : decode cX10_lossesThat 41 = .ok (.iload 6, 2) := by decide +kernel
theorem dX10_lossesThat_43 : decode cX10_lossesThat 43 = .ok (.iaload, 1) := by decide +kernel
theorem dX10_lossesThat_44 : decode cX10_lossesThat 44 = .ok (.iconst 1, 1) := by decide +kernel
theorem dX10_lossesThat_45 : decode cX10_lossesThat 45 = .ok (.if_icmp .ne 6, 3) := by decide +kernel
theorem dX10_lossesThat_48 : decode cX10_lossesThat 48 = .ok (.goto 59, 3) := by decide +kernel
theorem dX10_lossesThat_51 : decode cX10_lossesThat 51 = .ok (.aload_n 0, 1) := by decide +kernel
theorem dX10_lossesThat_52 : decode cX10_lossesThat 52 = .ok (.getfield 16, 3) := by decide +kernel
theorem dX10_lossesThat_55 : decode cX10_lossesThat 55 = .ok (.iload 6, 2) := by decide +kernel
theorem dX10_lossesThat_57 : decode cX10_lossesThat 57 = .ok (.iconst 1, 1) := by decide +kernel
theorem dX10_lossesThat_58 : decode cX10_lossesThat 58 = .ok (.iastore, 1) := by decide +kernel
theorem dX10_lossesThat_59 : decode cX10_lossesThat 59 = .ok (.aload_n 0, 1) := by decide +kernel
theorem dX10_lossesThat_60 : decode cX10_lossesThat 60 = .ok (.invokevirtual 239, 3) := by decide +kernel
theorem dX10_lossesThat_63 : decode cX10_lossesThat 63 = .ok (.aload_n 0, 1) := by decide +kernel
theorem dX10_lossesThat_64 : decode cX10_lossesThat 64 = .ok (.getfield 16, 3) := by decide +kernel
theorem dX10_lossesThat_67 : decode cX10_lossesThat 67 = .ok (.iload 6, 2) := by decide +kernel
theorem dX10_lossesThat_69 : decode cX10_lossesThat 69 = .ok (.iconst 0, 1) := by decide +kernel
theorem dX10_lossesThat_70 : decode cX10_lossesThat 70 = .ok (.iastore, 1) := by decide +kernel
theorem dX10_lossesThat_71 : decode cX10_lossesThat 71 = .ok (.iload 4, 2) := by decide +kernel
theorem dX10_lossesThat_73 : decode cX10_lossesThat 73 = .ok (.iload_n 2, 1) := by decide +kernel
theorem dX10_lossesThat_74 : decode cX10_lossesThat 74 = .ok (.ifCond .eq 13, 3) := by decide +kernel
theorem dX10_lossesThat_77 : decode cX10_lossesThat 77 = .ok (.aload_n 0, 1) := by decide +kernel
theorem dX10_lossesThat_78 : decode cX10_lossesThat 78 = .ok (.invokevirtual 322, 3) := by decide +kernel
theorem dX10_lossesThat_81 : decode cX10_lossesThat 81 = .ok (.ifCond .eq 22, 3) := by decide +kernel
theorem dX10_lossesThat_84 : decode cX10_lossesThat 84 = .ok (.goto 12, 3) := by decide +kernel
theorem dX10_lossesThat_87 : decode cX10_lossesThat 87 = .ok (.aload_n 0, 1) := by decide +kernel
theorem dX10_lossesThat_88 : decode cX10_lossesThat 88 = .ok (.bipush 60, 2) := by decide +kernel
theorem dX10_lossesThat_90 : decode cX10_lossesThat 90 = .ok (.invokevirtual 319, 3) := by decide +kernel
theorem dX10_lossesThat_93 : decode cX10_lossesThat 93 = .ok (.ifCond .ne 10, 3) := by decide +kernel
theorem dX10_lossesThat_96 : decode cX10_lossesThat 96 = .ok (.iconst 1, 1) := by decide +kernel
theorem dX10_lossesThat_97 : decode cX10_lossesThat 97 = .ok (.iload 5, 2) := by decide +kernel
theorem dX10_lossesThat_99 : decode cX10_lossesThat 99 = .ok (.ishl, 1) := by decide +kernel
theorem dX10_lossesThat_100 : decode cX10_lossesThat 100 = .ok (.goto 4, 3) := by decide +kernel
theorem dX10_lossesThat_103 : decode cX10_lossesThat 103 = .ok (.iconst 0, 1) := by decide +kernel
theorem dX10_lossesThat_104 : decode cX10_lossesThat 104 = .ok (.ior, 1) := by decide +kernel
theorem dX10_lossesThat_105 : decode cX10_lossesThat 105 = .ok (.istore 4, 2) := by decide +kernel
theorem dX10_lossesThat_107 : decode cX10_lossesThat 107 = .ok (.iinc 5 1, 3) := by decide +kernel
theorem dX10_lossesThat_110 : decode cX10_lossesThat 110 = .ok (.goto (-95), 3) := by decide +kernel
theorem dX10_lossesThat_113 : decode cX10_lossesThat 113 = .ok (.iload 4, 2) := by decide +kernel
theorem dX10_lossesThat_115 : decode cX10_lossesThat 115 = .ok (.ireturn, 1) := by decide +kernel
theorem dX10_harm_0 : decode cX10_harm 0 = .ok (.iload_n 1, 1) := by decide +kernel
theorem dX10_harm_1 : decode cX10_harm 1 = .ok (.iconst 0, 1) := by decide +kernel
theorem dX10_harm_2 : decode cX10_harm 2 = .ok (.iconst 1, 1) := by decide +kernel
theorem dX10_harm_3 : decode cX10_harm 3 = .ok (.invokestatic 108, 3) := by decide +kernel
theorem dX10_harm_6 : decode cX10_harm 6 = .ok (.ifCond .eq 12, 3) := by decide +kernel
theorem dX10_harm_9 : decode cX10_harm 9 = .ok (.aload_n 0, 1) := by decide +kernel
theorem dX10_harm_10 : decode cX10_harm 10 = .ok (.iload_n 1, 1) := by decide +kernel
theorem dX10_harm_11 : decode cX10_harm 11 = .ok (.iconst 0, 1) := by decide +kernel
theorem dX10_harm_12 : decode cX10_harm 12 = .ok (.invokevirtual 328, 3) := by decide +kernel
theorem dX10_harm_15 : decode cX10_harm 15 = .ok (.goto 9, 3) := by decide +kernel
theorem dX10_harm_18 : decode cX10_harm 18 = .ok (.aload_n 0, 1) := by decide +kernel
theorem dX10_harm_19 : decode cX10_harm 19 = .ok (.bipush (-5), 2) := by decide +kernel
theorem dX10_harm_21 : decode cX10_harm 21 = .ok (.invokevirtual 221, 3) := by decide +kernel
theorem dX10_harm_24 : decode cX10_harm 24 = .ok (.ireturn, 1) := by decide +kernel
theorem dX10_block_0 : decode cX10_block 0 = .ok (.iload_n 1, 1) := by decide +kernel
theorem dX10_block_1 : decode cX10_block 1 = .ok (.iconst 0, 1) := by decide +kernel
theorem dX10_block_2 : decode cX10_block 2 = .ok (.iconst 1, 1) := by decide +kernel
theorem dX10_block_3 : decode cX10_block 3 = .ok (.invokestatic 108, 3) := by decide +kernel
theorem dX10_block_6 : decode cX10_block 6 = .ok (.ifCond .eq 12, 3) := by decide +kernel
theorem dX10_block_9 : decode cX10_block 9 = .ok (.aload_n 0, 1) := by decide +kernel
theorem dX10_block_10 : decode cX10_block 10 = .ok (.iload_n 1, 1) := by decide +kernel
theorem dX10_block_11 : decode cX10_block 11 = .ok (.iconst 1, 1) := by decide +kernel
theorem dX10_block_12 : decode cX10_block 12 = .ok (.invokevirtual 328, 3) := by decide +kernel
theorem dX10_block_15 : decode cX10_block 15 = .ok (.goto 9, 3) := by decide +kernel
theorem dX10_block_18 : decode cX10_block 18 = .ok (.aload_n 0, 1) := by decide +kernel
theorem dX10_block_19 : decode cX10_block 19 = .ok (.bipush (-5), 2) := by decide +kernel
theorem dX10_block_21 : decode cX10_block 21 = .ok (.invokevirtual 221, 3) := by decide +kernel
theorem dX10_block_24 : decode cX10_block 24 = .ok (.ireturn, 1) := by decide +kernel
theorem dX10_recoveredBy_0 : decode cX10_recoveredBy 0 = .ok (.iload_n 2, 1) := by decide +kernel
theorem dX10_recoveredBy_1 : decode cX10_recoveredBy 1 = .ok (.tableswitch 45 2 6 #[35, 37, 39, 41, 43], 35) := by decide +kernel
theorem dX10_recoveredBy_36 : decode cX10_recoveredBy 36 = .ok (.iconst 1, 1) := by decide +kernel
theorem dX10_recoveredBy_37 : decode cX10_recoveredBy 37 = .ok (.ireturn, 1) := by decide +kernel
theorem dX10_recoveredBy_38 : decode cX10_recoveredBy 38 = .ok (.iconst 2, 1) := by decide +kernel
theorem dX10_recoveredBy_39 : decode cX10_recoveredBy 39 = .ok (.ireturn, 1) := by decide +kernel
theorem dX10_recoveredBy_40 : decode cX10_recoveredBy 40 = .ok (.iconst 3, 1) := by decide +kernel
theorem dX10_recoveredBy_41 : decode cX10_recoveredBy 41 = .ok (.ireturn, 1) := by decide +kernel
theorem dX10_recoveredBy_42 : decode cX10_recoveredBy 42 = .ok (.iconst 4, 1) := by decide +kernel
theorem dX10_recoveredBy_43 : decode cX10_recoveredBy 43 = .ok (.ireturn, 1) := by decide +kernel
theorem dX10_recoveredBy_44 : decode cX10_recoveredBy 44 = .ok (.iconst 5, 1) := by decide +kernel
theorem dX10_recoveredBy_45 : decode cX10_recoveredBy 45 = .ok (.ireturn, 1) := by decide +kernel
theorem dX10_recoveredBy_46 : decode cX10_recoveredBy 46 = .ok (.iload_n 1, 1) := by decide +kernel
theorem dX10_recoveredBy_47 : decode cX10_recoveredBy 47 = .ok (.ifCond .ne 15, 3) := by decide +kernel
theorem dX10_recoveredBy_50 : decode cX10_recoveredBy 50 = .ok (.aload_n 0, 1) := by decide +kernel
theorem dX10_recoveredBy_51 : decode cX10_recoveredBy 51 = .ok (.getfield 136, 3) := by decide +kernel
theorem dX10_recoveredBy_54 : decode cX10_recoveredBy 54 = .ok (.iconst 1, 1) := by decide +kernel
theorem dX10_recoveredBy_55 : decode cX10_recoveredBy 55 = .ok (.if_icmp .ne 7, 3) := by decide +kernel
theorem dX10_recoveredBy_58 : decode cX10_recoveredBy 58 = .ok (.iconst 5, 1) := by decide +kernel
theorem dX10_recoveredBy_59 : decode cX10_recoveredBy 59 = .ok (.goto 4, 3) := by decide +kernel
theorem dX10_recoveredBy_62 : decode cX10_recoveredBy 62 = .ok (.iconst 4, 1) := by decide +kernel
theorem dX10_recoveredBy_63 : decode cX10_recoveredBy 63 = .ok (.ireturn, 1) := by decide +kernel
theorem dX10_recovery_0 : decode cX10_recovery 0 = .ok (.aload_n 0, 1) := by decide +kernel
theorem dX10_recovery_1 : decode cX10_recovery 1 = .ok (.iload_n 1, 1) := by decide +kernel
theorem dX10_recovery_2 : decode cX10_recovery 2 = .ok (.invokevirtual 304, 3) := by decide +kernel
theorem dX10_recovery_5 : decode cX10_recovery 5 = .ok (.ifCond .ne 9, 3) := by decide +kernel
theorem dX10_recovery_8 : decode cX10_recovery 8 = .ok (.aload_n 0, 1) := by decide +kernel
theorem dX10_recovery_9 : decode cX10_recovery 9 = .ok (.iconst (-1), 1) := by decide +kernel
theorem dX10_recovery_10 : decode cX10_recovery 10 = .ok (.invokevirtual 221, 3) := by decide +kernel
theorem dX10_recovery_13 : decode cX10_recovery 13 = .ok (.ireturn, 1) := by decide +kernel
theorem dX10_recovery_14 : decode cX10_recovery 14 = .ok (.aload_n 0, 1) := by decide +kernel
theorem dX10_recovery_15 : decode cX10_recovery 15 = .ok (.invokevirtual 239, 3) := by decide +kernel
theorem dX10_recovery_18 : decode cX10_recovery 18 = .ok (.iload_n 2, 1) := by decide +kernel
theorem dX10_recovery_19 : decode cX10_recovery 19 = .ok (.iconst 0, 1) := by decide +kernel
theorem dX10_recovery_20 : decode cX10_recovery 20 = .ok (.aload_n 0, 1) := by decide +kernel
theorem dX10_recovery_21 : decode cX10_recovery 21 = .ok (.getfield 37, 3) := by decide +kernel
theorem dX10_recovery_24 : decode cX10_recovery 24 = .ok (.iload_n 1, 1) := by decide +kernel
theorem dX10_recovery_25 : decode cX10_recovery 25 = .ok (.iaload, 1) := by decide +kernel
theorem dX10_recovery_26 : decode cX10_recovery 26 = .ok (.invokestatic 108, 3) := by decide +kernel
theorem dX10_recovery_29 : decode cX10_recovery 29 = .ok (.ifCond .eq 17, 3) := by decide +kernel
theorem dX10_recovery_32 : decode cX10_recovery 32 = .ok (.aload_n 0, 1) := by decide +kernel
theorem dX10_recovery_33 : decode cX10_recovery 33 = .ok (.iload_n 1, 1) := by decide +kernel
theorem dX10_recovery_34 : decode cX10_recovery 34 = .ok (.aload_n 0, 1) := by decide +kernel
theorem dX10_recovery_35 : decode cX10_recovery 35 = .ok (.iload_n 1, 1) := by decide +kernel
theorem dX10_recovery_36 : decode cX10_recovery 36 = .ok (.iload_n 2, 1) := by decide +kernel
theorem dX10_recovery_37 : decode cX10_recovery 37 = .ok (.invokevirtual 174, 3) := by decide +kernel
theorem dX10_recovery_40 : decode cX10_recovery 40 = .ok (.invokevirtual 332, 3) := by decide +kernel
theorem dX10_recovery_43 : decode cX10_recovery 43 = .ok (.goto 9, 3) := by decide +kernel
theorem dX10_recovery_46 : decode cX10_recovery 46 = .ok (.aload_n 0, 1) := by decide +kernel
theorem dX10_recovery_47 : decode cX10_recovery 47 = .ok (.bipush (-5), 2) := by decide +kernel
theorem dX10_recovery_49 : decode cX10_recovery 49 = .ok (.invokevirtual 221, 3) := by decide +kernel
theorem dX10_recovery_52 : decode cX10_recovery 52 = .ok (.ireturn, 1) := by decide +kernel
theorem dX10_spared_0 : decode cX10_spared 0 = .ok (.aload_n 0, 1) := by decide +kernel
theorem dX10_spared_1 : decode cX10_spared 1 = .ok (.getfield 136, 3) := by decide +kernel
theorem dX10_spared_4 : decode cX10_spared 4 = .ok (.istore_n 1, 1) := by decide +kernel
theorem dX10_spared_5 : decode cX10_spared 5 = .ok (.aload_n 0, 1) := by decide +kernel
theorem dX10_spared_6 : decode cX10_spared 6 = .ok (.iconst 0, 1) := by decide +kernel
theorem dX10_spared_7 : decode cX10_spared 7 = .ok (.putfield 136, 3) := by decide +kernel
theorem dX10_spared_10 : decode cX10_spared 10 = .ok (.aload_n 0, 1) := by decide +kernel
theorem dX10_spared_11 : decode cX10_spared 11 = .ok (.invokevirtual 239, 3) := by decide +kernel
theorem dX10_spared_14 : decode cX10_spared 14 = .ok (.aload_n 0, 1) := by decide +kernel
theorem dX10_spared_15 : decode cX10_spared 15 = .ok (.getfield 112, 3) := by decide +kernel
theorem dX10_spared_18 : decode cX10_spared 18 = .ok (.istore_n 2, 1) := by decide +kernel
theorem dX10_spared_19 : decode cX10_spared 19 = .ok (.aload_n 0, 1) := by decide +kernel
theorem dX10_spared_20 : decode cX10_spared 20 = .ok (.iconst 1, 1) := by decide +kernel
theorem dX10_spared_21 : decode cX10_spared 21 = .ok (.putfield 136, 3) := by decide +kernel
theorem dX10_spared_24 : decode cX10_spared 24 = .ok (.aload_n 0, 1) := by decide +kernel
theorem dX10_spared_25 : decode cX10_spared 25 = .ok (.invokevirtual 239, 3) := by decide +kernel
theorem dX10_spared_28 : decode cX10_spared 28 = .ok (.aload_n 0, 1) := by decide +kernel
theorem dX10_spared_29 : decode cX10_spared 29 = .ok (.iload_n 1, 1) := by decide +kernel
theorem dX10_spared_30 : decode cX10_spared 30 = .ok (.putfield 136, 3) := by decide +kernel
theorem dX10_spared_33 : decode cX10_spared 33 = .ok (.iload_n 2, 1) := by decide +kernel
theorem dX10_spared_34 : decode cX10_spared 34 = .ok (.aload_n 0, 1) := by decide +kernel
theorem dX10_spared_35 : decode cX10_spared 35 = .ok (.getfield 112, 3) := by decide +kernel
theorem dX10_spared_38 : decode cX10_spared 38 = .ok (.isub, 1) := by decide +kernel
theorem dX10_spared_39 : decode cX10_spared 39 = .ok (.ireturn, 1) := by decide +kernel
theorem dX10_notJudged_0 : decode cX10_notJudged 0 = .ok (.aload_n 0, 1) := by decide +kernel
theorem dX10_notJudged_1 : decode cX10_notJudged 1 = .ok (.iload_n 2, 1) := by decide +kernel
theorem dX10_notJudged_2 : decode cX10_notJudged 2 = .ok (.invokevirtual 304, 3) := by decide +kernel
theorem dX10_notJudged_5 : decode cX10_notJudged 5 = .ok (.ifCond .ne 5, 3) := by decide +kernel
theorem dX10_notJudged_8 : decode cX10_notJudged 8 = .ok (.iconst (-1), 1) := by decide +kernel
theorem dX10_notJudged_9 : decode cX10_notJudged 9 = .ok (.ireturn, 1) := by decide +kernel
theorem dX10_notJudged_10 : decode cX10_notJudged 10 = .ok (.aload_n 0, 1) := by decide +kernel
theorem dX10_notJudged_11 : decode cX10_notJudged 11 = .ok (.iload_n 1, 1) := by decide +kernel
theorem dX10_notJudged_12 : decode cX10_notJudged 12 = .ok (.invokevirtual 225, 3) := by decide +kernel
theorem dX10_notJudged_15 : decode cX10_notJudged 15 = .ok (.istore 4, 2) := by decide +kernel
theorem dX10_notJudged_17 : decode cX10_notJudged 17 = .ok (.iload 4, 2) := by decide +kernel
theorem dX10_notJudged_19 : decode cX10_notJudged 19 = .ok (.ifCond .eq 6, 3) := by decide +kernel
theorem dX10_notJudged_22 : decode cX10_notJudged 22 = .ok (.iload 4, 2) := by decide +kernel
theorem dX10_notJudged_24 : decode cX10_notJudged 24 = .ok (.ireturn, 1) := by decide +kernel
theorem dX10_notJudged_25 : decode cX10_notJudged 25 = .ok (.iload_n 3, 1) := by decide +kernel
theorem dX10_notJudged_26 : decode cX10_notJudged 26 = .ok (.ifCond .ge 8, 3) := by decide +kernel
theorem dX10_notJudged_29 : decode cX10_notJudged 29 = .ok (.bipush (-4), 2) := by decide +kernel
theorem dX10_notJudged_31 : decode cX10_notJudged 31 = .ok (.goto 30, 3) := by decide +kernel
theorem dX10_notJudged_34 : decode cX10_notJudged 34 = .ok (.iload_n 3, 1) := by decide +kernel
theorem dX10_notJudged_35 : decode cX10_notJudged 35 = .ok (.aload_n 0, 1) := by decide +kernel
theorem dX10_notJudged_36 : decode cX10_notJudged 36 = .ok (.getfield 70, 3) := by decide +kernel
theorem dX10_notJudged_39 : decode cX10_notJudged 39 = .ok (.iload_n 1, 1) := by decide +kernel
theorem dX10_notJudged_40 : decode cX10_notJudged 40 = .ok (.iaload, 1) := by decide +kernel
theorem dX10_notJudged_41 : decode cX10_notJudged 41 = .ok (.if_icmp .le 8, 3) := by decide +kernel
theorem dX10_notJudged_44 : decode cX10_notJudged 44 = .ok (.bipush (-5), 2) := by decide +kernel
theorem dX10_notJudged_46 : decode cX10_notJudged 46 = .ok (.goto 15, 3) := by decide +kernel
theorem dX10_notJudged_49 : decode cX10_notJudged 49 = .ok (.iload_n 3, 1) := by decide +kernel
theorem dX10_notJudged_50 : decode cX10_notJudged 50 = .ok (.bipush 61, 2) := by decide +kernel
theorem dX10_notJudged_52 : decode cX10_notJudged 52 = .ok (.if_icmp .le 8, 3) := by decide +kernel
theorem dX10_notJudged_55 : decode cX10_notJudged 55 = .ok (.bipush (-6), 2) := by decide +kernel
theorem dX10_notJudged_57 : decode cX10_notJudged 57 = .ok (.goto 4, 3) := by decide +kernel
theorem dX10_notJudged_60 : decode cX10_notJudged 60 = .ok (.iconst 0, 1) := by decide +kernel
theorem dX10_notJudged_61 : decode cX10_notJudged 61 = .ok (.ireturn, 1) := by decide +kernel
theorem dX10_judge_0 : decode cX10_judge 0 = .ok (.aload_n 0, 1) := by decide +kernel
theorem dX10_judge_1 : decode cX10_judge 1 = .ok (.iload_n 1, 1) := by decide +kernel
theorem dX10_judge_2 : decode cX10_judge 2 = .ok (.iload_n 2, 1) := by decide +kernel
theorem dX10_judge_3 : decode cX10_judge 3 = .ok (.iload_n 3, 1) := by decide +kernel
theorem dX10_judge_4 : decode cX10_judge 4 = .ok (.invokevirtual 335, 3) := by decide +kernel
theorem dX10_judge_7 : decode cX10_judge 7 = .ok (.istore 4, 2) := by decide +kernel
theorem dX10_judge_9 : decode cX10_judge 9 = .ok (.iload 4, 2) := by decide +kernel
theorem dX10_judge_11 : decode cX10_judge 11 = .ok (.ifCond .eq 13, 3) := by decide +kernel
theorem dX10_judge_14 : decode cX10_judge 14 = .ok (.aload_n 0, 1) := by decide +kernel
theorem dX10_judge_15 : decode cX10_judge 15 = .ok (.iload 4, 2) := by decide +kernel
theorem dX10_judge_17 : decode cX10_judge 17 = .ok (.invokevirtual 221, 3) := by decide +kernel
theorem dX10_judge_20 : decode cX10_judge 20 = .ok (.bipush 10, 2) := by decide +kernel
theorem dX10_judge_22 : decode cX10_judge 22 = .ok (.isub, 1) := by decide +kernel
theorem dX10_judge_23 : decode cX10_judge 23 = .ok (.ireturn, 1) := by decide +kernel
theorem dX10_judge_24 : decode cX10_judge 24 = .ok (.aload_n 0, 1) := by decide +kernel
theorem dX10_judge_25 : decode cX10_judge 25 = .ok (.invokevirtual 239, 3) := by decide +kernel
theorem dX10_judge_28 : decode cX10_judge 28 = .ok (.iconst 0, 1) := by decide +kernel
theorem dX10_judge_29 : decode cX10_judge 29 = .ok (.istore 5, 2) := by decide +kernel
theorem dX10_judge_31 : decode cX10_judge 31 = .ok (.iload 5, 2) := by decide +kernel
theorem dX10_judge_33 : decode cX10_judge 33 = .ok (.iload_n 3, 1) := by decide +kernel
theorem dX10_judge_34 : decode cX10_judge 34 = .ok (.if_icmp .ge 41, 3) := by decide +kernel
theorem dX10_judge_37 : decode cX10_judge 37 = .ok (.aload_n 0, 1) := by decide +kernel
theorem dX10_judge_38 : decode cX10_judge 38 = .ok (.getfield 73, 3) := by decide +kernel
theorem dX10_judge_41 : decode cX10_judge 41 = .ok (.sipush 160, 3) := by decide +kernel
theorem dX10_judge_44 : decode cX10_judge 44 = .ok (.iload_n 1, 1) := by decide +kernel
theorem dX10_judge_45 : decode cX10_judge 45 = .ok (.imul, 1) := by decide +kernel
theorem dX10_judge_46 : decode cX10_judge 46 = .ok (.iload 5, 2) := by decide +kernel
theorem dX10_judge_48 : decode cX10_judge 48 = .ok (.iadd, 1) := by decide +kernel
theorem dX10_judge_49 : decode cX10_judge 49 = .ok (.laload, 1) := by decide +kernel
theorem dX10_judge_50 : decode cX10_judge 50 = .ok (.l2i, 1) := by decide +kernel
theorem dX10_judge_51 : decode cX10_judge 51 = .ok (.aload_n 0, 1) := by decide +kernel
theorem dX10_judge_52 : decode cX10_judge 52 = .ok (.getfield 58, 3) := by decide +kernel
theorem dX10_judge_55 : decode cX10_judge 55 = .ok (.bipush 6, 2) := by decide +kernel
theorem dX10_judge_57 : decode cX10_judge 57 = .ok (.iload 5, 2) := by decide +kernel
theorem dX10_judge_59 : decode cX10_judge 59 = .ok (.imul, 1) := by decide +kernel
theorem dX10_judge_60 : decode cX10_judge 60 = .ok (.iload_n 2, 1) := by decide +kernel
theorem dX10_judge_61 : decode cX10_judge 61 = .ok (.iadd, 1) := by decide +kernel
theorem dX10_judge_62 : decode cX10_judge 62 = .ok (.iaload, 1) := by decide +kernel
theorem dX10_judge_63 : decode cX10_judge 63 = .ok (.if_icmp .eq 6, 3) := by decide +kernel
theorem dX10_judge_66 : decode cX10_judge 66 = .ok (.iload 5, 2) := by decide +kernel
theorem dX10_judge_68 : decode cX10_judge 68 = .ok (.ireturn, 1) := by decide +kernel
theorem dX10_judge_69 : decode cX10_judge 69 = .ok (.iinc 5 1, 3) := by decide +kernel
theorem dX10_judge_72 : decode cX10_judge 72 = .ok (.goto (-41), 3) := by decide +kernel
theorem dX10_judge_75 : decode cX10_judge 75 = .ok (.iconst (-1), 1) := by decide +kernel
theorem dX10_judge_76 : decode cX10_judge 76 = .ok (.ireturn, 1) := by decide +kernel
theorem dX10_draw_0 : decode cX10_draw 0 = .ok (.aload_n 0, 1) := by decide +kernel
theorem dX10_draw_1 : decode cX10_draw 1 = .ok (.aload_n 0, 1) := by decide +kernel
theorem dX10_draw_2 : decode cX10_draw 2 = .ok (.getfield 105, 3) := by decide +kernel
theorem dX10_draw_5 : decode cX10_draw 5 = .ok (.ldc_w 339, 3) := by decide +kernel
theorem dX10_draw_8 : decode cX10_draw 8 = .ok (.imul, 1) := by decide +kernel
theorem dX10_draw_9 : decode cX10_draw 9 = .ok (.sipush 12345, 3) := by decide +kernel
theorem dX10_draw_12 : decode cX10_draw 12 = .ok (.iadd, 1) := by decide +kernel
theorem dX10_draw_13 : decode cX10_draw 13 = .ok (.putfield 105, 3) := by decide +kernel
theorem dX10_draw_16 : decode cX10_draw 16 = .ok (.aload_n 0, 1) := by decide +kernel
theorem dX10_draw_17 : decode cX10_draw 17 = .ok (.getfield 105, 3) := by decide +kernel
theorem dX10_draw_20 : decode cX10_draw 20 = .ok (.bipush 16, 2) := by decide +kernel
theorem dX10_draw_22 : decode cX10_draw 22 = .ok (.iushr, 1) := by decide +kernel
theorem dX10_draw_23 : decode cX10_draw 23 = .ok (.iload_n 1, 1) := by decide +kernel
theorem dX10_draw_24 : decode cX10_draw 24 = .ok (.irem, 1) := by decide +kernel
theorem dX10_draw_25 : decode cX10_draw 25 = .ok (.ireturn, 1) := by decide +kernel
theorem dX10_drawn_0 : decode cX10_drawn 0 = .ok (.iload_n 1, 1) := by decide +kernel
theorem dX10_drawn_1 : decode cX10_drawn 1 = .ok (.iconst 1, 1) := by decide +kernel
theorem dX10_drawn_2 : decode cX10_drawn 2 = .ok (.bipush 20, 2) := by decide +kernel
theorem dX10_drawn_4 : decode cX10_drawn 4 = .ok (.invokestatic 108, 3) := by decide +kernel
theorem dX10_drawn_7 : decode cX10_drawn 7 = .ok (.ifCond .ne 10, 3) := by decide +kernel
theorem dX10_drawn_10 : decode cX10_drawn 10 = .ok (.aload_n 0, 1) := by decide +kernel
theorem dX10_drawn_11 : decode cX10_drawn 11 = .ok (.bipush (-6), 2) := by decide +kernel
theorem dX10_drawn_13 : decode cX10_drawn 13 = .ok (.invokevirtual 221, 3) := by decide +kernel
theorem dX10_drawn_16 : decode cX10_drawn 16 = .ok (.ireturn, 1) := by decide +kernel
theorem dX10_drawn_17 : decode cX10_drawn 17 = .ok (.iconst 0, 1) := by decide +kernel
theorem dX10_drawn_18 : decode cX10_drawn 18 = .ok (.istore_n 2, 1) := by decide +kernel
theorem dX10_drawn_19 : decode cX10_drawn 19 = .ok (.iload_n 2, 1) := by decide +kernel
theorem dX10_drawn_20 : decode cX10_drawn 20 = .ok (.iload_n 1, 1) := by decide +kernel
theorem dX10_drawn_21 : decode cX10_drawn 21 = .ok (.if_icmp .ge 21, 3) := by decide +kernel
theorem dX10_drawn_24 : decode cX10_drawn 24 = .ok (.aload_n 0, 1) := by decide +kernel
theorem dX10_drawn_25 : decode cX10_drawn 25 = .ok (.getfield 16, 3) := by decide +kernel
theorem dX10_drawn_28 : decode cX10_drawn 28 = .ok (.aload_n 0, 1) := by decide +kernel
theorem dX10_drawn_29 : decode cX10_drawn 29 = .ok (.bipush 60, 2) := by decide +kernel
theorem dX10_drawn_31 : decode cX10_drawn 31 = .ok (.invokevirtual 340, 3) := by decide +kernel
theorem dX10_drawn_34 : decode cX10_drawn 34 = .ok (.iconst 1, 1) := by decide +kernel
theorem dX10_drawn_35 : decode cX10_drawn 35 = .ok (.iastore, 1) := by decide +kernel
theorem dX10_drawn_36 : decode cX10_drawn 36 = .ok (.iinc 2 1, 3) := by decide +kernel
theorem dX10_drawn_39 : decode cX10_drawn 39 = .ok (.goto (-20), 3) := by decide +kernel
theorem dX10_drawn_42 : decode cX10_drawn 42 = .ok (.aload_n 0, 1) := by decide +kernel
theorem dX10_drawn_43 : decode cX10_drawn 43 = .ok (.invokevirtual 301, 3) := by decide +kernel
theorem dX10_drawn_46 : decode cX10_drawn 46 = .ok (.ireturn, 1) := by decide +kernel
theorem dX10_seed_0 : decode cX10_seed 0 = .ok (.aload_n 0, 1) := by decide +kernel
theorem dX10_seed_1 : decode cX10_seed 1 = .ok (.getfield 105, 3) := by decide +kernel
theorem dX10_seed_4 : decode cX10_seed 4 = .ok (.istore_n 2, 1) := by decide +kernel
theorem dX10_seed_5 : decode cX10_seed 5 = .ok (.aload_n 0, 1) := by decide +kernel
theorem dX10_seed_6 : decode cX10_seed 6 = .ok (.iload_n 1, 1) := by decide +kernel
theorem dX10_seed_7 : decode cX10_seed 7 = .ok (.putfield 105, 3) := by decide +kernel
theorem dX10_seed_10 : decode cX10_seed 10 = .ok (.iload_n 2, 1) := by decide +kernel
theorem dX10_seed_11 : decode cX10_seed 11 = .ok (.ireturn, 1) := by decide +kernel
theorem dX10_passes_0 : decode cX10_passes 0 = .ok (.iconst 0, 1) := by decide +kernel
theorem dX10_passes_1 : decode cX10_passes 1 = .ok (.istore_n 2, 1) := by decide +kernel
theorem dX10_passes_2 : decode cX10_passes 2 = .ok (.iload_n 2, 1) := by decide +kernel
theorem dX10_passes_3 : decode cX10_passes 3 = .ok (.aload_n 1, 1) := by decide +kernel
theorem dX10_passes_4 : decode cX10_passes 4 = .ok (.arraylength, 1) := by decide +kernel
theorem dX10_passes_5 : decode cX10_passes 5 = .ok (.if_icmp .ge 53, 3) := by decide +kernel
theorem dX10_passes_8 : decode cX10_passes 8 = .ok (.aload_n 0, 1) := by decide +kernel
theorem dX10_passes_9 : decode cX10_passes 9 = .ok (.getfield 343, 3) := by decide +kernel
theorem dX10_passes_12 : decode cX10_passes 12 = .ok (.ifCond .eq 18, 3) := by decide +kernel
theorem dX10_passes_15 : decode cX10_passes 15 = .ok (.aload_n 0, 1) := by decide +kernel
theorem dX10_passes_16 : decode cX10_passes 16 = .ok (.getfield 93, 3) := by decide +kernel
theorem dX10_passes_19 : decode cX10_passes 19 = .ok (.aload_n 0, 1) := by decide +kernel
theorem dX10_passes_20 : decode cX10_passes 20 = .ok (.getfield 347, 3) := by decide +kernel
theorem dX10_passes_23 : decode cX10_passes 23 = .ok (.aload_n 1, 1) := by decide +kernel
theorem dX10_passes_24 : decode cX10_passes 24 = .ok (.iload_n 2, 1) := by decide +kernel
theorem dX10_passes_25 : decode cX10_passes 25 = .ok (.iaload, 1) := by decide +kernel
theorem dX10_passes_26 : decode cX10_passes 26 = .ok (.iastore, 1) := by decide +kernel
theorem dX10_passes_27 : decode cX10_passes 27 = .ok (.goto 15, 3) := by decide +kernel
theorem dX10_passes_30 : decode cX10_passes 30 = .ok (.aload_n 1, 1) := by decide +kernel
theorem dX10_passes_31 : decode cX10_passes 31 = .ok (.iload_n 2, 1) := by decide +kernel
theorem dX10_passes_32 : decode cX10_passes 32 = .ok (.aload_n 0, 1) := by decide +kernel
theorem dX10_passes_33 : decode cX10_passes 33 = .ok (.getfield 93, 3) := by decide +kernel
theorem dX10_passes_36 : decode cX10_passes 36 = .ok (.aload_n 0, 1) := by decide +kernel
theorem dX10_passes_37 : decode cX10_passes 37 = .ok (.getfield 347, 3) := by decide +kernel
theorem dX10_passes_40 : decode cX10_passes 40 = .ok (.iaload, 1) := by decide +kernel
theorem dX10_passes_41 : decode cX10_passes 41 = .ok (.iastore, 1) := by decide +kernel
theorem dX10_passes_42 : decode cX10_passes 42 = .ok (.aload_n 0, 1) := by decide +kernel
theorem dX10_passes_43 : decode cX10_passes 43 = .ok (.dup, 1) := by decide +kernel
theorem dX10_passes_44 : decode cX10_passes 44 = .ok (.getfield 347, 3) := by decide +kernel
theorem dX10_passes_47 : decode cX10_passes 47 = .ok (.iconst 1, 1) := by decide +kernel
theorem dX10_passes_48 : decode cX10_passes 48 = .ok (.iadd, 1) := by decide +kernel
theorem dX10_passes_49 : decode cX10_passes 49 = .ok (.putfield 347, 3) := by decide +kernel
theorem dX10_passes_52 : decode cX10_passes 52 = .ok (.iinc 2 1, 3) := by decide +kernel
theorem dX10_passes_55 : decode cX10_passes 55 = .ok (.goto (-53), 3) := by decide +kernel
theorem dX10_passes_58 : decode cX10_passes 58 = .ok (.return_, 1) := by decide +kernel
theorem dX10_passOne_0 : decode cX10_passOne 0 = .ok (.aload_n 0, 1) := by decide +kernel
theorem dX10_passOne_1 : decode cX10_passOne 1 = .ok (.getfield 343, 3) := by decide +kernel
theorem dX10_passOne_4 : decode cX10_passOne 4 = .ok (.ifCond .eq 7, 3) := by decide +kernel
theorem dX10_passOne_7 : decode cX10_passOne 7 = .ok (.iload_n 1, 1) := by decide +kernel
theorem dX10_passOne_8 : decode cX10_passOne 8 = .ok (.goto 12, 3) := by decide +kernel
theorem dX10_passOne_11 : decode cX10_passOne 11 = .ok (.aload_n 0, 1) := by decide +kernel
theorem dX10_passOne_12 : decode cX10_passOne 12 = .ok (.getfield 93, 3) := by decide +kernel
theorem dX10_passOne_15 : decode cX10_passOne 15 = .ok (.aload_n 0, 1) := by decide +kernel
theorem dX10_passOne_16 : decode cX10_passOne 16 = .ok (.getfield 347, 3) := by decide +kernel
theorem dX10_passOne_19 : decode cX10_passOne 19 = .ok (.iaload, 1) := by decide +kernel
theorem dX10_passOne_20 : decode cX10_passOne 20 = .ok (.istore_n 2, 1) := by decide +kernel
theorem dX10_passOne_21 : decode cX10_passOne 21 = .ok (.aload_n 0, 1) := by decide +kernel
theorem dX10_passOne_22 : decode cX10_passOne 22 = .ok (.getfield 343, 3) := by decide +kernel
theorem dX10_passOne_25 : decode cX10_passOne 25 = .ok (.ifCond .eq 13, 3) := by decide +kernel
theorem dX10_passOne_28 : decode cX10_passOne 28 = .ok (.aload_n 0, 1) := by decide +kernel
theorem dX10_passOne_29 : decode cX10_passOne 29 = .ok (.getfield 93, 3) := by decide +kernel
theorem dX10_passOne_32 : decode cX10_passOne 32 = .ok (.aload_n 0, 1) := by decide +kernel
theorem dX10_passOne_33 : decode cX10_passOne 33 = .ok (.getfield 347, 3) := by decide +kernel
theorem dX10_passOne_36 : decode cX10_passOne 36 = .ok (.iload_n 1, 1) := by decide +kernel
theorem dX10_passOne_37 : decode cX10_passOne 37 = .ok (.iastore, 1) := by decide +kernel
theorem dX10_passOne_38 : decode cX10_passOne 38 = .ok (.aload_n 0, 1) := by decide +kernel
theorem dX10_passOne_39 : decode cX10_passOne 39 = .ok (.dup, 1) := by decide +kernel
theorem dX10_passOne_40 : decode cX10_passOne 40 = .ok (.getfield 347, 3) := by decide +kernel
theorem dX10_passOne_43 : decode cX10_passOne 43 = .ok (.iconst 1, 1) := by decide +kernel
theorem dX10_passOne_44 : decode cX10_passOne 44 = .ok (.iadd, 1) := by decide +kernel
theorem dX10_passOne_45 : decode cX10_passOne 45 = .ok (.putfield 347, 3) := by decide +kernel
theorem dX10_passOne_48 : decode cX10_passOne 48 = .ok (.iload_n 2, 1) := by decide +kernel
theorem dX10_passOne_49 : decode cX10_passOne 49 = .ok (.ireturn, 1) := by decide +kernel
theorem dX10_passesAll_0 : decode cX10_passesAll 0 = .ok (.aload_n 0, 1) := by decide +kernel
theorem dX10_passesAll_1 : decode cX10_passesAll 1 = .ok (.iconst 0, 1) := by decide +kernel
theorem dX10_passesAll_2 : decode cX10_passesAll 2 = .ok (.putfield 347, 3) := by decide +kernel
theorem dX10_passesAll_5 : decode cX10_passesAll 5 = .ok (.aload_n 0, 1) := by decide +kernel
theorem dX10_passesAll_6 : decode cX10_passesAll 6 = .ok (.iload_n 1, 1) := by decide +kernel
theorem dX10_passesAll_7 : decode cX10_passesAll 7 = .ok (.putfield 343, 3) := by decide +kernel
theorem dX10_passesAll_10 : decode cX10_passesAll 10 = .ok (.aload_n 0, 1) := by decide +kernel
theorem dX10_passesAll_11 : decode cX10_passesAll 11 = .ok (.aload_n 0, 1) := by decide +kernel
theorem dX10_passesAll_12 : decode cX10_passesAll 12 = .ok (.getfield 13, 3) := by decide +kernel
theorem dX10_passesAll_15 : decode cX10_passesAll 15 = .ok (.invokevirtual 350, 3) := by decide +kernel
theorem dX10_passesAll_18 : decode cX10_passesAll 18 = .ok (.aload_n 0, 1) := by decide +kernel
theorem dX10_passesAll_19 : decode cX10_passesAll 19 = .ok (.aload_n 0, 1) := by decide +kernel
theorem dX10_passesAll_20 : decode cX10_passesAll 20 = .ok (.getfield 16, 3) := by decide +kernel
theorem dX10_passesAll_23 : decode cX10_passesAll 23 = .ok (.invokevirtual 350, 3) := by decide +kernel
theorem dX10_passesAll_26 : decode cX10_passesAll 26 = .ok (.aload_n 0, 1) := by decide +kernel
theorem dX10_passesAll_27 : decode cX10_passesAll 27 = .ok (.aload_n 0, 1) := by decide +kernel
theorem dX10_passesAll_28 : decode cX10_passesAll 28 = .ok (.getfield 19, 3) := by decide +kernel
theorem dX10_passesAll_31 : decode cX10_passesAll 31 = .ok (.invokevirtual 350, 3) := by decide +kernel
theorem dX10_passesAll_34 : decode cX10_passesAll 34 = .ok (.aload_n 0, 1) := by decide +kernel
theorem dX10_passesAll_35 : decode cX10_passesAll 35 = .ok (.aload_n 0, 1) := by decide +kernel
theorem dX10_passesAll_36 : decode cX10_passesAll 36 = .ok (.getfield 22, 3) := by decide +kernel
theorem dX10_passesAll_39 : decode cX10_passesAll 39 = .ok (.invokevirtual 350, 3) := by decide +kernel
theorem dX10_passesAll_42 : decode cX10_passesAll 42 = .ok (.aload_n 0, 1) := by decide +kernel
theorem dX10_passesAll_43 : decode cX10_passesAll 43 = .ok (.aload_n 0, 1) := by decide +kernel
theorem dX10_passesAll_44 : decode cX10_passesAll 44 = .ok (.aload_n 0, 1) := by decide +kernel
theorem dX10_passesAll_45 : decode cX10_passesAll 45 = .ok (.getfield 96, 3) := by decide +kernel
theorem dX10_passesAll_48 : decode cX10_passesAll 48 = .ok (.invokevirtual 354, 3) := by decide +kernel
theorem dX10_passesAll_51 : decode cX10_passesAll 51 = .ok (.putfield 96, 3) := by decide +kernel
theorem dX10_passesAll_54 : decode cX10_passesAll 54 = .ok (.aload_n 0, 1) := by decide +kernel
theorem dX10_passesAll_55 : decode cX10_passesAll 55 = .ok (.aload_n 0, 1) := by decide +kernel
theorem dX10_passesAll_56 : decode cX10_passesAll 56 = .ok (.aload_n 0, 1) := by decide +kernel
theorem dX10_passesAll_57 : decode cX10_passesAll 57 = .ok (.getfield 99, 3) := by decide +kernel
theorem dX10_passesAll_60 : decode cX10_passesAll 60 = .ok (.invokevirtual 354, 3) := by decide +kernel
theorem dX10_passesAll_63 : decode cX10_passesAll 63 = .ok (.putfield 99, 3) := by decide +kernel
theorem dX10_passesAll_66 : decode cX10_passesAll 66 = .ok (.aload_n 0, 1) := by decide +kernel
theorem dX10_passesAll_67 : decode cX10_passesAll 67 = .ok (.aload_n 0, 1) := by decide +kernel
theorem dX10_passesAll_68 : decode cX10_passesAll 68 = .ok (.aload_n 0, 1) := by decide +kernel
theorem dX10_passesAll_69 : decode cX10_passesAll 69 = .ok (.getfield 102, 3) := by decide +kernel
theorem dX10_passesAll_72 : decode cX10_passesAll 72 = .ok (.invokevirtual 354, 3) := by decide +kernel
theorem dX10_passesAll_75 : decode cX10_passesAll 75 = .ok (.putfield 102, 3) := by decide +kernel
theorem dX10_passesAll_78 : decode cX10_passesAll 78 = .ok (.aload_n 0, 1) := by decide +kernel
theorem dX10_passesAll_79 : decode cX10_passesAll 79 = .ok (.aload_n 0, 1) := by decide +kernel
theorem dX10_passesAll_80 : decode cX10_passesAll 80 = .ok (.aload_n 0, 1) := by decide +kernel
theorem dX10_passesAll_81 : decode cX10_passesAll 81 = .ok (.getfield 136, 3) := by decide +kernel
theorem dX10_passesAll_84 : decode cX10_passesAll 84 = .ok (.invokevirtual 354, 3) := by decide +kernel
theorem dX10_passesAll_87 : decode cX10_passesAll 87 = .ok (.putfield 136, 3) := by decide +kernel
theorem dX10_passesAll_90 : decode cX10_passesAll 90 = .ok (.aload_n 0, 1) := by decide +kernel
theorem dX10_passesAll_91 : decode cX10_passesAll 91 = .ok (.aload_n 0, 1) := by decide +kernel
theorem dX10_passesAll_92 : decode cX10_passesAll 92 = .ok (.aload_n 0, 1) := by decide +kernel
theorem dX10_passesAll_93 : decode cX10_passesAll 93 = .ok (.getfield 105, 3) := by decide +kernel
theorem dX10_passesAll_96 : decode cX10_passesAll 96 = .ok (.invokevirtual 354, 3) := by decide +kernel
theorem dX10_passesAll_99 : decode cX10_passesAll 99 = .ok (.putfield 105, 3) := by decide +kernel
theorem dX10_passesAll_102 : decode cX10_passesAll 102 = .ok (.return_, 1) := by decide +kernel
theorem dX10_image_0 : decode cX10_image 0 = .ok (.aload_n 0, 1) := by decide +kernel
theorem dX10_image_1 : decode cX10_image 1 = .ok (.iconst 1, 1) := by decide +kernel
theorem dX10_image_2 : decode cX10_image 2 = .ok (.putfield 357, 3) := by decide +kernel
theorem dX10_image_5 : decode cX10_image 5 = .ok (.aload_n 0, 1) := by decide +kernel
theorem dX10_image_6 : decode cX10_image 6 = .ok (.iconst 1, 1) := by decide +kernel
theorem dX10_image_7 : decode cX10_image 7 = .ok (.invokevirtual 360, 3) := by decide +kernel
theorem dX10_image_10 : decode cX10_image 10 = .ok (.iconst 1, 1) := by decide +kernel
theorem dX10_image_11 : decode cX10_image 11 = .ok (.ireturn, 1) := by decide +kernel
theorem dX10_restore_0 : decode cX10_restore 0 = .ok (.aload_n 0, 1) := by decide +kernel
theorem dX10_restore_1 : decode cX10_restore 1 = .ok (.getfield 357, 3) := by decide +kernel
theorem dX10_restore_4 : decode cX10_restore 4 = .ok (.ifCond .ne 10, 3) := by decide +kernel
theorem dX10_restore_7 : decode cX10_restore 7 = .ok (.aload_n 0, 1) := by decide +kernel
theorem dX10_restore_8 : decode cX10_restore 8 = .ok (.bipush (-6), 2) := by decide +kernel
theorem dX10_restore_10 : decode cX10_restore 10 = .ok (.invokevirtual 221, 3) := by decide +kernel
theorem dX10_restore_13 : decode cX10_restore 13 = .ok (.ireturn, 1) := by decide +kernel
theorem dX10_restore_14 : decode cX10_restore 14 = .ok (.aload_n 0, 1) := by decide +kernel
theorem dX10_restore_15 : decode cX10_restore 15 = .ok (.iconst 0, 1) := by decide +kernel
theorem dX10_restore_16 : decode cX10_restore 16 = .ok (.invokevirtual 360, 3) := by decide +kernel
theorem dX10_restore_19 : decode cX10_restore 19 = .ok (.iconst 1, 1) := by decide +kernel
theorem dX10_restore_20 : decode cX10_restore 20 = .ok (.ireturn, 1) := by decide +kernel
theorem dX10_status_0 : decode cX10_status 0 = .ok (.iload_n 1, 1) := by decide +kernel
theorem dX10_status_1 : decode cX10_status 1 = .ok (.bipush 11, 2) := by decide +kernel
theorem dX10_status_3 : decode cX10_status 3 = .ok (.bipush 17, 2) := by decide +kernel
theorem dX10_status_5 : decode cX10_status 5 = .ok (.invokestatic 108, 3) := by decide +kernel
theorem dX10_status_8 : decode cX10_status 8 = .ok (.ifCond .eq 13, 3) := by decide +kernel
theorem dX10_status_11 : decode cX10_status 11 = .ok (.aload_n 0, 1) := by decide +kernel
theorem dX10_status_12 : decode cX10_status 12 = .ok (.getfield 7, 3) := by decide +kernel
theorem dX10_status_15 : decode cX10_status 15 = .ok (.iload_n 1, 1) := by decide +kernel
theorem dX10_status_16 : decode cX10_status 16 = .ok (.bipush 10, 2) := by decide +kernel
theorem dX10_status_18 : decode cX10_status 18 = .ok (.isub, 1) := by decide +kernel
theorem dX10_status_19 : decode cX10_status 19 = .ok (.iaload, 1) := by decide +kernel
theorem dX10_status_20 : decode cX10_status 20 = .ok (.ireturn, 1) := by decide +kernel
theorem dX10_status_21 : decode cX10_status 21 = .ok (.iload_n 1, 1) := by decide +kernel
theorem dX10_status_22 : decode cX10_status 22 = .ok (.ifCond .eq 5, 3) := by decide +kernel
theorem dX10_status_25 : decode cX10_status 25 = .ok (.iconst (-1), 1) := by decide +kernel
theorem dX10_status_26 : decode cX10_status 26 = .ok (.ireturn, 1) := by decide +kernel
theorem dX10_status_27 : decode cX10_status 27 = .ok (.iconst 0, 1) := by decide +kernel
theorem dX10_status_28 : decode cX10_status 28 = .ok (.istore_n 2, 1) := by decide +kernel
theorem dX10_status_29 : decode cX10_status 29 = .ok (.iconst 0, 1) := by decide +kernel
theorem dX10_status_30 : decode cX10_status 30 = .ok (.istore_n 3, 1) := by decide +kernel
theorem dX10_status_31 : decode cX10_status 31 = .ok (.iload_n 3, 1) := by decide +kernel
theorem dX10_status_32 : decode cX10_status 32 = .ok (.bipush 8, 2) := by decide +kernel
theorem dX10_status_34 : decode cX10_status 34 = .ok (.if_icmp .ge 26, 3) := by decide +kernel
theorem dX10_status_37 : decode cX10_status 37 = .ok (.iload_n 2, 1) := by decide +kernel
theorem dX10_status_38 : decode cX10_status 38 = .ok (.aload_n 0, 1) := by decide +kernel
theorem dX10_status_39 : decode cX10_status 39 = .ok (.getfield 67, 3) := by decide +kernel
theorem dX10_status_42 : decode cX10_status 42 = .ok (.iload_n 3, 1) := by decide +kernel
theorem dX10_status_43 : decode cX10_status 43 = .ok (.iaload, 1) := by decide +kernel
theorem dX10_status_44 : decode cX10_status 44 = .ok (.ifCond .eq 7, 3) := by decide +kernel
theorem dX10_status_47 : decode cX10_status 47 = .ok (.iconst 1, 1) := by decide +kernel
theorem dX10_status_48 : decode cX10_status 48 = .ok (.goto 4, 3) := by decide +kernel
theorem dX10_status_51 : decode cX10_status 51 = .ok (.iconst 0, 1) := by decide +kernel
theorem dX10_status_52 : decode cX10_status 52 = .ok (.iadd, 1) := by decide +kernel
theorem dX10_status_53 : decode cX10_status 53 = .ok (.istore_n 2, 1) := by decide +kernel
theorem dX10_status_54 : decode cX10_status 54 = .ok (.iinc 3 1, 3) := by decide +kernel
theorem dX10_status_57 : decode cX10_status 57 = .ok (.goto (-26), 3) := by decide +kernel
theorem dX10_status_60 : decode cX10_status 60 = .ok (.iload_n 2, 1) := by decide +kernel
theorem dX10_status_61 : decode cX10_status 61 = .ok (.ireturn, 1) := by decide +kernel
