theorem dX9_init_0 : decode cX9_init 0 = .ok (.aload_n 0, 1) := by decide +kernel
theorem dX9_init_1 : decode cX9_init 1 = .ok (.invokespecial 1, 3) := by decide +kernel
theorem dX9_init_4 : decode cX9_init 4 = .ok (.aload_n 0, 1) := by decide +kernel
theorem dX9_init_5 : decode cX9_init 5 = .ok (.sipush 300, 3) := by decide +kernel
theorem dX9_init_8 : decode cX9_init 8 = .ok (.newarray .int, 2) := by decide +kernel
theorem dX9_init_10 : decode cX9_init 10 = .ok (.putfield 7, 3) := by decide +kernel
theorem dX9_init_13 : decode cX9_init 13 = .ok (.aload_n 0, 1) := by decide +kernel
theorem dX9_init_14 : decode cX9_init 14 = .ok (.sipush 300, 3) := by decide +kernel
theorem dX9_init_17 : decode cX9_init 17 = .ok (.newarray .int, 2) := by decide +kernel
theorem dX9_init_19 : decode cX9_init 19 = .ok (.putfield 13, 3) := by decide +kernel
theorem dX9_init_22 : decode cX9_init 22 = .ok (.aload_n 0, 1) := by decide +kernel
theorem dX9_init_23 : decode cX9_init 23 = .ok (.sipush 300, 3) := by decide +kernel
theorem dX9_init_26 : decode cX9_init 26 = .ok (.newarray .int, 2) := by decide +kernel
theorem dX9_init_28 : decode cX9_init 28 = .ok (.putfield 16, 3) := by decide +kernel
theorem dX9_init_31 : decode cX9_init 31 = .ok (.aload_n 0, 1) := by decide +kernel
theorem dX9_init_32 : decode cX9_init 32 = .ok (.sipush 300, 3) := by decide +kernel
theorem dX9_init_35 : decode cX9_init 35 = .ok (.newarray .int, 2) := by decide +kernel
theorem dX9_init_37 : decode cX9_init 37 = .ok (.putfield 19, 3) := by decide +kernel
theorem dX9_init_40 : decode cX9_init 40 = .ok (.aload_n 0, 1) := by decide +kernel
theorem dX9_init_41 : decode cX9_init 41 = .ok (.sipush 300, 3) := by decide +kernel
theorem dX9_init_44 : decode cX9_init 44 = .ok (.newarray .int, 2) := by decide +kernel
theorem dX9_init_46 : decode cX9_init 46 = .ok (.putfield 22, 3) := by decide +kernel
theorem dX9_init_49 : decode cX9_init 49 = .ok (.aload_n 0, 1) := by decide +kernel
theorem dX9_init_50 : decode cX9_init 50 = .ok (.sipush 300, 3) := by decide +kernel
theorem dX9_init_53 : decode cX9_init 53 = .ok (.newarray .int, 2) := by decide +kernel
theorem dX9_init_55 : decode cX9_init 55 = .ok (.putfield 25, 3) := by decide +kernel
theorem dX9_init_58 : decode cX9_init 58 = .ok (.aload_n 0, 1) := by decide +kernel
theorem dX9_init_59 : decode cX9_init 59 = .ok (.bipush 60, 2) := by decide +kernel
theorem dX9_init_61 : decode cX9_init 61 = .ok (.newarray .int, 2) := by decide +kernel
theorem dX9_init_63 : decode cX9_init 63 = .ok (.putfield 28, 3) := by decide +kernel
theorem dX9_init_66 : decode cX9_init 66 = .ok (.aload_n 0, 1) := by decide +kernel
theorem dX9_init_67 : decode cX9_init 67 = .ok (.bipush 60, 2) := by decide +kernel
theorem dX9_init_69 : decode cX9_init 69 = .ok (.newarray .int, 2) := by decide +kernel
theorem dX9_init_71 : decode cX9_init 71 = .ok (.putfield 31, 3) := by decide +kernel
theorem dX9_init_74 : decode cX9_init 74 = .ok (.aload_n 0, 1) := by decide +kernel
theorem dX9_init_75 : decode cX9_init 75 = .ok (.bipush 120, 2) := by decide +kernel
theorem dX9_init_77 : decode cX9_init 77 = .ok (.newarray .int, 2) := by decide +kernel
theorem dX9_init_79 : decode cX9_init 79 = .ok (.putfield 34, 3) := by decide +kernel
theorem dX9_init_82 : decode cX9_init 82 = .ok (.aload_n 0, 1) := by decide +kernel
theorem dX9_init_83 : decode cX9_init 83 = .ok (.bipush 60, 2) := by decide +kernel
theorem dX9_init_85 : decode cX9_init 85 = .ok (.newarray .boolean, 2) := by decide +kernel
theorem dX9_init_87 : decode cX9_init 87 = .ok (.putfield 37, 3) := by decide +kernel
theorem dX9_init_90 : decode cX9_init 90 = .ok (.aload_n 0, 1) := by decide +kernel
theorem dX9_init_91 : decode cX9_init 91 = .ok (.bipush 20, 2) := by decide +kernel
theorem dX9_init_93 : decode cX9_init 93 = .ok (.newarray .int, 2) := by decide +kernel
theorem dX9_init_95 : decode cX9_init 95 = .ok (.putfield 41, 3) := by decide +kernel
theorem dX9_init_98 : decode cX9_init 98 = .ok (.aload_n 0, 1) := by decide +kernel
theorem dX9_init_99 : decode cX9_init 99 = .ok (.bipush 20, 2) := by decide +kernel
theorem dX9_init_101 : decode cX9_init 101 = .ok (.newarray .int, 2) := by decide +kernel
theorem dX9_init_103 : decode cX9_init 103 = .ok (.putfield 44, 3) := by decide +kernel
theorem dX9_init_106 : decode cX9_init 106 = .ok (.aload_n 0, 1) := by decide +kernel
theorem dX9_init_107 : decode cX9_init 107 = .ok (.sipush 200, 3) := by decide +kernel
theorem dX9_init_110 : decode cX9_init 110 = .ok (.newarray .int, 2) := by decide +kernel
theorem dX9_init_112 : decode cX9_init 112 = .ok (.putfield 47, 3) := by decide +kernel
theorem dX9_init_115 : decode cX9_init 115 = .ok (.aload_n 0, 1) := by decide +kernel
theorem dX9_init_116 : decode cX9_init 116 = .ok (.sipush 200, 3) := by decide +kernel
theorem dX9_init_119 : decode cX9_init 119 = .ok (.newarray .int, 2) := by decide +kernel
theorem dX9_init_121 : decode cX9_init 121 = .ok (.putfield 50, 3) := by decide +kernel
theorem dX9_init_124 : decode cX9_init 124 = .ok (.aload_n 0, 1) := by decide +kernel
theorem dX9_init_125 : decode cX9_init 125 = .ok (.sipush 200, 3) := by decide +kernel
theorem dX9_init_128 : decode cX9_init 128 = .ok (.newarray .int, 2) := by decide +kernel
theorem dX9_init_130 : decode cX9_init 130 = .ok (.putfield 53, 3) := by decide +kernel
theorem dX9_init_133 : decode cX9_init 133 = .ok (.aload_n 0, 1) := by decide +kernel
theorem dX9_init_134 : decode cX9_init 134 = .ok (.sipush 200, 3) := by decide +kernel
theorem dX9_init_137 : decode cX9_init 137 = .ok (.newarray .int, 2) := by decide +kernel
theorem dX9_init_139 : decode cX9_init 139 = .ok (.putfield 56, 3) := by decide +kernel
theorem dX9_init_142 : decode cX9_init 142 = .ok (.aload_n 0, 1) := by decide +kernel
theorem dX9_init_143 : decode cX9_init 143 = .ok (.bipush 20, 2) := by decide +kernel
theorem dX9_init_145 : decode cX9_init 145 = .ok (.newarray .int, 2) := by decide +kernel
theorem dX9_init_147 : decode cX9_init 147 = .ok (.putfield 59, 3) := by decide +kernel
theorem dX9_init_150 : decode cX9_init 150 = .ok (.aload_n 0, 1) := by decide +kernel
theorem dX9_init_151 : decode cX9_init 151 = .ok (.bipush 20, 2) := by decide +kernel
theorem dX9_init_153 : decode cX9_init 153 = .ok (.newarray .int, 2) := by decide +kernel
theorem dX9_init_155 : decode cX9_init 155 = .ok (.putfield 62, 3) := by decide +kernel
theorem dX9_init_158 : decode cX9_init 158 = .ok (.aload_n 0, 1) := by decide +kernel
theorem dX9_init_159 : decode cX9_init 159 = .ok (.bipush 20, 2) := by decide +kernel
theorem dX9_init_161 : decode cX9_init 161 = .ok (.newarray .int, 2) := by decide +kernel
theorem dX9_init_163 : decode cX9_init 163 = .ok (.putfield 65, 3) := by decide +kernel
theorem dX9_init_166 : decode cX9_init 166 = .ok (.aload_n 0, 1) := by decide +kernel
theorem dX9_init_167 : decode cX9_init 167 = .ok (.sipush 200, 3) := by decide +kernel
theorem dX9_init_170 : decode cX9_init 170 = .ok (.newarray .int, 2) := by decide +kernel
theorem dX9_init_172 : decode cX9_init 172 = .ok (.putfield 68, 3) := by decide +kernel
theorem dX9_init_175 : decode cX9_init 175 = .ok (.aload_n 0, 1) := by decide +kernel
theorem dX9_init_176 : decode cX9_init 176 = .ok (.sipush 200, 3) := by decide +kernel
theorem dX9_init_179 : decode cX9_init 179 = .ok (.newarray .int, 2) := by decide +kernel
theorem dX9_init_181 : decode cX9_init 181 = .ok (.putfield 71, 3) := by decide +kernel
theorem dX9_init_184 : decode cX9_init 184 = .ok (.aload_n 0, 1) := by decide +kernel
theorem dX9_init_185 : decode cX9_init 185 = .ok (.sipush 200, 3) := by decide +kernel
theorem dX9_init_188 : decode cX9_init 188 = .ok (.newarray .int, 2) := by decide +kernel
theorem dX9_init_190 : decode cX9_init 190 = .ok (.putfield 74, 3) := by decide +kernel
theorem dX9_init_193 : decode cX9_init 193 = .ok (.aload_n 0, 1) := by decide +kernel
theorem dX9_init_194 : decode cX9_init 194 = .ok (.sipush 200, 3) := by decide +kernel
theorem dX9_init_197 : decode cX9_init 197 = .ok (.newarray .int, 2) := by decide +kernel
theorem dX9_init_199 : decode cX9_init 199 = .ok (.putfield 77, 3) := by decide +kernel
theorem dX9_init_202 : decode cX9_init 202 = .ok (.aload_n 0, 1) := by decide +kernel
theorem dX9_init_203 : decode cX9_init 203 = .ok (.bipush 6, 2) := by decide +kernel
theorem dX9_init_205 : decode cX9_init 205 = .ok (.newarray .int, 2) := by decide +kernel
theorem dX9_init_207 : decode cX9_init 207 = .ok (.putfield 80, 3) := by decide +kernel
theorem dX9_init_210 : decode cX9_init 210 = .ok (.aload_n 0, 1) := by decide +kernel
theorem dX9_init_211 : decode cX9_init 211 = .ok (.sipush 200, 3) := by decide +kernel
theorem dX9_init_214 : decode cX9_init 214 = .ok (.newarray .int, 2) := by decide +kernel
theorem dX9_init_216 : decode cX9_init 216 = .ok (.putfield 83, 3) := by decide +kernel
theorem dX9_init_219 : decode cX9_init 219 = .ok (.aload_n 0, 1) := by decide +kernel
theorem dX9_init_220 : decode cX9_init 220 = .ok (.iconst (-1), 1) := by decide +kernel
theorem dX9_init_221 : decode cX9_init 221 = .ok (.putfield 86, 3) := by decide +kernel
theorem dX9_init_224 : decode cX9_init 224 = .ok (.aload_n 0, 1) := by decide +kernel
theorem dX9_init_225 : decode cX9_init 225 = .ok (.sipush 600, 3) := by decide +kernel
theorem dX9_init_228 : decode cX9_init 228 = .ok (.newarray .int, 2) := by decide +kernel
theorem dX9_init_230 : decode cX9_init 230 = .ok (.putfield 90, 3) := by decide +kernel
theorem dX9_init_233 : decode cX9_init 233 = .ok (.aload_n 0, 1) := by decide +kernel
theorem dX9_init_234 : decode cX9_init 234 = .ok (.sipush 600, 3) := by decide +kernel
theorem dX9_init_237 : decode cX9_init 237 = .ok (.newarray .int, 2) := by decide +kernel
theorem dX9_init_239 : decode cX9_init 239 = .ok (.putfield 93, 3) := by decide +kernel
theorem dX9_init_242 : decode cX9_init 242 = .ok (.aload_n 0, 1) := by decide +kernel
theorem dX9_init_243 : decode cX9_init 243 = .ok (.bipush 60, 2) := by decide +kernel
theorem dX9_init_245 : decode cX9_init 245 = .ok (.newarray .boolean, 2) := by decide +kernel
theorem dX9_init_247 : decode cX9_init 247 = .ok (.putfield 96, 3) := by decide +kernel
theorem dX9_init_250 : decode cX9_init 250 = .ok (.aload_n 0, 1) := by decide +kernel
theorem dX9_init_251 : decode cX9_init 251 = .ok (.bipush 8, 2) := by decide +kernel
theorem dX9_init_253 : decode cX9_init 253 = .ok (.newarray .int, 2) := by decide +kernel
theorem dX9_init_255 : decode cX9_init 255 = .ok (.putfield 99, 3) := by decide +kernel
theorem dX9_init_258 : decode cX9_init 258 = .ok (.aload_n 0, 1) := by decide +kernel
theorem dX9_init_259 : decode cX9_init 259 = .ok (.bipush 8, 2) := by decide +kernel
theorem dX9_init_261 : decode cX9_init 261 = .ok (.newarray .int, 2) := by decide +kernel
theorem dX9_init_263 : decode cX9_init 263 = .ok (.putfield 102, 3) := by decide +kernel
theorem dX9_init_266 : decode cX9_init 266 = .ok (.aload_n 0, 1) := by decide +kernel
theorem dX9_init_267 : decode cX9_init 267 = .ok (.bipush 8, 2) := by decide +kernel
theorem dX9_init_269 : decode cX9_init 269 = .ok (.newarray .int, 2) := by decide +kernel
theorem dX9_init_271 : decode cX9_init 271 = .ok (.putfield 105, 3) := by decide +kernel
theorem dX9_init_274 : decode cX9_init 274 = .ok (.aload_n 0, 1) := by decide +kernel
theorem dX9_init_275 : decode cX9_init 275 = .ok (.bipush 10, 2) := by decide +kernel
theorem dX9_init_277 : decode cX9_init 277 = .ok (.newarray .int, 2) := by decide +kernel
theorem dX9_init_279 : decode cX9_init 279 = .ok (.putfield 108, 3) := by decide +kernel
theorem dX9_init_282 : decode cX9_init 282 = .ok (.aload_n 0, 1) := by decide +kernel
theorem dX9_init_283 : decode cX9_init 283 = .ok (.bipush 10, 2) := by decide +kernel
theorem dX9_init_285 : decode cX9_init 285 = .ok (.newarray .int, 2) := by decide +kernel
theorem dX9_init_287 : decode cX9_init 287 = .ok (.putfield 111, 3) := by decide +kernel
theorem dX9_init_290 : decode cX9_init 290 = .ok (.aload_n 0, 1) := by decide +kernel
theorem dX9_init_291 : decode cX9_init 291 = .ok (.sipush 6000, 3) := by decide +kernel
theorem dX9_init_294 : decode cX9_init 294 = .ok (.newarray .int, 2) := by decide +kernel
theorem dX9_init_296 : decode cX9_init 296 = .ok (.putfield 114, 3) := by decide +kernel
theorem dX9_init_299 : decode cX9_init 299 = .ok (.aload_n 0, 1) := by decide +kernel
theorem dX9_init_300 : decode cX9_init 300 = .ok (.sipush 6000, 3) := by decide +kernel
theorem dX9_init_303 : decode cX9_init 303 = .ok (.newarray .int, 2) := by decide +kernel
theorem dX9_init_305 : decode cX9_init 305 = .ok (.putfield 117, 3) := by decide +kernel
theorem dX9_init_308 : decode cX9_init 308 = .ok (.aload_n 0, 1) := by decide +kernel
theorem dX9_init_309 : decode cX9_init 309 = .ok (.sipush 600, 3) := by decide +kernel
theorem dX9_init_312 : decode cX9_init 312 = .ok (.newarray .int, 2) := by decide +kernel
theorem dX9_init_314 : decode cX9_init 314 = .ok (.putfield 120, 3) := by decide +kernel
theorem dX9_init_317 : decode cX9_init 317 = .ok (.return_, 1) := by decide +kernel
theorem dX9_in_0 : decode cX9_in 0 = .ok (.lload_n 0, 1) := by decide +kernel
theorem dX9_in_1 : decode cX9_in 1 = .ok (.lload_n 2, 1) := by decide +kernel
theorem dX9_in_2 : decode cX9_in 2 = .ok (.lcmp, 1) := by decide +kernel
theorem dX9_in_3 : decode cX9_in 3 = .ok (.ifCond .lt 14, 3) := by decide +kernel
theorem dX9_in_6 : decode cX9_in 6 = .ok (.lload_n 0, 1) := by decide +kernel
theorem dX9_in_7 : decode cX9_in 7 = .ok (.lload 4, 2) := by decide +kernel
theorem dX9_in_9 : decode cX9_in 9 = .ok (.lcmp, 1) := by decide +kernel
theorem dX9_in_10 : decode cX9_in 10 = .ok (.ifCond .gt 7, 3) := by decide +kernel
theorem dX9_in_13 : decode cX9_in 13 = .ok (.iconst 1, 1) := by decide +kernel
theorem dX9_in_14 : decode cX9_in 14 = .ok (.goto 4, 3) := by decide +kernel
theorem dX9_in_17 : decode cX9_in 17 = .ok (.iconst 0, 1) := by decide +kernel
theorem dX9_in_18 : decode cX9_in 18 = .ok (.ireturn, 1) := by decide +kernel
theorem dX9_told_0 : decode cX9_told 0 = .ok (.aload_n 0, 1) := by decide +kernel
theorem dX9_told_1 : decode cX9_told 1 = .ok (.iload_n 1, 1) := by decide +kernel
theorem dX9_told_2 : decode cX9_told 2 = .ok (.ifCond .ge 7, 3) := by decide +kernel
theorem dX9_told_5 : decode cX9_told 5 = .ok (.iload_n 1, 1) := by decide +kernel
theorem dX9_told_6 : decode cX9_told 6 = .ok (.goto 4, 3) := by decide +kernel
theorem dX9_told_9 : decode cX9_told 9 = .ok (.iconst 0, 1) := by decide +kernel
theorem dX9_told_10 : decode cX9_told 10 = .ok (.putfield 126, 3) := by decide +kernel
theorem dX9_told_13 : decode cX9_told 13 = .ok (.iload_n 1, 1) := by decide +kernel
theorem dX9_told_14 : decode cX9_told 14 = .ok (.ireturn, 1) := by decide +kernel
theorem dX9_tell_0 : decode cX9_tell 0 = .ok (.aload_n 0, 1) := by decide +kernel
theorem dX9_tell_1 : decode cX9_tell 1 = .ok (.getfield 7, 3) := by decide +kernel
theorem dX9_tell_4 : decode cX9_tell 4 = .ok (.aload_n 0, 1) := by decide +kernel
theorem dX9_tell_5 : decode cX9_tell 5 = .ok (.getfield 129, 3) := by decide +kernel
theorem dX9_tell_8 : decode cX9_tell 8 = .ok (.iload_n 1, 1) := by decide +kernel
theorem dX9_tell_9 : decode cX9_tell 9 = .ok (.iastore, 1) := by decide +kernel
theorem dX9_tell_10 : decode cX9_tell 10 = .ok (.aload_n 0, 1) := by decide +kernel
theorem dX9_tell_11 : decode cX9_tell 11 = .ok (.getfield 13, 3) := by decide +kernel
theorem dX9_tell_14 : decode cX9_tell 14 = .ok (.aload_n 0, 1) := by decide +kernel
theorem dX9_tell_15 : decode cX9_tell 15 = .ok (.getfield 129, 3) := by decide +kernel
theorem dX9_tell_18 : decode cX9_tell 18 = .ok (.iload_n 2, 1) := by decide +kernel
theorem dX9_tell_19 : decode cX9_tell 19 = .ok (.iastore, 1) := by decide +kernel
theorem dX9_tell_20 : decode cX9_tell 20 = .ok (.aload_n 0, 1) := by decide +kernel
theorem dX9_tell_21 : decode cX9_tell 21 = .ok (.getfield 16, 3) := by decide +kernel
theorem dX9_tell_24 : decode cX9_tell 24 = .ok (.aload_n 0, 1) := by decide +kernel
theorem dX9_tell_25 : decode cX9_tell 25 = .ok (.getfield 129, 3) := by decide +kernel
theorem dX9_tell_28 : decode cX9_tell 28 = .ok (.iload_n 3, 1) := by decide +kernel
theorem dX9_tell_29 : decode cX9_tell 29 = .ok (.iastore, 1) := by decide +kernel
theorem dX9_tell_30 : decode cX9_tell 30 = .ok (.aload_n 0, 1) := by decide +kernel
theorem dX9_tell_31 : decode cX9_tell 31 = .ok (.getfield 19, 3) := by decide +kernel
theorem dX9_tell_34 : decode cX9_tell 34 = .ok (.aload_n 0, 1) := by decide +kernel
theorem dX9_tell_35 : decode cX9_tell 35 = .ok (.getfield 129, 3) := by decide +kernel
theorem dX9_tell_38 : decode cX9_tell 38 = .ok (.iload 4, 2) := by decide +kernel
theorem dX9_tell_40 : decode cX9_tell 40 = .ok (.iastore, 1) := by decide +kernel
theorem dX9_tell_41 : decode cX9_tell 41 = .ok (.aload_n 0, 1) := by decide +kernel
theorem dX9_tell_42 : decode cX9_tell 42 = .ok (.getfield 22, 3) := by decide +kernel
theorem dX9_tell_45 : decode cX9_tell 45 = .ok (.aload_n 0, 1) := by decide +kernel
theorem dX9_tell_46 : decode cX9_tell 46 = .ok (.getfield 129, 3) := by decide +kernel
theorem dX9_tell_49 : decode cX9_tell 49 = .ok (.iload 5, 2) := by decide +kernel
theorem dX9_tell_51 : decode cX9_tell 51 = .ok (.iastore, 1) := by decide +kernel
theorem dX9_tell_52 : decode cX9_tell 52 = .ok (.aload_n 0, 1) := by decide +kernel
theorem dX9_tell_53 : decode cX9_tell 53 = .ok (.getfield 25, 3) := by decide +kernel
theorem dX9_tell_56 : decode cX9_tell 56 = .ok (.aload_n 0, 1) := by decide +kernel
theorem dX9_tell_57 : decode cX9_tell 57 = .ok (.getfield 129, 3) := by decide +kernel
theorem dX9_tell_60 : decode cX9_tell 60 = .ok (.iload 6, 2) := by decide +kernel
theorem dX9_tell_62 : decode cX9_tell 62 = .ok (.iastore, 1) := by decide +kernel
theorem dX9_tell_63 : decode cX9_tell 63 = .ok (.aload_n 0, 1) := by decide +kernel
theorem dX9_tell_64 : decode cX9_tell 64 = .ok (.dup, 1) := by decide +kernel
theorem dX9_tell_65 : decode cX9_tell 65 = .ok (.getfield 129, 3) := by decide +kernel
theorem dX9_tell_68 : decode cX9_tell 68 = .ok (.iconst 1, 1) := by decide +kernel
theorem dX9_tell_69 : decode cX9_tell 69 = .ok (.iadd, 1) := by decide +kernel
theorem dX9_tell_70 : decode cX9_tell 70 = .ok (.putfield 129, 3) := by decide +kernel
theorem dX9_tell_73 : decode cX9_tell 73 = .ok (.aload_n 0, 1) := by decide +kernel
theorem dX9_tell_74 : decode cX9_tell 74 = .ok (.aload_n 0, 1) := by decide +kernel
theorem dX9_tell_75 : decode cX9_tell 75 = .ok (.getfield 129, 3) := by decide +kernel
theorem dX9_tell_78 : decode cX9_tell 78 = .ok (.iconst 1, 1) := by decide +kernel
theorem dX9_tell_79 : decode cX9_tell 79 = .ok (.isub, 1) := by decide +kernel
theorem dX9_tell_80 : decode cX9_tell 80 = .ok (.invokevirtual 132, 3) := by decide +kernel
theorem dX9_tell_83 : decode cX9_tell 83 = .ok (.return_, 1) := by decide +kernel
theorem dX9_goOne_0 : decode cX9_goOne 0 = .ok (.aload_n 0, 1) := by decide +kernel
theorem dX9_goOne_1 : decode cX9_goOne 1 = .ok (.getfield 13, 3) := by decide +kernel
theorem dX9_goOne_4 : decode cX9_goOne 4 = .ok (.iload_n 1, 1) := by decide +kernel
theorem dX9_goOne_5 : decode cX9_goOne 5 = .ok (.iaload, 1) := by decide +kernel
theorem dX9_goOne_6 : decode cX9_goOne 6 = .ok (.istore_n 2, 1) := by decide +kernel
theorem dX9_goOne_7 : decode cX9_goOne 7 = .ok (.aload_n 0, 1) := by decide +kernel
theorem dX9_goOne_8 : decode cX9_goOne 8 = .ok (.getfield 7, 3) := by decide +kernel
theorem dX9_goOne_11 : decode cX9_goOne 11 = .ok (.iload_n 1, 1) := by decide +kernel
theorem dX9_goOne_12 : decode cX9_goOne 12 = .ok (.iaload, 1) := by decide +kernel
theorem dX9_goOne_13 : decode cX9_goOne 13 = .ok (.tableswitch 137 0 2 #[27, 98, 113], 27) := by decide +kernel
theorem dX9_goOne_40 : decode cX9_goOne 40 = .ok (.aload_n 0, 1) := by decide +kernel
theorem dX9_goOne_41 : decode cX9_goOne 41 = .ok (.getfield 28, 3) := by decide +kernel
theorem dX9_goOne_44 : decode cX9_goOne 44 = .ok (.iload_n 2, 1) := by decide +kernel
theorem dX9_goOne_45 : decode cX9_goOne 45 = .ok (.aload_n 0, 1) := by decide +kernel
theorem dX9_goOne_46 : decode cX9_goOne 46 = .ok (.getfield 16, 3) := by decide +kernel
theorem dX9_goOne_49 : decode cX9_goOne 49 = .ok (.iload_n 1, 1) := by decide +kernel
theorem dX9_goOne_50 : decode cX9_goOne 50 = .ok (.iaload, 1) := by decide +kernel
theorem dX9_goOne_51 : decode cX9_goOne 51 = .ok (.iastore, 1) := by decide +kernel
theorem dX9_goOne_52 : decode cX9_goOne 52 = .ok (.aload_n 0, 1) := by decide +kernel
theorem dX9_goOne_53 : decode cX9_goOne 53 = .ok (.getfield 31, 3) := by decide +kernel
theorem dX9_goOne_56 : decode cX9_goOne 56 = .ok (.iload_n 2, 1) := by decide +kernel
theorem dX9_goOne_57 : decode cX9_goOne 57 = .ok (.aload_n 0, 1) := by decide +kernel
theorem dX9_goOne_58 : decode cX9_goOne 58 = .ok (.getfield 19, 3) := by decide +kernel
theorem dX9_goOne_61 : decode cX9_goOne 61 = .ok (.iload_n 1, 1) := by decide +kernel
theorem dX9_goOne_62 : decode cX9_goOne 62 = .ok (.iaload, 1) := by decide +kernel
theorem dX9_goOne_63 : decode cX9_goOne 63 = .ok (.iastore, 1) := by decide +kernel
theorem dX9_goOne_64 : decode cX9_goOne 64 = .ok (.aload_n 0, 1) := by decide +kernel
theorem dX9_goOne_65 : decode cX9_goOne 65 = .ok (.getfield 34, 3) := by decide +kernel
theorem dX9_goOne_68 : decode cX9_goOne 68 = .ok (.iconst 2, 1) := by decide +kernel
theorem dX9_goOne_69 : decode cX9_goOne 69 = .ok (.iload_n 2, 1) := by decide +kernel
theorem dX9_goOne_70 : decode cX9_goOne 70 = .ok (.imul, 1) := by decide +kernel
theorem dX9_goOne_71 : decode cX9_goOne 71 = .ok (.aload_n 0, 1) := by decide +kernel
theorem dX9_goOne_72 : decode cX9_goOne 72 = .ok (.getfield 22, 3) := by decide +kernel
theorem dX9_goOne_75 : decode cX9_goOne 75 = .ok (.iload_n 1, 1) := by decide +kernel
theorem dX9_goOne_76 : decode cX9_goOne 76 = .ok (.iaload, 1) := by decide +kernel
theorem dX9_goOne_77 : decode cX9_goOne 77 = .ok (.iastore, 1) := by decide +kernel
theorem dX9_goOne_78 : decode cX9_goOne 78 = .ok (.aload_n 0, 1) := by decide +kernel
theorem dX9_goOne_79 : decode cX9_goOne 79 = .ok (.getfield 34, 3) := by decide +kernel
theorem dX9_goOne_82 : decode cX9_goOne 82 = .ok (.iconst 2, 1) := by decide +kernel
theorem dX9_goOne_83 : decode cX9_goOne 83 = .ok (.iload_n 2, 1) := by decide +kernel
theorem dX9_goOne_84 : decode cX9_goOne 84 = .ok (.imul, 1) := by decide +kernel
theorem dX9_goOne_85 : decode cX9_goOne 85 = .ok (.iconst 1, 1) := by decide +kernel
theorem dX9_goOne_86 : decode cX9_goOne 86 = .ok (.iadd, 1) := by decide +kernel
theorem dX9_goOne_87 : decode cX9_goOne 87 = .ok (.aload_n 0, 1) := by decide +kernel
theorem dX9_goOne_88 : decode cX9_goOne 88 = .ok (.getfield 25, 3) := by decide +kernel
theorem dX9_goOne_91 : decode cX9_goOne 91 = .ok (.iload_n 1, 1) := by decide +kernel
theorem dX9_goOne_92 : decode cX9_goOne 92 = .ok (.iaload, 1) := by decide +kernel
theorem dX9_goOne_93 : decode cX9_goOne 93 = .ok (.iastore, 1) := by decide +kernel
theorem dX9_goOne_94 : decode cX9_goOne 94 = .ok (.aload_n 0, 1) := by decide +kernel
theorem dX9_goOne_95 : decode cX9_goOne 95 = .ok (.getfield 37, 3) := by decide +kernel
theorem dX9_goOne_98 : decode cX9_goOne 98 = .ok (.iload_n 2, 1) := by decide +kernel
theorem dX9_goOne_99 : decode cX9_goOne 99 = .ok (.iconst 1, 1) := by decide +kernel
theorem dX9_goOne_100 : decode cX9_goOne 100 = .ok (.bastore, 1) := by decide +kernel
theorem dX9_goOne_101 : decode cX9_goOne 101 = .ok (.aload_n 0, 1) := by decide +kernel
theorem dX9_goOne_102 : decode cX9_goOne 102 = .ok (.iload_n 2, 1) := by decide +kernel
theorem dX9_goOne_103 : decode cX9_goOne 103 = .ok (.iconst 1, 1) := by decide +kernel
theorem dX9_goOne_104 : decode cX9_goOne 104 = .ok (.iadd, 1) := by decide +kernel
theorem dX9_goOne_105 : decode cX9_goOne 105 = .ok (.putfield 136, 3) := by decide +kernel
theorem dX9_goOne_108 : decode cX9_goOne 108 = .ok (.goto 49, 3) := by decide +kernel
theorem dX9_goOne_111 : decode cX9_goOne 111 = .ok (.aload_n 0, 1) := by decide +kernel
theorem dX9_goOne_112 : decode cX9_goOne 112 = .ok (.getfield 31, 3) := by decide +kernel
theorem dX9_goOne_115 : decode cX9_goOne 115 = .ok (.iload_n 2, 1) := by decide +kernel
theorem dX9_goOne_116 : decode cX9_goOne 116 = .ok (.aload_n 0, 1) := by decide +kernel
theorem dX9_goOne_117 : decode cX9_goOne 117 = .ok (.getfield 16, 3) := by decide +kernel
theorem dX9_goOne_120 : decode cX9_goOne 120 = .ok (.iload_n 1, 1) := by decide +kernel
theorem dX9_goOne_121 : decode cX9_goOne 121 = .ok (.iaload, 1) := by decide +kernel
theorem dX9_goOne_122 : decode cX9_goOne 122 = .ok (.iastore, 1) := by decide +kernel
theorem dX9_goOne_123 : decode cX9_goOne 123 = .ok (.goto 34, 3) := by decide +kernel
theorem dX9_goOne_126 : decode cX9_goOne 126 = .ok (.aload_n 0, 1) := by decide +kernel
theorem dX9_goOne_127 : decode cX9_goOne 127 = .ok (.getfield 34, 3) := by decide +kernel
theorem dX9_goOne_130 : decode cX9_goOne 130 = .ok (.iconst 2, 1) := by decide +kernel
theorem dX9_goOne_131 : decode cX9_goOne 131 = .ok (.iload_n 2, 1) := by decide +kernel
theorem dX9_goOne_132 : decode cX9_goOne 132 = .ok (.imul, 1) := by decide +kernel
theorem dX9_goOne_133 : decode cX9_goOne 133 = .ok (.aload_n 0, 1) := by decide +kernel
theorem dX9_goOne_134 : decode cX9_goOne 134 = .ok (.getfield 16, 3) := by decide +kernel
theorem dX9_goOne_137 : decode cX9_goOne 137 = .ok (.iload_n 1, 1) := by decide +kernel
theorem dX9_goOne_138 : decode cX9_goOne 138 = .ok (.iaload, 1) := by decide +kernel
theorem dX9_goOne_139 : decode cX9_goOne 139 = .ok (.iadd, 1) := by decide +kernel
theorem dX9_goOne_140 : decode cX9_goOne 140 = .ok (.aload_n 0, 1) := by decide +kernel
theorem dX9_goOne_141 : decode cX9_goOne 141 = .ok (.getfield 19, 3) := by decide +kernel
theorem dX9_goOne_144 : decode cX9_goOne 144 = .ok (.iload_n 1, 1) := by decide +kernel
theorem dX9_goOne_145 : decode cX9_goOne 145 = .ok (.iaload, 1) := by decide +kernel
theorem dX9_goOne_146 : decode cX9_goOne 146 = .ok (.iastore, 1) := by decide +kernel
theorem dX9_goOne_147 : decode cX9_goOne 147 = .ok (.goto 10, 3) := by decide +kernel
theorem dX9_goOne_150 : decode cX9_goOne 150 = .ok (.aload_n 0, 1) := by decide +kernel
theorem dX9_goOne_151 : decode cX9_goOne 151 = .ok (.getfield 37, 3) := by decide +kernel
theorem dX9_goOne_154 : decode cX9_goOne 154 = .ok (.iload_n 2, 1) := by decide +kernel
theorem dX9_goOne_155 : decode cX9_goOne 155 = .ok (.iconst 0, 1) := by decide +kernel
theorem dX9_goOne_156 : decode cX9_goOne 156 = .ok (.bastore, 1) := by decide +kernel
theorem dX9_goOne_157 : decode cX9_goOne 157 = .ok (.return_, 1) := by decide +kernel
theorem dX9_goTo_0 : decode cX9_goTo 0 = .ok (.aload_n 0, 1) := by decide +kernel
theorem dX9_goTo_1 : decode cX9_goTo 1 = .ok (.iconst 0, 1) := by decide +kernel
theorem dX9_goTo_2 : decode cX9_goTo 2 = .ok (.putfield 136, 3) := by decide +kernel
theorem dX9_goTo_5 : decode cX9_goTo 5 = .ok (.iconst 0, 1) := by decide +kernel
theorem dX9_goTo_6 : decode cX9_goTo 6 = .ok (.istore_n 2, 1) := by decide +kernel
theorem dX9_goTo_7 : decode cX9_goTo 7 = .ok (.iload_n 2, 1) := by decide +kernel
theorem dX9_goTo_8 : decode cX9_goTo 8 = .ok (.iload_n 1, 1) := by decide +kernel
theorem dX9_goTo_9 : decode cX9_goTo 9 = .ok (.if_icmp .ge 14, 3) := by decide +kernel
theorem dX9_goTo_12 : decode cX9_goTo 12 = .ok (.aload_n 0, 1) := by decide +kernel
theorem dX9_goTo_13 : decode cX9_goTo 13 = .ok (.iload_n 2, 1) := by decide +kernel
theorem dX9_goTo_14 : decode cX9_goTo 14 = .ok (.invokevirtual 132, 3) := by decide +kernel
theorem dX9_goTo_17 : decode cX9_goTo 17 = .ok (.iinc 2 1, 3) := by decide +kernel
theorem dX9_goTo_20 : decode cX9_goTo 20 = .ok (.goto (-13), 3) := by decide +kernel
theorem dX9_goTo_23 : decode cX9_goTo 23 = .ok (.return_, 1) := by decide +kernel
theorem dX9_isRow_0 : decode cX9_isRow 0 = .ok (.iload_n 1, 1) := by decide +kernel
theorem dX9_isRow_1 : decode cX9_isRow 1 = .ok (.i2l, 1) := by decide +kernel
theorem dX9_isRow_2 : decode cX9_isRow 2 = .ok (.lconst 0, 1) := by decide +kernel
theorem dX9_isRow_3 : decode cX9_isRow 3 = .ok (.aload_n 0, 1) := by decide +kernel
theorem dX9_isRow_4 : decode cX9_isRow 4 = .ok (.getfield 136, 3) := by decide +kernel
theorem dX9_isRow_7 : decode cX9_isRow 7 = .ok (.i2l, 1) := by decide +kernel
theorem dX9_isRow_8 : decode cX9_isRow 8 = .ok (.lconst 1, 1) := by decide +kernel
theorem dX9_isRow_9 : decode cX9_isRow 9 = .ok (.lsub, 1) := by decide +kernel
theorem dX9_isRow_10 : decode cX9_isRow 10 = .ok (.invokestatic 139, 3) := by decide +kernel
theorem dX9_isRow_13 : decode cX9_isRow 13 = .ok (.ifCond .eq 16, 3) := by decide +kernel
theorem dX9_isRow_16 : decode cX9_isRow 16 = .ok (.aload_n 0, 1) := by decide +kernel
theorem dX9_isRow_17 : decode cX9_isRow 17 = .ok (.getfield 37, 3) := by decide +kernel
theorem dX9_isRow_20 : decode cX9_isRow 20 = .ok (.iload_n 1, 1) := by decide +kernel
theorem dX9_isRow_21 : decode cX9_isRow 21 = .ok (.baload, 1) := by decide +kernel
theorem dX9_isRow_22 : decode cX9_isRow 22 = .ok (.ifCond .eq 7, 3) := by decide +kernel
theorem dX9_isRow_25 : decode cX9_isRow 25 = .ok (.iconst 1, 1) := by decide +kernel
theorem dX9_isRow_26 : decode cX9_isRow 26 = .ok (.goto 4, 3) := by decide +kernel
theorem dX9_isRow_29 : decode cX9_isRow 29 = .ok (.iconst 0, 1) := by decide +kernel
theorem dX9_isRow_30 : decode cX9_isRow 30 = .ok (.ireturn, 1) := by decide +kernel
theorem dX9_isValue_0 : decode cX9_isValue 0 = .ok (.iload_n 0, 1) := by decide +kernel
theorem dX9_isValue_1 : decode cX9_isValue 1 = .ok (.i2l, 1) := by decide +kernel
theorem dX9_isValue_2 : decode cX9_isValue 2 = .ok (.ldc2_w 143, 3) := by decide +kernel
theorem dX9_isValue_5 : decode cX9_isValue 5 = .ok (.ldc2_w 145, 3) := by decide +kernel
theorem dX9_isValue_8 : decode cX9_isValue 8 = .ok (.invokestatic 139, 3) := by decide +kernel
theorem dX9_isValue_11 : decode cX9_isValue 11 = .ok (.ireturn, 1) := by decide +kernel
theorem dX9_row_0 : decode cX9_row 0 = .ok (.aload_n 0, 1) := by decide +kernel
theorem dX9_row_1 : decode cX9_row 1 = .ok (.iconst 0, 1) := by decide +kernel
theorem dX9_row_2 : decode cX9_row 2 = .ok (.putfield 123, 3) := by decide +kernel
theorem dX9_row_5 : decode cX9_row 5 = .ok (.iload_n 1, 1) := by decide +kernel
theorem dX9_row_6 : decode cX9_row 6 = .ok (.i2l, 1) := by decide +kernel
theorem dX9_row_7 : decode cX9_row 7 = .ok (.lconst 0, 1) := by decide +kernel
theorem dX9_row_8 : decode cX9_row 8 = .ok (.ldc2_w 147, 3) := by decide +kernel
theorem dX9_row_11 : decode cX9_row 11 = .ok (.invokestatic 139, 3) := by decide +kernel
theorem dX9_row_14 : decode cX9_row 14 = .ok (.ifCond .eq 10, 3) := by decide +kernel
theorem dX9_row_17 : decode cX9_row 17 = .ok (.iload_n 2, 1) := by decide +kernel
theorem dX9_row_18 : decode cX9_row 18 = .ok (.invokestatic 149, 3) := by decide +kernel
theorem dX9_row_21 : decode cX9_row 21 = .ok (.ifCond .ne 9, 3) := by decide +kernel
theorem dX9_row_24 : decode cX9_row 24 = .ok (.aload_n 0, 1) := by decide +kernel
theorem dX9_row_25 : decode cX9_row 25 = .ok (.iconst (-1), 1) := by decide +kernel
theorem dX9_row_26 : decode cX9_row 26 = .ok (.invokevirtual 153, 3) := by decide +kernel
theorem dX9_row_29 : decode cX9_row 29 = .ok (.ireturn, 1) := by decide +kernel
theorem dX9_row_30 : decode cX9_row 30 = .ok (.iload_n 3, 1) := by decide +kernel
theorem dX9_row_31 : decode cX9_row 31 = .ok (.iconst (-1), 1) := by decide +kernel
theorem dX9_row_32 : decode cX9_row 32 = .ok (.if_icmp .eq 11, 3) := by decide +kernel
theorem dX9_row_35 : decode cX9_row 35 = .ok (.aload_n 0, 1) := by decide +kernel
theorem dX9_row_36 : decode cX9_row 36 = .ok (.iload_n 3, 1) := by decide +kernel
theorem dX9_row_37 : decode cX9_row 37 = .ok (.invokevirtual 157, 3) := by decide +kernel
theorem dX9_row_40 : decode cX9_row 40 = .ok (.ifCond .eq 18, 3) := by decide +kernel
theorem dX9_row_43 : decode cX9_row 43 = .ok (.iload 4, 2) := by decide +kernel
theorem dX9_row_45 : decode cX9_row 45 = .ok (.iconst (-1), 1) := by decide +kernel
theorem dX9_row_46 : decode cX9_row 46 = .ok (.if_icmp .eq 19, 3) := by decide +kernel
theorem dX9_row_49 : decode cX9_row 49 = .ok (.aload_n 0, 1) := by decide +kernel
theorem dX9_row_50 : decode cX9_row 50 = .ok (.iload 4, 2) := by decide +kernel
theorem dX9_row_52 : decode cX9_row 52 = .ok (.invokevirtual 157, 3) := by decide +kernel
theorem dX9_row_55 : decode cX9_row 55 = .ok (.ifCond .ne 10, 3) := by decide +kernel
theorem dX9_row_58 : decode cX9_row 58 = .ok (.aload_n 0, 1) := by decide +kernel
theorem dX9_row_59 : decode cX9_row 59 = .ok (.bipush (-2), 2) := by decide +kernel
theorem dX9_row_61 : decode cX9_row 61 = .ok (.invokevirtual 153, 3) := by decide +kernel
theorem dX9_row_64 : decode cX9_row 64 = .ok (.ireturn, 1) := by decide +kernel
theorem dX9_row_65 : decode cX9_row 65 = .ok (.aload_n 0, 1) := by decide +kernel
theorem dX9_row_66 : decode cX9_row 66 = .ok (.getfield 136, 3) := by decide +kernel
theorem dX9_row_69 : decode cX9_row 69 = .ok (.bipush 60, 2) := by decide +kernel
theorem dX9_row_71 : decode cX9_row 71 = .ok (.if_icmp .eq 13, 3) := by decide +kernel
theorem dX9_row_74 : decode cX9_row 74 = .ok (.aload_n 0, 1) := by decide +kernel
theorem dX9_row_75 : decode cX9_row 75 = .ok (.getfield 129, 3) := by decide +kernel
theorem dX9_row_78 : decode cX9_row 78 = .ok (.sipush 300, 3) := by decide +kernel
theorem dX9_row_81 : decode cX9_row 81 = .ok (.if_icmp .ne 10, 3) := by decide +kernel
theorem dX9_row_84 : decode cX9_row 84 = .ok (.aload_n 0, 1) := by decide +kernel
theorem dX9_row_85 : decode cX9_row 85 = .ok (.bipush (-5), 2) := by decide +kernel
theorem dX9_row_87 : decode cX9_row 87 = .ok (.invokevirtual 153, 3) := by decide +kernel
theorem dX9_row_90 : decode cX9_row 90 = .ok (.ireturn, 1) := by decide +kernel
theorem dX9_row_91 : decode cX9_row 91 = .ok (.aload_n 0, 1) := by decide +kernel
theorem dX9_row_92 : decode cX9_row 92 = .ok (.iconst 0, 1) := by decide +kernel
theorem dX9_row_93 : decode cX9_row 93 = .ok (.aload_n 0, 1) := by decide +kernel
theorem dX9_row_94 : decode cX9_row 94 = .ok (.getfield 136, 3) := by decide +kernel
theorem dX9_row_97 : decode cX9_row 97 = .ok (.iload_n 1, 1) := by decide +kernel
theorem dX9_row_98 : decode cX9_row 98 = .ok (.iload_n 2, 1) := by decide +kernel
theorem dX9_row_99 : decode cX9_row 99 = .ok (.iload_n 3, 1) := by decide +kernel
theorem dX9_row_100 : decode cX9_row 100 = .ok (.iload 4, 2) := by decide +kernel
theorem dX9_row_102 : decode cX9_row 102 = .ok (.invokevirtual 160, 3) := by decide +kernel
theorem dX9_row_105 : decode cX9_row 105 = .ok (.aload_n 0, 1) := by decide +kernel
theorem dX9_row_106 : decode cX9_row 106 = .ok (.aload_n 0, 1) := by decide +kernel
theorem dX9_row_107 : decode cX9_row 107 = .ok (.getfield 136, 3) := by decide +kernel
theorem dX9_row_110 : decode cX9_row 110 = .ok (.iconst 1, 1) := by decide +kernel
theorem dX9_row_111 : decode cX9_row 111 = .ok (.isub, 1) := by decide +kernel
theorem dX9_row_112 : decode cX9_row 112 = .ok (.invokevirtual 153, 3) := by decide +kernel
theorem dX9_row_115 : decode cX9_row 115 = .ok (.ireturn, 1) := by decide +kernel
theorem dX9_value_0 : decode cX9_value 0 = .ok (.aload_n 0, 1) := by decide +kernel
theorem dX9_value_1 : decode cX9_value 1 = .ok (.iconst 0, 1) := by decide +kernel
theorem dX9_value_2 : decode cX9_value 2 = .ok (.putfield 123, 3) := by decide +kernel
theorem dX9_value_5 : decode cX9_value 5 = .ok (.iload_n 2, 1) := by decide +kernel
theorem dX9_value_6 : decode cX9_value 6 = .ok (.invokestatic 149, 3) := by decide +kernel
theorem dX9_value_9 : decode cX9_value 9 = .ok (.ifCond .ne 9, 3) := by decide +kernel
theorem dX9_value_12 : decode cX9_value 12 = .ok (.aload_n 0, 1) := by decide +kernel
theorem dX9_value_13 : decode cX9_value 13 = .ok (.iconst (-1), 1) := by decide +kernel
theorem dX9_value_14 : decode cX9_value 14 = .ok (.invokevirtual 153, 3) := by decide +kernel
theorem dX9_value_17 : decode cX9_value 17 = .ok (.ireturn, 1) := by decide +kernel
theorem dX9_value_18 : decode cX9_value 18 = .ok (.aload_n 0, 1) := by decide +kernel
theorem dX9_value_19 : decode cX9_value 19 = .ok (.iload_n 1, 1) := by decide +kernel
theorem dX9_value_20 : decode cX9_value 20 = .ok (.invokevirtual 157, 3) := by decide +kernel
theorem dX9_value_23 : decode cX9_value 23 = .ok (.ifCond .ne 10, 3) := by decide +kernel
theorem dX9_value_26 : decode cX9_value 26 = .ok (.aload_n 0, 1) := by decide +kernel
theorem dX9_value_27 : decode cX9_value 27 = .ok (.bipush (-2), 2) := by decide +kernel
theorem dX9_value_29 : decode cX9_value 29 = .ok (.invokevirtual 153, 3) := by decide +kernel
theorem dX9_value_32 : decode cX9_value 32 = .ok (.ireturn, 1) := by decide +kernel
theorem dX9_value_33 : decode cX9_value 33 = .ok (.aload_n 0, 1) := by decide +kernel
theorem dX9_value_34 : decode cX9_value 34 = .ok (.getfield 129, 3) := by decide +kernel
theorem dX9_value_37 : decode cX9_value 37 = .ok (.sipush 300, 3) := by decide +kernel
theorem dX9_value_40 : decode cX9_value 40 = .ok (.if_icmp .ne 10, 3) := by decide +kernel
theorem dX9_value_43 : decode cX9_value 43 = .ok (.aload_n 0, 1) := by decide +kernel
theorem dX9_value_44 : decode cX9_value 44 = .ok (.bipush (-5), 2) := by decide +kernel
theorem dX9_value_46 : decode cX9_value 46 = .ok (.invokevirtual 153, 3) := by decide +kernel
theorem dX9_value_49 : decode cX9_value 49 = .ok (.ireturn, 1) := by decide +kernel
theorem dX9_value_50 : decode cX9_value 50 = .ok (.aload_n 0, 1) := by decide +kernel
theorem dX9_value_51 : decode cX9_value 51 = .ok (.getfield 31, 3) := by decide +kernel
theorem dX9_value_54 : decode cX9_value 54 = .ok (.iload_n 1, 1) := by decide +kernel
theorem dX9_value_55 : decode cX9_value 55 = .ok (.iaload, 1) := by decide +kernel
theorem dX9_value_56 : decode cX9_value 56 = .ok (.istore_n 3, 1) := by decide +kernel
theorem dX9_value_57 : decode cX9_value 57 = .ok (.aload_n 0, 1) := by decide +kernel
theorem dX9_value_58 : decode cX9_value 58 = .ok (.iconst 1, 1) := by decide +kernel
theorem dX9_value_59 : decode cX9_value 59 = .ok (.iload_n 1, 1) := by decide +kernel
theorem dX9_value_60 : decode cX9_value 60 = .ok (.iload_n 2, 1) := by decide +kernel
theorem dX9_value_61 : decode cX9_value 61 = .ok (.iconst 0, 1) := by decide +kernel
theorem dX9_value_62 : decode cX9_value 62 = .ok (.iconst 0, 1) := by decide +kernel
theorem dX9_value_63 : decode cX9_value 63 = .ok (.iconst 0, 1) := by decide +kernel
theorem dX9_value_64 : decode cX9_value 64 = .ok (.invokevirtual 160, 3) := by decide +kernel
theorem dX9_value_67 : decode cX9_value 67 = .ok (.aload_n 0, 1) := by decide +kernel
theorem dX9_value_68 : decode cX9_value 68 = .ok (.iconst 0, 1) := by decide +kernel
theorem dX9_value_69 : decode cX9_value 69 = .ok (.putfield 126, 3) := by decide +kernel
theorem dX9_value_72 : decode cX9_value 72 = .ok (.iload_n 3, 1) := by decide +kernel
theorem dX9_value_73 : decode cX9_value 73 = .ok (.ireturn, 1) := by decide +kernel
theorem dX9_refer_0 : decode cX9_refer 0 = .ok (.aload_n 0, 1) := by decide +kernel
theorem dX9_refer_1 : decode cX9_refer 1 = .ok (.iconst 0, 1) := by decide +kernel
theorem dX9_refer_2 : decode cX9_refer 2 = .ok (.putfield 123, 3) := by decide +kernel
theorem dX9_refer_5 : decode cX9_refer 5 = .ok (.iload_n 2, 1) := by decide +kernel
theorem dX9_refer_6 : decode cX9_refer 6 = .ok (.i2l, 1) := by decide +kernel
theorem dX9_refer_7 : decode cX9_refer 7 = .ok (.lconst 0, 1) := by decide +kernel
theorem dX9_refer_8 : decode cX9_refer 8 = .ok (.lconst 1, 1) := by decide +kernel
theorem dX9_refer_9 : decode cX9_refer 9 = .ok (.invokestatic 139, 3) := by decide +kernel
theorem dX9_refer_12 : decode cX9_refer 12 = .ok (.ifCond .ne 9, 3) := by decide +kernel
theorem dX9_refer_15 : decode cX9_refer 15 = .ok (.aload_n 0, 1) := by decide +kernel
theorem dX9_refer_16 : decode cX9_refer 16 = .ok (.iconst (-1), 1) := by decide +kernel
theorem dX9_refer_17 : decode cX9_refer 17 = .ok (.invokevirtual 153, 3) := by decide +kernel
theorem dX9_refer_20 : decode cX9_refer 20 = .ok (.ireturn, 1) := by decide +kernel
theorem dX9_refer_21 : decode cX9_refer 21 = .ok (.aload_n 0, 1) := by decide +kernel
theorem dX9_refer_22 : decode cX9_refer 22 = .ok (.iload_n 1, 1) := by decide +kernel
theorem dX9_refer_23 : decode cX9_refer 23 = .ok (.invokevirtual 157, 3) := by decide +kernel
theorem dX9_refer_26 : decode cX9_refer 26 = .ok (.ifCond .eq 16, 3) := by decide +kernel
theorem dX9_refer_29 : decode cX9_refer 29 = .ok (.iload_n 3, 1) := by decide +kernel
theorem dX9_refer_30 : decode cX9_refer 30 = .ok (.iconst (-1), 1) := by decide +kernel
theorem dX9_refer_31 : decode cX9_refer 31 = .ok (.if_icmp .eq 18, 3) := by decide +kernel
theorem dX9_refer_34 : decode cX9_refer 34 = .ok (.aload_n 0, 1) := by decide +kernel
theorem dX9_refer_35 : decode cX9_refer 35 = .ok (.iload_n 3, 1) := by decide +kernel
theorem dX9_refer_36 : decode cX9_refer 36 = .ok (.invokevirtual 157, 3) := by decide +kernel
theorem dX9_refer_39 : decode cX9_refer 39 = .ok (.ifCond .ne 10, 3) := by decide +kernel
theorem dX9_refer_42 : decode cX9_refer 42 = .ok (.aload_n 0, 1) := by decide +kernel
theorem dX9_refer_43 : decode cX9_refer 43 = .ok (.bipush (-2), 2) := by decide +kernel
theorem dX9_refer_45 : decode cX9_refer 45 = .ok (.invokevirtual 153, 3) := by decide +kernel
theorem dX9_refer_48 : decode cX9_refer 48 = .ok (.ireturn, 1) := by decide +kernel
theorem dX9_refer_49 : decode cX9_refer 49 = .ok (.aload_n 0, 1) := by decide +kernel
theorem dX9_refer_50 : decode cX9_refer 50 = .ok (.getfield 129, 3) := by decide +kernel
theorem dX9_refer_53 : decode cX9_refer 53 = .ok (.sipush 300, 3) := by decide +kernel
theorem dX9_refer_56 : decode cX9_refer 56 = .ok (.if_icmp .ne 10, 3) := by decide +kernel
theorem dX9_refer_59 : decode cX9_refer 59 = .ok (.aload_n 0, 1) := by decide +kernel
theorem dX9_refer_60 : decode cX9_refer 60 = .ok (.bipush (-5), 2) := by decide +kernel
theorem dX9_refer_62 : decode cX9_refer 62 = .ok (.invokevirtual 153, 3) := by decide +kernel
theorem dX9_refer_65 : decode cX9_refer 65 = .ok (.ireturn, 1) := by decide +kernel
theorem dX9_refer_66 : decode cX9_refer 66 = .ok (.aload_n 0, 1) := by decide +kernel
theorem dX9_refer_67 : decode cX9_refer 67 = .ok (.iconst 2, 1) := by decide +kernel
theorem dX9_refer_68 : decode cX9_refer 68 = .ok (.iload_n 1, 1) := by decide +kernel
theorem dX9_refer_69 : decode cX9_refer 69 = .ok (.iload_n 2, 1) := by decide +kernel
theorem dX9_refer_70 : decode cX9_refer 70 = .ok (.iload_n 3, 1) := by decide +kernel
theorem dX9_refer_71 : decode cX9_refer 71 = .ok (.iconst 0, 1) := by decide +kernel
theorem dX9_refer_72 : decode cX9_refer 72 = .ok (.iconst 0, 1) := by decide +kernel
theorem dX9_refer_73 : decode cX9_refer 73 = .ok (.invokevirtual 160, 3) := by decide +kernel
theorem dX9_refer_76 : decode cX9_refer 76 = .ok (.aload_n 0, 1) := by decide +kernel
theorem dX9_refer_77 : decode cX9_refer 77 = .ok (.iconst 0, 1) := by decide +kernel
theorem dX9_refer_78 : decode cX9_refer 78 = .ok (.invokevirtual 153, 3) := by decide +kernel
theorem dX9_refer_81 : decode cX9_refer 81 = .ok (.ireturn, 1) := by decide +kernel
theorem dX9_go_0 : decode cX9_go 0 = .ok (.aload_n 0, 1) := by decide +kernel
theorem dX9_go_1 : decode cX9_go 1 = .ok (.iconst 0, 1) := by decide +kernel
theorem dX9_go_2 : decode cX9_go 2 = .ok (.putfield 123, 3) := by decide +kernel
theorem dX9_go_5 : decode cX9_go 5 = .ok (.aload_n 0, 1) := by decide +kernel
theorem dX9_go_6 : decode cX9_go 6 = .ok (.iload_n 1, 1) := by decide +kernel
theorem dX9_go_7 : decode cX9_go 7 = .ok (.invokevirtual 157, 3) := by decide +kernel
theorem dX9_go_10 : decode cX9_go 10 = .ok (.ifCond .ne 10, 3) := by decide +kernel
theorem dX9_go_13 : decode cX9_go 13 = .ok (.aload_n 0, 1) := by decide +kernel
theorem dX9_go_14 : decode cX9_go 14 = .ok (.bipush (-2), 2) := by decide +kernel
theorem dX9_go_16 : decode cX9_go 16 = .ok (.invokevirtual 153, 3) := by decide +kernel
theorem dX9_go_19 : decode cX9_go 19 = .ok (.ireturn, 1) := by decide +kernel
theorem dX9_go_20 : decode cX9_go 20 = .ok (.aload_n 0, 1) := by decide +kernel
theorem dX9_go_21 : decode cX9_go 21 = .ok (.getfield 129, 3) := by decide +kernel
theorem dX9_go_24 : decode cX9_go 24 = .ok (.sipush 300, 3) := by decide +kernel
theorem dX9_go_27 : decode cX9_go 27 = .ok (.if_icmp .ne 10, 3) := by decide +kernel
theorem dX9_go_30 : decode cX9_go 30 = .ok (.aload_n 0, 1) := by decide +kernel
theorem dX9_go_31 : decode cX9_go 31 = .ok (.bipush (-5), 2) := by decide +kernel
theorem dX9_go_33 : decode cX9_go 33 = .ok (.invokevirtual 153, 3) := by decide +kernel
theorem dX9_go_36 : decode cX9_go 36 = .ok (.ireturn, 1) := by decide +kernel
theorem dX9_go_37 : decode cX9_go 37 = .ok (.aload_n 0, 1) := by decide +kernel
theorem dX9_go_38 : decode cX9_go 38 = .ok (.iconst 3, 1) := by decide +kernel
theorem dX9_go_39 : decode cX9_go 39 = .ok (.iload_n 1, 1) := by decide +kernel
theorem dX9_go_40 : decode cX9_go 40 = .ok (.iconst 0, 1) := by decide +kernel
theorem dX9_go_41 : decode cX9_go 41 = .ok (.iconst 0, 1) := by decide +kernel
theorem dX9_go_42 : decode cX9_go 42 = .ok (.iconst 0, 1) := by decide +kernel
theorem dX9_go_43 : decode cX9_go 43 = .ok (.iconst 0, 1) := by decide +kernel
theorem dX9_go_44 : decode cX9_go 44 = .ok (.invokevirtual 160, 3) := by decide +kernel
theorem dX9_go_47 : decode cX9_go 47 = .ok (.aload_n 0, 1) := by decide +kernel
theorem dX9_go_48 : decode cX9_go 48 = .ok (.iconst 0, 1) := by decide +kernel
theorem dX9_go_49 : decode cX9_go 49 = .ok (.invokevirtual 153, 3) := by decide +kernel
theorem dX9_go_52 : decode cX9_go 52 = .ok (.ireturn, 1) := by decide +kernel
theorem dX9_of_0 : decode cX9_of 0 = .ok (.aload_n 0, 1) := by decide +kernel
theorem dX9_of_1 : decode cX9_of 1 = .ok (.iconst 0, 1) := by decide +kernel
theorem dX9_of_2 : decode cX9_of 2 = .ok (.putfield 123, 3) := by decide +kernel
theorem dX9_of_5 : decode cX9_of 5 = .ok (.iload_n 1, 1) := by decide +kernel
theorem dX9_of_6 : decode cX9_of 6 = .ok (.i2l, 1) := by decide +kernel
theorem dX9_of_7 : decode cX9_of 7 = .ok (.lconst 0, 1) := by decide +kernel
theorem dX9_of_8 : decode cX9_of 8 = .ok (.aload_n 0, 1) := by decide +kernel
theorem dX9_of_9 : decode cX9_of 9 = .ok (.getfield 136, 3) := by decide +kernel
theorem dX9_of_12 : decode cX9_of 12 = .ok (.i2l, 1) := by decide +kernel
theorem dX9_of_13 : decode cX9_of 13 = .ok (.lconst 1, 1) := by decide +kernel
theorem dX9_of_14 : decode cX9_of 14 = .ok (.lsub, 1) := by decide +kernel
theorem dX9_of_15 : decode cX9_of 15 = .ok (.invokestatic 139, 3) := by decide +kernel
theorem dX9_of_18 : decode cX9_of 18 = .ok (.ifCond .ne 7, 3) := by decide +kernel
theorem dX9_of_21 : decode cX9_of 21 = .ok (.sipush (-5000), 3) := by decide +kernel
theorem dX9_of_24 : decode cX9_of 24 = .ok (.ireturn, 1) := by decide +kernel
theorem dX9_of_25 : decode cX9_of 25 = .ok (.iload_n 2, 1) := by decide +kernel
theorem dX9_of_26 : decode cX9_of 26 = .ok (.tableswitch 83 0 4 #[34, 41, 48, 57, 68], 34) := by decide +kernel
theorem dX9_of_60 : decode cX9_of 60 = .ok (.aload_n 0, 1) := by decide +kernel
theorem dX9_of_61 : decode cX9_of 61 = .ok (.getfield 28, 3) := by decide +kernel
theorem dX9_of_64 : decode cX9_of 64 = .ok (.iload_n 1, 1) := by decide +kernel
theorem dX9_of_65 : decode cX9_of 65 = .ok (.iaload, 1) := by decide +kernel
theorem dX9_of_66 : decode cX9_of 66 = .ok (.ireturn, 1) := by decide +kernel
theorem dX9_of_67 : decode cX9_of 67 = .ok (.aload_n 0, 1) := by decide +kernel
theorem dX9_of_68 : decode cX9_of 68 = .ok (.getfield 31, 3) := by decide +kernel
theorem dX9_of_71 : decode cX9_of 71 = .ok (.iload_n 1, 1) := by decide +kernel
theorem dX9_of_72 : decode cX9_of 72 = .ok (.iaload, 1) := by decide +kernel
theorem dX9_of_73 : decode cX9_of 73 = .ok (.ireturn, 1) := by decide +kernel
theorem dX9_of_74 : decode cX9_of 74 = .ok (.aload_n 0, 1) := by decide +kernel
theorem dX9_of_75 : decode cX9_of 75 = .ok (.getfield 34, 3) := by decide +kernel
theorem dX9_of_78 : decode cX9_of 78 = .ok (.iconst 2, 1) := by decide +kernel
theorem dX9_of_79 : decode cX9_of 79 = .ok (.iload_n 1, 1) := by decide +kernel
theorem dX9_of_80 : decode cX9_of 80 = .ok (.imul, 1) := by decide +kernel
theorem dX9_of_81 : decode cX9_of 81 = .ok (.iaload, 1) := by decide +kernel
theorem dX9_of_82 : decode cX9_of 82 = .ok (.ireturn, 1) := by decide +kernel
theorem dX9_of_83 : decode cX9_of 83 = .ok (.aload_n 0, 1) := by decide +kernel
theorem dX9_of_84 : decode cX9_of 84 = .ok (.getfield 34, 3) := by decide +kernel
theorem dX9_of_87 : decode cX9_of 87 = .ok (.iconst 2, 1) := by decide +kernel
theorem dX9_of_88 : decode cX9_of 88 = .ok (.iload_n 1, 1) := by decide +kernel
theorem dX9_of_89 : decode cX9_of 89 = .ok (.imul, 1) := by decide +kernel
theorem dX9_of_90 : decode cX9_of 90 = .ok (.iconst 1, 1) := by decide +kernel
theorem dX9_of_91 : decode cX9_of 91 = .ok (.iadd, 1) := by decide +kernel
theorem dX9_of_92 : decode cX9_of 92 = .ok (.iaload, 1) := by decide +kernel
theorem dX9_of_93 : decode cX9_of 93 = .ok (.ireturn, 1) := by decide +kernel
theorem dX9_of_94 : decode cX9_of 94 = .ok (.aload_n 0, 1) := by decide +kernel
theorem dX9_of_95 : decode cX9_of 95 = .ok (.getfield 37, 3) := by decide +kernel
theorem dX9_of_98 : decode cX9_of 98 = .ok (.iload_n 1, 1) := by decide +kernel
theorem dX9_of_99 : decode cX9_of 99 = .ok (.baload, 1) := by decide +kernel
theorem dX9_of_100 : decode cX9_of 100 = .ok (.ifCond .eq 7, 3) := by decide +kernel
theorem dX9_of_103 : decode cX9_of 103 = .ok (.iconst 1, 1) := by decide +kernel
theorem dX9_of_104 : decode cX9_of 104 = .ok (.goto 4, 3) := by decide +kernel
theorem dX9_of_107 : decode cX9_of 107 = .ok (.iconst 0, 1) := by decide +kernel
theorem dX9_of_108 : decode cX9_of 108 = .ok (.ireturn, 1) := by decide +kernel
theorem dX9_of_109 : decode cX9_of 109 = .ok (.sipush (-5000), 3) := by decide +kernel
theorem dX9_of_112 : decode cX9_of 112 = .ok (.ireturn, 1) := by decide +kernel
theorem dX9_four_0 : decode cX9_four 0 = .ok (.bipush 24, 2) := by decide +kernel
theorem dX9_four_2 : decode cX9_four 2 = .ok (.istore_n 2, 1) := by decide +kernel
theorem dX9_four_3 : decode cX9_four 3 = .ok (.iload_n 2, 1) := by decide +kernel
theorem dX9_four_4 : decode cX9_four 4 = .ok (.ifCond .lt 35, 3) := by decide +kernel
theorem dX9_four_7 : decode cX9_four 7 = .ok (.aload_n 0, 1) := by decide +kernel
theorem dX9_four_8 : decode cX9_four 8 = .ok (.getfield 83, 3) := by decide +kernel
theorem dX9_four_11 : decode cX9_four 11 = .ok (.aload_n 0, 1) := by decide +kernel
theorem dX9_four_12 : decode cX9_four 12 = .ok (.getfield 164, 3) := by decide +kernel
theorem dX9_four_15 : decode cX9_four 15 = .ok (.iload_n 1, 1) := by decide +kernel
theorem dX9_four_16 : decode cX9_four 16 = .ok (.iload_n 2, 1) := by decide +kernel
theorem dX9_four_17 : decode cX9_four 17 = .ok (.ishr, 1) := by decide +kernel
theorem dX9_four_18 : decode cX9_four 18 = .ok (.sipush 255, 3) := by decide +kernel
theorem dX9_four_21 : decode cX9_four 21 = .ok (.iand, 1) := by decide +kernel
theorem dX9_four_22 : decode cX9_four 22 = .ok (.iastore, 1) := by decide +kernel
theorem dX9_four_23 : decode cX9_four 23 = .ok (.aload_n 0, 1) := by decide +kernel
theorem dX9_four_24 : decode cX9_four 24 = .ok (.dup, 1) := by decide +kernel
theorem dX9_four_25 : decode cX9_four 25 = .ok (.getfield 164, 3) := by decide +kernel
theorem dX9_four_28 : decode cX9_four 28 = .ok (.iconst 1, 1) := by decide +kernel
theorem dX9_four_29 : decode cX9_four 29 = .ok (.iadd, 1) := by decide +kernel
theorem dX9_four_30 : decode cX9_four 30 = .ok (.putfield 164, 3) := by decide +kernel
theorem dX9_four_33 : decode cX9_four 33 = .ok (.iinc 2 (-8), 3) := by decide +kernel
theorem dX9_four_36 : decode cX9_four 36 = .ok (.goto (-33), 3) := by decide +kernel
theorem dX9_four_39 : decode cX9_four 39 = .ok (.return_, 1) := by decide +kernel
theorem dX9_feed_0 : decode cX9_feed 0 = .ok (.aload_n 0, 1) := by decide +kernel
theorem dX9_feed_1 : decode cX9_feed 1 = .ok (.iconst 0, 1) := by decide +kernel
theorem dX9_feed_2 : decode cX9_feed 2 = .ok (.putfield 123, 3) := by decide +kernel
theorem dX9_feed_5 : decode cX9_feed 5 = .ok (.aload_n 0, 1) := by decide +kernel
theorem dX9_feed_6 : decode cX9_feed 6 = .ok (.getfield 164, 3) := by decide +kernel
theorem dX9_feed_9 : decode cX9_feed 9 = .ok (.bipush 20, 2) := by decide +kernel
theorem dX9_feed_11 : decode cX9_feed 11 = .ok (.iadd, 1) := by decide +kernel
theorem dX9_feed_12 : decode cX9_feed 12 = .ok (.sipush 200, 3) := by decide +kernel
theorem dX9_feed_15 : decode cX9_feed 15 = .ok (.if_icmp .le 5, 3) := by decide +kernel
theorem dX9_feed_18 : decode cX9_feed 18 = .ok (.iconst (-1), 1) := by decide +kernel
theorem dX9_feed_19 : decode cX9_feed 19 = .ok (.ireturn, 1) := by decide +kernel
theorem dX9_feed_20 : decode cX9_feed 20 = .ok (.aload_n 0, 1) := by decide +kernel
theorem dX9_feed_21 : decode cX9_feed 21 = .ok (.iload_n 1, 1) := by decide +kernel
theorem dX9_feed_22 : decode cX9_feed 22 = .ok (.invokevirtual 167, 3) := by decide +kernel
theorem dX9_feed_25 : decode cX9_feed 25 = .ok (.aload_n 0, 1) := by decide +kernel
theorem dX9_feed_26 : decode cX9_feed 26 = .ok (.iload_n 2, 1) := by decide +kernel
theorem dX9_feed_27 : decode cX9_feed 27 = .ok (.invokevirtual 167, 3) := by decide +kernel
theorem dX9_feed_30 : decode cX9_feed 30 = .ok (.aload_n 0, 1) := by decide +kernel
theorem dX9_feed_31 : decode cX9_feed 31 = .ok (.iload_n 3, 1) := by decide +kernel
theorem dX9_feed_32 : decode cX9_feed 32 = .ok (.invokevirtual 167, 3) := by decide +kernel
theorem dX9_feed_35 : decode cX9_feed 35 = .ok (.aload_n 0, 1) := by decide +kernel
theorem dX9_feed_36 : decode cX9_feed 36 = .ok (.iload 4, 2) := by decide +kernel
theorem dX9_feed_38 : decode cX9_feed 38 = .ok (.invokevirtual 167, 3) := by decide +kernel
theorem dX9_feed_41 : decode cX9_feed 41 = .ok (.aload_n 0, 1) := by decide +kernel
theorem dX9_feed_42 : decode cX9_feed 42 = .ok (.iload 5, 2) := by decide +kernel
theorem dX9_feed_44 : decode cX9_feed 44 = .ok (.invokevirtual 167, 3) := by decide +kernel
theorem dX9_feed_47 : decode cX9_feed 47 = .ok (.aload_n 0, 1) := by decide +kernel
theorem dX9_feed_48 : decode cX9_feed 48 = .ok (.getfield 164, 3) := by decide +kernel
theorem dX9_feed_51 : decode cX9_feed 51 = .ok (.ireturn, 1) := by decide +kernel
theorem dX9_end_0 : decode cX9_end 0 = .ok (.aload_n 0, 1) := by decide +kernel
theorem dX9_end_1 : decode cX9_end 1 = .ok (.iconst 0, 1) := by decide +kernel
theorem dX9_end_2 : decode cX9_end 2 = .ok (.putfield 123, 3) := by decide +kernel
theorem dX9_end_5 : decode cX9_end 5 = .ok (.iload_n 1, 1) := by decide +kernel
theorem dX9_end_6 : decode cX9_end 6 = .ok (.ifCond .lt 11, 3) := by decide +kernel
theorem dX9_end_9 : decode cX9_end 9 = .ok (.iload_n 1, 1) := by decide +kernel
theorem dX9_end_10 : decode cX9_end 10 = .ok (.aload_n 0, 1) := by decide +kernel
theorem dX9_end_11 : decode cX9_end 11 = .ok (.getfield 164, 3) := by decide +kernel
theorem dX9_end_14 : decode cX9_end 14 = .ok (.if_icmp .le 5, 3) := by decide +kernel
theorem dX9_end_17 : decode cX9_end 17 = .ok (.iconst (-1), 1) := by decide +kernel
theorem dX9_end_18 : decode cX9_end 18 = .ok (.ireturn, 1) := by decide +kernel
theorem dX9_end_19 : decode cX9_end 19 = .ok (.aload_n 0, 1) := by decide +kernel
theorem dX9_end_20 : decode cX9_end 20 = .ok (.iload_n 1, 1) := by decide +kernel
theorem dX9_end_21 : decode cX9_end 21 = .ok (.putfield 164, 3) := by decide +kernel
theorem dX9_end_24 : decode cX9_end 24 = .ok (.iload_n 1, 1) := by decide +kernel
theorem dX9_end_25 : decode cX9_end 25 = .ok (.ireturn, 1) := by decide +kernel
theorem dX9_isSmall_0 : decode cX9_isSmall 0 = .ok (.iload_n 0, 1) := by decide +kernel
theorem dX9_isSmall_1 : decode cX9_isSmall 1 = .ok (.bipush 97, 2) := by decide +kernel
theorem dX9_isSmall_3 : decode cX9_isSmall 3 = .ok (.if_icmp .lt 13, 3) := by decide +kernel
theorem dX9_isSmall_6 : decode cX9_isSmall 6 = .ok (.iload_n 0, 1) := by decide +kernel
theorem dX9_isSmall_7 : decode cX9_isSmall 7 = .ok (.bipush 122, 2) := by decide +kernel
theorem dX9_isSmall_9 : decode cX9_isSmall 9 = .ok (.if_icmp .gt 7, 3) := by decide +kernel
theorem dX9_isSmall_12 : decode cX9_isSmall 12 = .ok (.iconst 1, 1) := by decide +kernel
theorem dX9_isSmall_13 : decode cX9_isSmall 13 = .ok (.goto 4, 3) := by decide +kernel
theorem dX9_isSmall_16 : decode cX9_isSmall 16 = .ok (.iconst 0, 1) := by decide +kernel
theorem dX9_isSmall_17 : decode cX9_isSmall 17 = .ok (.ireturn, 1) := by decide +kernel
theorem dX9_isDigit_0 : decode cX9_isDigit 0 = .ok (.iload_n 0, 1) := by decide +kernel
theorem dX9_isDigit_1 : decode cX9_isDigit 1 = .ok (.bipush 48, 2) := by decide +kernel
theorem dX9_isDigit_3 : decode cX9_isDigit 3 = .ok (.if_icmp .lt 13, 3) := by decide +kernel
theorem dX9_isDigit_6 : decode cX9_isDigit 6 = .ok (.iload_n 0, 1) := by decide +kernel
theorem dX9_isDigit_7 : decode cX9_isDigit 7 = .ok (.bipush 57, 2) := by decide +kernel
theorem dX9_isDigit_9 : decode cX9_isDigit 9 = .ok (.if_icmp .gt 7, 3) := by decide +kernel
theorem dX9_isDigit_12 : decode cX9_isDigit 12 = .ok (.iconst 1, 1) := by decide +kernel
theorem dX9_isDigit_13 : decode cX9_isDigit 13 = .ok (.goto 4, 3) := by decide +kernel
theorem dX9_isDigit_16 : decode cX9_isDigit 16 = .ok (.iconst 0, 1) := by decide +kernel
theorem dX9_isDigit_17 : decode cX9_isDigit 17 = .ok (.ireturn, 1) := by decide +kernel
theorem dX9_next_0 : decode cX9_next 0 = .ok (.aload_n 0, 1) := by decide +kernel
theorem dX9_next_1 : decode cX9_next 1 = .ok (.aload_n 0, 1) := by decide +kernel
theorem dX9_next_2 : decode cX9_next 2 = .ok (.getfield 170, 3) := by decide +kernel
theorem dX9_next_5 : decode cX9_next 5 = .ok (.putfield 173, 3) := by decide +kernel
theorem dX9_next_8 : decode cX9_next 8 = .ok (.aload_n 0, 1) := by decide +kernel
theorem dX9_next_9 : decode cX9_next 9 = .ok (.getfield 173, 3) := by decide +kernel
theorem dX9_next_12 : decode cX9_next 12 = .ok (.aload_n 0, 1) := by decide +kernel
theorem dX9_next_13 : decode cX9_next 13 = .ok (.getfield 164, 3) := by decide +kernel
theorem dX9_next_16 : decode cX9_next 16 = .ok (.if_icmp .ge 30, 3) := by decide +kernel
theorem dX9_next_19 : decode cX9_next 19 = .ok (.aload_n 0, 1) := by decide +kernel
theorem dX9_next_20 : decode cX9_next 20 = .ok (.getfield 83, 3) := by decide +kernel
theorem dX9_next_23 : decode cX9_next 23 = .ok (.aload_n 0, 1) := by decide +kernel
theorem dX9_next_24 : decode cX9_next 24 = .ok (.getfield 173, 3) := by decide +kernel
theorem dX9_next_27 : decode cX9_next 27 = .ok (.iaload, 1) := by decide +kernel
theorem dX9_next_28 : decode cX9_next 28 = .ok (.bipush 32, 2) := by decide +kernel
theorem dX9_next_30 : decode cX9_next 30 = .ok (.if_icmp .ne 16, 3) := by decide +kernel
theorem dX9_next_33 : decode cX9_next 33 = .ok (.aload_n 0, 1) := by decide +kernel
theorem dX9_next_34 : decode cX9_next 34 = .ok (.dup, 1) := by decide +kernel
theorem dX9_next_35 : decode cX9_next 35 = .ok (.getfield 173, 3) := by decide +kernel
theorem dX9_next_38 : decode cX9_next 38 = .ok (.iconst 1, 1) := by decide +kernel
theorem dX9_next_39 : decode cX9_next 39 = .ok (.iadd, 1) := by decide +kernel
theorem dX9_next_40 : decode cX9_next 40 = .ok (.putfield 173, 3) := by decide +kernel
theorem dX9_next_43 : decode cX9_next 43 = .ok (.goto (-35), 3) := by decide +kernel
theorem dX9_next_46 : decode cX9_next 46 = .ok (.aload_n 0, 1) := by decide +kernel
theorem dX9_next_47 : decode cX9_next 47 = .ok (.aload_n 0, 1) := by decide +kernel
theorem dX9_next_48 : decode cX9_next 48 = .ok (.getfield 173, 3) := by decide +kernel
theorem dX9_next_51 : decode cX9_next 51 = .ok (.putfield 170, 3) := by decide +kernel
theorem dX9_next_54 : decode cX9_next 54 = .ok (.aload_n 0, 1) := by decide +kernel
theorem dX9_next_55 : decode cX9_next 55 = .ok (.lconst 0, 1) := by decide +kernel
theorem dX9_next_56 : decode cX9_next 56 = .ok (.putfield 176, 3) := by decide +kernel
theorem dX9_next_59 : decode cX9_next 59 = .ok (.aload_n 0, 1) := by decide +kernel
theorem dX9_next_60 : decode cX9_next 60 = .ok (.aload_n 0, 1) := by decide +kernel
theorem dX9_next_61 : decode cX9_next 61 = .ok (.getfield 173, 3) := by decide +kernel
theorem dX9_next_64 : decode cX9_next 64 = .ok (.aload_n 0, 1) := by decide +kernel
theorem dX9_next_65 : decode cX9_next 65 = .ok (.getfield 164, 3) := by decide +kernel
theorem dX9_next_68 : decode cX9_next 68 = .ok (.if_icmp .ne 7, 3) := by decide +kernel
theorem dX9_next_71 : decode cX9_next 71 = .ok (.iconst 0, 1) := by decide +kernel
theorem dX9_next_72 : decode cX9_next 72 = .ok (.goto 42, 3) := by decide +kernel
theorem dX9_next_75 : decode cX9_next 75 = .ok (.aload_n 0, 1) := by decide +kernel
theorem dX9_next_76 : decode cX9_next 76 = .ok (.getfield 83, 3) := by decide +kernel
theorem dX9_next_79 : decode cX9_next 79 = .ok (.aload_n 0, 1) := by decide +kernel
theorem dX9_next_80 : decode cX9_next 80 = .ok (.getfield 173, 3) := by decide +kernel
theorem dX9_next_83 : decode cX9_next 83 = .ok (.iaload, 1) := by decide +kernel
theorem dX9_next_84 : decode cX9_next 84 = .ok (.invokestatic 180, 3) := by decide +kernel
theorem dX9_next_87 : decode cX9_next 87 = .ok (.ifCond .eq 7, 3) := by decide +kernel
theorem dX9_next_90 : decode cX9_next 90 = .ok (.iconst 1, 1) := by decide +kernel
theorem dX9_next_91 : decode cX9_next 91 = .ok (.goto 23, 3) := by decide +kernel
theorem dX9_next_94 : decode cX9_next 94 = .ok (.aload_n 0, 1) := by decide +kernel
theorem dX9_next_95 : decode cX9_next 95 = .ok (.getfield 83, 3) := by decide +kernel
theorem dX9_next_98 : decode cX9_next 98 = .ok (.aload_n 0, 1) := by decide +kernel
theorem dX9_next_99 : decode cX9_next 99 = .ok (.getfield 173, 3) := by decide +kernel
theorem dX9_next_102 : decode cX9_next 102 = .ok (.iaload, 1) := by decide +kernel
theorem dX9_next_103 : decode cX9_next 103 = .ok (.invokestatic 183, 3) := by decide +kernel
theorem dX9_next_106 : decode cX9_next 106 = .ok (.ifCond .eq 7, 3) := by decide +kernel
theorem dX9_next_109 : decode cX9_next 109 = .ok (.iconst 2, 1) := by decide +kernel
theorem dX9_next_110 : decode cX9_next 110 = .ok (.goto 4, 3) := by decide +kernel
theorem dX9_next_113 : decode cX9_next 113 = .ok (.iconst 3, 1) := by decide +kernel
theorem dX9_next_114 : decode cX9_next 114 = .ok (.putfield 186, 3) := by decide +kernel
theorem dX9_next_117 : decode cX9_next 117 = .ok (.aload_n 0, 1) := by decide +kernel
theorem dX9_next_118 : decode cX9_next 118 = .ok (.getfield 186, 3) := by decide +kernel
theorem dX9_next_121 : decode cX9_next 121 = .ok (.iconst 3, 1) := by decide +kernel
theorem dX9_next_122 : decode cX9_next 122 = .ok (.if_icmp .ne 27, 3) := by decide +kernel
theorem dX9_next_125 : decode cX9_next 125 = .ok (.aload_n 0, 1) := by decide +kernel
theorem dX9_next_126 : decode cX9_next 126 = .ok (.aload_n 0, 1) := by decide +kernel
theorem dX9_next_127 : decode cX9_next 127 = .ok (.getfield 83, 3) := by decide +kernel
theorem dX9_next_130 : decode cX9_next 130 = .ok (.aload_n 0, 1) := by decide +kernel
theorem dX9_next_131 : decode cX9_next 131 = .ok (.getfield 173, 3) := by decide +kernel
theorem dX9_next_134 : decode cX9_next 134 = .ok (.iaload, 1) := by decide +kernel
theorem dX9_next_135 : decode cX9_next 135 = .ok (.i2l, 1) := by decide +kernel
theorem dX9_next_136 : decode cX9_next 136 = .ok (.putfield 176, 3) := by decide +kernel
theorem dX9_next_139 : decode cX9_next 139 = .ok (.aload_n 0, 1) := by decide +kernel
theorem dX9_next_140 : decode cX9_next 140 = .ok (.dup, 1) := by decide +kernel
theorem dX9_next_141 : decode cX9_next 141 = .ok (.getfield 170, 3) := by decide +kernel
theorem dX9_next_144 : decode cX9_next 144 = .ok (.iconst 1, 1) := by decide +kernel
theorem dX9_next_145 : decode cX9_next 145 = .ok (.iadd, 1) := by decide +kernel
theorem dX9_next_146 : decode cX9_next 146 = .ok (.putfield 170, 3) := by decide +kernel
theorem dX9_next_149 : decode cX9_next 149 = .ok (.aload_n 0, 1) := by decide +kernel
theorem dX9_next_150 : decode cX9_next 150 = .ok (.getfield 186, 3) := by decide +kernel
theorem dX9_next_153 : decode cX9_next 153 = .ok (.iconst 1, 1) := by decide +kernel
theorem dX9_next_154 : decode cX9_next 154 = .ok (.if_icmp .ne 88, 3) := by decide +kernel
theorem dX9_next_157 : decode cX9_next 157 = .ok (.aload_n 0, 1) := by decide +kernel
theorem dX9_next_158 : decode cX9_next 158 = .ok (.getfield 170, 3) := by decide +kernel
theorem dX9_next_161 : decode cX9_next 161 = .ok (.aload_n 0, 1) := by decide +kernel
theorem dX9_next_162 : decode cX9_next 162 = .ok (.getfield 164, 3) := by decide +kernel
theorem dX9_next_165 : decode cX9_next 165 = .ok (.if_icmp .ge 77, 3) := by decide +kernel
theorem dX9_next_168 : decode cX9_next 168 = .ok (.aload_n 0, 1) := by decide +kernel
theorem dX9_next_169 : decode cX9_next 169 = .ok (.getfield 83, 3) := by decide +kernel
theorem dX9_next_172 : decode cX9_next 172 = .ok (.aload_n 0, 1) := by decide +kernel
theorem dX9_next_173 : decode cX9_next 173 = .ok (.getfield 170, 3) := by decide +kernel
theorem dX9_next_176 : decode cX9_next 176 = .ok (.iaload, 1) := by decide +kernel
theorem dX9_next_177 : decode cX9_next 177 = .ok (.invokestatic 180, 3) := by decide +kernel
theorem dX9_next_180 : decode cX9_next 180 = .ok (.ifCond .eq 62, 3) := by decide +kernel
theorem dX9_next_183 : decode cX9_next 183 = .ok (.aload_n 0, 1) := by decide +kernel
theorem dX9_next_184 : decode cX9_next 184 = .ok (.aload_n 0, 1) := by decide +kernel
theorem dX9_next_185 : decode cX9_next 185 = .ok (.getfield 170, 3) := by decide +kernel
theorem dX9_next_188 : decode cX9_next 188 = .ok (.aload_n 0, 1) := by decide +kernel
theorem dX9_next_189 : decode cX9_next 189 = .ok (.getfield 173, 3) := by decide +kernel
theorem dX9_next_192 : decode cX9_next 192 = .ok (.isub, 1) := by decide +kernel
theorem dX9_next_193 : decode cX9_next 193 = .ok (.iconst 5, 1) := by decide +kernel
theorem dX9_next_194 : decode cX9_next 194 = .ok (.if_icmp .ge 29, 3) := by decide +kernel
theorem dX9_next_197 : decode cX9_next 197 = .ok (.aload_n 0, 1) := by decide +kernel
theorem dX9_next_198 : decode cX9_next 198 = .ok (.getfield 176, 3) := by decide +kernel
theorem dX9_next_201 : decode cX9_next 201 = .ok (.ldc2_w 189, 3) := by decide +kernel
theorem dX9_next_204 : decode cX9_next 204 = .ok (.lmul, 1) := by decide +kernel
theorem dX9_next_205 : decode cX9_next 205 = .ok (.aload_n 0, 1) := by decide +kernel
theorem dX9_next_206 : decode cX9_next 206 = .ok (.getfield 83, 3) := by decide +kernel
theorem dX9_next_209 : decode cX9_next 209 = .ok (.aload_n 0, 1) := by decide +kernel
theorem dX9_next_210 : decode cX9_next 210 = .ok (.getfield 170, 3) := by decide +kernel
theorem dX9_next_213 : decode cX9_next 213 = .ok (.iaload, 1) := by decide +kernel
theorem dX9_next_214 : decode cX9_next 214 = .ok (.i2l, 1) := by decide +kernel
theorem dX9_next_215 : decode cX9_next 215 = .ok (.ladd, 1) := by decide +kernel
theorem dX9_next_216 : decode cX9_next 216 = .ok (.ldc2_w 191, 3) := by decide +kernel
theorem dX9_next_219 : decode cX9_next 219 = .ok (.lsub, 1) := by decide +kernel
theorem dX9_next_220 : decode cX9_next 220 = .ok (.goto 6, 3) := by decide +kernel
theorem dX9_next_223 : decode cX9_next 223 = .ok (.ldc2_w 193, 3) := by decide +kernel
theorem dX9_next_226 : decode cX9_next 226 = .ok (.putfield 176, 3) := by decide +kernel
theorem dX9_next_229 : decode cX9_next 229 = .ok (.aload_n 0, 1) := by decide +kernel
theorem dX9_next_230 : decode cX9_next 230 = .ok (.dup, 1) := by decide +kernel
theorem dX9_next_231 : decode cX9_next 231 = .ok (.getfield 170, 3) := by decide +kernel
theorem dX9_next_234 : decode cX9_next 234 = .ok (.iconst 1, 1) := by decide +kernel
theorem dX9_next_235 : decode cX9_next 235 = .ok (.iadd, 1) := by decide +kernel
theorem dX9_next_236 : decode cX9_next 236 = .ok (.putfield 170, 3) := by decide +kernel
theorem dX9_next_239 : decode cX9_next 239 = .ok (.goto (-90), 3) := by decide +kernel
theorem dX9_next_242 : decode cX9_next 242 = .ok (.aload_n 0, 1) := by decide +kernel
theorem dX9_next_243 : decode cX9_next 243 = .ok (.getfield 186, 3) := by decide +kernel
theorem dX9_next_246 : decode cX9_next 246 = .ok (.iconst 2, 1) := by decide +kernel
theorem dX9_next_247 : decode cX9_next 247 = .ok (.if_icmp .ne 87, 3) := by decide +kernel
theorem dX9_next_250 : decode cX9_next 250 = .ok (.aload_n 0, 1) := by decide +kernel
theorem dX9_next_251 : decode cX9_next 251 = .ok (.getfield 170, 3) := by decide +kernel
theorem dX9_next_254 : decode cX9_next 254 = .ok (.aload_n 0, 1) := by decide +kernel
theorem dX9_next_255 : decode cX9_next 255 = .ok (.getfield 164, 3) := by decide +kernel
theorem dX9_next_258 : decode cX9_next 258 = .ok (.if_icmp .ge 76, 3) := by decide +kernel
theorem dX9_next_261 : decode cX9_next 261 = .ok (.aload_n 0, 1) := by decide +kernel
theorem dX9_next_262 : decode cX9_next 262 = .ok (.getfield 83, 3) := by decide +kernel
theorem dX9_next_265 : decode cX9_next 265 = .ok (.aload_n 0, 1) := by decide +kernel
theorem dX9_next_266 : decode cX9_next 266 = .ok (.getfield 170, 3) := by decide +kernel
theorem dX9_next_269 : decode cX9_next 269 = .ok (.iaload, 1) := by decide +kernel
theorem dX9_next_270 : decode cX9_next 270 = .ok (.invokestatic 183, 3) := by decide +kernel
theorem dX9_next_273 : decode cX9_next 273 = .ok (.ifCond .eq 61, 3) := by decide +kernel
theorem dX9_next_276 : decode cX9_next 276 = .ok (.aload_n 0, 1) := by decide +kernel
theorem dX9_next_277 : decode cX9_next 277 = .ok (.aload_n 0, 1) := by decide +kernel
theorem dX9_next_278 : decode cX9_next 278 = .ok (.getfield 176, 3) := by decide +kernel
theorem dX9_next_281 : decode cX9_next 281 = .ok (.ldc2_w 145, 3) := by decide +kernel
theorem dX9_next_284 : decode cX9_next 284 = .ok (.lcmp, 1) := by decide +kernel
theorem dX9_next_285 : decode cX9_next 285 = .ok (.ifCond .le 10, 3) := by decide +kernel
theorem dX9_next_288 : decode cX9_next 288 = .ok (.aload_n 0, 1) := by decide +kernel
theorem dX9_next_289 : decode cX9_next 289 = .ok (.getfield 176, 3) := by decide +kernel
theorem dX9_next_292 : decode cX9_next 292 = .ok (.goto 26, 3) := by decide +kernel
theorem dX9_next_295 : decode cX9_next 295 = .ok (.aload_n 0, 1) := by decide +kernel
theorem dX9_next_296 : decode cX9_next 296 = .ok (.getfield 176, 3) := by decide +kernel
theorem dX9_next_299 : decode cX9_next 299 = .ok (.ldc2_w 195, 3) := by decide +kernel
theorem dX9_next_302 : decode cX9_next 302 = .ok (.lmul, 1) := by decide +kernel
theorem dX9_next_303 : decode cX9_next 303 = .ok (.aload_n 0, 1) := by decide +kernel
theorem dX9_next_304 : decode cX9_next 304 = .ok (.getfield 83, 3) := by decide +kernel
theorem dX9_next_307 : decode cX9_next 307 = .ok (.aload_n 0, 1) := by decide +kernel
theorem dX9_next_308 : decode cX9_next 308 = .ok (.getfield 170, 3) := by decide +kernel
theorem dX9_next_311 : decode cX9_next 311 = .ok (.iaload, 1) := by decide +kernel
theorem dX9_next_312 : decode cX9_next 312 = .ok (.i2l, 1) := by decide +kernel
theorem dX9_next_313 : decode cX9_next 313 = .ok (.ladd, 1) := by decide +kernel
theorem dX9_next_314 : decode cX9_next 314 = .ok (.ldc2_w 197, 3) := by decide +kernel
theorem dX9_next_317 : decode cX9_next 317 = .ok (.lsub, 1) := by decide +kernel
theorem dX9_next_318 : decode cX9_next 318 = .ok (.putfield 176, 3) := by decide +kernel
theorem dX9_next_321 : decode cX9_next 321 = .ok (.aload_n 0, 1) := by decide +kernel
theorem dX9_next_322 : decode cX9_next 322 = .ok (.dup, 1) := by decide +kernel
theorem dX9_next_323 : decode cX9_next 323 = .ok (.getfield 170, 3) := by decide +kernel
theorem dX9_next_326 : decode cX9_next 326 = .ok (.iconst 1, 1) := by decide +kernel
theorem dX9_next_327 : decode cX9_next 327 = .ok (.iadd, 1) := by decide +kernel
theorem dX9_next_328 : decode cX9_next 328 = .ok (.putfield 170, 3) := by decide +kernel
theorem dX9_next_331 : decode cX9_next 331 = .ok (.goto (-89), 3) := by decide +kernel
theorem dX9_next_334 : decode cX9_next 334 = .ok (.return_, 1) := by decide +kernel
theorem dX9_isWord_0 : decode cX9_isWord 0 = .ok (.iload_n 1, 1) := by decide +kernel
theorem dX9_isWord_1 : decode cX9_isWord 1 = .ok (.i2l, 1) := by decide +kernel
theorem dX9_isWord_2 : decode cX9_isWord 2 = .ok (.ldc2_w 191, 3) := by decide +kernel
theorem dX9_isWord_5 : decode cX9_isWord 5 = .ok (.lsub, 1) := by decide +kernel
theorem dX9_isWord_6 : decode cX9_isWord 6 = .ok (.lstore 5, 2) := by decide +kernel
theorem dX9_isWord_8 : decode cX9_isWord 8 = .ok (.iload_n 2, 1) := by decide +kernel
theorem dX9_isWord_9 : decode cX9_isWord 9 = .ok (.ifCond .ne 8, 3) := by decide +kernel
theorem dX9_isWord_12 : decode cX9_isWord 12 = .ok (.lload 5, 2) := by decide +kernel
theorem dX9_isWord_14 : decode cX9_isWord 14 = .ok (.goto 16, 3) := by decide +kernel
theorem dX9_isWord_17 : decode cX9_isWord 17 = .ok (.lload 5, 2) := by decide +kernel
theorem dX9_isWord_19 : decode cX9_isWord 19 = .ok (.ldc2_w 189, 3) := by decide +kernel
theorem dX9_isWord_22 : decode cX9_isWord 22 = .ok (.lmul, 1) := by decide +kernel
theorem dX9_isWord_23 : decode cX9_isWord 23 = .ok (.iload_n 2, 1) := by decide +kernel
theorem dX9_isWord_24 : decode cX9_isWord 24 = .ok (.i2l, 1) := by decide +kernel
theorem dX9_isWord_25 : decode cX9_isWord 25 = .ok (.ladd, 1) := by decide +kernel
theorem dX9_isWord_26 : decode cX9_isWord 26 = .ok (.ldc2_w 191, 3) := by decide +kernel
theorem dX9_isWord_29 : decode cX9_isWord 29 = .ok (.lsub, 1) := by decide +kernel
theorem dX9_isWord_30 : decode cX9_isWord 30 = .ok (.lstore 5, 2) := by decide +kernel
theorem dX9_isWord_32 : decode cX9_isWord 32 = .ok (.iload_n 3, 1) := by decide +kernel
theorem dX9_isWord_33 : decode cX9_isWord 33 = .ok (.ifCond .ne 8, 3) := by decide +kernel
theorem dX9_isWord_36 : decode cX9_isWord 36 = .ok (.lload 5, 2) := by decide +kernel
theorem dX9_isWord_38 : decode cX9_isWord 38 = .ok (.goto 16, 3) := by decide +kernel
theorem dX9_isWord_41 : decode cX9_isWord 41 = .ok (.lload 5, 2) := by decide +kernel
theorem dX9_isWord_43 : decode cX9_isWord 43 = .ok (.ldc2_w 189, 3) := by decide +kernel
theorem dX9_isWord_46 : decode cX9_isWord 46 = .ok (.lmul, 1) := by decide +kernel
theorem dX9_isWord_47 : decode cX9_isWord 47 = .ok (.iload_n 3, 1) := by decide +kernel
theorem dX9_isWord_48 : decode cX9_isWord 48 = .ok (.i2l, 1) := by decide +kernel
theorem dX9_isWord_49 : decode cX9_isWord 49 = .ok (.ladd, 1) := by decide +kernel
theorem dX9_isWord_50 : decode cX9_isWord 50 = .ok (.ldc2_w 191, 3) := by decide +kernel
theorem dX9_isWord_53 : decode cX9_isWord 53 = .ok (.lsub, 1) := by decide +kernel
theorem dX9_isWord_54 : decode cX9_isWord 54 = .ok (.lstore 5, 2) := by decide +kernel
theorem dX9_isWord_56 : decode cX9_isWord 56 = .ok (.iload 4, 2) := by decide +kernel
theorem dX9_isWord_58 : decode cX9_isWord 58 = .ok (.ifCond .ne 8, 3) := by decide +kernel
theorem dX9_isWord_61 : decode cX9_isWord 61 = .ok (.lload 5, 2) := by decide +kernel
theorem dX9_isWord_63 : decode cX9_isWord 63 = .ok (.goto 17, 3) := by decide +kernel
theorem dX9_isWord_66 : decode cX9_isWord 66 = .ok (.lload 5, 2) := by decide +kernel
theorem dX9_isWord_68 : decode cX9_isWord 68 = .ok (.ldc2_w 189, 3) := by decide +kernel
theorem dX9_isWord_71 : decode cX9_isWord 71 = .ok (.lmul, 1) := by decide +kernel
theorem dX9_isWord_72 : decode cX9_isWord 72 = .ok (.iload 4, 2) := by decide +kernel
theorem dX9_isWord_74 : decode cX9_isWord 74 = .ok (.i2l, 1) := by decide +kernel
theorem dX9_isWord_75 : decode cX9_isWord 75 = .ok (.ladd, 1) := by decide +kernel
theorem dX9_isWord_76 : decode cX9_isWord 76 = .ok (.ldc2_w 191, 3) := by decide +kernel
theorem dX9_isWord_79 : decode cX9_isWord 79 = .ok (.lsub, 1) := by decide +kernel
theorem dX9_isWord_80 : decode cX9_isWord 80 = .ok (.lstore 5, 2) := by decide +kernel
theorem dX9_isWord_82 : decode cX9_isWord 82 = .ok (.aload_n 0, 1) := by decide +kernel
theorem dX9_isWord_83 : decode cX9_isWord 83 = .ok (.getfield 186, 3) := by decide +kernel
theorem dX9_isWord_86 : decode cX9_isWord 86 = .ok (.iconst 1, 1) := by decide +kernel
theorem dX9_isWord_87 : decode cX9_isWord 87 = .ok (.if_icmp .ne 17, 3) := by decide +kernel
theorem dX9_isWord_90 : decode cX9_isWord 90 = .ok (.aload_n 0, 1) := by decide +kernel
theorem dX9_isWord_91 : decode cX9_isWord 91 = .ok (.getfield 176, 3) := by decide +kernel
theorem dX9_isWord_94 : decode cX9_isWord 94 = .ok (.lload 5, 2) := by decide +kernel
theorem dX9_isWord_96 : decode cX9_isWord 96 = .ok (.lcmp, 1) := by decide +kernel
theorem dX9_isWord_97 : decode cX9_isWord 97 = .ok (.ifCond .ne 7, 3) := by decide +kernel
theorem dX9_isWord_100 : decode cX9_isWord 100 = .ok (.iconst 1, 1) := by decide +kernel
theorem dX9_isWord_101 : decode cX9_isWord 101 = .ok (.goto 4, 3) := by decide +kernel
theorem dX9_isWord_104 : decode cX9_isWord 104 = .ok (.iconst 0, 1) := by decide +kernel
theorem dX9_isWord_105 : decode cX9_isWord 105 = .ok (.ireturn, 1) := by decide +kernel
theorem dX9_isSign_0 : decode cX9_isSign 0 = .ok (.aload_n 0, 1) := by decide +kernel
theorem dX9_isSign_1 : decode cX9_isSign 1 = .ok (.getfield 186, 3) := by decide +kernel
theorem dX9_isSign_4 : decode cX9_isSign 4 = .ok (.iconst 3, 1) := by decide +kernel
theorem dX9_isSign_5 : decode cX9_isSign 5 = .ok (.if_icmp .ne 17, 3) := by decide +kernel
theorem dX9_isSign_8 : decode cX9_isSign 8 = .ok (.aload_n 0, 1) := by decide +kernel
theorem dX9_isSign_9 : decode cX9_isSign 9 = .ok (.getfield 176, 3) := by decide +kernel
theorem dX9_isSign_12 : decode cX9_isSign 12 = .ok (.iload_n 1, 1) := by decide +kernel
theorem dX9_isSign_13 : decode cX9_isSign 13 = .ok (.i2l, 1) := by decide +kernel
theorem dX9_isSign_14 : decode cX9_isSign 14 = .ok (.lcmp, 1) := by decide +kernel
theorem dX9_isSign_15 : decode cX9_isSign 15 = .ok (.ifCond .ne 7, 3) := by decide +kernel
theorem dX9_isSign_18 : decode cX9_isSign 18 = .ok (.iconst 1, 1) := by decide +kernel
theorem dX9_isSign_19 : decode cX9_isSign 19 = .ok (.goto 4, 3) := by decide +kernel
theorem dX9_isSign_22 : decode cX9_isSign 22 = .ok (.iconst 0, 1) := by decide +kernel
theorem dX9_isSign_23 : decode cX9_isSign 23 = .ok (.ireturn, 1) := by decide +kernel
theorem dX9_must_0 : decode cX9_must 0 = .ok (.aload_n 0, 1) := by decide +kernel
theorem dX9_must_1 : decode cX9_must 1 = .ok (.getfield 199, 3) := by decide +kernel
theorem dX9_must_4 : decode cX9_must 4 = .ok (.ifCond .ne 20, 3) := by decide +kernel
theorem dX9_must_7 : decode cX9_must 7 = .ok (.iload_n 1, 1) := by decide +kernel
theorem dX9_must_8 : decode cX9_must 8 = .ok (.ifCond .ne 16, 3) := by decide +kernel
theorem dX9_must_11 : decode cX9_must 11 = .ok (.aload_n 0, 1) := by decide +kernel
theorem dX9_must_12 : decode cX9_must 12 = .ok (.iconst 1, 1) := by decide +kernel
theorem dX9_must_13 : decode cX9_must 13 = .ok (.putfield 199, 3) := by decide +kernel
theorem dX9_must_16 : decode cX9_must 16 = .ok (.aload_n 0, 1) := by decide +kernel
theorem dX9_must_17 : decode cX9_must 17 = .ok (.aload_n 0, 1) := by decide +kernel
theorem dX9_must_18 : decode cX9_must 18 = .ok (.getfield 173, 3) := by decide +kernel
theorem dX9_must_21 : decode cX9_must 21 = .ok (.putfield 86, 3) := by decide +kernel
theorem dX9_must_24 : decode cX9_must 24 = .ok (.aload_n 0, 1) := by decide +kernel
theorem dX9_must_25 : decode cX9_must 25 = .ok (.getfield 199, 3) := by decide +kernel
theorem dX9_must_28 : decode cX9_must 28 = .ok (.ifCond .ne 7, 3) := by decide +kernel
theorem dX9_must_31 : decode cX9_must 31 = .ok (.aload_n 0, 1) := by decide +kernel
theorem dX9_must_32 : decode cX9_must 32 = .ok (.invokevirtual 203, 3) := by decide +kernel
theorem dX9_must_35 : decode cX9_must 35 = .ok (.return_, 1) := by decide +kernel
theorem dX9_readPart_0 : decode cX9_readPart 0 = .ok (.aload_n 0, 1) := by decide +kernel
theorem dX9_readPart_1 : decode cX9_readPart 1 = .ok (.getfield 176, 3) := by decide +kernel
theorem dX9_readPart_4 : decode cX9_readPart 4 = .ok (.l2i, 1) := by decide +kernel
theorem dX9_readPart_5 : decode cX9_readPart 5 = .ok (.iconst 1, 1) := by decide +kernel
theorem dX9_readPart_6 : decode cX9_readPart 6 = .ok (.isub, 1) := by decide +kernel
theorem dX9_readPart_7 : decode cX9_readPart 7 = .ok (.istore_n 1, 1) := by decide +kernel
theorem dX9_readPart_8 : decode cX9_readPart 8 = .ok (.aload_n 0, 1) := by decide +kernel
theorem dX9_readPart_9 : decode cX9_readPart 9 = .ok (.aload_n 0, 1) := by decide +kernel
theorem dX9_readPart_10 : decode cX9_readPart 10 = .ok (.getfield 186, 3) := by decide +kernel
theorem dX9_readPart_13 : decode cX9_readPart 13 = .ok (.iconst 1, 1) := by decide +kernel
theorem dX9_readPart_14 : decode cX9_readPart 14 = .ok (.if_icmp .ne 30, 3) := by decide +kernel
theorem dX9_readPart_17 : decode cX9_readPart 17 = .ok (.aload_n 0, 1) := by decide +kernel
theorem dX9_readPart_18 : decode cX9_readPart 18 = .ok (.getfield 176, 3) := by decide +kernel
theorem dX9_readPart_21 : decode cX9_readPart 21 = .ok (.lconst 1, 1) := by decide +kernel
theorem dX9_readPart_22 : decode cX9_readPart 22 = .ok (.ldc2_w 206, 3) := by decide +kernel
theorem dX9_readPart_25 : decode cX9_readPart 25 = .ok (.invokestatic 139, 3) := by decide +kernel
theorem dX9_readPart_28 : decode cX9_readPart 28 = .ok (.ifCond .eq 16, 3) := by decide +kernel
theorem dX9_readPart_31 : decode cX9_readPart 31 = .ok (.aload_n 0, 1) := by decide +kernel
theorem dX9_readPart_32 : decode cX9_readPart 32 = .ok (.getfield 208, 3) := by decide +kernel
theorem dX9_readPart_35 : decode cX9_readPart 35 = .ok (.bipush 20, 2) := by decide +kernel
theorem dX9_readPart_37 : decode cX9_readPart 37 = .ok (.if_icmp .ge 7, 3) := by decide +kernel
theorem dX9_readPart_40 : decode cX9_readPart 40 = .ok (.iconst 1, 1) := by decide +kernel
theorem dX9_readPart_41 : decode cX9_readPart 41 = .ok (.goto 4, 3) := by decide +kernel
theorem dX9_readPart_44 : decode cX9_readPart 44 = .ok (.iconst 0, 1) := by decide +kernel
theorem dX9_readPart_45 : decode cX9_readPart 45 = .ok (.invokevirtual 211, 3) := by decide +kernel
theorem dX9_readPart_48 : decode cX9_readPart 48 = .ok (.aload_n 0, 1) := by decide +kernel
theorem dX9_readPart_49 : decode cX9_readPart 49 = .ok (.getfield 199, 3) := by decide +kernel
theorem dX9_readPart_52 : decode cX9_readPart 52 = .ok (.ifCond .eq 5, 3) := by decide +kernel
theorem dX9_readPart_55 : decode cX9_readPart 55 = .ok (.iconst 0, 1) := by decide +kernel
theorem dX9_readPart_56 : decode cX9_readPart 56 = .ok (.ireturn, 1) := by decide +kernel
theorem dX9_readPart_57 : decode cX9_readPart 57 = .ok (.aload_n 0, 1) := by decide +kernel
theorem dX9_readPart_58 : decode cX9_readPart 58 = .ok (.getfield 59, 3) := by decide +kernel
theorem dX9_readPart_61 : decode cX9_readPart 61 = .ok (.aload_n 0, 1) := by decide +kernel
theorem dX9_readPart_62 : decode cX9_readPart 62 = .ok (.getfield 208, 3) := by decide +kernel
theorem dX9_readPart_65 : decode cX9_readPart 65 = .ok (.iload_n 1, 1) := by decide +kernel
theorem dX9_readPart_66 : decode cX9_readPart 66 = .ok (.iastore, 1) := by decide +kernel
theorem dX9_readPart_67 : decode cX9_readPart 67 = .ok (.aload_n 0, 1) := by decide +kernel
theorem dX9_readPart_68 : decode cX9_readPart 68 = .ok (.getfield 62, 3) := by decide +kernel
theorem dX9_readPart_71 : decode cX9_readPart 71 = .ok (.aload_n 0, 1) := by decide +kernel
theorem dX9_readPart_72 : decode cX9_readPart 72 = .ok (.getfield 208, 3) := by decide +kernel
theorem dX9_readPart_75 : decode cX9_readPart 75 = .ok (.iconst (-1), 1) := by decide +kernel
theorem dX9_readPart_76 : decode cX9_readPart 76 = .ok (.iastore, 1) := by decide +kernel
theorem dX9_readPart_77 : decode cX9_readPart 77 = .ok (.aload_n 0, 1) := by decide +kernel
theorem dX9_readPart_78 : decode cX9_readPart 78 = .ok (.getfield 65, 3) := by decide +kernel
theorem dX9_readPart_81 : decode cX9_readPart 81 = .ok (.aload_n 0, 1) := by decide +kernel
theorem dX9_readPart_82 : decode cX9_readPart 82 = .ok (.getfield 208, 3) := by decide +kernel
theorem dX9_readPart_85 : decode cX9_readPart 85 = .ok (.iconst (-1), 1) := by decide +kernel
theorem dX9_readPart_86 : decode cX9_readPart 86 = .ok (.iastore, 1) := by decide +kernel
theorem dX9_readPart_87 : decode cX9_readPart 87 = .ok (.aload_n 0, 1) := by decide +kernel
theorem dX9_readPart_88 : decode cX9_readPart 88 = .ok (.dup, 1) := by decide +kernel
theorem dX9_readPart_89 : decode cX9_readPart 89 = .ok (.getfield 208, 3) := by decide +kernel
theorem dX9_readPart_92 : decode cX9_readPart 92 = .ok (.iconst 1, 1) := by decide +kernel
theorem dX9_readPart_93 : decode cX9_readPart 93 = .ok (.iadd, 1) := by decide +kernel
theorem dX9_readPart_94 : decode cX9_readPart 94 = .ok (.putfield 208, 3) := by decide +kernel
theorem dX9_readPart_97 : decode cX9_readPart 97 = .ok (.aload_n 0, 1) := by decide +kernel
theorem dX9_readPart_98 : decode cX9_readPart 98 = .ok (.bipush 123, 2) := by decide +kernel
theorem dX9_readPart_100 : decode cX9_readPart 100 = .ok (.invokevirtual 215, 3) := by decide +kernel
theorem dX9_readPart_103 : decode cX9_readPart 103 = .ok (.istore_n 2, 1) := by decide +kernel
theorem dX9_readPart_104 : decode cX9_readPart 104 = .ok (.iload_n 2, 1) := by decide +kernel
theorem dX9_readPart_105 : decode cX9_readPart 105 = .ok (.ifCond .eq 21, 3) := by decide +kernel
theorem dX9_readPart_108 : decode cX9_readPart 108 = .ok (.aload_n 0, 1) := by decide +kernel
theorem dX9_readPart_109 : decode cX9_readPart 109 = .ok (.aload_n 0, 1) := by decide +kernel
theorem dX9_readPart_110 : decode cX9_readPart 110 = .ok (.getfield 218, 3) := by decide +kernel
theorem dX9_readPart_113 : decode cX9_readPart 113 = .ok (.bipush 6, 2) := by decide +kernel
theorem dX9_readPart_115 : decode cX9_readPart 115 = .ok (.if_icmp .ge 7, 3) := by decide +kernel
theorem dX9_readPart_118 : decode cX9_readPart 118 = .ok (.iconst 1, 1) := by decide +kernel
theorem dX9_readPart_119 : decode cX9_readPart 119 = .ok (.goto 4, 3) := by decide +kernel
theorem dX9_readPart_122 : decode cX9_readPart 122 = .ok (.iconst 0, 1) := by decide +kernel
theorem dX9_readPart_123 : decode cX9_readPart 123 = .ok (.invokevirtual 211, 3) := by decide +kernel
theorem dX9_readPart_126 : decode cX9_readPart 126 = .ok (.iload_n 2, 1) := by decide +kernel
theorem dX9_readPart_127 : decode cX9_readPart 127 = .ok (.ifCond .eq 35, 3) := by decide +kernel
theorem dX9_readPart_130 : decode cX9_readPart 130 = .ok (.aload_n 0, 1) := by decide +kernel
theorem dX9_readPart_131 : decode cX9_readPart 131 = .ok (.getfield 199, 3) := by decide +kernel
theorem dX9_readPart_134 : decode cX9_readPart 134 = .ok (.ifCond .ne 28, 3) := by decide +kernel
theorem dX9_readPart_137 : decode cX9_readPart 137 = .ok (.aload_n 0, 1) := by decide +kernel
theorem dX9_readPart_138 : decode cX9_readPart 138 = .ok (.getfield 80, 3) := by decide +kernel
theorem dX9_readPart_141 : decode cX9_readPart 141 = .ok (.aload_n 0, 1) := by decide +kernel
theorem dX9_readPart_142 : decode cX9_readPart 142 = .ok (.getfield 218, 3) := by decide +kernel
theorem dX9_readPart_145 : decode cX9_readPart 145 = .ok (.aload_n 0, 1) := by decide +kernel
theorem dX9_readPart_146 : decode cX9_readPart 146 = .ok (.getfield 208, 3) := by decide +kernel
theorem dX9_readPart_149 : decode cX9_readPart 149 = .ok (.iconst 1, 1) := by decide +kernel
theorem dX9_readPart_150 : decode cX9_readPart 150 = .ok (.isub, 1) := by decide +kernel
theorem dX9_readPart_151 : decode cX9_readPart 151 = .ok (.iastore, 1) := by decide +kernel
theorem dX9_readPart_152 : decode cX9_readPart 152 = .ok (.aload_n 0, 1) := by decide +kernel
theorem dX9_readPart_153 : decode cX9_readPart 153 = .ok (.dup, 1) := by decide +kernel
theorem dX9_readPart_154 : decode cX9_readPart 154 = .ok (.getfield 218, 3) := by decide +kernel
theorem dX9_readPart_157 : decode cX9_readPart 157 = .ok (.iconst 1, 1) := by decide +kernel
theorem dX9_readPart_158 : decode cX9_readPart 158 = .ok (.iadd, 1) := by decide +kernel
theorem dX9_readPart_159 : decode cX9_readPart 159 = .ok (.putfield 218, 3) := by decide +kernel
theorem dX9_readPart_162 : decode cX9_readPart 162 = .ok (.iload_n 2, 1) := by decide +kernel
theorem dX9_readPart_163 : decode cX9_readPart 163 = .ok (.ireturn, 1) := by decide +kernel
theorem dX9_readItem_0 : decode cX9_readItem 0 = .ok (.aload_n 0, 1) := by decide +kernel
theorem dX9_readItem_1 : decode cX9_readItem 1 = .ok (.bipush 118, 2) := by decide +kernel
theorem dX9_readItem_3 : decode cX9_readItem 3 = .ok (.iconst 0, 1) := by decide +kernel
theorem dX9_readItem_4 : decode cX9_readItem 4 = .ok (.iconst 0, 1) := by decide +kernel
theorem dX9_readItem_5 : decode cX9_readItem 5 = .ok (.iconst 0, 1) := by decide +kernel
theorem dX9_readItem_6 : decode cX9_readItem 6 = .ok (.invokevirtual 221, 3) := by decide +kernel
theorem dX9_readItem_9 : decode cX9_readItem 9 = .ok (.ifCond .eq 7, 3) := by decide +kernel
theorem dX9_readItem_12 : decode cX9_readItem 12 = .ok (.iconst 0, 1) := by decide +kernel
theorem dX9_readItem_13 : decode cX9_readItem 13 = .ok (.goto 40, 3) := by decide +kernel
theorem dX9_readItem_16 : decode cX9_readItem 16 = .ok (.aload_n 0, 1) := by decide +kernel
theorem dX9_readItem_17 : decode cX9_readItem 17 = .ok (.bipush 117, 2) := by decide +kernel
theorem dX9_readItem_19 : decode cX9_readItem 19 = .ok (.bipush 112, 2) := by decide +kernel
theorem dX9_readItem_21 : decode cX9_readItem 21 = .ok (.iconst 0, 1) := by decide +kernel
theorem dX9_readItem_22 : decode cX9_readItem 22 = .ok (.iconst 0, 1) := by decide +kernel
theorem dX9_readItem_23 : decode cX9_readItem 23 = .ok (.invokevirtual 221, 3) := by decide +kernel
theorem dX9_readItem_26 : decode cX9_readItem 26 = .ok (.ifCond .eq 7, 3) := by decide +kernel
theorem dX9_readItem_29 : decode cX9_readItem 29 = .ok (.iconst 1, 1) := by decide +kernel
theorem dX9_readItem_30 : decode cX9_readItem 30 = .ok (.goto 23, 3) := by decide +kernel
theorem dX9_readItem_33 : decode cX9_readItem 33 = .ok (.aload_n 0, 1) := by decide +kernel
theorem dX9_readItem_34 : decode cX9_readItem 34 = .ok (.bipush 100, 2) := by decide +kernel
theorem dX9_readItem_36 : decode cX9_readItem 36 = .ok (.bipush 111, 2) := by decide +kernel
theorem dX9_readItem_38 : decode cX9_readItem 38 = .ok (.bipush 119, 2) := by decide +kernel
theorem dX9_readItem_40 : decode cX9_readItem 40 = .ok (.bipush 110, 2) := by decide +kernel
theorem dX9_readItem_42 : decode cX9_readItem 42 = .ok (.invokevirtual 221, 3) := by decide +kernel
theorem dX9_readItem_45 : decode cX9_readItem 45 = .ok (.ifCond .eq 7, 3) := by decide +kernel
theorem dX9_readItem_48 : decode cX9_readItem 48 = .ok (.iconst 2, 1) := by decide +kernel
theorem dX9_readItem_49 : decode cX9_readItem 49 = .ok (.goto 4, 3) := by decide +kernel
theorem dX9_readItem_52 : decode cX9_readItem 52 = .ok (.iconst (-1), 1) := by decide +kernel
theorem dX9_readItem_53 : decode cX9_readItem 53 = .ok (.istore_n 1, 1) := by decide +kernel
theorem dX9_readItem_54 : decode cX9_readItem 54 = .ok (.aload_n 0, 1) := by decide +kernel
theorem dX9_readItem_55 : decode cX9_readItem 55 = .ok (.iload_n 1, 1) := by decide +kernel
theorem dX9_readItem_56 : decode cX9_readItem 56 = .ok (.ifCond .lt 7, 3) := by decide +kernel
theorem dX9_readItem_59 : decode cX9_readItem 59 = .ok (.iconst 1, 1) := by decide +kernel
theorem dX9_readItem_60 : decode cX9_readItem 60 = .ok (.goto 4, 3) := by decide +kernel
theorem dX9_readItem_63 : decode cX9_readItem 63 = .ok (.iconst 0, 1) := by decide +kernel
theorem dX9_readItem_64 : decode cX9_readItem 64 = .ok (.invokevirtual 211, 3) := by decide +kernel
theorem dX9_readItem_67 : decode cX9_readItem 67 = .ok (.iconst 0, 1) := by decide +kernel
theorem dX9_readItem_68 : decode cX9_readItem 68 = .ok (.istore_n 2, 1) := by decide +kernel
theorem dX9_readItem_69 : decode cX9_readItem 69 = .ok (.iload_n 1, 1) := by decide +kernel
theorem dX9_readItem_70 : decode cX9_readItem 70 = .ok (.ifCond .le 35, 3) := by decide +kernel
theorem dX9_readItem_73 : decode cX9_readItem 73 = .ok (.aload_n 0, 1) := by decide +kernel
theorem dX9_readItem_74 : decode cX9_readItem 74 = .ok (.getfield 176, 3) := by decide +kernel
theorem dX9_readItem_77 : decode cX9_readItem 77 = .ok (.l2i, 1) := by decide +kernel
theorem dX9_readItem_78 : decode cX9_readItem 78 = .ok (.istore_n 2, 1) := by decide +kernel
theorem dX9_readItem_79 : decode cX9_readItem 79 = .ok (.aload_n 0, 1) := by decide +kernel
theorem dX9_readItem_80 : decode cX9_readItem 80 = .ok (.aload_n 0, 1) := by decide +kernel
theorem dX9_readItem_81 : decode cX9_readItem 81 = .ok (.getfield 186, 3) := by decide +kernel
theorem dX9_readItem_84 : decode cX9_readItem 84 = .ok (.iconst 2, 1) := by decide +kernel
theorem dX9_readItem_85 : decode cX9_readItem 85 = .ok (.if_icmp .ne 16, 3) := by decide +kernel
theorem dX9_readItem_88 : decode cX9_readItem 88 = .ok (.aload_n 0, 1) := by decide +kernel
theorem dX9_readItem_89 : decode cX9_readItem 89 = .ok (.getfield 176, 3) := by decide +kernel
theorem dX9_readItem_92 : decode cX9_readItem 92 = .ok (.lconst 1, 1) := by decide +kernel
theorem dX9_readItem_93 : decode cX9_readItem 93 = .ok (.lcmp, 1) := by decide +kernel
theorem dX9_readItem_94 : decode cX9_readItem 94 = .ok (.ifCond .gt 7, 3) := by decide +kernel
theorem dX9_readItem_97 : decode cX9_readItem 97 = .ok (.iconst 1, 1) := by decide +kernel
theorem dX9_readItem_98 : decode cX9_readItem 98 = .ok (.goto 4, 3) := by decide +kernel
theorem dX9_readItem_101 : decode cX9_readItem 101 = .ok (.iconst 0, 1) := by decide +kernel
theorem dX9_readItem_102 : decode cX9_readItem 102 = .ok (.invokevirtual 211, 3) := by decide +kernel
theorem dX9_readItem_105 : decode cX9_readItem 105 = .ok (.aload_n 0, 1) := by decide +kernel
theorem dX9_readItem_106 : decode cX9_readItem 106 = .ok (.getfield 199, 3) := by decide +kernel
theorem dX9_readItem_109 : decode cX9_readItem 109 = .ok (.ifCond .eq 5, 3) := by decide +kernel
theorem dX9_readItem_112 : decode cX9_readItem 112 = .ok (.iconst 0, 1) := by decide +kernel
theorem dX9_readItem_113 : decode cX9_readItem 113 = .ok (.ireturn, 1) := by decide +kernel
theorem dX9_readItem_114 : decode cX9_readItem 114 = .ok (.aload_n 0, 1) := by decide +kernel
theorem dX9_readItem_115 : decode cX9_readItem 115 = .ok (.getfield 80, 3) := by decide +kernel
theorem dX9_readItem_118 : decode cX9_readItem 118 = .ok (.aload_n 0, 1) := by decide +kernel
theorem dX9_readItem_119 : decode cX9_readItem 119 = .ok (.getfield 218, 3) := by decide +kernel
theorem dX9_readItem_122 : decode cX9_readItem 122 = .ok (.iconst 1, 1) := by decide +kernel
theorem dX9_readItem_123 : decode cX9_readItem 123 = .ok (.isub, 1) := by decide +kernel
theorem dX9_readItem_124 : decode cX9_readItem 124 = .ok (.iaload, 1) := by decide +kernel
theorem dX9_readItem_125 : decode cX9_readItem 125 = .ok (.istore_n 3, 1) := by decide +kernel
theorem dX9_readItem_126 : decode cX9_readItem 126 = .ok (.aload_n 0, 1) := by decide +kernel
theorem dX9_readItem_127 : decode cX9_readItem 127 = .ok (.getfield 225, 3) := by decide +kernel
theorem dX9_readItem_130 : decode cX9_readItem 130 = .ok (.istore 4, 2) := by decide +kernel
theorem dX9_readItem_132 : decode cX9_readItem 132 = .ok (.aload_n 0, 1) := by decide +kernel
theorem dX9_readItem_133 : decode cX9_readItem 133 = .ok (.getfield 68, 3) := by decide +kernel
theorem dX9_readItem_136 : decode cX9_readItem 136 = .ok (.iload 4, 2) := by decide +kernel
theorem dX9_readItem_138 : decode cX9_readItem 138 = .ok (.iload_n 1, 1) := by decide +kernel
theorem dX9_readItem_139 : decode cX9_readItem 139 = .ok (.iastore, 1) := by decide +kernel
theorem dX9_readItem_140 : decode cX9_readItem 140 = .ok (.aload_n 0, 1) := by decide +kernel
theorem dX9_readItem_141 : decode cX9_readItem 141 = .ok (.getfield 71, 3) := by decide +kernel
theorem dX9_readItem_144 : decode cX9_readItem 144 = .ok (.iload 4, 2) := by decide +kernel
theorem dX9_readItem_146 : decode cX9_readItem 146 = .ok (.iload_n 2, 1) := by decide +kernel
theorem dX9_readItem_147 : decode cX9_readItem 147 = .ok (.iastore, 1) := by decide +kernel
theorem dX9_readItem_148 : decode cX9_readItem 148 = .ok (.aload_n 0, 1) := by decide +kernel
theorem dX9_readItem_149 : decode cX9_readItem 149 = .ok (.getfield 74, 3) := by decide +kernel
theorem dX9_readItem_152 : decode cX9_readItem 152 = .ok (.iload 4, 2) := by decide +kernel
theorem dX9_readItem_154 : decode cX9_readItem 154 = .ok (.aload_n 0, 1) := by decide +kernel
theorem dX9_readItem_155 : decode cX9_readItem 155 = .ok (.getfield 208, 3) := by decide +kernel
theorem dX9_readItem_158 : decode cX9_readItem 158 = .ok (.iastore, 1) := by decide +kernel
theorem dX9_readItem_159 : decode cX9_readItem 159 = .ok (.aload_n 0, 1) := by decide +kernel
theorem dX9_readItem_160 : decode cX9_readItem 160 = .ok (.getfield 77, 3) := by decide +kernel
theorem dX9_readItem_163 : decode cX9_readItem 163 = .ok (.iload 4, 2) := by decide +kernel
theorem dX9_readItem_165 : decode cX9_readItem 165 = .ok (.iconst (-1), 1) := by decide +kernel
theorem dX9_readItem_166 : decode cX9_readItem 166 = .ok (.iastore, 1) := by decide +kernel
theorem dX9_readItem_167 : decode cX9_readItem 167 = .ok (.aload_n 0, 1) := by decide +kernel
theorem dX9_readItem_168 : decode cX9_readItem 168 = .ok (.dup, 1) := by decide +kernel
theorem dX9_readItem_169 : decode cX9_readItem 169 = .ok (.getfield 225, 3) := by decide +kernel
theorem dX9_readItem_172 : decode cX9_readItem 172 = .ok (.iconst 1, 1) := by decide +kernel
theorem dX9_readItem_173 : decode cX9_readItem 173 = .ok (.iadd, 1) := by decide +kernel
theorem dX9_readItem_174 : decode cX9_readItem 174 = .ok (.putfield 225, 3) := by decide +kernel
theorem dX9_readItem_177 : decode cX9_readItem 177 = .ok (.aload_n 0, 1) := by decide +kernel
theorem dX9_readItem_178 : decode cX9_readItem 178 = .ok (.getfield 65, 3) := by decide +kernel
theorem dX9_readItem_181 : decode cX9_readItem 181 = .ok (.iload_n 3, 1) := by decide +kernel
theorem dX9_readItem_182 : decode cX9_readItem 182 = .ok (.iaload, 1) := by decide +kernel
theorem dX9_readItem_183 : decode cX9_readItem 183 = .ok (.iconst (-1), 1) := by decide +kernel
theorem dX9_readItem_184 : decode cX9_readItem 184 = .ok (.if_icmp .ne 14, 3) := by decide +kernel
theorem dX9_readItem_187 : decode cX9_readItem 187 = .ok (.aload_n 0, 1) := by decide +kernel
theorem dX9_readItem_188 : decode cX9_readItem 188 = .ok (.getfield 62, 3) := by decide +kernel
theorem dX9_readItem_191 : decode cX9_readItem 191 = .ok (.iload_n 3, 1) := by decide +kernel
theorem dX9_readItem_192 : decode cX9_readItem 192 = .ok (.iload 4, 2) := by decide +kernel
theorem dX9_readItem_194 : decode cX9_readItem 194 = .ok (.iastore, 1) := by decide +kernel
theorem dX9_readItem_195 : decode cX9_readItem 195 = .ok (.goto 16, 3) := by decide +kernel
theorem dX9_readItem_198 : decode cX9_readItem 198 = .ok (.aload_n 0, 1) := by decide +kernel
theorem dX9_readItem_199 : decode cX9_readItem 199 = .ok (.getfield 77, 3) := by decide +kernel
theorem dX9_readItem_202 : decode cX9_readItem 202 = .ok (.aload_n 0, 1) := by decide +kernel
theorem dX9_readItem_203 : decode cX9_readItem 203 = .ok (.getfield 65, 3) := by decide +kernel
theorem dX9_readItem_206 : decode cX9_readItem 206 = .ok (.iload_n 3, 1) := by decide +kernel
theorem dX9_readItem_207 : decode cX9_readItem 207 = .ok (.iaload, 1) := by decide +kernel
theorem dX9_readItem_208 : decode cX9_readItem 208 = .ok (.iload 4, 2) := by decide +kernel
theorem dX9_readItem_210 : decode cX9_readItem 210 = .ok (.iastore, 1) := by decide +kernel
theorem dX9_readItem_211 : decode cX9_readItem 211 = .ok (.aload_n 0, 1) := by decide +kernel
theorem dX9_readItem_212 : decode cX9_readItem 212 = .ok (.getfield 65, 3) := by decide +kernel
theorem dX9_readItem_215 : decode cX9_readItem 215 = .ok (.iload_n 3, 1) := by decide +kernel
theorem dX9_readItem_216 : decode cX9_readItem 216 = .ok (.iload 4, 2) := by decide +kernel
theorem dX9_readItem_218 : decode cX9_readItem 218 = .ok (.iastore, 1) := by decide +kernel
theorem dX9_readItem_219 : decode cX9_readItem 219 = .ok (.iload_n 1, 1) := by decide +kernel
theorem dX9_readItem_220 : decode cX9_readItem 220 = .ok (.ifCond .le 14, 3) := by decide +kernel
theorem dX9_readItem_223 : decode cX9_readItem 223 = .ok (.aload_n 0, 1) := by decide +kernel
theorem dX9_readItem_224 : decode cX9_readItem 224 = .ok (.invokevirtual 228, 3) := by decide +kernel
theorem dX9_readItem_227 : decode cX9_readItem 227 = .ok (.ifCond .eq 7, 3) := by decide +kernel
theorem dX9_readItem_230 : decode cX9_readItem 230 = .ok (.iconst 1, 1) := by decide +kernel
theorem dX9_readItem_231 : decode cX9_readItem 231 = .ok (.goto 4, 3) := by decide +kernel
theorem dX9_readItem_234 : decode cX9_readItem 234 = .ok (.iconst 0, 1) := by decide +kernel
theorem dX9_readItem_235 : decode cX9_readItem 235 = .ok (.ireturn, 1) := by decide +kernel
theorem dX9_shape_0 : decode cX9_shape 0 = .ok (.aload_n 0, 1) := by decide +kernel
theorem dX9_shape_1 : decode cX9_shape 1 = .ok (.iconst 0, 1) := by decide +kernel
theorem dX9_shape_2 : decode cX9_shape 2 = .ok (.putfield 123, 3) := by decide +kernel
theorem dX9_shape_5 : decode cX9_shape 5 = .ok (.aload_n 0, 1) := by decide +kernel
theorem dX9_shape_6 : decode cX9_shape 6 = .ok (.iconst 0, 1) := by decide +kernel
theorem dX9_shape_7 : decode cX9_shape 7 = .ok (.putfield 170, 3) := by decide +kernel
theorem dX9_shape_10 : decode cX9_shape 10 = .ok (.aload_n 0, 1) := by decide +kernel
theorem dX9_shape_11 : decode cX9_shape 11 = .ok (.iconst 0, 1) := by decide +kernel
theorem dX9_shape_12 : decode cX9_shape 12 = .ok (.putfield 199, 3) := by decide +kernel
theorem dX9_shape_15 : decode cX9_shape 15 = .ok (.aload_n 0, 1) := by decide +kernel
theorem dX9_shape_16 : decode cX9_shape 16 = .ok (.iconst (-1), 1) := by decide +kernel
theorem dX9_shape_17 : decode cX9_shape 17 = .ok (.putfield 86, 3) := by decide +kernel
theorem dX9_shape_20 : decode cX9_shape 20 = .ok (.aload_n 0, 1) := by decide +kernel
theorem dX9_shape_21 : decode cX9_shape 21 = .ok (.iconst 0, 1) := by decide +kernel
theorem dX9_shape_22 : decode cX9_shape 22 = .ok (.putfield 208, 3) := by decide +kernel
theorem dX9_shape_25 : decode cX9_shape 25 = .ok (.aload_n 0, 1) := by decide +kernel
theorem dX9_shape_26 : decode cX9_shape 26 = .ok (.iconst 0, 1) := by decide +kernel
theorem dX9_shape_27 : decode cX9_shape 27 = .ok (.putfield 225, 3) := by decide +kernel
theorem dX9_shape_30 : decode cX9_shape 30 = .ok (.aload_n 0, 1) := by decide +kernel
theorem dX9_shape_31 : decode cX9_shape 31 = .ok (.iconst 0, 1) := by decide +kernel
theorem dX9_shape_32 : decode cX9_shape 32 = .ok (.putfield 218, 3) := by decide +kernel
theorem dX9_shape_35 : decode cX9_shape 35 = .ok (.aload_n 0, 1) := by decide +kernel
theorem dX9_shape_36 : decode cX9_shape 36 = .ok (.invokevirtual 203, 3) := by decide +kernel
theorem dX9_shape_39 : decode cX9_shape 39 = .ok (.aload_n 0, 1) := by decide +kernel
theorem dX9_shape_40 : decode cX9_shape 40 = .ok (.invokevirtual 228, 3) := by decide +kernel
theorem dX9_shape_43 : decode cX9_shape 43 = .ok (.istore_n 1, 1) := by decide +kernel
theorem dX9_shape_44 : decode cX9_shape 44 = .ok (.aload_n 0, 1) := by decide +kernel
theorem dX9_shape_45 : decode cX9_shape 45 = .ok (.getfield 199, 3) := by decide +kernel
theorem dX9_shape_48 : decode cX9_shape 48 = .ok (.ifCond .ne 63, 3) := by decide +kernel
theorem dX9_shape_51 : decode cX9_shape 51 = .ok (.aload_n 0, 1) := by decide +kernel
theorem dX9_shape_52 : decode cX9_shape 52 = .ok (.getfield 218, 3) := by decide +kernel
theorem dX9_shape_55 : decode cX9_shape 55 = .ok (.ifCond .le 56, 3) := by decide +kernel
theorem dX9_shape_58 : decode cX9_shape 58 = .ok (.iload_n 1, 1) := by decide +kernel
theorem dX9_shape_59 : decode cX9_shape 59 = .ok (.ifCond .eq 11, 3) := by decide +kernel
theorem dX9_shape_62 : decode cX9_shape 62 = .ok (.aload_n 0, 1) := by decide +kernel
theorem dX9_shape_63 : decode cX9_shape 63 = .ok (.invokevirtual 232, 3) := by decide +kernel
theorem dX9_shape_66 : decode cX9_shape 66 = .ok (.istore_n 1, 1) := by decide +kernel
theorem dX9_shape_67 : decode cX9_shape 67 = .ok (.goto (-23), 3) := by decide +kernel
theorem dX9_shape_70 : decode cX9_shape 70 = .ok (.aload_n 0, 1) := by decide +kernel
theorem dX9_shape_71 : decode cX9_shape 71 = .ok (.bipush 44, 2) := by decide +kernel
theorem dX9_shape_73 : decode cX9_shape 73 = .ok (.invokevirtual 215, 3) := by decide +kernel
theorem dX9_shape_76 : decode cX9_shape 76 = .ok (.ifCond .eq 12, 3) := by decide +kernel
theorem dX9_shape_79 : decode cX9_shape 79 = .ok (.aload_n 0, 1) := by decide +kernel
theorem dX9_shape_80 : decode cX9_shape 80 = .ok (.invokevirtual 203, 3) := by decide +kernel
theorem dX9_shape_83 : decode cX9_shape 83 = .ok (.iconst 1, 1) := by decide +kernel
theorem dX9_shape_84 : decode cX9_shape 84 = .ok (.istore_n 1, 1) := by decide +kernel
theorem dX9_shape_85 : decode cX9_shape 85 = .ok (.goto (-41), 3) := by decide +kernel
theorem dX9_shape_88 : decode cX9_shape 88 = .ok (.aload_n 0, 1) := by decide +kernel
theorem dX9_shape_89 : decode cX9_shape 89 = .ok (.aload_n 0, 1) := by decide +kernel
theorem dX9_shape_90 : decode cX9_shape 90 = .ok (.bipush 125, 2) := by decide +kernel
theorem dX9_shape_92 : decode cX9_shape 92 = .ok (.invokevirtual 215, 3) := by decide +kernel
theorem dX9_shape_95 : decode cX9_shape 95 = .ok (.invokevirtual 211, 3) := by decide +kernel
theorem dX9_shape_98 : decode cX9_shape 98 = .ok (.aload_n 0, 1) := by decide +kernel
theorem dX9_shape_99 : decode cX9_shape 99 = .ok (.dup, 1) := by decide +kernel
theorem dX9_shape_100 : decode cX9_shape 100 = .ok (.getfield 218, 3) := by decide +kernel
theorem dX9_shape_103 : decode cX9_shape 103 = .ok (.iconst 1, 1) := by decide +kernel
theorem dX9_shape_104 : decode cX9_shape 104 = .ok (.isub, 1) := by decide +kernel
theorem dX9_shape_105 : decode cX9_shape 105 = .ok (.putfield 218, 3) := by decide +kernel
theorem dX9_shape_108 : decode cX9_shape 108 = .ok (.goto (-64), 3) := by decide +kernel
theorem dX9_shape_111 : decode cX9_shape 111 = .ok (.aload_n 0, 1) := by decide +kernel
theorem dX9_shape_112 : decode cX9_shape 112 = .ok (.getfield 199, 3) := by decide +kernel
theorem dX9_shape_115 : decode cX9_shape 115 = .ok (.ifCond .ne 15, 3) := by decide +kernel
theorem dX9_shape_118 : decode cX9_shape 118 = .ok (.aload_n 0, 1) := by decide +kernel
theorem dX9_shape_119 : decode cX9_shape 119 = .ok (.getfield 186, 3) := by decide +kernel
theorem dX9_shape_122 : decode cX9_shape 122 = .ok (.ifCond .eq 8, 3) := by decide +kernel
theorem dX9_shape_125 : decode cX9_shape 125 = .ok (.aload_n 0, 1) := by decide +kernel
theorem dX9_shape_126 : decode cX9_shape 126 = .ok (.iconst 0, 1) := by decide +kernel
theorem dX9_shape_127 : decode cX9_shape 127 = .ok (.invokevirtual 211, 3) := by decide +kernel
theorem dX9_shape_130 : decode cX9_shape 130 = .ok (.aload_n 0, 1) := by decide +kernel
theorem dX9_shape_131 : decode cX9_shape 131 = .ok (.iconst 0, 1) := by decide +kernel
theorem dX9_shape_132 : decode cX9_shape 132 = .ok (.putfield 164, 3) := by decide +kernel
theorem dX9_shape_135 : decode cX9_shape 135 = .ok (.aload_n 0, 1) := by decide +kernel
theorem dX9_shape_136 : decode cX9_shape 136 = .ok (.getfield 199, 3) := by decide +kernel
theorem dX9_shape_139 : decode cX9_shape 139 = .ok (.ifCond .eq 10, 3) := by decide +kernel
theorem dX9_shape_142 : decode cX9_shape 142 = .ok (.aload_n 0, 1) := by decide +kernel
theorem dX9_shape_143 : decode cX9_shape 143 = .ok (.bipush (-6), 2) := by decide +kernel
theorem dX9_shape_145 : decode cX9_shape 145 = .ok (.invokevirtual 153, 3) := by decide +kernel
theorem dX9_shape_148 : decode cX9_shape 148 = .ok (.ireturn, 1) := by decide +kernel
theorem dX9_shape_149 : decode cX9_shape 149 = .ok (.aload_n 0, 1) := by decide +kernel
theorem dX9_shape_150 : decode cX9_shape 150 = .ok (.aload_n 0, 1) := by decide +kernel
theorem dX9_shape_151 : decode cX9_shape 151 = .ok (.getfield 208, 3) := by decide +kernel
theorem dX9_shape_154 : decode cX9_shape 154 = .ok (.putfield 235, 3) := by decide +kernel
theorem dX9_shape_157 : decode cX9_shape 157 = .ok (.iconst 0, 1) := by decide +kernel
theorem dX9_shape_158 : decode cX9_shape 158 = .ok (.istore_n 2, 1) := by decide +kernel
theorem dX9_shape_159 : decode cX9_shape 159 = .ok (.iload_n 2, 1) := by decide +kernel
theorem dX9_shape_160 : decode cX9_shape 160 = .ok (.aload_n 0, 1) := by decide +kernel
theorem dX9_shape_161 : decode cX9_shape 161 = .ok (.getfield 208, 3) := by decide +kernel
theorem dX9_shape_164 : decode cX9_shape 164 = .ok (.if_icmp .ge 33, 3) := by decide +kernel
theorem dX9_shape_167 : decode cX9_shape 167 = .ok (.aload_n 0, 1) := by decide +kernel
theorem dX9_shape_168 : decode cX9_shape 168 = .ok (.getfield 41, 3) := by decide +kernel
theorem dX9_shape_171 : decode cX9_shape 171 = .ok (.iload_n 2, 1) := by decide +kernel
theorem dX9_shape_172 : decode cX9_shape 172 = .ok (.aload_n 0, 1) := by decide +kernel
theorem dX9_shape_173 : decode cX9_shape 173 = .ok (.getfield 59, 3) := by decide +kernel
theorem dX9_shape_176 : decode cX9_shape 176 = .ok (.iload_n 2, 1) := by decide +kernel
theorem dX9_shape_177 : decode cX9_shape 177 = .ok (.iaload, 1) := by decide +kernel
theorem dX9_shape_178 : decode cX9_shape 178 = .ok (.iastore, 1) := by decide +kernel
theorem dX9_shape_179 : decode cX9_shape 179 = .ok (.aload_n 0, 1) := by decide +kernel
theorem dX9_shape_180 : decode cX9_shape 180 = .ok (.getfield 44, 3) := by decide +kernel
theorem dX9_shape_183 : decode cX9_shape 183 = .ok (.iload_n 2, 1) := by decide +kernel
theorem dX9_shape_184 : decode cX9_shape 184 = .ok (.aload_n 0, 1) := by decide +kernel
theorem dX9_shape_185 : decode cX9_shape 185 = .ok (.getfield 62, 3) := by decide +kernel
theorem dX9_shape_188 : decode cX9_shape 188 = .ok (.iload_n 2, 1) := by decide +kernel
theorem dX9_shape_189 : decode cX9_shape 189 = .ok (.iaload, 1) := by decide +kernel
theorem dX9_shape_190 : decode cX9_shape 190 = .ok (.iastore, 1) := by decide +kernel
theorem dX9_shape_191 : decode cX9_shape 191 = .ok (.iinc 2 1, 3) := by decide +kernel
theorem dX9_shape_194 : decode cX9_shape 194 = .ok (.goto (-35), 3) := by decide +kernel
theorem dX9_shape_197 : decode cX9_shape 197 = .ok (.iconst 0, 1) := by decide +kernel
theorem dX9_shape_198 : decode cX9_shape 198 = .ok (.istore_n 2, 1) := by decide +kernel
theorem dX9_shape_199 : decode cX9_shape 199 = .ok (.iload_n 2, 1) := by decide +kernel
theorem dX9_shape_200 : decode cX9_shape 200 = .ok (.aload_n 0, 1) := by decide +kernel
theorem dX9_shape_201 : decode cX9_shape 201 = .ok (.getfield 225, 3) := by decide +kernel
theorem dX9_shape_204 : decode cX9_shape 204 = .ok (.if_icmp .ge 57, 3) := by decide +kernel
theorem dX9_shape_207 : decode cX9_shape 207 = .ok (.aload_n 0, 1) := by decide +kernel
theorem dX9_shape_208 : decode cX9_shape 208 = .ok (.getfield 47, 3) := by decide +kernel
theorem dX9_shape_211 : decode cX9_shape 211 = .ok (.iload_n 2, 1) := by decide +kernel
theorem dX9_shape_212 : decode cX9_shape 212 = .ok (.aload_n 0, 1) := by decide +kernel
theorem dX9_shape_213 : decode cX9_shape 213 = .ok (.getfield 68, 3) := by decide +kernel
theorem dX9_shape_216 : decode cX9_shape 216 = .ok (.iload_n 2, 1) := by decide +kernel
theorem dX9_shape_217 : decode cX9_shape 217 = .ok (.iaload, 1) := by decide +kernel
theorem dX9_shape_218 : decode cX9_shape 218 = .ok (.iastore, 1) := by decide +kernel
theorem dX9_shape_219 : decode cX9_shape 219 = .ok (.aload_n 0, 1) := by decide +kernel
theorem dX9_shape_220 : decode cX9_shape 220 = .ok (.getfield 50, 3) := by decide +kernel
theorem dX9_shape_223 : decode cX9_shape 223 = .ok (.iload_n 2, 1) := by decide +kernel
theorem dX9_shape_224 : decode cX9_shape 224 = .ok (.aload_n 0, 1) := by decide +kernel
theorem dX9_shape_225 : decode cX9_shape 225 = .ok (.getfield 71, 3) := by decide +kernel
theorem dX9_shape_228 : decode cX9_shape 228 = .ok (.iload_n 2, 1) := by decide +kernel
theorem dX9_shape_229 : decode cX9_shape 229 = .ok (.iaload, 1) := by decide +kernel
theorem dX9_shape_230 : decode cX9_shape 230 = .ok (.iastore, 1) := by decide +kernel
theorem dX9_shape_231 : decode cX9_shape 231 = .ok (.aload_n 0, 1) := by decide +kernel
theorem dX9_shape_232 : decode cX9_shape 232 = .ok (.getfield 53, 3) := by decide +kernel
theorem dX9_shape_235 : decode cX9_shape 235 = .ok (.iload_n 2, 1) := by decide +kernel
theorem dX9_shape_236 : decode cX9_shape 236 = .ok (.aload_n 0, 1) := by decide +kernel
theorem dX9_shape_237 : decode cX9_shape 237 = .ok (.getfield 74, 3) := by decide +kernel
theorem dX9_shape_240 : decode cX9_shape 240 = .ok (.iload_n 2, 1) := by decide +kernel
theorem dX9_shape_241 : decode cX9_shape 241 = .ok (.iaload, 1) := by decide +kernel
theorem dX9_shape_242 : decode cX9_shape 242 = .ok (.iastore, 1) := by decide +kernel
theorem dX9_shape_243 : decode cX9_shape 243 = .ok (.aload_n 0, 1) := by decide +kernel
theorem dX9_shape_244 : decode cX9_shape 244 = .ok (.getfield 56, 3) := by decide +kernel
theorem dX9_shape_247 : decode cX9_shape 247 = .ok (.iload_n 2, 1) := by decide +kernel
theorem dX9_shape_248 : decode cX9_shape 248 = .ok (.aload_n 0, 1) := by decide +kernel
theorem dX9_shape_249 : decode cX9_shape 249 = .ok (.getfield 77, 3) := by decide +kernel
theorem dX9_shape_252 : decode cX9_shape 252 = .ok (.iload_n 2, 1) := by decide +kernel
theorem dX9_shape_253 : decode cX9_shape 253 = .ok (.iaload, 1) := by decide +kernel
theorem dX9_shape_254 : decode cX9_shape 254 = .ok (.iastore, 1) := by decide +kernel
theorem dX9_shape_255 : decode cX9_shape 255 = .ok (.iinc 2 1, 3) := by decide +kernel
theorem dX9_shape_258 : decode cX9_shape 258 = .ok (.goto (-59), 3) := by decide +kernel
theorem dX9_shape_261 : decode cX9_shape 261 = .ok (.aload_n 0, 1) := by decide +kernel
theorem dX9_shape_262 : decode cX9_shape 262 = .ok (.aload_n 0, 1) := by decide +kernel
theorem dX9_shape_263 : decode cX9_shape 263 = .ok (.getfield 235, 3) := by decide +kernel
theorem dX9_shape_266 : decode cX9_shape 266 = .ok (.invokevirtual 153, 3) := by decide +kernel
theorem dX9_shape_269 : decode cX9_shape 269 = .ok (.ireturn, 1) := by decide +kernel
theorem dX9_fault_0 : decode cX9_fault 0 = .ok (.aload_n 0, 1) := by decide +kernel
theorem dX9_fault_1 : decode cX9_fault 1 = .ok (.iconst 0, 1) := by decide +kernel
theorem dX9_fault_2 : decode cX9_fault 2 = .ok (.putfield 123, 3) := by decide +kernel
theorem dX9_fault_5 : decode cX9_fault 5 = .ok (.aload_n 0, 1) := by decide +kernel
theorem dX9_fault_6 : decode cX9_fault 6 = .ok (.getfield 86, 3) := by decide +kernel
theorem dX9_fault_9 : decode cX9_fault 9 = .ok (.ireturn, 1) := by decide +kernel
theorem dX9_write_0 : decode cX9_write 0 = .ok (.aload_n 0, 1) := by decide +kernel
theorem dX9_write_1 : decode cX9_write 1 = .ok (.getfield 238, 3) := by decide +kernel
theorem dX9_write_4 : decode cX9_write 4 = .ok (.sipush 600, 3) := by decide +kernel
theorem dX9_write_7 : decode cX9_write 7 = .ok (.if_icmp .ge 33, 3) := by decide +kernel
theorem dX9_write_10 : decode cX9_write 10 = .ok (.aload_n 0, 1) := by decide +kernel
theorem dX9_write_11 : decode cX9_write 11 = .ok (.getfield 90, 3) := by decide +kernel
theorem dX9_write_14 : decode cX9_write 14 = .ok (.aload_n 0, 1) := by decide +kernel
theorem dX9_write_15 : decode cX9_write 15 = .ok (.getfield 238, 3) := by decide +kernel
theorem dX9_write_18 : decode cX9_write 18 = .ok (.iload_n 1, 1) := by decide +kernel
theorem dX9_write_19 : decode cX9_write 19 = .ok (.iastore, 1) := by decide +kernel
theorem dX9_write_20 : decode cX9_write 20 = .ok (.aload_n 0, 1) := by decide +kernel
theorem dX9_write_21 : decode cX9_write 21 = .ok (.getfield 93, 3) := by decide +kernel
theorem dX9_write_24 : decode cX9_write 24 = .ok (.aload_n 0, 1) := by decide +kernel
theorem dX9_write_25 : decode cX9_write 25 = .ok (.getfield 238, 3) := by decide +kernel
theorem dX9_write_28 : decode cX9_write 28 = .ok (.iload_n 2, 1) := by decide +kernel
theorem dX9_write_29 : decode cX9_write 29 = .ok (.iastore, 1) := by decide +kernel
theorem dX9_write_30 : decode cX9_write 30 = .ok (.aload_n 0, 1) := by decide +kernel
theorem dX9_write_31 : decode cX9_write 31 = .ok (.dup, 1) := by decide +kernel
theorem dX9_write_32 : decode cX9_write 32 = .ok (.getfield 238, 3) := by decide +kernel
theorem dX9_write_35 : decode cX9_write 35 = .ok (.iconst 1, 1) := by decide +kernel
theorem dX9_write_36 : decode cX9_write 36 = .ok (.iadd, 1) := by decide +kernel
theorem dX9_write_37 : decode cX9_write 37 = .ok (.putfield 238, 3) := by decide +kernel
theorem dX9_write_40 : decode cX9_write 40 = .ok (.return_, 1) := by decide +kernel
theorem dX9_begin_0 : decode cX9_begin 0 = .ok (.aload_n 0, 1) := by decide +kernel
theorem dX9_begin_1 : decode cX9_begin 1 = .ok (.getfield 96, 3) := by decide +kernel
theorem dX9_begin_4 : decode cX9_begin 4 = .ok (.iload_n 2, 1) := by decide +kernel
theorem dX9_begin_5 : decode cX9_begin 5 = .ok (.baload, 1) := by decide +kernel
theorem dX9_begin_6 : decode cX9_begin 6 = .ok (.ifCond .eq 14, 3) := by decide +kernel
theorem dX9_begin_9 : decode cX9_begin 9 = .ok (.aload_n 0, 1) := by decide +kernel
theorem dX9_begin_10 : decode cX9_begin 10 = .ok (.sipush 20000, 3) := by decide +kernel
theorem dX9_begin_13 : decode cX9_begin 13 = .ok (.iload_n 2, 1) := by decide +kernel
theorem dX9_begin_14 : decode cX9_begin 14 = .ok (.iadd, 1) := by decide +kernel
theorem dX9_begin_15 : decode cX9_begin 15 = .ok (.iconst (-1), 1) := by decide +kernel
theorem dX9_begin_16 : decode cX9_begin 16 = .ok (.invokevirtual 241, 3) := by decide +kernel
theorem dX9_begin_19 : decode cX9_begin 19 = .ok (.return_, 1) := by decide +kernel
theorem dX9_begin_20 : decode cX9_begin 20 = .ok (.aload_n 0, 1) := by decide +kernel
theorem dX9_begin_21 : decode cX9_begin 21 = .ok (.getfield 96, 3) := by decide +kernel
theorem dX9_begin_24 : decode cX9_begin 24 = .ok (.iload_n 2, 1) := by decide +kernel
theorem dX9_begin_25 : decode cX9_begin 25 = .ok (.iconst 1, 1) := by decide +kernel
theorem dX9_begin_26 : decode cX9_begin 26 = .ok (.bastore, 1) := by decide +kernel
theorem dX9_begin_27 : decode cX9_begin 27 = .ok (.aload_n 0, 1) := by decide +kernel
theorem dX9_begin_28 : decode cX9_begin 28 = .ok (.sipush 10000, 3) := by decide +kernel
theorem dX9_begin_31 : decode cX9_begin 31 = .ok (.iload_n 2, 1) := by decide +kernel
theorem dX9_begin_32 : decode cX9_begin 32 = .ok (.iadd, 1) := by decide +kernel
theorem dX9_begin_33 : decode cX9_begin 33 = .ok (.iconst (-1), 1) := by decide +kernel
theorem dX9_begin_34 : decode cX9_begin 34 = .ok (.invokevirtual 241, 3) := by decide +kernel
theorem dX9_begin_37 : decode cX9_begin 37 = .ok (.aload_n 0, 1) := by decide +kernel
theorem dX9_begin_38 : decode cX9_begin 38 = .ok (.getfield 99, 3) := by decide +kernel
theorem dX9_begin_41 : decode cX9_begin 41 = .ok (.aload_n 0, 1) := by decide +kernel
theorem dX9_begin_42 : decode cX9_begin 42 = .ok (.getfield 245, 3) := by decide +kernel
theorem dX9_begin_45 : decode cX9_begin 45 = .ok (.iload_n 2, 1) := by decide +kernel
theorem dX9_begin_46 : decode cX9_begin 46 = .ok (.iastore, 1) := by decide +kernel
theorem dX9_begin_47 : decode cX9_begin 47 = .ok (.aload_n 0, 1) := by decide +kernel
theorem dX9_begin_48 : decode cX9_begin 48 = .ok (.getfield 102, 3) := by decide +kernel
theorem dX9_begin_51 : decode cX9_begin 51 = .ok (.aload_n 0, 1) := by decide +kernel
theorem dX9_begin_52 : decode cX9_begin 52 = .ok (.getfield 245, 3) := by decide +kernel
theorem dX9_begin_55 : decode cX9_begin 55 = .ok (.aload_n 0, 1) := by decide +kernel
theorem dX9_begin_56 : decode cX9_begin 56 = .ok (.getfield 44, 3) := by decide +kernel
theorem dX9_begin_59 : decode cX9_begin 59 = .ok (.iload_n 1, 1) := by decide +kernel
theorem dX9_begin_60 : decode cX9_begin 60 = .ok (.iaload, 1) := by decide +kernel
theorem dX9_begin_61 : decode cX9_begin 61 = .ok (.iastore, 1) := by decide +kernel
theorem dX9_begin_62 : decode cX9_begin 62 = .ok (.aload_n 0, 1) := by decide +kernel
theorem dX9_begin_63 : decode cX9_begin 63 = .ok (.getfield 105, 3) := by decide +kernel
theorem dX9_begin_66 : decode cX9_begin 66 = .ok (.aload_n 0, 1) := by decide +kernel
theorem dX9_begin_67 : decode cX9_begin 67 = .ok (.getfield 245, 3) := by decide +kernel
theorem dX9_begin_70 : decode cX9_begin 70 = .ok (.iconst 0, 1) := by decide +kernel
theorem dX9_begin_71 : decode cX9_begin 71 = .ok (.iastore, 1) := by decide +kernel
theorem dX9_begin_72 : decode cX9_begin 72 = .ok (.aload_n 0, 1) := by decide +kernel
theorem dX9_begin_73 : decode cX9_begin 73 = .ok (.dup, 1) := by decide +kernel
theorem dX9_begin_74 : decode cX9_begin 74 = .ok (.getfield 245, 3) := by decide +kernel
theorem dX9_begin_77 : decode cX9_begin 77 = .ok (.iconst 1, 1) := by decide +kernel
theorem dX9_begin_78 : decode cX9_begin 78 = .ok (.iadd, 1) := by decide +kernel
theorem dX9_begin_79 : decode cX9_begin 79 = .ok (.putfield 245, 3) := by decide +kernel
theorem dX9_begin_82 : decode cX9_begin 82 = .ok (.return_, 1) := by decide +kernel
theorem dX9_nextRow_0 : decode cX9_nextRow 0 = .ok (.aload_n 0, 1) := by decide +kernel
theorem dX9_nextRow_1 : decode cX9_nextRow 1 = .ok (.getfield 53, 3) := by decide +kernel
theorem dX9_nextRow_4 : decode cX9_nextRow 4 = .ok (.iload_n 1, 1) := by decide +kernel
theorem dX9_nextRow_5 : decode cX9_nextRow 5 = .ok (.iaload, 1) := by decide +kernel
theorem dX9_nextRow_6 : decode cX9_nextRow 6 = .ok (.istore 4, 2) := by decide +kernel
theorem dX9_nextRow_8 : decode cX9_nextRow 8 = .ok (.aload_n 0, 1) := by decide +kernel
theorem dX9_nextRow_9 : decode cX9_nextRow 9 = .ok (.getfield 47, 3) := by decide +kernel
theorem dX9_nextRow_12 : decode cX9_nextRow 12 = .ok (.iload_n 1, 1) := by decide +kernel
theorem dX9_nextRow_13 : decode cX9_nextRow 13 = .ok (.iaload, 1) := by decide +kernel
theorem dX9_nextRow_14 : decode cX9_nextRow 14 = .ok (.iconst 1, 1) := by decide +kernel
theorem dX9_nextRow_15 : decode cX9_nextRow 15 = .ok (.if_icmp .ne 64, 3) := by decide +kernel
theorem dX9_nextRow_18 : decode cX9_nextRow 18 = .ok (.aload_n 0, 1) := by decide +kernel
theorem dX9_nextRow_19 : decode cX9_nextRow 19 = .ok (.getfield 34, 3) := by decide +kernel
theorem dX9_nextRow_22 : decode cX9_nextRow 22 = .ok (.iconst 2, 1) := by decide +kernel
theorem dX9_nextRow_23 : decode cX9_nextRow 23 = .ok (.iload_n 2, 1) := by decide +kernel
theorem dX9_nextRow_24 : decode cX9_nextRow 24 = .ok (.imul, 1) := by decide +kernel
theorem dX9_nextRow_25 : decode cX9_nextRow 25 = .ok (.aload_n 0, 1) := by decide +kernel
theorem dX9_nextRow_26 : decode cX9_nextRow 26 = .ok (.getfield 50, 3) := by decide +kernel
theorem dX9_nextRow_29 : decode cX9_nextRow 29 = .ok (.iload_n 1, 1) := by decide +kernel
theorem dX9_nextRow_30 : decode cX9_nextRow 30 = .ok (.iaload, 1) := by decide +kernel
theorem dX9_nextRow_31 : decode cX9_nextRow 31 = .ok (.iadd, 1) := by decide +kernel
theorem dX9_nextRow_32 : decode cX9_nextRow 32 = .ok (.iaload, 1) := by decide +kernel
theorem dX9_nextRow_33 : decode cX9_nextRow 33 = .ok (.istore 5, 2) := by decide +kernel
theorem dX9_nextRow_35 : decode cX9_nextRow 35 = .ok (.iload_n 3, 1) := by decide +kernel
theorem dX9_nextRow_36 : decode cX9_nextRow 36 = .ok (.ifCond .ne 41, 3) := by decide +kernel
theorem dX9_nextRow_39 : decode cX9_nextRow 39 = .ok (.iload 5, 2) := by decide +kernel
theorem dX9_nextRow_41 : decode cX9_nextRow 41 = .ok (.iconst (-1), 1) := by decide +kernel
theorem dX9_nextRow_42 : decode cX9_nextRow 42 = .ok (.if_icmp .eq 35, 3) := by decide +kernel
theorem dX9_nextRow_45 : decode cX9_nextRow 45 = .ok (.aload_n 0, 1) := by decide +kernel
theorem dX9_nextRow_46 : decode cX9_nextRow 46 = .ok (.getfield 37, 3) := by decide +kernel
theorem dX9_nextRow_49 : decode cX9_nextRow 49 = .ok (.iload 5, 2) := by decide +kernel
theorem dX9_nextRow_51 : decode cX9_nextRow 51 = .ok (.baload, 1) := by decide +kernel
theorem dX9_nextRow_52 : decode cX9_nextRow 52 = .ok (.ifCond .eq 25, 3) := by decide +kernel
theorem dX9_nextRow_55 : decode cX9_nextRow 55 = .ok (.aload_n 0, 1) := by decide +kernel
theorem dX9_nextRow_56 : decode cX9_nextRow 56 = .ok (.getfield 28, 3) := by decide +kernel
theorem dX9_nextRow_59 : decode cX9_nextRow 59 = .ok (.iload 5, 2) := by decide +kernel
theorem dX9_nextRow_61 : decode cX9_nextRow 61 = .ok (.iaload, 1) := by decide +kernel
theorem dX9_nextRow_62 : decode cX9_nextRow 62 = .ok (.aload_n 0, 1) := by decide +kernel
theorem dX9_nextRow_63 : decode cX9_nextRow 63 = .ok (.getfield 41, 3) := by decide +kernel
theorem dX9_nextRow_66 : decode cX9_nextRow 66 = .ok (.iload 4, 2) := by decide +kernel
theorem dX9_nextRow_68 : decode cX9_nextRow 68 = .ok (.iaload, 1) := by decide +kernel
theorem dX9_nextRow_69 : decode cX9_nextRow 69 = .ok (.if_icmp .ne 8, 3) := by decide +kernel
theorem dX9_nextRow_72 : decode cX9_nextRow 72 = .ok (.iload 5, 2) := by decide +kernel
theorem dX9_nextRow_74 : decode cX9_nextRow 74 = .ok (.goto 4, 3) := by decide +kernel
theorem dX9_nextRow_77 : decode cX9_nextRow 77 = .ok (.iconst (-1), 1) := by decide +kernel
theorem dX9_nextRow_78 : decode cX9_nextRow 78 = .ok (.ireturn, 1) := by decide +kernel
theorem dX9_nextRow_79 : decode cX9_nextRow 79 = .ok (.iload_n 3, 1) := by decide +kernel
theorem dX9_nextRow_80 : decode cX9_nextRow 80 = .ok (.istore 5, 2) := by decide +kernel
theorem dX9_nextRow_82 : decode cX9_nextRow 82 = .ok (.iload 5, 2) := by decide +kernel
theorem dX9_nextRow_84 : decode cX9_nextRow 84 = .ok (.aload_n 0, 1) := by decide +kernel
theorem dX9_nextRow_85 : decode cX9_nextRow 85 = .ok (.getfield 136, 3) := by decide +kernel
theorem dX9_nextRow_88 : decode cX9_nextRow 88 = .ok (.if_icmp .ge 59, 3) := by decide +kernel
theorem dX9_nextRow_91 : decode cX9_nextRow 91 = .ok (.aload_n 0, 1) := by decide +kernel
theorem dX9_nextRow_92 : decode cX9_nextRow 92 = .ok (.getfield 37, 3) := by decide +kernel
theorem dX9_nextRow_95 : decode cX9_nextRow 95 = .ok (.iload 5, 2) := by decide +kernel
theorem dX9_nextRow_97 : decode cX9_nextRow 97 = .ok (.baload, 1) := by decide +kernel
theorem dX9_nextRow_98 : decode cX9_nextRow 98 = .ok (.ifCond .eq 43, 3) := by decide +kernel
theorem dX9_nextRow_101 : decode cX9_nextRow 101 = .ok (.aload_n 0, 1) := by decide +kernel
theorem dX9_nextRow_102 : decode cX9_nextRow 102 = .ok (.getfield 28, 3) := by decide +kernel
theorem dX9_nextRow_105 : decode cX9_nextRow 105 = .ok (.iload 5, 2) := by decide +kernel
theorem dX9_nextRow_107 : decode cX9_nextRow 107 = .ok (.iaload, 1) := by decide +kernel
theorem dX9_nextRow_108 : decode cX9_nextRow 108 = .ok (.aload_n 0, 1) := by decide +kernel
theorem dX9_nextRow_109 : decode cX9_nextRow 109 = .ok (.getfield 41, 3) := by decide +kernel
theorem dX9_nextRow_112 : decode cX9_nextRow 112 = .ok (.iload 4, 2) := by decide +kernel
theorem dX9_nextRow_114 : decode cX9_nextRow 114 = .ok (.iaload, 1) := by decide +kernel
theorem dX9_nextRow_115 : decode cX9_nextRow 115 = .ok (.if_icmp .ne 26, 3) := by decide +kernel
theorem dX9_nextRow_118 : decode cX9_nextRow 118 = .ok (.aload_n 0, 1) := by decide +kernel
theorem dX9_nextRow_119 : decode cX9_nextRow 119 = .ok (.getfield 34, 3) := by decide +kernel
theorem dX9_nextRow_122 : decode cX9_nextRow 122 = .ok (.iconst 2, 1) := by decide +kernel
theorem dX9_nextRow_123 : decode cX9_nextRow 123 = .ok (.iload 5, 2) := by decide +kernel
theorem dX9_nextRow_125 : decode cX9_nextRow 125 = .ok (.imul, 1) := by decide +kernel
theorem dX9_nextRow_126 : decode cX9_nextRow 126 = .ok (.aload_n 0, 1) := by decide +kernel
theorem dX9_nextRow_127 : decode cX9_nextRow 127 = .ok (.getfield 50, 3) := by decide +kernel
theorem dX9_nextRow_130 : decode cX9_nextRow 130 = .ok (.iload_n 1, 1) := by decide +kernel
theorem dX9_nextRow_131 : decode cX9_nextRow 131 = .ok (.iaload, 1) := by decide +kernel
theorem dX9_nextRow_132 : decode cX9_nextRow 132 = .ok (.iadd, 1) := by decide +kernel
theorem dX9_nextRow_133 : decode cX9_nextRow 133 = .ok (.iaload, 1) := by decide +kernel
theorem dX9_nextRow_134 : decode cX9_nextRow 134 = .ok (.iload_n 2, 1) := by decide +kernel
theorem dX9_nextRow_135 : decode cX9_nextRow 135 = .ok (.if_icmp .ne 6, 3) := by decide +kernel
theorem dX9_nextRow_138 : decode cX9_nextRow 138 = .ok (.iload 5, 2) := by decide +kernel
theorem dX9_nextRow_140 : decode cX9_nextRow 140 = .ok (.ireturn, 1) := by decide +kernel
theorem dX9_nextRow_141 : decode cX9_nextRow 141 = .ok (.iinc 5 1, 3) := by decide +kernel
theorem dX9_nextRow_144 : decode cX9_nextRow 144 = .ok (.goto (-62), 3) := by decide +kernel
theorem dX9_nextRow_147 : decode cX9_nextRow 147 = .ok (.iconst (-1), 1) := by decide +kernel
theorem dX9_nextRow_148 : decode cX9_nextRow 148 = .ok (.ireturn, 1) := by decide +kernel
theorem dX9_make_0 : decode cX9_make 0 = .ok (.aload_n 0, 1) := by decide +kernel
theorem dX9_make_1 : decode cX9_make 1 = .ok (.iconst 0, 1) := by decide +kernel
theorem dX9_make_2 : decode cX9_make 2 = .ok (.putfield 238, 3) := by decide +kernel
theorem dX9_make_5 : decode cX9_make 5 = .ok (.aload_n 0, 1) := by decide +kernel
theorem dX9_make_6 : decode cX9_make 6 = .ok (.iconst 0, 1) := by decide +kernel
theorem dX9_make_7 : decode cX9_make 7 = .ok (.putfield 245, 3) := by decide +kernel
theorem dX9_make_10 : decode cX9_make 10 = .ok (.iconst 0, 1) := by decide +kernel
theorem dX9_make_11 : decode cX9_make 11 = .ok (.istore_n 2, 1) := by decide +kernel
theorem dX9_make_12 : decode cX9_make 12 = .ok (.iload_n 2, 1) := by decide +kernel
theorem dX9_make_13 : decode cX9_make 13 = .ok (.bipush 60, 2) := by decide +kernel
theorem dX9_make_15 : decode cX9_make 15 = .ok (.if_icmp .ge 16, 3) := by decide +kernel
theorem dX9_make_18 : decode cX9_make 18 = .ok (.aload_n 0, 1) := by decide +kernel
theorem dX9_make_19 : decode cX9_make 19 = .ok (.getfield 96, 3) := by decide +kernel
theorem dX9_make_22 : decode cX9_make 22 = .ok (.iload_n 2, 1) := by decide +kernel
theorem dX9_make_23 : decode cX9_make 23 = .ok (.iconst 0, 1) := by decide +kernel
theorem dX9_make_24 : decode cX9_make 24 = .ok (.bastore, 1) := by decide +kernel
theorem dX9_make_25 : decode cX9_make 25 = .ok (.iinc 2 1, 3) := by decide +kernel
theorem dX9_make_28 : decode cX9_make 28 = .ok (.goto (-16), 3) := by decide +kernel
theorem dX9_make_31 : decode cX9_make 31 = .ok (.aload_n 0, 1) := by decide +kernel
theorem dX9_make_32 : decode cX9_make 32 = .ok (.getfield 235, 3) := by decide +kernel
theorem dX9_make_35 : decode cX9_make 35 = .ok (.ifCond .eq 26, 3) := by decide +kernel
theorem dX9_make_38 : decode cX9_make 38 = .ok (.aload_n 0, 1) := by decide +kernel
theorem dX9_make_39 : decode cX9_make 39 = .ok (.iload_n 1, 1) := by decide +kernel
theorem dX9_make_40 : decode cX9_make 40 = .ok (.invokevirtual 157, 3) := by decide +kernel
theorem dX9_make_43 : decode cX9_make 43 = .ok (.ifCond .eq 18, 3) := by decide +kernel
theorem dX9_make_46 : decode cX9_make 46 = .ok (.aload_n 0, 1) := by decide +kernel
theorem dX9_make_47 : decode cX9_make 47 = .ok (.getfield 28, 3) := by decide +kernel
theorem dX9_make_50 : decode cX9_make 50 = .ok (.iload_n 1, 1) := by decide +kernel
theorem dX9_make_51 : decode cX9_make 51 = .ok (.iaload, 1) := by decide +kernel
theorem dX9_make_52 : decode cX9_make 52 = .ok (.aload_n 0, 1) := by decide +kernel
theorem dX9_make_53 : decode cX9_make 53 = .ok (.getfield 41, 3) := by decide +kernel
theorem dX9_make_56 : decode cX9_make 56 = .ok (.iconst 0, 1) := by decide +kernel
theorem dX9_make_57 : decode cX9_make 57 = .ok (.iaload, 1) := by decide +kernel
theorem dX9_make_58 : decode cX9_make 58 = .ok (.if_icmp .eq 4, 3) := by decide +kernel
theorem dX9_make_61 : decode cX9_make 61 = .ok (.return_, 1) := by decide +kernel
theorem dX9_make_62 : decode cX9_make 62 = .ok (.aload_n 0, 1) := by decide +kernel
theorem dX9_make_63 : decode cX9_make 63 = .ok (.iconst 0, 1) := by decide +kernel
theorem dX9_make_64 : decode cX9_make 64 = .ok (.iload_n 1, 1) := by decide +kernel
theorem dX9_make_65 : decode cX9_make 65 = .ok (.invokevirtual 248, 3) := by decide +kernel
theorem dX9_make_68 : decode cX9_make 68 = .ok (.aload_n 0, 1) := by decide +kernel
theorem dX9_make_69 : decode cX9_make 69 = .ok (.getfield 245, 3) := by decide +kernel
theorem dX9_make_72 : decode cX9_make 72 = .ok (.ifCond .le 174, 3) := by decide +kernel
theorem dX9_make_75 : decode cX9_make 75 = .ok (.aload_n 0, 1) := by decide +kernel
theorem dX9_make_76 : decode cX9_make 76 = .ok (.getfield 245, 3) := by decide +kernel
theorem dX9_make_79 : decode cX9_make 79 = .ok (.iconst 1, 1) := by decide +kernel
theorem dX9_make_80 : decode cX9_make 80 = .ok (.isub, 1) := by decide +kernel
theorem dX9_make_81 : decode cX9_make 81 = .ok (.istore_n 2, 1) := by decide +kernel
theorem dX9_make_82 : decode cX9_make 82 = .ok (.aload_n 0, 1) := by decide +kernel
theorem dX9_make_83 : decode cX9_make 83 = .ok (.getfield 102, 3) := by decide +kernel
theorem dX9_make_86 : decode cX9_make 86 = .ok (.iload_n 2, 1) := by decide +kernel
theorem dX9_make_87 : decode cX9_make 87 = .ok (.iaload, 1) := by decide +kernel
theorem dX9_make_88 : decode cX9_make 88 = .ok (.istore_n 3, 1) := by decide +kernel
theorem dX9_make_89 : decode cX9_make 89 = .ok (.iload_n 3, 1) := by decide +kernel
theorem dX9_make_90 : decode cX9_make 90 = .ok (.iconst (-1), 1) := by decide +kernel
theorem dX9_make_91 : decode cX9_make 91 = .ok (.if_icmp .ne 24, 3) := by decide +kernel
theorem dX9_make_94 : decode cX9_make 94 = .ok (.aload_n 0, 1) := by decide +kernel
theorem dX9_make_95 : decode cX9_make 95 = .ok (.sipush 30000, 3) := by decide +kernel
theorem dX9_make_98 : decode cX9_make 98 = .ok (.iconst (-1), 1) := by decide +kernel
theorem dX9_make_99 : decode cX9_make 99 = .ok (.invokevirtual 241, 3) := by decide +kernel
theorem dX9_make_102 : decode cX9_make 102 = .ok (.aload_n 0, 1) := by decide +kernel
theorem dX9_make_103 : decode cX9_make 103 = .ok (.dup, 1) := by decide +kernel
theorem dX9_make_104 : decode cX9_make 104 = .ok (.getfield 245, 3) := by decide +kernel
theorem dX9_make_107 : decode cX9_make 107 = .ok (.iconst 1, 1) := by decide +kernel
theorem dX9_make_108 : decode cX9_make 108 = .ok (.isub, 1) := by decide +kernel
theorem dX9_make_109 : decode cX9_make 109 = .ok (.putfield 245, 3) := by decide +kernel
theorem dX9_make_112 : decode cX9_make 112 = .ok (.goto 131, 3) := by decide +kernel
theorem dX9_make_115 : decode cX9_make 115 = .ok (.aload_n 0, 1) := by decide +kernel
theorem dX9_make_116 : decode cX9_make 116 = .ok (.getfield 47, 3) := by decide +kernel
theorem dX9_make_119 : decode cX9_make 119 = .ok (.iload_n 3, 1) := by decide +kernel
theorem dX9_make_120 : decode cX9_make 120 = .ok (.iaload, 1) := by decide +kernel
theorem dX9_make_121 : decode cX9_make 121 = .ok (.ifCond .ne 39, 3) := by decide +kernel
theorem dX9_make_124 : decode cX9_make 124 = .ok (.aload_n 0, 1) := by decide +kernel
theorem dX9_make_125 : decode cX9_make 125 = .ok (.aload_n 0, 1) := by decide +kernel
theorem dX9_make_126 : decode cX9_make 126 = .ok (.getfield 31, 3) := by decide +kernel
theorem dX9_make_129 : decode cX9_make 129 = .ok (.aload_n 0, 1) := by decide +kernel
theorem dX9_make_130 : decode cX9_make 130 = .ok (.getfield 99, 3) := by decide +kernel
theorem dX9_make_133 : decode cX9_make 133 = .ok (.iload_n 2, 1) := by decide +kernel
theorem dX9_make_134 : decode cX9_make 134 = .ok (.iaload, 1) := by decide +kernel
theorem dX9_make_135 : decode cX9_make 135 = .ok (.iaload, 1) := by decide +kernel
theorem dX9_make_136 : decode cX9_make 136 = .ok (.aload_n 0, 1) := by decide +kernel
theorem dX9_make_137 : decode cX9_make 137 = .ok (.getfield 99, 3) := by decide +kernel
theorem dX9_make_140 : decode cX9_make 140 = .ok (.iload_n 2, 1) := by decide +kernel
theorem dX9_make_141 : decode cX9_make 141 = .ok (.iaload, 1) := by decide +kernel
theorem dX9_make_142 : decode cX9_make 142 = .ok (.invokevirtual 241, 3) := by decide +kernel
theorem dX9_make_145 : decode cX9_make 145 = .ok (.aload_n 0, 1) := by decide +kernel
theorem dX9_make_146 : decode cX9_make 146 = .ok (.getfield 102, 3) := by decide +kernel
theorem dX9_make_149 : decode cX9_make 149 = .ok (.iload_n 2, 1) := by decide +kernel
theorem dX9_make_150 : decode cX9_make 150 = .ok (.aload_n 0, 1) := by decide +kernel
theorem dX9_make_151 : decode cX9_make 151 = .ok (.getfield 56, 3) := by decide +kernel
theorem dX9_make_154 : decode cX9_make 154 = .ok (.iload_n 3, 1) := by decide +kernel
theorem dX9_make_155 : decode cX9_make 155 = .ok (.iaload, 1) := by decide +kernel
theorem dX9_make_156 : decode cX9_make 156 = .ok (.iastore, 1) := by decide +kernel
theorem dX9_make_157 : decode cX9_make 157 = .ok (.goto 86, 3) := by decide +kernel
theorem dX9_make_160 : decode cX9_make 160 = .ok (.aload_n 0, 1) := by decide +kernel
theorem dX9_make_161 : decode cX9_make 161 = .ok (.iload_n 3, 1) := by decide +kernel
theorem dX9_make_162 : decode cX9_make 162 = .ok (.aload_n 0, 1) := by decide +kernel
theorem dX9_make_163 : decode cX9_make 163 = .ok (.getfield 99, 3) := by decide +kernel
theorem dX9_make_166 : decode cX9_make 166 = .ok (.iload_n 2, 1) := by decide +kernel
theorem dX9_make_167 : decode cX9_make 167 = .ok (.iaload, 1) := by decide +kernel
theorem dX9_make_168 : decode cX9_make 168 = .ok (.aload_n 0, 1) := by decide +kernel
theorem dX9_make_169 : decode cX9_make 169 = .ok (.getfield 105, 3) := by decide +kernel
theorem dX9_make_172 : decode cX9_make 172 = .ok (.iload_n 2, 1) := by decide +kernel
theorem dX9_make_173 : decode cX9_make 173 = .ok (.iaload, 1) := by decide +kernel
theorem dX9_make_174 : decode cX9_make 174 = .ok (.invokevirtual 251, 3) := by decide +kernel
theorem dX9_make_177 : decode cX9_make 177 = .ok (.istore 4, 2) := by decide +kernel
theorem dX9_make_179 : decode cX9_make 179 = .ok (.iload 4, 2) := by decide +kernel
theorem dX9_make_181 : decode cX9_make 181 = .ok (.iconst (-1), 1) := by decide +kernel
theorem dX9_make_182 : decode cX9_make 182 = .ok (.if_icmp .ne 25, 3) := by decide +kernel
theorem dX9_make_185 : decode cX9_make 185 = .ok (.aload_n 0, 1) := by decide +kernel
theorem dX9_make_186 : decode cX9_make 186 = .ok (.getfield 102, 3) := by decide +kernel
theorem dX9_make_189 : decode cX9_make 189 = .ok (.iload_n 2, 1) := by decide +kernel
theorem dX9_make_190 : decode cX9_make 190 = .ok (.aload_n 0, 1) := by decide +kernel
theorem dX9_make_191 : decode cX9_make 191 = .ok (.getfield 56, 3) := by decide +kernel
theorem dX9_make_194 : decode cX9_make 194 = .ok (.iload_n 3, 1) := by decide +kernel
theorem dX9_make_195 : decode cX9_make 195 = .ok (.iaload, 1) := by decide +kernel
theorem dX9_make_196 : decode cX9_make 196 = .ok (.iastore, 1) := by decide +kernel
theorem dX9_make_197 : decode cX9_make 197 = .ok (.aload_n 0, 1) := by decide +kernel
theorem dX9_make_198 : decode cX9_make 198 = .ok (.getfield 105, 3) := by decide +kernel
theorem dX9_make_201 : decode cX9_make 201 = .ok (.iload_n 2, 1) := by decide +kernel
theorem dX9_make_202 : decode cX9_make 202 = .ok (.iconst 0, 1) := by decide +kernel
theorem dX9_make_203 : decode cX9_make 203 = .ok (.iastore, 1) := by decide +kernel
theorem dX9_make_204 : decode cX9_make 204 = .ok (.goto 39, 3) := by decide +kernel
theorem dX9_make_207 : decode cX9_make 207 = .ok (.aload_n 0, 1) := by decide +kernel
theorem dX9_make_208 : decode cX9_make 208 = .ok (.getfield 105, 3) := by decide +kernel
theorem dX9_make_211 : decode cX9_make 211 = .ok (.iload_n 2, 1) := by decide +kernel
theorem dX9_make_212 : decode cX9_make 212 = .ok (.aload_n 0, 1) := by decide +kernel
theorem dX9_make_213 : decode cX9_make 213 = .ok (.getfield 47, 3) := by decide +kernel
theorem dX9_make_216 : decode cX9_make 216 = .ok (.iload_n 3, 1) := by decide +kernel
theorem dX9_make_217 : decode cX9_make 217 = .ok (.iaload, 1) := by decide +kernel
theorem dX9_make_218 : decode cX9_make 218 = .ok (.iconst 1, 1) := by decide +kernel
theorem dX9_make_219 : decode cX9_make 219 = .ok (.if_icmp .ne 7, 3) := by decide +kernel
theorem dX9_make_222 : decode cX9_make 222 = .ok (.iconst 1, 1) := by decide +kernel
theorem dX9_make_223 : decode cX9_make 223 = .ok (.goto 7, 3) := by decide +kernel
theorem dX9_make_226 : decode cX9_make 226 = .ok (.iload 4, 2) := by decide +kernel
theorem dX9_make_228 : decode cX9_make 228 = .ok (.iconst 1, 1) := by decide +kernel
theorem dX9_make_229 : decode cX9_make 229 = .ok (.iadd, 1) := by decide +kernel
theorem dX9_make_230 : decode cX9_make 230 = .ok (.iastore, 1) := by decide +kernel
theorem dX9_make_231 : decode cX9_make 231 = .ok (.aload_n 0, 1) := by decide +kernel
theorem dX9_make_232 : decode cX9_make 232 = .ok (.aload_n 0, 1) := by decide +kernel
theorem dX9_make_233 : decode cX9_make 233 = .ok (.getfield 53, 3) := by decide +kernel
theorem dX9_make_236 : decode cX9_make 236 = .ok (.iload_n 3, 1) := by decide +kernel
theorem dX9_make_237 : decode cX9_make 237 = .ok (.iaload, 1) := by decide +kernel
theorem dX9_make_238 : decode cX9_make 238 = .ok (.iload 4, 2) := by decide +kernel
theorem dX9_make_240 : decode cX9_make 240 = .ok (.invokevirtual 248, 3) := by decide +kernel
theorem dX9_make_243 : decode cX9_make 243 = .ok (.goto (-175), 3) := by decide +kernel
theorem dX9_make_246 : decode cX9_make 246 = .ok (.return_, 1) := by decide +kernel
theorem dX9_size_0 : decode cX9_size 0 = .ok (.aload_n 0, 1) := by decide +kernel
theorem dX9_size_1 : decode cX9_size 1 = .ok (.iconst 0, 1) := by decide +kernel
theorem dX9_size_2 : decode cX9_size 2 = .ok (.putfield 123, 3) := by decide +kernel
theorem dX9_size_5 : decode cX9_size 5 = .ok (.aload_n 0, 1) := by decide +kernel
theorem dX9_size_6 : decode cX9_size 6 = .ok (.iload_n 1, 1) := by decide +kernel
theorem dX9_size_7 : decode cX9_size 7 = .ok (.invokevirtual 255, 3) := by decide +kernel
theorem dX9_size_10 : decode cX9_size 10 = .ok (.aload_n 0, 1) := by decide +kernel
theorem dX9_size_11 : decode cX9_size 11 = .ok (.getfield 238, 3) := by decide +kernel
theorem dX9_size_14 : decode cX9_size 14 = .ok (.ireturn, 1) := by decide +kernel
theorem dX9_mark_0 : decode cX9_mark 0 = .ok (.aload_n 0, 1) := by decide +kernel
theorem dX9_mark_1 : decode cX9_mark 1 = .ok (.iconst 0, 1) := by decide +kernel
theorem dX9_mark_2 : decode cX9_mark 2 = .ok (.putfield 123, 3) := by decide +kernel
theorem dX9_mark_5 : decode cX9_mark 5 = .ok (.aload_n 0, 1) := by decide +kernel
theorem dX9_mark_6 : decode cX9_mark 6 = .ok (.iload_n 1, 1) := by decide +kernel
theorem dX9_mark_7 : decode cX9_mark 7 = .ok (.invokevirtual 255, 3) := by decide +kernel
theorem dX9_mark_10 : decode cX9_mark 10 = .ok (.iload_n 2, 1) := by decide +kernel
theorem dX9_mark_11 : decode cX9_mark 11 = .ok (.i2l, 1) := by decide +kernel
theorem dX9_mark_12 : decode cX9_mark 12 = .ok (.lconst 0, 1) := by decide +kernel
theorem dX9_mark_13 : decode cX9_mark 13 = .ok (.aload_n 0, 1) := by decide +kernel
theorem dX9_mark_14 : decode cX9_mark 14 = .ok (.getfield 238, 3) := by decide +kernel
theorem dX9_mark_17 : decode cX9_mark 17 = .ok (.i2l, 1) := by decide +kernel
theorem dX9_mark_18 : decode cX9_mark 18 = .ok (.lconst 1, 1) := by decide +kernel
theorem dX9_mark_19 : decode cX9_mark 19 = .ok (.lsub, 1) := by decide +kernel
theorem dX9_mark_20 : decode cX9_mark 20 = .ok (.invokestatic 139, 3) := by decide +kernel
theorem dX9_mark_23 : decode cX9_mark 23 = .ok (.ifCond .eq 12, 3) := by decide +kernel
theorem dX9_mark_26 : decode cX9_mark 26 = .ok (.aload_n 0, 1) := by decide +kernel
theorem dX9_mark_27 : decode cX9_mark 27 = .ok (.getfield 90, 3) := by decide +kernel
theorem dX9_mark_30 : decode cX9_mark 30 = .ok (.iload_n 2, 1) := by decide +kernel
theorem dX9_mark_31 : decode cX9_mark 31 = .ok (.iaload, 1) := by decide +kernel
theorem dX9_mark_32 : decode cX9_mark 32 = .ok (.goto 6, 3) := by decide +kernel
theorem dX9_mark_35 : decode cX9_mark 35 = .ok (.sipush (-5000), 3) := by decide +kernel
theorem dX9_mark_38 : decode cX9_mark 38 = .ok (.ireturn, 1) := by decide +kernel
theorem dX9_page_0 : decode cX9_page 0 = .ok (.aload_n 0, 1) := by decide +kernel
theorem dX9_page_1 : decode cX9_page 1 = .ok (.iconst 0, 1) := by decide +kernel
theorem dX9_page_2 : decode cX9_page 2 = .ok (.putfield 123, 3) := by decide +kernel
theorem dX9_page_5 : decode cX9_page 5 = .ok (.iload_n 2, 1) := by decide +kernel
theorem dX9_page_6 : decode cX9_page 6 = .ok (.i2l, 1) := by decide +kernel
theorem dX9_page_7 : decode cX9_page 7 = .ok (.lconst 1, 1) := by decide +kernel
theorem dX9_page_8 : decode cX9_page 8 = .ok (.ldc2_w 258, 3) := by decide +kernel
theorem dX9_page_11 : decode cX9_page 11 = .ok (.invokestatic 139, 3) := by decide +kernel
theorem dX9_page_14 : decode cX9_page 14 = .ok (.ifCond .eq 19, 3) := by decide +kernel
theorem dX9_page_17 : decode cX9_page 17 = .ok (.iload_n 3, 1) := by decide +kernel
theorem dX9_page_18 : decode cX9_page 18 = .ok (.i2l, 1) := by decide +kernel
theorem dX9_page_19 : decode cX9_page 19 = .ok (.lconst 0, 1) := by decide +kernel
theorem dX9_page_20 : decode cX9_page 20 = .ok (.ldc2_w 260, 3) := by decide +kernel
theorem dX9_page_23 : decode cX9_page 23 = .ok (.invokestatic 139, 3) := by decide +kernel
theorem dX9_page_26 : decode cX9_page 26 = .ok (.ifCond .eq 7, 3) := by decide +kernel
theorem dX9_page_29 : decode cX9_page 29 = .ok (.iconst 1, 1) := by decide +kernel
theorem dX9_page_30 : decode cX9_page 30 = .ok (.goto 4, 3) := by decide +kernel
theorem dX9_page_33 : decode cX9_page 33 = .ok (.iconst 0, 1) := by decide +kernel
theorem dX9_page_34 : decode cX9_page 34 = .ok (.istore 5, 2) := by decide +kernel
theorem dX9_page_36 : decode cX9_page 36 = .ok (.aload_n 0, 1) := by decide +kernel
theorem dX9_page_37 : decode cX9_page 37 = .ok (.iload_n 1, 1) := by decide +kernel
theorem dX9_page_38 : decode cX9_page 38 = .ok (.invokevirtual 255, 3) := by decide +kernel
theorem dX9_page_41 : decode cX9_page 41 = .ok (.iload 5, 2) := by decide +kernel
theorem dX9_page_43 : decode cX9_page 43 = .ok (.ifCond .eq 14, 3) := by decide +kernel
theorem dX9_page_46 : decode cX9_page 46 = .ok (.aload_n 0, 1) := by decide +kernel
theorem dX9_page_47 : decode cX9_page 47 = .ok (.getfield 238, 3) := by decide +kernel
theorem dX9_page_50 : decode cX9_page 50 = .ok (.iload_n 2, 1) := by decide +kernel
theorem dX9_page_51 : decode cX9_page 51 = .ok (.iload_n 3, 1) := by decide +kernel
theorem dX9_page_52 : decode cX9_page 52 = .ok (.imul, 1) := by decide +kernel
theorem dX9_page_53 : decode cX9_page 53 = .ok (.isub, 1) := by decide +kernel
theorem dX9_page_54 : decode cX9_page 54 = .ok (.goto 4, 3) := by decide +kernel
theorem dX9_page_57 : decode cX9_page 57 = .ok (.iconst 0, 1) := by decide +kernel
theorem dX9_page_58 : decode cX9_page 58 = .ok (.istore 6, 2) := by decide +kernel
theorem dX9_page_60 : decode cX9_page 60 = .ok (.iload 5, 2) := by decide +kernel
theorem dX9_page_62 : decode cX9_page 62 = .ok (.ifCond .eq 8, 3) := by decide +kernel
theorem dX9_page_65 : decode cX9_page 65 = .ok (.iload 6, 2) := by decide +kernel
theorem dX9_page_67 : decode cX9_page 67 = .ok (.ifCond .ge 7, 3) := by decide +kernel
theorem dX9_page_70 : decode cX9_page 70 = .ok (.iconst 0, 1) := by decide +kernel
theorem dX9_page_71 : decode cX9_page 71 = .ok (.goto 15, 3) := by decide +kernel
theorem dX9_page_74 : decode cX9_page 74 = .ok (.iload 6, 2) := by decide +kernel
theorem dX9_page_76 : decode cX9_page 76 = .ok (.iload_n 2, 1) := by decide +kernel
theorem dX9_page_77 : decode cX9_page 77 = .ok (.if_icmp .le 7, 3) := by decide +kernel
theorem dX9_page_80 : decode cX9_page 80 = .ok (.iload_n 2, 1) := by decide +kernel
theorem dX9_page_81 : decode cX9_page 81 = .ok (.goto 5, 3) := by decide +kernel
theorem dX9_page_84 : decode cX9_page 84 = .ok (.iload 6, 2) := by decide +kernel
theorem dX9_page_86 : decode cX9_page 86 = .ok (.istore 7, 2) := by decide +kernel
theorem dX9_page_88 : decode cX9_page 88 = .ok (.iload 4, 2) := by decide +kernel
theorem dX9_page_90 : decode cX9_page 90 = .ok (.iconst (-1), 1) := by decide +kernel
theorem dX9_page_91 : decode cX9_page 91 = .ok (.if_icmp .ne 8, 3) := by decide +kernel
theorem dX9_page_94 : decode cX9_page 94 = .ok (.iload 7, 2) := by decide +kernel
theorem dX9_page_96 : decode cX9_page 96 = .ok (.goto 35, 3) := by decide +kernel
theorem dX9_page_99 : decode cX9_page 99 = .ok (.iload 4, 2) := by decide +kernel
theorem dX9_page_101 : decode cX9_page 101 = .ok (.i2l, 1) := by decide +kernel
theorem dX9_page_102 : decode cX9_page 102 = .ok (.lconst 0, 1) := by decide +kernel
theorem dX9_page_103 : decode cX9_page 103 = .ok (.iload 7, 2) := by decide +kernel
theorem dX9_page_105 : decode cX9_page 105 = .ok (.i2l, 1) := by decide +kernel
theorem dX9_page_106 : decode cX9_page 106 = .ok (.lconst 1, 1) := by decide +kernel
theorem dX9_page_107 : decode cX9_page 107 = .ok (.lsub, 1) := by decide +kernel
theorem dX9_page_108 : decode cX9_page 108 = .ok (.invokestatic 139, 3) := by decide +kernel
theorem dX9_page_111 : decode cX9_page 111 = .ok (.ifCond .eq 17, 3) := by decide +kernel
theorem dX9_page_114 : decode cX9_page 114 = .ok (.aload_n 0, 1) := by decide +kernel
theorem dX9_page_115 : decode cX9_page 115 = .ok (.getfield 90, 3) := by decide +kernel
theorem dX9_page_118 : decode cX9_page 118 = .ok (.iload_n 2, 1) := by decide +kernel
theorem dX9_page_119 : decode cX9_page 119 = .ok (.iload_n 3, 1) := by decide +kernel
theorem dX9_page_120 : decode cX9_page 120 = .ok (.imul, 1) := by decide +kernel
theorem dX9_page_121 : decode cX9_page 121 = .ok (.iload 4, 2) := by decide +kernel
theorem dX9_page_123 : decode cX9_page 123 = .ok (.iadd, 1) := by decide +kernel
theorem dX9_page_124 : decode cX9_page 124 = .ok (.iaload, 1) := by decide +kernel
theorem dX9_page_125 : decode cX9_page 125 = .ok (.goto 6, 3) := by decide +kernel
theorem dX9_page_128 : decode cX9_page 128 = .ok (.sipush (-5000), 3) := by decide +kernel
theorem dX9_page_131 : decode cX9_page 131 = .ok (.ireturn, 1) := by decide +kernel
theorem dX9_asOf_0 : decode cX9_asOf 0 = .ok (.aload_n 0, 1) := by decide +kernel
theorem dX9_asOf_1 : decode cX9_asOf 1 = .ok (.iconst 0, 1) := by decide +kernel
theorem dX9_asOf_2 : decode cX9_asOf 2 = .ok (.putfield 123, 3) := by decide +kernel
theorem dX9_asOf_5 : decode cX9_asOf 5 = .ok (.sipush (-5000), 3) := by decide +kernel
theorem dX9_asOf_8 : decode cX9_asOf 8 = .ok (.istore 4, 2) := by decide +kernel
theorem dX9_asOf_10 : decode cX9_asOf 10 = .ok (.iload_n 1, 1) := by decide +kernel
theorem dX9_asOf_11 : decode cX9_asOf 11 = .ok (.i2l, 1) := by decide +kernel
theorem dX9_asOf_12 : decode cX9_asOf 12 = .ok (.lconst 0, 1) := by decide +kernel
theorem dX9_asOf_13 : decode cX9_asOf 13 = .ok (.aload_n 0, 1) := by decide +kernel
theorem dX9_asOf_14 : decode cX9_asOf 14 = .ok (.getfield 129, 3) := by decide +kernel
theorem dX9_asOf_17 : decode cX9_asOf 17 = .ok (.i2l, 1) := by decide +kernel
theorem dX9_asOf_18 : decode cX9_asOf 18 = .ok (.invokestatic 139, 3) := by decide +kernel
theorem dX9_asOf_21 : decode cX9_asOf 21 = .ok (.ifCond .eq 66, 3) := by decide +kernel
theorem dX9_asOf_24 : decode cX9_asOf 24 = .ok (.aload_n 0, 1) := by decide +kernel
theorem dX9_asOf_25 : decode cX9_asOf 25 = .ok (.iload_n 1, 1) := by decide +kernel
theorem dX9_asOf_26 : decode cX9_asOf 26 = .ok (.invokevirtual 262, 3) := by decide +kernel
theorem dX9_asOf_29 : decode cX9_asOf 29 = .ok (.aload_n 0, 1) := by decide +kernel
theorem dX9_asOf_30 : decode cX9_asOf 30 = .ok (.iload_n 2, 1) := by decide +kernel
theorem dX9_asOf_31 : decode cX9_asOf 31 = .ok (.invokevirtual 255, 3) := by decide +kernel
theorem dX9_asOf_34 : decode cX9_asOf 34 = .ok (.iload_n 3, 1) := by decide +kernel
theorem dX9_asOf_35 : decode cX9_asOf 35 = .ok (.iconst (-1), 1) := by decide +kernel
theorem dX9_asOf_36 : decode cX9_asOf 36 = .ok (.if_icmp .ne 10, 3) := by decide +kernel
theorem dX9_asOf_39 : decode cX9_asOf 39 = .ok (.aload_n 0, 1) := by decide +kernel
theorem dX9_asOf_40 : decode cX9_asOf 40 = .ok (.getfield 238, 3) := by decide +kernel
theorem dX9_asOf_43 : decode cX9_asOf 43 = .ok (.goto 31, 3) := by decide +kernel
theorem dX9_asOf_46 : decode cX9_asOf 46 = .ok (.iload_n 3, 1) := by decide +kernel
theorem dX9_asOf_47 : decode cX9_asOf 47 = .ok (.i2l, 1) := by decide +kernel
theorem dX9_asOf_48 : decode cX9_asOf 48 = .ok (.lconst 0, 1) := by decide +kernel
theorem dX9_asOf_49 : decode cX9_asOf 49 = .ok (.aload_n 0, 1) := by decide +kernel
theorem dX9_asOf_50 : decode cX9_asOf 50 = .ok (.getfield 238, 3) := by decide +kernel
theorem dX9_asOf_53 : decode cX9_asOf 53 = .ok (.i2l, 1) := by decide +kernel
theorem dX9_asOf_54 : decode cX9_asOf 54 = .ok (.lconst 1, 1) := by decide +kernel
theorem dX9_asOf_55 : decode cX9_asOf 55 = .ok (.lsub, 1) := by decide +kernel
theorem dX9_asOf_56 : decode cX9_asOf 56 = .ok (.invokestatic 139, 3) := by decide +kernel
theorem dX9_asOf_59 : decode cX9_asOf 59 = .ok (.ifCond .eq 12, 3) := by decide +kernel
theorem dX9_asOf_62 : decode cX9_asOf 62 = .ok (.aload_n 0, 1) := by decide +kernel
theorem dX9_asOf_63 : decode cX9_asOf 63 = .ok (.getfield 90, 3) := by decide +kernel
theorem dX9_asOf_66 : decode cX9_asOf 66 = .ok (.iload_n 3, 1) := by decide +kernel
theorem dX9_asOf_67 : decode cX9_asOf 67 = .ok (.iaload, 1) := by decide +kernel
theorem dX9_asOf_68 : decode cX9_asOf 68 = .ok (.goto 6, 3) := by decide +kernel
theorem dX9_asOf_71 : decode cX9_asOf 71 = .ok (.sipush (-5000), 3) := by decide +kernel
theorem dX9_asOf_74 : decode cX9_asOf 74 = .ok (.istore 4, 2) := by decide +kernel
theorem dX9_asOf_76 : decode cX9_asOf 76 = .ok (.aload_n 0, 1) := by decide +kernel
theorem dX9_asOf_77 : decode cX9_asOf 77 = .ok (.aload_n 0, 1) := by decide +kernel
theorem dX9_asOf_78 : decode cX9_asOf 78 = .ok (.getfield 129, 3) := by decide +kernel
theorem dX9_asOf_81 : decode cX9_asOf 81 = .ok (.invokevirtual 262, 3) := by decide +kernel
theorem dX9_asOf_84 : decode cX9_asOf 84 = .ok (.iload 4, 2) := by decide +kernel
theorem dX9_asOf_86 : decode cX9_asOf 86 = .ok (.ireturn, 1) := by decide +kernel
theorem dX9_asOf_87 : decode cX9_asOf 87 = .ok (.iload_n 3, 1) := by decide +kernel
theorem dX9_asOf_88 : decode cX9_asOf 88 = .ok (.iconst (-1), 1) := by decide +kernel
theorem dX9_asOf_89 : decode cX9_asOf 89 = .ok (.if_icmp .ne 7, 3) := by decide +kernel
theorem dX9_asOf_92 : decode cX9_asOf 92 = .ok (.iconst 0, 1) := by decide +kernel
theorem dX9_asOf_93 : decode cX9_asOf 93 = .ok (.goto 6, 3) := by decide +kernel
theorem dX9_asOf_96 : decode cX9_asOf 96 = .ok (.sipush (-5000), 3) := by decide +kernel
theorem dX9_asOf_99 : decode cX9_asOf 99 = .ok (.ireturn, 1) := by decide +kernel
theorem dX9_isReader_0 : decode cX9_isReader 0 = .ok (.iload_n 1, 1) := by decide +kernel
theorem dX9_isReader_1 : decode cX9_isReader 1 = .ok (.i2l, 1) := by decide +kernel
theorem dX9_isReader_2 : decode cX9_isReader 2 = .ok (.lconst 0, 1) := by decide +kernel
theorem dX9_isReader_3 : decode cX9_isReader 3 = .ok (.aload_n 0, 1) := by decide +kernel
theorem dX9_isReader_4 : decode cX9_isReader 4 = .ok (.getfield 265, 3) := by decide +kernel
theorem dX9_isReader_7 : decode cX9_isReader 7 = .ok (.i2l, 1) := by decide +kernel
theorem dX9_isReader_8 : decode cX9_isReader 8 = .ok (.lconst 1, 1) := by decide +kernel
theorem dX9_isReader_9 : decode cX9_isReader 9 = .ok (.lsub, 1) := by decide +kernel
theorem dX9_isReader_10 : decode cX9_isReader 10 = .ok (.invokestatic 139, 3) := by decide +kernel
theorem dX9_isReader_13 : decode cX9_isReader 13 = .ok (.ireturn, 1) := by decide +kernel
theorem dX9_reader_0 : decode cX9_reader 0 = .ok (.aload_n 0, 1) := by decide +kernel
theorem dX9_reader_1 : decode cX9_reader 1 = .ok (.iconst 0, 1) := by decide +kernel
theorem dX9_reader_2 : decode cX9_reader 2 = .ok (.putfield 123, 3) := by decide +kernel
theorem dX9_reader_5 : decode cX9_reader 5 = .ok (.aload_n 0, 1) := by decide +kernel
theorem dX9_reader_6 : decode cX9_reader 6 = .ok (.iload_n 1, 1) := by decide +kernel
theorem dX9_reader_7 : decode cX9_reader 7 = .ok (.invokevirtual 157, 3) := by decide +kernel
theorem dX9_reader_10 : decode cX9_reader 10 = .ok (.ifCond .ne 10, 3) := by decide +kernel
theorem dX9_reader_13 : decode cX9_reader 13 = .ok (.aload_n 0, 1) := by decide +kernel
theorem dX9_reader_14 : decode cX9_reader 14 = .ok (.bipush (-2), 2) := by decide +kernel
theorem dX9_reader_16 : decode cX9_reader 16 = .ok (.invokevirtual 153, 3) := by decide +kernel
theorem dX9_reader_19 : decode cX9_reader 19 = .ok (.ireturn, 1) := by decide +kernel
theorem dX9_reader_20 : decode cX9_reader 20 = .ok (.aload_n 0, 1) := by decide +kernel
theorem dX9_reader_21 : decode cX9_reader 21 = .ok (.getfield 265, 3) := by decide +kernel
theorem dX9_reader_24 : decode cX9_reader 24 = .ok (.bipush 10, 2) := by decide +kernel
theorem dX9_reader_26 : decode cX9_reader 26 = .ok (.if_icmp .ne 10, 3) := by decide +kernel
theorem dX9_reader_29 : decode cX9_reader 29 = .ok (.aload_n 0, 1) := by decide +kernel
theorem dX9_reader_30 : decode cX9_reader 30 = .ok (.bipush (-5), 2) := by decide +kernel
theorem dX9_reader_32 : decode cX9_reader 32 = .ok (.invokevirtual 153, 3) := by decide +kernel
theorem dX9_reader_35 : decode cX9_reader 35 = .ok (.ireturn, 1) := by decide +kernel
theorem dX9_reader_36 : decode cX9_reader 36 = .ok (.aload_n 0, 1) := by decide +kernel
theorem dX9_reader_37 : decode cX9_reader 37 = .ok (.getfield 108, 3) := by decide +kernel
theorem dX9_reader_40 : decode cX9_reader 40 = .ok (.aload_n 0, 1) := by decide +kernel
theorem dX9_reader_41 : decode cX9_reader 41 = .ok (.getfield 265, 3) := by decide +kernel
theorem dX9_reader_44 : decode cX9_reader 44 = .ok (.iload_n 1, 1) := by decide +kernel
theorem dX9_reader_45 : decode cX9_reader 45 = .ok (.iastore, 1) := by decide +kernel
theorem dX9_reader_46 : decode cX9_reader 46 = .ok (.aload_n 0, 1) := by decide +kernel
theorem dX9_reader_47 : decode cX9_reader 47 = .ok (.dup, 1) := by decide +kernel
theorem dX9_reader_48 : decode cX9_reader 48 = .ok (.getfield 265, 3) := by decide +kernel
theorem dX9_reader_51 : decode cX9_reader 51 = .ok (.iconst 1, 1) := by decide +kernel
theorem dX9_reader_52 : decode cX9_reader 52 = .ok (.iadd, 1) := by decide +kernel
theorem dX9_reader_53 : decode cX9_reader 53 = .ok (.putfield 265, 3) := by decide +kernel
theorem dX9_reader_56 : decode cX9_reader 56 = .ok (.aload_n 0, 1) := by decide +kernel
theorem dX9_reader_57 : decode cX9_reader 57 = .ok (.aload_n 0, 1) := by decide +kernel
theorem dX9_reader_58 : decode cX9_reader 58 = .ok (.getfield 265, 3) := by decide +kernel
theorem dX9_reader_61 : decode cX9_reader 61 = .ok (.iconst 1, 1) := by decide +kernel
theorem dX9_reader_62 : decode cX9_reader 62 = .ok (.isub, 1) := by decide +kernel
theorem dX9_reader_63 : decode cX9_reader 63 = .ok (.invokevirtual 153, 3) := by decide +kernel
theorem dX9_reader_66 : decode cX9_reader 66 = .ok (.ireturn, 1) := by decide +kernel
theorem dX9_isHeld_0 : decode cX9_isHeld 0 = .ok (.aload_n 0, 1) := by decide +kernel
theorem dX9_isHeld_1 : decode cX9_isHeld 1 = .ok (.getfield 111, 3) := by decide +kernel
theorem dX9_isHeld_4 : decode cX9_isHeld 4 = .ok (.iload_n 1, 1) := by decide +kernel
theorem dX9_isHeld_5 : decode cX9_isHeld 5 = .ok (.iaload, 1) := by decide +kernel
theorem dX9_isHeld_6 : decode cX9_isHeld 6 = .ok (.aload_n 0, 1) := by decide +kernel
theorem dX9_isHeld_7 : decode cX9_isHeld 7 = .ok (.getfield 238, 3) := by decide +kernel
theorem dX9_isHeld_10 : decode cX9_isHeld 10 = .ok (.if_icmp .ne 7, 3) := by decide +kernel
theorem dX9_isHeld_13 : decode cX9_isHeld 13 = .ok (.iconst 1, 1) := by decide +kernel
theorem dX9_isHeld_14 : decode cX9_isHeld 14 = .ok (.goto 4, 3) := by decide +kernel
theorem dX9_isHeld_17 : decode cX9_isHeld 17 = .ok (.iconst 0, 1) := by decide +kernel
theorem dX9_isHeld_18 : decode cX9_isHeld 18 = .ok (.istore_n 2, 1) := by decide +kernel
theorem dX9_isHeld_19 : decode cX9_isHeld 19 = .ok (.iconst 0, 1) := by decide +kernel
theorem dX9_isHeld_20 : decode cX9_isHeld 20 = .ok (.istore_n 3, 1) := by decide +kernel
theorem dX9_isHeld_21 : decode cX9_isHeld 21 = .ok (.iload_n 3, 1) := by decide +kernel
theorem dX9_isHeld_22 : decode cX9_isHeld 22 = .ok (.aload_n 0, 1) := by decide +kernel
theorem dX9_isHeld_23 : decode cX9_isHeld 23 = .ok (.getfield 238, 3) := by decide +kernel
theorem dX9_isHeld_26 : decode cX9_isHeld 26 = .ok (.if_icmp .ge 40, 3) := by decide +kernel
theorem dX9_isHeld_29 : decode cX9_isHeld 29 = .ok (.iload_n 2, 1) := by decide +kernel
theorem dX9_isHeld_30 : decode cX9_isHeld 30 = .ok (.ifCond .eq 36, 3) := by decide +kernel
theorem dX9_isHeld_33 : decode cX9_isHeld 33 = .ok (.aload_n 0, 1) := by decide +kernel
theorem dX9_isHeld_34 : decode cX9_isHeld 34 = .ok (.getfield 114, 3) := by decide +kernel
theorem dX9_isHeld_37 : decode cX9_isHeld 37 = .ok (.sipush 600, 3) := by decide +kernel
theorem dX9_isHeld_40 : decode cX9_isHeld 40 = .ok (.iload_n 1, 1) := by decide +kernel
theorem dX9_isHeld_41 : decode cX9_isHeld 41 = .ok (.imul, 1) := by decide +kernel
theorem dX9_isHeld_42 : decode cX9_isHeld 42 = .ok (.iload_n 3, 1) := by decide +kernel
theorem dX9_isHeld_43 : decode cX9_isHeld 43 = .ok (.iadd, 1) := by decide +kernel
theorem dX9_isHeld_44 : decode cX9_isHeld 44 = .ok (.iaload, 1) := by decide +kernel
theorem dX9_isHeld_45 : decode cX9_isHeld 45 = .ok (.aload_n 0, 1) := by decide +kernel
theorem dX9_isHeld_46 : decode cX9_isHeld 46 = .ok (.getfield 90, 3) := by decide +kernel
theorem dX9_isHeld_49 : decode cX9_isHeld 49 = .ok (.iload_n 3, 1) := by decide +kernel
theorem dX9_isHeld_50 : decode cX9_isHeld 50 = .ok (.iaload, 1) := by decide +kernel
theorem dX9_isHeld_51 : decode cX9_isHeld 51 = .ok (.if_icmp .ne 7, 3) := by decide +kernel
theorem dX9_isHeld_54 : decode cX9_isHeld 54 = .ok (.iconst 1, 1) := by decide +kernel
theorem dX9_isHeld_55 : decode cX9_isHeld 55 = .ok (.goto 4, 3) := by decide +kernel
theorem dX9_isHeld_58 : decode cX9_isHeld 58 = .ok (.iconst 0, 1) := by decide +kernel
theorem dX9_isHeld_59 : decode cX9_isHeld 59 = .ok (.istore_n 2, 1) := by decide +kernel
theorem dX9_isHeld_60 : decode cX9_isHeld 60 = .ok (.iinc 3 1, 3) := by decide +kernel
theorem dX9_isHeld_63 : decode cX9_isHeld 63 = .ok (.goto (-42), 3) := by decide +kernel
theorem dX9_isHeld_66 : decode cX9_isHeld 66 = .ok (.iload_n 2, 1) := by decide +kernel
theorem dX9_isHeld_67 : decode cX9_isHeld 67 = .ok (.ireturn, 1) := by decide +kernel
theorem dX9_send_0 : decode cX9_send 0 = .ok (.aload_n 0, 1) := by decide +kernel
theorem dX9_send_1 : decode cX9_send 1 = .ok (.iconst 0, 1) := by decide +kernel
theorem dX9_send_2 : decode cX9_send 2 = .ok (.putfield 123, 3) := by decide +kernel
theorem dX9_send_5 : decode cX9_send 5 = .ok (.iconst 0, 1) := by decide +kernel
theorem dX9_send_6 : decode cX9_send 6 = .ok (.istore_n 1, 1) := by decide +kernel
theorem dX9_send_7 : decode cX9_send 7 = .ok (.iconst 0, 1) := by decide +kernel
theorem dX9_send_8 : decode cX9_send 8 = .ok (.istore_n 2, 1) := by decide +kernel
theorem dX9_send_9 : decode cX9_send 9 = .ok (.iload_n 2, 1) := by decide +kernel
theorem dX9_send_10 : decode cX9_send 10 = .ok (.aload_n 0, 1) := by decide +kernel
theorem dX9_send_11 : decode cX9_send 11 = .ok (.getfield 265, 3) := by decide +kernel
theorem dX9_send_14 : decode cX9_send 14 = .ok (.if_icmp .ge 108, 3) := by decide +kernel
theorem dX9_send_17 : decode cX9_send 17 = .ok (.aload_n 0, 1) := by decide +kernel
theorem dX9_send_18 : decode cX9_send 18 = .ok (.aload_n 0, 1) := by decide +kernel
theorem dX9_send_19 : decode cX9_send 19 = .ok (.getfield 108, 3) := by decide +kernel
theorem dX9_send_22 : decode cX9_send 22 = .ok (.iload_n 2, 1) := by decide +kernel
theorem dX9_send_23 : decode cX9_send 23 = .ok (.iaload, 1) := by decide +kernel
theorem dX9_send_24 : decode cX9_send 24 = .ok (.invokevirtual 255, 3) := by decide +kernel
theorem dX9_send_27 : decode cX9_send 27 = .ok (.aload_n 0, 1) := by decide +kernel
theorem dX9_send_28 : decode cX9_send 28 = .ok (.iload_n 2, 1) := by decide +kernel
theorem dX9_send_29 : decode cX9_send 29 = .ok (.invokevirtual 268, 3) := by decide +kernel
theorem dX9_send_32 : decode cX9_send 32 = .ok (.ifCond .eq 6, 3) := by decide +kernel
theorem dX9_send_35 : decode cX9_send 35 = .ok (.goto 81, 3) := by decide +kernel
theorem dX9_send_38 : decode cX9_send 38 = .ok (.iload_n 1, 1) := by decide +kernel
theorem dX9_send_39 : decode cX9_send 39 = .ok (.iconst 1, 1) := by decide +kernel
theorem dX9_send_40 : decode cX9_send 40 = .ok (.iload_n 2, 1) := by decide +kernel
theorem dX9_send_41 : decode cX9_send 41 = .ok (.ishl, 1) := by decide +kernel
theorem dX9_send_42 : decode cX9_send 42 = .ok (.ior, 1) := by decide +kernel
theorem dX9_send_43 : decode cX9_send 43 = .ok (.istore_n 1, 1) := by decide +kernel
theorem dX9_send_44 : decode cX9_send 44 = .ok (.aload_n 0, 1) := by decide +kernel
theorem dX9_send_45 : decode cX9_send 45 = .ok (.dup, 1) := by decide +kernel
theorem dX9_send_46 : decode cX9_send 46 = .ok (.getfield 271, 3) := by decide +kernel
theorem dX9_send_49 : decode cX9_send 49 = .ok (.iconst 1, 1) := by decide +kernel
theorem dX9_send_50 : decode cX9_send 50 = .ok (.iadd, 1) := by decide +kernel
theorem dX9_send_51 : decode cX9_send 51 = .ok (.putfield 271, 3) := by decide +kernel
theorem dX9_send_54 : decode cX9_send 54 = .ok (.aload_n 0, 1) := by decide +kernel
theorem dX9_send_55 : decode cX9_send 55 = .ok (.getfield 111, 3) := by decide +kernel
theorem dX9_send_58 : decode cX9_send 58 = .ok (.iload_n 2, 1) := by decide +kernel
theorem dX9_send_59 : decode cX9_send 59 = .ok (.aload_n 0, 1) := by decide +kernel
theorem dX9_send_60 : decode cX9_send 60 = .ok (.getfield 238, 3) := by decide +kernel
theorem dX9_send_63 : decode cX9_send 63 = .ok (.iastore, 1) := by decide +kernel
theorem dX9_send_64 : decode cX9_send 64 = .ok (.iconst 0, 1) := by decide +kernel
theorem dX9_send_65 : decode cX9_send 65 = .ok (.istore_n 3, 1) := by decide +kernel
theorem dX9_send_66 : decode cX9_send 66 = .ok (.iload_n 3, 1) := by decide +kernel
theorem dX9_send_67 : decode cX9_send 67 = .ok (.aload_n 0, 1) := by decide +kernel
theorem dX9_send_68 : decode cX9_send 68 = .ok (.getfield 238, 3) := by decide +kernel
theorem dX9_send_71 : decode cX9_send 71 = .ok (.if_icmp .ge 45, 3) := by decide +kernel
theorem dX9_send_74 : decode cX9_send 74 = .ok (.aload_n 0, 1) := by decide +kernel
theorem dX9_send_75 : decode cX9_send 75 = .ok (.getfield 114, 3) := by decide +kernel
theorem dX9_send_78 : decode cX9_send 78 = .ok (.sipush 600, 3) := by decide +kernel
theorem dX9_send_81 : decode cX9_send 81 = .ok (.iload_n 2, 1) := by decide +kernel
theorem dX9_send_82 : decode cX9_send 82 = .ok (.imul, 1) := by decide +kernel
theorem dX9_send_83 : decode cX9_send 83 = .ok (.iload_n 3, 1) := by decide +kernel
theorem dX9_send_84 : decode cX9_send 84 = .ok (.iadd, 1) := by decide +kernel
theorem dX9_send_85 : decode cX9_send 85 = .ok (.aload_n 0, 1) := by decide +kernel
theorem dX9_send_86 : decode cX9_send 86 = .ok (.getfield 90, 3) := by decide +kernel
theorem dX9_send_89 : decode cX9_send 89 = .ok (.iload_n 3, 1) := by decide +kernel
theorem dX9_send_90 : decode cX9_send 90 = .ok (.iaload, 1) := by decide +kernel
theorem dX9_send_91 : decode cX9_send 91 = .ok (.iastore, 1) := by decide +kernel
theorem dX9_send_92 : decode cX9_send 92 = .ok (.aload_n 0, 1) := by decide +kernel
theorem dX9_send_93 : decode cX9_send 93 = .ok (.getfield 117, 3) := by decide +kernel
theorem dX9_send_96 : decode cX9_send 96 = .ok (.sipush 600, 3) := by decide +kernel
theorem dX9_send_99 : decode cX9_send 99 = .ok (.iload_n 2, 1) := by decide +kernel
theorem dX9_send_100 : decode cX9_send 100 = .ok (.imul, 1) := by decide +kernel
theorem dX9_send_101 : decode cX9_send 101 = .ok (.iload_n 3, 1) := by decide +kernel
theorem dX9_send_102 : decode cX9_send 102 = .ok (.iadd, 1) := by decide +kernel
theorem dX9_send_103 : decode cX9_send 103 = .ok (.aload_n 0, 1) := by decide +kernel
theorem dX9_send_104 : decode cX9_send 104 = .ok (.getfield 93, 3) := by decide +kernel
theorem dX9_send_107 : decode cX9_send 107 = .ok (.iload_n 3, 1) := by decide +kernel
theorem dX9_send_108 : decode cX9_send 108 = .ok (.iaload, 1) := by decide +kernel
theorem dX9_send_109 : decode cX9_send 109 = .ok (.iastore, 1) := by decide +kernel
theorem dX9_send_110 : decode cX9_send 110 = .ok (.iinc 3 1, 3) := by decide +kernel
theorem dX9_send_113 : decode cX9_send 113 = .ok (.goto (-47), 3) := by decide +kernel
theorem dX9_send_116 : decode cX9_send 116 = .ok (.iinc 2 1, 3) := by decide +kernel
theorem dX9_send_119 : decode cX9_send 119 = .ok (.goto (-110), 3) := by decide +kernel
theorem dX9_send_122 : decode cX9_send 122 = .ok (.iload_n 1, 1) := by decide +kernel
theorem dX9_send_123 : decode cX9_send 123 = .ok (.ireturn, 1) := by decide +kernel
theorem dX9_holds_0 : decode cX9_holds 0 = .ok (.aload_n 0, 1) := by decide +kernel
theorem dX9_holds_1 : decode cX9_holds 1 = .ok (.iconst 0, 1) := by decide +kernel
theorem dX9_holds_2 : decode cX9_holds 2 = .ok (.putfield 123, 3) := by decide +kernel
theorem dX9_holds_5 : decode cX9_holds 5 = .ok (.aload_n 0, 1) := by decide +kernel
theorem dX9_holds_6 : decode cX9_holds 6 = .ok (.iload_n 1, 1) := by decide +kernel
theorem dX9_holds_7 : decode cX9_holds 7 = .ok (.invokevirtual 274, 3) := by decide +kernel
theorem dX9_holds_10 : decode cX9_holds 10 = .ok (.ifCond .ne 7, 3) := by decide +kernel
theorem dX9_holds_13 : decode cX9_holds 13 = .ok (.sipush (-5000), 3) := by decide +kernel
theorem dX9_holds_16 : decode cX9_holds 16 = .ok (.ireturn, 1) := by decide +kernel
theorem dX9_holds_17 : decode cX9_holds 17 = .ok (.iload_n 2, 1) := by decide +kernel
theorem dX9_holds_18 : decode cX9_holds 18 = .ok (.iconst (-1), 1) := by decide +kernel
theorem dX9_holds_19 : decode cX9_holds 19 = .ok (.if_icmp .ne 12, 3) := by decide +kernel
theorem dX9_holds_22 : decode cX9_holds 22 = .ok (.aload_n 0, 1) := by decide +kernel
theorem dX9_holds_23 : decode cX9_holds 23 = .ok (.getfield 111, 3) := by decide +kernel
theorem dX9_holds_26 : decode cX9_holds 26 = .ok (.iload_n 1, 1) := by decide +kernel
theorem dX9_holds_27 : decode cX9_holds 27 = .ok (.iaload, 1) := by decide +kernel
theorem dX9_holds_28 : decode cX9_holds 28 = .ok (.goto 39, 3) := by decide +kernel
theorem dX9_holds_31 : decode cX9_holds 31 = .ok (.iload_n 2, 1) := by decide +kernel
theorem dX9_holds_32 : decode cX9_holds 32 = .ok (.i2l, 1) := by decide +kernel
theorem dX9_holds_33 : decode cX9_holds 33 = .ok (.lconst 0, 1) := by decide +kernel
theorem dX9_holds_34 : decode cX9_holds 34 = .ok (.aload_n 0, 1) := by decide +kernel
theorem dX9_holds_35 : decode cX9_holds 35 = .ok (.getfield 111, 3) := by decide +kernel
theorem dX9_holds_38 : decode cX9_holds 38 = .ok (.iload_n 1, 1) := by decide +kernel
theorem dX9_holds_39 : decode cX9_holds 39 = .ok (.iaload, 1) := by decide +kernel
theorem dX9_holds_40 : decode cX9_holds 40 = .ok (.i2l, 1) := by decide +kernel
theorem dX9_holds_41 : decode cX9_holds 41 = .ok (.lconst 1, 1) := by decide +kernel
theorem dX9_holds_42 : decode cX9_holds 42 = .ok (.lsub, 1) := by decide +kernel
theorem dX9_holds_43 : decode cX9_holds 43 = .ok (.invokestatic 139, 3) := by decide +kernel
theorem dX9_holds_46 : decode cX9_holds 46 = .ok (.ifCond .eq 18, 3) := by decide +kernel
theorem dX9_holds_49 : decode cX9_holds 49 = .ok (.aload_n 0, 1) := by decide +kernel
theorem dX9_holds_50 : decode cX9_holds 50 = .ok (.getfield 114, 3) := by decide +kernel
theorem dX9_holds_53 : decode cX9_holds 53 = .ok (.sipush 600, 3) := by decide +kernel
theorem dX9_holds_56 : decode cX9_holds 56 = .ok (.iload_n 1, 1) := by decide +kernel
theorem dX9_holds_57 : decode cX9_holds 57 = .ok (.imul, 1) := by decide +kernel
theorem dX9_holds_58 : decode cX9_holds 58 = .ok (.iload_n 2, 1) := by decide +kernel
theorem dX9_holds_59 : decode cX9_holds 59 = .ok (.iadd, 1) := by decide +kernel
theorem dX9_holds_60 : decode cX9_holds 60 = .ok (.iaload, 1) := by decide +kernel
theorem dX9_holds_61 : decode cX9_holds 61 = .ok (.goto 6, 3) := by decide +kernel
theorem dX9_holds_64 : decode cX9_holds 64 = .ok (.sipush (-5000), 3) := by decide +kernel
theorem dX9_holds_67 : decode cX9_holds 67 = .ok (.ireturn, 1) := by decide +kernel
theorem dX9_same_0 : decode cX9_same 0 = .ok (.aload_n 0, 1) := by decide +kernel
theorem dX9_same_1 : decode cX9_same 1 = .ok (.iconst 0, 1) := by decide +kernel
theorem dX9_same_2 : decode cX9_same 2 = .ok (.putfield 123, 3) := by decide +kernel
theorem dX9_same_5 : decode cX9_same 5 = .ok (.aload_n 0, 1) := by decide +kernel
theorem dX9_same_6 : decode cX9_same 6 = .ok (.iload_n 1, 1) := by decide +kernel
theorem dX9_same_7 : decode cX9_same 7 = .ok (.invokevirtual 274, 3) := by decide +kernel
theorem dX9_same_10 : decode cX9_same 10 = .ok (.ifCond .ne 5, 3) := by decide +kernel
theorem dX9_same_13 : decode cX9_same 13 = .ok (.iconst (-1), 1) := by decide +kernel
theorem dX9_same_14 : decode cX9_same 14 = .ok (.ireturn, 1) := by decide +kernel
theorem dX9_same_15 : decode cX9_same 15 = .ok (.aload_n 0, 1) := by decide +kernel
theorem dX9_same_16 : decode cX9_same 16 = .ok (.aload_n 0, 1) := by decide +kernel
theorem dX9_same_17 : decode cX9_same 17 = .ok (.getfield 108, 3) := by decide +kernel
theorem dX9_same_20 : decode cX9_same 20 = .ok (.iload_n 1, 1) := by decide +kernel
theorem dX9_same_21 : decode cX9_same 21 = .ok (.iaload, 1) := by decide +kernel
theorem dX9_same_22 : decode cX9_same 22 = .ok (.invokevirtual 255, 3) := by decide +kernel
theorem dX9_same_25 : decode cX9_same 25 = .ok (.aload_n 0, 1) := by decide +kernel
theorem dX9_same_26 : decode cX9_same 26 = .ok (.iload_n 1, 1) := by decide +kernel
theorem dX9_same_27 : decode cX9_same 27 = .ok (.invokevirtual 268, 3) := by decide +kernel
theorem dX9_same_30 : decode cX9_same 30 = .ok (.ifCond .eq 7, 3) := by decide +kernel
theorem dX9_same_33 : decode cX9_same 33 = .ok (.iconst 1, 1) := by decide +kernel
theorem dX9_same_34 : decode cX9_same 34 = .ok (.goto 4, 3) := by decide +kernel
theorem dX9_same_37 : decode cX9_same 37 = .ok (.iconst 0, 1) := by decide +kernel
theorem dX9_same_38 : decode cX9_same 38 = .ok (.ireturn, 1) := by decide +kernel
theorem dX9_edit_0 : decode cX9_edit 0 = .ok (.aload_n 0, 1) := by decide +kernel
theorem dX9_edit_1 : decode cX9_edit 1 = .ok (.iconst 0, 1) := by decide +kernel
theorem dX9_edit_2 : decode cX9_edit 2 = .ok (.putfield 123, 3) := by decide +kernel
theorem dX9_edit_5 : decode cX9_edit 5 = .ok (.iload_n 3, 1) := by decide +kernel
theorem dX9_edit_6 : decode cX9_edit 6 = .ok (.invokestatic 149, 3) := by decide +kernel
theorem dX9_edit_9 : decode cX9_edit 9 = .ok (.ifCond .ne 9, 3) := by decide +kernel
theorem dX9_edit_12 : decode cX9_edit 12 = .ok (.aload_n 0, 1) := by decide +kernel
theorem dX9_edit_13 : decode cX9_edit 13 = .ok (.iconst (-1), 1) := by decide +kernel
theorem dX9_edit_14 : decode cX9_edit 14 = .ok (.invokevirtual 153, 3) := by decide +kernel
theorem dX9_edit_17 : decode cX9_edit 17 = .ok (.ireturn, 1) := by decide +kernel
theorem dX9_edit_18 : decode cX9_edit 18 = .ok (.aload_n 0, 1) := by decide +kernel
theorem dX9_edit_19 : decode cX9_edit 19 = .ok (.iload_n 1, 1) := by decide +kernel
theorem dX9_edit_20 : decode cX9_edit 20 = .ok (.invokevirtual 274, 3) := by decide +kernel
theorem dX9_edit_23 : decode cX9_edit 23 = .ok (.ifCond .ne 10, 3) := by decide +kernel
theorem dX9_edit_26 : decode cX9_edit 26 = .ok (.aload_n 0, 1) := by decide +kernel
theorem dX9_edit_27 : decode cX9_edit 27 = .ok (.bipush (-2), 2) := by decide +kernel
theorem dX9_edit_29 : decode cX9_edit 29 = .ok (.invokevirtual 153, 3) := by decide +kernel
theorem dX9_edit_32 : decode cX9_edit 32 = .ok (.ireturn, 1) := by decide +kernel
theorem dX9_edit_33 : decode cX9_edit 33 = .ok (.sipush 600, 3) := by decide +kernel
theorem dX9_edit_36 : decode cX9_edit 36 = .ok (.iload_n 1, 1) := by decide +kernel
theorem dX9_edit_37 : decode cX9_edit 37 = .ok (.imul, 1) := by decide +kernel
theorem dX9_edit_38 : decode cX9_edit 38 = .ok (.iload_n 2, 1) := by decide +kernel
theorem dX9_edit_39 : decode cX9_edit 39 = .ok (.iadd, 1) := by decide +kernel
theorem dX9_edit_40 : decode cX9_edit 40 = .ok (.istore 4, 2) := by decide +kernel
theorem dX9_edit_42 : decode cX9_edit 42 = .ok (.iload_n 2, 1) := by decide +kernel
theorem dX9_edit_43 : decode cX9_edit 43 = .ok (.i2l, 1) := by decide +kernel
theorem dX9_edit_44 : decode cX9_edit 44 = .ok (.lconst 0, 1) := by decide +kernel
theorem dX9_edit_45 : decode cX9_edit 45 = .ok (.aload_n 0, 1) := by decide +kernel
theorem dX9_edit_46 : decode cX9_edit 46 = .ok (.getfield 111, 3) := by decide +kernel
theorem dX9_edit_49 : decode cX9_edit 49 = .ok (.iload_n 1, 1) := by decide +kernel
theorem dX9_edit_50 : decode cX9_edit 50 = .ok (.iaload, 1) := by decide +kernel
theorem dX9_edit_51 : decode cX9_edit 51 = .ok (.i2l, 1) := by decide +kernel
theorem dX9_edit_52 : decode cX9_edit 52 = .ok (.lconst 1, 1) := by decide +kernel
theorem dX9_edit_53 : decode cX9_edit 53 = .ok (.lsub, 1) := by decide +kernel
theorem dX9_edit_54 : decode cX9_edit 54 = .ok (.invokestatic 139, 3) := by decide +kernel
theorem dX9_edit_57 : decode cX9_edit 57 = .ok (.ifCond .eq 18, 3) := by decide +kernel
theorem dX9_edit_60 : decode cX9_edit 60 = .ok (.aload_n 0, 1) := by decide +kernel
theorem dX9_edit_61 : decode cX9_edit 61 = .ok (.getfield 117, 3) := by decide +kernel
theorem dX9_edit_64 : decode cX9_edit 64 = .ok (.iload 4, 2) := by decide +kernel
theorem dX9_edit_66 : decode cX9_edit 66 = .ok (.iaload, 1) := by decide +kernel
theorem dX9_edit_67 : decode cX9_edit 67 = .ok (.iconst (-1), 1) := by decide +kernel
theorem dX9_edit_68 : decode cX9_edit 68 = .ok (.if_icmp .eq 7, 3) := by decide +kernel
theorem dX9_edit_71 : decode cX9_edit 71 = .ok (.iconst 1, 1) := by decide +kernel
theorem dX9_edit_72 : decode cX9_edit 72 = .ok (.goto 4, 3) := by decide +kernel
theorem dX9_edit_75 : decode cX9_edit 75 = .ok (.iconst 0, 1) := by decide +kernel
theorem dX9_edit_76 : decode cX9_edit 76 = .ok (.istore 5, 2) := by decide +kernel
theorem dX9_edit_78 : decode cX9_edit 78 = .ok (.iload 5, 2) := by decide +kernel
theorem dX9_edit_80 : decode cX9_edit 80 = .ok (.ifCond .eq 40, 3) := by decide +kernel
theorem dX9_edit_83 : decode cX9_edit 83 = .ok (.aload_n 0, 1) := by decide +kernel
theorem dX9_edit_84 : decode cX9_edit 84 = .ok (.getfield 37, 3) := by decide +kernel
theorem dX9_edit_87 : decode cX9_edit 87 = .ok (.aload_n 0, 1) := by decide +kernel
theorem dX9_edit_88 : decode cX9_edit 88 = .ok (.getfield 117, 3) := by decide +kernel
theorem dX9_edit_91 : decode cX9_edit 91 = .ok (.iload 4, 2) := by decide +kernel
theorem dX9_edit_93 : decode cX9_edit 93 = .ok (.iaload, 1) := by decide +kernel
theorem dX9_edit_94 : decode cX9_edit 94 = .ok (.baload, 1) := by decide +kernel
theorem dX9_edit_95 : decode cX9_edit 95 = .ok (.ifCond .eq 25, 3) := by decide +kernel
theorem dX9_edit_98 : decode cX9_edit 98 = .ok (.aload_n 0, 1) := by decide +kernel
theorem dX9_edit_99 : decode cX9_edit 99 = .ok (.getfield 31, 3) := by decide +kernel
theorem dX9_edit_102 : decode cX9_edit 102 = .ok (.aload_n 0, 1) := by decide +kernel
theorem dX9_edit_103 : decode cX9_edit 103 = .ok (.getfield 117, 3) := by decide +kernel
theorem dX9_edit_106 : decode cX9_edit 106 = .ok (.iload 4, 2) := by decide +kernel
theorem dX9_edit_108 : decode cX9_edit 108 = .ok (.iaload, 1) := by decide +kernel
theorem dX9_edit_109 : decode cX9_edit 109 = .ok (.iaload, 1) := by decide +kernel
theorem dX9_edit_110 : decode cX9_edit 110 = .ok (.aload_n 0, 1) := by decide +kernel
theorem dX9_edit_111 : decode cX9_edit 111 = .ok (.getfield 114, 3) := by decide +kernel
theorem dX9_edit_114 : decode cX9_edit 114 = .ok (.iload 4, 2) := by decide +kernel
theorem dX9_edit_116 : decode cX9_edit 116 = .ok (.iaload, 1) := by decide +kernel
theorem dX9_edit_117 : decode cX9_edit 117 = .ok (.if_icmp .eq 10, 3) := by decide +kernel
theorem dX9_edit_120 : decode cX9_edit 120 = .ok (.aload_n 0, 1) := by decide +kernel
theorem dX9_edit_121 : decode cX9_edit 121 = .ok (.bipush (-3), 2) := by decide +kernel
theorem dX9_edit_123 : decode cX9_edit 123 = .ok (.invokevirtual 153, 3) := by decide +kernel
theorem dX9_edit_126 : decode cX9_edit 126 = .ok (.ireturn, 1) := by decide +kernel
theorem dX9_edit_127 : decode cX9_edit 127 = .ok (.aload_n 0, 1) := by decide +kernel
theorem dX9_edit_128 : decode cX9_edit 128 = .ok (.getfield 129, 3) := by decide +kernel
theorem dX9_edit_131 : decode cX9_edit 131 = .ok (.sipush 300, 3) := by decide +kernel
theorem dX9_edit_134 : decode cX9_edit 134 = .ok (.if_icmp .ne 10, 3) := by decide +kernel
theorem dX9_edit_137 : decode cX9_edit 137 = .ok (.aload_n 0, 1) := by decide +kernel
theorem dX9_edit_138 : decode cX9_edit 138 = .ok (.bipush (-5), 2) := by decide +kernel
theorem dX9_edit_140 : decode cX9_edit 140 = .ok (.invokevirtual 153, 3) := by decide +kernel
theorem dX9_edit_143 : decode cX9_edit 143 = .ok (.ireturn, 1) := by decide +kernel
theorem dX9_edit_144 : decode cX9_edit 144 = .ok (.aload_n 0, 1) := by decide +kernel
theorem dX9_edit_145 : decode cX9_edit 145 = .ok (.iconst 1, 1) := by decide +kernel
theorem dX9_edit_146 : decode cX9_edit 146 = .ok (.aload_n 0, 1) := by decide +kernel
theorem dX9_edit_147 : decode cX9_edit 147 = .ok (.getfield 117, 3) := by decide +kernel
theorem dX9_edit_150 : decode cX9_edit 150 = .ok (.iload 4, 2) := by decide +kernel
theorem dX9_edit_152 : decode cX9_edit 152 = .ok (.iaload, 1) := by decide +kernel
theorem dX9_edit_153 : decode cX9_edit 153 = .ok (.iload_n 3, 1) := by decide +kernel
theorem dX9_edit_154 : decode cX9_edit 154 = .ok (.iconst 0, 1) := by decide +kernel
theorem dX9_edit_155 : decode cX9_edit 155 = .ok (.iconst 0, 1) := by decide +kernel
theorem dX9_edit_156 : decode cX9_edit 156 = .ok (.iconst 0, 1) := by decide +kernel
theorem dX9_edit_157 : decode cX9_edit 157 = .ok (.invokevirtual 160, 3) := by decide +kernel
theorem dX9_edit_160 : decode cX9_edit 160 = .ok (.aload_n 0, 1) := by decide +kernel
theorem dX9_edit_161 : decode cX9_edit 161 = .ok (.getfield 114, 3) := by decide +kernel
theorem dX9_edit_164 : decode cX9_edit 164 = .ok (.iload 4, 2) := by decide +kernel
theorem dX9_edit_166 : decode cX9_edit 166 = .ok (.iload_n 3, 1) := by decide +kernel
theorem dX9_edit_167 : decode cX9_edit 167 = .ok (.iastore, 1) := by decide +kernel
theorem dX9_edit_168 : decode cX9_edit 168 = .ok (.aload_n 0, 1) := by decide +kernel
theorem dX9_edit_169 : decode cX9_edit 169 = .ok (.aload_n 0, 1) := by decide +kernel
theorem dX9_edit_170 : decode cX9_edit 170 = .ok (.getfield 117, 3) := by decide +kernel
theorem dX9_edit_173 : decode cX9_edit 173 = .ok (.iload 4, 2) := by decide +kernel
theorem dX9_edit_175 : decode cX9_edit 175 = .ok (.iaload, 1) := by decide +kernel
theorem dX9_edit_176 : decode cX9_edit 176 = .ok (.invokevirtual 153, 3) := by decide +kernel
theorem dX9_edit_179 : decode cX9_edit 179 = .ok (.ireturn, 1) := by decide +kernel
theorem dX9_touched_0 : decode cX9_touched 0 = .ok (.aload_n 0, 1) := by decide +kernel
theorem dX9_touched_1 : decode cX9_touched 1 = .ok (.iconst 0, 1) := by decide +kernel
theorem dX9_touched_2 : decode cX9_touched 2 = .ok (.putfield 123, 3) := by decide +kernel
theorem dX9_touched_5 : decode cX9_touched 5 = .ok (.aload_n 0, 1) := by decide +kernel
theorem dX9_touched_6 : decode cX9_touched 6 = .ok (.iload_n 1, 1) := by decide +kernel
theorem dX9_touched_7 : decode cX9_touched 7 = .ok (.invokevirtual 157, 3) := by decide +kernel
theorem dX9_touched_10 : decode cX9_touched 10 = .ok (.ifCond .eq 10, 3) := by decide +kernel
theorem dX9_touched_13 : decode cX9_touched 13 = .ok (.iload_n 2, 1) := by decide +kernel
theorem dX9_touched_14 : decode cX9_touched 14 = .ok (.invokestatic 149, 3) := by decide +kernel
theorem dX9_touched_17 : decode cX9_touched 17 = .ok (.ifCond .ne 5, 3) := by decide +kernel
theorem dX9_touched_20 : decode cX9_touched 20 = .ok (.iconst 0, 1) := by decide +kernel
theorem dX9_touched_21 : decode cX9_touched 21 = .ok (.ireturn, 1) := by decide +kernel
theorem dX9_touched_22 : decode cX9_touched 22 = .ok (.iconst 0, 1) := by decide +kernel
theorem dX9_touched_23 : decode cX9_touched 23 = .ok (.istore_n 3, 1) := by decide +kernel
theorem dX9_touched_24 : decode cX9_touched 24 = .ok (.aload_n 0, 1) := by decide +kernel
theorem dX9_touched_25 : decode cX9_touched 25 = .ok (.getfield 31, 3) := by decide +kernel
theorem dX9_touched_28 : decode cX9_touched 28 = .ok (.iload_n 1, 1) := by decide +kernel
theorem dX9_touched_29 : decode cX9_touched 29 = .ok (.iaload, 1) := by decide +kernel
theorem dX9_touched_30 : decode cX9_touched 30 = .ok (.istore 4, 2) := by decide +kernel
theorem dX9_touched_32 : decode cX9_touched 32 = .ok (.iconst 0, 1) := by decide +kernel
theorem dX9_touched_33 : decode cX9_touched 33 = .ok (.istore 5, 2) := by decide +kernel
theorem dX9_touched_35 : decode cX9_touched 35 = .ok (.iload 5, 2) := by decide +kernel
theorem dX9_touched_37 : decode cX9_touched 37 = .ok (.aload_n 0, 1) := by decide +kernel
theorem dX9_touched_38 : decode cX9_touched 38 = .ok (.getfield 265, 3) := by decide +kernel
theorem dX9_touched_41 : decode cX9_touched 41 = .ok (.if_icmp .ge 159, 3) := by decide +kernel
theorem dX9_touched_44 : decode cX9_touched 44 = .ok (.aload_n 0, 1) := by decide +kernel
theorem dX9_touched_45 : decode cX9_touched 45 = .ok (.aload_n 0, 1) := by decide +kernel
theorem dX9_touched_46 : decode cX9_touched 46 = .ok (.getfield 108, 3) := by decide +kernel
theorem dX9_touched_49 : decode cX9_touched 49 = .ok (.iload 5, 2) := by decide +kernel
theorem dX9_touched_51 : decode cX9_touched 51 = .ok (.iaload, 1) := by decide +kernel
theorem dX9_touched_52 : decode cX9_touched 52 = .ok (.invokevirtual 255, 3) := by decide +kernel
theorem dX9_touched_55 : decode cX9_touched 55 = .ok (.aload_n 0, 1) := by decide +kernel
theorem dX9_touched_56 : decode cX9_touched 56 = .ok (.getfield 238, 3) := by decide +kernel
theorem dX9_touched_59 : decode cX9_touched 59 = .ok (.istore 6, 2) := by decide +kernel
theorem dX9_touched_61 : decode cX9_touched 61 = .ok (.iconst 0, 1) := by decide +kernel
theorem dX9_touched_62 : decode cX9_touched 62 = .ok (.istore 7, 2) := by decide +kernel
theorem dX9_touched_64 : decode cX9_touched 64 = .ok (.iload 7, 2) := by decide +kernel
theorem dX9_touched_66 : decode cX9_touched 66 = .ok (.iload 6, 2) := by decide +kernel
theorem dX9_touched_68 : decode cX9_touched 68 = .ok (.if_icmp .ge 23, 3) := by decide +kernel
theorem dX9_touched_71 : decode cX9_touched 71 = .ok (.aload_n 0, 1) := by decide +kernel
theorem dX9_touched_72 : decode cX9_touched 72 = .ok (.getfield 120, 3) := by decide +kernel
theorem dX9_touched_75 : decode cX9_touched 75 = .ok (.iload 7, 2) := by decide +kernel
theorem dX9_touched_77 : decode cX9_touched 77 = .ok (.aload_n 0, 1) := by decide +kernel
theorem dX9_touched_78 : decode cX9_touched 78 = .ok (.getfield 90, 3) := by decide +kernel
theorem dX9_touched_81 : decode cX9_touched 81 = .ok (.iload 7, 2) := by decide +kernel
theorem dX9_touched_83 : decode cX9_touched 83 = .ok (.iaload, 1) := by decide +kernel
theorem dX9_touched_84 : decode cX9_touched 84 = .ok (.iastore, 1) := by decide +kernel
theorem dX9_touched_85 : decode cX9_touched 85 = .ok (.iinc 7 1, 3) := by decide +kernel
theorem dX9_touched_88 : decode cX9_touched 88 = .ok (.goto (-24), 3) := by decide +kernel
theorem dX9_touched_91 : decode cX9_touched 91 = .ok (.aload_n 0, 1) := by decide +kernel
theorem dX9_touched_92 : decode cX9_touched 92 = .ok (.getfield 31, 3) := by decide +kernel
theorem dX9_touched_95 : decode cX9_touched 95 = .ok (.iload_n 1, 1) := by decide +kernel
theorem dX9_touched_96 : decode cX9_touched 96 = .ok (.iload_n 2, 1) := by decide +kernel
theorem dX9_touched_97 : decode cX9_touched 97 = .ok (.iastore, 1) := by decide +kernel
theorem dX9_touched_98 : decode cX9_touched 98 = .ok (.aload_n 0, 1) := by decide +kernel
theorem dX9_touched_99 : decode cX9_touched 99 = .ok (.aload_n 0, 1) := by decide +kernel
theorem dX9_touched_100 : decode cX9_touched 100 = .ok (.getfield 108, 3) := by decide +kernel
theorem dX9_touched_103 : decode cX9_touched 103 = .ok (.iload 5, 2) := by decide +kernel
theorem dX9_touched_105 : decode cX9_touched 105 = .ok (.iaload, 1) := by decide +kernel
theorem dX9_touched_106 : decode cX9_touched 106 = .ok (.invokevirtual 255, 3) := by decide +kernel
theorem dX9_touched_109 : decode cX9_touched 109 = .ok (.aload_n 0, 1) := by decide +kernel
theorem dX9_touched_110 : decode cX9_touched 110 = .ok (.getfield 31, 3) := by decide +kernel
theorem dX9_touched_113 : decode cX9_touched 113 = .ok (.iload_n 1, 1) := by decide +kernel
theorem dX9_touched_114 : decode cX9_touched 114 = .ok (.iload 4, 2) := by decide +kernel
theorem dX9_touched_116 : decode cX9_touched 116 = .ok (.iastore, 1) := by decide +kernel
theorem dX9_touched_117 : decode cX9_touched 117 = .ok (.iload 6, 2) := by decide +kernel
theorem dX9_touched_119 : decode cX9_touched 119 = .ok (.aload_n 0, 1) := by decide +kernel
theorem dX9_touched_120 : decode cX9_touched 120 = .ok (.getfield 238, 3) := by decide +kernel
theorem dX9_touched_123 : decode cX9_touched 123 = .ok (.if_icmp .ne 7, 3) := by decide +kernel
theorem dX9_touched_126 : decode cX9_touched 126 = .ok (.iconst 1, 1) := by decide +kernel
theorem dX9_touched_127 : decode cX9_touched 127 = .ok (.goto 4, 3) := by decide +kernel
theorem dX9_touched_130 : decode cX9_touched 130 = .ok (.iconst 0, 1) := by decide +kernel
theorem dX9_touched_131 : decode cX9_touched 131 = .ok (.istore 7, 2) := by decide +kernel
theorem dX9_touched_133 : decode cX9_touched 133 = .ok (.iconst 0, 1) := by decide +kernel
theorem dX9_touched_134 : decode cX9_touched 134 = .ok (.istore 8, 2) := by decide +kernel
theorem dX9_touched_136 : decode cX9_touched 136 = .ok (.iload 8, 2) := by decide +kernel
theorem dX9_touched_138 : decode cX9_touched 138 = .ok (.iload 6, 2) := by decide +kernel
theorem dX9_touched_140 : decode cX9_touched 140 = .ok (.if_icmp .ge 38, 3) := by decide +kernel
theorem dX9_touched_143 : decode cX9_touched 143 = .ok (.iload 7, 2) := by decide +kernel
theorem dX9_touched_145 : decode cX9_touched 145 = .ok (.ifCond .eq 33, 3) := by decide +kernel
theorem dX9_touched_148 : decode cX9_touched 148 = .ok (.aload_n 0, 1) := by decide +kernel
theorem dX9_touched_149 : decode cX9_touched 149 = .ok (.getfield 120, 3) := by decide +kernel
theorem dX9_touched_152 : decode cX9_touched 152 = .ok (.iload 8, 2) := by decide +kernel
theorem dX9_touched_154 : decode cX9_touched 154 = .ok (.iaload, 1) := by decide +kernel
theorem dX9_touched_155 : decode cX9_touched 155 = .ok (.aload_n 0, 1) := by decide +kernel
theorem dX9_touched_156 : decode cX9_touched 156 = .ok (.getfield 90, 3) := by decide +kernel
theorem dX9_touched_159 : decode cX9_touched 159 = .ok (.iload 8, 2) := by decide +kernel
theorem dX9_touched_161 : decode cX9_touched 161 = .ok (.iaload, 1) := by decide +kernel
theorem dX9_touched_162 : decode cX9_touched 162 = .ok (.if_icmp .ne 7, 3) := by decide +kernel
theorem dX9_touched_165 : decode cX9_touched 165 = .ok (.iconst 1, 1) := by decide +kernel
theorem dX9_touched_166 : decode cX9_touched 166 = .ok (.goto 4, 3) := by decide +kernel
theorem dX9_touched_169 : decode cX9_touched 169 = .ok (.iconst 0, 1) := by decide +kernel
theorem dX9_touched_170 : decode cX9_touched 170 = .ok (.istore 7, 2) := by decide +kernel
theorem dX9_touched_172 : decode cX9_touched 172 = .ok (.iinc 8 1, 3) := by decide +kernel
theorem dX9_touched_175 : decode cX9_touched 175 = .ok (.goto (-39), 3) := by decide +kernel
theorem dX9_touched_178 : decode cX9_touched 178 = .ok (.iload_n 3, 1) := by decide +kernel
theorem dX9_touched_179 : decode cX9_touched 179 = .ok (.iload 7, 2) := by decide +kernel
theorem dX9_touched_181 : decode cX9_touched 181 = .ok (.ifCond .eq 7, 3) := by decide +kernel
theorem dX9_touched_184 : decode cX9_touched 184 = .ok (.iconst 0, 1) := by decide +kernel
theorem dX9_touched_185 : decode cX9_touched 185 = .ok (.goto 7, 3) := by decide +kernel
theorem dX9_touched_188 : decode cX9_touched 188 = .ok (.iconst 1, 1) := by decide +kernel
theorem dX9_touched_189 : decode cX9_touched 189 = .ok (.iload 5, 2) := by decide +kernel
theorem dX9_touched_191 : decode cX9_touched 191 = .ok (.ishl, 1) := by decide +kernel
theorem dX9_touched_192 : decode cX9_touched 192 = .ok (.ior, 1) := by decide +kernel
theorem dX9_touched_193 : decode cX9_touched 193 = .ok (.istore_n 3, 1) := by decide +kernel
theorem dX9_touched_194 : decode cX9_touched 194 = .ok (.iinc 5 1, 3) := by decide +kernel
theorem dX9_touched_197 : decode cX9_touched 197 = .ok (.goto (-162), 3) := by decide +kernel
theorem dX9_touched_200 : decode cX9_touched 200 = .ok (.iload_n 3, 1) := by decide +kernel
theorem dX9_touched_201 : decode cX9_touched 201 = .ok (.ireturn, 1) := by decide +kernel
theorem dX9_count_0 : decode cX9_count 0 = .ok (.aload_n 0, 1) := by decide +kernel
theorem dX9_count_1 : decode cX9_count 1 = .ok (.iconst 0, 1) := by decide +kernel
theorem dX9_count_2 : decode cX9_count 2 = .ok (.putfield 123, 3) := by decide +kernel
theorem dX9_count_5 : decode cX9_count 5 = .ok (.iload_n 1, 1) := by decide +kernel
theorem dX9_count_6 : decode cX9_count 6 = .ok (.tableswitch 109 0 6 #[42, 79, 84, 89, 94, 99, 104], 42) := by decide +kernel
theorem dX9_count_48 : decode cX9_count 48 = .ok (.iconst 0, 1) := by decide +kernel
theorem dX9_count_49 : decode cX9_count 49 = .ok (.istore_n 2, 1) := by decide +kernel
theorem dX9_count_50 : decode cX9_count 50 = .ok (.iconst 0, 1) := by decide +kernel
theorem dX9_count_51 : decode cX9_count 51 = .ok (.istore_n 3, 1) := by decide +kernel
theorem dX9_count_52 : decode cX9_count 52 = .ok (.iload_n 3, 1) := by decide +kernel
theorem dX9_count_53 : decode cX9_count 53 = .ok (.aload_n 0, 1) := by decide +kernel
theorem dX9_count_54 : decode cX9_count 54 = .ok (.getfield 136, 3) := by decide +kernel
theorem dX9_count_57 : decode cX9_count 57 = .ok (.if_icmp .ge 26, 3) := by decide +kernel
theorem dX9_count_60 : decode cX9_count 60 = .ok (.iload_n 2, 1) := by decide +kernel
theorem dX9_count_61 : decode cX9_count 61 = .ok (.aload_n 0, 1) := by decide +kernel
theorem dX9_count_62 : decode cX9_count 62 = .ok (.getfield 37, 3) := by decide +kernel
theorem dX9_count_65 : decode cX9_count 65 = .ok (.iload_n 3, 1) := by decide +kernel
theorem dX9_count_66 : decode cX9_count 66 = .ok (.baload, 1) := by decide +kernel
theorem dX9_count_67 : decode cX9_count 67 = .ok (.ifCond .eq 7, 3) := by decide +kernel
theorem dX9_count_70 : decode cX9_count 70 = .ok (.iconst 1, 1) := by decide +kernel
theorem dX9_count_71 : decode cX9_count 71 = .ok (.goto 4, 3) := by decide +kernel
theorem dX9_count_74 : decode cX9_count 74 = .ok (.iconst 0, 1) := by decide +kernel
theorem dX9_count_75 : decode cX9_count 75 = .ok (.iadd, 1) := by decide +kernel
theorem dX9_count_76 : decode cX9_count 76 = .ok (.istore_n 2, 1) := by decide +kernel
theorem dX9_count_77 : decode cX9_count 77 = .ok (.iinc 3 1, 3) := by decide +kernel
theorem dX9_count_80 : decode cX9_count 80 = .ok (.goto (-28), 3) := by decide +kernel
theorem dX9_count_83 : decode cX9_count 83 = .ok (.iload_n 2, 1) := by decide +kernel
theorem dX9_count_84 : decode cX9_count 84 = .ok (.ireturn, 1) := by decide +kernel
theorem dX9_count_85 : decode cX9_count 85 = .ok (.aload_n 0, 1) := by decide +kernel
theorem dX9_count_86 : decode cX9_count 86 = .ok (.getfield 136, 3) := by decide +kernel
theorem dX9_count_89 : decode cX9_count 89 = .ok (.ireturn, 1) := by decide +kernel
theorem dX9_count_90 : decode cX9_count 90 = .ok (.aload_n 0, 1) := by decide +kernel
theorem dX9_count_91 : decode cX9_count 91 = .ok (.getfield 235, 3) := by decide +kernel
theorem dX9_count_94 : decode cX9_count 94 = .ok (.ireturn, 1) := by decide +kernel
theorem dX9_count_95 : decode cX9_count 95 = .ok (.aload_n 0, 1) := by decide +kernel
theorem dX9_count_96 : decode cX9_count 96 = .ok (.getfield 265, 3) := by decide +kernel
theorem dX9_count_99 : decode cX9_count 99 = .ok (.ireturn, 1) := by decide +kernel
theorem dX9_count_100 : decode cX9_count 100 = .ok (.aload_n 0, 1) := by decide +kernel
theorem dX9_count_101 : decode cX9_count 101 = .ok (.getfield 129, 3) := by decide +kernel
theorem dX9_count_104 : decode cX9_count 104 = .ok (.ireturn, 1) := by decide +kernel
theorem dX9_count_105 : decode cX9_count 105 = .ok (.aload_n 0, 1) := by decide +kernel
theorem dX9_count_106 : decode cX9_count 106 = .ok (.getfield 164, 3) := by decide +kernel
theorem dX9_count_109 : decode cX9_count 109 = .ok (.ireturn, 1) := by decide +kernel
theorem dX9_count_110 : decode cX9_count 110 = .ok (.aload_n 0, 1) := by decide +kernel
theorem dX9_count_111 : decode cX9_count 111 = .ok (.getfield 271, 3) := by decide +kernel
theorem dX9_count_114 : decode cX9_count 114 = .ok (.ireturn, 1) := by decide +kernel
theorem dX9_count_115 : decode cX9_count 115 = .ok (.iconst (-1), 1) := by decide +kernel
theorem dX9_count_116 : decode cX9_count 116 = .ok (.ireturn, 1) := by decide +kernel
theorem dX9_status_0 : decode cX9_status 0 = .ok (.aload_n 0, 1) := by decide +kernel
theorem dX9_status_1 : decode cX9_status 1 = .ok (.iconst 0, 1) := by decide +kernel
theorem dX9_status_2 : decode cX9_status 2 = .ok (.putfield 123, 3) := by decide +kernel
theorem dX9_status_5 : decode cX9_status 5 = .ok (.aload_n 0, 1) := by decide +kernel
theorem dX9_status_6 : decode cX9_status 6 = .ok (.getfield 126, 3) := by decide +kernel
theorem dX9_status_9 : decode cX9_status 9 = .ok (.ireturn, 1) := by decide +kernel
