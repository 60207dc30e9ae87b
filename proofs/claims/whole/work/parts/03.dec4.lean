theorem dX12_init_0 : decode cX12_init 0 = .ok (.aload_n 0, 1) := by decide +kernel
theorem dX12_init_1 : decode cX12_init 1 = .ok (.invokespecial 1, 3) := by decide +kernel
theorem dX12_init_4 : decode cX12_init 4 = .ok (.aload_n 0, 1) := by decide +kernel
theorem dX12_init_5 : decode cX12_init 5 = .ok (.bipush 16, 2) := by decide +kernel
theorem dX12_init_7 : decode cX12_init 7 = .ok (.newarray .int, 2) := by decide +kernel
theorem dX12_init_9 : decode cX12_init 9 = .ok (.putfield 7, 3) := by decide +kernel
theorem dX12_init_12 : decode cX12_init 12 = .ok (.aload_n 0, 1) := by decide +kernel
theorem dX12_init_13 : decode cX12_init 13 = .ok (.bipush 112, 2) := by decide +kernel
theorem dX12_init_15 : decode cX12_init 15 = .ok (.newarray .int, 2) := by decide +kernel
theorem dX12_init_17 : decode cX12_init 17 = .ok (.putfield 13, 3) := by decide +kernel
theorem dX12_init_20 : decode cX12_init 20 = .ok (.aload_n 0, 1) := by decide +kernel
theorem dX12_init_21 : decode cX12_init 21 = .ok (.sipush 1344, 3) := by decide +kernel
theorem dX12_init_24 : decode cX12_init 24 = .ok (.newarray .int, 2) := by decide +kernel
theorem dX12_init_26 : decode cX12_init 26 = .ok (.putfield 16, 3) := by decide +kernel
theorem dX12_init_29 : decode cX12_init 29 = .ok (.aload_n 0, 1) := by decide +kernel
theorem dX12_init_30 : decode cX12_init 30 = .ok (.bipush 16, 2) := by decide +kernel
theorem dX12_init_32 : decode cX12_init 32 = .ok (.newarray .int, 2) := by decide +kernel
theorem dX12_init_34 : decode cX12_init 34 = .ok (.putfield 19, 3) := by decide +kernel
theorem dX12_init_37 : decode cX12_init 37 = .ok (.aload_n 0, 1) := by decide +kernel
theorem dX12_init_38 : decode cX12_init 38 = .ok (.bipush 16, 2) := by decide +kernel
theorem dX12_init_40 : decode cX12_init 40 = .ok (.newarray .int, 2) := by decide +kernel
theorem dX12_init_42 : decode cX12_init 42 = .ok (.putfield 22, 3) := by decide +kernel
theorem dX12_init_45 : decode cX12_init 45 = .ok (.aload_n 0, 1) := by decide +kernel
theorem dX12_init_46 : decode cX12_init 46 = .ok (.bipush 16, 2) := by decide +kernel
theorem dX12_init_48 : decode cX12_init 48 = .ok (.newarray .int, 2) := by decide +kernel
theorem dX12_init_50 : decode cX12_init 50 = .ok (.putfield 25, 3) := by decide +kernel
theorem dX12_init_53 : decode cX12_init 53 = .ok (.aload_n 0, 1) := by decide +kernel
theorem dX12_init_54 : decode cX12_init 54 = .ok (.bipush 60, 2) := by decide +kernel
theorem dX12_init_56 : decode cX12_init 56 = .ok (.newarray .int, 2) := by decide +kernel
theorem dX12_init_58 : decode cX12_init 58 = .ok (.putfield 28, 3) := by decide +kernel
theorem dX12_init_61 : decode cX12_init 61 = .ok (.aload_n 0, 1) := by decide +kernel
theorem dX12_init_62 : decode cX12_init 62 = .ok (.bipush 60, 2) := by decide +kernel
theorem dX12_init_64 : decode cX12_init 64 = .ok (.newarray .int, 2) := by decide +kernel
theorem dX12_init_66 : decode cX12_init 66 = .ok (.putfield 31, 3) := by decide +kernel
theorem dX12_init_69 : decode cX12_init 69 = .ok (.aload_n 0, 1) := by decide +kernel
theorem dX12_init_70 : decode cX12_init 70 = .ok (.bipush 60, 2) := by decide +kernel
theorem dX12_init_72 : decode cX12_init 72 = .ok (.newarray .int, 2) := by decide +kernel
theorem dX12_init_74 : decode cX12_init 74 = .ok (.putfield 34, 3) := by decide +kernel
theorem dX12_init_77 : decode cX12_init 77 = .ok (.aload_n 0, 1) := by decide +kernel
theorem dX12_init_78 : decode cX12_init 78 = .ok (.bipush 60, 2) := by decide +kernel
theorem dX12_init_80 : decode cX12_init 80 = .ok (.newarray .int, 2) := by decide +kernel
theorem dX12_init_82 : decode cX12_init 82 = .ok (.putfield 37, 3) := by decide +kernel
theorem dX12_init_85 : decode cX12_init 85 = .ok (.aload_n 0, 1) := by decide +kernel
theorem dX12_init_86 : decode cX12_init 86 = .ok (.bipush 60, 2) := by decide +kernel
theorem dX12_init_88 : decode cX12_init 88 = .ok (.newarray .boolean, 2) := by decide +kernel
theorem dX12_init_90 : decode cX12_init 90 = .ok (.putfield 40, 3) := by decide +kernel
theorem dX12_init_93 : decode cX12_init 93 = .ok (.aload_n 0, 1) := by decide +kernel
theorem dX12_init_94 : decode cX12_init 94 = .ok (.sipush 600, 3) := by decide +kernel
theorem dX12_init_97 : decode cX12_init 97 = .ok (.newarray .int, 2) := by decide +kernel
theorem dX12_init_99 : decode cX12_init 99 = .ok (.putfield 44, 3) := by decide +kernel
theorem dX12_init_102 : decode cX12_init 102 = .ok (.aload_n 0, 1) := by decide +kernel
theorem dX12_init_103 : decode cX12_init 103 = .ok (.iconst (-1), 1) := by decide +kernel
theorem dX12_init_104 : decode cX12_init 104 = .ok (.putfield 47, 3) := by decide +kernel
theorem dX12_init_107 : decode cX12_init 107 = .ok (.aload_n 0, 1) := by decide +kernel
theorem dX12_init_108 : decode cX12_init 108 = .ok (.bipush 102, 2) := by decide +kernel
theorem dX12_init_110 : decode cX12_init 110 = .ok (.newarray .int, 2) := by decide +kernel
theorem dX12_init_112 : decode cX12_init 112 = .ok (.putfield 51, 3) := by decide +kernel
theorem dX12_init_115 : decode cX12_init 115 = .ok (.aload_n 0, 1) := by decide +kernel
theorem dX12_init_116 : decode cX12_init 116 = .ok (.bipush 30, 2) := by decide +kernel
theorem dX12_init_118 : decode cX12_init 118 = .ok (.putfield 54, 3) := by decide +kernel
theorem dX12_init_121 : decode cX12_init 121 = .ok (.aload_n 0, 1) := by decide +kernel
theorem dX12_init_122 : decode cX12_init 122 = .ok (.bipush 16, 2) := by decide +kernel
theorem dX12_init_124 : decode cX12_init 124 = .ok (.newarray .int, 2) := by decide +kernel
theorem dX12_init_126 : decode cX12_init 126 = .ok (.putfield 57, 3) := by decide +kernel
theorem dX12_init_129 : decode cX12_init 129 = .ok (.aload_n 0, 1) := by decide +kernel
theorem dX12_init_130 : decode cX12_init 130 = .ok (.sipush 20000, 3) := by decide +kernel
theorem dX12_init_133 : decode cX12_init 133 = .ok (.newarray .int, 2) := by decide +kernel
theorem dX12_init_135 : decode cX12_init 135 = .ok (.putfield 60, 3) := by decide +kernel
theorem dX12_init_138 : decode cX12_init 138 = .ok (.aload_n 0, 1) := by decide +kernel
theorem dX12_init_139 : decode cX12_init 139 = .ok (.bipush 48, 2) := by decide +kernel
theorem dX12_init_141 : decode cX12_init 141 = .ok (.newarray .int, 2) := by decide +kernel
theorem dX12_init_143 : decode cX12_init 143 = .ok (.putfield 63, 3) := by decide +kernel
theorem dX12_init_146 : decode cX12_init 146 = .ok (.aload_n 0, 1) := by decide +kernel
theorem dX12_init_147 : decode cX12_init 147 = .ok (.bipush 102, 2) := by decide +kernel
theorem dX12_init_149 : decode cX12_init 149 = .ok (.newarray .int, 2) := by decide +kernel
theorem dX12_init_151 : decode cX12_init 151 = .ok (.putfield 66, 3) := by decide +kernel
theorem dX12_init_154 : decode cX12_init 154 = .ok (.aload_n 0, 1) := by decide +kernel
theorem dX12_init_155 : decode cX12_init 155 = .ok (.bipush 10, 2) := by decide +kernel
theorem dX12_init_157 : decode cX12_init 157 = .ok (.newarray .int, 2) := by decide +kernel
theorem dX12_init_159 : decode cX12_init 159 = .ok (.putfield 69, 3) := by decide +kernel
theorem dX12_init_162 : decode cX12_init 162 = .ok (.aload_n 0, 1) := by decide +kernel
theorem dX12_init_163 : decode cX12_init 163 = .ok (.bipush 10, 2) := by decide +kernel
theorem dX12_init_165 : decode cX12_init 165 = .ok (.newarray .int, 2) := by decide +kernel
theorem dX12_init_167 : decode cX12_init 167 = .ok (.putfield 72, 3) := by decide +kernel
theorem dX12_init_170 : decode cX12_init 170 = .ok (.aload_n 0, 1) := by decide +kernel
theorem dX12_init_171 : decode cX12_init 171 = .ok (.bipush 10, 2) := by decide +kernel
theorem dX12_init_173 : decode cX12_init 173 = .ok (.newarray .int, 2) := by decide +kernel
theorem dX12_init_175 : decode cX12_init 175 = .ok (.putfield 75, 3) := by decide +kernel
theorem dX12_init_178 : decode cX12_init 178 = .ok (.aload_n 0, 1) := by decide +kernel
theorem dX12_init_179 : decode cX12_init 179 = .ok (.sipush 3417, 3) := by decide +kernel
theorem dX12_init_182 : decode cX12_init 182 = .ok (.newarray .int, 2) := by decide +kernel
theorem dX12_init_184 : decode cX12_init 184 = .ok (.putfield 78, 3) := by decide +kernel
theorem dX12_init_187 : decode cX12_init 187 = .ok (.aload_n 0, 1) := by decide +kernel
theorem dX12_init_188 : decode cX12_init 188 = .ok (.sipush 3417, 3) := by decide +kernel
theorem dX12_init_191 : decode cX12_init 191 = .ok (.newarray .int, 2) := by decide +kernel
theorem dX12_init_193 : decode cX12_init 193 = .ok (.putfield 81, 3) := by decide +kernel
theorem dX12_init_196 : decode cX12_init 196 = .ok (.aload_n 0, 1) := by decide +kernel
theorem dX12_init_197 : decode cX12_init 197 = .ok (.sipush 3417, 3) := by decide +kernel
theorem dX12_init_200 : decode cX12_init 200 = .ok (.newarray .int, 2) := by decide +kernel
theorem dX12_init_202 : decode cX12_init 202 = .ok (.putfield 84, 3) := by decide +kernel
theorem dX12_init_205 : decode cX12_init 205 = .ok (.aload_n 0, 1) := by decide +kernel
theorem dX12_init_206 : decode cX12_init 206 = .ok (.bipush 20, 2) := by decide +kernel
theorem dX12_init_208 : decode cX12_init 208 = .ok (.newarray .int, 2) := by decide +kernel
theorem dX12_init_210 : decode cX12_init 210 = .ok (.putfield 87, 3) := by decide +kernel
theorem dX12_init_213 : decode cX12_init 213 = .ok (.aload_n 0, 1) := by decide +kernel
theorem dX12_init_214 : decode cX12_init 214 = .ok (.bipush 20, 2) := by decide +kernel
theorem dX12_init_216 : decode cX12_init 216 = .ok (.newarray .int, 2) := by decide +kernel
theorem dX12_init_218 : decode cX12_init 218 = .ok (.putfield 90, 3) := by decide +kernel
theorem dX12_init_221 : decode cX12_init 221 = .ok (.aload_n 0, 1) := by decide +kernel
theorem dX12_init_222 : decode cX12_init 222 = .ok (.sipush 441, 3) := by decide +kernel
theorem dX12_init_225 : decode cX12_init 225 = .ok (.newarray .int, 2) := by decide +kernel
theorem dX12_init_227 : decode cX12_init 227 = .ok (.putfield 93, 3) := by decide +kernel
theorem dX12_init_230 : decode cX12_init 230 = .ok (.aload_n 0, 1) := by decide +kernel
theorem dX12_init_231 : decode cX12_init 231 = .ok (.bipush 6, 2) := by decide +kernel
theorem dX12_init_233 : decode cX12_init 233 = .ok (.newarray .int, 2) := by decide +kernel
theorem dX12_init_235 : decode cX12_init 235 = .ok (.putfield 96, 3) := by decide +kernel
theorem dX12_init_238 : decode cX12_init 238 = .ok (.aload_n 0, 1) := by decide +kernel
theorem dX12_init_239 : decode cX12_init 239 = .ok (.iconst 3, 1) := by decide +kernel
theorem dX12_init_240 : decode cX12_init 240 = .ok (.newarray .int, 2) := by decide +kernel
theorem dX12_init_242 : decode cX12_init 242 = .ok (.putfield 99, 3) := by decide +kernel
theorem dX12_init_245 : decode cX12_init 245 = .ok (.aload_n 0, 1) := by decide +kernel
theorem dX12_init_246 : decode cX12_init 246 = .ok (.bipush 48, 2) := by decide +kernel
theorem dX12_init_248 : decode cX12_init 248 = .ok (.newarray .int, 2) := by decide +kernel
theorem dX12_init_250 : decode cX12_init 250 = .ok (.putfield 102, 3) := by decide +kernel
theorem dX12_init_253 : decode cX12_init 253 = .ok (.aload_n 0, 1) := by decide +kernel
theorem dX12_init_254 : decode cX12_init 254 = .ok (.sipush 336, 3) := by decide +kernel
theorem dX12_init_257 : decode cX12_init 257 = .ok (.newarray .int, 2) := by decide +kernel
theorem dX12_init_259 : decode cX12_init 259 = .ok (.putfield 105, 3) := by decide +kernel
theorem dX12_init_262 : decode cX12_init 262 = .ok (.aload_n 0, 1) := by decide +kernel
theorem dX12_init_263 : decode cX12_init 263 = .ok (.sipush 4032, 3) := by decide +kernel
theorem dX12_init_266 : decode cX12_init 266 = .ok (.newarray .int, 2) := by decide +kernel
theorem dX12_init_268 : decode cX12_init 268 = .ok (.putfield 108, 3) := by decide +kernel
theorem dX12_init_271 : decode cX12_init 271 = .ok (.aload_n 0, 1) := by decide +kernel
theorem dX12_init_272 : decode cX12_init 272 = .ok (.bipush 48, 2) := by decide +kernel
theorem dX12_init_274 : decode cX12_init 274 = .ok (.newarray .int, 2) := by decide +kernel
theorem dX12_init_276 : decode cX12_init 276 = .ok (.putfield 111, 3) := by decide +kernel
theorem dX12_init_279 : decode cX12_init 279 = .ok (.aload_n 0, 1) := by decide +kernel
theorem dX12_init_280 : decode cX12_init 280 = .ok (.bipush 48, 2) := by decide +kernel
theorem dX12_init_282 : decode cX12_init 282 = .ok (.newarray .int, 2) := by decide +kernel
theorem dX12_init_284 : decode cX12_init 284 = .ok (.putfield 114, 3) := by decide +kernel
theorem dX12_init_287 : decode cX12_init 287 = .ok (.aload_n 0, 1) := by decide +kernel
theorem dX12_init_288 : decode cX12_init 288 = .ok (.bipush 48, 2) := by decide +kernel
theorem dX12_init_290 : decode cX12_init 290 = .ok (.newarray .int, 2) := by decide +kernel
theorem dX12_init_292 : decode cX12_init 292 = .ok (.putfield 117, 3) := by decide +kernel
theorem dX12_init_295 : decode cX12_init 295 = .ok (.aload_n 0, 1) := by decide +kernel
theorem dX12_init_296 : decode cX12_init 296 = .ok (.iconst 3, 1) := by decide +kernel
theorem dX12_init_297 : decode cX12_init 297 = .ok (.newarray .int, 2) := by decide +kernel
theorem dX12_init_299 : decode cX12_init 299 = .ok (.putfield 120, 3) := by decide +kernel
theorem dX12_init_302 : decode cX12_init 302 = .ok (.aload_n 0, 1) := by decide +kernel
theorem dX12_init_303 : decode cX12_init 303 = .ok (.sipush 180, 3) := by decide +kernel
theorem dX12_init_306 : decode cX12_init 306 = .ok (.newarray .int, 2) := by decide +kernel
theorem dX12_init_308 : decode cX12_init 308 = .ok (.putfield 123, 3) := by decide +kernel
theorem dX12_init_311 : decode cX12_init 311 = .ok (.aload_n 0, 1) := by decide +kernel
theorem dX12_init_312 : decode cX12_init 312 = .ok (.sipush 180, 3) := by decide +kernel
theorem dX12_init_315 : decode cX12_init 315 = .ok (.newarray .int, 2) := by decide +kernel
theorem dX12_init_317 : decode cX12_init 317 = .ok (.putfield 126, 3) := by decide +kernel
theorem dX12_init_320 : decode cX12_init 320 = .ok (.aload_n 0, 1) := by decide +kernel
theorem dX12_init_321 : decode cX12_init 321 = .ok (.sipush 180, 3) := by decide +kernel
theorem dX12_init_324 : decode cX12_init 324 = .ok (.newarray .int, 2) := by decide +kernel
theorem dX12_init_326 : decode cX12_init 326 = .ok (.putfield 129, 3) := by decide +kernel
theorem dX12_init_329 : decode cX12_init 329 = .ok (.aload_n 0, 1) := by decide +kernel
theorem dX12_init_330 : decode cX12_init 330 = .ok (.sipush 180, 3) := by decide +kernel
theorem dX12_init_333 : decode cX12_init 333 = .ok (.newarray .int, 2) := by decide +kernel
theorem dX12_init_335 : decode cX12_init 335 = .ok (.putfield 132, 3) := by decide +kernel
theorem dX12_init_338 : decode cX12_init 338 = .ok (.aload_n 0, 1) := by decide +kernel
theorem dX12_init_339 : decode cX12_init 339 = .ok (.sipush 180, 3) := by decide +kernel
theorem dX12_init_342 : decode cX12_init 342 = .ok (.newarray .boolean, 2) := by decide +kernel
theorem dX12_init_344 : decode cX12_init 344 = .ok (.putfield 135, 3) := by decide +kernel
theorem dX12_init_347 : decode cX12_init 347 = .ok (.aload_n 0, 1) := by decide +kernel
theorem dX12_init_348 : decode cX12_init 348 = .ok (.iconst 3, 1) := by decide +kernel
theorem dX12_init_349 : decode cX12_init 349 = .ok (.newarray .boolean, 2) := by decide +kernel
theorem dX12_init_351 : decode cX12_init 351 = .ok (.putfield 138, 3) := by decide +kernel
theorem dX12_init_354 : decode cX12_init 354 = .ok (.aload_n 0, 1) := by decide +kernel
theorem dX12_init_355 : decode cX12_init 355 = .ok (.bipush 102, 2) := by decide +kernel
theorem dX12_init_357 : decode cX12_init 357 = .ok (.newarray .int, 2) := by decide +kernel
theorem dX12_init_359 : decode cX12_init 359 = .ok (.putfield 141, 3) := by decide +kernel
theorem dX12_init_362 : decode cX12_init 362 = .ok (.return_, 1) := by decide +kernel
theorem dX12_in_0 : decode cX12_in 0 = .ok (.lload_n 0, 1) := by decide +kernel
theorem dX12_in_1 : decode cX12_in 1 = .ok (.lload_n 2, 1) := by decide +kernel
theorem dX12_in_2 : decode cX12_in 2 = .ok (.lcmp, 1) := by decide +kernel
theorem dX12_in_3 : decode cX12_in 3 = .ok (.ifCond .lt 14, 3) := by decide +kernel
theorem dX12_in_6 : decode cX12_in 6 = .ok (.lload_n 0, 1) := by decide +kernel
theorem dX12_in_7 : decode cX12_in 7 = .ok (.lload 4, 2) := by decide +kernel
theorem dX12_in_9 : decode cX12_in 9 = .ok (.lcmp, 1) := by decide +kernel
theorem dX12_in_10 : decode cX12_in 10 = .ok (.ifCond .gt 7, 3) := by decide +kernel
theorem dX12_in_13 : decode cX12_in 13 = .ok (.iconst 1, 1) := by decide +kernel
theorem dX12_in_14 : decode cX12_in 14 = .ok (.goto 4, 3) := by decide +kernel
theorem dX12_in_17 : decode cX12_in 17 = .ok (.iconst 0, 1) := by decide +kernel
theorem dX12_in_18 : decode cX12_in 18 = .ok (.ireturn, 1) := by decide +kernel
theorem dX12_one_0 : decode cX12_one 0 = .ok (.iload_n 0, 1) := by decide +kernel
theorem dX12_one_1 : decode cX12_one 1 = .ok (.ifCond .eq 7, 3) := by decide +kernel
theorem dX12_one_4 : decode cX12_one 4 = .ok (.iconst 1, 1) := by decide +kernel
theorem dX12_one_5 : decode cX12_one 5 = .ok (.goto 4, 3) := by decide +kernel
theorem dX12_one_8 : decode cX12_one 8 = .ok (.iconst 0, 1) := by decide +kernel
theorem dX12_one_9 : decode cX12_one 9 = .ok (.ireturn, 1) := by decide +kernel
theorem dX12_has_0 : decode cX12_has 0 = .ok (.iload_n 0, 1) := by decide +kernel
theorem dX12_has_1 : decode cX12_has 1 = .ok (.iload_n 1, 1) := by decide +kernel
theorem dX12_has_2 : decode cX12_has 2 = .ok (.ishr, 1) := by decide +kernel
theorem dX12_has_3 : decode cX12_has 3 = .ok (.iconst 1, 1) := by decide +kernel
theorem dX12_has_4 : decode cX12_has 4 = .ok (.iand, 1) := by decide +kernel
theorem dX12_has_5 : decode cX12_has 5 = .ok (.iconst 1, 1) := by decide +kernel
theorem dX12_has_6 : decode cX12_has 6 = .ok (.if_icmp .ne 7, 3) := by decide +kernel
theorem dX12_has_9 : decode cX12_has 9 = .ok (.iconst 1, 1) := by decide +kernel
theorem dX12_has_10 : decode cX12_has 10 = .ok (.goto 4, 3) := by decide +kernel
theorem dX12_has_13 : decode cX12_has 13 = .ok (.iconst 0, 1) := by decide +kernel
theorem dX12_has_14 : decode cX12_has 14 = .ok (.ireturn, 1) := by decide +kernel
theorem dX12_slot_0 : decode cX12_slot 0 = .ok (.bipush 7, 2) := by decide +kernel
theorem dX12_slot_2 : decode cX12_slot 2 = .ok (.iload_n 0, 1) := by decide +kernel
theorem dX12_slot_3 : decode cX12_slot 3 = .ok (.imul, 1) := by decide +kernel
theorem dX12_slot_4 : decode cX12_slot 4 = .ok (.iconst 1, 1) := by decide +kernel
theorem dX12_slot_5 : decode cX12_slot 5 = .ok (.iadd, 1) := by decide +kernel
theorem dX12_slot_6 : decode cX12_slot 6 = .ok (.iload_n 1, 1) := by decide +kernel
theorem dX12_slot_7 : decode cX12_slot 7 = .ok (.iadd, 1) := by decide +kernel
theorem dX12_slot_8 : decode cX12_slot 8 = .ok (.ireturn, 1) := by decide +kernel
theorem dX12_feed_0 : decode cX12_feed 0 = .ok (.iload_n 1, 1) := by decide +kernel
theorem dX12_feed_1 : decode cX12_feed 1 = .ok (.i2l, 1) := by decide +kernel
theorem dX12_feed_2 : decode cX12_feed 2 = .ok (.lconst 1, 1) := by decide +kernel
theorem dX12_feed_3 : decode cX12_feed 3 = .ok (.ldc2_w 144, 3) := by decide +kernel
theorem dX12_feed_6 : decode cX12_feed 6 = .ok (.invokestatic 146, 3) := by decide +kernel
theorem dX12_feed_9 : decode cX12_feed 9 = .ok (.ifCond .ne 7, 3) := by decide +kernel
theorem dX12_feed_12 : decode cX12_feed 12 = .ok (.sipush (-1002), 3) := by decide +kernel
theorem dX12_feed_15 : decode cX12_feed 15 = .ok (.ireturn, 1) := by decide +kernel
theorem dX12_feed_16 : decode cX12_feed 16 = .ok (.aload_n 0, 1) := by decide +kernel
theorem dX12_feed_17 : decode cX12_feed 17 = .ok (.getfield 150, 3) := by decide +kernel
theorem dX12_feed_20 : decode cX12_feed 20 = .ok (.iload_n 1, 1) := by decide +kernel
theorem dX12_feed_21 : decode cX12_feed 21 = .ok (.iadd, 1) := by decide +kernel
theorem dX12_feed_22 : decode cX12_feed 22 = .ok (.sipush 600, 3) := by decide +kernel
theorem dX12_feed_25 : decode cX12_feed 25 = .ok (.if_icmp .le 7, 3) := by decide +kernel
theorem dX12_feed_28 : decode cX12_feed 28 = .ok (.sipush (-1004), 3) := by decide +kernel
theorem dX12_feed_31 : decode cX12_feed 31 = .ok (.ireturn, 1) := by decide +kernel
theorem dX12_feed_32 : decode cX12_feed 32 = .ok (.iload_n 1, 1) := by decide +kernel
theorem dX12_feed_33 : decode cX12_feed 33 = .ok (.iconst 1, 1) := by decide +kernel
theorem dX12_feed_34 : decode cX12_feed 34 = .ok (.isub, 1) := by decide +kernel
theorem dX12_feed_35 : decode cX12_feed 35 = .ok (.istore 4, 2) := by decide +kernel
theorem dX12_feed_37 : decode cX12_feed 37 = .ok (.iload 4, 2) := by decide +kernel
theorem dX12_feed_39 : decode cX12_feed 39 = .ok (.ifCond .lt 40, 3) := by decide +kernel
theorem dX12_feed_42 : decode cX12_feed 42 = .ok (.aload_n 0, 1) := by decide +kernel
theorem dX12_feed_43 : decode cX12_feed 43 = .ok (.getfield 44, 3) := by decide +kernel
theorem dX12_feed_46 : decode cX12_feed 46 = .ok (.aload_n 0, 1) := by decide +kernel
theorem dX12_feed_47 : decode cX12_feed 47 = .ok (.getfield 150, 3) := by decide +kernel
theorem dX12_feed_50 : decode cX12_feed 50 = .ok (.lload_n 2, 1) := by decide +kernel
theorem dX12_feed_51 : decode cX12_feed 51 = .ok (.bipush 8, 2) := by decide +kernel
theorem dX12_feed_53 : decode cX12_feed 53 = .ok (.iload 4, 2) := by decide +kernel
theorem dX12_feed_55 : decode cX12_feed 55 = .ok (.imul, 1) := by decide +kernel
theorem dX12_feed_56 : decode cX12_feed 56 = .ok (.lshr, 1) := by decide +kernel
theorem dX12_feed_57 : decode cX12_feed 57 = .ok (.ldc2_w 153, 3) := by decide +kernel
theorem dX12_feed_60 : decode cX12_feed 60 = .ok (.land, 1) := by decide +kernel
theorem dX12_feed_61 : decode cX12_feed 61 = .ok (.l2i, 1) := by decide +kernel
theorem dX12_feed_62 : decode cX12_feed 62 = .ok (.iastore, 1) := by decide +kernel
theorem dX12_feed_63 : decode cX12_feed 63 = .ok (.aload_n 0, 1) := by decide +kernel
theorem dX12_feed_64 : decode cX12_feed 64 = .ok (.dup, 1) := by decide +kernel
theorem dX12_feed_65 : decode cX12_feed 65 = .ok (.getfield 150, 3) := by decide +kernel
theorem dX12_feed_68 : decode cX12_feed 68 = .ok (.iconst 1, 1) := by decide +kernel
theorem dX12_feed_69 : decode cX12_feed 69 = .ok (.iadd, 1) := by decide +kernel
theorem dX12_feed_70 : decode cX12_feed 70 = .ok (.putfield 150, 3) := by decide +kernel
theorem dX12_feed_73 : decode cX12_feed 73 = .ok (.iinc 4 (-1), 3) := by decide +kernel
theorem dX12_feed_76 : decode cX12_feed 76 = .ok (.goto (-39), 3) := by decide +kernel
theorem dX12_feed_79 : decode cX12_feed 79 = .ok (.aload_n 0, 1) := by decide +kernel
theorem dX12_feed_80 : decode cX12_feed 80 = .ok (.getfield 150, 3) := by decide +kernel
theorem dX12_feed_83 : decode cX12_feed 83 = .ok (.ireturn, 1) := by decide +kernel
theorem dX12_here_0 : decode cX12_here 0 = .ok (.aload_n 0, 1) := by decide +kernel
theorem dX12_here_1 : decode cX12_here 1 = .ok (.getfield 155, 3) := by decide +kernel
theorem dX12_here_4 : decode cX12_here 4 = .ok (.aload_n 0, 1) := by decide +kernel
theorem dX12_here_5 : decode cX12_here 5 = .ok (.getfield 150, 3) := by decide +kernel
theorem dX12_here_8 : decode cX12_here 8 = .ok (.if_icmp .ge 30, 3) := by decide +kernel
theorem dX12_here_11 : decode cX12_here 11 = .ok (.aload_n 0, 1) := by decide +kernel
theorem dX12_here_12 : decode cX12_here 12 = .ok (.getfield 44, 3) := by decide +kernel
theorem dX12_here_15 : decode cX12_here 15 = .ok (.aload_n 0, 1) := by decide +kernel
theorem dX12_here_16 : decode cX12_here 16 = .ok (.getfield 155, 3) := by decide +kernel
theorem dX12_here_19 : decode cX12_here 19 = .ok (.iaload, 1) := by decide +kernel
theorem dX12_here_20 : decode cX12_here 20 = .ok (.bipush 32, 2) := by decide +kernel
theorem dX12_here_22 : decode cX12_here 22 = .ok (.if_icmp .ne 16, 3) := by decide +kernel
theorem dX12_here_25 : decode cX12_here 25 = .ok (.aload_n 0, 1) := by decide +kernel
theorem dX12_here_26 : decode cX12_here 26 = .ok (.dup, 1) := by decide +kernel
theorem dX12_here_27 : decode cX12_here 27 = .ok (.getfield 155, 3) := by decide +kernel
theorem dX12_here_30 : decode cX12_here 30 = .ok (.iconst 1, 1) := by decide +kernel
theorem dX12_here_31 : decode cX12_here 31 = .ok (.iadd, 1) := by decide +kernel
theorem dX12_here_32 : decode cX12_here 32 = .ok (.putfield 155, 3) := by decide +kernel
theorem dX12_here_35 : decode cX12_here 35 = .ok (.goto (-35), 3) := by decide +kernel
theorem dX12_here_38 : decode cX12_here 38 = .ok (.aload_n 0, 1) := by decide +kernel
theorem dX12_here_39 : decode cX12_here 39 = .ok (.getfield 155, 3) := by decide +kernel
theorem dX12_here_42 : decode cX12_here 42 = .ok (.aload_n 0, 1) := by decide +kernel
theorem dX12_here_43 : decode cX12_here 43 = .ok (.getfield 150, 3) := by decide +kernel
theorem dX12_here_46 : decode cX12_here 46 = .ok (.if_icmp .ge 15, 3) := by decide +kernel
theorem dX12_here_49 : decode cX12_here 49 = .ok (.aload_n 0, 1) := by decide +kernel
theorem dX12_here_50 : decode cX12_here 50 = .ok (.getfield 44, 3) := by decide +kernel
theorem dX12_here_53 : decode cX12_here 53 = .ok (.aload_n 0, 1) := by decide +kernel
theorem dX12_here_54 : decode cX12_here 54 = .ok (.getfield 155, 3) := by decide +kernel
theorem dX12_here_57 : decode cX12_here 57 = .ok (.iaload, 1) := by decide +kernel
theorem dX12_here_58 : decode cX12_here 58 = .ok (.goto 4, 3) := by decide +kernel
theorem dX12_here_61 : decode cX12_here 61 = .ok (.iconst (-1), 1) := by decide +kernel
theorem dX12_here_62 : decode cX12_here 62 = .ok (.ireturn, 1) := by decide +kernel
theorem dX12_want_0 : decode cX12_want 0 = .ok (.iload_n 1, 1) := by decide +kernel
theorem dX12_want_1 : decode cX12_want 1 = .ok (.ifCond .ne 20, 3) := by decide +kernel
theorem dX12_want_4 : decode cX12_want 4 = .ok (.aload_n 0, 1) := by decide +kernel
theorem dX12_want_5 : decode cX12_want 5 = .ok (.getfield 158, 3) := by decide +kernel
theorem dX12_want_8 : decode cX12_want 8 = .ok (.ifCond .ne 13, 3) := by decide +kernel
theorem dX12_want_11 : decode cX12_want 11 = .ok (.aload_n 0, 1) := by decide +kernel
theorem dX12_want_12 : decode cX12_want 12 = .ok (.iload_n 2, 1) := by decide +kernel
theorem dX12_want_13 : decode cX12_want 13 = .ok (.putfield 158, 3) := by decide +kernel
theorem dX12_want_16 : decode cX12_want 16 = .ok (.aload_n 0, 1) := by decide +kernel
theorem dX12_want_17 : decode cX12_want 17 = .ok (.iload_n 3, 1) := by decide +kernel
theorem dX12_want_18 : decode cX12_want 18 = .ok (.putfield 47, 3) := by decide +kernel
theorem dX12_want_21 : decode cX12_want 21 = .ok (.aload_n 0, 1) := by decide +kernel
theorem dX12_want_22 : decode cX12_want 22 = .ok (.getfield 158, 3) := by decide +kernel
theorem dX12_want_25 : decode cX12_want 25 = .ok (.ifCond .ne 7, 3) := by decide +kernel
theorem dX12_want_28 : decode cX12_want 28 = .ok (.iconst 1, 1) := by decide +kernel
theorem dX12_want_29 : decode cX12_want 29 = .ok (.goto 4, 3) := by decide +kernel
theorem dX12_want_32 : decode cX12_want 32 = .ok (.iconst 0, 1) := by decide +kernel
theorem dX12_want_33 : decode cX12_want 33 = .ok (.ireturn, 1) := by decide +kernel
theorem dX12_isLetter_0 : decode cX12_isLetter 0 = .ok (.iload_n 0, 1) := by decide +kernel
theorem dX12_isLetter_1 : decode cX12_isLetter 1 = .ok (.i2l, 1) := by decide +kernel
theorem dX12_isLetter_2 : decode cX12_isLetter 2 = .ok (.ldc2_w 161, 3) := by decide +kernel
theorem dX12_isLetter_5 : decode cX12_isLetter 5 = .ok (.ldc2_w 163, 3) := by decide +kernel
theorem dX12_isLetter_8 : decode cX12_isLetter 8 = .ok (.invokestatic 146, 3) := by decide +kernel
theorem dX12_isLetter_11 : decode cX12_isLetter 11 = .ok (.ifCond .ne 9, 3) := by decide +kernel
theorem dX12_isLetter_14 : decode cX12_isLetter 14 = .ok (.iload_n 0, 1) := by decide +kernel
theorem dX12_isLetter_15 : decode cX12_isLetter 15 = .ok (.bipush 95, 2) := by decide +kernel
theorem dX12_isLetter_17 : decode cX12_isLetter 17 = .ok (.if_icmp .ne 7, 3) := by decide +kernel
theorem dX12_isLetter_20 : decode cX12_isLetter 20 = .ok (.iconst 1, 1) := by decide +kernel
theorem dX12_isLetter_21 : decode cX12_isLetter 21 = .ok (.goto 4, 3) := by decide +kernel
theorem dX12_isLetter_24 : decode cX12_isLetter 24 = .ok (.iconst 0, 1) := by decide +kernel
theorem dX12_isLetter_25 : decode cX12_isLetter 25 = .ok (.ireturn, 1) := by decide +kernel
theorem dX12_takeWord_0 : decode cX12_takeWord 0 = .ok (.aload_n 0, 1) := by decide +kernel
theorem dX12_takeWord_1 : decode cX12_takeWord 1 = .ok (.invokevirtual 165, 3) := by decide +kernel
theorem dX12_takeWord_4 : decode cX12_takeWord 4 = .ok (.istore_n 1, 1) := by decide +kernel
theorem dX12_takeWord_5 : decode cX12_takeWord 5 = .ok (.aload_n 0, 1) := by decide +kernel
theorem dX12_takeWord_6 : decode cX12_takeWord 6 = .ok (.aload_n 0, 1) := by decide +kernel
theorem dX12_takeWord_7 : decode cX12_takeWord 7 = .ok (.getfield 155, 3) := by decide +kernel
theorem dX12_takeWord_10 : decode cX12_takeWord 10 = .ok (.putfield 169, 3) := by decide +kernel
theorem dX12_takeWord_13 : decode cX12_takeWord 13 = .ok (.aload_n 0, 1) := by decide +kernel
theorem dX12_takeWord_14 : decode cX12_takeWord 14 = .ok (.getfield 155, 3) := by decide +kernel
theorem dX12_takeWord_17 : decode cX12_takeWord 17 = .ok (.aload_n 0, 1) := by decide +kernel
theorem dX12_takeWord_18 : decode cX12_takeWord 18 = .ok (.getfield 150, 3) := by decide +kernel
theorem dX12_takeWord_21 : decode cX12_takeWord 21 = .ok (.if_icmp .ge 31, 3) := by decide +kernel
theorem dX12_takeWord_24 : decode cX12_takeWord 24 = .ok (.aload_n 0, 1) := by decide +kernel
theorem dX12_takeWord_25 : decode cX12_takeWord 25 = .ok (.getfield 44, 3) := by decide +kernel
theorem dX12_takeWord_28 : decode cX12_takeWord 28 = .ok (.aload_n 0, 1) := by decide +kernel
theorem dX12_takeWord_29 : decode cX12_takeWord 29 = .ok (.getfield 155, 3) := by decide +kernel
theorem dX12_takeWord_32 : decode cX12_takeWord 32 = .ok (.iaload, 1) := by decide +kernel
theorem dX12_takeWord_33 : decode cX12_takeWord 33 = .ok (.invokestatic 172, 3) := by decide +kernel
theorem dX12_takeWord_36 : decode cX12_takeWord 36 = .ok (.ifCond .eq 16, 3) := by decide +kernel
theorem dX12_takeWord_39 : decode cX12_takeWord 39 = .ok (.aload_n 0, 1) := by decide +kernel
theorem dX12_takeWord_40 : decode cX12_takeWord 40 = .ok (.dup, 1) := by decide +kernel
theorem dX12_takeWord_41 : decode cX12_takeWord 41 = .ok (.getfield 155, 3) := by decide +kernel
theorem dX12_takeWord_44 : decode cX12_takeWord 44 = .ok (.iconst 1, 1) := by decide +kernel
theorem dX12_takeWord_45 : decode cX12_takeWord 45 = .ok (.iadd, 1) := by decide +kernel
theorem dX12_takeWord_46 : decode cX12_takeWord 46 = .ok (.putfield 155, 3) := by decide +kernel
theorem dX12_takeWord_49 : decode cX12_takeWord 49 = .ok (.goto (-36), 3) := by decide +kernel
theorem dX12_takeWord_52 : decode cX12_takeWord 52 = .ok (.aload_n 0, 1) := by decide +kernel
theorem dX12_takeWord_53 : decode cX12_takeWord 53 = .ok (.aload_n 0, 1) := by decide +kernel
theorem dX12_takeWord_54 : decode cX12_takeWord 54 = .ok (.getfield 155, 3) := by decide +kernel
theorem dX12_takeWord_57 : decode cX12_takeWord 57 = .ok (.aload_n 0, 1) := by decide +kernel
theorem dX12_takeWord_58 : decode cX12_takeWord 58 = .ok (.getfield 169, 3) := by decide +kernel
theorem dX12_takeWord_61 : decode cX12_takeWord 61 = .ok (.isub, 1) := by decide +kernel
theorem dX12_takeWord_62 : decode cX12_takeWord 62 = .ok (.putfield 176, 3) := by decide +kernel
theorem dX12_takeWord_65 : decode cX12_takeWord 65 = .ok (.return_, 1) := by decide +kernel
theorem dX12_isWord_0 : decode cX12_isWord 0 = .ok (.aload_n 0, 1) := by decide +kernel
theorem dX12_isWord_1 : decode cX12_isWord 1 = .ok (.getfield 176, 3) := by decide +kernel
theorem dX12_isWord_4 : decode cX12_isWord 4 = .ok (.iload_n 1, 1) := by decide +kernel
theorem dX12_isWord_5 : decode cX12_isWord 5 = .ok (.if_icmp .ne 7, 3) := by decide +kernel
theorem dX12_isWord_8 : decode cX12_isWord 8 = .ok (.iconst 1, 1) := by decide +kernel
theorem dX12_isWord_9 : decode cX12_isWord 9 = .ok (.goto 4, 3) := by decide +kernel
theorem dX12_isWord_12 : decode cX12_isWord 12 = .ok (.iconst 0, 1) := by decide +kernel
theorem dX12_isWord_13 : decode cX12_isWord 13 = .ok (.istore 7, 2) := by decide +kernel
theorem dX12_isWord_15 : decode cX12_isWord 15 = .ok (.iconst 0, 1) := by decide +kernel
theorem dX12_isWord_16 : decode cX12_isWord 16 = .ok (.istore 8, 2) := by decide +kernel
theorem dX12_isWord_18 : decode cX12_isWord 18 = .ok (.iload 8, 2) := by decide +kernel
theorem dX12_isWord_20 : decode cX12_isWord 20 = .ok (.iload_n 1, 1) := by decide +kernel
theorem dX12_isWord_21 : decode cX12_isWord 21 = .ok (.if_icmp .ge 79, 3) := by decide +kernel
theorem dX12_isWord_24 : decode cX12_isWord 24 = .ok (.iload 7, 2) := by decide +kernel
theorem dX12_isWord_26 : decode cX12_isWord 26 = .ok (.ifCond .eq 74, 3) := by decide +kernel
theorem dX12_isWord_29 : decode cX12_isWord 29 = .ok (.aload_n 0, 1) := by decide +kernel
theorem dX12_isWord_30 : decode cX12_isWord 30 = .ok (.getfield 44, 3) := by decide +kernel
theorem dX12_isWord_33 : decode cX12_isWord 33 = .ok (.aload_n 0, 1) := by decide +kernel
theorem dX12_isWord_34 : decode cX12_isWord 34 = .ok (.getfield 169, 3) := by decide +kernel
theorem dX12_isWord_37 : decode cX12_isWord 37 = .ok (.iload 8, 2) := by decide +kernel
theorem dX12_isWord_39 : decode cX12_isWord 39 = .ok (.iadd, 1) := by decide +kernel
theorem dX12_isWord_40 : decode cX12_isWord 40 = .ok (.iaload, 1) := by decide +kernel
theorem dX12_isWord_41 : decode cX12_isWord 41 = .ok (.iload 8, 2) := by decide +kernel
theorem dX12_isWord_43 : decode cX12_isWord 43 = .ok (.ifCond .ne 7, 3) := by decide +kernel
theorem dX12_isWord_46 : decode cX12_isWord 46 = .ok (.iload_n 2, 1) := by decide +kernel
theorem dX12_isWord_47 : decode cX12_isWord 47 = .ok (.goto 37, 3) := by decide +kernel
theorem dX12_isWord_50 : decode cX12_isWord 50 = .ok (.iload 8, 2) := by decide +kernel
theorem dX12_isWord_52 : decode cX12_isWord 52 = .ok (.iconst 1, 1) := by decide +kernel
theorem dX12_isWord_53 : decode cX12_isWord 53 = .ok (.if_icmp .ne 7, 3) := by decide +kernel
theorem dX12_isWord_56 : decode cX12_isWord 56 = .ok (.iload_n 3, 1) := by decide +kernel
theorem dX12_isWord_57 : decode cX12_isWord 57 = .ok (.goto 27, 3) := by decide +kernel
theorem dX12_isWord_60 : decode cX12_isWord 60 = .ok (.iload 8, 2) := by decide +kernel
theorem dX12_isWord_62 : decode cX12_isWord 62 = .ok (.iconst 2, 1) := by decide +kernel
theorem dX12_isWord_63 : decode cX12_isWord 63 = .ok (.if_icmp .ne 8, 3) := by decide +kernel
theorem dX12_isWord_66 : decode cX12_isWord 66 = .ok (.iload 4, 2) := by decide +kernel
theorem dX12_isWord_68 : decode cX12_isWord 68 = .ok (.goto 16, 3) := by decide +kernel
theorem dX12_isWord_71 : decode cX12_isWord 71 = .ok (.iload 8, 2) := by decide +kernel
theorem dX12_isWord_73 : decode cX12_isWord 73 = .ok (.iconst 3, 1) := by decide +kernel
theorem dX12_isWord_74 : decode cX12_isWord 74 = .ok (.if_icmp .ne 8, 3) := by decide +kernel
theorem dX12_isWord_77 : decode cX12_isWord 77 = .ok (.iload 5, 2) := by decide +kernel
theorem dX12_isWord_79 : decode cX12_isWord 79 = .ok (.goto 5, 3) := by decide +kernel
theorem dX12_isWord_82 : decode cX12_isWord 82 = .ok (.iload 6, 2) := by decide +kernel
theorem dX12_isWord_84 : decode cX12_isWord 84 = .ok (.if_icmp .ne 7, 3) := by decide +kernel
theorem dX12_isWord_87 : decode cX12_isWord 87 = .ok (.iconst 1, 1) := by decide +kernel
theorem dX12_isWord_88 : decode cX12_isWord 88 = .ok (.goto 4, 3) := by decide +kernel
theorem dX12_isWord_91 : decode cX12_isWord 91 = .ok (.iconst 0, 1) := by decide +kernel
theorem dX12_isWord_92 : decode cX12_isWord 92 = .ok (.istore 7, 2) := by decide +kernel
theorem dX12_isWord_94 : decode cX12_isWord 94 = .ok (.iinc 8 1, 3) := by decide +kernel
theorem dX12_isWord_97 : decode cX12_isWord 97 = .ok (.goto (-79), 3) := by decide +kernel
theorem dX12_isWord_100 : decode cX12_isWord 100 = .ok (.iload 7, 2) := by decide +kernel
theorem dX12_isWord_102 : decode cX12_isWord 102 = .ok (.ireturn, 1) := by decide +kernel
theorem dX12_isName_0 : decode cX12_isName 0 = .ok (.aload_n 0, 1) := by decide +kernel
theorem dX12_isName_1 : decode cX12_isName 1 = .ok (.getfield 176, 3) := by decide +kernel
theorem dX12_isName_4 : decode cX12_isName 4 = .ok (.i2l, 1) := by decide +kernel
theorem dX12_isName_5 : decode cX12_isName 5 = .ok (.lconst 1, 1) := by decide +kernel
theorem dX12_isName_6 : decode cX12_isName 6 = .ok (.ldc2_w 179, 3) := by decide +kernel
theorem dX12_isName_9 : decode cX12_isName 9 = .ok (.invokestatic 146, 3) := by decide +kernel
theorem dX12_isName_12 : decode cX12_isName 12 = .ok (.ifCond .eq 42, 3) := by decide +kernel
theorem dX12_isName_15 : decode cX12_isName 15 = .ok (.aload_n 0, 1) := by decide +kernel
theorem dX12_isName_16 : decode cX12_isName 16 = .ok (.getfield 44, 3) := by decide +kernel
theorem dX12_isName_19 : decode cX12_isName 19 = .ok (.aload_n 0, 1) := by decide +kernel
theorem dX12_isName_20 : decode cX12_isName 20 = .ok (.getfield 169, 3) := by decide +kernel
theorem dX12_isName_23 : decode cX12_isName 23 = .ok (.iaload, 1) := by decide +kernel
theorem dX12_isName_24 : decode cX12_isName 24 = .ok (.bipush 95, 2) := by decide +kernel
theorem dX12_isName_26 : decode cX12_isName 26 = .ok (.if_icmp .eq 28, 3) := by decide +kernel
theorem dX12_isName_29 : decode cX12_isName 29 = .ok (.aload_n 0, 1) := by decide +kernel
theorem dX12_isName_30 : decode cX12_isName 30 = .ok (.getfield 44, 3) := by decide +kernel
theorem dX12_isName_33 : decode cX12_isName 33 = .ok (.aload_n 0, 1) := by decide +kernel
theorem dX12_isName_34 : decode cX12_isName 34 = .ok (.getfield 169, 3) := by decide +kernel
theorem dX12_isName_37 : decode cX12_isName 37 = .ok (.aload_n 0, 1) := by decide +kernel
theorem dX12_isName_38 : decode cX12_isName 38 = .ok (.getfield 176, 3) := by decide +kernel
theorem dX12_isName_41 : decode cX12_isName 41 = .ok (.iadd, 1) := by decide +kernel
theorem dX12_isName_42 : decode cX12_isName 42 = .ok (.iconst 1, 1) := by decide +kernel
theorem dX12_isName_43 : decode cX12_isName 43 = .ok (.isub, 1) := by decide +kernel
theorem dX12_isName_44 : decode cX12_isName 44 = .ok (.iaload, 1) := by decide +kernel
theorem dX12_isName_45 : decode cX12_isName 45 = .ok (.bipush 95, 2) := by decide +kernel
theorem dX12_isName_47 : decode cX12_isName 47 = .ok (.if_icmp .eq 7, 3) := by decide +kernel
theorem dX12_isName_50 : decode cX12_isName 50 = .ok (.iconst 1, 1) := by decide +kernel
theorem dX12_isName_51 : decode cX12_isName 51 = .ok (.goto 4, 3) := by decide +kernel
theorem dX12_isName_54 : decode cX12_isName 54 = .ok (.iconst 0, 1) := by decide +kernel
theorem dX12_isName_55 : decode cX12_isName 55 = .ok (.istore_n 1, 1) := by decide +kernel
theorem dX12_isName_56 : decode cX12_isName 56 = .ok (.iconst 1, 1) := by decide +kernel
theorem dX12_isName_57 : decode cX12_isName 57 = .ok (.istore_n 2, 1) := by decide +kernel
theorem dX12_isName_58 : decode cX12_isName 58 = .ok (.iload_n 2, 1) := by decide +kernel
theorem dX12_isName_59 : decode cX12_isName 59 = .ok (.aload_n 0, 1) := by decide +kernel
theorem dX12_isName_60 : decode cX12_isName 60 = .ok (.getfield 176, 3) := by decide +kernel
theorem dX12_isName_63 : decode cX12_isName 63 = .ok (.if_icmp .ge 53, 3) := by decide +kernel
theorem dX12_isName_66 : decode cX12_isName 66 = .ok (.iload_n 1, 1) := by decide +kernel
theorem dX12_isName_67 : decode cX12_isName 67 = .ok (.ifCond .eq 49, 3) := by decide +kernel
theorem dX12_isName_70 : decode cX12_isName 70 = .ok (.aload_n 0, 1) := by decide +kernel
theorem dX12_isName_71 : decode cX12_isName 71 = .ok (.getfield 44, 3) := by decide +kernel
theorem dX12_isName_74 : decode cX12_isName 74 = .ok (.aload_n 0, 1) := by decide +kernel
theorem dX12_isName_75 : decode cX12_isName 75 = .ok (.getfield 169, 3) := by decide +kernel
theorem dX12_isName_78 : decode cX12_isName 78 = .ok (.iload_n 2, 1) := by decide +kernel
theorem dX12_isName_79 : decode cX12_isName 79 = .ok (.iadd, 1) := by decide +kernel
theorem dX12_isName_80 : decode cX12_isName 80 = .ok (.iaload, 1) := by decide +kernel
theorem dX12_isName_81 : decode cX12_isName 81 = .ok (.bipush 95, 2) := by decide +kernel
theorem dX12_isName_83 : decode cX12_isName 83 = .ok (.if_icmp .ne 21, 3) := by decide +kernel
theorem dX12_isName_86 : decode cX12_isName 86 = .ok (.aload_n 0, 1) := by decide +kernel
theorem dX12_isName_87 : decode cX12_isName 87 = .ok (.getfield 44, 3) := by decide +kernel
theorem dX12_isName_90 : decode cX12_isName 90 = .ok (.aload_n 0, 1) := by decide +kernel
theorem dX12_isName_91 : decode cX12_isName 91 = .ok (.getfield 169, 3) := by decide +kernel
theorem dX12_isName_94 : decode cX12_isName 94 = .ok (.iload_n 2, 1) := by decide +kernel
theorem dX12_isName_95 : decode cX12_isName 95 = .ok (.iadd, 1) := by decide +kernel
theorem dX12_isName_96 : decode cX12_isName 96 = .ok (.iconst 1, 1) := by decide +kernel
theorem dX12_isName_97 : decode cX12_isName 97 = .ok (.isub, 1) := by decide +kernel
theorem dX12_isName_98 : decode cX12_isName 98 = .ok (.iaload, 1) := by decide +kernel
theorem dX12_isName_99 : decode cX12_isName 99 = .ok (.bipush 95, 2) := by decide +kernel
theorem dX12_isName_101 : decode cX12_isName 101 = .ok (.if_icmp .eq 7, 3) := by decide +kernel
theorem dX12_isName_104 : decode cX12_isName 104 = .ok (.iconst 1, 1) := by decide +kernel
theorem dX12_isName_105 : decode cX12_isName 105 = .ok (.goto 4, 3) := by decide +kernel
theorem dX12_isName_108 : decode cX12_isName 108 = .ok (.iconst 0, 1) := by decide +kernel
theorem dX12_isName_109 : decode cX12_isName 109 = .ok (.istore_n 1, 1) := by decide +kernel
theorem dX12_isName_110 : decode cX12_isName 110 = .ok (.iinc 2 1, 3) := by decide +kernel
theorem dX12_isName_113 : decode cX12_isName 113 = .ok (.goto (-55), 3) := by decide +kernel
theorem dX12_isName_116 : decode cX12_isName 116 = .ok (.iload_n 1, 1) := by decide +kernel
theorem dX12_isName_117 : decode cX12_isName 117 = .ok (.ireturn, 1) := by decide +kernel
theorem dX12_isHere_0 : decode cX12_isHere 0 = .ok (.aload_n 0, 1) := by decide +kernel
theorem dX12_isHere_1 : decode cX12_isHere 1 = .ok (.getfield 13, 3) := by decide +kernel
theorem dX12_isHere_4 : decode cX12_isHere 4 = .ok (.iload_n 1, 1) := by decide +kernel
theorem dX12_isHere_5 : decode cX12_isHere 5 = .ok (.iaload, 1) := by decide +kernel
theorem dX12_isHere_6 : decode cX12_isHere 6 = .ok (.aload_n 0, 1) := by decide +kernel
theorem dX12_isHere_7 : decode cX12_isHere 7 = .ok (.getfield 176, 3) := by decide +kernel
theorem dX12_isHere_10 : decode cX12_isHere 10 = .ok (.if_icmp .ne 7, 3) := by decide +kernel
theorem dX12_isHere_13 : decode cX12_isHere 13 = .ok (.iconst 1, 1) := by decide +kernel
theorem dX12_isHere_14 : decode cX12_isHere 14 = .ok (.goto 4, 3) := by decide +kernel
theorem dX12_isHere_17 : decode cX12_isHere 17 = .ok (.iconst 0, 1) := by decide +kernel
theorem dX12_isHere_18 : decode cX12_isHere 18 = .ok (.istore_n 2, 1) := by decide +kernel
theorem dX12_isHere_19 : decode cX12_isHere 19 = .ok (.iconst 0, 1) := by decide +kernel
theorem dX12_isHere_20 : decode cX12_isHere 20 = .ok (.istore_n 3, 1) := by decide +kernel
theorem dX12_isHere_21 : decode cX12_isHere 21 = .ok (.iload_n 3, 1) := by decide +kernel
theorem dX12_isHere_22 : decode cX12_isHere 22 = .ok (.aload_n 0, 1) := by decide +kernel
theorem dX12_isHere_23 : decode cX12_isHere 23 = .ok (.getfield 176, 3) := by decide +kernel
theorem dX12_isHere_26 : decode cX12_isHere 26 = .ok (.if_icmp .ge 44, 3) := by decide +kernel
theorem dX12_isHere_29 : decode cX12_isHere 29 = .ok (.iload_n 2, 1) := by decide +kernel
theorem dX12_isHere_30 : decode cX12_isHere 30 = .ok (.ifCond .eq 40, 3) := by decide +kernel
theorem dX12_isHere_33 : decode cX12_isHere 33 = .ok (.aload_n 0, 1) := by decide +kernel
theorem dX12_isHere_34 : decode cX12_isHere 34 = .ok (.getfield 16, 3) := by decide +kernel
theorem dX12_isHere_37 : decode cX12_isHere 37 = .ok (.bipush 12, 2) := by decide +kernel
theorem dX12_isHere_39 : decode cX12_isHere 39 = .ok (.iload_n 1, 1) := by decide +kernel
theorem dX12_isHere_40 : decode cX12_isHere 40 = .ok (.imul, 1) := by decide +kernel
theorem dX12_isHere_41 : decode cX12_isHere 41 = .ok (.iload_n 3, 1) := by decide +kernel
theorem dX12_isHere_42 : decode cX12_isHere 42 = .ok (.iadd, 1) := by decide +kernel
theorem dX12_isHere_43 : decode cX12_isHere 43 = .ok (.iaload, 1) := by decide +kernel
theorem dX12_isHere_44 : decode cX12_isHere 44 = .ok (.aload_n 0, 1) := by decide +kernel
theorem dX12_isHere_45 : decode cX12_isHere 45 = .ok (.getfield 44, 3) := by decide +kernel
theorem dX12_isHere_48 : decode cX12_isHere 48 = .ok (.aload_n 0, 1) := by decide +kernel
theorem dX12_isHere_49 : decode cX12_isHere 49 = .ok (.getfield 169, 3) := by decide +kernel
theorem dX12_isHere_52 : decode cX12_isHere 52 = .ok (.iload_n 3, 1) := by decide +kernel
theorem dX12_isHere_53 : decode cX12_isHere 53 = .ok (.iadd, 1) := by decide +kernel
theorem dX12_isHere_54 : decode cX12_isHere 54 = .ok (.iaload, 1) := by decide +kernel
theorem dX12_isHere_55 : decode cX12_isHere 55 = .ok (.if_icmp .ne 7, 3) := by decide +kernel
theorem dX12_isHere_58 : decode cX12_isHere 58 = .ok (.iconst 1, 1) := by decide +kernel
theorem dX12_isHere_59 : decode cX12_isHere 59 = .ok (.goto 4, 3) := by decide +kernel
theorem dX12_isHere_62 : decode cX12_isHere 62 = .ok (.iconst 0, 1) := by decide +kernel
theorem dX12_isHere_63 : decode cX12_isHere 63 = .ok (.istore_n 2, 1) := by decide +kernel
theorem dX12_isHere_64 : decode cX12_isHere 64 = .ok (.iinc 3 1, 3) := by decide +kernel
theorem dX12_isHere_67 : decode cX12_isHere 67 = .ok (.goto (-46), 3) := by decide +kernel
theorem dX12_isHere_70 : decode cX12_isHere 70 = .ok (.iload_n 2, 1) := by decide +kernel
theorem dX12_isHere_71 : decode cX12_isHere 71 = .ok (.ireturn, 1) := by decide +kernel
theorem dX12_nameIt_0 : decode cX12_nameIt 0 = .ok (.aload_n 0, 1) := by decide +kernel
theorem dX12_nameIt_1 : decode cX12_nameIt 1 = .ok (.getfield 13, 3) := by decide +kernel
theorem dX12_nameIt_4 : decode cX12_nameIt 4 = .ok (.iload_n 1, 1) := by decide +kernel
theorem dX12_nameIt_5 : decode cX12_nameIt 5 = .ok (.aload_n 0, 1) := by decide +kernel
theorem dX12_nameIt_6 : decode cX12_nameIt 6 = .ok (.getfield 176, 3) := by decide +kernel
theorem dX12_nameIt_9 : decode cX12_nameIt 9 = .ok (.iastore, 1) := by decide +kernel
theorem dX12_nameIt_10 : decode cX12_nameIt 10 = .ok (.iconst 0, 1) := by decide +kernel
theorem dX12_nameIt_11 : decode cX12_nameIt 11 = .ok (.istore_n 2, 1) := by decide +kernel
theorem dX12_nameIt_12 : decode cX12_nameIt 12 = .ok (.iload_n 2, 1) := by decide +kernel
theorem dX12_nameIt_13 : decode cX12_nameIt 13 = .ok (.aload_n 0, 1) := by decide +kernel
theorem dX12_nameIt_14 : decode cX12_nameIt 14 = .ok (.getfield 176, 3) := by decide +kernel
theorem dX12_nameIt_17 : decode cX12_nameIt 17 = .ok (.if_icmp .ge 31, 3) := by decide +kernel
theorem dX12_nameIt_20 : decode cX12_nameIt 20 = .ok (.aload_n 0, 1) := by decide +kernel
theorem dX12_nameIt_21 : decode cX12_nameIt 21 = .ok (.getfield 16, 3) := by decide +kernel
theorem dX12_nameIt_24 : decode cX12_nameIt 24 = .ok (.bipush 12, 2) := by decide +kernel
theorem dX12_nameIt_26 : decode cX12_nameIt 26 = .ok (.iload_n 1, 1) := by decide +kernel
theorem dX12_nameIt_27 : decode cX12_nameIt 27 = .ok (.imul, 1) := by decide +kernel
theorem dX12_nameIt_28 : decode cX12_nameIt 28 = .ok (.iload_n 2, 1) := by decide +kernel
theorem dX12_nameIt_29 : decode cX12_nameIt 29 = .ok (.iadd, 1) := by decide +kernel
theorem dX12_nameIt_30 : decode cX12_nameIt 30 = .ok (.aload_n 0, 1) := by decide +kernel
theorem dX12_nameIt_31 : decode cX12_nameIt 31 = .ok (.getfield 44, 3) := by decide +kernel
theorem dX12_nameIt_34 : decode cX12_nameIt 34 = .ok (.aload_n 0, 1) := by decide +kernel
theorem dX12_nameIt_35 : decode cX12_nameIt 35 = .ok (.getfield 169, 3) := by decide +kernel
theorem dX12_nameIt_38 : decode cX12_nameIt 38 = .ok (.iload_n 2, 1) := by decide +kernel
theorem dX12_nameIt_39 : decode cX12_nameIt 39 = .ok (.iadd, 1) := by decide +kernel
theorem dX12_nameIt_40 : decode cX12_nameIt 40 = .ok (.iaload, 1) := by decide +kernel
theorem dX12_nameIt_41 : decode cX12_nameIt 41 = .ok (.iastore, 1) := by decide +kernel
theorem dX12_nameIt_42 : decode cX12_nameIt 42 = .ok (.iinc 2 1, 3) := by decide +kernel
theorem dX12_nameIt_45 : decode cX12_nameIt 45 = .ok (.goto (-33), 3) := by decide +kernel
theorem dX12_nameIt_48 : decode cX12_nameIt 48 = .ok (.return_, 1) := by decide +kernel
theorem dX12_takeHead_0 : decode cX12_takeHead 0 = .ok (.aload_n 0, 1) := by decide +kernel
theorem dX12_takeHead_1 : decode cX12_takeHead 1 = .ok (.invokevirtual 181, 3) := by decide +kernel
theorem dX12_takeHead_4 : decode cX12_takeHead 4 = .ok (.aload_n 0, 1) := by decide +kernel
theorem dX12_takeHead_5 : decode cX12_takeHead 5 = .ok (.aload_n 0, 1) := by decide +kernel
theorem dX12_takeHead_6 : decode cX12_takeHead 6 = .ok (.getfield 176, 3) := by decide +kernel
theorem dX12_takeHead_9 : decode cX12_takeHead 9 = .ok (.ifCond .le 7, 3) := by decide +kernel
theorem dX12_takeHead_12 : decode cX12_takeHead 12 = .ok (.iconst 1, 1) := by decide +kernel
theorem dX12_takeHead_13 : decode cX12_takeHead 13 = .ok (.goto 4, 3) := by decide +kernel
theorem dX12_takeHead_16 : decode cX12_takeHead 16 = .ok (.iconst 0, 1) := by decide +kernel
theorem dX12_takeHead_17 : decode cX12_takeHead 17 = .ok (.iconst 1, 1) := by decide +kernel
theorem dX12_takeHead_18 : decode cX12_takeHead 18 = .ok (.aload_n 0, 1) := by decide +kernel
theorem dX12_takeHead_19 : decode cX12_takeHead 19 = .ok (.getfield 169, 3) := by decide +kernel
theorem dX12_takeHead_22 : decode cX12_takeHead 22 = .ok (.invokevirtual 184, 3) := by decide +kernel
theorem dX12_takeHead_25 : decode cX12_takeHead 25 = .ok (.ifCond .eq 19, 3) := by decide +kernel
theorem dX12_takeHead_28 : decode cX12_takeHead 28 = .ok (.aload_n 0, 1) := by decide +kernel
theorem dX12_takeHead_29 : decode cX12_takeHead 29 = .ok (.aload_n 0, 1) := by decide +kernel
theorem dX12_takeHead_30 : decode cX12_takeHead 30 = .ok (.invokevirtual 188, 3) := by decide +kernel
theorem dX12_takeHead_33 : decode cX12_takeHead 33 = .ok (.iconst 3, 1) := by decide +kernel
theorem dX12_takeHead_34 : decode cX12_takeHead 34 = .ok (.aload_n 0, 1) := by decide +kernel
theorem dX12_takeHead_35 : decode cX12_takeHead 35 = .ok (.getfield 169, 3) := by decide +kernel
theorem dX12_takeHead_38 : decode cX12_takeHead 38 = .ok (.invokevirtual 184, 3) := by decide +kernel
theorem dX12_takeHead_41 : decode cX12_takeHead 41 = .ok (.ifCond .ne 5, 3) := by decide +kernel
theorem dX12_takeHead_44 : decode cX12_takeHead 44 = .ok (.iconst 0, 1) := by decide +kernel
theorem dX12_takeHead_45 : decode cX12_takeHead 45 = .ok (.ireturn, 1) := by decide +kernel
theorem dX12_takeHead_46 : decode cX12_takeHead 46 = .ok (.iconst 0, 1) := by decide +kernel
theorem dX12_takeHead_47 : decode cX12_takeHead 47 = .ok (.istore_n 1, 1) := by decide +kernel
theorem dX12_takeHead_48 : decode cX12_takeHead 48 = .ok (.iload_n 1, 1) := by decide +kernel
theorem dX12_takeHead_49 : decode cX12_takeHead 49 = .ok (.aload_n 0, 1) := by decide +kernel
theorem dX12_takeHead_50 : decode cX12_takeHead 50 = .ok (.getfield 192, 3) := by decide +kernel
theorem dX12_takeHead_53 : decode cX12_takeHead 53 = .ok (.if_icmp .ge 23, 3) := by decide +kernel
theorem dX12_takeHead_56 : decode cX12_takeHead 56 = .ok (.aload_n 0, 1) := by decide +kernel
theorem dX12_takeHead_57 : decode cX12_takeHead 57 = .ok (.iload_n 1, 1) := by decide +kernel
theorem dX12_takeHead_58 : decode cX12_takeHead 58 = .ok (.iconst (-1), 1) := by decide +kernel
theorem dX12_takeHead_59 : decode cX12_takeHead 59 = .ok (.invokestatic 195, 3) := by decide +kernel
theorem dX12_takeHead_62 : decode cX12_takeHead 62 = .ok (.invokevirtual 199, 3) := by decide +kernel
theorem dX12_takeHead_65 : decode cX12_takeHead 65 = .ok (.ifCond .eq 5, 3) := by decide +kernel
theorem dX12_takeHead_68 : decode cX12_takeHead 68 = .ok (.iload_n 1, 1) := by decide +kernel
theorem dX12_takeHead_69 : decode cX12_takeHead 69 = .ok (.ireturn, 1) := by decide +kernel
theorem dX12_takeHead_70 : decode cX12_takeHead 70 = .ok (.iinc 1 1, 3) := by decide +kernel
theorem dX12_takeHead_73 : decode cX12_takeHead 73 = .ok (.goto (-25), 3) := by decide +kernel
theorem dX12_takeHead_76 : decode cX12_takeHead 76 = .ok (.aload_n 0, 1) := by decide +kernel
theorem dX12_takeHead_77 : decode cX12_takeHead 77 = .ok (.aload_n 0, 1) := by decide +kernel
theorem dX12_takeHead_78 : decode cX12_takeHead 78 = .ok (.getfield 192, 3) := by decide +kernel
theorem dX12_takeHead_81 : decode cX12_takeHead 81 = .ok (.bipush 16, 2) := by decide +kernel
theorem dX12_takeHead_83 : decode cX12_takeHead 83 = .ok (.if_icmp .ge 7, 3) := by decide +kernel
theorem dX12_takeHead_86 : decode cX12_takeHead 86 = .ok (.iconst 1, 1) := by decide +kernel
theorem dX12_takeHead_87 : decode cX12_takeHead 87 = .ok (.goto 4, 3) := by decide +kernel
theorem dX12_takeHead_90 : decode cX12_takeHead 90 = .ok (.iconst 0, 1) := by decide +kernel
theorem dX12_takeHead_91 : decode cX12_takeHead 91 = .ok (.iconst 4, 1) := by decide +kernel
theorem dX12_takeHead_92 : decode cX12_takeHead 92 = .ok (.aload_n 0, 1) := by decide +kernel
theorem dX12_takeHead_93 : decode cX12_takeHead 93 = .ok (.getfield 169, 3) := by decide +kernel
theorem dX12_takeHead_96 : decode cX12_takeHead 96 = .ok (.invokevirtual 184, 3) := by decide +kernel
theorem dX12_takeHead_99 : decode cX12_takeHead 99 = .ok (.ifCond .eq 65, 3) := by decide +kernel
theorem dX12_takeHead_102 : decode cX12_takeHead 102 = .ok (.aload_n 0, 1) := by decide +kernel
theorem dX12_takeHead_103 : decode cX12_takeHead 103 = .ok (.aload_n 0, 1) := by decide +kernel
theorem dX12_takeHead_104 : decode cX12_takeHead 104 = .ok (.getfield 192, 3) := by decide +kernel
theorem dX12_takeHead_107 : decode cX12_takeHead 107 = .ok (.iconst (-1), 1) := by decide +kernel
theorem dX12_takeHead_108 : decode cX12_takeHead 108 = .ok (.invokestatic 195, 3) := by decide +kernel
theorem dX12_takeHead_111 : decode cX12_takeHead 111 = .ok (.invokevirtual 202, 3) := by decide +kernel
theorem dX12_takeHead_114 : decode cX12_takeHead 114 = .ok (.aload_n 0, 1) := by decide +kernel
theorem dX12_takeHead_115 : decode cX12_takeHead 115 = .ok (.getfield 7, 3) := by decide +kernel
theorem dX12_takeHead_118 : decode cX12_takeHead 118 = .ok (.aload_n 0, 1) := by decide +kernel
theorem dX12_takeHead_119 : decode cX12_takeHead 119 = .ok (.getfield 192, 3) := by decide +kernel
theorem dX12_takeHead_122 : decode cX12_takeHead 122 = .ok (.iconst 0, 1) := by decide +kernel
theorem dX12_takeHead_123 : decode cX12_takeHead 123 = .ok (.iastore, 1) := by decide +kernel
theorem dX12_takeHead_124 : decode cX12_takeHead 124 = .ok (.aload_n 0, 1) := by decide +kernel
theorem dX12_takeHead_125 : decode cX12_takeHead 125 = .ok (.getfield 19, 3) := by decide +kernel
theorem dX12_takeHead_128 : decode cX12_takeHead 128 = .ok (.aload_n 0, 1) := by decide +kernel
theorem dX12_takeHead_129 : decode cX12_takeHead 129 = .ok (.getfield 192, 3) := by decide +kernel
theorem dX12_takeHead_132 : decode cX12_takeHead 132 = .ok (.iconst (-1), 1) := by decide +kernel
theorem dX12_takeHead_133 : decode cX12_takeHead 133 = .ok (.iastore, 1) := by decide +kernel
theorem dX12_takeHead_134 : decode cX12_takeHead 134 = .ok (.aload_n 0, 1) := by decide +kernel
theorem dX12_takeHead_135 : decode cX12_takeHead 135 = .ok (.getfield 22, 3) := by decide +kernel
theorem dX12_takeHead_138 : decode cX12_takeHead 138 = .ok (.aload_n 0, 1) := by decide +kernel
theorem dX12_takeHead_139 : decode cX12_takeHead 139 = .ok (.getfield 192, 3) := by decide +kernel
theorem dX12_takeHead_142 : decode cX12_takeHead 142 = .ok (.iconst 0, 1) := by decide +kernel
theorem dX12_takeHead_143 : decode cX12_takeHead 143 = .ok (.iastore, 1) := by decide +kernel
theorem dX12_takeHead_144 : decode cX12_takeHead 144 = .ok (.aload_n 0, 1) := by decide +kernel
theorem dX12_takeHead_145 : decode cX12_takeHead 145 = .ok (.getfield 25, 3) := by decide +kernel
theorem dX12_takeHead_148 : decode cX12_takeHead 148 = .ok (.aload_n 0, 1) := by decide +kernel
theorem dX12_takeHead_149 : decode cX12_takeHead 149 = .ok (.getfield 192, 3) := by decide +kernel
theorem dX12_takeHead_152 : decode cX12_takeHead 152 = .ok (.iconst 0, 1) := by decide +kernel
theorem dX12_takeHead_153 : decode cX12_takeHead 153 = .ok (.iastore, 1) := by decide +kernel
theorem dX12_takeHead_154 : decode cX12_takeHead 154 = .ok (.aload_n 0, 1) := by decide +kernel
theorem dX12_takeHead_155 : decode cX12_takeHead 155 = .ok (.dup, 1) := by decide +kernel
theorem dX12_takeHead_156 : decode cX12_takeHead 156 = .ok (.getfield 192, 3) := by decide +kernel
theorem dX12_takeHead_159 : decode cX12_takeHead 159 = .ok (.iconst 1, 1) := by decide +kernel
theorem dX12_takeHead_160 : decode cX12_takeHead 160 = .ok (.iadd, 1) := by decide +kernel
theorem dX12_takeHead_161 : decode cX12_takeHead 161 = .ok (.putfield 192, 3) := by decide +kernel
theorem dX12_takeHead_164 : decode cX12_takeHead 164 = .ok (.aload_n 0, 1) := by decide +kernel
theorem dX12_takeHead_165 : decode cX12_takeHead 165 = .ok (.getfield 192, 3) := by decide +kernel
theorem dX12_takeHead_168 : decode cX12_takeHead 168 = .ok (.iconst 1, 1) := by decide +kernel
theorem dX12_takeHead_169 : decode cX12_takeHead 169 = .ok (.isub, 1) := by decide +kernel
theorem dX12_takeHead_170 : decode cX12_takeHead 170 = .ok (.ireturn, 1) := by decide +kernel
theorem dX12_takeSub_0 : decode cX12_takeSub 0 = .ok (.aload_n 0, 1) := by decide +kernel
theorem dX12_takeSub_1 : decode cX12_takeSub 1 = .ok (.invokevirtual 181, 3) := by decide +kernel
theorem dX12_takeSub_4 : decode cX12_takeSub 4 = .ok (.aload_n 0, 1) := by decide +kernel
theorem dX12_takeSub_5 : decode cX12_takeSub 5 = .ok (.aload_n 0, 1) := by decide +kernel
theorem dX12_takeSub_6 : decode cX12_takeSub 6 = .ok (.getfield 176, 3) := by decide +kernel
theorem dX12_takeSub_9 : decode cX12_takeSub 9 = .ok (.ifCond .le 7, 3) := by decide +kernel
theorem dX12_takeSub_12 : decode cX12_takeSub 12 = .ok (.iconst 1, 1) := by decide +kernel
theorem dX12_takeSub_13 : decode cX12_takeSub 13 = .ok (.goto 4, 3) := by decide +kernel
theorem dX12_takeSub_16 : decode cX12_takeSub 16 = .ok (.iconst 0, 1) := by decide +kernel
theorem dX12_takeSub_17 : decode cX12_takeSub 17 = .ok (.iconst 1, 1) := by decide +kernel
theorem dX12_takeSub_18 : decode cX12_takeSub 18 = .ok (.aload_n 0, 1) := by decide +kernel
theorem dX12_takeSub_19 : decode cX12_takeSub 19 = .ok (.getfield 169, 3) := by decide +kernel
theorem dX12_takeSub_22 : decode cX12_takeSub 22 = .ok (.invokevirtual 184, 3) := by decide +kernel
theorem dX12_takeSub_25 : decode cX12_takeSub 25 = .ok (.ifCond .eq 19, 3) := by decide +kernel
theorem dX12_takeSub_28 : decode cX12_takeSub 28 = .ok (.aload_n 0, 1) := by decide +kernel
theorem dX12_takeSub_29 : decode cX12_takeSub 29 = .ok (.aload_n 0, 1) := by decide +kernel
theorem dX12_takeSub_30 : decode cX12_takeSub 30 = .ok (.invokevirtual 188, 3) := by decide +kernel
theorem dX12_takeSub_33 : decode cX12_takeSub 33 = .ok (.iconst 3, 1) := by decide +kernel
theorem dX12_takeSub_34 : decode cX12_takeSub 34 = .ok (.aload_n 0, 1) := by decide +kernel
theorem dX12_takeSub_35 : decode cX12_takeSub 35 = .ok (.getfield 169, 3) := by decide +kernel
theorem dX12_takeSub_38 : decode cX12_takeSub 38 = .ok (.invokevirtual 184, 3) := by decide +kernel
theorem dX12_takeSub_41 : decode cX12_takeSub 41 = .ok (.ifCond .ne 5, 3) := by decide +kernel
theorem dX12_takeSub_44 : decode cX12_takeSub 44 = .ok (.iconst 0, 1) := by decide +kernel
theorem dX12_takeSub_45 : decode cX12_takeSub 45 = .ok (.ireturn, 1) := by decide +kernel
theorem dX12_takeSub_46 : decode cX12_takeSub 46 = .ok (.iconst 0, 1) := by decide +kernel
theorem dX12_takeSub_47 : decode cX12_takeSub 47 = .ok (.istore_n 2, 1) := by decide +kernel
theorem dX12_takeSub_48 : decode cX12_takeSub 48 = .ok (.iload_n 2, 1) := by decide +kernel
theorem dX12_takeSub_49 : decode cX12_takeSub 49 = .ok (.aload_n 0, 1) := by decide +kernel
theorem dX12_takeSub_50 : decode cX12_takeSub 50 = .ok (.getfield 7, 3) := by decide +kernel
theorem dX12_takeSub_53 : decode cX12_takeSub 53 = .ok (.iload_n 1, 1) := by decide +kernel
theorem dX12_takeSub_54 : decode cX12_takeSub 54 = .ok (.iaload, 1) := by decide +kernel
theorem dX12_takeSub_55 : decode cX12_takeSub 55 = .ok (.if_icmp .ge 23, 3) := by decide +kernel
theorem dX12_takeSub_58 : decode cX12_takeSub 58 = .ok (.aload_n 0, 1) := by decide +kernel
theorem dX12_takeSub_59 : decode cX12_takeSub 59 = .ok (.iload_n 1, 1) := by decide +kernel
theorem dX12_takeSub_60 : decode cX12_takeSub 60 = .ok (.iload_n 2, 1) := by decide +kernel
theorem dX12_takeSub_61 : decode cX12_takeSub 61 = .ok (.invokestatic 195, 3) := by decide +kernel
theorem dX12_takeSub_64 : decode cX12_takeSub 64 = .ok (.invokevirtual 199, 3) := by decide +kernel
theorem dX12_takeSub_67 : decode cX12_takeSub 67 = .ok (.ifCond .eq 5, 3) := by decide +kernel
theorem dX12_takeSub_70 : decode cX12_takeSub 70 = .ok (.iload_n 2, 1) := by decide +kernel
theorem dX12_takeSub_71 : decode cX12_takeSub 71 = .ok (.ireturn, 1) := by decide +kernel
theorem dX12_takeSub_72 : decode cX12_takeSub 72 = .ok (.iinc 2 1, 3) := by decide +kernel
theorem dX12_takeSub_75 : decode cX12_takeSub 75 = .ok (.goto (-27), 3) := by decide +kernel
theorem dX12_takeSub_78 : decode cX12_takeSub 78 = .ok (.aload_n 0, 1) := by decide +kernel
theorem dX12_takeSub_79 : decode cX12_takeSub 79 = .ok (.aload_n 0, 1) := by decide +kernel
theorem dX12_takeSub_80 : decode cX12_takeSub 80 = .ok (.getfield 7, 3) := by decide +kernel
theorem dX12_takeSub_83 : decode cX12_takeSub 83 = .ok (.iload_n 1, 1) := by decide +kernel
theorem dX12_takeSub_84 : decode cX12_takeSub 84 = .ok (.iaload, 1) := by decide +kernel
theorem dX12_takeSub_85 : decode cX12_takeSub 85 = .ok (.bipush 6, 2) := by decide +kernel
theorem dX12_takeSub_87 : decode cX12_takeSub 87 = .ok (.if_icmp .ge 7, 3) := by decide +kernel
theorem dX12_takeSub_90 : decode cX12_takeSub 90 = .ok (.iconst 1, 1) := by decide +kernel
theorem dX12_takeSub_91 : decode cX12_takeSub 91 = .ok (.goto 4, 3) := by decide +kernel
theorem dX12_takeSub_94 : decode cX12_takeSub 94 = .ok (.iconst 0, 1) := by decide +kernel
theorem dX12_takeSub_95 : decode cX12_takeSub 95 = .ok (.iconst 4, 1) := by decide +kernel
theorem dX12_takeSub_96 : decode cX12_takeSub 96 = .ok (.aload_n 0, 1) := by decide +kernel
theorem dX12_takeSub_97 : decode cX12_takeSub 97 = .ok (.getfield 169, 3) := by decide +kernel
theorem dX12_takeSub_100 : decode cX12_takeSub 100 = .ok (.invokevirtual 184, 3) := by decide +kernel
theorem dX12_takeSub_103 : decode cX12_takeSub 103 = .ok (.ifCond .eq 27, 3) := by decide +kernel
theorem dX12_takeSub_106 : decode cX12_takeSub 106 = .ok (.aload_n 0, 1) := by decide +kernel
theorem dX12_takeSub_107 : decode cX12_takeSub 107 = .ok (.iload_n 1, 1) := by decide +kernel
theorem dX12_takeSub_108 : decode cX12_takeSub 108 = .ok (.aload_n 0, 1) := by decide +kernel
theorem dX12_takeSub_109 : decode cX12_takeSub 109 = .ok (.getfield 7, 3) := by decide +kernel
theorem dX12_takeSub_112 : decode cX12_takeSub 112 = .ok (.iload_n 1, 1) := by decide +kernel
theorem dX12_takeSub_113 : decode cX12_takeSub 113 = .ok (.iaload, 1) := by decide +kernel
theorem dX12_takeSub_114 : decode cX12_takeSub 114 = .ok (.invokestatic 195, 3) := by decide +kernel
theorem dX12_takeSub_117 : decode cX12_takeSub 117 = .ok (.invokevirtual 202, 3) := by decide +kernel
theorem dX12_takeSub_120 : decode cX12_takeSub 120 = .ok (.aload_n 0, 1) := by decide +kernel
theorem dX12_takeSub_121 : decode cX12_takeSub 121 = .ok (.getfield 7, 3) := by decide +kernel
theorem dX12_takeSub_124 : decode cX12_takeSub 124 = .ok (.iload_n 1, 1) := by decide +kernel
theorem dX12_takeSub_125 : decode cX12_takeSub 125 = .ok (.dup2, 1) := by decide +kernel
theorem dX12_takeSub_126 : decode cX12_takeSub 126 = .ok (.iaload, 1) := by decide +kernel
theorem dX12_takeSub_127 : decode cX12_takeSub 127 = .ok (.iconst 1, 1) := by decide +kernel
theorem dX12_takeSub_128 : decode cX12_takeSub 128 = .ok (.iadd, 1) := by decide +kernel
theorem dX12_takeSub_129 : decode cX12_takeSub 129 = .ok (.iastore, 1) := by decide +kernel
theorem dX12_takeSub_130 : decode cX12_takeSub 130 = .ok (.aload_n 0, 1) := by decide +kernel
theorem dX12_takeSub_131 : decode cX12_takeSub 131 = .ok (.getfield 7, 3) := by decide +kernel
theorem dX12_takeSub_134 : decode cX12_takeSub 134 = .ok (.iload_n 1, 1) := by decide +kernel
theorem dX12_takeSub_135 : decode cX12_takeSub 135 = .ok (.iaload, 1) := by decide +kernel
theorem dX12_takeSub_136 : decode cX12_takeSub 136 = .ok (.iconst 1, 1) := by decide +kernel
theorem dX12_takeSub_137 : decode cX12_takeSub 137 = .ok (.isub, 1) := by decide +kernel
theorem dX12_takeSub_138 : decode cX12_takeSub 138 = .ok (.ireturn, 1) := by decide +kernel
theorem dX12_takeNumber_0 : decode cX12_takeNumber 0 = .ok (.aload_n 0, 1) := by decide +kernel
theorem dX12_takeNumber_1 : decode cX12_takeNumber 1 = .ok (.invokevirtual 165, 3) := by decide +kernel
theorem dX12_takeNumber_4 : decode cX12_takeNumber 4 = .ok (.istore_n 3, 1) := by decide +kernel
theorem dX12_takeNumber_5 : decode cX12_takeNumber 5 = .ok (.aload_n 0, 1) := by decide +kernel
theorem dX12_takeNumber_6 : decode cX12_takeNumber 6 = .ok (.aload_n 0, 1) := by decide +kernel
theorem dX12_takeNumber_7 : decode cX12_takeNumber 7 = .ok (.getfield 155, 3) := by decide +kernel
theorem dX12_takeNumber_10 : decode cX12_takeNumber 10 = .ok (.putfield 169, 3) := by decide +kernel
theorem dX12_takeNumber_13 : decode cX12_takeNumber 13 = .ok (.aload_n 0, 1) := by decide +kernel
theorem dX12_takeNumber_14 : decode cX12_takeNumber 14 = .ok (.iload_n 3, 1) := by decide +kernel
theorem dX12_takeNumber_15 : decode cX12_takeNumber 15 = .ok (.i2l, 1) := by decide +kernel
theorem dX12_takeNumber_16 : decode cX12_takeNumber 16 = .ok (.ldc2_w 206, 3) := by decide +kernel
theorem dX12_takeNumber_19 : decode cX12_takeNumber 19 = .ok (.ldc2_w 208, 3) := by decide +kernel
theorem dX12_takeNumber_22 : decode cX12_takeNumber 22 = .ok (.invokestatic 146, 3) := by decide +kernel
theorem dX12_takeNumber_25 : decode cX12_takeNumber 25 = .ok (.iconst 1, 1) := by decide +kernel
theorem dX12_takeNumber_26 : decode cX12_takeNumber 26 = .ok (.aload_n 0, 1) := by decide +kernel
theorem dX12_takeNumber_27 : decode cX12_takeNumber 27 = .ok (.getfield 155, 3) := by decide +kernel
theorem dX12_takeNumber_30 : decode cX12_takeNumber 30 = .ok (.invokevirtual 184, 3) := by decide +kernel
theorem dX12_takeNumber_33 : decode cX12_takeNumber 33 = .ok (.ifCond .ne 5, 3) := by decide +kernel
theorem dX12_takeNumber_36 : decode cX12_takeNumber 36 = .ok (.iconst 0, 1) := by decide +kernel
theorem dX12_takeNumber_37 : decode cX12_takeNumber 37 = .ok (.ireturn, 1) := by decide +kernel
theorem dX12_takeNumber_38 : decode cX12_takeNumber 38 = .ok (.iconst 0, 1) := by decide +kernel
theorem dX12_takeNumber_39 : decode cX12_takeNumber 39 = .ok (.istore 4, 2) := by decide +kernel
theorem dX12_takeNumber_41 : decode cX12_takeNumber 41 = .ok (.aload_n 0, 1) := by decide +kernel
theorem dX12_takeNumber_42 : decode cX12_takeNumber 42 = .ok (.getfield 155, 3) := by decide +kernel
theorem dX12_takeNumber_45 : decode cX12_takeNumber 45 = .ok (.aload_n 0, 1) := by decide +kernel
theorem dX12_takeNumber_46 : decode cX12_takeNumber 46 = .ok (.getfield 150, 3) := by decide +kernel
theorem dX12_takeNumber_49 : decode cX12_takeNumber 49 = .ok (.if_icmp .ge 71, 3) := by decide +kernel
theorem dX12_takeNumber_52 : decode cX12_takeNumber 52 = .ok (.aload_n 0, 1) := by decide +kernel
theorem dX12_takeNumber_53 : decode cX12_takeNumber 53 = .ok (.getfield 44, 3) := by decide +kernel
theorem dX12_takeNumber_56 : decode cX12_takeNumber 56 = .ok (.aload_n 0, 1) := by decide +kernel
theorem dX12_takeNumber_57 : decode cX12_takeNumber 57 = .ok (.getfield 155, 3) := by decide +kernel
theorem dX12_takeNumber_60 : decode cX12_takeNumber 60 = .ok (.iaload, 1) := by decide +kernel
theorem dX12_takeNumber_61 : decode cX12_takeNumber 61 = .ok (.i2l, 1) := by decide +kernel
theorem dX12_takeNumber_62 : decode cX12_takeNumber 62 = .ok (.ldc2_w 206, 3) := by decide +kernel
theorem dX12_takeNumber_65 : decode cX12_takeNumber 65 = .ok (.ldc2_w 208, 3) := by decide +kernel
theorem dX12_takeNumber_68 : decode cX12_takeNumber 68 = .ok (.invokestatic 146, 3) := by decide +kernel
theorem dX12_takeNumber_71 : decode cX12_takeNumber 71 = .ok (.ifCond .eq 49, 3) := by decide +kernel
theorem dX12_takeNumber_74 : decode cX12_takeNumber 74 = .ok (.iload 4, 2) := by decide +kernel
theorem dX12_takeNumber_76 : decode cX12_takeNumber 76 = .ok (.sipush 999, 3) := by decide +kernel
theorem dX12_takeNumber_79 : decode cX12_takeNumber 79 = .ok (.if_icmp .le 8, 3) := by decide +kernel
theorem dX12_takeNumber_82 : decode cX12_takeNumber 82 = .ok (.iload 4, 2) := by decide +kernel
theorem dX12_takeNumber_84 : decode cX12_takeNumber 84 = .ok (.goto 21, 3) := by decide +kernel
theorem dX12_takeNumber_87 : decode cX12_takeNumber 87 = .ok (.bipush 10, 2) := by decide +kernel
theorem dX12_takeNumber_89 : decode cX12_takeNumber 89 = .ok (.iload 4, 2) := by decide +kernel
theorem dX12_takeNumber_91 : decode cX12_takeNumber 91 = .ok (.imul, 1) := by decide +kernel
theorem dX12_takeNumber_92 : decode cX12_takeNumber 92 = .ok (.aload_n 0, 1) := by decide +kernel
theorem dX12_takeNumber_93 : decode cX12_takeNumber 93 = .ok (.getfield 44, 3) := by decide +kernel
theorem dX12_takeNumber_96 : decode cX12_takeNumber 96 = .ok (.aload_n 0, 1) := by decide +kernel
theorem dX12_takeNumber_97 : decode cX12_takeNumber 97 = .ok (.getfield 155, 3) := by decide +kernel
theorem dX12_takeNumber_100 : decode cX12_takeNumber 100 = .ok (.iaload, 1) := by decide +kernel
theorem dX12_takeNumber_101 : decode cX12_takeNumber 101 = .ok (.iadd, 1) := by decide +kernel
theorem dX12_takeNumber_102 : decode cX12_takeNumber 102 = .ok (.bipush 48, 2) := by decide +kernel
theorem dX12_takeNumber_104 : decode cX12_takeNumber 104 = .ok (.isub, 1) := by decide +kernel
theorem dX12_takeNumber_105 : decode cX12_takeNumber 105 = .ok (.istore 4, 2) := by decide +kernel
theorem dX12_takeNumber_107 : decode cX12_takeNumber 107 = .ok (.aload_n 0, 1) := by decide +kernel
theorem dX12_takeNumber_108 : decode cX12_takeNumber 108 = .ok (.dup, 1) := by decide +kernel
theorem dX12_takeNumber_109 : decode cX12_takeNumber 109 = .ok (.getfield 155, 3) := by decide +kernel
theorem dX12_takeNumber_112 : decode cX12_takeNumber 112 = .ok (.iconst 1, 1) := by decide +kernel
theorem dX12_takeNumber_113 : decode cX12_takeNumber 113 = .ok (.iadd, 1) := by decide +kernel
theorem dX12_takeNumber_114 : decode cX12_takeNumber 114 = .ok (.putfield 155, 3) := by decide +kernel
theorem dX12_takeNumber_117 : decode cX12_takeNumber 117 = .ok (.goto (-76), 3) := by decide +kernel
theorem dX12_takeNumber_120 : decode cX12_takeNumber 120 = .ok (.aload_n 0, 1) := by decide +kernel
theorem dX12_takeNumber_121 : decode cX12_takeNumber 121 = .ok (.aload_n 0, 1) := by decide +kernel
theorem dX12_takeNumber_122 : decode cX12_takeNumber 122 = .ok (.getfield 155, 3) := by decide +kernel
theorem dX12_takeNumber_125 : decode cX12_takeNumber 125 = .ok (.aload_n 0, 1) := by decide +kernel
theorem dX12_takeNumber_126 : decode cX12_takeNumber 126 = .ok (.getfield 169, 3) := by decide +kernel
theorem dX12_takeNumber_129 : decode cX12_takeNumber 129 = .ok (.isub, 1) := by decide +kernel
theorem dX12_takeNumber_130 : decode cX12_takeNumber 130 = .ok (.iconst 3, 1) := by decide +kernel
theorem dX12_takeNumber_131 : decode cX12_takeNumber 131 = .ok (.if_icmp .ge 20, 3) := by decide +kernel
theorem dX12_takeNumber_134 : decode cX12_takeNumber 134 = .ok (.iload 4, 2) := by decide +kernel
theorem dX12_takeNumber_136 : decode cX12_takeNumber 136 = .ok (.i2l, 1) := by decide +kernel
theorem dX12_takeNumber_137 : decode cX12_takeNumber 137 = .ok (.iload_n 1, 1) := by decide +kernel
theorem dX12_takeNumber_138 : decode cX12_takeNumber 138 = .ok (.i2l, 1) := by decide +kernel
theorem dX12_takeNumber_139 : decode cX12_takeNumber 139 = .ok (.iload_n 2, 1) := by decide +kernel
theorem dX12_takeNumber_140 : decode cX12_takeNumber 140 = .ok (.i2l, 1) := by decide +kernel
theorem dX12_takeNumber_141 : decode cX12_takeNumber 141 = .ok (.invokestatic 146, 3) := by decide +kernel
theorem dX12_takeNumber_144 : decode cX12_takeNumber 144 = .ok (.ifCond .eq 7, 3) := by decide +kernel
theorem dX12_takeNumber_147 : decode cX12_takeNumber 147 = .ok (.iconst 1, 1) := by decide +kernel
theorem dX12_takeNumber_148 : decode cX12_takeNumber 148 = .ok (.goto 4, 3) := by decide +kernel
theorem dX12_takeNumber_151 : decode cX12_takeNumber 151 = .ok (.iconst 0, 1) := by decide +kernel
theorem dX12_takeNumber_152 : decode cX12_takeNumber 152 = .ok (.iconst 2, 1) := by decide +kernel
theorem dX12_takeNumber_153 : decode cX12_takeNumber 153 = .ok (.aload_n 0, 1) := by decide +kernel
theorem dX12_takeNumber_154 : decode cX12_takeNumber 154 = .ok (.getfield 169, 3) := by decide +kernel
theorem dX12_takeNumber_157 : decode cX12_takeNumber 157 = .ok (.invokevirtual 184, 3) := by decide +kernel
theorem dX12_takeNumber_160 : decode cX12_takeNumber 160 = .ok (.istore 5, 2) := by decide +kernel
theorem dX12_takeNumber_162 : decode cX12_takeNumber 162 = .ok (.iload 4, 2) := by decide +kernel
theorem dX12_takeNumber_164 : decode cX12_takeNumber 164 = .ok (.ireturn, 1) := by decide +kernel
theorem dX12_takeMark_0 : decode cX12_takeMark 0 = .ok (.aload_n 0, 1) := by decide +kernel
theorem dX12_takeMark_1 : decode cX12_takeMark 1 = .ok (.aload_n 0, 1) := by decide +kernel
theorem dX12_takeMark_2 : decode cX12_takeMark 2 = .ok (.getfield 210, 3) := by decide +kernel
theorem dX12_takeMark_5 : decode cX12_takeMark 5 = .ok (.bipush 60, 2) := by decide +kernel
theorem dX12_takeMark_7 : decode cX12_takeMark 7 = .ok (.if_icmp .ge 7, 3) := by decide +kernel
theorem dX12_takeMark_10 : decode cX12_takeMark 10 = .ok (.iconst 1, 1) := by decide +kernel
theorem dX12_takeMark_11 : decode cX12_takeMark 11 = .ok (.goto 4, 3) := by decide +kernel
theorem dX12_takeMark_14 : decode cX12_takeMark 14 = .ok (.iconst 0, 1) := by decide +kernel
theorem dX12_takeMark_15 : decode cX12_takeMark 15 = .ok (.iconst 5, 1) := by decide +kernel
theorem dX12_takeMark_16 : decode cX12_takeMark 16 = .ok (.iload_n 1, 1) := by decide +kernel
theorem dX12_takeMark_17 : decode cX12_takeMark 17 = .ok (.invokevirtual 184, 3) := by decide +kernel
theorem dX12_takeMark_20 : decode cX12_takeMark 20 = .ok (.ifCond .ne 4, 3) := by decide +kernel
theorem dX12_takeMark_23 : decode cX12_takeMark 23 = .ok (.return_, 1) := by decide +kernel
theorem dX12_takeMark_24 : decode cX12_takeMark 24 = .ok (.aload_n 0, 1) := by decide +kernel
theorem dX12_takeMark_25 : decode cX12_takeMark 25 = .ok (.invokevirtual 213, 3) := by decide +kernel
theorem dX12_takeMark_28 : decode cX12_takeMark 28 = .ok (.istore_n 2, 1) := by decide +kernel
theorem dX12_takeMark_29 : decode cX12_takeMark 29 = .ok (.iconst (-1), 1) := by decide +kernel
theorem dX12_takeMark_30 : decode cX12_takeMark 30 = .ok (.istore_n 3, 1) := by decide +kernel
theorem dX12_takeMark_31 : decode cX12_takeMark 31 = .ok (.aload_n 0, 1) := by decide +kernel
theorem dX12_takeMark_32 : decode cX12_takeMark 32 = .ok (.getfield 158, 3) := by decide +kernel
theorem dX12_takeMark_35 : decode cX12_takeMark 35 = .ok (.ifCond .ne 28, 3) := by decide +kernel
theorem dX12_takeMark_38 : decode cX12_takeMark 38 = .ok (.aload_n 0, 1) := by decide +kernel
theorem dX12_takeMark_39 : decode cX12_takeMark 39 = .ok (.invokevirtual 165, 3) := by decide +kernel
theorem dX12_takeMark_42 : decode cX12_takeMark 42 = .ok (.bipush 47, 2) := by decide +kernel
theorem dX12_takeMark_44 : decode cX12_takeMark 44 = .ok (.if_icmp .ne 19, 3) := by decide +kernel
theorem dX12_takeMark_47 : decode cX12_takeMark 47 = .ok (.aload_n 0, 1) := by decide +kernel
theorem dX12_takeMark_48 : decode cX12_takeMark 48 = .ok (.dup, 1) := by decide +kernel
theorem dX12_takeMark_49 : decode cX12_takeMark 49 = .ok (.getfield 155, 3) := by decide +kernel
theorem dX12_takeMark_52 : decode cX12_takeMark 52 = .ok (.iconst 1, 1) := by decide +kernel
theorem dX12_takeMark_53 : decode cX12_takeMark 53 = .ok (.iadd, 1) := by decide +kernel
theorem dX12_takeMark_54 : decode cX12_takeMark 54 = .ok (.putfield 155, 3) := by decide +kernel
theorem dX12_takeMark_57 : decode cX12_takeMark 57 = .ok (.aload_n 0, 1) := by decide +kernel
theorem dX12_takeMark_58 : decode cX12_takeMark 58 = .ok (.iload_n 2, 1) := by decide +kernel
theorem dX12_takeMark_59 : decode cX12_takeMark 59 = .ok (.invokevirtual 216, 3) := by decide +kernel
theorem dX12_takeMark_62 : decode cX12_takeMark 62 = .ok (.istore_n 3, 1) := by decide +kernel
theorem dX12_takeMark_63 : decode cX12_takeMark 63 = .ok (.aload_n 0, 1) := by decide +kernel
theorem dX12_takeMark_64 : decode cX12_takeMark 64 = .ok (.getfield 158, 3) := by decide +kernel
theorem dX12_takeMark_67 : decode cX12_takeMark 67 = .ok (.ifCond .ne 13, 3) := by decide +kernel
theorem dX12_takeMark_70 : decode cX12_takeMark 70 = .ok (.aload_n 0, 1) := by decide +kernel
theorem dX12_takeMark_71 : decode cX12_takeMark 71 = .ok (.iconst 1, 1) := by decide +kernel
theorem dX12_takeMark_72 : decode cX12_takeMark 72 = .ok (.bipush 99, 2) := by decide +kernel
theorem dX12_takeMark_74 : decode cX12_takeMark 74 = .ok (.invokevirtual 220, 3) := by decide +kernel
theorem dX12_takeMark_77 : decode cX12_takeMark 77 = .ok (.goto 4, 3) := by decide +kernel
theorem dX12_takeMark_80 : decode cX12_takeMark 80 = .ok (.iconst 0, 1) := by decide +kernel
theorem dX12_takeMark_81 : decode cX12_takeMark 81 = .ok (.istore 4, 2) := by decide +kernel
theorem dX12_takeMark_83 : decode cX12_takeMark 83 = .ok (.iload 4, 2) := by decide +kernel
theorem dX12_takeMark_85 : decode cX12_takeMark 85 = .ok (.istore 5, 2) := by decide +kernel
theorem dX12_takeMark_87 : decode cX12_takeMark 87 = .ok (.aload_n 0, 1) := by decide +kernel
theorem dX12_takeMark_88 : decode cX12_takeMark 88 = .ok (.getfield 158, 3) := by decide +kernel
theorem dX12_takeMark_91 : decode cX12_takeMark 91 = .ok (.ifCond .ne 34, 3) := by decide +kernel
theorem dX12_takeMark_94 : decode cX12_takeMark 94 = .ok (.aload_n 0, 1) := by decide +kernel
theorem dX12_takeMark_95 : decode cX12_takeMark 95 = .ok (.invokevirtual 165, 3) := by decide +kernel
theorem dX12_takeMark_98 : decode cX12_takeMark 98 = .ok (.bipush 45, 2) := by decide +kernel
theorem dX12_takeMark_100 : decode cX12_takeMark 100 = .ok (.if_icmp .ne 25, 3) := by decide +kernel
theorem dX12_takeMark_103 : decode cX12_takeMark 103 = .ok (.aload_n 0, 1) := by decide +kernel
theorem dX12_takeMark_104 : decode cX12_takeMark 104 = .ok (.dup, 1) := by decide +kernel
theorem dX12_takeMark_105 : decode cX12_takeMark 105 = .ok (.getfield 155, 3) := by decide +kernel
theorem dX12_takeMark_108 : decode cX12_takeMark 108 = .ok (.iconst 1, 1) := by decide +kernel
theorem dX12_takeMark_109 : decode cX12_takeMark 109 = .ok (.iadd, 1) := by decide +kernel
theorem dX12_takeMark_110 : decode cX12_takeMark 110 = .ok (.putfield 155, 3) := by decide +kernel
theorem dX12_takeMark_113 : decode cX12_takeMark 113 = .ok (.aload_n 0, 1) := by decide +kernel
theorem dX12_takeMark_114 : decode cX12_takeMark 114 = .ok (.iload 4, 2) := by decide +kernel
theorem dX12_takeMark_116 : decode cX12_takeMark 116 = .ok (.iconst 1, 1) := by decide +kernel
theorem dX12_takeMark_117 : decode cX12_takeMark 117 = .ok (.iadd, 1) := by decide +kernel
theorem dX12_takeMark_118 : decode cX12_takeMark 118 = .ok (.bipush 99, 2) := by decide +kernel
theorem dX12_takeMark_120 : decode cX12_takeMark 120 = .ok (.invokevirtual 220, 3) := by decide +kernel
theorem dX12_takeMark_123 : decode cX12_takeMark 123 = .ok (.istore 5, 2) := by decide +kernel
theorem dX12_takeMark_125 : decode cX12_takeMark 125 = .ok (.iconst 0, 1) := by decide +kernel
theorem dX12_takeMark_126 : decode cX12_takeMark 126 = .ok (.istore 6, 2) := by decide +kernel
theorem dX12_takeMark_128 : decode cX12_takeMark 128 = .ok (.aload_n 0, 1) := by decide +kernel
theorem dX12_takeMark_129 : decode cX12_takeMark 129 = .ok (.getfield 158, 3) := by decide +kernel
theorem dX12_takeMark_132 : decode cX12_takeMark 132 = .ok (.ifCond .ne 42, 3) := by decide +kernel
theorem dX12_takeMark_135 : decode cX12_takeMark 135 = .ok (.aload_n 0, 1) := by decide +kernel
theorem dX12_takeMark_136 : decode cX12_takeMark 136 = .ok (.invokevirtual 165, 3) := by decide +kernel
theorem dX12_takeMark_139 : decode cX12_takeMark 139 = .ok (.invokestatic 172, 3) := by decide +kernel
theorem dX12_takeMark_142 : decode cX12_takeMark 142 = .ok (.ifCond .eq 32, 3) := by decide +kernel
theorem dX12_takeMark_145 : decode cX12_takeMark 145 = .ok (.aload_n 0, 1) := by decide +kernel
theorem dX12_takeMark_146 : decode cX12_takeMark 146 = .ok (.invokevirtual 181, 3) := by decide +kernel
theorem dX12_takeMark_149 : decode cX12_takeMark 149 = .ok (.aload_n 0, 1) := by decide +kernel
theorem dX12_takeMark_150 : decode cX12_takeMark 150 = .ok (.aload_n 0, 1) := by decide +kernel
theorem dX12_takeMark_151 : decode cX12_takeMark 151 = .ok (.iconst 4, 1) := by decide +kernel
theorem dX12_takeMark_152 : decode cX12_takeMark 152 = .ok (.bipush 109, 2) := by decide +kernel
theorem dX12_takeMark_154 : decode cX12_takeMark 154 = .ok (.bipush 97, 2) := by decide +kernel
theorem dX12_takeMark_156 : decode cX12_takeMark 156 = .ok (.bipush 105, 2) := by decide +kernel
theorem dX12_takeMark_158 : decode cX12_takeMark 158 = .ok (.bipush 110, 2) := by decide +kernel
theorem dX12_takeMark_160 : decode cX12_takeMark 160 = .ok (.iconst 0, 1) := by decide +kernel
theorem dX12_takeMark_161 : decode cX12_takeMark 161 = .ok (.invokevirtual 223, 3) := by decide +kernel
theorem dX12_takeMark_164 : decode cX12_takeMark 164 = .ok (.iconst 1, 1) := by decide +kernel
theorem dX12_takeMark_165 : decode cX12_takeMark 165 = .ok (.aload_n 0, 1) := by decide +kernel
theorem dX12_takeMark_166 : decode cX12_takeMark 166 = .ok (.getfield 169, 3) := by decide +kernel
theorem dX12_takeMark_169 : decode cX12_takeMark 169 = .ok (.invokevirtual 184, 3) := by decide +kernel
theorem dX12_takeMark_172 : decode cX12_takeMark 172 = .ok (.istore 6, 2) := by decide +kernel
theorem dX12_takeMark_174 : decode cX12_takeMark 174 = .ok (.aload_n 0, 1) := by decide +kernel
theorem dX12_takeMark_175 : decode cX12_takeMark 175 = .ok (.getfield 158, 3) := by decide +kernel
theorem dX12_takeMark_178 : decode cX12_takeMark 178 = .ok (.ifCond .ne 15, 3) := by decide +kernel
theorem dX12_takeMark_181 : decode cX12_takeMark 181 = .ok (.aload_n 0, 1) := by decide +kernel
theorem dX12_takeMark_182 : decode cX12_takeMark 182 = .ok (.iload_n 2, 1) := by decide +kernel
theorem dX12_takeMark_183 : decode cX12_takeMark 183 = .ok (.iload_n 3, 1) := by decide +kernel
theorem dX12_takeMark_184 : decode cX12_takeMark 184 = .ok (.iload 4, 2) := by decide +kernel
theorem dX12_takeMark_186 : decode cX12_takeMark 186 = .ok (.iload 5, 2) := by decide +kernel
theorem dX12_takeMark_188 : decode cX12_takeMark 188 = .ok (.iload 6, 2) := by decide +kernel
theorem dX12_takeMark_190 : decode cX12_takeMark 190 = .ok (.invokevirtual 227, 3) := by decide +kernel
theorem dX12_takeMark_193 : decode cX12_takeMark 193 = .ok (.return_, 1) := by decide +kernel
theorem dX12_lay_0 : decode cX12_lay 0 = .ok (.aload_n 0, 1) := by decide +kernel
theorem dX12_lay_1 : decode cX12_lay 1 = .ok (.getfield 28, 3) := by decide +kernel
theorem dX12_lay_4 : decode cX12_lay 4 = .ok (.aload_n 0, 1) := by decide +kernel
theorem dX12_lay_5 : decode cX12_lay 5 = .ok (.getfield 210, 3) := by decide +kernel
theorem dX12_lay_8 : decode cX12_lay 8 = .ok (.iload_n 1, 1) := by decide +kernel
theorem dX12_lay_9 : decode cX12_lay 9 = .ok (.iastore, 1) := by decide +kernel
theorem dX12_lay_10 : decode cX12_lay 10 = .ok (.aload_n 0, 1) := by decide +kernel
theorem dX12_lay_11 : decode cX12_lay 11 = .ok (.getfield 31, 3) := by decide +kernel
theorem dX12_lay_14 : decode cX12_lay 14 = .ok (.aload_n 0, 1) := by decide +kernel
theorem dX12_lay_15 : decode cX12_lay 15 = .ok (.getfield 210, 3) := by decide +kernel
theorem dX12_lay_18 : decode cX12_lay 18 = .ok (.iload_n 2, 1) := by decide +kernel
theorem dX12_lay_19 : decode cX12_lay 19 = .ok (.iastore, 1) := by decide +kernel
theorem dX12_lay_20 : decode cX12_lay 20 = .ok (.aload_n 0, 1) := by decide +kernel
theorem dX12_lay_21 : decode cX12_lay 21 = .ok (.getfield 34, 3) := by decide +kernel
theorem dX12_lay_24 : decode cX12_lay 24 = .ok (.aload_n 0, 1) := by decide +kernel
theorem dX12_lay_25 : decode cX12_lay 25 = .ok (.getfield 210, 3) := by decide +kernel
theorem dX12_lay_28 : decode cX12_lay 28 = .ok (.iload_n 3, 1) := by decide +kernel
theorem dX12_lay_29 : decode cX12_lay 29 = .ok (.iastore, 1) := by decide +kernel
theorem dX12_lay_30 : decode cX12_lay 30 = .ok (.aload_n 0, 1) := by decide +kernel
theorem dX12_lay_31 : decode cX12_lay 31 = .ok (.getfield 37, 3) := by decide +kernel
theorem dX12_lay_34 : decode cX12_lay 34 = .ok (.aload_n 0, 1) := by decide +kernel
theorem dX12_lay_35 : decode cX12_lay 35 = .ok (.getfield 210, 3) := by decide +kernel
theorem dX12_lay_38 : decode cX12_lay 38 = .ok (.iload 4, 2) := by decide +kernel
theorem dX12_lay_40 : decode cX12_lay 40 = .ok (.iastore, 1) := by decide +kernel
theorem dX12_lay_41 : decode cX12_lay 41 = .ok (.aload_n 0, 1) := by decide +kernel
theorem dX12_lay_42 : decode cX12_lay 42 = .ok (.getfield 40, 3) := by decide +kernel
theorem dX12_lay_45 : decode cX12_lay 45 = .ok (.aload_n 0, 1) := by decide +kernel
theorem dX12_lay_46 : decode cX12_lay 46 = .ok (.getfield 210, 3) := by decide +kernel
theorem dX12_lay_49 : decode cX12_lay 49 = .ok (.iload 5, 2) := by decide +kernel
theorem dX12_lay_51 : decode cX12_lay 51 = .ok (.bastore, 1) := by decide +kernel
theorem dX12_lay_52 : decode cX12_lay 52 = .ok (.aload_n 0, 1) := by decide +kernel
theorem dX12_lay_53 : decode cX12_lay 53 = .ok (.dup, 1) := by decide +kernel
theorem dX12_lay_54 : decode cX12_lay 54 = .ok (.getfield 210, 3) := by decide +kernel
theorem dX12_lay_57 : decode cX12_lay 57 = .ok (.iconst 1, 1) := by decide +kernel
theorem dX12_lay_58 : decode cX12_lay 58 = .ok (.iadd, 1) := by decide +kernel
theorem dX12_lay_59 : decode cX12_lay 59 = .ok (.putfield 210, 3) := by decide +kernel
theorem dX12_lay_62 : decode cX12_lay 62 = .ok (.return_, 1) := by decide +kernel
theorem dX12_takeSee_0 : decode cX12_takeSee 0 = .ok (.aload_n 0, 1) := by decide +kernel
theorem dX12_takeSee_1 : decode cX12_takeSee 1 = .ok (.aload_n 0, 1) := by decide +kernel
theorem dX12_takeSee_2 : decode cX12_takeSee 2 = .ok (.getfield 231, 3) := by decide +kernel
theorem dX12_takeSee_5 : decode cX12_takeSee 5 = .ok (.bipush 8, 2) := by decide +kernel
theorem dX12_takeSee_7 : decode cX12_takeSee 7 = .ok (.if_icmp .ge 7, 3) := by decide +kernel
theorem dX12_takeSee_10 : decode cX12_takeSee 10 = .ok (.iconst 1, 1) := by decide +kernel
theorem dX12_takeSee_11 : decode cX12_takeSee 11 = .ok (.goto 4, 3) := by decide +kernel
theorem dX12_takeSee_14 : decode cX12_takeSee 14 = .ok (.iconst 0, 1) := by decide +kernel
theorem dX12_takeSee_15 : decode cX12_takeSee 15 = .ok (.iconst 5, 1) := by decide +kernel
theorem dX12_takeSee_16 : decode cX12_takeSee 16 = .ok (.iload_n 1, 1) := by decide +kernel
theorem dX12_takeSee_17 : decode cX12_takeSee 17 = .ok (.invokevirtual 184, 3) := by decide +kernel
theorem dX12_takeSee_20 : decode cX12_takeSee 20 = .ok (.ifCond .ne 4, 3) := by decide +kernel
theorem dX12_takeSee_23 : decode cX12_takeSee 23 = .ok (.return_, 1) := by decide +kernel
theorem dX12_takeSee_24 : decode cX12_takeSee 24 = .ok (.aload_n 0, 1) := by decide +kernel
theorem dX12_takeSee_25 : decode cX12_takeSee 25 = .ok (.invokevirtual 213, 3) := by decide +kernel
theorem dX12_takeSee_28 : decode cX12_takeSee 28 = .ok (.istore_n 2, 1) := by decide +kernel
theorem dX12_takeSee_29 : decode cX12_takeSee 29 = .ok (.aload_n 0, 1) := by decide +kernel
theorem dX12_takeSee_30 : decode cX12_takeSee 30 = .ok (.getfield 158, 3) := by decide +kernel
theorem dX12_takeSee_33 : decode cX12_takeSee 33 = .ok (.ifCond .ne 82, 3) := by decide +kernel
theorem dX12_takeSee_36 : decode cX12_takeSee 36 = .ok (.aload_n 0, 1) := by decide +kernel
theorem dX12_takeSee_37 : decode cX12_takeSee 37 = .ok (.aload_n 0, 1) := by decide +kernel
theorem dX12_takeSee_38 : decode cX12_takeSee 38 = .ok (.getfield 19, 3) := by decide +kernel
theorem dX12_takeSee_41 : decode cX12_takeSee 41 = .ok (.iload_n 2, 1) := by decide +kernel
theorem dX12_takeSee_42 : decode cX12_takeSee 42 = .ok (.iaload, 1) := by decide +kernel
theorem dX12_takeSee_43 : decode cX12_takeSee 43 = .ok (.ifCond .ge 7, 3) := by decide +kernel
theorem dX12_takeSee_46 : decode cX12_takeSee 46 = .ok (.iconst 1, 1) := by decide +kernel
theorem dX12_takeSee_47 : decode cX12_takeSee 47 = .ok (.goto 4, 3) := by decide +kernel
theorem dX12_takeSee_50 : decode cX12_takeSee 50 = .ok (.iconst 0, 1) := by decide +kernel
theorem dX12_takeSee_51 : decode cX12_takeSee 51 = .ok (.bipush 6, 2) := by decide +kernel
theorem dX12_takeSee_53 : decode cX12_takeSee 53 = .ok (.aload_n 0, 1) := by decide +kernel
theorem dX12_takeSee_54 : decode cX12_takeSee 54 = .ok (.getfield 169, 3) := by decide +kernel
theorem dX12_takeSee_57 : decode cX12_takeSee 57 = .ok (.invokevirtual 184, 3) := by decide +kernel
theorem dX12_takeSee_60 : decode cX12_takeSee 60 = .ok (.ifCond .eq 55, 3) := by decide +kernel
theorem dX12_takeSee_63 : decode cX12_takeSee 63 = .ok (.aload_n 0, 1) := by decide +kernel
theorem dX12_takeSee_64 : decode cX12_takeSee 64 = .ok (.invokevirtual 213, 3) := by decide +kernel
theorem dX12_takeSee_67 : decode cX12_takeSee 67 = .ok (.istore_n 3, 1) := by decide +kernel
theorem dX12_takeSee_68 : decode cX12_takeSee 68 = .ok (.aload_n 0, 1) := by decide +kernel
theorem dX12_takeSee_69 : decode cX12_takeSee 69 = .ok (.getfield 158, 3) := by decide +kernel
theorem dX12_takeSee_72 : decode cX12_takeSee 72 = .ok (.ifCond .ne 43, 3) := by decide +kernel
theorem dX12_takeSee_75 : decode cX12_takeSee 75 = .ok (.aload_n 0, 1) := by decide +kernel
theorem dX12_takeSee_76 : decode cX12_takeSee 76 = .ok (.iload_n 3, 1) := by decide +kernel
theorem dX12_takeSee_77 : decode cX12_takeSee 77 = .ok (.iload_n 2, 1) := by decide +kernel
theorem dX12_takeSee_78 : decode cX12_takeSee 78 = .ok (.if_icmp .eq 7, 3) := by decide +kernel
theorem dX12_takeSee_81 : decode cX12_takeSee 81 = .ok (.iconst 1, 1) := by decide +kernel
theorem dX12_takeSee_82 : decode cX12_takeSee 82 = .ok (.goto 4, 3) := by decide +kernel
theorem dX12_takeSee_85 : decode cX12_takeSee 85 = .ok (.iconst 0, 1) := by decide +kernel
theorem dX12_takeSee_86 : decode cX12_takeSee 86 = .ok (.bipush 6, 2) := by decide +kernel
theorem dX12_takeSee_88 : decode cX12_takeSee 88 = .ok (.aload_n 0, 1) := by decide +kernel
theorem dX12_takeSee_89 : decode cX12_takeSee 89 = .ok (.getfield 169, 3) := by decide +kernel
theorem dX12_takeSee_92 : decode cX12_takeSee 92 = .ok (.invokevirtual 184, 3) := by decide +kernel
theorem dX12_takeSee_95 : decode cX12_takeSee 95 = .ok (.ifCond .eq 20, 3) := by decide +kernel
theorem dX12_takeSee_98 : decode cX12_takeSee 98 = .ok (.aload_n 0, 1) := by decide +kernel
theorem dX12_takeSee_99 : decode cX12_takeSee 99 = .ok (.getfield 19, 3) := by decide +kernel
theorem dX12_takeSee_102 : decode cX12_takeSee 102 = .ok (.iload_n 2, 1) := by decide +kernel
theorem dX12_takeSee_103 : decode cX12_takeSee 103 = .ok (.iload_n 3, 1) := by decide +kernel
theorem dX12_takeSee_104 : decode cX12_takeSee 104 = .ok (.iastore, 1) := by decide +kernel
theorem dX12_takeSee_105 : decode cX12_takeSee 105 = .ok (.aload_n 0, 1) := by decide +kernel
theorem dX12_takeSee_106 : decode cX12_takeSee 106 = .ok (.dup, 1) := by decide +kernel
theorem dX12_takeSee_107 : decode cX12_takeSee 107 = .ok (.getfield 231, 3) := by decide +kernel
theorem dX12_takeSee_110 : decode cX12_takeSee 110 = .ok (.iconst 1, 1) := by decide +kernel
theorem dX12_takeSee_111 : decode cX12_takeSee 111 = .ok (.iadd, 1) := by decide +kernel
theorem dX12_takeSee_112 : decode cX12_takeSee 112 = .ok (.putfield 231, 3) := by decide +kernel
theorem dX12_takeSee_115 : decode cX12_takeSee 115 = .ok (.return_, 1) := by decide +kernel
theorem dX12_takeAlso_0 : decode cX12_takeAlso 0 = .ok (.aload_n 0, 1) := by decide +kernel
theorem dX12_takeAlso_1 : decode cX12_takeAlso 1 = .ok (.aload_n 0, 1) := by decide +kernel
theorem dX12_takeAlso_2 : decode cX12_takeAlso 2 = .ok (.getfield 234, 3) := by decide +kernel
theorem dX12_takeAlso_5 : decode cX12_takeAlso 5 = .ok (.bipush 8, 2) := by decide +kernel
theorem dX12_takeAlso_7 : decode cX12_takeAlso 7 = .ok (.if_icmp .ge 7, 3) := by decide +kernel
theorem dX12_takeAlso_10 : decode cX12_takeAlso 10 = .ok (.iconst 1, 1) := by decide +kernel
theorem dX12_takeAlso_11 : decode cX12_takeAlso 11 = .ok (.goto 4, 3) := by decide +kernel
theorem dX12_takeAlso_14 : decode cX12_takeAlso 14 = .ok (.iconst 0, 1) := by decide +kernel
theorem dX12_takeAlso_15 : decode cX12_takeAlso 15 = .ok (.iconst 5, 1) := by decide +kernel
theorem dX12_takeAlso_16 : decode cX12_takeAlso 16 = .ok (.iload_n 1, 1) := by decide +kernel
theorem dX12_takeAlso_17 : decode cX12_takeAlso 17 = .ok (.invokevirtual 184, 3) := by decide +kernel
theorem dX12_takeAlso_20 : decode cX12_takeAlso 20 = .ok (.ifCond .ne 4, 3) := by decide +kernel
theorem dX12_takeAlso_23 : decode cX12_takeAlso 23 = .ok (.return_, 1) := by decide +kernel
theorem dX12_takeAlso_24 : decode cX12_takeAlso 24 = .ok (.aload_n 0, 1) := by decide +kernel
theorem dX12_takeAlso_25 : decode cX12_takeAlso 25 = .ok (.invokevirtual 213, 3) := by decide +kernel
theorem dX12_takeAlso_28 : decode cX12_takeAlso 28 = .ok (.istore_n 2, 1) := by decide +kernel
theorem dX12_takeAlso_29 : decode cX12_takeAlso 29 = .ok (.aload_n 0, 1) := by decide +kernel
theorem dX12_takeAlso_30 : decode cX12_takeAlso 30 = .ok (.getfield 158, 3) := by decide +kernel
theorem dX12_takeAlso_33 : decode cX12_takeAlso 33 = .ok (.ifCond .ne 10, 3) := by decide +kernel
theorem dX12_takeAlso_36 : decode cX12_takeAlso 36 = .ok (.aload_n 0, 1) := by decide +kernel
theorem dX12_takeAlso_37 : decode cX12_takeAlso 37 = .ok (.invokevirtual 213, 3) := by decide +kernel
theorem dX12_takeAlso_40 : decode cX12_takeAlso 40 = .ok (.goto 4, 3) := by decide +kernel
theorem dX12_takeAlso_43 : decode cX12_takeAlso 43 = .ok (.iconst 0, 1) := by decide +kernel
theorem dX12_takeAlso_44 : decode cX12_takeAlso 44 = .ok (.istore_n 3, 1) := by decide +kernel
theorem dX12_takeAlso_45 : decode cX12_takeAlso 45 = .ok (.aload_n 0, 1) := by decide +kernel
theorem dX12_takeAlso_46 : decode cX12_takeAlso 46 = .ok (.getfield 158, 3) := by decide +kernel
theorem dX12_takeAlso_49 : decode cX12_takeAlso 49 = .ok (.ifCond .ne 61, 3) := by decide +kernel
theorem dX12_takeAlso_52 : decode cX12_takeAlso 52 = .ok (.aload_n 0, 1) := by decide +kernel
theorem dX12_takeAlso_53 : decode cX12_takeAlso 53 = .ok (.iload_n 3, 1) := by decide +kernel
theorem dX12_takeAlso_54 : decode cX12_takeAlso 54 = .ok (.iload_n 2, 1) := by decide +kernel
theorem dX12_takeAlso_55 : decode cX12_takeAlso 55 = .ok (.if_icmp .eq 20, 3) := by decide +kernel
theorem dX12_takeAlso_58 : decode cX12_takeAlso 58 = .ok (.aload_n 0, 1) := by decide +kernel
theorem dX12_takeAlso_59 : decode cX12_takeAlso 59 = .ok (.getfield 22, 3) := by decide +kernel
theorem dX12_takeAlso_62 : decode cX12_takeAlso 62 = .ok (.iload_n 2, 1) := by decide +kernel
theorem dX12_takeAlso_63 : decode cX12_takeAlso 63 = .ok (.iaload, 1) := by decide +kernel
theorem dX12_takeAlso_64 : decode cX12_takeAlso 64 = .ok (.iload_n 3, 1) := by decide +kernel
theorem dX12_takeAlso_65 : decode cX12_takeAlso 65 = .ok (.invokestatic 237, 3) := by decide +kernel
theorem dX12_takeAlso_68 : decode cX12_takeAlso 68 = .ok (.ifCond .ne 7, 3) := by decide +kernel
theorem dX12_takeAlso_71 : decode cX12_takeAlso 71 = .ok (.iconst 1, 1) := by decide +kernel
theorem dX12_takeAlso_72 : decode cX12_takeAlso 72 = .ok (.goto 4, 3) := by decide +kernel
theorem dX12_takeAlso_75 : decode cX12_takeAlso 75 = .ok (.iconst 0, 1) := by decide +kernel
theorem dX12_takeAlso_76 : decode cX12_takeAlso 76 = .ok (.bipush 6, 2) := by decide +kernel
theorem dX12_takeAlso_78 : decode cX12_takeAlso 78 = .ok (.aload_n 0, 1) := by decide +kernel
theorem dX12_takeAlso_79 : decode cX12_takeAlso 79 = .ok (.getfield 169, 3) := by decide +kernel
theorem dX12_takeAlso_82 : decode cX12_takeAlso 82 = .ok (.invokevirtual 184, 3) := by decide +kernel
theorem dX12_takeAlso_85 : decode cX12_takeAlso 85 = .ok (.ifCond .eq 25, 3) := by decide +kernel
theorem dX12_takeAlso_88 : decode cX12_takeAlso 88 = .ok (.aload_n 0, 1) := by decide +kernel
theorem dX12_takeAlso_89 : decode cX12_takeAlso 89 = .ok (.getfield 22, 3) := by decide +kernel
theorem dX12_takeAlso_92 : decode cX12_takeAlso 92 = .ok (.iload_n 2, 1) := by decide +kernel
theorem dX12_takeAlso_93 : decode cX12_takeAlso 93 = .ok (.dup2, 1) := by decide +kernel
theorem dX12_takeAlso_94 : decode cX12_takeAlso 94 = .ok (.iaload, 1) := by decide +kernel
theorem dX12_takeAlso_95 : decode cX12_takeAlso 95 = .ok (.iconst 1, 1) := by decide +kernel
theorem dX12_takeAlso_96 : decode cX12_takeAlso 96 = .ok (.iload_n 3, 1) := by decide +kernel
theorem dX12_takeAlso_97 : decode cX12_takeAlso 97 = .ok (.ishl, 1) := by decide +kernel
theorem dX12_takeAlso_98 : decode cX12_takeAlso 98 = .ok (.ior, 1) := by decide +kernel
theorem dX12_takeAlso_99 : decode cX12_takeAlso 99 = .ok (.iastore, 1) := by decide +kernel
theorem dX12_takeAlso_100 : decode cX12_takeAlso 100 = .ok (.aload_n 0, 1) := by decide +kernel
theorem dX12_takeAlso_101 : decode cX12_takeAlso 101 = .ok (.dup, 1) := by decide +kernel
theorem dX12_takeAlso_102 : decode cX12_takeAlso 102 = .ok (.getfield 234, 3) := by decide +kernel
theorem dX12_takeAlso_105 : decode cX12_takeAlso 105 = .ok (.iconst 1, 1) := by decide +kernel
theorem dX12_takeAlso_106 : decode cX12_takeAlso 106 = .ok (.iadd, 1) := by decide +kernel
theorem dX12_takeAlso_107 : decode cX12_takeAlso 107 = .ok (.putfield 234, 3) := by decide +kernel
theorem dX12_takeAlso_110 : decode cX12_takeAlso 110 = .ok (.return_, 1) := by decide +kernel
theorem dX12_takeAsked_0 : decode cX12_takeAsked 0 = .ok (.aload_n 0, 1) := by decide +kernel
theorem dX12_takeAsked_1 : decode cX12_takeAsked 1 = .ok (.invokevirtual 213, 3) := by decide +kernel
theorem dX12_takeAsked_4 : decode cX12_takeAsked 4 = .ok (.istore_n 1, 1) := by decide +kernel
theorem dX12_takeAsked_5 : decode cX12_takeAsked 5 = .ok (.aload_n 0, 1) := by decide +kernel
theorem dX12_takeAsked_6 : decode cX12_takeAsked 6 = .ok (.getfield 158, 3) := by decide +kernel
theorem dX12_takeAsked_9 : decode cX12_takeAsked 9 = .ok (.ifCond .ne 57, 3) := by decide +kernel
theorem dX12_takeAsked_12 : decode cX12_takeAsked 12 = .ok (.aload_n 0, 1) := by decide +kernel
theorem dX12_takeAsked_13 : decode cX12_takeAsked 13 = .ok (.aload_n 0, 1) := by decide +kernel
theorem dX12_takeAsked_14 : decode cX12_takeAsked 14 = .ok (.getfield 241, 3) := by decide +kernel
theorem dX12_takeAsked_17 : decode cX12_takeAsked 17 = .ok (.iload_n 1, 1) := by decide +kernel
theorem dX12_takeAsked_18 : decode cX12_takeAsked 18 = .ok (.invokestatic 237, 3) := by decide +kernel
theorem dX12_takeAsked_21 : decode cX12_takeAsked 21 = .ok (.ifCond .ne 7, 3) := by decide +kernel
theorem dX12_takeAsked_24 : decode cX12_takeAsked 24 = .ok (.iconst 1, 1) := by decide +kernel
theorem dX12_takeAsked_25 : decode cX12_takeAsked 25 = .ok (.goto 4, 3) := by decide +kernel
theorem dX12_takeAsked_28 : decode cX12_takeAsked 28 = .ok (.iconst 0, 1) := by decide +kernel
theorem dX12_takeAsked_29 : decode cX12_takeAsked 29 = .ok (.bipush 6, 2) := by decide +kernel
theorem dX12_takeAsked_31 : decode cX12_takeAsked 31 = .ok (.aload_n 0, 1) := by decide +kernel
theorem dX12_takeAsked_32 : decode cX12_takeAsked 32 = .ok (.getfield 169, 3) := by decide +kernel
theorem dX12_takeAsked_35 : decode cX12_takeAsked 35 = .ok (.invokevirtual 184, 3) := by decide +kernel
theorem dX12_takeAsked_38 : decode cX12_takeAsked 38 = .ok (.ifCond .eq 28, 3) := by decide +kernel
theorem dX12_takeAsked_41 : decode cX12_takeAsked 41 = .ok (.aload_n 0, 1) := by decide +kernel
theorem dX12_takeAsked_42 : decode cX12_takeAsked 42 = .ok (.dup, 1) := by decide +kernel
theorem dX12_takeAsked_43 : decode cX12_takeAsked 43 = .ok (.getfield 241, 3) := by decide +kernel
theorem dX12_takeAsked_46 : decode cX12_takeAsked 46 = .ok (.iconst 1, 1) := by decide +kernel
theorem dX12_takeAsked_47 : decode cX12_takeAsked 47 = .ok (.iload_n 1, 1) := by decide +kernel
theorem dX12_takeAsked_48 : decode cX12_takeAsked 48 = .ok (.ishl, 1) := by decide +kernel
theorem dX12_takeAsked_49 : decode cX12_takeAsked 49 = .ok (.ior, 1) := by decide +kernel
theorem dX12_takeAsked_50 : decode cX12_takeAsked 50 = .ok (.putfield 241, 3) := by decide +kernel
theorem dX12_takeAsked_53 : decode cX12_takeAsked 53 = .ok (.aload_n 0, 1) := by decide +kernel
theorem dX12_takeAsked_54 : decode cX12_takeAsked 54 = .ok (.getfield 25, 3) := by decide +kernel
theorem dX12_takeAsked_57 : decode cX12_takeAsked 57 = .ok (.iload_n 1, 1) := by decide +kernel
theorem dX12_takeAsked_58 : decode cX12_takeAsked 58 = .ok (.aload_n 0, 1) := by decide +kernel
theorem dX12_takeAsked_59 : decode cX12_takeAsked 59 = .ok (.iconst 0, 1) := by decide +kernel
theorem dX12_takeAsked_60 : decode cX12_takeAsked 60 = .ok (.bipush 99, 2) := by decide +kernel
theorem dX12_takeAsked_62 : decode cX12_takeAsked 62 = .ok (.invokevirtual 220, 3) := by decide +kernel
theorem dX12_takeAsked_65 : decode cX12_takeAsked 65 = .ok (.iastore, 1) := by decide +kernel
theorem dX12_takeAsked_66 : decode cX12_takeAsked 66 = .ok (.return_, 1) := by decide +kernel
theorem dX12_takeClause_0 : decode cX12_takeClause 0 = .ok (.aload_n 0, 1) := by decide +kernel
theorem dX12_takeClause_1 : decode cX12_takeClause 1 = .ok (.invokevirtual 181, 3) := by decide +kernel
theorem dX12_takeClause_4 : decode cX12_takeClause 4 = .ok (.aload_n 0, 1) := by decide +kernel
theorem dX12_takeClause_5 : decode cX12_takeClause 5 = .ok (.getfield 169, 3) := by decide +kernel
theorem dX12_takeClause_8 : decode cX12_takeClause 8 = .ok (.istore_n 1, 1) := by decide +kernel
theorem dX12_takeClause_9 : decode cX12_takeClause 9 = .ok (.aload_n 0, 1) := by decide +kernel
theorem dX12_takeClause_10 : decode cX12_takeClause 10 = .ok (.iconst 4, 1) := by decide +kernel
theorem dX12_takeClause_11 : decode cX12_takeClause 11 = .ok (.bipush 109, 2) := by decide +kernel
theorem dX12_takeClause_13 : decode cX12_takeClause 13 = .ok (.bipush 97, 2) := by decide +kernel
theorem dX12_takeClause_15 : decode cX12_takeClause 15 = .ok (.bipush 114, 2) := by decide +kernel
theorem dX12_takeClause_17 : decode cX12_takeClause 17 = .ok (.bipush 107, 2) := by decide +kernel
theorem dX12_takeClause_19 : decode cX12_takeClause 19 = .ok (.iconst 0, 1) := by decide +kernel
theorem dX12_takeClause_20 : decode cX12_takeClause 20 = .ok (.invokevirtual 223, 3) := by decide +kernel
theorem dX12_takeClause_23 : decode cX12_takeClause 23 = .ok (.ifCond .eq 11, 3) := by decide +kernel
theorem dX12_takeClause_26 : decode cX12_takeClause 26 = .ok (.aload_n 0, 1) := by decide +kernel
theorem dX12_takeClause_27 : decode cX12_takeClause 27 = .ok (.iload_n 1, 1) := by decide +kernel
theorem dX12_takeClause_28 : decode cX12_takeClause 28 = .ok (.invokevirtual 244, 3) := by decide +kernel
theorem dX12_takeClause_31 : decode cX12_takeClause 31 = .ok (.goto 80, 3) := by decide +kernel
theorem dX12_takeClause_34 : decode cX12_takeClause 34 = .ok (.aload_n 0, 1) := by decide +kernel
theorem dX12_takeClause_35 : decode cX12_takeClause 35 = .ok (.iconst 3, 1) := by decide +kernel
theorem dX12_takeClause_36 : decode cX12_takeClause 36 = .ok (.bipush 115, 2) := by decide +kernel
theorem dX12_takeClause_38 : decode cX12_takeClause 38 = .ok (.bipush 101, 2) := by decide +kernel
theorem dX12_takeClause_40 : decode cX12_takeClause 40 = .ok (.bipush 101, 2) := by decide +kernel
theorem dX12_takeClause_42 : decode cX12_takeClause 42 = .ok (.iconst 0, 1) := by decide +kernel
theorem dX12_takeClause_43 : decode cX12_takeClause 43 = .ok (.iconst 0, 1) := by decide +kernel
theorem dX12_takeClause_44 : decode cX12_takeClause 44 = .ok (.invokevirtual 223, 3) := by decide +kernel
theorem dX12_takeClause_47 : decode cX12_takeClause 47 = .ok (.ifCond .eq 11, 3) := by decide +kernel
theorem dX12_takeClause_50 : decode cX12_takeClause 50 = .ok (.aload_n 0, 1) := by decide +kernel
theorem dX12_takeClause_51 : decode cX12_takeClause 51 = .ok (.iload_n 1, 1) := by decide +kernel
theorem dX12_takeClause_52 : decode cX12_takeClause 52 = .ok (.invokevirtual 247, 3) := by decide +kernel
theorem dX12_takeClause_55 : decode cX12_takeClause 55 = .ok (.goto 56, 3) := by decide +kernel
theorem dX12_takeClause_58 : decode cX12_takeClause 58 = .ok (.aload_n 0, 1) := by decide +kernel
theorem dX12_takeClause_59 : decode cX12_takeClause 59 = .ok (.iconst 4, 1) := by decide +kernel
theorem dX12_takeClause_60 : decode cX12_takeClause 60 = .ok (.bipush 97, 2) := by decide +kernel
theorem dX12_takeClause_62 : decode cX12_takeClause 62 = .ok (.bipush 108, 2) := by decide +kernel
theorem dX12_takeClause_64 : decode cX12_takeClause 64 = .ok (.bipush 115, 2) := by decide +kernel
theorem dX12_takeClause_66 : decode cX12_takeClause 66 = .ok (.bipush 111, 2) := by decide +kernel
theorem dX12_takeClause_68 : decode cX12_takeClause 68 = .ok (.iconst 0, 1) := by decide +kernel
theorem dX12_takeClause_69 : decode cX12_takeClause 69 = .ok (.invokevirtual 223, 3) := by decide +kernel
theorem dX12_takeClause_72 : decode cX12_takeClause 72 = .ok (.ifCond .eq 11, 3) := by decide +kernel
theorem dX12_takeClause_75 : decode cX12_takeClause 75 = .ok (.aload_n 0, 1) := by decide +kernel
theorem dX12_takeClause_76 : decode cX12_takeClause 76 = .ok (.iload_n 1, 1) := by decide +kernel
theorem dX12_takeClause_77 : decode cX12_takeClause 77 = .ok (.invokevirtual 250, 3) := by decide +kernel
theorem dX12_takeClause_80 : decode cX12_takeClause 80 = .ok (.goto 31, 3) := by decide +kernel
theorem dX12_takeClause_83 : decode cX12_takeClause 83 = .ok (.aload_n 0, 1) := by decide +kernel
theorem dX12_takeClause_84 : decode cX12_takeClause 84 = .ok (.aload_n 0, 1) := by decide +kernel
theorem dX12_takeClause_85 : decode cX12_takeClause 85 = .ok (.iconst 5, 1) := by decide +kernel
theorem dX12_takeClause_86 : decode cX12_takeClause 86 = .ok (.bipush 97, 2) := by decide +kernel
theorem dX12_takeClause_88 : decode cX12_takeClause 88 = .ok (.bipush 115, 2) := by decide +kernel
theorem dX12_takeClause_90 : decode cX12_takeClause 90 = .ok (.bipush 107, 2) := by decide +kernel
theorem dX12_takeClause_92 : decode cX12_takeClause 92 = .ok (.bipush 101, 2) := by decide +kernel
theorem dX12_takeClause_94 : decode cX12_takeClause 94 = .ok (.bipush 100, 2) := by decide +kernel
theorem dX12_takeClause_96 : decode cX12_takeClause 96 = .ok (.invokevirtual 223, 3) := by decide +kernel
theorem dX12_takeClause_99 : decode cX12_takeClause 99 = .ok (.iconst 1, 1) := by decide +kernel
theorem dX12_takeClause_100 : decode cX12_takeClause 100 = .ok (.iload_n 1, 1) := by decide +kernel
theorem dX12_takeClause_101 : decode cX12_takeClause 101 = .ok (.invokevirtual 184, 3) := by decide +kernel
theorem dX12_takeClause_104 : decode cX12_takeClause 104 = .ok (.ifCond .eq 7, 3) := by decide +kernel
theorem dX12_takeClause_107 : decode cX12_takeClause 107 = .ok (.aload_n 0, 1) := by decide +kernel
theorem dX12_takeClause_108 : decode cX12_takeClause 108 = .ok (.invokevirtual 253, 3) := by decide +kernel
theorem dX12_takeClause_111 : decode cX12_takeClause 111 = .ok (.aload_n 0, 1) := by decide +kernel
theorem dX12_takeClause_112 : decode cX12_takeClause 112 = .ok (.getfield 158, 3) := by decide +kernel
theorem dX12_takeClause_115 : decode cX12_takeClause 115 = .ok (.ifCond .ne 39, 3) := by decide +kernel
theorem dX12_takeClause_118 : decode cX12_takeClause 118 = .ok (.aload_n 0, 1) := by decide +kernel
theorem dX12_takeClause_119 : decode cX12_takeClause 119 = .ok (.aload_n 0, 1) := by decide +kernel
theorem dX12_takeClause_120 : decode cX12_takeClause 120 = .ok (.invokevirtual 165, 3) := by decide +kernel
theorem dX12_takeClause_123 : decode cX12_takeClause 123 = .ok (.bipush 59, 2) := by decide +kernel
theorem dX12_takeClause_125 : decode cX12_takeClause 125 = .ok (.if_icmp .ne 7, 3) := by decide +kernel
theorem dX12_takeClause_128 : decode cX12_takeClause 128 = .ok (.iconst 1, 1) := by decide +kernel
theorem dX12_takeClause_129 : decode cX12_takeClause 129 = .ok (.goto 4, 3) := by decide +kernel
theorem dX12_takeClause_132 : decode cX12_takeClause 132 = .ok (.iconst 0, 1) := by decide +kernel
theorem dX12_takeClause_133 : decode cX12_takeClause 133 = .ok (.iconst 1, 1) := by decide +kernel
theorem dX12_takeClause_134 : decode cX12_takeClause 134 = .ok (.aload_n 0, 1) := by decide +kernel
theorem dX12_takeClause_135 : decode cX12_takeClause 135 = .ok (.getfield 155, 3) := by decide +kernel
theorem dX12_takeClause_138 : decode cX12_takeClause 138 = .ok (.invokevirtual 184, 3) := by decide +kernel
theorem dX12_takeClause_141 : decode cX12_takeClause 141 = .ok (.ifCond .eq 13, 3) := by decide +kernel
theorem dX12_takeClause_144 : decode cX12_takeClause 144 = .ok (.aload_n 0, 1) := by decide +kernel
theorem dX12_takeClause_145 : decode cX12_takeClause 145 = .ok (.dup, 1) := by decide +kernel
theorem dX12_takeClause_146 : decode cX12_takeClause 146 = .ok (.getfield 155, 3) := by decide +kernel
theorem dX12_takeClause_149 : decode cX12_takeClause 149 = .ok (.iconst 1, 1) := by decide +kernel
theorem dX12_takeClause_150 : decode cX12_takeClause 150 = .ok (.iadd, 1) := by decide +kernel
theorem dX12_takeClause_151 : decode cX12_takeClause 151 = .ok (.putfield 155, 3) := by decide +kernel
theorem dX12_takeClause_154 : decode cX12_takeClause 154 = .ok (.return_, 1) := by decide +kernel
theorem dX12_read_0 : decode cX12_read 0 = .ok (.aload_n 0, 1) := by decide +kernel
theorem dX12_read_1 : decode cX12_read 1 = .ok (.iconst 2, 1) := by decide +kernel
theorem dX12_read_2 : decode cX12_read 2 = .ok (.invokevirtual 256, 3) := by decide +kernel
theorem dX12_read_5 : decode cX12_read 5 = .ok (.aload_n 0, 1) := by decide +kernel
theorem dX12_read_6 : decode cX12_read 6 = .ok (.iconst 0, 1) := by decide +kernel
theorem dX12_read_7 : decode cX12_read 7 = .ok (.putfield 155, 3) := by decide +kernel
theorem dX12_read_10 : decode cX12_read 10 = .ok (.aload_n 0, 1) := by decide +kernel
theorem dX12_read_11 : decode cX12_read 11 = .ok (.iconst 0, 1) := by decide +kernel
theorem dX12_read_12 : decode cX12_read 12 = .ok (.putfield 158, 3) := by decide +kernel
theorem dX12_read_15 : decode cX12_read 15 = .ok (.aload_n 0, 1) := by decide +kernel
theorem dX12_read_16 : decode cX12_read 16 = .ok (.iconst (-1), 1) := by decide +kernel
theorem dX12_read_17 : decode cX12_read 17 = .ok (.putfield 47, 3) := by decide +kernel
theorem dX12_read_20 : decode cX12_read 20 = .ok (.aload_n 0, 1) := by decide +kernel
theorem dX12_read_21 : decode cX12_read 21 = .ok (.iconst 0, 1) := by decide +kernel
theorem dX12_read_22 : decode cX12_read 22 = .ok (.putfield 192, 3) := by decide +kernel
theorem dX12_read_25 : decode cX12_read 25 = .ok (.aload_n 0, 1) := by decide +kernel
theorem dX12_read_26 : decode cX12_read 26 = .ok (.iconst 0, 1) := by decide +kernel
theorem dX12_read_27 : decode cX12_read 27 = .ok (.putfield 210, 3) := by decide +kernel
theorem dX12_read_30 : decode cX12_read 30 = .ok (.aload_n 0, 1) := by decide +kernel
theorem dX12_read_31 : decode cX12_read 31 = .ok (.iconst 0, 1) := by decide +kernel
theorem dX12_read_32 : decode cX12_read 32 = .ok (.putfield 231, 3) := by decide +kernel
theorem dX12_read_35 : decode cX12_read 35 = .ok (.aload_n 0, 1) := by decide +kernel
theorem dX12_read_36 : decode cX12_read 36 = .ok (.iconst 0, 1) := by decide +kernel
theorem dX12_read_37 : decode cX12_read 37 = .ok (.putfield 234, 3) := by decide +kernel
theorem dX12_read_40 : decode cX12_read 40 = .ok (.aload_n 0, 1) := by decide +kernel
theorem dX12_read_41 : decode cX12_read 41 = .ok (.iconst 0, 1) := by decide +kernel
theorem dX12_read_42 : decode cX12_read 42 = .ok (.putfield 241, 3) := by decide +kernel
theorem dX12_read_45 : decode cX12_read 45 = .ok (.aload_n 0, 1) := by decide +kernel
theorem dX12_read_46 : decode cX12_read 46 = .ok (.getfield 158, 3) := by decide +kernel
theorem dX12_read_49 : decode cX12_read 49 = .ok (.ifCond .ne 17, 3) := by decide +kernel
theorem dX12_read_52 : decode cX12_read 52 = .ok (.aload_n 0, 1) := by decide +kernel
theorem dX12_read_53 : decode cX12_read 53 = .ok (.invokevirtual 165, 3) := by decide +kernel
theorem dX12_read_56 : decode cX12_read 56 = .ok (.ifCond .lt 10, 3) := by decide +kernel
theorem dX12_read_59 : decode cX12_read 59 = .ok (.aload_n 0, 1) := by decide +kernel
theorem dX12_read_60 : decode cX12_read 60 = .ok (.invokevirtual 259, 3) := by decide +kernel
theorem dX12_read_63 : decode cX12_read 63 = .ok (.goto (-18), 3) := by decide +kernel
theorem dX12_read_66 : decode cX12_read 66 = .ok (.aload_n 0, 1) := by decide +kernel
theorem dX12_read_67 : decode cX12_read 67 = .ok (.iconst 0, 1) := by decide +kernel
theorem dX12_read_68 : decode cX12_read 68 = .ok (.putfield 150, 3) := by decide +kernel
theorem dX12_read_71 : decode cX12_read 71 = .ok (.aload_n 0, 1) := by decide +kernel
theorem dX12_read_72 : decode cX12_read 72 = .ok (.getfield 158, 3) := by decide +kernel
theorem dX12_read_75 : decode cX12_read 75 = .ok (.ifCond .le 16, 3) := by decide +kernel
theorem dX12_read_78 : decode cX12_read 78 = .ok (.aload_n 0, 1) := by decide +kernel
theorem dX12_read_79 : decode cX12_read 79 = .ok (.iconst 2, 1) := by decide +kernel
theorem dX12_read_80 : decode cX12_read 80 = .ok (.invokevirtual 262, 3) := by decide +kernel
theorem dX12_read_83 : decode cX12_read 83 = .ok (.bipush (-10), 2) := by decide +kernel
theorem dX12_read_85 : decode cX12_read 85 = .ok (.aload_n 0, 1) := by decide +kernel
theorem dX12_read_86 : decode cX12_read 86 = .ok (.getfield 158, 3) := by decide +kernel
theorem dX12_read_89 : decode cX12_read 89 = .ok (.isub, 1) := by decide +kernel
theorem dX12_read_90 : decode cX12_read 90 = .ok (.ireturn, 1) := by decide +kernel
theorem dX12_read_91 : decode cX12_read 91 = .ok (.aload_n 0, 1) := by decide +kernel
theorem dX12_read_92 : decode cX12_read 92 = .ok (.getfield 192, 3) := by decide +kernel
theorem dX12_read_95 : decode cX12_read 95 = .ok (.ireturn, 1) := by decide +kernel
theorem dX12_fault_0 : decode cX12_fault 0 = .ok (.aload_n 0, 1) := by decide +kernel
theorem dX12_fault_1 : decode cX12_fault 1 = .ok (.getfield 47, 3) := by decide +kernel
theorem dX12_fault_4 : decode cX12_fault 4 = .ok (.ireturn, 1) := by decide +kernel
theorem dX12_noHead_0 : decode cX12_noHead 0 = .ok (.iload_n 1, 1) := by decide +kernel
theorem dX12_noHead_1 : decode cX12_noHead 1 = .ok (.i2l, 1) := by decide +kernel
theorem dX12_noHead_2 : decode cX12_noHead 2 = .ok (.lconst 0, 1) := by decide +kernel
theorem dX12_noHead_3 : decode cX12_noHead 3 = .ok (.aload_n 0, 1) := by decide +kernel
theorem dX12_noHead_4 : decode cX12_noHead 4 = .ok (.getfield 192, 3) := by decide +kernel
theorem dX12_noHead_7 : decode cX12_noHead 7 = .ok (.iconst 1, 1) := by decide +kernel
theorem dX12_noHead_8 : decode cX12_noHead 8 = .ok (.isub, 1) := by decide +kernel
theorem dX12_noHead_9 : decode cX12_noHead 9 = .ok (.i2l, 1) := by decide +kernel
theorem dX12_noHead_10 : decode cX12_noHead 10 = .ok (.invokestatic 146, 3) := by decide +kernel
theorem dX12_noHead_13 : decode cX12_noHead 13 = .ok (.ifCond .ne 7, 3) := by decide +kernel
theorem dX12_noHead_16 : decode cX12_noHead 16 = .ok (.iconst 1, 1) := by decide +kernel
theorem dX12_noHead_17 : decode cX12_noHead 17 = .ok (.goto 4, 3) := by decide +kernel
theorem dX12_noHead_20 : decode cX12_noHead 20 = .ok (.iconst 0, 1) := by decide +kernel
theorem dX12_noHead_21 : decode cX12_noHead 21 = .ok (.ireturn, 1) := by decide +kernel
theorem dX12_noSub_0 : decode cX12_noSub 0 = .ok (.iload_n 2, 1) := by decide +kernel
theorem dX12_noSub_1 : decode cX12_noSub 1 = .ok (.i2l, 1) := by decide +kernel
theorem dX12_noSub_2 : decode cX12_noSub 2 = .ok (.ldc2_w 265, 3) := by decide +kernel
theorem dX12_noSub_5 : decode cX12_noSub 5 = .ok (.aload_n 0, 1) := by decide +kernel
theorem dX12_noSub_6 : decode cX12_noSub 6 = .ok (.getfield 7, 3) := by decide +kernel
theorem dX12_noSub_9 : decode cX12_noSub 9 = .ok (.iload_n 1, 1) := by decide +kernel
theorem dX12_noSub_10 : decode cX12_noSub 10 = .ok (.iaload, 1) := by decide +kernel
theorem dX12_noSub_11 : decode cX12_noSub 11 = .ok (.iconst 1, 1) := by decide +kernel
theorem dX12_noSub_12 : decode cX12_noSub 12 = .ok (.isub, 1) := by decide +kernel
theorem dX12_noSub_13 : decode cX12_noSub 13 = .ok (.i2l, 1) := by decide +kernel
theorem dX12_noSub_14 : decode cX12_noSub 14 = .ok (.invokestatic 146, 3) := by decide +kernel
theorem dX12_noSub_17 : decode cX12_noSub 17 = .ok (.ifCond .ne 7, 3) := by decide +kernel
theorem dX12_noSub_20 : decode cX12_noSub 20 = .ok (.iconst 1, 1) := by decide +kernel
theorem dX12_noSub_21 : decode cX12_noSub 21 = .ok (.goto 4, 3) := by decide +kernel
theorem dX12_noSub_24 : decode cX12_noSub 24 = .ok (.iconst 0, 1) := by decide +kernel
theorem dX12_noSub_25 : decode cX12_noSub 25 = .ok (.ireturn, 1) := by decide +kernel
theorem dX12_isOf_0 : decode cX12_isOf 0 = .ok (.aload_n 0, 1) := by decide +kernel
theorem dX12_isOf_1 : decode cX12_isOf 1 = .ok (.getfield 28, 3) := by decide +kernel
theorem dX12_isOf_4 : decode cX12_isOf 4 = .ok (.iload_n 1, 1) := by decide +kernel
theorem dX12_isOf_5 : decode cX12_isOf 5 = .ok (.iaload, 1) := by decide +kernel
theorem dX12_isOf_6 : decode cX12_isOf 6 = .ok (.iload_n 2, 1) := by decide +kernel
theorem dX12_isOf_7 : decode cX12_isOf 7 = .ok (.if_icmp .ne 23, 3) := by decide +kernel
theorem dX12_isOf_10 : decode cX12_isOf 10 = .ok (.iload_n 3, 1) := by decide +kernel
theorem dX12_isOf_11 : decode cX12_isOf 11 = .ok (.bipush (-2), 2) := by decide +kernel
theorem dX12_isOf_13 : decode cX12_isOf 13 = .ok (.if_icmp .eq 13, 3) := by decide +kernel
theorem dX12_isOf_16 : decode cX12_isOf 16 = .ok (.aload_n 0, 1) := by decide +kernel
theorem dX12_isOf_17 : decode cX12_isOf 17 = .ok (.getfield 31, 3) := by decide +kernel
theorem dX12_isOf_20 : decode cX12_isOf 20 = .ok (.iload_n 1, 1) := by decide +kernel
theorem dX12_isOf_21 : decode cX12_isOf 21 = .ok (.iaload, 1) := by decide +kernel
theorem dX12_isOf_22 : decode cX12_isOf 22 = .ok (.iload_n 3, 1) := by decide +kernel
theorem dX12_isOf_23 : decode cX12_isOf 23 = .ok (.if_icmp .ne 7, 3) := by decide +kernel
theorem dX12_isOf_26 : decode cX12_isOf 26 = .ok (.iconst 1, 1) := by decide +kernel
theorem dX12_isOf_27 : decode cX12_isOf 27 = .ok (.goto 4, 3) := by decide +kernel
theorem dX12_isOf_30 : decode cX12_isOf 30 = .ok (.iconst 0, 1) := by decide +kernel
theorem dX12_isOf_31 : decode cX12_isOf 31 = .ok (.ireturn, 1) := by decide +kernel
theorem dX12_marksOf_0 : decode cX12_marksOf 0 = .ok (.iconst 0, 1) := by decide +kernel
theorem dX12_marksOf_1 : decode cX12_marksOf 1 = .ok (.istore_n 3, 1) := by decide +kernel
theorem dX12_marksOf_2 : decode cX12_marksOf 2 = .ok (.iconst 0, 1) := by decide +kernel
theorem dX12_marksOf_3 : decode cX12_marksOf 3 = .ok (.istore 4, 2) := by decide +kernel
theorem dX12_marksOf_5 : decode cX12_marksOf 5 = .ok (.iload 4, 2) := by decide +kernel
theorem dX12_marksOf_7 : decode cX12_marksOf 7 = .ok (.aload_n 0, 1) := by decide +kernel
theorem dX12_marksOf_8 : decode cX12_marksOf 8 = .ok (.getfield 210, 3) := by decide +kernel
theorem dX12_marksOf_11 : decode cX12_marksOf 11 = .ok (.if_icmp .ge 23, 3) := by decide +kernel
theorem dX12_marksOf_14 : decode cX12_marksOf 14 = .ok (.iload_n 3, 1) := by decide +kernel
theorem dX12_marksOf_15 : decode cX12_marksOf 15 = .ok (.aload_n 0, 1) := by decide +kernel
theorem dX12_marksOf_16 : decode cX12_marksOf 16 = .ok (.iload 4, 2) := by decide +kernel
theorem dX12_marksOf_18 : decode cX12_marksOf 18 = .ok (.iload_n 1, 1) := by decide +kernel
theorem dX12_marksOf_19 : decode cX12_marksOf 19 = .ok (.iload_n 2, 1) := by decide +kernel
theorem dX12_marksOf_20 : decode cX12_marksOf 20 = .ok (.invokevirtual 267, 3) := by decide +kernel
theorem dX12_marksOf_23 : decode cX12_marksOf 23 = .ok (.invokestatic 271, 3) := by decide +kernel
theorem dX12_marksOf_26 : decode cX12_marksOf 26 = .ok (.iadd, 1) := by decide +kernel
theorem dX12_marksOf_27 : decode cX12_marksOf 27 = .ok (.istore_n 3, 1) := by decide +kernel
theorem dX12_marksOf_28 : decode cX12_marksOf 28 = .ok (.iinc 4 1, 3) := by decide +kernel
theorem dX12_marksOf_31 : decode cX12_marksOf 31 = .ok (.goto (-26), 3) := by decide +kernel
theorem dX12_marksOf_34 : decode cX12_marksOf 34 = .ok (.iload_n 3, 1) := by decide +kernel
theorem dX12_marksOf_35 : decode cX12_marksOf 35 = .ok (.ireturn, 1) := by decide +kernel
theorem dX12_isFilled_0 : decode cX12_isFilled 0 = .ok (.aload_n 0, 1) := by decide +kernel
theorem dX12_isFilled_1 : decode cX12_isFilled 1 = .ok (.iload_n 1, 1) := by decide +kernel
theorem dX12_isFilled_2 : decode cX12_isFilled 2 = .ok (.bipush (-2), 2) := by decide +kernel
theorem dX12_isFilled_4 : decode cX12_isFilled 4 = .ok (.invokevirtual 275, 3) := by decide +kernel
theorem dX12_isFilled_7 : decode cX12_isFilled 7 = .ok (.ifCond .le 7, 3) := by decide +kernel
theorem dX12_isFilled_10 : decode cX12_isFilled 10 = .ok (.iconst 1, 1) := by decide +kernel
theorem dX12_isFilled_11 : decode cX12_isFilled 11 = .ok (.goto 4, 3) := by decide +kernel
theorem dX12_isFilled_14 : decode cX12_isFilled 14 = .ok (.iconst 0, 1) := by decide +kernel
theorem dX12_isFilled_15 : decode cX12_isFilled 15 = .ok (.ireturn, 1) := by decide +kernel
theorem dX12_fullSubs_0 : decode cX12_fullSubs 0 = .ok (.iconst 0, 1) := by decide +kernel
theorem dX12_fullSubs_1 : decode cX12_fullSubs 1 = .ok (.istore_n 2, 1) := by decide +kernel
theorem dX12_fullSubs_2 : decode cX12_fullSubs 2 = .ok (.iconst 0, 1) := by decide +kernel
theorem dX12_fullSubs_3 : decode cX12_fullSubs 3 = .ok (.istore_n 3, 1) := by decide +kernel
theorem dX12_fullSubs_4 : decode cX12_fullSubs 4 = .ok (.iload_n 3, 1) := by decide +kernel
theorem dX12_fullSubs_5 : decode cX12_fullSubs 5 = .ok (.aload_n 0, 1) := by decide +kernel
theorem dX12_fullSubs_6 : decode cX12_fullSubs 6 = .ok (.getfield 7, 3) := by decide +kernel
theorem dX12_fullSubs_9 : decode cX12_fullSubs 9 = .ok (.iload_n 1, 1) := by decide +kernel
theorem dX12_fullSubs_10 : decode cX12_fullSubs 10 = .ok (.iaload, 1) := by decide +kernel
theorem dX12_fullSubs_11 : decode cX12_fullSubs 11 = .ok (.if_icmp .ge 29, 3) := by decide +kernel
theorem dX12_fullSubs_14 : decode cX12_fullSubs 14 = .ok (.iload_n 2, 1) := by decide +kernel
theorem dX12_fullSubs_15 : decode cX12_fullSubs 15 = .ok (.aload_n 0, 1) := by decide +kernel
theorem dX12_fullSubs_16 : decode cX12_fullSubs 16 = .ok (.iload_n 1, 1) := by decide +kernel
theorem dX12_fullSubs_17 : decode cX12_fullSubs 17 = .ok (.iload_n 3, 1) := by decide +kernel
theorem dX12_fullSubs_18 : decode cX12_fullSubs 18 = .ok (.invokevirtual 275, 3) := by decide +kernel
theorem dX12_fullSubs_21 : decode cX12_fullSubs 21 = .ok (.ifCond .le 7, 3) := by decide +kernel
theorem dX12_fullSubs_24 : decode cX12_fullSubs 24 = .ok (.iconst 1, 1) := by decide +kernel
theorem dX12_fullSubs_25 : decode cX12_fullSubs 25 = .ok (.goto 4, 3) := by decide +kernel
theorem dX12_fullSubs_28 : decode cX12_fullSubs 28 = .ok (.iconst 0, 1) := by decide +kernel
theorem dX12_fullSubs_29 : decode cX12_fullSubs 29 = .ok (.invokestatic 271, 3) := by decide +kernel
theorem dX12_fullSubs_32 : decode cX12_fullSubs 32 = .ok (.iadd, 1) := by decide +kernel
theorem dX12_fullSubs_33 : decode cX12_fullSubs 33 = .ok (.istore_n 2, 1) := by decide +kernel
theorem dX12_fullSubs_34 : decode cX12_fullSubs 34 = .ok (.iinc 3 1, 3) := by decide +kernel
theorem dX12_fullSubs_37 : decode cX12_fullSubs 37 = .ok (.goto (-33), 3) := by decide +kernel
theorem dX12_fullSubs_40 : decode cX12_fullSubs 40 = .ok (.iload_n 2, 1) := by decide +kernel
theorem dX12_fullSubs_41 : decode cX12_fullSubs 41 = .ok (.ireturn, 1) := by decide +kernel
theorem dX12_filled_0 : decode cX12_filled 0 = .ok (.iconst 0, 1) := by decide +kernel
theorem dX12_filled_1 : decode cX12_filled 1 = .ok (.istore_n 1, 1) := by decide +kernel
theorem dX12_filled_2 : decode cX12_filled 2 = .ok (.iconst 0, 1) := by decide +kernel
theorem dX12_filled_3 : decode cX12_filled 3 = .ok (.istore_n 2, 1) := by decide +kernel
theorem dX12_filled_4 : decode cX12_filled 4 = .ok (.iload_n 2, 1) := by decide +kernel
theorem dX12_filled_5 : decode cX12_filled 5 = .ok (.aload_n 0, 1) := by decide +kernel
theorem dX12_filled_6 : decode cX12_filled 6 = .ok (.getfield 192, 3) := by decide +kernel
theorem dX12_filled_9 : decode cX12_filled 9 = .ok (.if_icmp .ge 20, 3) := by decide +kernel
theorem dX12_filled_12 : decode cX12_filled 12 = .ok (.iload_n 1, 1) := by decide +kernel
theorem dX12_filled_13 : decode cX12_filled 13 = .ok (.aload_n 0, 1) := by decide +kernel
theorem dX12_filled_14 : decode cX12_filled 14 = .ok (.iload_n 2, 1) := by decide +kernel
theorem dX12_filled_15 : decode cX12_filled 15 = .ok (.invokevirtual 278, 3) := by decide +kernel
theorem dX12_filled_18 : decode cX12_filled 18 = .ok (.invokestatic 271, 3) := by decide +kernel
theorem dX12_filled_21 : decode cX12_filled 21 = .ok (.iadd, 1) := by decide +kernel
theorem dX12_filled_22 : decode cX12_filled 22 = .ok (.istore_n 1, 1) := by decide +kernel
theorem dX12_filled_23 : decode cX12_filled 23 = .ok (.iinc 2 1, 3) := by decide +kernel
theorem dX12_filled_26 : decode cX12_filled 26 = .ok (.goto (-22), 3) := by decide +kernel
theorem dX12_filled_29 : decode cX12_filled 29 = .ok (.iload_n 1, 1) := by decide +kernel
theorem dX12_filled_30 : decode cX12_filled 30 = .ok (.ireturn, 1) := by decide +kernel
theorem dX12_count_0 : decode cX12_count 0 = .ok (.iload_n 1, 1) := by decide +kernel
theorem dX12_count_1 : decode cX12_count 1 = .ok (.tableswitch 79 0 6 #[43, 48, 53, 58, 63, 69, 74], 43) := by decide +kernel
theorem dX12_count_44 : decode cX12_count 44 = .ok (.aload_n 0, 1) := by decide +kernel
theorem dX12_count_45 : decode cX12_count 45 = .ok (.getfield 192, 3) := by decide +kernel
theorem dX12_count_48 : decode cX12_count 48 = .ok (.ireturn, 1) := by decide +kernel
theorem dX12_count_49 : decode cX12_count 49 = .ok (.aload_n 0, 1) := by decide +kernel
theorem dX12_count_50 : decode cX12_count 50 = .ok (.getfield 210, 3) := by decide +kernel
theorem dX12_count_53 : decode cX12_count 53 = .ok (.ireturn, 1) := by decide +kernel
theorem dX12_count_54 : decode cX12_count 54 = .ok (.aload_n 0, 1) := by decide +kernel
theorem dX12_count_55 : decode cX12_count 55 = .ok (.getfield 150, 3) := by decide +kernel
theorem dX12_count_58 : decode cX12_count 58 = .ok (.ireturn, 1) := by decide +kernel
theorem dX12_count_59 : decode cX12_count 59 = .ok (.aload_n 0, 1) := by decide +kernel
theorem dX12_count_60 : decode cX12_count 60 = .ok (.getfield 281, 3) := by decide +kernel
theorem dX12_count_63 : decode cX12_count 63 = .ok (.ireturn, 1) := by decide +kernel
theorem dX12_count_64 : decode cX12_count 64 = .ok (.aload_n 0, 1) := by decide +kernel
theorem dX12_count_65 : decode cX12_count 65 = .ok (.iconst 0, 1) := by decide +kernel
theorem dX12_count_66 : decode cX12_count 66 = .ok (.invokevirtual 284, 3) := by decide +kernel
theorem dX12_count_69 : decode cX12_count 69 = .ok (.ireturn, 1) := by decide +kernel
theorem dX12_count_70 : decode cX12_count 70 = .ok (.aload_n 0, 1) := by decide +kernel
theorem dX12_count_71 : decode cX12_count 71 = .ok (.invokevirtual 287, 3) := by decide +kernel
theorem dX12_count_74 : decode cX12_count 74 = .ok (.ireturn, 1) := by decide +kernel
theorem dX12_count_75 : decode cX12_count 75 = .ok (.aload_n 0, 1) := by decide +kernel
theorem dX12_count_76 : decode cX12_count 76 = .ok (.invokevirtual 290, 3) := by decide +kernel
theorem dX12_count_79 : decode cX12_count 79 = .ok (.ireturn, 1) := by decide +kernel
theorem dX12_count_80 : decode cX12_count 80 = .ok (.sipush (-1002), 3) := by decide +kernel
theorem dX12_count_83 : decode cX12_count 83 = .ok (.ireturn, 1) := by decide +kernel
theorem dX12_head_0 : decode cX12_head 0 = .ok (.aload_n 0, 1) := by decide +kernel
