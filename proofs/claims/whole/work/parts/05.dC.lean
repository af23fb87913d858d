theorem dX12_init_0 : decode cX12_init 0 = .ok (.aload_n 0, 1) := by decide +kernel
theorem dX12_init_1 : decode cX12_init 1 = .ok (.invokespecial 1, 3) := by decide +kernel
theorem dX12_init_4 : decode cX12_init 4 = .ok (.aload_n 0, 1) := by decide +kernel
theorem dX12_init_5 : decode cX12_init 5 = .ok (.sipush 1000, 3) := by decide +kernel
theorem dX12_init_8 : decode cX12_init 8 = .ok (.newarray .int, 2) := by decide +kernel
theorem dX12_init_10 : decode cX12_init 10 = .ok (.putfield 7, 3) := by decide +kernel
theorem dX12_init_13 : decode cX12_init 13 = .ok (.aload_n 0, 1) := by decide +kernel
theorem dX12_init_14 : decode cX12_init 14 = .ok (.bipush 12, 2) := by decide +kernel
theorem dX12_init_16 : decode cX12_init 16 = .ok (.newarray .int, 2) := by decide +kernel
theorem dX12_init_18 : decode cX12_init 18 = .ok (.putfield 13, 3) := by decide +kernel
theorem dX12_init_21 : decode cX12_init 21 = .ok (.aload_n 0, 1) := by decide +kernel
theorem dX12_init_22 : decode cX12_init 22 = .ok (.bipush 8, 2) := by decide +kernel
theorem dX12_init_24 : decode cX12_init 24 = .ok (.newarray .int, 2) := by decide +kernel
theorem dX12_init_26 : decode cX12_init 26 = .ok (.putfield 16, 3) := by decide +kernel
theorem dX12_init_29 : decode cX12_init 29 = .ok (.aload_n 0, 1) := by decide +kernel
theorem dX12_init_30 : decode cX12_init 30 = .ok (.bipush 8, 2) := by decide +kernel
theorem dX12_init_32 : decode cX12_init 32 = .ok (.newarray .int, 2) := by decide +kernel
theorem dX12_init_34 : decode cX12_init 34 = .ok (.putfield 19, 3) := by decide +kernel
theorem dX12_init_37 : decode cX12_init 37 = .ok (.aload_n 0, 1) := by decide +kernel
theorem dX12_init_38 : decode cX12_init 38 = .ok (.bipush 12, 2) := by decide +kernel
theorem dX12_init_40 : decode cX12_init 40 = .ok (.newarray .int, 2) := by decide +kernel
theorem dX12_init_42 : decode cX12_init 42 = .ok (.putfield 22, 3) := by decide +kernel
theorem dX12_init_45 : decode cX12_init 45 = .ok (.aload_n 0, 1) := by decide +kernel
theorem dX12_init_46 : decode cX12_init 46 = .ok (.bipush 12, 2) := by decide +kernel
theorem dX12_init_48 : decode cX12_init 48 = .ok (.newarray .int, 2) := by decide +kernel
theorem dX12_init_50 : decode cX12_init 50 = .ok (.putfield 25, 3) := by decide +kernel
theorem dX12_init_53 : decode cX12_init 53 = .ok (.aload_n 0, 1) := by decide +kernel
theorem dX12_init_54 : decode cX12_init 54 = .ok (.bipush 12, 2) := by decide +kernel
theorem dX12_init_56 : decode cX12_init 56 = .ok (.newarray .int, 2) := by decide +kernel
theorem dX12_init_58 : decode cX12_init 58 = .ok (.putfield 28, 3) := by decide +kernel
theorem dX12_init_61 : decode cX12_init 61 = .ok (.aload_n 0, 1) := by decide +kernel
theorem dX12_init_62 : decode cX12_init 62 = .ok (.bipush 12, 2) := by decide +kernel
theorem dX12_init_64 : decode cX12_init 64 = .ok (.newarray .int, 2) := by decide +kernel
theorem dX12_init_66 : decode cX12_init 66 = .ok (.putfield 31, 3) := by decide +kernel
theorem dX12_init_69 : decode cX12_init 69 = .ok (.aload_n 0, 1) := by decide +kernel
theorem dX12_init_70 : decode cX12_init 70 = .ok (.sipush 144, 3) := by decide +kernel
theorem dX12_init_73 : decode cX12_init 73 = .ok (.newarray .boolean, 2) := by decide +kernel
theorem dX12_init_75 : decode cX12_init 75 = .ok (.putfield 34, 3) := by decide +kernel
theorem dX12_init_78 : decode cX12_init 78 = .ok (.aload_n 0, 1) := by decide +kernel
theorem dX12_init_79 : decode cX12_init 79 = .ok (.bipush 12, 2) := by decide +kernel
theorem dX12_init_81 : decode cX12_init 81 = .ok (.newarray .int, 2) := by decide +kernel
theorem dX12_init_83 : decode cX12_init 83 = .ok (.putfield 38, 3) := by decide +kernel
theorem dX12_init_86 : decode cX12_init 86 = .ok (.aload_n 0, 1) := by decide +kernel
theorem dX12_init_87 : decode cX12_init 87 = .ok (.bipush 8, 2) := by decide +kernel
theorem dX12_init_89 : decode cX12_init 89 = .ok (.newarray .int, 2) := by decide +kernel
theorem dX12_init_91 : decode cX12_init 91 = .ok (.putfield 41, 3) := by decide +kernel
theorem dX12_init_94 : decode cX12_init 94 = .ok (.aload_n 0, 1) := by decide +kernel
theorem dX12_init_95 : decode cX12_init 95 = .ok (.bipush 8, 2) := by decide +kernel
theorem dX12_init_97 : decode cX12_init 97 = .ok (.newarray .int, 2) := by decide +kernel
theorem dX12_init_99 : decode cX12_init 99 = .ok (.putfield 44, 3) := by decide +kernel
theorem dX12_init_102 : decode cX12_init 102 = .ok (.aload_n 0, 1) := by decide +kernel
theorem dX12_init_103 : decode cX12_init 103 = .ok (.bipush 12, 2) := by decide +kernel
theorem dX12_init_105 : decode cX12_init 105 = .ok (.newarray .int, 2) := by decide +kernel
theorem dX12_init_107 : decode cX12_init 107 = .ok (.putfield 47, 3) := by decide +kernel
theorem dX12_init_110 : decode cX12_init 110 = .ok (.aload_n 0, 1) := by decide +kernel
theorem dX12_init_111 : decode cX12_init 111 = .ok (.bipush 12, 2) := by decide +kernel
theorem dX12_init_113 : decode cX12_init 113 = .ok (.newarray .long, 2) := by decide +kernel
theorem dX12_init_115 : decode cX12_init 115 = .ok (.putfield 50, 3) := by decide +kernel
theorem dX12_init_118 : decode cX12_init 118 = .ok (.aload_n 0, 1) := by decide +kernel
theorem dX12_init_119 : decode cX12_init 119 = .ok (.bipush 12, 2) := by decide +kernel
theorem dX12_init_121 : decode cX12_init 121 = .ok (.newarray .int, 2) := by decide +kernel
theorem dX12_init_123 : decode cX12_init 123 = .ok (.putfield 54, 3) := by decide +kernel
theorem dX12_init_126 : decode cX12_init 126 = .ok (.aload_n 0, 1) := by decide +kernel
theorem dX12_init_127 : decode cX12_init 127 = .ok (.bipush 12, 2) := by decide +kernel
theorem dX12_init_129 : decode cX12_init 129 = .ok (.newarray .int, 2) := by decide +kernel
theorem dX12_init_131 : decode cX12_init 131 = .ok (.putfield 57, 3) := by decide +kernel
theorem dX12_init_134 : decode cX12_init 134 = .ok (.aload_n 0, 1) := by decide +kernel
theorem dX12_init_135 : decode cX12_init 135 = .ok (.bipush 12, 2) := by decide +kernel
theorem dX12_init_137 : decode cX12_init 137 = .ok (.newarray .int, 2) := by decide +kernel
theorem dX12_init_139 : decode cX12_init 139 = .ok (.putfield 60, 3) := by decide +kernel
theorem dX12_init_142 : decode cX12_init 142 = .ok (.aload_n 0, 1) := by decide +kernel
theorem dX12_init_143 : decode cX12_init 143 = .ok (.iconst 4, 1) := by decide +kernel
theorem dX12_init_144 : decode cX12_init 144 = .ok (.newarray .int, 2) := by decide +kernel
theorem dX12_init_146 : decode cX12_init 146 = .ok (.putfield 63, 3) := by decide +kernel
theorem dX12_init_149 : decode cX12_init 149 = .ok (.aload_n 0, 1) := by decide +kernel
theorem dX12_init_150 : decode cX12_init 150 = .ok (.iconst 4, 1) := by decide +kernel
theorem dX12_init_151 : decode cX12_init 151 = .ok (.newarray .int, 2) := by decide +kernel
theorem dX12_init_153 : decode cX12_init 153 = .ok (.putfield 66, 3) := by decide +kernel
theorem dX12_init_156 : decode cX12_init 156 = .ok (.aload_n 0, 1) := by decide +kernel
theorem dX12_init_157 : decode cX12_init 157 = .ok (.sipush 1000, 3) := by decide +kernel
theorem dX12_init_160 : decode cX12_init 160 = .ok (.newarray .int, 2) := by decide +kernel
theorem dX12_init_162 : decode cX12_init 162 = .ok (.putfield 69, 3) := by decide +kernel
theorem dX12_init_165 : decode cX12_init 165 = .ok (.aload_n 0, 1) := by decide +kernel
theorem dX12_init_166 : decode cX12_init 166 = .ok (.bipush 7, 2) := by decide +kernel
theorem dX12_init_168 : decode cX12_init 168 = .ok (.newarray .int, 2) := by decide +kernel
theorem dX12_init_170 : decode cX12_init 170 = .ok (.putfield 72, 3) := by decide +kernel
theorem dX12_init_173 : decode cX12_init 173 = .ok (.aload_n 0, 1) := by decide +kernel
theorem dX12_init_174 : decode cX12_init 174 = .ok (.bipush 7, 2) := by decide +kernel
theorem dX12_init_176 : decode cX12_init 176 = .ok (.newarray .boolean, 2) := by decide +kernel
theorem dX12_init_178 : decode cX12_init 178 = .ok (.putfield 75, 3) := by decide +kernel
theorem dX12_init_181 : decode cX12_init 181 = .ok (.aload_n 0, 1) := by decide +kernel
theorem dX12_init_182 : decode cX12_init 182 = .ok (.bipush 7, 2) := by decide +kernel
theorem dX12_init_184 : decode cX12_init 184 = .ok (.newarray .int, 2) := by decide +kernel
theorem dX12_init_186 : decode cX12_init 186 = .ok (.putfield 78, 3) := by decide +kernel
theorem dX12_init_189 : decode cX12_init 189 = .ok (.aload_n 0, 1) := by decide +kernel
theorem dX12_init_190 : decode cX12_init 190 = .ok (.bipush 7, 2) := by decide +kernel
theorem dX12_init_192 : decode cX12_init 192 = .ok (.newarray .int, 2) := by decide +kernel
theorem dX12_init_194 : decode cX12_init 194 = .ok (.putfield 81, 3) := by decide +kernel
theorem dX12_init_197 : decode cX12_init 197 = .ok (.aload_n 0, 1) := by decide +kernel
theorem dX12_init_198 : decode cX12_init 198 = .ok (.bipush 7, 2) := by decide +kernel
theorem dX12_init_200 : decode cX12_init 200 = .ok (.newarray .int, 2) := by decide +kernel
theorem dX12_init_202 : decode cX12_init 202 = .ok (.putfield 84, 3) := by decide +kernel
theorem dX12_init_205 : decode cX12_init 205 = .ok (.aload_n 0, 1) := by decide +kernel
theorem dX12_init_206 : decode cX12_init 206 = .ok (.bipush 7, 2) := by decide +kernel
theorem dX12_init_208 : decode cX12_init 208 = .ok (.newarray .int, 2) := by decide +kernel
theorem dX12_init_210 : decode cX12_init 210 = .ok (.putfield 87, 3) := by decide +kernel
theorem dX12_init_213 : decode cX12_init 213 = .ok (.aload_n 0, 1) := by decide +kernel
theorem dX12_init_214 : decode cX12_init 214 = .ok (.bipush 7, 2) := by decide +kernel
theorem dX12_init_216 : decode cX12_init 216 = .ok (.newarray .int, 2) := by decide +kernel
theorem dX12_init_218 : decode cX12_init 218 = .ok (.putfield 90, 3) := by decide +kernel
theorem dX12_init_221 : decode cX12_init 221 = .ok (.aload_n 0, 1) := by decide +kernel
theorem dX12_init_222 : decode cX12_init 222 = .ok (.bipush 7, 2) := by decide +kernel
theorem dX12_init_224 : decode cX12_init 224 = .ok (.newarray .int, 2) := by decide +kernel
theorem dX12_init_226 : decode cX12_init 226 = .ok (.putfield 93, 3) := by decide +kernel
theorem dX12_init_229 : decode cX12_init 229 = .ok (.aload_n 0, 1) := by decide +kernel
theorem dX12_init_230 : decode cX12_init 230 = .ok (.bipush 7, 2) := by decide +kernel
theorem dX12_init_232 : decode cX12_init 232 = .ok (.newarray .int, 2) := by decide +kernel
theorem dX12_init_234 : decode cX12_init 234 = .ok (.putfield 96, 3) := by decide +kernel
theorem dX12_init_237 : decode cX12_init 237 = .ok (.aload_n 0, 1) := by decide +kernel
theorem dX12_init_238 : decode cX12_init 238 = .ok (.bipush 7, 2) := by decide +kernel
theorem dX12_init_240 : decode cX12_init 240 = .ok (.newarray .int, 2) := by decide +kernel
theorem dX12_init_242 : decode cX12_init 242 = .ok (.putfield 99, 3) := by decide +kernel
theorem dX12_init_245 : decode cX12_init 245 = .ok (.aload_n 0, 1) := by decide +kernel
theorem dX12_init_246 : decode cX12_init 246 = .ok (.bipush 7, 2) := by decide +kernel
theorem dX12_init_248 : decode cX12_init 248 = .ok (.newarray .int, 2) := by decide +kernel
theorem dX12_init_250 : decode cX12_init 250 = .ok (.putfield 102, 3) := by decide +kernel
theorem dX12_init_253 : decode cX12_init 253 = .ok (.aload_n 0, 1) := by decide +kernel
theorem dX12_init_254 : decode cX12_init 254 = .ok (.bipush 20, 2) := by decide +kernel
theorem dX12_init_256 : decode cX12_init 256 = .ok (.newarray .int, 2) := by decide +kernel
theorem dX12_init_258 : decode cX12_init 258 = .ok (.putfield 105, 3) := by decide +kernel
theorem dX12_init_261 : decode cX12_init 261 = .ok (.aload_n 0, 1) := by decide +kernel
theorem dX12_init_262 : decode cX12_init 262 = .ok (.bipush 12, 2) := by decide +kernel
theorem dX12_init_264 : decode cX12_init 264 = .ok (.newarray .int, 2) := by decide +kernel
theorem dX12_init_266 : decode cX12_init 266 = .ok (.putfield 108, 3) := by decide +kernel
theorem dX12_init_269 : decode cX12_init 269 = .ok (.aload_n 0, 1) := by decide +kernel
theorem dX12_init_270 : decode cX12_init 270 = .ok (.bipush 12, 2) := by decide +kernel
theorem dX12_init_272 : decode cX12_init 272 = .ok (.newarray .int, 2) := by decide +kernel
theorem dX12_init_274 : decode cX12_init 274 = .ok (.putfield 111, 3) := by decide +kernel
theorem dX12_init_277 : decode cX12_init 277 = .ok (.aload_n 0, 1) := by decide +kernel
theorem dX12_init_278 : decode cX12_init 278 = .ok (.sipush 200, 3) := by decide +kernel
theorem dX12_init_281 : decode cX12_init 281 = .ok (.newarray .boolean, 2) := by decide +kernel
theorem dX12_init_283 : decode cX12_init 283 = .ok (.putfield 114, 3) := by decide +kernel
theorem dX12_init_286 : decode cX12_init 286 = .ok (.aload_n 0, 1) := by decide +kernel
theorem dX12_init_287 : decode cX12_init 287 = .ok (.sipush 201, 3) := by decide +kernel
theorem dX12_init_290 : decode cX12_init 290 = .ok (.newarray .int, 2) := by decide +kernel
theorem dX12_init_292 : decode cX12_init 292 = .ok (.putfield 117, 3) := by decide +kernel
theorem dX12_init_295 : decode cX12_init 295 = .ok (.aload_n 0, 1) := by decide +kernel
theorem dX12_init_296 : decode cX12_init 296 = .ok (.bipush 12, 2) := by decide +kernel
theorem dX12_init_298 : decode cX12_init 298 = .ok (.newarray .int, 2) := by decide +kernel
theorem dX12_init_300 : decode cX12_init 300 = .ok (.putfield 120, 3) := by decide +kernel
theorem dX12_init_303 : decode cX12_init 303 = .ok (.aload_n 0, 1) := by decide +kernel
theorem dX12_init_304 : decode cX12_init 304 = .ok (.sipush 144, 3) := by decide +kernel
theorem dX12_init_307 : decode cX12_init 307 = .ok (.newarray .boolean, 2) := by decide +kernel
theorem dX12_init_309 : decode cX12_init 309 = .ok (.putfield 123, 3) := by decide +kernel
theorem dX12_init_312 : decode cX12_init 312 = .ok (.aload_n 0, 1) := by decide +kernel
theorem dX12_init_313 : decode cX12_init 313 = .ok (.bipush 12, 2) := by decide +kernel
theorem dX12_init_315 : decode cX12_init 315 = .ok (.newarray .int, 2) := by decide +kernel
theorem dX12_init_317 : decode cX12_init 317 = .ok (.putfield 126, 3) := by decide +kernel
theorem dX12_init_320 : decode cX12_init 320 = .ok (.aload_n 0, 1) := by decide +kernel
theorem dX12_init_321 : decode cX12_init 321 = .ok (.bipush 12, 2) := by decide +kernel
theorem dX12_init_323 : decode cX12_init 323 = .ok (.newarray .int, 2) := by decide +kernel
theorem dX12_init_325 : decode cX12_init 325 = .ok (.putfield 129, 3) := by decide +kernel
theorem dX12_init_328 : decode cX12_init 328 = .ok (.aload_n 0, 1) := by decide +kernel
theorem dX12_init_329 : decode cX12_init 329 = .ok (.bipush 60, 2) := by decide +kernel
theorem dX12_init_331 : decode cX12_init 331 = .ok (.newarray .int, 2) := by decide +kernel
theorem dX12_init_333 : decode cX12_init 333 = .ok (.putfield 132, 3) := by decide +kernel
theorem dX12_init_336 : decode cX12_init 336 = .ok (.aload_n 0, 1) := by decide +kernel
theorem dX12_init_337 : decode cX12_init 337 = .ok (.bipush 60, 2) := by decide +kernel
theorem dX12_init_339 : decode cX12_init 339 = .ok (.newarray .int, 2) := by decide +kernel
theorem dX12_init_341 : decode cX12_init 341 = .ok (.putfield 135, 3) := by decide +kernel
theorem dX12_init_344 : decode cX12_init 344 = .ok (.aload_n 0, 1) := by decide +kernel
theorem dX12_init_345 : decode cX12_init 345 = .ok (.bipush 60, 2) := by decide +kernel
theorem dX12_init_347 : decode cX12_init 347 = .ok (.newarray .int, 2) := by decide +kernel
theorem dX12_init_349 : decode cX12_init 349 = .ok (.putfield 138, 3) := by decide +kernel
theorem dX12_init_352 : decode cX12_init 352 = .ok (.aload_n 0, 1) := by decide +kernel
theorem dX12_init_353 : decode cX12_init 353 = .ok (.sipush 144, 3) := by decide +kernel
theorem dX12_init_356 : decode cX12_init 356 = .ok (.newarray .int, 2) := by decide +kernel
theorem dX12_init_358 : decode cX12_init 358 = .ok (.putfield 141, 3) := by decide +kernel
theorem dX12_init_361 : decode cX12_init 361 = .ok (.aload_n 0, 1) := by decide +kernel
theorem dX12_init_362 : decode cX12_init 362 = .ok (.iconst 4, 1) := by decide +kernel
theorem dX12_init_363 : decode cX12_init 363 = .ok (.newarray .boolean, 2) := by decide +kernel
theorem dX12_init_365 : decode cX12_init 365 = .ok (.putfield 144, 3) := by decide +kernel
theorem dX12_init_368 : decode cX12_init 368 = .ok (.aload_n 0, 1) := by decide +kernel
theorem dX12_init_369 : decode cX12_init 369 = .ok (.sipush 2000, 3) := by decide +kernel
theorem dX12_init_372 : decode cX12_init 372 = .ok (.newarray .int, 2) := by decide +kernel
theorem dX12_init_374 : decode cX12_init 374 = .ok (.putfield 147, 3) := by decide +kernel
theorem dX12_init_377 : decode cX12_init 377 = .ok (.aload_n 0, 1) := by decide +kernel
theorem dX12_init_378 : decode cX12_init 378 = .ok (.bipush 12, 2) := by decide +kernel
theorem dX12_init_380 : decode cX12_init 380 = .ok (.newarray .int, 2) := by decide +kernel
theorem dX12_init_382 : decode cX12_init 382 = .ok (.putfield 150, 3) := by decide +kernel
theorem dX12_init_385 : decode cX12_init 385 = .ok (.aload_n 0, 1) := by decide +kernel
theorem dX12_init_386 : decode cX12_init 386 = .ok (.iconst 1, 1) := by decide +kernel
theorem dX12_init_387 : decode cX12_init 387 = .ok (.putfield 153, 3) := by decide +kernel
theorem dX12_init_390 : decode cX12_init 390 = .ok (.return_, 1) := by decide +kernel
theorem dX12_thrown_0 : decode cX12_thrown 0 = .ok (.aload_n 0, 1) := by decide +kernel
theorem dX12_thrown_1 : decode cX12_thrown 1 = .ok (.getfield 157, 3) := by decide +kernel
theorem dX12_thrown_4 : decode cX12_thrown 4 = .ok (.ireturn, 1) := by decide +kernel
theorem dX12_within_0 : decode cX12_within 0 = .ok (.iload_n 0, 1) := by decide +kernel
theorem dX12_within_1 : decode cX12_within 1 = .ok (.iload_n 1, 1) := by decide +kernel
theorem dX12_within_2 : decode cX12_within 2 = .ok (.if_icmp .lt 12, 3) := by decide +kernel
theorem dX12_within_5 : decode cX12_within 5 = .ok (.iload_n 0, 1) := by decide +kernel
theorem dX12_within_6 : decode cX12_within 6 = .ok (.iload_n 2, 1) := by decide +kernel
theorem dX12_within_7 : decode cX12_within 7 = .ok (.if_icmp .gt 7, 3) := by decide +kernel
theorem dX12_within_10 : decode cX12_within 10 = .ok (.iconst 1, 1) := by decide +kernel
theorem dX12_within_11 : decode cX12_within 11 = .ok (.goto 4, 3) := by decide +kernel
theorem dX12_within_14 : decode cX12_within 14 = .ok (.iconst 0, 1) := by decide +kernel
theorem dX12_within_15 : decode cX12_within 15 = .ok (.ireturn, 1) := by decide +kernel
theorem dX12_bits_0 : decode cX12_bits 0 = .ok (.iconst 0, 1) := by decide +kernel
theorem dX12_bits_1 : decode cX12_bits 1 = .ok (.istore_n 1, 1) := by decide +kernel
theorem dX12_bits_2 : decode cX12_bits 2 = .ok (.iconst 0, 1) := by decide +kernel
theorem dX12_bits_3 : decode cX12_bits 3 = .ok (.istore_n 2, 1) := by decide +kernel
theorem dX12_bits_4 : decode cX12_bits 4 = .ok (.iload_n 2, 1) := by decide +kernel
theorem dX12_bits_5 : decode cX12_bits 5 = .ok (.bipush 12, 2) := by decide +kernel
theorem dX12_bits_7 : decode cX12_bits 7 = .ok (.if_icmp .ge 17, 3) := by decide +kernel
theorem dX12_bits_10 : decode cX12_bits 10 = .ok (.iload_n 1, 1) := by decide +kernel
theorem dX12_bits_11 : decode cX12_bits 11 = .ok (.iload_n 0, 1) := by decide +kernel
theorem dX12_bits_12 : decode cX12_bits 12 = .ok (.iload_n 2, 1) := by decide +kernel
theorem dX12_bits_13 : decode cX12_bits 13 = .ok (.ishr, 1) := by decide +kernel
theorem dX12_bits_14 : decode cX12_bits 14 = .ok (.iconst 1, 1) := by decide +kernel
theorem dX12_bits_15 : decode cX12_bits 15 = .ok (.iand, 1) := by decide +kernel
theorem dX12_bits_16 : decode cX12_bits 16 = .ok (.iadd, 1) := by decide +kernel
theorem dX12_bits_17 : decode cX12_bits 17 = .ok (.istore_n 1, 1) := by decide +kernel
theorem dX12_bits_18 : decode cX12_bits 18 = .ok (.iinc 2 1, 3) := by decide +kernel
theorem dX12_bits_21 : decode cX12_bits 21 = .ok (.goto (-17), 3) := by decide +kernel
theorem dX12_bits_24 : decode cX12_bits 24 = .ok (.iload_n 1, 1) := by decide +kernel
theorem dX12_bits_25 : decode cX12_bits 25 = .ok (.ireturn, 1) := by decide +kernel
theorem dX12_feed_0 : decode cX12_feed 0 = .ok (.aload_n 0, 1) := by decide +kernel
theorem dX12_feed_1 : decode cX12_feed 1 = .ok (.iconst 0, 1) := by decide +kernel
theorem dX12_feed_2 : decode cX12_feed 2 = .ok (.putfield 157, 3) := by decide +kernel
theorem dX12_feed_5 : decode cX12_feed 5 = .ok (.iconst 0, 1) := by decide +kernel
theorem dX12_feed_6 : decode cX12_feed 6 = .ok (.istore 7, 2) := by decide +kernel
theorem dX12_feed_8 : decode cX12_feed 8 = .ok (.iload 7, 2) := by decide +kernel
theorem dX12_feed_10 : decode cX12_feed 10 = .ok (.bipush 24, 2) := by decide +kernel
theorem dX12_feed_12 : decode cX12_feed 12 = .ok (.if_icmp .ge 108, 3) := by decide +kernel
theorem dX12_feed_15 : decode cX12_feed 15 = .ok (.iload 7, 2) := by decide +kernel
theorem dX12_feed_17 : decode cX12_feed 17 = .ok (.bipush 8, 2) := by decide +kernel
theorem dX12_feed_19 : decode cX12_feed 19 = .ok (.if_icmp .ge 7, 3) := by decide +kernel
theorem dX12_feed_22 : decode cX12_feed 22 = .ok (.lload_n 1, 1) := by decide +kernel
theorem dX12_feed_23 : decode cX12_feed 23 = .ok (.goto 16, 3) := by decide +kernel
theorem dX12_feed_26 : decode cX12_feed 26 = .ok (.iload 7, 2) := by decide +kernel
theorem dX12_feed_28 : decode cX12_feed 28 = .ok (.bipush 16, 2) := by decide +kernel
theorem dX12_feed_30 : decode cX12_feed 30 = .ok (.if_icmp .ge 7, 3) := by decide +kernel
theorem dX12_feed_33 : decode cX12_feed 33 = .ok (.lload_n 3, 1) := by decide +kernel
theorem dX12_feed_34 : decode cX12_feed 34 = .ok (.goto 5, 3) := by decide +kernel
theorem dX12_feed_37 : decode cX12_feed 37 = .ok (.lload 5, 2) := by decide +kernel
theorem dX12_feed_39 : decode cX12_feed 39 = .ok (.lstore 8, 2) := by decide +kernel
theorem dX12_feed_41 : decode cX12_feed 41 = .ok (.lload 8, 2) := by decide +kernel
theorem dX12_feed_43 : decode cX12_feed 43 = .ok (.bipush 56, 2) := by decide +kernel
theorem dX12_feed_45 : decode cX12_feed 45 = .ok (.bipush 8, 2) := by decide +kernel
theorem dX12_feed_47 : decode cX12_feed 47 = .ok (.iload 7, 2) := by decide +kernel
theorem dX12_feed_49 : decode cX12_feed 49 = .ok (.bipush 7, 2) := by decide +kernel
theorem dX12_feed_51 : decode cX12_feed 51 = .ok (.iand, 1) := by decide +kernel
theorem dX12_feed_52 : decode cX12_feed 52 = .ok (.imul, 1) := by decide +kernel
theorem dX12_feed_53 : decode cX12_feed 53 = .ok (.isub, 1) := by decide +kernel
theorem dX12_feed_54 : decode cX12_feed 54 = .ok (.lushr, 1) := by decide +kernel
theorem dX12_feed_55 : decode cX12_feed 55 = .ok (.ldc2_w 160, 3) := by decide +kernel
theorem dX12_feed_58 : decode cX12_feed 58 = .ok (.land, 1) := by decide +kernel
theorem dX12_feed_59 : decode cX12_feed 59 = .ok (.l2i, 1) := by decide +kernel
theorem dX12_feed_60 : decode cX12_feed 60 = .ok (.istore 10, 2) := by decide +kernel
theorem dX12_feed_62 : decode cX12_feed 62 = .ok (.aload_n 0, 1) := by decide +kernel
theorem dX12_feed_63 : decode cX12_feed 63 = .ok (.getfield 162, 3) := by decide +kernel
theorem dX12_feed_66 : decode cX12_feed 66 = .ok (.sipush 1000, 3) := by decide +kernel
theorem dX12_feed_69 : decode cX12_feed 69 = .ok (.if_icmp .ge 45, 3) := by decide +kernel
theorem dX12_feed_72 : decode cX12_feed 72 = .ok (.iload 10, 2) := by decide +kernel
theorem dX12_feed_74 : decode cX12_feed 74 = .ok (.bipush 10, 2) := by decide +kernel
theorem dX12_feed_76 : decode cX12_feed 76 = .ok (.if_icmp .eq 17, 3) := by decide +kernel
theorem dX12_feed_79 : decode cX12_feed 79 = .ok (.iload 10, 2) := by decide +kernel
theorem dX12_feed_81 : decode cX12_feed 81 = .ok (.bipush 32, 2) := by decide +kernel
theorem dX12_feed_83 : decode cX12_feed 83 = .ok (.if_icmp .lt 31, 3) := by decide +kernel
theorem dX12_feed_86 : decode cX12_feed 86 = .ok (.iload 10, 2) := by decide +kernel
theorem dX12_feed_88 : decode cX12_feed 88 = .ok (.bipush 126, 2) := by decide +kernel
theorem dX12_feed_90 : decode cX12_feed 90 = .ok (.if_icmp .gt 24, 3) := by decide +kernel
theorem dX12_feed_93 : decode cX12_feed 93 = .ok (.aload_n 0, 1) := by decide +kernel
theorem dX12_feed_94 : decode cX12_feed 94 = .ok (.getfield 7, 3) := by decide +kernel
theorem dX12_feed_97 : decode cX12_feed 97 = .ok (.aload_n 0, 1) := by decide +kernel
theorem dX12_feed_98 : decode cX12_feed 98 = .ok (.getfield 162, 3) := by decide +kernel
theorem dX12_feed_101 : decode cX12_feed 101 = .ok (.iload 10, 2) := by decide +kernel
theorem dX12_feed_103 : decode cX12_feed 103 = .ok (.iastore, 1) := by decide +kernel
theorem dX12_feed_104 : decode cX12_feed 104 = .ok (.aload_n 0, 1) := by decide +kernel
theorem dX12_feed_105 : decode cX12_feed 105 = .ok (.dup, 1) := by decide +kernel
theorem dX12_feed_106 : decode cX12_feed 106 = .ok (.getfield 162, 3) := by decide +kernel
theorem dX12_feed_109 : decode cX12_feed 109 = .ok (.iconst 1, 1) := by decide +kernel
theorem dX12_feed_110 : decode cX12_feed 110 = .ok (.iadd, 1) := by decide +kernel
theorem dX12_feed_111 : decode cX12_feed 111 = .ok (.putfield 162, 3) := by decide +kernel
theorem dX12_feed_114 : decode cX12_feed 114 = .ok (.iinc 7 1, 3) := by decide +kernel
theorem dX12_feed_117 : decode cX12_feed 117 = .ok (.goto (-109), 3) := by decide +kernel
theorem dX12_feed_120 : decode cX12_feed 120 = .ok (.aload_n 0, 1) := by decide +kernel
theorem dX12_feed_121 : decode cX12_feed 121 = .ok (.getfield 162, 3) := by decide +kernel
theorem dX12_feed_124 : decode cX12_feed 124 = .ok (.ireturn, 1) := by decide +kernel
theorem dX12_signAt_0 : decode cX12_signAt 0 = .ok (.iload_n 1, 1) := by decide +kernel
theorem dX12_signAt_1 : decode cX12_signAt 1 = .ok (.aload_n 0, 1) := by decide +kernel
theorem dX12_signAt_2 : decode cX12_signAt 2 = .ok (.getfield 165, 3) := by decide +kernel
theorem dX12_signAt_5 : decode cX12_signAt 5 = .ok (.if_icmp .ge 12, 3) := by decide +kernel
theorem dX12_signAt_8 : decode cX12_signAt 8 = .ok (.aload_n 0, 1) := by decide +kernel
theorem dX12_signAt_9 : decode cX12_signAt 9 = .ok (.getfield 7, 3) := by decide +kernel
theorem dX12_signAt_12 : decode cX12_signAt 12 = .ok (.iload_n 1, 1) := by decide +kernel
theorem dX12_signAt_13 : decode cX12_signAt 13 = .ok (.iaload, 1) := by decide +kernel
theorem dX12_signAt_14 : decode cX12_signAt 14 = .ok (.goto 4, 3) := by decide +kernel
theorem dX12_signAt_17 : decode cX12_signAt 17 = .ok (.iconst 0, 1) := by decide +kernel
theorem dX12_signAt_18 : decode cX12_signAt 18 = .ok (.ireturn, 1) := by decide +kernel
theorem dX12_nextToken_0 : decode cX12_nextToken 0 = .ok (.aload_n 0, 1) := by decide +kernel
theorem dX12_nextToken_1 : decode cX12_nextToken 1 = .ok (.getfield 168, 3) := by decide +kernel
theorem dX12_nextToken_4 : decode cX12_nextToken 4 = .ok (.aload_n 0, 1) := by decide +kernel
theorem dX12_nextToken_5 : decode cX12_nextToken 5 = .ok (.getfield 165, 3) := by decide +kernel
theorem dX12_nextToken_8 : decode cX12_nextToken 8 = .ok (.if_icmp .ge 44, 3) := by decide +kernel
theorem dX12_nextToken_11 : decode cX12_nextToken 11 = .ok (.aload_n 0, 1) := by decide +kernel
theorem dX12_nextToken_12 : decode cX12_nextToken 12 = .ok (.getfield 7, 3) := by decide +kernel
theorem dX12_nextToken_15 : decode cX12_nextToken 15 = .ok (.aload_n 0, 1) := by decide +kernel
theorem dX12_nextToken_16 : decode cX12_nextToken 16 = .ok (.getfield 168, 3) := by decide +kernel
theorem dX12_nextToken_19 : decode cX12_nextToken 19 = .ok (.iaload, 1) := by decide +kernel
theorem dX12_nextToken_20 : decode cX12_nextToken 20 = .ok (.bipush 32, 2) := by decide +kernel
theorem dX12_nextToken_22 : decode cX12_nextToken 22 = .ok (.if_icmp .eq 17, 3) := by decide +kernel
theorem dX12_nextToken_25 : decode cX12_nextToken 25 = .ok (.aload_n 0, 1) := by decide +kernel
theorem dX12_nextToken_26 : decode cX12_nextToken 26 = .ok (.getfield 7, 3) := by decide +kernel
theorem dX12_nextToken_29 : decode cX12_nextToken 29 = .ok (.aload_n 0, 1) := by decide +kernel
theorem dX12_nextToken_30 : decode cX12_nextToken 30 = .ok (.getfield 168, 3) := by decide +kernel
theorem dX12_nextToken_33 : decode cX12_nextToken 33 = .ok (.iaload, 1) := by decide +kernel
theorem dX12_nextToken_34 : decode cX12_nextToken 34 = .ok (.bipush 10, 2) := by decide +kernel
theorem dX12_nextToken_36 : decode cX12_nextToken 36 = .ok (.if_icmp .ne 16, 3) := by decide +kernel
theorem dX12_nextToken_39 : decode cX12_nextToken 39 = .ok (.aload_n 0, 1) := by decide +kernel
theorem dX12_nextToken_40 : decode cX12_nextToken 40 = .ok (.dup, 1) := by decide +kernel
theorem dX12_nextToken_41 : decode cX12_nextToken 41 = .ok (.getfield 168, 3) := by decide +kernel
theorem dX12_nextToken_44 : decode cX12_nextToken 44 = .ok (.iconst 1, 1) := by decide +kernel
theorem dX12_nextToken_45 : decode cX12_nextToken 45 = .ok (.iadd, 1) := by decide +kernel
theorem dX12_nextToken_46 : decode cX12_nextToken 46 = .ok (.putfield 168, 3) := by decide +kernel
theorem dX12_nextToken_49 : decode cX12_nextToken 49 = .ok (.goto (-49), 3) := by decide +kernel
theorem dX12_nextToken_52 : decode cX12_nextToken 52 = .ok (.aload_n 0, 1) := by decide +kernel
theorem dX12_nextToken_53 : decode cX12_nextToken 53 = .ok (.aload_n 0, 1) := by decide +kernel
theorem dX12_nextToken_54 : decode cX12_nextToken 54 = .ok (.getfield 168, 3) := by decide +kernel
theorem dX12_nextToken_57 : decode cX12_nextToken 57 = .ok (.putfield 171, 3) := by decide +kernel
theorem dX12_nextToken_60 : decode cX12_nextToken 60 = .ok (.aload_n 0, 1) := by decide +kernel
theorem dX12_nextToken_61 : decode cX12_nextToken 61 = .ok (.lconst 0, 1) := by decide +kernel
theorem dX12_nextToken_62 : decode cX12_nextToken 62 = .ok (.putfield 174, 3) := by decide +kernel
theorem dX12_nextToken_65 : decode cX12_nextToken 65 = .ok (.aload_n 0, 1) := by decide +kernel
theorem dX12_nextToken_66 : decode cX12_nextToken 66 = .ok (.iconst 0, 1) := by decide +kernel
theorem dX12_nextToken_67 : decode cX12_nextToken 67 = .ok (.putfield 178, 3) := by decide +kernel
theorem dX12_nextToken_70 : decode cX12_nextToken 70 = .ok (.aload_n 0, 1) := by decide +kernel
theorem dX12_nextToken_71 : decode cX12_nextToken 71 = .ok (.getfield 168, 3) := by decide +kernel
theorem dX12_nextToken_74 : decode cX12_nextToken 74 = .ok (.aload_n 0, 1) := by decide +kernel
theorem dX12_nextToken_75 : decode cX12_nextToken 75 = .ok (.getfield 165, 3) := by decide +kernel
theorem dX12_nextToken_78 : decode cX12_nextToken 78 = .ok (.if_icmp .ne 9, 3) := by decide +kernel
theorem dX12_nextToken_81 : decode cX12_nextToken 81 = .ok (.aload_n 0, 1) := by decide +kernel
theorem dX12_nextToken_82 : decode cX12_nextToken 82 = .ok (.iconst 0, 1) := by decide +kernel
theorem dX12_nextToken_83 : decode cX12_nextToken 83 = .ok (.putfield 181, 3) := by decide +kernel
theorem dX12_nextToken_86 : decode cX12_nextToken 86 = .ok (.return_, 1) := by decide +kernel
theorem dX12_nextToken_87 : decode cX12_nextToken 87 = .ok (.aload_n 0, 1) := by decide +kernel
theorem dX12_nextToken_88 : decode cX12_nextToken 88 = .ok (.getfield 7, 3) := by decide +kernel
theorem dX12_nextToken_91 : decode cX12_nextToken 91 = .ok (.aload_n 0, 1) := by decide +kernel
theorem dX12_nextToken_92 : decode cX12_nextToken 92 = .ok (.getfield 168, 3) := by decide +kernel
theorem dX12_nextToken_95 : decode cX12_nextToken 95 = .ok (.iaload, 1) := by decide +kernel
theorem dX12_nextToken_96 : decode cX12_nextToken 96 = .ok (.istore_n 1, 1) := by decide +kernel
theorem dX12_nextToken_97 : decode cX12_nextToken 97 = .ok (.iload_n 1, 1) := by decide +kernel
theorem dX12_nextToken_98 : decode cX12_nextToken 98 = .ok (.bipush 97, 2) := by decide +kernel
theorem dX12_nextToken_100 : decode cX12_nextToken 100 = .ok (.if_icmp .lt 112, 3) := by decide +kernel
theorem dX12_nextToken_103 : decode cX12_nextToken 103 = .ok (.iload_n 1, 1) := by decide +kernel
theorem dX12_nextToken_104 : decode cX12_nextToken 104 = .ok (.bipush 122, 2) := by decide +kernel
theorem dX12_nextToken_106 : decode cX12_nextToken 106 = .ok (.if_icmp .gt 106, 3) := by decide +kernel
theorem dX12_nextToken_109 : decode cX12_nextToken 109 = .ok (.aload_n 0, 1) := by decide +kernel
theorem dX12_nextToken_110 : decode cX12_nextToken 110 = .ok (.aload_n 0, 1) := by decide +kernel
theorem dX12_nextToken_111 : decode cX12_nextToken 111 = .ok (.getfield 168, 3) := by decide +kernel
theorem dX12_nextToken_114 : decode cX12_nextToken 114 = .ok (.invokevirtual 184, 3) := by decide +kernel
theorem dX12_nextToken_117 : decode cX12_nextToken 117 = .ok (.bipush 97, 2) := by decide +kernel
theorem dX12_nextToken_119 : decode cX12_nextToken 119 = .ok (.if_icmp .lt 69, 3) := by decide +kernel
theorem dX12_nextToken_122 : decode cX12_nextToken 122 = .ok (.aload_n 0, 1) := by decide +kernel
theorem dX12_nextToken_123 : decode cX12_nextToken 123 = .ok (.aload_n 0, 1) := by decide +kernel
theorem dX12_nextToken_124 : decode cX12_nextToken 124 = .ok (.getfield 168, 3) := by decide +kernel
theorem dX12_nextToken_127 : decode cX12_nextToken 127 = .ok (.invokevirtual 184, 3) := by decide +kernel
theorem dX12_nextToken_130 : decode cX12_nextToken 130 = .ok (.bipush 122, 2) := by decide +kernel
theorem dX12_nextToken_132 : decode cX12_nextToken 132 = .ok (.if_icmp .gt 56, 3) := by decide +kernel
theorem dX12_nextToken_135 : decode cX12_nextToken 135 = .ok (.aload_n 0, 1) := by decide +kernel
theorem dX12_nextToken_136 : decode cX12_nextToken 136 = .ok (.getfield 168, 3) := by decide +kernel
theorem dX12_nextToken_139 : decode cX12_nextToken 139 = .ok (.aload_n 0, 1) := by decide +kernel
theorem dX12_nextToken_140 : decode cX12_nextToken 140 = .ok (.getfield 171, 3) := by decide +kernel
theorem dX12_nextToken_143 : decode cX12_nextToken 143 = .ok (.isub, 1) := by decide +kernel
theorem dX12_nextToken_144 : decode cX12_nextToken 144 = .ok (.bipush 8, 2) := by decide +kernel
theorem dX12_nextToken_146 : decode cX12_nextToken 146 = .ok (.if_icmp .ge 29, 3) := by decide +kernel
theorem dX12_nextToken_149 : decode cX12_nextToken 149 = .ok (.aload_n 0, 1) := by decide +kernel
theorem dX12_nextToken_150 : decode cX12_nextToken 150 = .ok (.aload_n 0, 1) := by decide +kernel
theorem dX12_nextToken_151 : decode cX12_nextToken 151 = .ok (.getfield 174, 3) := by decide +kernel
theorem dX12_nextToken_154 : decode cX12_nextToken 154 = .ok (.ldc2_w 188, 3) := by decide +kernel
theorem dX12_nextToken_157 : decode cX12_nextToken 157 = .ok (.lmul, 1) := by decide +kernel
theorem dX12_nextToken_158 : decode cX12_nextToken 158 = .ok (.aload_n 0, 1) := by decide +kernel
theorem dX12_nextToken_159 : decode cX12_nextToken 159 = .ok (.aload_n 0, 1) := by decide +kernel
theorem dX12_nextToken_160 : decode cX12_nextToken 160 = .ok (.getfield 168, 3) := by decide +kernel
theorem dX12_nextToken_163 : decode cX12_nextToken 163 = .ok (.invokevirtual 184, 3) := by decide +kernel
theorem dX12_nextToken_166 : decode cX12_nextToken 166 = .ok (.i2l, 1) := by decide +kernel
theorem dX12_nextToken_167 : decode cX12_nextToken 167 = .ok (.ladd, 1) := by decide +kernel
theorem dX12_nextToken_168 : decode cX12_nextToken 168 = .ok (.ldc2_w 190, 3) := by decide +kernel
theorem dX12_nextToken_171 : decode cX12_nextToken 171 = .ok (.lsub, 1) := by decide +kernel
theorem dX12_nextToken_172 : decode cX12_nextToken 172 = .ok (.putfield 174, 3) := by decide +kernel
theorem dX12_nextToken_175 : decode cX12_nextToken 175 = .ok (.aload_n 0, 1) := by decide +kernel
theorem dX12_nextToken_176 : decode cX12_nextToken 176 = .ok (.dup, 1) := by decide +kernel
theorem dX12_nextToken_177 : decode cX12_nextToken 177 = .ok (.getfield 168, 3) := by decide +kernel
theorem dX12_nextToken_180 : decode cX12_nextToken 180 = .ok (.iconst 1, 1) := by decide +kernel
theorem dX12_nextToken_181 : decode cX12_nextToken 181 = .ok (.iadd, 1) := by decide +kernel
theorem dX12_nextToken_182 : decode cX12_nextToken 182 = .ok (.putfield 168, 3) := by decide +kernel
theorem dX12_nextToken_185 : decode cX12_nextToken 185 = .ok (.goto (-76), 3) := by decide +kernel
theorem dX12_nextToken_188 : decode cX12_nextToken 188 = .ok (.aload_n 0, 1) := by decide +kernel
theorem dX12_nextToken_189 : decode cX12_nextToken 189 = .ok (.aload_n 0, 1) := by decide +kernel
theorem dX12_nextToken_190 : decode cX12_nextToken 190 = .ok (.getfield 168, 3) := by decide +kernel
theorem dX12_nextToken_193 : decode cX12_nextToken 193 = .ok (.aload_n 0, 1) := by decide +kernel
theorem dX12_nextToken_194 : decode cX12_nextToken 194 = .ok (.getfield 171, 3) := by decide +kernel
theorem dX12_nextToken_197 : decode cX12_nextToken 197 = .ok (.isub, 1) := by decide +kernel
theorem dX12_nextToken_198 : decode cX12_nextToken 198 = .ok (.bipush 8, 2) := by decide +kernel
theorem dX12_nextToken_200 : decode cX12_nextToken 200 = .ok (.if_icmp .le 7, 3) := by decide +kernel
theorem dX12_nextToken_203 : decode cX12_nextToken 203 = .ok (.iconst 4, 1) := by decide +kernel
theorem dX12_nextToken_204 : decode cX12_nextToken 204 = .ok (.goto 4, 3) := by decide +kernel
theorem dX12_nextToken_207 : decode cX12_nextToken 207 = .ok (.iconst 1, 1) := by decide +kernel
theorem dX12_nextToken_208 : decode cX12_nextToken 208 = .ok (.putfield 181, 3) := by decide +kernel
theorem dX12_nextToken_211 : decode cX12_nextToken 211 = .ok (.return_, 1) := by decide +kernel
theorem dX12_nextToken_212 : decode cX12_nextToken 212 = .ok (.iload_n 1, 1) := by decide +kernel
theorem dX12_nextToken_213 : decode cX12_nextToken 213 = .ok (.bipush 48, 2) := by decide +kernel
theorem dX12_nextToken_215 : decode cX12_nextToken 215 = .ok (.if_icmp .lt 107, 3) := by decide +kernel
theorem dX12_nextToken_218 : decode cX12_nextToken 218 = .ok (.iload_n 1, 1) := by decide +kernel
theorem dX12_nextToken_219 : decode cX12_nextToken 219 = .ok (.bipush 57, 2) := by decide +kernel
theorem dX12_nextToken_221 : decode cX12_nextToken 221 = .ok (.if_icmp .gt 101, 3) := by decide +kernel
theorem dX12_nextToken_224 : decode cX12_nextToken 224 = .ok (.aload_n 0, 1) := by decide +kernel
theorem dX12_nextToken_225 : decode cX12_nextToken 225 = .ok (.aload_n 0, 1) := by decide +kernel
theorem dX12_nextToken_226 : decode cX12_nextToken 226 = .ok (.getfield 168, 3) := by decide +kernel
theorem dX12_nextToken_229 : decode cX12_nextToken 229 = .ok (.invokevirtual 184, 3) := by decide +kernel
theorem dX12_nextToken_232 : decode cX12_nextToken 232 = .ok (.bipush 48, 2) := by decide +kernel
theorem dX12_nextToken_234 : decode cX12_nextToken 234 = .ok (.if_icmp .lt 65, 3) := by decide +kernel
theorem dX12_nextToken_237 : decode cX12_nextToken 237 = .ok (.aload_n 0, 1) := by decide +kernel
theorem dX12_nextToken_238 : decode cX12_nextToken 238 = .ok (.aload_n 0, 1) := by decide +kernel
theorem dX12_nextToken_239 : decode cX12_nextToken 239 = .ok (.getfield 168, 3) := by decide +kernel
theorem dX12_nextToken_242 : decode cX12_nextToken 242 = .ok (.invokevirtual 184, 3) := by decide +kernel
theorem dX12_nextToken_245 : decode cX12_nextToken 245 = .ok (.bipush 57, 2) := by decide +kernel
theorem dX12_nextToken_247 : decode cX12_nextToken 247 = .ok (.if_icmp .gt 52, 3) := by decide +kernel
theorem dX12_nextToken_250 : decode cX12_nextToken 250 = .ok (.aload_n 0, 1) := by decide +kernel
theorem dX12_nextToken_251 : decode cX12_nextToken 251 = .ok (.getfield 168, 3) := by decide +kernel
theorem dX12_nextToken_254 : decode cX12_nextToken 254 = .ok (.aload_n 0, 1) := by decide +kernel
theorem dX12_nextToken_255 : decode cX12_nextToken 255 = .ok (.getfield 171, 3) := by decide +kernel
theorem dX12_nextToken_258 : decode cX12_nextToken 258 = .ok (.isub, 1) := by decide +kernel
theorem dX12_nextToken_259 : decode cX12_nextToken 259 = .ok (.iconst 4, 1) := by decide +kernel
theorem dX12_nextToken_260 : decode cX12_nextToken 260 = .ok (.if_icmp .ge 26, 3) := by decide +kernel
theorem dX12_nextToken_263 : decode cX12_nextToken 263 = .ok (.aload_n 0, 1) := by decide +kernel
theorem dX12_nextToken_264 : decode cX12_nextToken 264 = .ok (.aload_n 0, 1) := by decide +kernel
theorem dX12_nextToken_265 : decode cX12_nextToken 265 = .ok (.getfield 178, 3) := by decide +kernel
theorem dX12_nextToken_268 : decode cX12_nextToken 268 = .ok (.bipush 10, 2) := by decide +kernel
theorem dX12_nextToken_270 : decode cX12_nextToken 270 = .ok (.imul, 1) := by decide +kernel
theorem dX12_nextToken_271 : decode cX12_nextToken 271 = .ok (.aload_n 0, 1) := by decide +kernel
theorem dX12_nextToken_272 : decode cX12_nextToken 272 = .ok (.aload_n 0, 1) := by decide +kernel
theorem dX12_nextToken_273 : decode cX12_nextToken 273 = .ok (.getfield 168, 3) := by decide +kernel
theorem dX12_nextToken_276 : decode cX12_nextToken 276 = .ok (.invokevirtual 184, 3) := by decide +kernel
theorem dX12_nextToken_279 : decode cX12_nextToken 279 = .ok (.iadd, 1) := by decide +kernel
theorem dX12_nextToken_280 : decode cX12_nextToken 280 = .ok (.bipush 48, 2) := by decide +kernel
theorem dX12_nextToken_282 : decode cX12_nextToken 282 = .ok (.isub, 1) := by decide +kernel
theorem dX12_nextToken_283 : decode cX12_nextToken 283 = .ok (.putfield 178, 3) := by decide +kernel
theorem dX12_nextToken_286 : decode cX12_nextToken 286 = .ok (.aload_n 0, 1) := by decide +kernel
theorem dX12_nextToken_287 : decode cX12_nextToken 287 = .ok (.dup, 1) := by decide +kernel
theorem dX12_nextToken_288 : decode cX12_nextToken 288 = .ok (.getfield 168, 3) := by decide +kernel
theorem dX12_nextToken_291 : decode cX12_nextToken 291 = .ok (.iconst 1, 1) := by decide +kernel
theorem dX12_nextToken_292 : decode cX12_nextToken 292 = .ok (.iadd, 1) := by decide +kernel
theorem dX12_nextToken_293 : decode cX12_nextToken 293 = .ok (.putfield 168, 3) := by decide +kernel
theorem dX12_nextToken_296 : decode cX12_nextToken 296 = .ok (.goto (-72), 3) := by decide +kernel
theorem dX12_nextToken_299 : decode cX12_nextToken 299 = .ok (.aload_n 0, 1) := by decide +kernel
theorem dX12_nextToken_300 : decode cX12_nextToken 300 = .ok (.aload_n 0, 1) := by decide +kernel
theorem dX12_nextToken_301 : decode cX12_nextToken 301 = .ok (.getfield 168, 3) := by decide +kernel
theorem dX12_nextToken_304 : decode cX12_nextToken 304 = .ok (.aload_n 0, 1) := by decide +kernel
theorem dX12_nextToken_305 : decode cX12_nextToken 305 = .ok (.getfield 171, 3) := by decide +kernel
theorem dX12_nextToken_308 : decode cX12_nextToken 308 = .ok (.isub, 1) := by decide +kernel
theorem dX12_nextToken_309 : decode cX12_nextToken 309 = .ok (.iconst 4, 1) := by decide +kernel
theorem dX12_nextToken_310 : decode cX12_nextToken 310 = .ok (.if_icmp .le 7, 3) := by decide +kernel
theorem dX12_nextToken_313 : decode cX12_nextToken 313 = .ok (.iconst 4, 1) := by decide +kernel
theorem dX12_nextToken_314 : decode cX12_nextToken 314 = .ok (.goto 4, 3) := by decide +kernel
theorem dX12_nextToken_317 : decode cX12_nextToken 317 = .ok (.iconst 2, 1) := by decide +kernel
theorem dX12_nextToken_318 : decode cX12_nextToken 318 = .ok (.putfield 181, 3) := by decide +kernel
theorem dX12_nextToken_321 : decode cX12_nextToken 321 = .ok (.return_, 1) := by decide +kernel
theorem dX12_nextToken_322 : decode cX12_nextToken 322 = .ok (.aload_n 0, 1) := by decide +kernel
theorem dX12_nextToken_323 : decode cX12_nextToken 323 = .ok (.dup, 1) := by decide +kernel
theorem dX12_nextToken_324 : decode cX12_nextToken 324 = .ok (.getfield 168, 3) := by decide +kernel
theorem dX12_nextToken_327 : decode cX12_nextToken 327 = .ok (.iconst 1, 1) := by decide +kernel
theorem dX12_nextToken_328 : decode cX12_nextToken 328 = .ok (.iadd, 1) := by decide +kernel
theorem dX12_nextToken_329 : decode cX12_nextToken 329 = .ok (.putfield 168, 3) := by decide +kernel
theorem dX12_nextToken_332 : decode cX12_nextToken 332 = .ok (.aload_n 0, 1) := by decide +kernel
theorem dX12_nextToken_333 : decode cX12_nextToken 333 = .ok (.iload_n 1, 1) := by decide +kernel
theorem dX12_nextToken_334 : decode cX12_nextToken 334 = .ok (.bipush 40, 2) := by decide +kernel
theorem dX12_nextToken_336 : decode cX12_nextToken 336 = .ok (.if_icmp .lt 9, 3) := by decide +kernel
theorem dX12_nextToken_339 : decode cX12_nextToken 339 = .ok (.iload_n 1, 1) := by decide +kernel
theorem dX12_nextToken_340 : decode cX12_nextToken 340 = .ok (.bipush 43, 2) := by decide +kernel
theorem dX12_nextToken_342 : decode cX12_nextToken 342 = .ok (.if_icmp .le 21, 3) := by decide +kernel
theorem dX12_nextToken_345 : decode cX12_nextToken 345 = .ok (.iload_n 1, 1) := by decide +kernel
theorem dX12_nextToken_346 : decode cX12_nextToken 346 = .ok (.bipush 45, 2) := by decide +kernel
theorem dX12_nextToken_348 : decode cX12_nextToken 348 = .ok (.if_icmp .eq 15, 3) := by decide +kernel
theorem dX12_nextToken_351 : decode cX12_nextToken 351 = .ok (.iload_n 1, 1) := by decide +kernel
theorem dX12_nextToken_352 : decode cX12_nextToken 352 = .ok (.bipush 59, 2) := by decide +kernel
theorem dX12_nextToken_354 : decode cX12_nextToken 354 = .ok (.if_icmp .lt 13, 3) := by decide +kernel
theorem dX12_nextToken_357 : decode cX12_nextToken 357 = .ok (.iload_n 1, 1) := by decide +kernel
theorem dX12_nextToken_358 : decode cX12_nextToken 358 = .ok (.bipush 61, 2) := by decide +kernel
theorem dX12_nextToken_360 : decode cX12_nextToken 360 = .ok (.if_icmp .gt 7, 3) := by decide +kernel
theorem dX12_nextToken_363 : decode cX12_nextToken 363 = .ok (.iconst 3, 1) := by decide +kernel
theorem dX12_nextToken_364 : decode cX12_nextToken 364 = .ok (.goto 4, 3) := by decide +kernel
theorem dX12_nextToken_367 : decode cX12_nextToken 367 = .ok (.iconst 4, 1) := by decide +kernel
theorem dX12_nextToken_368 : decode cX12_nextToken 368 = .ok (.putfield 181, 3) := by decide +kernel
theorem dX12_nextToken_371 : decode cX12_nextToken 371 = .ok (.return_, 1) := by decide +kernel
theorem dX12_isWord_0 : decode cX12_isWord 0 = .ok (.aload_n 0, 1) := by decide +kernel
theorem dX12_isWord_1 : decode cX12_isWord 1 = .ok (.getfield 181, 3) := by decide +kernel
theorem dX12_isWord_4 : decode cX12_isWord 4 = .ok (.iconst 1, 1) := by decide +kernel
theorem dX12_isWord_5 : decode cX12_isWord 5 = .ok (.if_icmp .ne 16, 3) := by decide +kernel
theorem dX12_isWord_8 : decode cX12_isWord 8 = .ok (.aload_n 0, 1) := by decide +kernel
theorem dX12_isWord_9 : decode cX12_isWord 9 = .ok (.getfield 174, 3) := by decide +kernel
theorem dX12_isWord_12 : decode cX12_isWord 12 = .ok (.lload_n 1, 1) := by decide +kernel
theorem dX12_isWord_13 : decode cX12_isWord 13 = .ok (.lcmp, 1) := by decide +kernel
theorem dX12_isWord_14 : decode cX12_isWord 14 = .ok (.ifCond .ne 7, 3) := by decide +kernel
theorem dX12_isWord_17 : decode cX12_isWord 17 = .ok (.iconst 1, 1) := by decide +kernel
theorem dX12_isWord_18 : decode cX12_isWord 18 = .ok (.goto 4, 3) := by decide +kernel
theorem dX12_isWord_21 : decode cX12_isWord 21 = .ok (.iconst 0, 1) := by decide +kernel
theorem dX12_isWord_22 : decode cX12_isWord 22 = .ok (.ireturn, 1) := by decide +kernel
theorem dX12_isSign_0 : decode cX12_isSign 0 = .ok (.aload_n 0, 1) := by decide +kernel
theorem dX12_isSign_1 : decode cX12_isSign 1 = .ok (.getfield 181, 3) := by decide +kernel
theorem dX12_isSign_4 : decode cX12_isSign 4 = .ok (.iconst 3, 1) := by decide +kernel
theorem dX12_isSign_5 : decode cX12_isSign 5 = .ok (.if_icmp .ne 20, 3) := by decide +kernel
theorem dX12_isSign_8 : decode cX12_isSign 8 = .ok (.aload_n 0, 1) := by decide +kernel
theorem dX12_isSign_9 : decode cX12_isSign 9 = .ok (.getfield 7, 3) := by decide +kernel
theorem dX12_isSign_12 : decode cX12_isSign 12 = .ok (.aload_n 0, 1) := by decide +kernel
theorem dX12_isSign_13 : decode cX12_isSign 13 = .ok (.getfield 171, 3) := by decide +kernel
theorem dX12_isSign_16 : decode cX12_isSign 16 = .ok (.iaload, 1) := by decide +kernel
theorem dX12_isSign_17 : decode cX12_isSign 17 = .ok (.iload_n 1, 1) := by decide +kernel
theorem dX12_isSign_18 : decode cX12_isSign 18 = .ok (.if_icmp .ne 7, 3) := by decide +kernel
theorem dX12_isSign_21 : decode cX12_isSign 21 = .ok (.iconst 1, 1) := by decide +kernel
theorem dX12_isSign_22 : decode cX12_isSign 22 = .ok (.goto 4, 3) := by decide +kernel
theorem dX12_isSign_25 : decode cX12_isSign 25 = .ok (.iconst 0, 1) := by decide +kernel
theorem dX12_isSign_26 : decode cX12_isSign 26 = .ok (.ireturn, 1) := by decide +kernel
theorem dX12_fails_0 : decode cX12_fails 0 = .ok (.aload_n 0, 1) := by decide +kernel
theorem dX12_fails_1 : decode cX12_fails 1 = .ok (.iload_n 1, 1) := by decide +kernel
theorem dX12_fails_2 : decode cX12_fails 2 = .ok (.bipush 16, 2) := by decide +kernel
theorem dX12_fails_4 : decode cX12_fails 4 = .ok (.aload_n 0, 1) := by decide +kernel
theorem dX12_fails_5 : decode cX12_fails 5 = .ok (.getfield 171, 3) := by decide +kernel
theorem dX12_fails_8 : decode cX12_fails 8 = .ok (.imul, 1) := by decide +kernel
theorem dX12_fails_9 : decode cX12_fails 9 = .ok (.iadd, 1) := by decide +kernel
theorem dX12_fails_10 : decode cX12_fails 10 = .ok (.putfield 192, 3) := by decide +kernel
theorem dX12_fails_13 : decode cX12_fails 13 = .ok (.iconst 0, 1) := by decide +kernel
theorem dX12_fails_14 : decode cX12_fails 14 = .ok (.ireturn, 1) := by decide +kernel
theorem dX12_puts_0 : decode cX12_puts 0 = .ok (.aload_n 0, 1) := by decide +kernel
theorem dX12_puts_1 : decode cX12_puts 1 = .ok (.getfield 69, 3) := by decide +kernel
theorem dX12_puts_4 : decode cX12_puts 4 = .ok (.aload_n 0, 1) := by decide +kernel
theorem dX12_puts_5 : decode cX12_puts 5 = .ok (.getfield 195, 3) := by decide +kernel
theorem dX12_puts_8 : decode cX12_puts 8 = .ok (.iload_n 1, 1) := by decide +kernel
theorem dX12_puts_9 : decode cX12_puts 9 = .ok (.iastore, 1) := by decide +kernel
theorem dX12_puts_10 : decode cX12_puts 10 = .ok (.aload_n 0, 1) := by decide +kernel
theorem dX12_puts_11 : decode cX12_puts 11 = .ok (.dup, 1) := by decide +kernel
theorem dX12_puts_12 : decode cX12_puts 12 = .ok (.getfield 195, 3) := by decide +kernel
theorem dX12_puts_15 : decode cX12_puts 15 = .ok (.iconst 1, 1) := by decide +kernel
theorem dX12_puts_16 : decode cX12_puts 16 = .ok (.iadd, 1) := by decide +kernel
theorem dX12_puts_17 : decode cX12_puts 17 = .ok (.putfield 195, 3) := by decide +kernel
theorem dX12_puts_20 : decode cX12_puts 20 = .ok (.return_, 1) := by decide +kernel
theorem dX12_fact_0 : decode cX12_fact 0 = .ok (.aload_n 0, 1) := by decide +kernel
theorem dX12_fact_1 : decode cX12_fact 1 = .ok (.getfield 181, 3) := by decide +kernel
theorem dX12_fact_4 : decode cX12_fact 4 = .ok (.iconst 1, 1) := by decide +kernel
theorem dX12_fact_5 : decode cX12_fact 5 = .ok (.if_icmp .eq 5, 3) := by decide +kernel
theorem dX12_fact_8 : decode cX12_fact 8 = .ok (.iconst 0, 1) := by decide +kernel
theorem dX12_fact_9 : decode cX12_fact 9 = .ok (.ireturn, 1) := by decide +kernel
theorem dX12_fact_10 : decode cX12_fact 10 = .ok (.aload_n 0, 1) := by decide +kernel
theorem dX12_fact_11 : decode cX12_fact 11 = .ok (.getfield 174, 3) := by decide +kernel
theorem dX12_fact_14 : decode cX12_fact 14 = .ok (.ldc2_w 198, 3) := by decide +kernel
theorem dX12_fact_17 : decode cX12_fact 17 = .ok (.lcmp, 1) := by decide +kernel
theorem dX12_fact_18 : decode cX12_fact 18 = .ok (.ifCond .ne 5, 3) := by decide +kernel
theorem dX12_fact_21 : decode cX12_fact 21 = .ok (.iconst 1, 1) := by decide +kernel
theorem dX12_fact_22 : decode cX12_fact 22 = .ok (.ireturn, 1) := by decide +kernel
theorem dX12_fact_23 : decode cX12_fact 23 = .ok (.aload_n 0, 1) := by decide +kernel
theorem dX12_fact_24 : decode cX12_fact 24 = .ok (.getfield 174, 3) := by decide +kernel
theorem dX12_fact_27 : decode cX12_fact 27 = .ok (.ldc2_w 200, 3) := by decide +kernel
theorem dX12_fact_30 : decode cX12_fact 30 = .ok (.lcmp, 1) := by decide +kernel
theorem dX12_fact_31 : decode cX12_fact 31 = .ok (.ifCond .ne 5, 3) := by decide +kernel
theorem dX12_fact_34 : decode cX12_fact 34 = .ok (.iconst 2, 1) := by decide +kernel
theorem dX12_fact_35 : decode cX12_fact 35 = .ok (.ireturn, 1) := by decide +kernel
theorem dX12_fact_36 : decode cX12_fact 36 = .ok (.aload_n 0, 1) := by decide +kernel
theorem dX12_fact_37 : decode cX12_fact 37 = .ok (.getfield 174, 3) := by decide +kernel
theorem dX12_fact_40 : decode cX12_fact 40 = .ok (.ldc2_w 202, 3) := by decide +kernel
theorem dX12_fact_43 : decode cX12_fact 43 = .ok (.lcmp, 1) := by decide +kernel
theorem dX12_fact_44 : decode cX12_fact 44 = .ok (.ifCond .ne 5, 3) := by decide +kernel
theorem dX12_fact_47 : decode cX12_fact 47 = .ok (.iconst 3, 1) := by decide +kernel
theorem dX12_fact_48 : decode cX12_fact 48 = .ok (.ireturn, 1) := by decide +kernel
theorem dX12_fact_49 : decode cX12_fact 49 = .ok (.aload_n 0, 1) := by decide +kernel
theorem dX12_fact_50 : decode cX12_fact 50 = .ok (.getfield 174, 3) := by decide +kernel
theorem dX12_fact_53 : decode cX12_fact 53 = .ok (.ldc2_w 204, 3) := by decide +kernel
theorem dX12_fact_56 : decode cX12_fact 56 = .ok (.lcmp, 1) := by decide +kernel
theorem dX12_fact_57 : decode cX12_fact 57 = .ok (.ifCond .ne 5, 3) := by decide +kernel
theorem dX12_fact_60 : decode cX12_fact 60 = .ok (.iconst 4, 1) := by decide +kernel
theorem dX12_fact_61 : decode cX12_fact 61 = .ok (.ireturn, 1) := by decide +kernel
theorem dX12_fact_62 : decode cX12_fact 62 = .ok (.aload_n 0, 1) := by decide +kernel
theorem dX12_fact_63 : decode cX12_fact 63 = .ok (.getfield 174, 3) := by decide +kernel
theorem dX12_fact_66 : decode cX12_fact 66 = .ok (.ldc2_w 206, 3) := by decide +kernel
theorem dX12_fact_69 : decode cX12_fact 69 = .ok (.lcmp, 1) := by decide +kernel
theorem dX12_fact_70 : decode cX12_fact 70 = .ok (.ifCond .ne 5, 3) := by decide +kernel
theorem dX12_fact_73 : decode cX12_fact 73 = .ok (.iconst 5, 1) := by decide +kernel
theorem dX12_fact_74 : decode cX12_fact 74 = .ok (.ireturn, 1) := by decide +kernel
theorem dX12_fact_75 : decode cX12_fact 75 = .ok (.iconst 0, 1) := by decide +kernel
theorem dX12_fact_76 : decode cX12_fact 76 = .ok (.ireturn, 1) := by decide +kernel
theorem dX12_reads_0 : decode cX12_reads 0 = .ok (.iconst 0, 1) := by decide +kernel
theorem dX12_reads_1 : decode cX12_reads 1 = .ok (.istore_n 1, 1) := by decide +kernel
theorem dX12_reads_2 : decode cX12_reads 2 = .ok (.iconst 1, 1) := by decide +kernel
theorem dX12_reads_3 : decode cX12_reads 3 = .ok (.istore_n 2, 1) := by decide +kernel
theorem dX12_reads_4 : decode cX12_reads 4 = .ok (.aload_n 0, 1) := by decide +kernel
theorem dX12_reads_5 : decode cX12_reads 5 = .ok (.getfield 75, 3) := by decide +kernel
theorem dX12_reads_8 : decode cX12_reads 8 = .ok (.iconst 0, 1) := by decide +kernel
theorem dX12_reads_9 : decode cX12_reads 9 = .ok (.iconst 0, 1) := by decide +kernel
theorem dX12_reads_10 : decode cX12_reads 10 = .ok (.bastore, 1) := by decide +kernel
theorem dX12_reads_11 : decode cX12_reads 11 = .ok (.iload_n 2, 1) := by decide +kernel
theorem dX12_reads_12 : decode cX12_reads 12 = .ok (.ifCond .eq 167, 3) := by decide +kernel
theorem dX12_reads_15 : decode cX12_reads 15 = .ok (.aload_n 0, 1) := by decide +kernel
theorem dX12_reads_16 : decode cX12_reads 16 = .ok (.invokevirtual 208, 3) := by decide +kernel
theorem dX12_reads_19 : decode cX12_reads 19 = .ok (.istore_n 3, 1) := by decide +kernel
theorem dX12_reads_20 : decode cX12_reads 20 = .ok (.aload_n 0, 1) := by decide +kernel
theorem dX12_reads_21 : decode cX12_reads 21 = .ok (.ldc2_w 212, 3) := by decide +kernel
theorem dX12_reads_24 : decode cX12_reads 24 = .ok (.invokevirtual 214, 3) := by decide +kernel
theorem dX12_reads_27 : decode cX12_reads 27 = .ok (.istore 4, 2) := by decide +kernel
theorem dX12_reads_29 : decode cX12_reads 29 = .ok (.aload_n 0, 1) := by decide +kernel
theorem dX12_reads_30 : decode cX12_reads 30 = .ok (.bipush 40, 2) := by decide +kernel
theorem dX12_reads_32 : decode cX12_reads 32 = .ok (.invokevirtual 218, 3) := by decide +kernel
theorem dX12_reads_35 : decode cX12_reads 35 = .ok (.istore 5, 2) := by decide +kernel
theorem dX12_reads_37 : decode cX12_reads 37 = .ok (.iload_n 3, 1) := by decide +kernel
theorem dX12_reads_38 : decode cX12_reads 38 = .ok (.ifCond .ne 27, 3) := by decide +kernel
theorem dX12_reads_41 : decode cX12_reads 41 = .ok (.iload 4, 2) := by decide +kernel
theorem dX12_reads_43 : decode cX12_reads 43 = .ok (.ifCond .ne 22, 3) := by decide +kernel
theorem dX12_reads_46 : decode cX12_reads 46 = .ok (.iload 5, 2) := by decide +kernel
theorem dX12_reads_48 : decode cX12_reads 48 = .ok (.ifCond .ne 17, 3) := by decide +kernel
theorem dX12_reads_51 : decode cX12_reads 51 = .ok (.aload_n 0, 1) := by decide +kernel
theorem dX12_reads_52 : decode cX12_reads 52 = .ok (.getfield 181, 3) := by decide +kernel
theorem dX12_reads_55 : decode cX12_reads 55 = .ok (.iconst 2, 1) := by decide +kernel
theorem dX12_reads_56 : decode cX12_reads 56 = .ok (.if_icmp .eq 9, 3) := by decide +kernel
theorem dX12_reads_59 : decode cX12_reads 59 = .ok (.aload_n 0, 1) := by decide +kernel
theorem dX12_reads_60 : decode cX12_reads 60 = .ok (.iconst 1, 1) := by decide +kernel
theorem dX12_reads_61 : decode cX12_reads 61 = .ok (.invokevirtual 222, 3) := by decide +kernel
theorem dX12_reads_64 : decode cX12_reads 64 = .ok (.ireturn, 1) := by decide +kernel
theorem dX12_reads_65 : decode cX12_reads 65 = .ok (.iload_n 1, 1) := by decide +kernel
theorem dX12_reads_66 : decode cX12_reads 66 = .ok (.iconst 5, 1) := by decide +kernel
theorem dX12_reads_67 : decode cX12_reads 67 = .ok (.if_icmp .ne 9, 3) := by decide +kernel
theorem dX12_reads_70 : decode cX12_reads 70 = .ok (.aload_n 0, 1) := by decide +kernel
theorem dX12_reads_71 : decode cX12_reads 71 = .ok (.iconst 5, 1) := by decide +kernel
theorem dX12_reads_72 : decode cX12_reads 72 = .ok (.invokevirtual 222, 3) := by decide +kernel
theorem dX12_reads_75 : decode cX12_reads 75 = .ok (.ireturn, 1) := by decide +kernel
theorem dX12_reads_76 : decode cX12_reads 76 = .ok (.iload 4, 2) := by decide +kernel
theorem dX12_reads_78 : decode cX12_reads 78 = .ok (.ifCond .ne 8, 3) := by decide +kernel
theorem dX12_reads_81 : decode cX12_reads 81 = .ok (.iload 5, 2) := by decide +kernel
theorem dX12_reads_83 : decode cX12_reads 83 = .ok (.ifCond .eq 48, 3) := by decide +kernel
theorem dX12_reads_86 : decode cX12_reads 86 = .ok (.aload_n 0, 1) := by decide +kernel
theorem dX12_reads_87 : decode cX12_reads 87 = .ok (.iload 4, 2) := by decide +kernel
theorem dX12_reads_89 : decode cX12_reads 89 = .ok (.ifCond .eq 8, 3) := by decide +kernel
theorem dX12_reads_92 : decode cX12_reads 92 = .ok (.bipush 30, 2) := by decide +kernel
theorem dX12_reads_94 : decode cX12_reads 94 = .ok (.goto 5, 3) := by decide +kernel
theorem dX12_reads_97 : decode cX12_reads 97 = .ok (.bipush 28, 2) := by decide +kernel
theorem dX12_reads_99 : decode cX12_reads 99 = .ok (.invokevirtual 225, 3) := by decide +kernel
theorem dX12_reads_102 : decode cX12_reads 102 = .ok (.iinc 1 1, 3) := by decide +kernel
theorem dX12_reads_105 : decode cX12_reads 105 = .ok (.aload_n 0, 1) := by decide +kernel
theorem dX12_reads_106 : decode cX12_reads 106 = .ok (.getfield 72, 3) := by decide +kernel
theorem dX12_reads_109 : decode cX12_reads 109 = .ok (.iload_n 1, 1) := by decide +kernel
theorem dX12_reads_110 : decode cX12_reads 110 = .ok (.iload 4, 2) := by decide +kernel
theorem dX12_reads_112 : decode cX12_reads 112 = .ok (.ifCond .eq 7, 3) := by decide +kernel
theorem dX12_reads_115 : decode cX12_reads 115 = .ok (.iconst 1, 1) := by decide +kernel
theorem dX12_reads_116 : decode cX12_reads 116 = .ok (.goto 4, 3) := by decide +kernel
theorem dX12_reads_119 : decode cX12_reads 119 = .ok (.iconst 2, 1) := by decide +kernel
theorem dX12_reads_120 : decode cX12_reads 120 = .ok (.iastore, 1) := by decide +kernel
theorem dX12_reads_121 : decode cX12_reads 121 = .ok (.aload_n 0, 1) := by decide +kernel
theorem dX12_reads_122 : decode cX12_reads 122 = .ok (.getfield 75, 3) := by decide +kernel
theorem dX12_reads_125 : decode cX12_reads 125 = .ok (.iload_n 1, 1) := by decide +kernel
theorem dX12_reads_126 : decode cX12_reads 126 = .ok (.iconst 0, 1) := by decide +kernel
theorem dX12_reads_127 : decode cX12_reads 127 = .ok (.bastore, 1) := by decide +kernel
theorem dX12_reads_128 : decode cX12_reads 128 = .ok (.goto 44, 3) := by decide +kernel
theorem dX12_reads_131 : decode cX12_reads 131 = .ok (.aload_n 0, 1) := by decide +kernel
theorem dX12_reads_132 : decode cX12_reads 132 = .ok (.iload_n 3, 1) := by decide +kernel
theorem dX12_reads_133 : decode cX12_reads 133 = .ok (.ifCond .le 7, 3) := by decide +kernel
theorem dX12_reads_136 : decode cX12_reads 136 = .ok (.iload_n 3, 1) := by decide +kernel
theorem dX12_reads_137 : decode cX12_reads 137 = .ok (.goto 10, 3) := by decide +kernel
theorem dX12_reads_140 : decode cX12_reads 140 = .ok (.bipush 100, 2) := by decide +kernel
theorem dX12_reads_142 : decode cX12_reads 142 = .ok (.aload_n 0, 1) := by decide +kernel
theorem dX12_reads_143 : decode cX12_reads 143 = .ok (.getfield 178, 3) := by decide +kernel
theorem dX12_reads_146 : decode cX12_reads 146 = .ok (.iadd, 1) := by decide +kernel
theorem dX12_reads_147 : decode cX12_reads 147 = .ok (.invokevirtual 225, 3) := by decide +kernel
theorem dX12_reads_150 : decode cX12_reads 150 = .ok (.iconst 0, 1) := by decide +kernel
theorem dX12_reads_151 : decode cX12_reads 151 = .ok (.istore_n 2, 1) := by decide +kernel
theorem dX12_reads_152 : decode cX12_reads 152 = .ok (.iload_n 1, 1) := by decide +kernel
theorem dX12_reads_153 : decode cX12_reads 153 = .ok (.ifCond .le 19, 3) := by decide +kernel
theorem dX12_reads_156 : decode cX12_reads 156 = .ok (.aload_n 0, 1) := by decide +kernel
theorem dX12_reads_157 : decode cX12_reads 157 = .ok (.getfield 72, 3) := by decide +kernel
theorem dX12_reads_160 : decode cX12_reads 160 = .ok (.iload_n 1, 1) := by decide +kernel
theorem dX12_reads_161 : decode cX12_reads 161 = .ok (.iaload, 1) := by decide +kernel
theorem dX12_reads_162 : decode cX12_reads 162 = .ok (.iconst 1, 1) := by decide +kernel
theorem dX12_reads_163 : decode cX12_reads 163 = .ok (.if_icmp .ne 9, 3) := by decide +kernel
theorem dX12_reads_166 : decode cX12_reads 166 = .ok (.iinc 1 (-1), 3) := by decide +kernel
theorem dX12_reads_169 : decode cX12_reads 169 = .ok (.goto (-17), 3) := by decide +kernel
theorem dX12_reads_172 : decode cX12_reads 172 = .ok (.aload_n 0, 1) := by decide +kernel
theorem dX12_reads_173 : decode cX12_reads 173 = .ok (.invokevirtual 229, 3) := by decide +kernel
theorem dX12_reads_176 : decode cX12_reads 176 = .ok (.goto (-165), 3) := by decide +kernel
theorem dX12_reads_179 : decode cX12_reads 179 = .ok (.aload_n 0, 1) := by decide +kernel
theorem dX12_reads_180 : decode cX12_reads 180 = .ok (.bipush 43, 2) := by decide +kernel
theorem dX12_reads_182 : decode cX12_reads 182 = .ok (.invokevirtual 218, 3) := by decide +kernel
theorem dX12_reads_185 : decode cX12_reads 185 = .ok (.ifCond .ne 21, 3) := by decide +kernel
theorem dX12_reads_188 : decode cX12_reads 188 = .ok (.aload_n 0, 1) := by decide +kernel
theorem dX12_reads_189 : decode cX12_reads 189 = .ok (.bipush 45, 2) := by decide +kernel
theorem dX12_reads_191 : decode cX12_reads 191 = .ok (.invokevirtual 218, 3) := by decide +kernel
theorem dX12_reads_194 : decode cX12_reads 194 = .ok (.ifCond .ne 12, 3) := by decide +kernel
theorem dX12_reads_197 : decode cX12_reads 197 = .ok (.aload_n 0, 1) := by decide +kernel
theorem dX12_reads_198 : decode cX12_reads 198 = .ok (.bipush 42, 2) := by decide +kernel
theorem dX12_reads_200 : decode cX12_reads 200 = .ok (.invokevirtual 218, 3) := by decide +kernel
theorem dX12_reads_203 : decode cX12_reads 203 = .ok (.ifCond .eq 42, 3) := by decide +kernel
theorem dX12_reads_206 : decode cX12_reads 206 = .ok (.aload_n 0, 1) := by decide +kernel
theorem dX12_reads_207 : decode cX12_reads 207 = .ok (.aload_n 0, 1) := by decide +kernel
theorem dX12_reads_208 : decode cX12_reads 208 = .ok (.bipush 43, 2) := by decide +kernel
theorem dX12_reads_210 : decode cX12_reads 210 = .ok (.invokevirtual 218, 3) := by decide +kernel
theorem dX12_reads_213 : decode cX12_reads 213 = .ok (.ifCond .eq 8, 3) := by decide +kernel
theorem dX12_reads_216 : decode cX12_reads 216 = .ok (.bipush 20, 2) := by decide +kernel
theorem dX12_reads_218 : decode cX12_reads 218 = .ok (.goto 19, 3) := by decide +kernel
theorem dX12_reads_221 : decode cX12_reads 221 = .ok (.aload_n 0, 1) := by decide +kernel
theorem dX12_reads_222 : decode cX12_reads 222 = .ok (.bipush 45, 2) := by decide +kernel
theorem dX12_reads_224 : decode cX12_reads 224 = .ok (.invokevirtual 218, 3) := by decide +kernel
theorem dX12_reads_227 : decode cX12_reads 227 = .ok (.ifCond .eq 8, 3) := by decide +kernel
theorem dX12_reads_230 : decode cX12_reads 230 = .ok (.bipush 21, 2) := by decide +kernel
theorem dX12_reads_232 : decode cX12_reads 232 = .ok (.goto 5, 3) := by decide +kernel
theorem dX12_reads_235 : decode cX12_reads 235 = .ok (.bipush 22, 2) := by decide +kernel
theorem dX12_reads_237 : decode cX12_reads 237 = .ok (.invokevirtual 225, 3) := by decide +kernel
theorem dX12_reads_240 : decode cX12_reads 240 = .ok (.iconst 1, 1) := by decide +kernel
theorem dX12_reads_241 : decode cX12_reads 241 = .ok (.istore_n 2, 1) := by decide +kernel
theorem dX12_reads_242 : decode cX12_reads 242 = .ok (.goto 182, 3) := by decide +kernel
theorem dX12_reads_245 : decode cX12_reads 245 = .ok (.aload_n 0, 1) := by decide +kernel
theorem dX12_reads_246 : decode cX12_reads 246 = .ok (.bipush 60, 2) := by decide +kernel
theorem dX12_reads_248 : decode cX12_reads 248 = .ok (.invokevirtual 218, 3) := by decide +kernel
theorem dX12_reads_251 : decode cX12_reads 251 = .ok (.ifCond .ne 12, 3) := by decide +kernel
theorem dX12_reads_254 : decode cX12_reads 254 = .ok (.aload_n 0, 1) := by decide +kernel
theorem dX12_reads_255 : decode cX12_reads 255 = .ok (.bipush 61, 2) := by decide +kernel
theorem dX12_reads_257 : decode cX12_reads 257 = .ok (.invokevirtual 218, 3) := by decide +kernel
theorem dX12_reads_260 : decode cX12_reads 260 = .ok (.ifCond .eq 44, 3) := by decide +kernel
theorem dX12_reads_263 : decode cX12_reads 263 = .ok (.aload_n 0, 1) := by decide +kernel
theorem dX12_reads_264 : decode cX12_reads 264 = .ok (.getfield 75, 3) := by decide +kernel
theorem dX12_reads_267 : decode cX12_reads 267 = .ok (.iload_n 1, 1) := by decide +kernel
theorem dX12_reads_268 : decode cX12_reads 268 = .ok (.baload, 1) := by decide +kernel
theorem dX12_reads_269 : decode cX12_reads 269 = .ok (.ifCond .ne 35, 3) := by decide +kernel
theorem dX12_reads_272 : decode cX12_reads 272 = .ok (.aload_n 0, 1) := by decide +kernel
theorem dX12_reads_273 : decode cX12_reads 273 = .ok (.aload_n 0, 1) := by decide +kernel
theorem dX12_reads_274 : decode cX12_reads 274 = .ok (.bipush 60, 2) := by decide +kernel
theorem dX12_reads_276 : decode cX12_reads 276 = .ok (.invokevirtual 218, 3) := by decide +kernel
theorem dX12_reads_279 : decode cX12_reads 279 = .ok (.ifCond .eq 8, 3) := by decide +kernel
theorem dX12_reads_282 : decode cX12_reads 282 = .ok (.bipush 24, 2) := by decide +kernel
theorem dX12_reads_284 : decode cX12_reads 284 = .ok (.goto 5, 3) := by decide +kernel
theorem dX12_reads_287 : decode cX12_reads 287 = .ok (.bipush 25, 2) := by decide +kernel
theorem dX12_reads_289 : decode cX12_reads 289 = .ok (.invokevirtual 225, 3) := by decide +kernel
theorem dX12_reads_292 : decode cX12_reads 292 = .ok (.aload_n 0, 1) := by decide +kernel
theorem dX12_reads_293 : decode cX12_reads 293 = .ok (.getfield 75, 3) := by decide +kernel
theorem dX12_reads_296 : decode cX12_reads 296 = .ok (.iload_n 1, 1) := by decide +kernel
theorem dX12_reads_297 : decode cX12_reads 297 = .ok (.iconst 1, 1) := by decide +kernel
theorem dX12_reads_298 : decode cX12_reads 298 = .ok (.bastore, 1) := by decide +kernel
theorem dX12_reads_299 : decode cX12_reads 299 = .ok (.iconst 1, 1) := by decide +kernel
theorem dX12_reads_300 : decode cX12_reads 300 = .ok (.istore_n 2, 1) := by decide +kernel
theorem dX12_reads_301 : decode cX12_reads 301 = .ok (.goto 123, 3) := by decide +kernel
theorem dX12_reads_304 : decode cX12_reads 304 = .ok (.aload_n 0, 1) := by decide +kernel
theorem dX12_reads_305 : decode cX12_reads 305 = .ok (.ldc2_w 232, 3) := by decide +kernel
theorem dX12_reads_308 : decode cX12_reads 308 = .ok (.invokevirtual 214, 3) := by decide +kernel
theorem dX12_reads_311 : decode cX12_reads 311 = .ok (.ifCond .ne 13, 3) := by decide +kernel
theorem dX12_reads_314 : decode cX12_reads 314 = .ok (.aload_n 0, 1) := by decide +kernel
theorem dX12_reads_315 : decode cX12_reads 315 = .ok (.ldc2_w 234, 3) := by decide +kernel
theorem dX12_reads_318 : decode cX12_reads 318 = .ok (.invokevirtual 214, 3) := by decide +kernel
theorem dX12_reads_321 : decode cX12_reads 321 = .ok (.ifCond .eq 36, 3) := by decide +kernel
theorem dX12_reads_324 : decode cX12_reads 324 = .ok (.aload_n 0, 1) := by decide +kernel
theorem dX12_reads_325 : decode cX12_reads 325 = .ok (.aload_n 0, 1) := by decide +kernel
theorem dX12_reads_326 : decode cX12_reads 326 = .ok (.ldc2_w 232, 3) := by decide +kernel
theorem dX12_reads_329 : decode cX12_reads 329 = .ok (.invokevirtual 214, 3) := by decide +kernel
theorem dX12_reads_332 : decode cX12_reads 332 = .ok (.ifCond .eq 8, 3) := by decide +kernel
theorem dX12_reads_335 : decode cX12_reads 335 = .ok (.bipush 26, 2) := by decide +kernel
theorem dX12_reads_337 : decode cX12_reads 337 = .ok (.goto 5, 3) := by decide +kernel
theorem dX12_reads_340 : decode cX12_reads 340 = .ok (.bipush 27, 2) := by decide +kernel
theorem dX12_reads_342 : decode cX12_reads 342 = .ok (.invokevirtual 225, 3) := by decide +kernel
theorem dX12_reads_345 : decode cX12_reads 345 = .ok (.aload_n 0, 1) := by decide +kernel
theorem dX12_reads_346 : decode cX12_reads 346 = .ok (.getfield 75, 3) := by decide +kernel
theorem dX12_reads_349 : decode cX12_reads 349 = .ok (.iload_n 1, 1) := by decide +kernel
theorem dX12_reads_350 : decode cX12_reads 350 = .ok (.iconst 0, 1) := by decide +kernel
theorem dX12_reads_351 : decode cX12_reads 351 = .ok (.bastore, 1) := by decide +kernel
theorem dX12_reads_352 : decode cX12_reads 352 = .ok (.iconst 1, 1) := by decide +kernel
theorem dX12_reads_353 : decode cX12_reads 353 = .ok (.istore_n 2, 1) := by decide +kernel
theorem dX12_reads_354 : decode cX12_reads 354 = .ok (.goto 70, 3) := by decide +kernel
theorem dX12_reads_357 : decode cX12_reads 357 = .ok (.aload_n 0, 1) := by decide +kernel
theorem dX12_reads_358 : decode cX12_reads 358 = .ok (.bipush 41, 2) := by decide +kernel
theorem dX12_reads_360 : decode cX12_reads 360 = .ok (.invokevirtual 218, 3) := by decide +kernel
theorem dX12_reads_363 : decode cX12_reads 363 = .ok (.ifCond .eq 36, 3) := by decide +kernel
theorem dX12_reads_366 : decode cX12_reads 366 = .ok (.iload_n 1, 1) := by decide +kernel
theorem dX12_reads_367 : decode cX12_reads 367 = .ok (.ifCond .le 32, 3) := by decide +kernel
theorem dX12_reads_370 : decode cX12_reads 370 = .ok (.aload_n 0, 1) := by decide +kernel
theorem dX12_reads_371 : decode cX12_reads 371 = .ok (.bipush 29, 2) := by decide +kernel
theorem dX12_reads_373 : decode cX12_reads 373 = .ok (.invokevirtual 225, 3) := by decide +kernel
theorem dX12_reads_376 : decode cX12_reads 376 = .ok (.iinc 1 (-1), 3) := by decide +kernel
theorem dX12_reads_379 : decode cX12_reads 379 = .ok (.iload_n 1, 1) := by decide +kernel
theorem dX12_reads_380 : decode cX12_reads 380 = .ok (.ifCond .le 44, 3) := by decide +kernel
theorem dX12_reads_383 : decode cX12_reads 383 = .ok (.aload_n 0, 1) := by decide +kernel
theorem dX12_reads_384 : decode cX12_reads 384 = .ok (.getfield 72, 3) := by decide +kernel
theorem dX12_reads_387 : decode cX12_reads 387 = .ok (.iload_n 1, 1) := by decide +kernel
theorem dX12_reads_388 : decode cX12_reads 388 = .ok (.iaload, 1) := by decide +kernel
theorem dX12_reads_389 : decode cX12_reads 389 = .ok (.iconst 1, 1) := by decide +kernel
theorem dX12_reads_390 : decode cX12_reads 390 = .ok (.if_icmp .ne 34, 3) := by decide +kernel
theorem dX12_reads_393 : decode cX12_reads 393 = .ok (.iinc 1 (-1), 3) := by decide +kernel
theorem dX12_reads_396 : decode cX12_reads 396 = .ok (.goto (-17), 3) := by decide +kernel
theorem dX12_reads_399 : decode cX12_reads 399 = .ok (.iload_n 1, 1) := by decide +kernel
theorem dX12_reads_400 : decode cX12_reads 400 = .ok (.ifCond .ne 18, 3) := by decide +kernel
theorem dX12_reads_403 : decode cX12_reads 403 = .ok (.aload_n 0, 1) := by decide +kernel
theorem dX12_reads_404 : decode cX12_reads 404 = .ok (.bipush 59, 2) := by decide +kernel
theorem dX12_reads_406 : decode cX12_reads 406 = .ok (.invokevirtual 218, 3) := by decide +kernel
theorem dX12_reads_409 : decode cX12_reads 409 = .ok (.ifCond .eq 9, 3) := by decide +kernel
theorem dX12_reads_412 : decode cX12_reads 412 = .ok (.aload_n 0, 1) := by decide +kernel
theorem dX12_reads_413 : decode cX12_reads 413 = .ok (.invokevirtual 229, 3) := by decide +kernel
theorem dX12_reads_416 : decode cX12_reads 416 = .ok (.iconst 1, 1) := by decide +kernel
theorem dX12_reads_417 : decode cX12_reads 417 = .ok (.ireturn, 1) := by decide +kernel
theorem dX12_reads_418 : decode cX12_reads 418 = .ok (.aload_n 0, 1) := by decide +kernel
theorem dX12_reads_419 : decode cX12_reads 419 = .ok (.iconst 1, 1) := by decide +kernel
theorem dX12_reads_420 : decode cX12_reads 420 = .ok (.invokevirtual 222, 3) := by decide +kernel
theorem dX12_reads_423 : decode cX12_reads 423 = .ok (.ireturn, 1) := by decide +kernel
theorem dX12_reads_424 : decode cX12_reads 424 = .ok (.aload_n 0, 1) := by decide +kernel
theorem dX12_reads_425 : decode cX12_reads 425 = .ok (.invokevirtual 229, 3) := by decide +kernel
theorem dX12_reads_428 : decode cX12_reads 428 = .ok (.goto (-417), 3) := by decide +kernel
theorem dX12_opens_0 : decode cX12_opens 0 = .ok (.aload_n 0, 1) := by decide +kernel
theorem dX12_opens_1 : decode cX12_opens 1 = .ok (.getfield 81, 3) := by decide +kernel
theorem dX12_opens_4 : decode cX12_opens 4 = .ok (.iload_n 1, 1) := by decide +kernel
theorem dX12_opens_5 : decode cX12_opens 5 = .ok (.iconst 0, 1) := by decide +kernel
theorem dX12_opens_6 : decode cX12_opens 6 = .ok (.iastore, 1) := by decide +kernel
theorem dX12_opens_7 : decode cX12_opens 7 = .ok (.aload_n 0, 1) := by decide +kernel
theorem dX12_opens_8 : decode cX12_opens 8 = .ok (.getfield 87, 3) := by decide +kernel
theorem dX12_opens_11 : decode cX12_opens 11 = .ok (.iload_n 1, 1) := by decide +kernel
theorem dX12_opens_12 : decode cX12_opens 12 = .ok (.iconst 0, 1) := by decide +kernel
theorem dX12_opens_13 : decode cX12_opens 13 = .ok (.iastore, 1) := by decide +kernel
theorem dX12_opens_14 : decode cX12_opens 14 = .ok (.aload_n 0, 1) := by decide +kernel
theorem dX12_opens_15 : decode cX12_opens 15 = .ok (.getfield 90, 3) := by decide +kernel
theorem dX12_opens_18 : decode cX12_opens 18 = .ok (.iload_n 1, 1) := by decide +kernel
theorem dX12_opens_19 : decode cX12_opens 19 = .ok (.iconst 0, 1) := by decide +kernel
theorem dX12_opens_20 : decode cX12_opens 20 = .ok (.iastore, 1) := by decide +kernel
theorem dX12_opens_21 : decode cX12_opens 21 = .ok (.aload_n 0, 1) := by decide +kernel
theorem dX12_opens_22 : decode cX12_opens 22 = .ok (.getfield 93, 3) := by decide +kernel
theorem dX12_opens_25 : decode cX12_opens 25 = .ok (.iload_n 1, 1) := by decide +kernel
theorem dX12_opens_26 : decode cX12_opens 26 = .ok (.bipush 20, 2) := by decide +kernel
theorem dX12_opens_28 : decode cX12_opens 28 = .ok (.iastore, 1) := by decide +kernel
theorem dX12_opens_29 : decode cX12_opens 29 = .ok (.aload_n 0, 1) := by decide +kernel
theorem dX12_opens_30 : decode cX12_opens 30 = .ok (.getfield 99, 3) := by decide +kernel
theorem dX12_opens_33 : decode cX12_opens 33 = .ok (.iload_n 1, 1) := by decide +kernel
theorem dX12_opens_34 : decode cX12_opens 34 = .ok (.iconst 0, 1) := by decide +kernel
theorem dX12_opens_35 : decode cX12_opens 35 = .ok (.iastore, 1) := by decide +kernel
theorem dX12_opens_36 : decode cX12_opens 36 = .ok (.return_, 1) := by decide +kernel
theorem dX12_sums_0 : decode cX12_sums 0 = .ok (.aload_n 0, 1) := by decide +kernel
theorem dX12_sums_1 : decode cX12_sums 1 = .ok (.getfield 90, 3) := by decide +kernel
theorem dX12_sums_4 : decode cX12_sums 4 = .ok (.iload_n 1, 1) := by decide +kernel
theorem dX12_sums_5 : decode cX12_sums 5 = .ok (.aload_n 0, 1) := by decide +kernel
theorem dX12_sums_6 : decode cX12_sums 6 = .ok (.getfield 93, 3) := by decide +kernel
theorem dX12_sums_9 : decode cX12_sums 9 = .ok (.iload_n 1, 1) := by decide +kernel
theorem dX12_sums_10 : decode cX12_sums 10 = .ok (.iaload, 1) := by decide +kernel
theorem dX12_sums_11 : decode cX12_sums 11 = .ok (.bipush 21, 2) := by decide +kernel
theorem dX12_sums_13 : decode cX12_sums 13 = .ok (.if_icmp .ne 19, 3) := by decide +kernel
theorem dX12_sums_16 : decode cX12_sums 16 = .ok (.aload_n 0, 1) := by decide +kernel
theorem dX12_sums_17 : decode cX12_sums 17 = .ok (.getfield 90, 3) := by decide +kernel
theorem dX12_sums_20 : decode cX12_sums 20 = .ok (.iload_n 1, 1) := by decide +kernel
theorem dX12_sums_21 : decode cX12_sums 21 = .ok (.iaload, 1) := by decide +kernel
theorem dX12_sums_22 : decode cX12_sums 22 = .ok (.aload_n 0, 1) := by decide +kernel
theorem dX12_sums_23 : decode cX12_sums 23 = .ok (.getfield 96, 3) := by decide +kernel
theorem dX12_sums_26 : decode cX12_sums 26 = .ok (.iload_n 1, 1) := by decide +kernel
theorem dX12_sums_27 : decode cX12_sums 27 = .ok (.iaload, 1) := by decide +kernel
theorem dX12_sums_28 : decode cX12_sums 28 = .ok (.isub, 1) := by decide +kernel
theorem dX12_sums_29 : decode cX12_sums 29 = .ok (.goto 16, 3) := by decide +kernel
theorem dX12_sums_32 : decode cX12_sums 32 = .ok (.aload_n 0, 1) := by decide +kernel
theorem dX12_sums_33 : decode cX12_sums 33 = .ok (.getfield 90, 3) := by decide +kernel
theorem dX12_sums_36 : decode cX12_sums 36 = .ok (.iload_n 1, 1) := by decide +kernel
theorem dX12_sums_37 : decode cX12_sums 37 = .ok (.iaload, 1) := by decide +kernel
theorem dX12_sums_38 : decode cX12_sums 38 = .ok (.aload_n 0, 1) := by decide +kernel
theorem dX12_sums_39 : decode cX12_sums 39 = .ok (.getfield 96, 3) := by decide +kernel
theorem dX12_sums_42 : decode cX12_sums 42 = .ok (.iload_n 1, 1) := by decide +kernel
theorem dX12_sums_43 : decode cX12_sums 43 = .ok (.iaload, 1) := by decide +kernel
theorem dX12_sums_44 : decode cX12_sums 44 = .ok (.iadd, 1) := by decide +kernel
theorem dX12_sums_45 : decode cX12_sums 45 = .ok (.iastore, 1) := by decide +kernel
theorem dX12_sums_46 : decode cX12_sums 46 = .ok (.aload_n 0, 1) := by decide +kernel
theorem dX12_sums_47 : decode cX12_sums 47 = .ok (.getfield 99, 3) := by decide +kernel
theorem dX12_sums_50 : decode cX12_sums 50 = .ok (.iload_n 1, 1) := by decide +kernel
theorem dX12_sums_51 : decode cX12_sums 51 = .ok (.iconst 0, 1) := by decide +kernel
theorem dX12_sums_52 : decode cX12_sums 52 = .ok (.iastore, 1) := by decide +kernel
theorem dX12_sums_53 : decode cX12_sums 53 = .ok (.return_, 1) := by decide +kernel
theorem dX12_tests_0 : decode cX12_tests 0 = .ok (.aload_n 0, 1) := by decide +kernel
theorem dX12_tests_1 : decode cX12_tests 1 = .ok (.iload_n 1, 1) := by decide +kernel
theorem dX12_tests_2 : decode cX12_tests 2 = .ok (.invokevirtual 236, 3) := by decide +kernel
theorem dX12_tests_5 : decode cX12_tests 5 = .ok (.aload_n 0, 1) := by decide +kernel
theorem dX12_tests_6 : decode cX12_tests 6 = .ok (.getfield 90, 3) := by decide +kernel
theorem dX12_tests_9 : decode cX12_tests 9 = .ok (.iload_n 1, 1) := by decide +kernel
theorem dX12_tests_10 : decode cX12_tests 10 = .ok (.iaload, 1) := by decide +kernel
theorem dX12_tests_11 : decode cX12_tests 11 = .ok (.istore_n 2, 1) := by decide +kernel
theorem dX12_tests_12 : decode cX12_tests 12 = .ok (.aload_n 0, 1) := by decide +kernel
theorem dX12_tests_13 : decode cX12_tests 13 = .ok (.getfield 87, 3) := by decide +kernel
theorem dX12_tests_16 : decode cX12_tests 16 = .ok (.iload_n 1, 1) := by decide +kernel
theorem dX12_tests_17 : decode cX12_tests 17 = .ok (.iaload, 1) := by decide +kernel
theorem dX12_tests_18 : decode cX12_tests 18 = .ok (.bipush 24, 2) := by decide +kernel
theorem dX12_tests_20 : decode cX12_tests 20 = .ok (.if_icmp .ne 24, 3) := by decide +kernel
theorem dX12_tests_23 : decode cX12_tests 23 = .ok (.aload_n 0, 1) := by decide +kernel
theorem dX12_tests_24 : decode cX12_tests 24 = .ok (.getfield 84, 3) := by decide +kernel
theorem dX12_tests_27 : decode cX12_tests 27 = .ok (.iload_n 1, 1) := by decide +kernel
theorem dX12_tests_28 : decode cX12_tests 28 = .ok (.iaload, 1) := by decide +kernel
theorem dX12_tests_29 : decode cX12_tests 29 = .ok (.aload_n 0, 1) := by decide +kernel
theorem dX12_tests_30 : decode cX12_tests 30 = .ok (.getfield 90, 3) := by decide +kernel
theorem dX12_tests_33 : decode cX12_tests 33 = .ok (.iload_n 1, 1) := by decide +kernel
theorem dX12_tests_34 : decode cX12_tests 34 = .ok (.iaload, 1) := by decide +kernel
theorem dX12_tests_35 : decode cX12_tests 35 = .ok (.if_icmp .ge 7, 3) := by decide +kernel
theorem dX12_tests_38 : decode cX12_tests 38 = .ok (.iconst 1, 1) := by decide +kernel
theorem dX12_tests_39 : decode cX12_tests 39 = .ok (.goto 4, 3) := by decide +kernel
theorem dX12_tests_42 : decode cX12_tests 42 = .ok (.iconst 0, 1) := by decide +kernel
theorem dX12_tests_43 : decode cX12_tests 43 = .ok (.istore_n 2, 1) := by decide +kernel
theorem dX12_tests_44 : decode cX12_tests 44 = .ok (.aload_n 0, 1) := by decide +kernel
theorem dX12_tests_45 : decode cX12_tests 45 = .ok (.getfield 87, 3) := by decide +kernel
theorem dX12_tests_48 : decode cX12_tests 48 = .ok (.iload_n 1, 1) := by decide +kernel
theorem dX12_tests_49 : decode cX12_tests 49 = .ok (.iaload, 1) := by decide +kernel
theorem dX12_tests_50 : decode cX12_tests 50 = .ok (.bipush 25, 2) := by decide +kernel
theorem dX12_tests_52 : decode cX12_tests 52 = .ok (.if_icmp .ne 24, 3) := by decide +kernel
theorem dX12_tests_55 : decode cX12_tests 55 = .ok (.aload_n 0, 1) := by decide +kernel
theorem dX12_tests_56 : decode cX12_tests 56 = .ok (.getfield 84, 3) := by decide +kernel
theorem dX12_tests_59 : decode cX12_tests 59 = .ok (.iload_n 1, 1) := by decide +kernel
theorem dX12_tests_60 : decode cX12_tests 60 = .ok (.iaload, 1) := by decide +kernel
theorem dX12_tests_61 : decode cX12_tests 61 = .ok (.aload_n 0, 1) := by decide +kernel
theorem dX12_tests_62 : decode cX12_tests 62 = .ok (.getfield 90, 3) := by decide +kernel
theorem dX12_tests_65 : decode cX12_tests 65 = .ok (.iload_n 1, 1) := by decide +kernel
theorem dX12_tests_66 : decode cX12_tests 66 = .ok (.iaload, 1) := by decide +kernel
theorem dX12_tests_67 : decode cX12_tests 67 = .ok (.if_icmp .ne 7, 3) := by decide +kernel
theorem dX12_tests_70 : decode cX12_tests 70 = .ok (.iconst 1, 1) := by decide +kernel
theorem dX12_tests_71 : decode cX12_tests 71 = .ok (.goto 4, 3) := by decide +kernel
theorem dX12_tests_74 : decode cX12_tests 74 = .ok (.iconst 0, 1) := by decide +kernel
theorem dX12_tests_75 : decode cX12_tests 75 = .ok (.istore_n 2, 1) := by decide +kernel
theorem dX12_tests_76 : decode cX12_tests 76 = .ok (.aload_n 0, 1) := by decide +kernel
theorem dX12_tests_77 : decode cX12_tests 77 = .ok (.getfield 81, 3) := by decide +kernel
theorem dX12_tests_80 : decode cX12_tests 80 = .ok (.iload_n 1, 1) := by decide +kernel
theorem dX12_tests_81 : decode cX12_tests 81 = .ok (.iaload, 1) := by decide +kernel
theorem dX12_tests_82 : decode cX12_tests 82 = .ok (.bipush 26, 2) := by decide +kernel
theorem dX12_tests_84 : decode cX12_tests 84 = .ok (.if_icmp .ne 22, 3) := by decide +kernel
theorem dX12_tests_87 : decode cX12_tests 87 = .ok (.aload_n 0, 1) := by decide +kernel
theorem dX12_tests_88 : decode cX12_tests 88 = .ok (.getfield 78, 3) := by decide +kernel
theorem dX12_tests_91 : decode cX12_tests 91 = .ok (.iload_n 1, 1) := by decide +kernel
theorem dX12_tests_92 : decode cX12_tests 92 = .ok (.iaload, 1) := by decide +kernel
theorem dX12_tests_93 : decode cX12_tests 93 = .ok (.ifCond .eq 11, 3) := by decide +kernel
theorem dX12_tests_96 : decode cX12_tests 96 = .ok (.iload_n 2, 1) := by decide +kernel
theorem dX12_tests_97 : decode cX12_tests 97 = .ok (.ifCond .eq 7, 3) := by decide +kernel
theorem dX12_tests_100 : decode cX12_tests 100 = .ok (.iconst 1, 1) := by decide +kernel
theorem dX12_tests_101 : decode cX12_tests 101 = .ok (.goto 4, 3) := by decide +kernel
theorem dX12_tests_104 : decode cX12_tests 104 = .ok (.iconst 0, 1) := by decide +kernel
theorem dX12_tests_105 : decode cX12_tests 105 = .ok (.istore_n 2, 1) := by decide +kernel
theorem dX12_tests_106 : decode cX12_tests 106 = .ok (.aload_n 0, 1) := by decide +kernel
theorem dX12_tests_107 : decode cX12_tests 107 = .ok (.getfield 81, 3) := by decide +kernel
theorem dX12_tests_110 : decode cX12_tests 110 = .ok (.iload_n 1, 1) := by decide +kernel
theorem dX12_tests_111 : decode cX12_tests 111 = .ok (.iaload, 1) := by decide +kernel
theorem dX12_tests_112 : decode cX12_tests 112 = .ok (.bipush 27, 2) := by decide +kernel
theorem dX12_tests_114 : decode cX12_tests 114 = .ok (.if_icmp .ne 22, 3) := by decide +kernel
theorem dX12_tests_117 : decode cX12_tests 117 = .ok (.aload_n 0, 1) := by decide +kernel
theorem dX12_tests_118 : decode cX12_tests 118 = .ok (.getfield 78, 3) := by decide +kernel
theorem dX12_tests_121 : decode cX12_tests 121 = .ok (.iload_n 1, 1) := by decide +kernel
theorem dX12_tests_122 : decode cX12_tests 122 = .ok (.iaload, 1) := by decide +kernel
theorem dX12_tests_123 : decode cX12_tests 123 = .ok (.ifCond .ne 7, 3) := by decide +kernel
theorem dX12_tests_126 : decode cX12_tests 126 = .ok (.iload_n 2, 1) := by decide +kernel
theorem dX12_tests_127 : decode cX12_tests 127 = .ok (.ifCond .eq 7, 3) := by decide +kernel
theorem dX12_tests_130 : decode cX12_tests 130 = .ok (.iconst 1, 1) := by decide +kernel
theorem dX12_tests_131 : decode cX12_tests 131 = .ok (.goto 4, 3) := by decide +kernel
theorem dX12_tests_134 : decode cX12_tests 134 = .ok (.iconst 0, 1) := by decide +kernel
theorem dX12_tests_135 : decode cX12_tests 135 = .ok (.istore_n 2, 1) := by decide +kernel
theorem dX12_tests_136 : decode cX12_tests 136 = .ok (.aload_n 0, 1) := by decide +kernel
theorem dX12_tests_137 : decode cX12_tests 137 = .ok (.getfield 78, 3) := by decide +kernel
theorem dX12_tests_140 : decode cX12_tests 140 = .ok (.iload_n 1, 1) := by decide +kernel
theorem dX12_tests_141 : decode cX12_tests 141 = .ok (.iload_n 2, 1) := by decide +kernel
theorem dX12_tests_142 : decode cX12_tests 142 = .ok (.iastore, 1) := by decide +kernel
theorem dX12_tests_143 : decode cX12_tests 143 = .ok (.aload_n 0, 1) := by decide +kernel
theorem dX12_tests_144 : decode cX12_tests 144 = .ok (.getfield 87, 3) := by decide +kernel
theorem dX12_tests_147 : decode cX12_tests 147 = .ok (.iload_n 1, 1) := by decide +kernel
theorem dX12_tests_148 : decode cX12_tests 148 = .ok (.iconst 0, 1) := by decide +kernel
theorem dX12_tests_149 : decode cX12_tests 149 = .ok (.iastore, 1) := by decide +kernel
theorem dX12_tests_150 : decode cX12_tests 150 = .ok (.aload_n 0, 1) := by decide +kernel
theorem dX12_tests_151 : decode cX12_tests 151 = .ok (.getfield 90, 3) := by decide +kernel
theorem dX12_tests_154 : decode cX12_tests 154 = .ok (.iload_n 1, 1) := by decide +kernel
theorem dX12_tests_155 : decode cX12_tests 155 = .ok (.iconst 0, 1) := by decide +kernel
theorem dX12_tests_156 : decode cX12_tests 156 = .ok (.iastore, 1) := by decide +kernel
theorem dX12_tests_157 : decode cX12_tests 157 = .ok (.aload_n 0, 1) := by decide +kernel
theorem dX12_tests_158 : decode cX12_tests 158 = .ok (.getfield 93, 3) := by decide +kernel
theorem dX12_tests_161 : decode cX12_tests 161 = .ok (.iload_n 1, 1) := by decide +kernel
theorem dX12_tests_162 : decode cX12_tests 162 = .ok (.bipush 20, 2) := by decide +kernel
theorem dX12_tests_164 : decode cX12_tests 164 = .ok (.iastore, 1) := by decide +kernel
theorem dX12_tests_165 : decode cX12_tests 165 = .ok (.return_, 1) := by decide +kernel
theorem dX12_worked_0 : decode cX12_worked 0 = .ok (.iconst 0, 1) := by decide +kernel
theorem dX12_worked_1 : decode cX12_worked 1 = .ok (.istore_n 2, 1) := by decide +kernel
theorem dX12_worked_2 : decode cX12_worked 2 = .ok (.aload_n 0, 1) := by decide +kernel
theorem dX12_worked_3 : decode cX12_worked 3 = .ok (.iconst 0, 1) := by decide +kernel
theorem dX12_worked_4 : decode cX12_worked 4 = .ok (.invokevirtual 239, 3) := by decide +kernel
theorem dX12_worked_7 : decode cX12_worked 7 = .ok (.aload_n 0, 1) := by decide +kernel
theorem dX12_worked_8 : decode cX12_worked 8 = .ok (.getfield 63, 3) := by decide +kernel
theorem dX12_worked_11 : decode cX12_worked 11 = .ok (.iload_n 1, 1) := by decide +kernel
theorem dX12_worked_12 : decode cX12_worked 12 = .ok (.iaload, 1) := by decide +kernel
theorem dX12_worked_13 : decode cX12_worked 13 = .ok (.istore_n 3, 1) := by decide +kernel
theorem dX12_worked_14 : decode cX12_worked 14 = .ok (.iload_n 3, 1) := by decide +kernel
theorem dX12_worked_15 : decode cX12_worked 15 = .ok (.aload_n 0, 1) := by decide +kernel
theorem dX12_worked_16 : decode cX12_worked 16 = .ok (.getfield 66, 3) := by decide +kernel
theorem dX12_worked_19 : decode cX12_worked 19 = .ok (.iload_n 1, 1) := by decide +kernel
theorem dX12_worked_20 : decode cX12_worked 20 = .ok (.iaload, 1) := by decide +kernel
theorem dX12_worked_21 : decode cX12_worked 21 = .ok (.if_icmp .ge 314, 3) := by decide +kernel
theorem dX12_worked_24 : decode cX12_worked 24 = .ok (.aload_n 0, 1) := by decide +kernel
theorem dX12_worked_25 : decode cX12_worked 25 = .ok (.getfield 69, 3) := by decide +kernel
theorem dX12_worked_28 : decode cX12_worked 28 = .ok (.iload_n 3, 1) := by decide +kernel
theorem dX12_worked_29 : decode cX12_worked 29 = .ok (.iaload, 1) := by decide +kernel
theorem dX12_worked_30 : decode cX12_worked 30 = .ok (.istore 4, 2) := by decide +kernel
theorem dX12_worked_32 : decode cX12_worked 32 = .ok (.iload 4, 2) := by decide +kernel
theorem dX12_worked_34 : decode cX12_worked 34 = .ok (.bipush 28, 2) := by decide +kernel
theorem dX12_worked_36 : decode cX12_worked 36 = .ok (.if_icmp .eq 10, 3) := by decide +kernel
theorem dX12_worked_39 : decode cX12_worked 39 = .ok (.iload 4, 2) := by decide +kernel
theorem dX12_worked_41 : decode cX12_worked 41 = .ok (.bipush 30, 2) := by decide +kernel
theorem dX12_worked_43 : decode cX12_worked 43 = .ok (.if_icmp .ne 32, 3) := by decide +kernel
theorem dX12_worked_46 : decode cX12_worked 46 = .ok (.iinc 2 1, 3) := by decide +kernel
theorem dX12_worked_49 : decode cX12_worked 49 = .ok (.aload_n 0, 1) := by decide +kernel
theorem dX12_worked_50 : decode cX12_worked 50 = .ok (.getfield 102, 3) := by decide +kernel
theorem dX12_worked_53 : decode cX12_worked 53 = .ok (.iload_n 2, 1) := by decide +kernel
theorem dX12_worked_54 : decode cX12_worked 54 = .ok (.iload 4, 2) := by decide +kernel
theorem dX12_worked_56 : decode cX12_worked 56 = .ok (.bipush 30, 2) := by decide +kernel
theorem dX12_worked_58 : decode cX12_worked 58 = .ok (.if_icmp .ne 7, 3) := by decide +kernel
theorem dX12_worked_61 : decode cX12_worked 61 = .ok (.iconst 1, 1) := by decide +kernel
theorem dX12_worked_62 : decode cX12_worked 62 = .ok (.goto 4, 3) := by decide +kernel
theorem dX12_worked_65 : decode cX12_worked 65 = .ok (.iconst 0, 1) := by decide +kernel
theorem dX12_worked_66 : decode cX12_worked 66 = .ok (.iastore, 1) := by decide +kernel
theorem dX12_worked_67 : decode cX12_worked 67 = .ok (.aload_n 0, 1) := by decide +kernel
theorem dX12_worked_68 : decode cX12_worked 68 = .ok (.iload_n 2, 1) := by decide +kernel
theorem dX12_worked_69 : decode cX12_worked 69 = .ok (.invokevirtual 239, 3) := by decide +kernel
theorem dX12_worked_72 : decode cX12_worked 72 = .ok (.goto 257, 3) := by decide +kernel
theorem dX12_worked_75 : decode cX12_worked 75 = .ok (.iload 4, 2) := by decide +kernel
theorem dX12_worked_77 : decode cX12_worked 77 = .ok (.bipush 20, 2) := by decide +kernel
theorem dX12_worked_79 : decode cX12_worked 79 = .ok (.if_icmp .eq 10, 3) := by decide +kernel
theorem dX12_worked_82 : decode cX12_worked 82 = .ok (.iload 4, 2) := by decide +kernel
theorem dX12_worked_84 : decode cX12_worked 84 = .ok (.bipush 21, 2) := by decide +kernel
theorem dX12_worked_86 : decode cX12_worked 86 = .ok (.if_icmp .ne 19, 3) := by decide +kernel
theorem dX12_worked_89 : decode cX12_worked 89 = .ok (.aload_n 0, 1) := by decide +kernel
theorem dX12_worked_90 : decode cX12_worked 90 = .ok (.iload_n 2, 1) := by decide +kernel
theorem dX12_worked_91 : decode cX12_worked 91 = .ok (.invokevirtual 236, 3) := by decide +kernel
theorem dX12_worked_94 : decode cX12_worked 94 = .ok (.aload_n 0, 1) := by decide +kernel
theorem dX12_worked_95 : decode cX12_worked 95 = .ok (.getfield 93, 3) := by decide +kernel
theorem dX12_worked_98 : decode cX12_worked 98 = .ok (.iload_n 2, 1) := by decide +kernel
theorem dX12_worked_99 : decode cX12_worked 99 = .ok (.iload 4, 2) := by decide +kernel
theorem dX12_worked_101 : decode cX12_worked 101 = .ok (.iastore, 1) := by decide +kernel
theorem dX12_worked_102 : decode cX12_worked 102 = .ok (.goto 227, 3) := by decide +kernel
theorem dX12_worked_105 : decode cX12_worked 105 = .ok (.iload 4, 2) := by decide +kernel
theorem dX12_worked_107 : decode cX12_worked 107 = .ok (.bipush 22, 2) := by decide +kernel
theorem dX12_worked_109 : decode cX12_worked 109 = .ok (.if_icmp .ne 14, 3) := by decide +kernel
theorem dX12_worked_112 : decode cX12_worked 112 = .ok (.aload_n 0, 1) := by decide +kernel
theorem dX12_worked_113 : decode cX12_worked 113 = .ok (.getfield 99, 3) := by decide +kernel
theorem dX12_worked_116 : decode cX12_worked 116 = .ok (.iload_n 2, 1) := by decide +kernel
theorem dX12_worked_117 : decode cX12_worked 117 = .ok (.iload 4, 2) := by decide +kernel
theorem dX12_worked_119 : decode cX12_worked 119 = .ok (.iastore, 1) := by decide +kernel
theorem dX12_worked_120 : decode cX12_worked 120 = .ok (.goto 209, 3) := by decide +kernel
theorem dX12_worked_123 : decode cX12_worked 123 = .ok (.iload 4, 2) := by decide +kernel
theorem dX12_worked_125 : decode cX12_worked 125 = .ok (.bipush 24, 2) := by decide +kernel
theorem dX12_worked_127 : decode cX12_worked 127 = .ok (.if_icmp .eq 10, 3) := by decide +kernel
theorem dX12_worked_130 : decode cX12_worked 130 = .ok (.iload 4, 2) := by decide +kernel
theorem dX12_worked_132 : decode cX12_worked 132 = .ok (.bipush 25, 2) := by decide +kernel
theorem dX12_worked_134 : decode cX12_worked 134 = .ok (.if_icmp .ne 46, 3) := by decide +kernel
theorem dX12_worked_137 : decode cX12_worked 137 = .ok (.aload_n 0, 1) := by decide +kernel
theorem dX12_worked_138 : decode cX12_worked 138 = .ok (.iload_n 2, 1) := by decide +kernel
theorem dX12_worked_139 : decode cX12_worked 139 = .ok (.invokevirtual 236, 3) := by decide +kernel
theorem dX12_worked_142 : decode cX12_worked 142 = .ok (.aload_n 0, 1) := by decide +kernel
theorem dX12_worked_143 : decode cX12_worked 143 = .ok (.getfield 84, 3) := by decide +kernel
theorem dX12_worked_146 : decode cX12_worked 146 = .ok (.iload_n 2, 1) := by decide +kernel
theorem dX12_worked_147 : decode cX12_worked 147 = .ok (.aload_n 0, 1) := by decide +kernel
theorem dX12_worked_148 : decode cX12_worked 148 = .ok (.getfield 90, 3) := by decide +kernel
theorem dX12_worked_151 : decode cX12_worked 151 = .ok (.iload_n 2, 1) := by decide +kernel
theorem dX12_worked_152 : decode cX12_worked 152 = .ok (.iaload, 1) := by decide +kernel
theorem dX12_worked_153 : decode cX12_worked 153 = .ok (.iastore, 1) := by decide +kernel
theorem dX12_worked_154 : decode cX12_worked 154 = .ok (.aload_n 0, 1) := by decide +kernel
theorem dX12_worked_155 : decode cX12_worked 155 = .ok (.getfield 87, 3) := by decide +kernel
theorem dX12_worked_158 : decode cX12_worked 158 = .ok (.iload_n 2, 1) := by decide +kernel
theorem dX12_worked_159 : decode cX12_worked 159 = .ok (.iload 4, 2) := by decide +kernel
theorem dX12_worked_161 : decode cX12_worked 161 = .ok (.iastore, 1) := by decide +kernel
theorem dX12_worked_162 : decode cX12_worked 162 = .ok (.aload_n 0, 1) := by decide +kernel
theorem dX12_worked_163 : decode cX12_worked 163 = .ok (.getfield 90, 3) := by decide +kernel
theorem dX12_worked_166 : decode cX12_worked 166 = .ok (.iload_n 2, 1) := by decide +kernel
theorem dX12_worked_167 : decode cX12_worked 167 = .ok (.iconst 0, 1) := by decide +kernel
theorem dX12_worked_168 : decode cX12_worked 168 = .ok (.iastore, 1) := by decide +kernel
theorem dX12_worked_169 : decode cX12_worked 169 = .ok (.aload_n 0, 1) := by decide +kernel
theorem dX12_worked_170 : decode cX12_worked 170 = .ok (.getfield 93, 3) := by decide +kernel
theorem dX12_worked_173 : decode cX12_worked 173 = .ok (.iload_n 2, 1) := by decide +kernel
theorem dX12_worked_174 : decode cX12_worked 174 = .ok (.bipush 20, 2) := by decide +kernel
theorem dX12_worked_176 : decode cX12_worked 176 = .ok (.iastore, 1) := by decide +kernel
theorem dX12_worked_177 : decode cX12_worked 177 = .ok (.goto 152, 3) := by decide +kernel
theorem dX12_worked_180 : decode cX12_worked 180 = .ok (.iload 4, 2) := by decide +kernel
theorem dX12_worked_182 : decode cX12_worked 182 = .ok (.bipush 26, 2) := by decide +kernel
theorem dX12_worked_184 : decode cX12_worked 184 = .ok (.if_icmp .eq 10, 3) := by decide +kernel
theorem dX12_worked_187 : decode cX12_worked 187 = .ok (.iload 4, 2) := by decide +kernel
theorem dX12_worked_189 : decode cX12_worked 189 = .ok (.bipush 27, 2) := by decide +kernel
theorem dX12_worked_191 : decode cX12_worked 191 = .ok (.if_icmp .ne 19, 3) := by decide +kernel
theorem dX12_worked_194 : decode cX12_worked 194 = .ok (.aload_n 0, 1) := by decide +kernel
theorem dX12_worked_195 : decode cX12_worked 195 = .ok (.iload_n 2, 1) := by decide +kernel
theorem dX12_worked_196 : decode cX12_worked 196 = .ok (.invokevirtual 242, 3) := by decide +kernel
theorem dX12_worked_199 : decode cX12_worked 199 = .ok (.aload_n 0, 1) := by decide +kernel
theorem dX12_worked_200 : decode cX12_worked 200 = .ok (.getfield 81, 3) := by decide +kernel
theorem dX12_worked_203 : decode cX12_worked 203 = .ok (.iload_n 2, 1) := by decide +kernel
theorem dX12_worked_204 : decode cX12_worked 204 = .ok (.iload 4, 2) := by decide +kernel
theorem dX12_worked_206 : decode cX12_worked 206 = .ok (.iastore, 1) := by decide +kernel
theorem dX12_worked_207 : decode cX12_worked 207 = .ok (.goto 122, 3) := by decide +kernel
theorem dX12_worked_210 : decode cX12_worked 210 = .ok (.iload 4, 2) := by decide +kernel
theorem dX12_worked_212 : decode cX12_worked 212 = .ok (.bipush 100, 2) := by decide +kernel
theorem dX12_worked_214 : decode cX12_worked 214 = .ok (.if_icmp .lt 11, 3) := by decide +kernel
theorem dX12_worked_217 : decode cX12_worked 217 = .ok (.iload 4, 2) := by decide +kernel
theorem dX12_worked_219 : decode cX12_worked 219 = .ok (.bipush 100, 2) := by decide +kernel
theorem dX12_worked_221 : decode cX12_worked 221 = .ok (.isub, 1) := by decide +kernel
theorem dX12_worked_222 : decode cX12_worked 222 = .ok (.goto 21, 3) := by decide +kernel
theorem dX12_worked_225 : decode cX12_worked 225 = .ok (.iload 4, 2) := by decide +kernel
theorem dX12_worked_227 : decode cX12_worked 227 = .ok (.bipush 20, 2) := by decide +kernel
theorem dX12_worked_229 : decode cX12_worked 229 = .ok (.if_icmp .ge 13, 3) := by decide +kernel
theorem dX12_worked_232 : decode cX12_worked 232 = .ok (.aload_n 0, 1) := by decide +kernel
theorem dX12_worked_233 : decode cX12_worked 233 = .ok (.getfield 105, 3) := by decide +kernel
theorem dX12_worked_236 : decode cX12_worked 236 = .ok (.iload 4, 2) := by decide +kernel
theorem dX12_worked_238 : decode cX12_worked 238 = .ok (.iaload, 1) := by decide +kernel
theorem dX12_worked_239 : decode cX12_worked 239 = .ok (.goto 4, 3) := by decide +kernel
theorem dX12_worked_242 : decode cX12_worked 242 = .ok (.iconst 0, 1) := by decide +kernel
theorem dX12_worked_243 : decode cX12_worked 243 = .ok (.istore 5, 2) := by decide +kernel
theorem dX12_worked_245 : decode cX12_worked 245 = .ok (.iload 4, 2) := by decide +kernel
theorem dX12_worked_247 : decode cX12_worked 247 = .ok (.bipush 29, 2) := by decide +kernel
theorem dX12_worked_249 : decode cX12_worked 249 = .ok (.if_icmp .ne 19, 3) := by decide +kernel
theorem dX12_worked_252 : decode cX12_worked 252 = .ok (.aload_n 0, 1) := by decide +kernel
theorem dX12_worked_253 : decode cX12_worked 253 = .ok (.iload_n 2, 1) := by decide +kernel
theorem dX12_worked_254 : decode cX12_worked 254 = .ok (.invokevirtual 242, 3) := by decide +kernel
theorem dX12_worked_257 : decode cX12_worked 257 = .ok (.aload_n 0, 1) := by decide +kernel
theorem dX12_worked_258 : decode cX12_worked 258 = .ok (.getfield 78, 3) := by decide +kernel
theorem dX12_worked_261 : decode cX12_worked 261 = .ok (.iload_n 2, 1) := by decide +kernel
theorem dX12_worked_262 : decode cX12_worked 262 = .ok (.iaload, 1) := by decide +kernel
theorem dX12_worked_263 : decode cX12_worked 263 = .ok (.istore 5, 2) := by decide +kernel
theorem dX12_worked_265 : decode cX12_worked 265 = .ok (.iinc 2 (-1), 3) := by decide +kernel
theorem dX12_worked_268 : decode cX12_worked 268 = .ok (.iload_n 2, 1) := by decide +kernel
theorem dX12_worked_269 : decode cX12_worked 269 = .ok (.ifCond .le 31, 3) := by decide +kernel
theorem dX12_worked_272 : decode cX12_worked 272 = .ok (.aload_n 0, 1) := by decide +kernel
theorem dX12_worked_273 : decode cX12_worked 273 = .ok (.getfield 102, 3) := by decide +kernel
theorem dX12_worked_276 : decode cX12_worked 276 = .ok (.iload_n 2, 1) := by decide +kernel
theorem dX12_worked_277 : decode cX12_worked 277 = .ok (.iaload, 1) := by decide +kernel
theorem dX12_worked_278 : decode cX12_worked 278 = .ok (.iconst 1, 1) := by decide +kernel
theorem dX12_worked_279 : decode cX12_worked 279 = .ok (.if_icmp .ne 21, 3) := by decide +kernel
theorem dX12_worked_282 : decode cX12_worked 282 = .ok (.iload 5, 2) := by decide +kernel
theorem dX12_worked_284 : decode cX12_worked 284 = .ok (.ifCond .ne 7, 3) := by decide +kernel
theorem dX12_worked_287 : decode cX12_worked 287 = .ok (.iconst 1, 1) := by decide +kernel
theorem dX12_worked_288 : decode cX12_worked 288 = .ok (.goto 4, 3) := by decide +kernel
theorem dX12_worked_291 : decode cX12_worked 291 = .ok (.iconst 0, 1) := by decide +kernel
theorem dX12_worked_292 : decode cX12_worked 292 = .ok (.istore 5, 2) := by decide +kernel
theorem dX12_worked_294 : decode cX12_worked 294 = .ok (.iinc 2 (-1), 3) := by decide +kernel
theorem dX12_worked_297 : decode cX12_worked 297 = .ok (.goto (-29), 3) := by decide +kernel
theorem dX12_worked_300 : decode cX12_worked 300 = .ok (.aload_n 0, 1) := by decide +kernel
theorem dX12_worked_301 : decode cX12_worked 301 = .ok (.getfield 96, 3) := by decide +kernel
theorem dX12_worked_304 : decode cX12_worked 304 = .ok (.iload_n 2, 1) := by decide +kernel
theorem dX12_worked_305 : decode cX12_worked 305 = .ok (.aload_n 0, 1) := by decide +kernel
theorem dX12_worked_306 : decode cX12_worked 306 = .ok (.getfield 99, 3) := by decide +kernel
theorem dX12_worked_309 : decode cX12_worked 309 = .ok (.iload_n 2, 1) := by decide +kernel
theorem dX12_worked_310 : decode cX12_worked 310 = .ok (.iaload, 1) := by decide +kernel
theorem dX12_worked_311 : decode cX12_worked 311 = .ok (.ifCond .ne 8, 3) := by decide +kernel
theorem dX12_worked_314 : decode cX12_worked 314 = .ok (.iload 5, 2) := by decide +kernel
theorem dX12_worked_316 : decode cX12_worked 316 = .ok (.goto 12, 3) := by decide +kernel
theorem dX12_worked_319 : decode cX12_worked 319 = .ok (.aload_n 0, 1) := by decide +kernel
theorem dX12_worked_320 : decode cX12_worked 320 = .ok (.getfield 96, 3) := by decide +kernel
theorem dX12_worked_323 : decode cX12_worked 323 = .ok (.iload_n 2, 1) := by decide +kernel
theorem dX12_worked_324 : decode cX12_worked 324 = .ok (.iaload, 1) := by decide +kernel
theorem dX12_worked_325 : decode cX12_worked 325 = .ok (.iload 5, 2) := by decide +kernel
theorem dX12_worked_327 : decode cX12_worked 327 = .ok (.imul, 1) := by decide +kernel
theorem dX12_worked_328 : decode cX12_worked 328 = .ok (.iastore, 1) := by decide +kernel
theorem dX12_worked_329 : decode cX12_worked 329 = .ok (.iinc 3 1, 3) := by decide +kernel
theorem dX12_worked_332 : decode cX12_worked 332 = .ok (.goto (-318), 3) := by decide +kernel
theorem dX12_worked_335 : decode cX12_worked 335 = .ok (.aload_n 0, 1) := by decide +kernel
theorem dX12_worked_336 : decode cX12_worked 336 = .ok (.iconst 0, 1) := by decide +kernel
theorem dX12_worked_337 : decode cX12_worked 337 = .ok (.invokevirtual 242, 3) := by decide +kernel
theorem dX12_worked_340 : decode cX12_worked 340 = .ok (.aload_n 0, 1) := by decide +kernel
theorem dX12_worked_341 : decode cX12_worked 341 = .ok (.getfield 78, 3) := by decide +kernel
theorem dX12_worked_344 : decode cX12_worked 344 = .ok (.iconst 0, 1) := by decide +kernel
theorem dX12_worked_345 : decode cX12_worked 345 = .ok (.iaload, 1) := by decide +kernel
theorem dX12_worked_346 : decode cX12_worked 346 = .ok (.ireturn, 1) := by decide +kernel
theorem dX12_isKept_0 : decode cX12_isKept 0 = .ok (.aload_n 0, 1) := by decide +kernel
theorem dX12_isKept_1 : decode cX12_isKept 1 = .ok (.getfield 181, 3) := by decide +kernel
theorem dX12_isKept_4 : decode cX12_isKept 4 = .ok (.iconst 1, 1) := by decide +kernel
theorem dX12_isKept_5 : decode cX12_isKept 5 = .ok (.if_icmp .eq 5, 3) := by decide +kernel
theorem dX12_isKept_8 : decode cX12_isKept 8 = .ok (.iconst 1, 1) := by decide +kernel
theorem dX12_isKept_9 : decode cX12_isKept 9 = .ok (.ireturn, 1) := by decide +kernel
theorem dX12_isKept_10 : decode cX12_isKept 10 = .ok (.aload_n 0, 1) := by decide +kernel
theorem dX12_isKept_11 : decode cX12_isKept 11 = .ok (.getfield 174, 3) := by decide +kernel
theorem dX12_isKept_14 : decode cX12_isKept 14 = .ok (.ldc2_w 245, 3) := by decide +kernel
theorem dX12_isKept_17 : decode cX12_isKept 17 = .ok (.lcmp, 1) := by decide +kernel
theorem dX12_isKept_18 : decode cX12_isKept 18 = .ok (.ifCond .eq 201, 3) := by decide +kernel
theorem dX12_isKept_21 : decode cX12_isKept 21 = .ok (.aload_n 0, 1) := by decide +kernel
theorem dX12_isKept_22 : decode cX12_isKept 22 = .ok (.getfield 174, 3) := by decide +kernel
theorem dX12_isKept_25 : decode cX12_isKept 25 = .ok (.ldc2_w 247, 3) := by decide +kernel
theorem dX12_isKept_28 : decode cX12_isKept 28 = .ok (.lcmp, 1) := by decide +kernel
theorem dX12_isKept_29 : decode cX12_isKept 29 = .ok (.ifCond .eq 190, 3) := by decide +kernel
theorem dX12_isKept_32 : decode cX12_isKept 32 = .ok (.aload_n 0, 1) := by decide +kernel
theorem dX12_isKept_33 : decode cX12_isKept 33 = .ok (.getfield 174, 3) := by decide +kernel
theorem dX12_isKept_36 : decode cX12_isKept 36 = .ok (.ldc2_w 249, 3) := by decide +kernel
theorem dX12_isKept_39 : decode cX12_isKept 39 = .ok (.lcmp, 1) := by decide +kernel
theorem dX12_isKept_40 : decode cX12_isKept 40 = .ok (.ifCond .eq 179, 3) := by decide +kernel
theorem dX12_isKept_43 : decode cX12_isKept 43 = .ok (.aload_n 0, 1) := by decide +kernel
theorem dX12_isKept_44 : decode cX12_isKept 44 = .ok (.getfield 174, 3) := by decide +kernel
theorem dX12_isKept_47 : decode cX12_isKept 47 = .ok (.ldc2_w 251, 3) := by decide +kernel
theorem dX12_isKept_50 : decode cX12_isKept 50 = .ok (.lcmp, 1) := by decide +kernel
theorem dX12_isKept_51 : decode cX12_isKept 51 = .ok (.ifCond .eq 168, 3) := by decide +kernel
theorem dX12_isKept_54 : decode cX12_isKept 54 = .ok (.aload_n 0, 1) := by decide +kernel
theorem dX12_isKept_55 : decode cX12_isKept 55 = .ok (.getfield 174, 3) := by decide +kernel
theorem dX12_isKept_58 : decode cX12_isKept 58 = .ok (.ldc2_w 253, 3) := by decide +kernel
theorem dX12_isKept_61 : decode cX12_isKept 61 = .ok (.lcmp, 1) := by decide +kernel
theorem dX12_isKept_62 : decode cX12_isKept 62 = .ok (.ifCond .eq 157, 3) := by decide +kernel
theorem dX12_isKept_65 : decode cX12_isKept 65 = .ok (.aload_n 0, 1) := by decide +kernel
theorem dX12_isKept_66 : decode cX12_isKept 66 = .ok (.getfield 174, 3) := by decide +kernel
theorem dX12_isKept_69 : decode cX12_isKept 69 = .ok (.ldc2_w 255, 3) := by decide +kernel
theorem dX12_isKept_72 : decode cX12_isKept 72 = .ok (.lcmp, 1) := by decide +kernel
theorem dX12_isKept_73 : decode cX12_isKept 73 = .ok (.ifCond .eq 146, 3) := by decide +kernel
theorem dX12_isKept_76 : decode cX12_isKept 76 = .ok (.aload_n 0, 1) := by decide +kernel
theorem dX12_isKept_77 : decode cX12_isKept 77 = .ok (.getfield 174, 3) := by decide +kernel
theorem dX12_isKept_80 : decode cX12_isKept 80 = .ok (.ldc2_w 257, 3) := by decide +kernel
theorem dX12_isKept_83 : decode cX12_isKept 83 = .ok (.lcmp, 1) := by decide +kernel
theorem dX12_isKept_84 : decode cX12_isKept 84 = .ok (.ifCond .eq 135, 3) := by decide +kernel
theorem dX12_isKept_87 : decode cX12_isKept 87 = .ok (.aload_n 0, 1) := by decide +kernel
theorem dX12_isKept_88 : decode cX12_isKept 88 = .ok (.getfield 174, 3) := by decide +kernel
theorem dX12_isKept_91 : decode cX12_isKept 91 = .ok (.ldc2_w 259, 3) := by decide +kernel
theorem dX12_isKept_94 : decode cX12_isKept 94 = .ok (.lcmp, 1) := by decide +kernel
theorem dX12_isKept_95 : decode cX12_isKept 95 = .ok (.ifCond .eq 124, 3) := by decide +kernel
theorem dX12_isKept_98 : decode cX12_isKept 98 = .ok (.aload_n 0, 1) := by decide +kernel
theorem dX12_isKept_99 : decode cX12_isKept 99 = .ok (.getfield 174, 3) := by decide +kernel
theorem dX12_isKept_102 : decode cX12_isKept 102 = .ok (.ldc2_w 261, 3) := by decide +kernel
theorem dX12_isKept_105 : decode cX12_isKept 105 = .ok (.lcmp, 1) := by decide +kernel
theorem dX12_isKept_106 : decode cX12_isKept 106 = .ok (.ifCond .eq 113, 3) := by decide +kernel
theorem dX12_isKept_109 : decode cX12_isKept 109 = .ok (.aload_n 0, 1) := by decide +kernel
theorem dX12_isKept_110 : decode cX12_isKept 110 = .ok (.getfield 174, 3) := by decide +kernel
theorem dX12_isKept_113 : decode cX12_isKept 113 = .ok (.ldc2_w 263, 3) := by decide +kernel
theorem dX12_isKept_116 : decode cX12_isKept 116 = .ok (.lcmp, 1) := by decide +kernel
theorem dX12_isKept_117 : decode cX12_isKept 117 = .ok (.ifCond .eq 102, 3) := by decide +kernel
theorem dX12_isKept_120 : decode cX12_isKept 120 = .ok (.aload_n 0, 1) := by decide +kernel
theorem dX12_isKept_121 : decode cX12_isKept 121 = .ok (.getfield 174, 3) := by decide +kernel
theorem dX12_isKept_124 : decode cX12_isKept 124 = .ok (.ldc2_w 265, 3) := by decide +kernel
theorem dX12_isKept_127 : decode cX12_isKept 127 = .ok (.lcmp, 1) := by decide +kernel
theorem dX12_isKept_128 : decode cX12_isKept 128 = .ok (.ifCond .eq 91, 3) := by decide +kernel
theorem dX12_isKept_131 : decode cX12_isKept 131 = .ok (.aload_n 0, 1) := by decide +kernel
theorem dX12_isKept_132 : decode cX12_isKept 132 = .ok (.getfield 174, 3) := by decide +kernel
theorem dX12_isKept_135 : decode cX12_isKept 135 = .ok (.ldc2_w 267, 3) := by decide +kernel
theorem dX12_isKept_138 : decode cX12_isKept 138 = .ok (.lcmp, 1) := by decide +kernel
theorem dX12_isKept_139 : decode cX12_isKept 139 = .ok (.ifCond .eq 80, 3) := by decide +kernel
theorem dX12_isKept_142 : decode cX12_isKept 142 = .ok (.aload_n 0, 1) := by decide +kernel
theorem dX12_isKept_143 : decode cX12_isKept 143 = .ok (.getfield 174, 3) := by decide +kernel
theorem dX12_isKept_146 : decode cX12_isKept 146 = .ok (.ldc2_w 269, 3) := by decide +kernel
theorem dX12_isKept_149 : decode cX12_isKept 149 = .ok (.lcmp, 1) := by decide +kernel
theorem dX12_isKept_150 : decode cX12_isKept 150 = .ok (.ifCond .eq 69, 3) := by decide +kernel
theorem dX12_isKept_153 : decode cX12_isKept 153 = .ok (.aload_n 0, 1) := by decide +kernel
theorem dX12_isKept_154 : decode cX12_isKept 154 = .ok (.getfield 174, 3) := by decide +kernel
theorem dX12_isKept_157 : decode cX12_isKept 157 = .ok (.ldc2_w 271, 3) := by decide +kernel
theorem dX12_isKept_160 : decode cX12_isKept 160 = .ok (.lcmp, 1) := by decide +kernel
theorem dX12_isKept_161 : decode cX12_isKept 161 = .ok (.ifCond .eq 58, 3) := by decide +kernel
theorem dX12_isKept_164 : decode cX12_isKept 164 = .ok (.aload_n 0, 1) := by decide +kernel
theorem dX12_isKept_165 : decode cX12_isKept 165 = .ok (.getfield 174, 3) := by decide +kernel
theorem dX12_isKept_168 : decode cX12_isKept 168 = .ok (.ldc2_w 273, 3) := by decide +kernel
theorem dX12_isKept_171 : decode cX12_isKept 171 = .ok (.lcmp, 1) := by decide +kernel
theorem dX12_isKept_172 : decode cX12_isKept 172 = .ok (.ifCond .eq 47, 3) := by decide +kernel
theorem dX12_isKept_175 : decode cX12_isKept 175 = .ok (.aload_n 0, 1) := by decide +kernel
theorem dX12_isKept_176 : decode cX12_isKept 176 = .ok (.getfield 174, 3) := by decide +kernel
theorem dX12_isKept_179 : decode cX12_isKept 179 = .ok (.ldc2_w 275, 3) := by decide +kernel
theorem dX12_isKept_182 : decode cX12_isKept 182 = .ok (.lcmp, 1) := by decide +kernel
theorem dX12_isKept_183 : decode cX12_isKept 183 = .ok (.ifCond .eq 36, 3) := by decide +kernel
theorem dX12_isKept_186 : decode cX12_isKept 186 = .ok (.aload_n 0, 1) := by decide +kernel
theorem dX12_isKept_187 : decode cX12_isKept 187 = .ok (.getfield 174, 3) := by decide +kernel
theorem dX12_isKept_190 : decode cX12_isKept 190 = .ok (.ldc2_w 212, 3) := by decide +kernel
theorem dX12_isKept_193 : decode cX12_isKept 193 = .ok (.lcmp, 1) := by decide +kernel
theorem dX12_isKept_194 : decode cX12_isKept 194 = .ok (.ifCond .eq 25, 3) := by decide +kernel
theorem dX12_isKept_197 : decode cX12_isKept 197 = .ok (.aload_n 0, 1) := by decide +kernel
theorem dX12_isKept_198 : decode cX12_isKept 198 = .ok (.getfield 174, 3) := by decide +kernel
theorem dX12_isKept_201 : decode cX12_isKept 201 = .ok (.ldc2_w 232, 3) := by decide +kernel
theorem dX12_isKept_204 : decode cX12_isKept 204 = .ok (.lcmp, 1) := by decide +kernel
theorem dX12_isKept_205 : decode cX12_isKept 205 = .ok (.ifCond .eq 14, 3) := by decide +kernel
theorem dX12_isKept_208 : decode cX12_isKept 208 = .ok (.aload_n 0, 1) := by decide +kernel
theorem dX12_isKept_209 : decode cX12_isKept 209 = .ok (.getfield 174, 3) := by decide +kernel
theorem dX12_isKept_212 : decode cX12_isKept 212 = .ok (.ldc2_w 234, 3) := by decide +kernel
theorem dX12_isKept_215 : decode cX12_isKept 215 = .ok (.lcmp, 1) := by decide +kernel
theorem dX12_isKept_216 : decode cX12_isKept 216 = .ok (.ifCond .ne 7, 3) := by decide +kernel
theorem dX12_isKept_219 : decode cX12_isKept 219 = .ok (.iconst 1, 1) := by decide +kernel
theorem dX12_isKept_220 : decode cX12_isKept 220 = .ok (.goto 4, 3) := by decide +kernel
theorem dX12_isKept_223 : decode cX12_isKept 223 = .ok (.iconst 0, 1) := by decide +kernel
theorem dX12_isKept_224 : decode cX12_isKept 224 = .ok (.ireturn, 1) := by decide +kernel
theorem dX12_needsNumber_0 : decode cX12_needsNumber 0 = .ok (.aload_n 0, 1) := by decide +kernel
theorem dX12_needsNumber_1 : decode cX12_needsNumber 1 = .ok (.getfield 181, 3) := by decide +kernel
theorem dX12_needsNumber_4 : decode cX12_needsNumber 4 = .ok (.iconst 2, 1) := by decide +kernel
theorem dX12_needsNumber_5 : decode cX12_needsNumber 5 = .ok (.if_icmp .eq 11, 3) := by decide +kernel
theorem dX12_needsNumber_8 : decode cX12_needsNumber 8 = .ok (.aload_n 0, 1) := by decide +kernel
theorem dX12_needsNumber_9 : decode cX12_needsNumber 9 = .ok (.iconst 1, 1) := by decide +kernel
theorem dX12_needsNumber_10 : decode cX12_needsNumber 10 = .ok (.invokevirtual 222, 3) := by decide +kernel
theorem dX12_needsNumber_13 : decode cX12_needsNumber 13 = .ok (.goto 28, 3) := by decide +kernel
theorem dX12_needsNumber_16 : decode cX12_needsNumber 16 = .ok (.aload_n 0, 1) := by decide +kernel
theorem dX12_needsNumber_17 : decode cX12_needsNumber 17 = .ok (.getfield 178, 3) := by decide +kernel
theorem dX12_needsNumber_20 : decode cX12_needsNumber 20 = .ok (.iload_n 1, 1) := by decide +kernel
theorem dX12_needsNumber_21 : decode cX12_needsNumber 21 = .ok (.iload_n 2, 1) := by decide +kernel
theorem dX12_needsNumber_22 : decode cX12_needsNumber 22 = .ok (.invokestatic 277, 3) := by decide +kernel
theorem dX12_needsNumber_25 : decode cX12_needsNumber 25 = .ok (.ifCond .ne 11, 3) := by decide +kernel
theorem dX12_needsNumber_28 : decode cX12_needsNumber 28 = .ok (.aload_n 0, 1) := by decide +kernel
theorem dX12_needsNumber_29 : decode cX12_needsNumber 29 = .ok (.iconst 4, 1) := by decide +kernel
theorem dX12_needsNumber_30 : decode cX12_needsNumber 30 = .ok (.invokevirtual 222, 3) := by decide +kernel
theorem dX12_needsNumber_33 : decode cX12_needsNumber 33 = .ok (.ifCond .eq 7, 3) := by decide +kernel
theorem dX12_needsNumber_36 : decode cX12_needsNumber 36 = .ok (.iconst 1, 1) := by decide +kernel
theorem dX12_needsNumber_37 : decode cX12_needsNumber 37 = .ok (.goto 4, 3) := by decide +kernel
theorem dX12_needsNumber_40 : decode cX12_needsNumber 40 = .ok (.iconst 0, 1) := by decide +kernel
theorem dX12_needsNumber_41 : decode cX12_needsNumber 41 = .ok (.ireturn, 1) := by decide +kernel
theorem dX12_needsWord_0 : decode cX12_needsWord 0 = .ok (.aload_n 0, 1) := by decide +kernel
theorem dX12_needsWord_1 : decode cX12_needsWord 1 = .ok (.lload_n 1, 1) := by decide +kernel
theorem dX12_needsWord_2 : decode cX12_needsWord 2 = .ok (.invokevirtual 214, 3) := by decide +kernel
theorem dX12_needsWord_5 : decode cX12_needsWord 5 = .ok (.ifCond .ne 9, 3) := by decide +kernel
theorem dX12_needsWord_8 : decode cX12_needsWord 8 = .ok (.aload_n 0, 1) := by decide +kernel
theorem dX12_needsWord_9 : decode cX12_needsWord 9 = .ok (.iconst 1, 1) := by decide +kernel
theorem dX12_needsWord_10 : decode cX12_needsWord 10 = .ok (.invokevirtual 222, 3) := by decide +kernel
theorem dX12_needsWord_13 : decode cX12_needsWord 13 = .ok (.ireturn, 1) := by decide +kernel
theorem dX12_needsWord_14 : decode cX12_needsWord 14 = .ok (.aload_n 0, 1) := by decide +kernel
theorem dX12_needsWord_15 : decode cX12_needsWord 15 = .ok (.invokevirtual 229, 3) := by decide +kernel
theorem dX12_needsWord_18 : decode cX12_needsWord 18 = .ok (.iconst 1, 1) := by decide +kernel
theorem dX12_needsWord_19 : decode cX12_needsWord 19 = .ok (.ireturn, 1) := by decide +kernel
theorem dX12_ends_0 : decode cX12_ends 0 = .ok (.aload_n 0, 1) := by decide +kernel
theorem dX12_ends_1 : decode cX12_ends 1 = .ok (.bipush 59, 2) := by decide +kernel
theorem dX12_ends_3 : decode cX12_ends 3 = .ok (.invokevirtual 218, 3) := by decide +kernel
theorem dX12_ends_6 : decode cX12_ends 6 = .ok (.ifCond .ne 9, 3) := by decide +kernel
theorem dX12_ends_9 : decode cX12_ends 9 = .ok (.aload_n 0, 1) := by decide +kernel
theorem dX12_ends_10 : decode cX12_ends 10 = .ok (.iconst 1, 1) := by decide +kernel
theorem dX12_ends_11 : decode cX12_ends 11 = .ok (.invokevirtual 222, 3) := by decide +kernel
theorem dX12_ends_14 : decode cX12_ends 14 = .ok (.ireturn, 1) := by decide +kernel
theorem dX12_ends_15 : decode cX12_ends 15 = .ok (.aload_n 0, 1) := by decide +kernel
theorem dX12_ends_16 : decode cX12_ends 16 = .ok (.invokevirtual 229, 3) := by decide +kernel
theorem dX12_ends_19 : decode cX12_ends 19 = .ok (.iconst 1, 1) := by decide +kernel
theorem dX12_ends_20 : decode cX12_ends 20 = .ok (.ireturn, 1) := by decide +kernel
theorem dX12_stepKind_0 : decode cX12_stepKind 0 = .ok (.aload_n 0, 1) := by decide +kernel
theorem dX12_stepKind_1 : decode cX12_stepKind 1 = .ok (.ldc2_w 249, 3) := by decide +kernel
theorem dX12_stepKind_4 : decode cX12_stepKind 4 = .ok (.invokevirtual 214, 3) := by decide +kernel
theorem dX12_stepKind_7 : decode cX12_stepKind 7 = .ok (.ifCond .eq 7, 3) := by decide +kernel
theorem dX12_stepKind_10 : decode cX12_stepKind 10 = .ok (.iconst 0, 1) := by decide +kernel
theorem dX12_stepKind_11 : decode cX12_stepKind 11 = .ok (.goto 74, 3) := by decide +kernel
theorem dX12_stepKind_14 : decode cX12_stepKind 14 = .ok (.aload_n 0, 1) := by decide +kernel
theorem dX12_stepKind_15 : decode cX12_stepKind 15 = .ok (.ldc2_w 251, 3) := by decide +kernel
theorem dX12_stepKind_18 : decode cX12_stepKind 18 = .ok (.invokevirtual 214, 3) := by decide +kernel
theorem dX12_stepKind_21 : decode cX12_stepKind 21 = .ok (.ifCond .eq 7, 3) := by decide +kernel
theorem dX12_stepKind_24 : decode cX12_stepKind 24 = .ok (.iconst 1, 1) := by decide +kernel
theorem dX12_stepKind_25 : decode cX12_stepKind 25 = .ok (.goto 60, 3) := by decide +kernel
theorem dX12_stepKind_28 : decode cX12_stepKind 28 = .ok (.aload_n 0, 1) := by decide +kernel
theorem dX12_stepKind_29 : decode cX12_stepKind 29 = .ok (.ldc2_w 253, 3) := by decide +kernel
theorem dX12_stepKind_32 : decode cX12_stepKind 32 = .ok (.invokevirtual 214, 3) := by decide +kernel
theorem dX12_stepKind_35 : decode cX12_stepKind 35 = .ok (.ifCond .eq 7, 3) := by decide +kernel
theorem dX12_stepKind_38 : decode cX12_stepKind 38 = .ok (.iconst 2, 1) := by decide +kernel
theorem dX12_stepKind_39 : decode cX12_stepKind 39 = .ok (.goto 46, 3) := by decide +kernel
theorem dX12_stepKind_42 : decode cX12_stepKind 42 = .ok (.aload_n 0, 1) := by decide +kernel
theorem dX12_stepKind_43 : decode cX12_stepKind 43 = .ok (.ldc2_w 255, 3) := by decide +kernel
theorem dX12_stepKind_46 : decode cX12_stepKind 46 = .ok (.invokevirtual 214, 3) := by decide +kernel
theorem dX12_stepKind_49 : decode cX12_stepKind 49 = .ok (.ifCond .eq 7, 3) := by decide +kernel
theorem dX12_stepKind_52 : decode cX12_stepKind 52 = .ok (.iconst 3, 1) := by decide +kernel
theorem dX12_stepKind_53 : decode cX12_stepKind 53 = .ok (.goto 32, 3) := by decide +kernel
theorem dX12_stepKind_56 : decode cX12_stepKind 56 = .ok (.aload_n 0, 1) := by decide +kernel
theorem dX12_stepKind_57 : decode cX12_stepKind 57 = .ok (.ldc2_w 257, 3) := by decide +kernel
theorem dX12_stepKind_60 : decode cX12_stepKind 60 = .ok (.invokevirtual 214, 3) := by decide +kernel
theorem dX12_stepKind_63 : decode cX12_stepKind 63 = .ok (.ifCond .eq 7, 3) := by decide +kernel
theorem dX12_stepKind_66 : decode cX12_stepKind 66 = .ok (.iconst 4, 1) := by decide +kernel
theorem dX12_stepKind_67 : decode cX12_stepKind 67 = .ok (.goto 18, 3) := by decide +kernel
theorem dX12_stepKind_70 : decode cX12_stepKind 70 = .ok (.aload_n 0, 1) := by decide +kernel
theorem dX12_stepKind_71 : decode cX12_stepKind 71 = .ok (.ldc2_w 259, 3) := by decide +kernel
theorem dX12_stepKind_74 : decode cX12_stepKind 74 = .ok (.invokevirtual 214, 3) := by decide +kernel
theorem dX12_stepKind_77 : decode cX12_stepKind 77 = .ok (.ifCond .eq 7, 3) := by decide +kernel
theorem dX12_stepKind_80 : decode cX12_stepKind 80 = .ok (.iconst 5, 1) := by decide +kernel
theorem dX12_stepKind_81 : decode cX12_stepKind 81 = .ok (.goto 4, 3) := by decide +kernel
theorem dX12_stepKind_84 : decode cX12_stepKind 84 = .ok (.iconst (-1), 1) := by decide +kernel
theorem dX12_stepKind_85 : decode cX12_stepKind 85 = .ok (.ireturn, 1) := by decide +kernel
theorem dX12_lays_0 : decode cX12_lays 0 = .ok (.aload_n 0, 1) := by decide +kernel
theorem dX12_lays_1 : decode cX12_lays 1 = .ok (.getfield 281, 3) := by decide +kernel
theorem dX12_lays_4 : decode cX12_lays 4 = .ok (.istore_n 3, 1) := by decide +kernel
theorem dX12_lays_5 : decode cX12_lays 5 = .ok (.iconst 0, 1) := by decide +kernel
theorem dX12_lays_6 : decode cX12_lays 6 = .ok (.istore 4, 2) := by decide +kernel
theorem dX12_lays_8 : decode cX12_lays 8 = .ok (.iconst 0, 1) := by decide +kernel
theorem dX12_lays_9 : decode cX12_lays 9 = .ok (.istore 5, 2) := by decide +kernel
theorem dX12_lays_11 : decode cX12_lays 11 = .ok (.iconst 0, 1) := by decide +kernel
theorem dX12_lays_12 : decode cX12_lays 12 = .ok (.istore 6, 2) := by decide +kernel
theorem dX12_lays_14 : decode cX12_lays 14 = .ok (.iload 6, 2) := by decide +kernel
theorem dX12_lays_16 : decode cX12_lays 16 = .ok (.iload_n 3, 1) := by decide +kernel
theorem dX12_lays_17 : decode cX12_lays 17 = .ok (.if_icmp .ge 146, 3) := by decide +kernel
theorem dX12_lays_20 : decode cX12_lays 20 = .ok (.iload 6, 2) := by decide +kernel
theorem dX12_lays_22 : decode cX12_lays 22 = .ok (.iconst 2, 1) := by decide +kernel
theorem dX12_lays_23 : decode cX12_lays 23 = .ok (.idiv, 1) := by decide +kernel
theorem dX12_lays_24 : decode cX12_lays 24 = .ok (.istore 7, 2) := by decide +kernel
theorem dX12_lays_26 : decode cX12_lays 26 = .ok (.iload_n 1, 1) := by decide +kernel
theorem dX12_lays_27 : decode cX12_lays 27 = .ok (.ifCond .ne 28, 3) := by decide +kernel
theorem dX12_lays_30 : decode cX12_lays 30 = .ok (.aload_n 0, 1) := by decide +kernel
theorem dX12_lays_31 : decode cX12_lays 31 = .ok (.getfield 108, 3) := by decide +kernel
theorem dX12_lays_34 : decode cX12_lays 34 = .ok (.iload 6, 2) := by decide +kernel
theorem dX12_lays_36 : decode cX12_lays 36 = .ok (.iload 6, 2) := by decide +kernel
theorem dX12_lays_38 : decode cX12_lays 38 = .ok (.iconst 2, 1) := by decide +kernel
theorem dX12_lays_39 : decode cX12_lays 39 = .ok (.irem, 1) := by decide +kernel
theorem dX12_lays_40 : decode cX12_lays 40 = .ok (.ifCond .ne 12, 3) := by decide +kernel
theorem dX12_lays_43 : decode cX12_lays 43 = .ok (.iload_n 3, 1) := by decide +kernel
theorem dX12_lays_44 : decode cX12_lays 44 = .ok (.iconst 1, 1) := by decide +kernel
theorem dX12_lays_45 : decode cX12_lays 45 = .ok (.isub, 1) := by decide +kernel
theorem dX12_lays_46 : decode cX12_lays 46 = .ok (.iload 7, 2) := by decide +kernel
theorem dX12_lays_48 : decode cX12_lays 48 = .ok (.isub, 1) := by decide +kernel
theorem dX12_lays_49 : decode cX12_lays 49 = .ok (.goto 5, 3) := by decide +kernel
theorem dX12_lays_52 : decode cX12_lays 52 = .ok (.iload 7, 2) := by decide +kernel
theorem dX12_lays_54 : decode cX12_lays 54 = .ok (.iastore, 1) := by decide +kernel
theorem dX12_lays_55 : decode cX12_lays 55 = .ok (.iload_n 1, 1) := by decide +kernel
theorem dX12_lays_56 : decode cX12_lays 56 = .ok (.iconst 1, 1) := by decide +kernel
theorem dX12_lays_57 : decode cX12_lays 57 = .ok (.if_icmp .ne 16, 3) := by decide +kernel
theorem dX12_lays_60 : decode cX12_lays 60 = .ok (.aload_n 0, 1) := by decide +kernel
theorem dX12_lays_61 : decode cX12_lays 61 = .ok (.getfield 108, 3) := by decide +kernel
theorem dX12_lays_64 : decode cX12_lays 64 = .ok (.iload 6, 2) := by decide +kernel
theorem dX12_lays_66 : decode cX12_lays 66 = .ok (.iload_n 3, 1) := by decide +kernel
theorem dX12_lays_67 : decode cX12_lays 67 = .ok (.iconst 1, 1) := by decide +kernel
theorem dX12_lays_68 : decode cX12_lays 68 = .ok (.isub, 1) := by decide +kernel
theorem dX12_lays_69 : decode cX12_lays 69 = .ok (.iload 6, 2) := by decide +kernel
theorem dX12_lays_71 : decode cX12_lays 71 = .ok (.isub, 1) := by decide +kernel
theorem dX12_lays_72 : decode cX12_lays 72 = .ok (.iastore, 1) := by decide +kernel
theorem dX12_lays_73 : decode cX12_lays 73 = .ok (.iload_n 1, 1) := by decide +kernel
theorem dX12_lays_74 : decode cX12_lays 74 = .ok (.iconst 2, 1) := by decide +kernel
theorem dX12_lays_75 : decode cX12_lays 75 = .ok (.if_icmp .ne 30, 3) := by decide +kernel
theorem dX12_lays_78 : decode cX12_lays 78 = .ok (.aload_n 0, 1) := by decide +kernel
theorem dX12_lays_79 : decode cX12_lays 79 = .ok (.getfield 108, 3) := by decide +kernel
theorem dX12_lays_82 : decode cX12_lays 82 = .ok (.iload 6, 2) := by decide +kernel
theorem dX12_lays_84 : decode cX12_lays 84 = .ok (.iload 6, 2) := by decide +kernel
theorem dX12_lays_86 : decode cX12_lays 86 = .ok (.iconst 2, 1) := by decide +kernel
theorem dX12_lays_87 : decode cX12_lays 87 = .ok (.irem, 1) := by decide +kernel
theorem dX12_lays_88 : decode cX12_lays 88 = .ok (.ifCond .ne 8, 3) := by decide +kernel
theorem dX12_lays_91 : decode cX12_lays 91 = .ok (.iload 7, 2) := by decide +kernel
theorem dX12_lays_93 : decode cX12_lays 93 = .ok (.goto 11, 3) := by decide +kernel
theorem dX12_lays_96 : decode cX12_lays 96 = .ok (.iload_n 3, 1) := by decide +kernel
theorem dX12_lays_97 : decode cX12_lays 97 = .ok (.iconst 1, 1) := by decide +kernel
theorem dX12_lays_98 : decode cX12_lays 98 = .ok (.iadd, 1) := by decide +kernel
theorem dX12_lays_99 : decode cX12_lays 99 = .ok (.iconst 2, 1) := by decide +kernel
theorem dX12_lays_100 : decode cX12_lays 100 = .ok (.idiv, 1) := by decide +kernel
theorem dX12_lays_101 : decode cX12_lays 101 = .ok (.iload 7, 2) := by decide +kernel
theorem dX12_lays_103 : decode cX12_lays 103 = .ok (.iadd, 1) := by decide +kernel
theorem dX12_lays_104 : decode cX12_lays 104 = .ok (.iastore, 1) := by decide +kernel
theorem dX12_lays_105 : decode cX12_lays 105 = .ok (.iload_n 1, 1) := by decide +kernel
theorem dX12_lays_106 : decode cX12_lays 106 = .ok (.iconst 3, 1) := by decide +kernel
theorem dX12_lays_107 : decode cX12_lays 107 = .ok (.if_icmp .ne 28, 3) := by decide +kernel
theorem dX12_lays_110 : decode cX12_lays 110 = .ok (.aload_n 0, 1) := by decide +kernel
theorem dX12_lays_111 : decode cX12_lays 111 = .ok (.getfield 108, 3) := by decide +kernel
theorem dX12_lays_114 : decode cX12_lays 114 = .ok (.iload 6, 2) := by decide +kernel
theorem dX12_lays_116 : decode cX12_lays 116 = .ok (.iload 5, 2) := by decide +kernel
theorem dX12_lays_118 : decode cX12_lays 118 = .ok (.iastore, 1) := by decide +kernel
theorem dX12_lays_119 : decode cX12_lays 119 = .ok (.iinc 5 3, 3) := by decide +kernel
theorem dX12_lays_122 : decode cX12_lays 122 = .ok (.iload 5, 2) := by decide +kernel
theorem dX12_lays_124 : decode cX12_lays 124 = .ok (.iload_n 3, 1) := by decide +kernel
theorem dX12_lays_125 : decode cX12_lays 125 = .ok (.if_icmp .lt 10, 3) := by decide +kernel
theorem dX12_lays_128 : decode cX12_lays 128 = .ok (.iinc 4 1, 3) := by decide +kernel
theorem dX12_lays_131 : decode cX12_lays 131 = .ok (.iload 4, 2) := by decide +kernel
theorem dX12_lays_133 : decode cX12_lays 133 = .ok (.istore 5, 2) := by decide +kernel
theorem dX12_lays_135 : decode cX12_lays 135 = .ok (.iload_n 1, 1) := by decide +kernel
theorem dX12_lays_136 : decode cX12_lays 136 = .ok (.iconst 4, 1) := by decide +kernel
theorem dX12_lays_137 : decode cX12_lays 137 = .ok (.if_icmp .ne 20, 3) := by decide +kernel
theorem dX12_lays_140 : decode cX12_lays 140 = .ok (.aload_n 0, 1) := by decide +kernel
theorem dX12_lays_141 : decode cX12_lays 141 = .ok (.getfield 108, 3) := by decide +kernel
theorem dX12_lays_144 : decode cX12_lays 144 = .ok (.iload 6, 2) := by decide +kernel
theorem dX12_lays_146 : decode cX12_lays 146 = .ok (.iload 6, 2) := by decide +kernel
theorem dX12_lays_148 : decode cX12_lays 148 = .ok (.iload_n 2, 1) := by decide +kernel
theorem dX12_lays_149 : decode cX12_lays 149 = .ok (.iload_n 3, 1) := by decide +kernel
theorem dX12_lays_150 : decode cX12_lays 150 = .ok (.irem, 1) := by decide +kernel
theorem dX12_lays_151 : decode cX12_lays 151 = .ok (.isub, 1) := by decide +kernel
theorem dX12_lays_152 : decode cX12_lays 152 = .ok (.iload_n 3, 1) := by decide +kernel
theorem dX12_lays_153 : decode cX12_lays 153 = .ok (.iadd, 1) := by decide +kernel
theorem dX12_lays_154 : decode cX12_lays 154 = .ok (.iload_n 3, 1) := by decide +kernel
theorem dX12_lays_155 : decode cX12_lays 155 = .ok (.irem, 1) := by decide +kernel
theorem dX12_lays_156 : decode cX12_lays 156 = .ok (.iastore, 1) := by decide +kernel
theorem dX12_lays_157 : decode cX12_lays 157 = .ok (.iinc 6 1, 3) := by decide +kernel
theorem dX12_lays_160 : decode cX12_lays 160 = .ok (.goto (-146), 3) := by decide +kernel
theorem dX12_lays_163 : decode cX12_lays 163 = .ok (.return_, 1) := by decide +kernel
theorem dX12_turns_0 : decode cX12_turns 0 = .ok (.iconst 0, 1) := by decide +kernel
theorem dX12_turns_1 : decode cX12_turns 1 = .ok (.istore_n 1, 1) := by decide +kernel
theorem dX12_turns_2 : decode cX12_turns 2 = .ok (.iload_n 1, 1) := by decide +kernel
theorem dX12_turns_3 : decode cX12_turns 3 = .ok (.aload_n 0, 1) := by decide +kernel
theorem dX12_turns_4 : decode cX12_turns 4 = .ok (.getfield 281, 3) := by decide +kernel
theorem dX12_turns_7 : decode cX12_turns 7 = .ok (.if_icmp .ge 26, 3) := by decide +kernel
theorem dX12_turns_10 : decode cX12_turns 10 = .ok (.aload_n 0, 1) := by decide +kernel
theorem dX12_turns_11 : decode cX12_turns 11 = .ok (.getfield 111, 3) := by decide +kernel
theorem dX12_turns_14 : decode cX12_turns 14 = .ok (.iload_n 1, 1) := by decide +kernel
theorem dX12_turns_15 : decode cX12_turns 15 = .ok (.aload_n 0, 1) := by decide +kernel
theorem dX12_turns_16 : decode cX12_turns 16 = .ok (.getfield 38, 3) := by decide +kernel
theorem dX12_turns_19 : decode cX12_turns 19 = .ok (.aload_n 0, 1) := by decide +kernel
theorem dX12_turns_20 : decode cX12_turns 20 = .ok (.getfield 108, 3) := by decide +kernel
theorem dX12_turns_23 : decode cX12_turns 23 = .ok (.iload_n 1, 1) := by decide +kernel
theorem dX12_turns_24 : decode cX12_turns 24 = .ok (.iaload, 1) := by decide +kernel
theorem dX12_turns_25 : decode cX12_turns 25 = .ok (.iaload, 1) := by decide +kernel
theorem dX12_turns_26 : decode cX12_turns 26 = .ok (.iastore, 1) := by decide +kernel
theorem dX12_turns_27 : decode cX12_turns 27 = .ok (.iinc 1 1, 3) := by decide +kernel
theorem dX12_turns_30 : decode cX12_turns 30 = .ok (.goto (-28), 3) := by decide +kernel
theorem dX12_turns_33 : decode cX12_turns 33 = .ok (.iconst 0, 1) := by decide +kernel
theorem dX12_turns_34 : decode cX12_turns 34 = .ok (.istore_n 1, 1) := by decide +kernel
theorem dX12_turns_35 : decode cX12_turns 35 = .ok (.iload_n 1, 1) := by decide +kernel
theorem dX12_turns_36 : decode cX12_turns 36 = .ok (.aload_n 0, 1) := by decide +kernel
theorem dX12_turns_37 : decode cX12_turns 37 = .ok (.getfield 281, 3) := by decide +kernel
theorem dX12_turns_40 : decode cX12_turns 40 = .ok (.if_icmp .ge 21, 3) := by decide +kernel
theorem dX12_turns_43 : decode cX12_turns 43 = .ok (.aload_n 0, 1) := by decide +kernel
theorem dX12_turns_44 : decode cX12_turns 44 = .ok (.getfield 38, 3) := by decide +kernel
theorem dX12_turns_47 : decode cX12_turns 47 = .ok (.iload_n 1, 1) := by decide +kernel
theorem dX12_turns_48 : decode cX12_turns 48 = .ok (.aload_n 0, 1) := by decide +kernel
theorem dX12_turns_49 : decode cX12_turns 49 = .ok (.getfield 111, 3) := by decide +kernel
theorem dX12_turns_52 : decode cX12_turns 52 = .ok (.iload_n 1, 1) := by decide +kernel
