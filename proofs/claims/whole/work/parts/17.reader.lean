theorem dX8_advance_0 : decode cX8_advance 0 = .ok (.aload_n 0, 1) := by decide +kernel
theorem dX8_advance_1 : decode cX8_advance 1 = .ok (.aload_n 0, 1) := by decide +kernel
theorem dX8_advance_2 : decode cX8_advance 2 = .ok (.getfield 28, 3) := by decide +kernel
theorem dX8_advance_5 : decode cX8_advance 5 = .ok (.putfield 40, 3) := by decide +kernel
theorem dX8_advance_8 : decode cX8_advance 8 = .ok (.aload_n 0, 1) := by decide +kernel
theorem dX8_advance_9 : decode cX8_advance 9 = .ok (.getfield 25, 3) := by decide +kernel
theorem dX8_advance_12 : decode cX8_advance 12 = .ok (.aload_n 0, 1) := by decide +kernel
theorem dX8_advance_13 : decode cX8_advance 13 = .ok (.getfield 21, 3) := by decide +kernel
theorem dX8_advance_16 : decode cX8_advance 16 = .ok (.if_icmp .ge 44, 3) := by decide +kernel
theorem dX8_advance_19 : decode cX8_advance 19 = .ok (.aload_n 0, 1) := by decide +kernel
theorem dX8_advance_20 : decode cX8_advance 20 = .ok (.getfield 9, 3) := by decide +kernel
theorem dX8_advance_23 : decode cX8_advance 23 = .ok (.aload_n 0, 1) := by decide +kernel
theorem dX8_advance_24 : decode cX8_advance 24 = .ok (.getfield 25, 3) := by decide +kernel
theorem dX8_advance_27 : decode cX8_advance 27 = .ok (.baload, 1) := by decide +kernel
theorem dX8_advance_28 : decode cX8_advance 28 = .ok (.bipush 32, 2) := by decide +kernel
theorem dX8_advance_30 : decode cX8_advance 30 = .ok (.if_icmp .eq 17, 3) := by decide +kernel
theorem dX8_advance_33 : decode cX8_advance 33 = .ok (.aload_n 0, 1) := by decide +kernel
theorem dX8_advance_34 : decode cX8_advance 34 = .ok (.getfield 9, 3) := by decide +kernel
theorem dX8_advance_37 : decode cX8_advance 37 = .ok (.aload_n 0, 1) := by decide +kernel
theorem dX8_advance_38 : decode cX8_advance 38 = .ok (.getfield 25, 3) := by decide +kernel
theorem dX8_advance_41 : decode cX8_advance 41 = .ok (.baload, 1) := by decide +kernel
theorem dX8_advance_42 : decode cX8_advance 42 = .ok (.bipush 10, 2) := by decide +kernel
theorem dX8_advance_44 : decode cX8_advance 44 = .ok (.if_icmp .ne 16, 3) := by decide +kernel
theorem dX8_advance_47 : decode cX8_advance 47 = .ok (.aload_n 0, 1) := by decide +kernel
theorem dX8_advance_48 : decode cX8_advance 48 = .ok (.dup, 1) := by decide +kernel
theorem dX8_advance_49 : decode cX8_advance 49 = .ok (.getfield 25, 3) := by decide +kernel
theorem dX8_advance_52 : decode cX8_advance 52 = .ok (.iconst 1, 1) := by decide +kernel
theorem dX8_advance_53 : decode cX8_advance 53 = .ok (.iadd, 1) := by decide +kernel
theorem dX8_advance_54 : decode cX8_advance 54 = .ok (.putfield 25, 3) := by decide +kernel
theorem dX8_advance_57 : decode cX8_advance 57 = .ok (.goto (-49), 3) := by decide +kernel
theorem dX8_advance_60 : decode cX8_advance 60 = .ok (.aload_n 0, 1) := by decide +kernel
theorem dX8_advance_61 : decode cX8_advance 61 = .ok (.aload_n 0, 1) := by decide +kernel
theorem dX8_advance_62 : decode cX8_advance 62 = .ok (.getfield 25, 3) := by decide +kernel
theorem dX8_advance_65 : decode cX8_advance 65 = .ok (.putfield 28, 3) := by decide +kernel
theorem dX8_advance_68 : decode cX8_advance 68 = .ok (.aload_n 0, 1) := by decide +kernel
theorem dX8_advance_69 : decode cX8_advance 69 = .ok (.iconst 0, 1) := by decide +kernel
theorem dX8_advance_70 : decode cX8_advance 70 = .ok (.putfield 43, 3) := by decide +kernel
theorem dX8_advance_73 : decode cX8_advance 73 = .ok (.aload_n 0, 1) := by decide +kernel
theorem dX8_advance_74 : decode cX8_advance 74 = .ok (.getfield 25, 3) := by decide +kernel
theorem dX8_advance_77 : decode cX8_advance 77 = .ok (.aload_n 0, 1) := by decide +kernel
theorem dX8_advance_78 : decode cX8_advance 78 = .ok (.getfield 21, 3) := by decide +kernel
theorem dX8_advance_81 : decode cX8_advance 81 = .ok (.if_icmp .lt 11, 3) := by decide +kernel
theorem dX8_advance_84 : decode cX8_advance 84 = .ok (.aload_n 0, 1) := by decide +kernel
theorem dX8_advance_85 : decode cX8_advance 85 = .ok (.iconst 0, 1) := by decide +kernel
theorem dX8_advance_86 : decode cX8_advance 86 = .ok (.putfield 46, 3) := by decide +kernel
theorem dX8_advance_89 : decode cX8_advance 89 = .ok (.goto 258, 3) := by decide +kernel
theorem dX8_advance_92 : decode cX8_advance 92 = .ok (.aload_n 0, 1) := by decide +kernel
theorem dX8_advance_93 : decode cX8_advance 93 = .ok (.getfield 9, 3) := by decide +kernel
theorem dX8_advance_96 : decode cX8_advance 96 = .ok (.aload_n 0, 1) := by decide +kernel
theorem dX8_advance_97 : decode cX8_advance 97 = .ok (.getfield 25, 3) := by decide +kernel
theorem dX8_advance_100 : decode cX8_advance 100 = .ok (.baload, 1) := by decide +kernel
theorem dX8_advance_101 : decode cX8_advance 101 = .ok (.bipush 97, 2) := by decide +kernel
theorem dX8_advance_103 : decode cX8_advance 103 = .ok (.if_icmp .lt 74, 3) := by decide +kernel
theorem dX8_advance_106 : decode cX8_advance 106 = .ok (.aload_n 0, 1) := by decide +kernel
theorem dX8_advance_107 : decode cX8_advance 107 = .ok (.getfield 9, 3) := by decide +kernel
theorem dX8_advance_110 : decode cX8_advance 110 = .ok (.aload_n 0, 1) := by decide +kernel
theorem dX8_advance_111 : decode cX8_advance 111 = .ok (.getfield 25, 3) := by decide +kernel
theorem dX8_advance_114 : decode cX8_advance 114 = .ok (.baload, 1) := by decide +kernel
theorem dX8_advance_115 : decode cX8_advance 115 = .ok (.bipush 122, 2) := by decide +kernel
theorem dX8_advance_117 : decode cX8_advance 117 = .ok (.if_icmp .gt 60, 3) := by decide +kernel
theorem dX8_advance_120 : decode cX8_advance 120 = .ok (.aload_n 0, 1) := by decide +kernel
theorem dX8_advance_121 : decode cX8_advance 121 = .ok (.iconst 1, 1) := by decide +kernel
theorem dX8_advance_122 : decode cX8_advance 122 = .ok (.putfield 46, 3) := by decide +kernel
theorem dX8_advance_125 : decode cX8_advance 125 = .ok (.aload_n 0, 1) := by decide +kernel
theorem dX8_advance_126 : decode cX8_advance 126 = .ok (.getfield 25, 3) := by decide +kernel
theorem dX8_advance_129 : decode cX8_advance 129 = .ok (.aload_n 0, 1) := by decide +kernel
theorem dX8_advance_130 : decode cX8_advance 130 = .ok (.getfield 21, 3) := by decide +kernel
theorem dX8_advance_133 : decode cX8_advance 133 = .ok (.if_icmp .ge 214, 3) := by decide +kernel
theorem dX8_advance_136 : decode cX8_advance 136 = .ok (.aload_n 0, 1) := by decide +kernel
theorem dX8_advance_137 : decode cX8_advance 137 = .ok (.getfield 9, 3) := by decide +kernel
theorem dX8_advance_140 : decode cX8_advance 140 = .ok (.aload_n 0, 1) := by decide +kernel
theorem dX8_advance_141 : decode cX8_advance 141 = .ok (.getfield 25, 3) := by decide +kernel
theorem dX8_advance_144 : decode cX8_advance 144 = .ok (.baload, 1) := by decide +kernel
theorem dX8_advance_145 : decode cX8_advance 145 = .ok (.bipush 97, 2) := by decide +kernel
theorem dX8_advance_147 : decode cX8_advance 147 = .ok (.if_icmp .lt 200, 3) := by decide +kernel
theorem dX8_advance_150 : decode cX8_advance 150 = .ok (.aload_n 0, 1) := by decide +kernel
theorem dX8_advance_151 : decode cX8_advance 151 = .ok (.getfield 9, 3) := by decide +kernel
theorem dX8_advance_154 : decode cX8_advance 154 = .ok (.aload_n 0, 1) := by decide +kernel
theorem dX8_advance_155 : decode cX8_advance 155 = .ok (.getfield 25, 3) := by decide +kernel
theorem dX8_advance_158 : decode cX8_advance 158 = .ok (.baload, 1) := by decide +kernel
theorem dX8_advance_159 : decode cX8_advance 159 = .ok (.bipush 122, 2) := by decide +kernel
theorem dX8_advance_161 : decode cX8_advance 161 = .ok (.if_icmp .gt 186, 3) := by decide +kernel
theorem dX8_advance_164 : decode cX8_advance 164 = .ok (.aload_n 0, 1) := by decide +kernel
theorem dX8_advance_165 : decode cX8_advance 165 = .ok (.dup, 1) := by decide +kernel
theorem dX8_advance_166 : decode cX8_advance 166 = .ok (.getfield 25, 3) := by decide +kernel
theorem dX8_advance_169 : decode cX8_advance 169 = .ok (.iconst 1, 1) := by decide +kernel
theorem dX8_advance_170 : decode cX8_advance 170 = .ok (.iadd, 1) := by decide +kernel
theorem dX8_advance_171 : decode cX8_advance 171 = .ok (.putfield 25, 3) := by decide +kernel
theorem dX8_advance_174 : decode cX8_advance 174 = .ok (.goto (-49), 3) := by decide +kernel
theorem dX8_advance_177 : decode cX8_advance 177 = .ok (.aload_n 0, 1) := by decide +kernel
theorem dX8_advance_178 : decode cX8_advance 178 = .ok (.getfield 9, 3) := by decide +kernel
theorem dX8_advance_181 : decode cX8_advance 181 = .ok (.aload_n 0, 1) := by decide +kernel
theorem dX8_advance_182 : decode cX8_advance 182 = .ok (.getfield 25, 3) := by decide +kernel
theorem dX8_advance_185 : decode cX8_advance 185 = .ok (.baload, 1) := by decide +kernel
theorem dX8_advance_186 : decode cX8_advance 186 = .ok (.bipush 48, 2) := by decide +kernel
theorem dX8_advance_188 : decode cX8_advance 188 = .ok (.if_icmp .lt 98, 3) := by decide +kernel
theorem dX8_advance_191 : decode cX8_advance 191 = .ok (.aload_n 0, 1) := by decide +kernel
theorem dX8_advance_192 : decode cX8_advance 192 = .ok (.getfield 9, 3) := by decide +kernel
theorem dX8_advance_195 : decode cX8_advance 195 = .ok (.aload_n 0, 1) := by decide +kernel
theorem dX8_advance_196 : decode cX8_advance 196 = .ok (.getfield 25, 3) := by decide +kernel
theorem dX8_advance_199 : decode cX8_advance 199 = .ok (.baload, 1) := by decide +kernel
theorem dX8_advance_200 : decode cX8_advance 200 = .ok (.bipush 57, 2) := by decide +kernel
theorem dX8_advance_202 : decode cX8_advance 202 = .ok (.if_icmp .gt 84, 3) := by decide +kernel
theorem dX8_advance_205 : decode cX8_advance 205 = .ok (.aload_n 0, 1) := by decide +kernel
theorem dX8_advance_206 : decode cX8_advance 206 = .ok (.iconst 2, 1) := by decide +kernel
theorem dX8_advance_207 : decode cX8_advance 207 = .ok (.putfield 46, 3) := by decide +kernel
theorem dX8_advance_210 : decode cX8_advance 210 = .ok (.aload_n 0, 1) := by decide +kernel
theorem dX8_advance_211 : decode cX8_advance 211 = .ok (.getfield 25, 3) := by decide +kernel
theorem dX8_advance_214 : decode cX8_advance 214 = .ok (.aload_n 0, 1) := by decide +kernel
theorem dX8_advance_215 : decode cX8_advance 215 = .ok (.getfield 21, 3) := by decide +kernel
theorem dX8_advance_218 : decode cX8_advance 218 = .ok (.if_icmp .ge 129, 3) := by decide +kernel
theorem dX8_advance_221 : decode cX8_advance 221 = .ok (.aload_n 0, 1) := by decide +kernel
theorem dX8_advance_222 : decode cX8_advance 222 = .ok (.getfield 9, 3) := by decide +kernel
theorem dX8_advance_225 : decode cX8_advance 225 = .ok (.aload_n 0, 1) := by decide +kernel
theorem dX8_advance_226 : decode cX8_advance 226 = .ok (.getfield 25, 3) := by decide +kernel
theorem dX8_advance_229 : decode cX8_advance 229 = .ok (.baload, 1) := by decide +kernel
theorem dX8_advance_230 : decode cX8_advance 230 = .ok (.bipush 48, 2) := by decide +kernel
theorem dX8_advance_232 : decode cX8_advance 232 = .ok (.if_icmp .lt 115, 3) := by decide +kernel
theorem dX8_advance_235 : decode cX8_advance 235 = .ok (.aload_n 0, 1) := by decide +kernel
theorem dX8_advance_236 : decode cX8_advance 236 = .ok (.getfield 9, 3) := by decide +kernel
theorem dX8_advance_239 : decode cX8_advance 239 = .ok (.aload_n 0, 1) := by decide +kernel
theorem dX8_advance_240 : decode cX8_advance 240 = .ok (.getfield 25, 3) := by decide +kernel
theorem dX8_advance_243 : decode cX8_advance 243 = .ok (.baload, 1) := by decide +kernel
theorem dX8_advance_244 : decode cX8_advance 244 = .ok (.bipush 57, 2) := by decide +kernel
theorem dX8_advance_246 : decode cX8_advance 246 = .ok (.if_icmp .gt 101, 3) := by decide +kernel
theorem dX8_advance_249 : decode cX8_advance 249 = .ok (.aload_n 0, 1) := by decide +kernel
theorem dX8_advance_250 : decode cX8_advance 250 = .ok (.aload_n 0, 1) := by decide +kernel
theorem dX8_advance_251 : decode cX8_advance 251 = .ok (.getfield 43, 3) := by decide +kernel
theorem dX8_advance_254 : decode cX8_advance 254 = .ok (.bipush 10, 2) := by decide +kernel
theorem dX8_advance_256 : decode cX8_advance 256 = .ok (.imul, 1) := by decide +kernel
theorem dX8_advance_257 : decode cX8_advance 257 = .ok (.aload_n 0, 1) := by decide +kernel
theorem dX8_advance_258 : decode cX8_advance 258 = .ok (.getfield 9, 3) := by decide +kernel
theorem dX8_advance_261 : decode cX8_advance 261 = .ok (.aload_n 0, 1) := by decide +kernel
theorem dX8_advance_262 : decode cX8_advance 262 = .ok (.getfield 25, 3) := by decide +kernel
theorem dX8_advance_265 : decode cX8_advance 265 = .ok (.baload, 1) := by decide +kernel
theorem dX8_advance_266 : decode cX8_advance 266 = .ok (.iadd, 1) := by decide +kernel
theorem dX8_advance_267 : decode cX8_advance 267 = .ok (.bipush 48, 2) := by decide +kernel
theorem dX8_advance_269 : decode cX8_advance 269 = .ok (.isub, 1) := by decide +kernel
theorem dX8_advance_270 : decode cX8_advance 270 = .ok (.putfield 43, 3) := by decide +kernel
theorem dX8_advance_273 : decode cX8_advance 273 = .ok (.aload_n 0, 1) := by decide +kernel
theorem dX8_advance_274 : decode cX8_advance 274 = .ok (.dup, 1) := by decide +kernel
theorem dX8_advance_275 : decode cX8_advance 275 = .ok (.getfield 25, 3) := by decide +kernel
theorem dX8_advance_278 : decode cX8_advance 278 = .ok (.iconst 1, 1) := by decide +kernel
theorem dX8_advance_279 : decode cX8_advance 279 = .ok (.iadd, 1) := by decide +kernel
theorem dX8_advance_280 : decode cX8_advance 280 = .ok (.putfield 25, 3) := by decide +kernel
theorem dX8_advance_283 : decode cX8_advance 283 = .ok (.goto (-73), 3) := by decide +kernel
theorem dX8_advance_286 : decode cX8_advance 286 = .ok (.aload_n 0, 1) := by decide +kernel
theorem dX8_advance_287 : decode cX8_advance 287 = .ok (.aload_n 0, 1) := by decide +kernel
theorem dX8_advance_288 : decode cX8_advance 288 = .ok (.getfield 9, 3) := by decide +kernel
theorem dX8_advance_291 : decode cX8_advance 291 = .ok (.aload_n 0, 1) := by decide +kernel
theorem dX8_advance_292 : decode cX8_advance 292 = .ok (.getfield 25, 3) := by decide +kernel
theorem dX8_advance_295 : decode cX8_advance 295 = .ok (.baload, 1) := by decide +kernel
theorem dX8_advance_296 : decode cX8_advance 296 = .ok (.bipush 59, 2) := by decide +kernel
theorem dX8_advance_298 : decode cX8_advance 298 = .ok (.if_icmp .eq 31, 3) := by decide +kernel
theorem dX8_advance_301 : decode cX8_advance 301 = .ok (.aload_n 0, 1) := by decide +kernel
theorem dX8_advance_302 : decode cX8_advance 302 = .ok (.getfield 9, 3) := by decide +kernel
theorem dX8_advance_305 : decode cX8_advance 305 = .ok (.aload_n 0, 1) := by decide +kernel
theorem dX8_advance_306 : decode cX8_advance 306 = .ok (.getfield 25, 3) := by decide +kernel
theorem dX8_advance_309 : decode cX8_advance 309 = .ok (.baload, 1) := by decide +kernel
theorem dX8_advance_310 : decode cX8_advance 310 = .ok (.bipush 123, 2) := by decide +kernel
theorem dX8_advance_312 : decode cX8_advance 312 = .ok (.if_icmp .eq 17, 3) := by decide +kernel
theorem dX8_advance_315 : decode cX8_advance 315 = .ok (.aload_n 0, 1) := by decide +kernel
theorem dX8_advance_316 : decode cX8_advance 316 = .ok (.getfield 9, 3) := by decide +kernel
theorem dX8_advance_319 : decode cX8_advance 319 = .ok (.aload_n 0, 1) := by decide +kernel
theorem dX8_advance_320 : decode cX8_advance 320 = .ok (.getfield 25, 3) := by decide +kernel
theorem dX8_advance_323 : decode cX8_advance 323 = .ok (.baload, 1) := by decide +kernel
theorem dX8_advance_324 : decode cX8_advance 324 = .ok (.bipush 125, 2) := by decide +kernel
theorem dX8_advance_326 : decode cX8_advance 326 = .ok (.if_icmp .ne 7, 3) := by decide +kernel
theorem dX8_advance_329 : decode cX8_advance 329 = .ok (.iconst 3, 1) := by decide +kernel
theorem dX8_advance_330 : decode cX8_advance 330 = .ok (.goto 4, 3) := by decide +kernel
theorem dX8_advance_333 : decode cX8_advance 333 = .ok (.iconst 4, 1) := by decide +kernel
theorem dX8_advance_334 : decode cX8_advance 334 = .ok (.putfield 46, 3) := by decide +kernel
theorem dX8_advance_337 : decode cX8_advance 337 = .ok (.aload_n 0, 1) := by decide +kernel
theorem dX8_advance_338 : decode cX8_advance 338 = .ok (.dup, 1) := by decide +kernel
theorem dX8_advance_339 : decode cX8_advance 339 = .ok (.getfield 25, 3) := by decide +kernel
theorem dX8_advance_342 : decode cX8_advance 342 = .ok (.iconst 1, 1) := by decide +kernel
theorem dX8_advance_343 : decode cX8_advance 343 = .ok (.iadd, 1) := by decide +kernel
theorem dX8_advance_344 : decode cX8_advance 344 = .ok (.putfield 25, 3) := by decide +kernel
theorem dX8_advance_347 : decode cX8_advance 347 = .ok (.aload_n 0, 1) := by decide +kernel
theorem dX8_advance_348 : decode cX8_advance 348 = .ok (.aload_n 0, 1) := by decide +kernel
theorem dX8_advance_349 : decode cX8_advance 349 = .ok (.getfield 25, 3) := by decide +kernel
theorem dX8_advance_352 : decode cX8_advance 352 = .ok (.aload_n 0, 1) := by decide +kernel
theorem dX8_advance_353 : decode cX8_advance 353 = .ok (.getfield 28, 3) := by decide +kernel
theorem dX8_advance_356 : decode cX8_advance 356 = .ok (.isub, 1) := by decide +kernel
theorem dX8_advance_357 : decode cX8_advance 357 = .ok (.putfield 49, 3) := by decide +kernel
theorem dX8_advance_360 : decode cX8_advance 360 = .ok (.return_, 1) := by decide +kernel
theorem dX8_refuse_0 : decode cX8_refuse 0 = .ok (.aload_n 0, 1) := by decide +kernel
theorem dX8_refuse_1 : decode cX8_refuse 1 = .ok (.iload_n 1, 1) := by decide +kernel
theorem dX8_refuse_2 : decode cX8_refuse 2 = .ok (.putfield 31, 3) := by decide +kernel
theorem dX8_refuse_5 : decode cX8_refuse 5 = .ok (.aload_n 0, 1) := by decide +kernel
theorem dX8_refuse_6 : decode cX8_refuse 6 = .ok (.aload_n 0, 1) := by decide +kernel
theorem dX8_refuse_7 : decode cX8_refuse 7 = .ok (.getfield 28, 3) := by decide +kernel
theorem dX8_refuse_10 : decode cX8_refuse 10 = .ok (.putfield 34, 3) := by decide +kernel
theorem dX8_refuse_13 : decode cX8_refuse 13 = .ok (.iconst 0, 1) := by decide +kernel
theorem dX8_refuse_14 : decode cX8_refuse 14 = .ok (.ireturn, 1) := by decide +kernel
theorem dX8_number_0 : decode cX8_number 0 = .ok (.aload_n 0, 1) := by decide +kernel
theorem dX8_number_1 : decode cX8_number 1 = .ok (.getfield 46, 3) := by decide +kernel
theorem dX8_number_4 : decode cX8_number 4 = .ok (.iconst 2, 1) := by decide +kernel
theorem dX8_number_5 : decode cX8_number 5 = .ok (.if_icmp .eq 11, 3) := by decide +kernel
theorem dX8_number_8 : decode cX8_number 8 = .ok (.aload_n 0, 1) := by decide +kernel
theorem dX8_number_9 : decode cX8_number 9 = .ok (.iconst 1, 1) := by decide +kernel
theorem dX8_number_10 : decode cX8_number 10 = .ok (.invokevirtual 61, 3) := by decide +kernel
theorem dX8_number_13 : decode cX8_number 13 = .ok (.pop, 1) := by decide +kernel
theorem dX8_number_14 : decode cX8_number 14 = .ok (.iconst (-1), 1) := by decide +kernel
theorem dX8_number_15 : decode cX8_number 15 = .ok (.ireturn, 1) := by decide +kernel
theorem dX8_number_16 : decode cX8_number 16 = .ok (.aload_n 0, 1) := by decide +kernel
theorem dX8_number_17 : decode cX8_number 17 = .ok (.getfield 49, 3) := by decide +kernel
theorem dX8_number_20 : decode cX8_number 20 = .ok (.iconst 3, 1) := by decide +kernel
theorem dX8_number_21 : decode cX8_number 21 = .ok (.if_icmp .gt 19, 3) := by decide +kernel
theorem dX8_number_24 : decode cX8_number 24 = .ok (.aload_n 0, 1) := by decide +kernel
theorem dX8_number_25 : decode cX8_number 25 = .ok (.getfield 43, 3) := by decide +kernel
theorem dX8_number_28 : decode cX8_number 28 = .ok (.iload_n 1, 1) := by decide +kernel
theorem dX8_number_29 : decode cX8_number 29 = .ok (.if_icmp .lt 11, 3) := by decide +kernel
theorem dX8_number_32 : decode cX8_number 32 = .ok (.aload_n 0, 1) := by decide +kernel
theorem dX8_number_33 : decode cX8_number 33 = .ok (.getfield 43, 3) := by decide +kernel
theorem dX8_number_36 : decode cX8_number 36 = .ok (.iload_n 2, 1) := by decide +kernel
theorem dX8_number_37 : decode cX8_number 37 = .ok (.if_icmp .le 11, 3) := by decide +kernel
theorem dX8_number_40 : decode cX8_number 40 = .ok (.aload_n 0, 1) := by decide +kernel
theorem dX8_number_41 : decode cX8_number 41 = .ok (.iconst 2, 1) := by decide +kernel
theorem dX8_number_42 : decode cX8_number 42 = .ok (.invokevirtual 61, 3) := by decide +kernel
theorem dX8_number_45 : decode cX8_number 45 = .ok (.pop, 1) := by decide +kernel
theorem dX8_number_46 : decode cX8_number 46 = .ok (.iconst (-1), 1) := by decide +kernel
theorem dX8_number_47 : decode cX8_number 47 = .ok (.ireturn, 1) := by decide +kernel
theorem dX8_number_48 : decode cX8_number 48 = .ok (.aload_n 0, 1) := by decide +kernel
theorem dX8_number_49 : decode cX8_number 49 = .ok (.getfield 43, 3) := by decide +kernel
theorem dX8_number_52 : decode cX8_number 52 = .ok (.istore_n 3, 1) := by decide +kernel
theorem dX8_number_53 : decode cX8_number 53 = .ok (.aload_n 0, 1) := by decide +kernel
theorem dX8_number_54 : decode cX8_number 54 = .ok (.invokevirtual 37, 3) := by decide +kernel
theorem dX8_number_57 : decode cX8_number 57 = .ok (.iload_n 3, 1) := by decide +kernel
theorem dX8_number_58 : decode cX8_number 58 = .ok (.ireturn, 1) := by decide +kernel
theorem dX8_refuseBefore_0 : decode cX8_refuseBefore 0 = .ok (.aload_n 0, 1) := by decide +kernel
theorem dX8_refuseBefore_1 : decode cX8_refuseBefore 1 = .ok (.iload_n 1, 1) := by decide +kernel
theorem dX8_refuseBefore_2 : decode cX8_refuseBefore 2 = .ok (.putfield 31, 3) := by decide +kernel
theorem dX8_refuseBefore_5 : decode cX8_refuseBefore 5 = .ok (.aload_n 0, 1) := by decide +kernel
theorem dX8_refuseBefore_6 : decode cX8_refuseBefore 6 = .ok (.aload_n 0, 1) := by decide +kernel
theorem dX8_refuseBefore_7 : decode cX8_refuseBefore 7 = .ok (.getfield 40, 3) := by decide +kernel
theorem dX8_refuseBefore_10 : decode cX8_refuseBefore 10 = .ok (.putfield 34, 3) := by decide +kernel
theorem dX8_refuseBefore_13 : decode cX8_refuseBefore 13 = .ok (.iconst 0, 1) := by decide +kernel
theorem dX8_refuseBefore_14 : decode cX8_refuseBefore 14 = .ok (.ireturn, 1) := by decide +kernel
theorem dX8_open_0 : decode cX8_open 0 = .ok (.aload_n 0, 1) := by decide +kernel
theorem dX8_open_1 : decode cX8_open 1 = .ok (.aload_n 1, 1) := by decide +kernel
theorem dX8_open_2 : decode cX8_open 2 = .ok (.putfield 9, 3) := by decide +kernel
theorem dX8_open_5 : decode cX8_open 5 = .ok (.aload_n 0, 1) := by decide +kernel
theorem dX8_open_6 : decode cX8_open 6 = .ok (.iload_n 2, 1) := by decide +kernel
theorem dX8_open_7 : decode cX8_open 7 = .ok (.aload_n 1, 1) := by decide +kernel
theorem dX8_open_8 : decode cX8_open 8 = .ok (.arraylength, 1) := by decide +kernel
theorem dX8_open_9 : decode cX8_open 9 = .ok (.invokestatic 15, 3) := by decide +kernel
theorem dX8_open_12 : decode cX8_open 12 = .ok (.putfield 21, 3) := by decide +kernel
theorem dX8_open_15 : decode cX8_open 15 = .ok (.aload_n 0, 1) := by decide +kernel
theorem dX8_open_16 : decode cX8_open 16 = .ok (.iconst 0, 1) := by decide +kernel
theorem dX8_open_17 : decode cX8_open 17 = .ok (.putfield 25, 3) := by decide +kernel
theorem dX8_open_20 : decode cX8_open 20 = .ok (.aload_n 0, 1) := by decide +kernel
theorem dX8_open_21 : decode cX8_open 21 = .ok (.iconst 0, 1) := by decide +kernel
theorem dX8_open_22 : decode cX8_open 22 = .ok (.putfield 28, 3) := by decide +kernel
theorem dX8_open_25 : decode cX8_open 25 = .ok (.aload_n 0, 1) := by decide +kernel
theorem dX8_open_26 : decode cX8_open 26 = .ok (.iconst 0, 1) := by decide +kernel
theorem dX8_open_27 : decode cX8_open 27 = .ok (.putfield 31, 3) := by decide +kernel
theorem dX8_open_30 : decode cX8_open 30 = .ok (.aload_n 0, 1) := by decide +kernel
theorem dX8_open_31 : decode cX8_open 31 = .ok (.iconst (-1), 1) := by decide +kernel
theorem dX8_open_32 : decode cX8_open 32 = .ok (.putfield 34, 3) := by decide +kernel
theorem dX8_open_35 : decode cX8_open 35 = .ok (.aload_n 0, 1) := by decide +kernel
theorem dX8_open_36 : decode cX8_open 36 = .ok (.invokevirtual 37, 3) := by decide +kernel
theorem dX8_open_39 : decode cX8_open 39 = .ok (.return_, 1) := by decide +kernel
theorem dX8_isWord_0 : decode cX8_isWord 0 = .ok (.aload_n 0, 1) := by decide +kernel
theorem dX8_isWord_1 : decode cX8_isWord 1 = .ok (.getfield 46, 3) := by decide +kernel
theorem dX8_isWord_4 : decode cX8_isWord 4 = .ok (.iconst 1, 1) := by decide +kernel
theorem dX8_isWord_5 : decode cX8_isWord 5 = .ok (.if_icmp .ne 14, 3) := by decide +kernel
theorem dX8_isWord_8 : decode cX8_isWord 8 = .ok (.aload_n 0, 1) := by decide +kernel
theorem dX8_isWord_9 : decode cX8_isWord 9 = .ok (.getfield 49, 3) := by decide +kernel
theorem dX8_isWord_12 : decode cX8_isWord 12 = .ok (.aload_n 1, 1) := by decide +kernel
theorem dX8_isWord_13 : decode cX8_isWord 13 = .ok (.invokevirtual 52, 3) := by decide +kernel
theorem dX8_isWord_16 : decode cX8_isWord 16 = .ok (.if_icmp .eq 5, 3) := by decide +kernel
theorem dX8_isWord_19 : decode cX8_isWord 19 = .ok (.iconst 0, 1) := by decide +kernel
theorem dX8_isWord_20 : decode cX8_isWord 20 = .ok (.ireturn, 1) := by decide +kernel
theorem dX8_isWord_21 : decode cX8_isWord 21 = .ok (.iconst 0, 1) := by decide +kernel
theorem dX8_isWord_22 : decode cX8_isWord 22 = .ok (.istore_n 2, 1) := by decide +kernel
theorem dX8_isWord_23 : decode cX8_isWord 23 = .ok (.iload_n 2, 1) := by decide +kernel
theorem dX8_isWord_24 : decode cX8_isWord 24 = .ok (.aload_n 0, 1) := by decide +kernel
theorem dX8_isWord_25 : decode cX8_isWord 25 = .ok (.getfield 49, 3) := by decide +kernel
theorem dX8_isWord_28 : decode cX8_isWord 28 = .ok (.if_icmp .ge 30, 3) := by decide +kernel
theorem dX8_isWord_31 : decode cX8_isWord 31 = .ok (.aload_n 0, 1) := by decide +kernel
theorem dX8_isWord_32 : decode cX8_isWord 32 = .ok (.getfield 9, 3) := by decide +kernel
theorem dX8_isWord_35 : decode cX8_isWord 35 = .ok (.aload_n 0, 1) := by decide +kernel
theorem dX8_isWord_36 : decode cX8_isWord 36 = .ok (.getfield 28, 3) := by decide +kernel
theorem dX8_isWord_39 : decode cX8_isWord 39 = .ok (.iload_n 2, 1) := by decide +kernel
theorem dX8_isWord_40 : decode cX8_isWord 40 = .ok (.iadd, 1) := by decide +kernel
theorem dX8_isWord_41 : decode cX8_isWord 41 = .ok (.baload, 1) := by decide +kernel
theorem dX8_isWord_42 : decode cX8_isWord 42 = .ok (.aload_n 1, 1) := by decide +kernel
theorem dX8_isWord_43 : decode cX8_isWord 43 = .ok (.iload_n 2, 1) := by decide +kernel
theorem dX8_isWord_44 : decode cX8_isWord 44 = .ok (.invokevirtual 57, 3) := by decide +kernel
theorem dX8_isWord_47 : decode cX8_isWord 47 = .ok (.if_icmp .eq 5, 3) := by decide +kernel
theorem dX8_isWord_50 : decode cX8_isWord 50 = .ok (.iconst 0, 1) := by decide +kernel
theorem dX8_isWord_51 : decode cX8_isWord 51 = .ok (.ireturn, 1) := by decide +kernel
theorem dX8_isWord_52 : decode cX8_isWord 52 = .ok (.iinc 2 1, 3) := by decide +kernel
theorem dX8_isWord_55 : decode cX8_isWord 55 = .ok (.goto (-32), 3) := by decide +kernel
theorem dX8_isWord_58 : decode cX8_isWord 58 = .ok (.iconst 1, 1) := by decide +kernel
theorem dX8_isWord_59 : decode cX8_isWord 59 = .ok (.ireturn, 1) := by decide +kernel
theorem dX8_isSign_0 : decode cX8_isSign 0 = .ok (.aload_n 0, 1) := by decide +kernel
theorem dX8_isSign_1 : decode cX8_isSign 1 = .ok (.getfield 46, 3) := by decide +kernel
theorem dX8_isSign_4 : decode cX8_isSign 4 = .ok (.iconst 3, 1) := by decide +kernel
theorem dX8_isSign_5 : decode cX8_isSign 5 = .ok (.if_icmp .ne 20, 3) := by decide +kernel
theorem dX8_isSign_8 : decode cX8_isSign 8 = .ok (.aload_n 0, 1) := by decide +kernel
theorem dX8_isSign_9 : decode cX8_isSign 9 = .ok (.getfield 9, 3) := by decide +kernel
theorem dX8_isSign_12 : decode cX8_isSign 12 = .ok (.aload_n 0, 1) := by decide +kernel
theorem dX8_isSign_13 : decode cX8_isSign 13 = .ok (.getfield 28, 3) := by decide +kernel
theorem dX8_isSign_16 : decode cX8_isSign 16 = .ok (.baload, 1) := by decide +kernel
theorem dX8_isSign_17 : decode cX8_isSign 17 = .ok (.iload_n 1, 1) := by decide +kernel
theorem dX8_isSign_18 : decode cX8_isSign 18 = .ok (.if_icmp .ne 7, 3) := by decide +kernel
theorem dX8_isSign_21 : decode cX8_isSign 21 = .ok (.iconst 1, 1) := by decide +kernel
theorem dX8_isSign_22 : decode cX8_isSign 22 = .ok (.goto 4, 3) := by decide +kernel
theorem dX8_isSign_25 : decode cX8_isSign 25 = .ok (.iconst 0, 1) := by decide +kernel
theorem dX8_isSign_26 : decode cX8_isSign 26 = .ok (.ireturn, 1) := by decide +kernel
theorem dX8_passSign_0 : decode cX8_passSign 0 = .ok (.aload_n 0, 1) := by decide +kernel
theorem dX8_passSign_1 : decode cX8_passSign 1 = .ok (.iload_n 1, 1) := by decide +kernel
theorem dX8_passSign_2 : decode cX8_passSign 2 = .ok (.invokevirtual 65, 3) := by decide +kernel
theorem dX8_passSign_5 : decode cX8_passSign 5 = .ok (.ifCond .ne 9, 3) := by decide +kernel
theorem dX8_passSign_8 : decode cX8_passSign 8 = .ok (.aload_n 0, 1) := by decide +kernel
theorem dX8_passSign_9 : decode cX8_passSign 9 = .ok (.iconst 1, 1) := by decide +kernel
theorem dX8_passSign_10 : decode cX8_passSign 10 = .ok (.invokevirtual 61, 3) := by decide +kernel
theorem dX8_passSign_13 : decode cX8_passSign 13 = .ok (.ireturn, 1) := by decide +kernel
theorem dX8_passSign_14 : decode cX8_passSign 14 = .ok (.aload_n 0, 1) := by decide +kernel
theorem dX8_passSign_15 : decode cX8_passSign 15 = .ok (.invokevirtual 37, 3) := by decide +kernel
theorem dX8_passSign_18 : decode cX8_passSign 18 = .ok (.iconst 1, 1) := by decide +kernel
theorem dX8_passSign_19 : decode cX8_passSign 19 = .ok (.ireturn, 1) := by decide +kernel
def wpX8_advance_J47 (sR : AR) (R_text : AR) (kb : AR → Prop) (kx60 : AR → Prop) (post : AR → Prop) : Prop := ∀ f2_54 : Int32, f2_54 = ((sR 2) + (1 : Int32)) → kb (upd sR 2 f2_54)
def wpX8_advance_L8 (R_text : AR) (kx60 : AR → Prop) (post : AR → Prop) : Nat → AR → Prop
  | 0, _ => False
  | nf8 + 1, sR => (((sR 1) ≤ (sR 2) → kx60 sR) ∧ (¬ (sR 1) ≤ (sR 2) → vp_in (sR 2) 500 ∧ (((R_text (sR 2).toNatClampNeg) = (32 : Int32) → wpX8_advance_J47 sR R_text (fun b0 => wpX8_advance_L8 R_text kx60 post nf8 b0) kx60 post) ∧ (¬ (R_text (sR 2).toNatClampNeg) = (32 : Int32) → vp_in (sR 2) 500 ∧ ((¬ (R_text (sR 2).toNatClampNeg) = (10 : Int32) → kx60 sR) ∧ ((R_text (sR 2).toNatClampNeg) = (10 : Int32) → wpX8_advance_J47 sR R_text (fun b0 => wpX8_advance_L8 R_text kx60 post nf8 b0) kx60 post))))))
def wpX8_advance_J347 (sR : AR) (R_text : AR) (post : AR → Prop) : Prop := ∀ f4_357 : Int32, f4_357 = ((sR 2) - (sR 5)) → post (upd sR 4 f4_357)
def wpX8_advance_J334 (sR : AR) (R_text : AR) (t1 : Int32) (post : AR → Prop) : Prop := ∀ f2_344 : Int32, f2_344 = ((sR 2) + (1 : Int32)) → wpX8_advance_J347 (upd (upd sR 7 t1) 2 f2_344) R_text post
def wpX8_advance_J286 (sR : AR) (R_text : AR) (post : AR → Prop) : Prop := vp_in (sR 2) 500 ∧ (((R_text (sR 2).toNatClampNeg) = (59 : Int32) → wpX8_advance_J334 sR R_text (3 : Int32) post) ∧ (¬ (R_text (sR 2).toNatClampNeg) = (59 : Int32) → vp_in (sR 2) 500 ∧ (((R_text (sR 2).toNatClampNeg) = (123 : Int32) → wpX8_advance_J334 sR R_text (3 : Int32) post) ∧ (¬ (R_text (sR 2).toNatClampNeg) = (123 : Int32) → vp_in (sR 2) 500 ∧ ((¬ (R_text (sR 2).toNatClampNeg) = (125 : Int32) → wpX8_advance_J334 sR R_text (4 : Int32) post) ∧ ((R_text (sR 2).toNatClampNeg) = (125 : Int32) → wpX8_advance_J334 sR R_text (3 : Int32) post))))))
def wpX8_advance_L210 (R_text : AR) (kx347 : AR → Prop) (post : AR → Prop) : Nat → AR → Prop
  | 0, _ => False
  | nf210 + 1, sR => (((sR 1) ≤ (sR 2) → kx347 sR) ∧ (¬ (sR 1) ≤ (sR 2) → vp_in (sR 2) 500 ∧ (((R_text (sR 2).toNatClampNeg) < (48 : Int32) → kx347 sR) ∧ (¬ (R_text (sR 2).toNatClampNeg) < (48 : Int32) → vp_in (sR 2) 500 ∧ (((57 : Int32) < (R_text (sR 2).toNatClampNeg) → kx347 sR) ∧ (¬ (57 : Int32) < (R_text (sR 2).toNatClampNeg) → vp_in (sR 2) 500 ∧ ∀ f3_270 : Int32, f3_270 = ((((sR 3) * (10 : Int32)) + (R_text (sR 2).toNatClampNeg)) - (48 : Int32)) → ∀ f2_280 : Int32, f2_280 = ((sR 2) + (1 : Int32)) → wpX8_advance_L210 R_text kx347 post nf210 (upd (upd sR 3 f3_270) 2 f2_280)))))))
def wpX8_advance_J177 (sR : AR) (R_text : AR) (post : AR → Prop) : Prop := vp_in (sR 2) 500 ∧ (((R_text (sR 2).toNatClampNeg) < (48 : Int32) → wpX8_advance_J286 sR R_text post) ∧ (¬ (R_text (sR 2).toNatClampNeg) < (48 : Int32) → vp_in (sR 2) 500 ∧ (((57 : Int32) < (R_text (sR 2).toNatClampNeg) → wpX8_advance_J286 sR R_text post) ∧ (¬ (57 : Int32) < (R_text (sR 2).toNatClampNeg) → ∃ nf210 : Nat, wpX8_advance_L210 R_text (fun sR_347 => wpX8_advance_J347 sR_347 R_text post) post nf210 (upd sR 7 (2 : Int32))))))
def wpX8_advance_L125 (R_text : AR) (kx347 : AR → Prop) (post : AR → Prop) : Nat → AR → Prop
  | 0, _ => False
  | nf125 + 1, sR => (((sR 1) ≤ (sR 2) → kx347 sR) ∧ (¬ (sR 1) ≤ (sR 2) → vp_in (sR 2) 500 ∧ (((R_text (sR 2).toNatClampNeg) < (97 : Int32) → kx347 sR) ∧ (¬ (R_text (sR 2).toNatClampNeg) < (97 : Int32) → vp_in (sR 2) 500 ∧ (((122 : Int32) < (R_text (sR 2).toNatClampNeg) → kx347 sR) ∧ (¬ (122 : Int32) < (R_text (sR 2).toNatClampNeg) → ∀ f2_171 : Int32, f2_171 = ((sR 2) + (1 : Int32)) → wpX8_advance_L125 R_text kx347 post nf125 (upd sR 2 f2_171)))))))
def wpX8_advance_J60 (sR : AR) (R_text : AR) (post : AR → Prop) : Prop := ∀ f5_65 : Int32, f5_65 = (sR 2) → (((sR 2) < (sR 1) → vp_in (sR 2) 500 ∧ (((R_text (sR 2).toNatClampNeg) < (97 : Int32) → wpX8_advance_J177 (upd (upd sR 5 f5_65) 3 (0 : Int32)) R_text post) ∧ (¬ (R_text (sR 2).toNatClampNeg) < (97 : Int32) → vp_in (sR 2) 500 ∧ (((122 : Int32) < (R_text (sR 2).toNatClampNeg) → wpX8_advance_J177 (upd (upd sR 5 f5_65) 3 (0 : Int32)) R_text post) ∧ (¬ (122 : Int32) < (R_text (sR 2).toNatClampNeg) → ∃ nf125 : Nat, wpX8_advance_L125 R_text (fun sR_347 => wpX8_advance_J347 sR_347 R_text post) post nf125 (upd (upd (upd sR 5 f5_65) 3 (0 : Int32)) 7 (1 : Int32))))))) ∧ (¬ (sR 2) < (sR 1) → wpX8_advance_J347 (upd (upd (upd sR 5 f5_65) 3 (0 : Int32)) 7 (0 : Int32)) R_text post))
def wpX8_advance (sR : AR) (R_text : AR) (post : AR → Prop) : Prop := ∀ f6_5 : Int32, f6_5 = (sR 5) → ∃ nf8 : Nat, wpX8_advance_L8 R_text (fun sR_60 => wpX8_advance_J60 sR_60 R_text post) post nf8 (upd sR 6 f6_5)
set_option maxHeartbeats 4000000 in
set_option maxRecDepth 100000 in
theorem ctX8_advance (l : Launch) (D : va_G) (cy : Nat → ClassId) (ev : Nat → Nat) (h0 : Nat) (rR : Nat → Nat) (sR : AR) (R_text : AR) (sz : Nat) (post : AR → Prop) (h : wpX8_advance sR R_text post) : Met l yX8_advance (Cond.code yX8_advance cX8_advance 1 none :: TB) ({ frames := 0, cells := 0, slots := 0, locals := 0 }) (va_Pc [.ref h0] (PreX D cy ev [(h0, .inr (8, oX8 rR sR)), ((rR 0), .inl (cy 1, 500, .inl R_text))] sz)) (va_Qv (fun (u : AR) => post u) (fun u => BkX D cy [(h0, .inr (8, oX8 rR sR)), ((rR 0), .inl (cy 1, 500, .inl R_text))] sz [(h0, .inr (8, oX8 rR u)), ((rR 0), .inl (cy 1, 500, .inl R_text))]) (va_A [(h0, .inr (8, oX8 rR sR)), ((rR 0), .inl (cy 1, 500, .inl R_text))] sz)) 0 0 (va_A [(h0, .inr (8, oX8 rR sR)), ((rR 0), .inl (cy 1, 500, .inl R_text))] sz) := by
  refine ofWv (by decide) (Nat.le_of_ble_eq_true rfl) ?_
  intro p e s m args below meth c ls A R QQ hx hb hml hown hts hR hlk hE hK hP hD hS hA hl hret
  have hown : s.vm.findClass RX8 = some m.cls := hown
  have hRf : 0 ≤ R.frames := by rw [hR]; exact Nat.le_refl _
  have hRl : 0 ≤ R.locals := by rw [hR]; exact Nat.le_refl _
  clear hR
  have hl : lv_has ls 1 [(0, .ref h0)] := hl
  have J60 : ∀ (sR : AR) (H : Heap) (locs : List Loc) (ls : Array Slot), wpX8_advance_J60 sR R_text post → va_P D clsX [(h0, .inr (8, oX8 rR sR)), ((rR 0), .inl (cy 1, 500, .inl R_text))] H → va_D A [(h0, .inr (8, oX8 rR sR)), ((rR 0), .inl (cy 1, 500, .inl R_text))] → va_S A s.heap H locs → lv_has ls 1 [(0, .ref h0)] → W p l e R s m args below meth c H locs 0 0 QQ (F0 m 60 ls []) := by
    intro sR H locs ls h hP hD hS hl
    have J347 : ∀ (sR : AR) (H : Heap) (locs : List Loc) (ls : Array Slot), wpX8_advance_J347 sR R_text post → va_P D clsX [(h0, .inr (8, oX8 rR sR)), ((rR 0), .inl (cy 1, 500, .inl R_text))] H → va_D A [(h0, .inr (8, oX8 rR sR)), ((rR 0), .inl (cy 1, 500, .inl R_text))] → va_S A s.heap H locs → lv_has ls 1 [(0, .ref h0)] → W p l e R s m args below meth c H locs 0 0 QQ (F0 m 347 ls []) := by
      intro sR H locs ls h hP hD hS hl
      refine lv_aload_n hx hb dX8_advance_347 rfl (lv_at hl 0 rfl) ?_
      refine lv_aload_n hx hb dX8_advance_348 rfl (lv_at hl 0 rfl) ?_
      refine gfX8_25 (v := (sR 2)) hx hb hts hown hK hP 0 rfl rfl dX8_advance_349 ?_
      refine lv_aload_n hx hb dX8_advance_352 rfl (lv_at hl 0 rfl) ?_
      refine gfX8_28 (v := (sR 5)) hx hb hts hown hK hP 0 rfl rfl dX8_advance_353 ?_
      refine lv_isub hx hb dX8_advance_356 ?_
      refine lv_topi (fun f4_357 ef4_357 => ?_)
      have h := h f4_357 ef4_357
      refine pfX8_49 hx hb hts hown hK hP hD hS 0 rfl dX8_advance_357 (fun H locs hP hD hS => ?_)
      have hP : va_P D clsX [(h0, .inr (8, oX8 rR (upd sR 4 f4_357))), ((rR 0), .inl (cy 1, 500, .inl R_text))] H := hP
      have hD : va_D A [(h0, .inr (8, oX8 rR (upd sR 4 f4_357))), ((rR 0), .inl (cy 1, 500, .inl R_text))] := hD
      exact hret ((upd sR 4 f4_357)) _ _ _ _ dX8_advance_360 h hP hD hS
    have J177 : ∀ (sR : AR) (H : Heap) (locs : List Loc) (ls : Array Slot), wpX8_advance_J177 sR R_text post → va_P D clsX [(h0, .inr (8, oX8 rR sR)), ((rR 0), .inl (cy 1, 500, .inl R_text))] H → va_D A [(h0, .inr (8, oX8 rR sR)), ((rR 0), .inl (cy 1, 500, .inl R_text))] → va_S A s.heap H locs → lv_has ls 1 [(0, .ref h0)] → W p l e R s m args below meth c H locs 0 0 QQ (F0 m 177 ls []) := by
      intro sR H locs ls h hP hD hS hl
      have J286 : ∀ (sR : AR) (H : Heap) (locs : List Loc) (ls : Array Slot), wpX8_advance_J286 sR R_text post → va_P D clsX [(h0, .inr (8, oX8 rR sR)), ((rR 0), .inl (cy 1, 500, .inl R_text))] H → va_D A [(h0, .inr (8, oX8 rR sR)), ((rR 0), .inl (cy 1, 500, .inl R_text))] → va_S A s.heap H locs → lv_has ls 1 [(0, .ref h0)] → W p l e R s m args below meth c H locs 0 0 QQ (F0 m 286 ls []) := by
        intro sR H locs ls h hP hD hS hl
        have J334 : ∀ (sR : AR) (t1 : Int32) (H : Heap) (locs : List Loc) (ls : Array Slot), wpX8_advance_J334 sR R_text t1 post → va_P D clsX [(h0, .inr (8, oX8 rR sR)), ((rR 0), .inl (cy 1, 500, .inl R_text))] H → va_D A [(h0, .inr (8, oX8 rR sR)), ((rR 0), .inl (cy 1, 500, .inl R_text))] → va_S A s.heap H locs → lv_has ls 1 [(0, .ref h0)] → W p l e R s m args below meth c H locs 0 0 QQ (F0 m 334 ls [.int t1, .ref h0]) := by
          intro sR t1 H locs ls h hP hD hS hl
          refine pfX8_46 hx hb hts hown hK hP hD hS 0 rfl dX8_advance_334 (fun H locs hP hD hS => ?_)
          have hP : va_P D clsX [(h0, .inr (8, oX8 rR (upd sR 7 t1))), ((rR 0), .inl (cy 1, 500, .inl R_text))] H := hP
          have hD : va_D A [(h0, .inr (8, oX8 rR (upd sR 7 t1))), ((rR 0), .inl (cy 1, 500, .inl R_text))] := hD
          refine lv_aload_n hx hb dX8_advance_337 rfl (lv_at hl 0 rfl) ?_
          refine lv_dup hx hb dX8_advance_338 rfl ?_
          refine gfX8_25 (v := (sR 2)) hx hb hts hown hK hP 0 rfl rfl dX8_advance_339 ?_
          refine lv_iconst (v := (1 : Int32)) hx hb dX8_advance_342 (by decide) ?_
          refine lv_iadd hx hb dX8_advance_343 ?_
          refine lv_topi (fun f2_344 ef2_344 => ?_)
          have h := h f2_344 ef2_344
          refine pfX8_25 hx hb hts hown hK hP hD hS 0 rfl dX8_advance_344 (fun H locs hP hD hS => ?_)
          have hP : va_P D clsX [(h0, .inr (8, oX8 rR (upd (upd sR 7 t1) 2 f2_344))), ((rR 0), .inl (cy 1, 500, .inl R_text))] H := hP
          have hD : va_D A [(h0, .inr (8, oX8 rR (upd (upd sR 7 t1) 2 f2_344))), ((rR 0), .inl (cy 1, 500, .inl R_text))] := hD
          exact J347 (upd (upd sR 7 t1) 2 f2_344) _ _ _ h hP hD hS hl
        refine lv_aload_n hx hb dX8_advance_286 rfl (lv_at hl 0 rfl) ?_
        refine lv_aload_n hx hb dX8_advance_287 rfl (lv_at hl 0 rfl) ?_
        refine gfX8_9 hx hb hts hown hK hP 0 rfl dX8_advance_288 ?_
        refine lv_aload_n hx hb dX8_advance_291 rfl (lv_at hl 0 rfl) ?_
        refine gfX8_25 (v := (sR 2)) hx hb hts hown hK hP 0 rfl rfl dX8_advance_292 ?_
        obtain ⟨hin, h⟩ := h
        refine ldb (k := (sR 2).toNatClampNeg) hx hb hK hP 1 rfl hin rfl dX8_advance_295 ?_
        refine lv_bipush (v := (59 : Int32)) hx hb dX8_advance_296 (by decide) ?_
        refine lv_icmp_eq (tgt := 329) hx hb dX8_advance_298 (by decide) (fun c298 => ?_) (fun c298 => ?_)
        · have h := h.1 c298
          refine lv_iconst (v := (3 : Int32)) hx hb dX8_advance_329 (by decide) ?_
          refine lv_goto (tgt := 334) hx hb dX8_advance_330 (by decide) ?_
          exact J334 sR (3 : Int32) _ _ _ h hP hD hS hl
        · have h := h.2 c298
          refine lv_aload_n hx hb dX8_advance_301 rfl (lv_at hl 0 rfl) ?_
          refine gfX8_9 hx hb hts hown hK hP 0 rfl dX8_advance_302 ?_
          refine lv_aload_n hx hb dX8_advance_305 rfl (lv_at hl 0 rfl) ?_
          refine gfX8_25 (v := (sR 2)) hx hb hts hown hK hP 0 rfl rfl dX8_advance_306 ?_
          obtain ⟨hin, h⟩ := h
          refine ldb (k := (sR 2).toNatClampNeg) hx hb hK hP 1 rfl hin rfl dX8_advance_309 ?_
          refine lv_bipush (v := (123 : Int32)) hx hb dX8_advance_310 (by decide) ?_
          refine lv_icmp_eq (tgt := 329) hx hb dX8_advance_312 (by decide) (fun c312 => ?_) (fun c312 => ?_)
          · have h := h.1 c312
            refine lv_iconst (v := (3 : Int32)) hx hb dX8_advance_329 (by decide) ?_
            refine lv_goto (tgt := 334) hx hb dX8_advance_330 (by decide) ?_
            exact J334 sR (3 : Int32) _ _ _ h hP hD hS hl
          · have h := h.2 c312
            refine lv_aload_n hx hb dX8_advance_315 rfl (lv_at hl 0 rfl) ?_
            refine gfX8_9 hx hb hts hown hK hP 0 rfl dX8_advance_316 ?_
            refine lv_aload_n hx hb dX8_advance_319 rfl (lv_at hl 0 rfl) ?_
            refine gfX8_25 (v := (sR 2)) hx hb hts hown hK hP 0 rfl rfl dX8_advance_320 ?_
            obtain ⟨hin, h⟩ := h
            refine ldb (k := (sR 2).toNatClampNeg) hx hb hK hP 1 rfl hin rfl dX8_advance_323 ?_
            refine lv_bipush (v := (125 : Int32)) hx hb dX8_advance_324 (by decide) ?_
            refine lv_icmp_ne (tgt := 333) hx hb dX8_advance_326 (by decide) (fun c326 => ?_) (fun c326 => ?_)
            · have h := h.1 c326
              refine lv_iconst (v := (4 : Int32)) hx hb dX8_advance_333 (by decide) ?_
              exact J334 sR (4 : Int32) _ _ _ h hP hD hS hl
            · have h := h.2 c326
              refine lv_iconst (v := (3 : Int32)) hx hb dX8_advance_329 (by decide) ?_
              refine lv_goto (tgt := 334) hx hb dX8_advance_330 (by decide) ?_
              exact J334 sR (3 : Int32) _ _ _ h hP hD hS hl
      have L210 : ∀ (kx347 : AR → Prop), (∀ (sR : AR) (H : Heap) (locs : List Loc) (ls : Array Slot), kx347 sR → va_P D clsX [(h0, .inr (8, oX8 rR sR)), ((rR 0), .inl (cy 1, 500, .inl R_text))] H → va_D A [(h0, .inr (8, oX8 rR sR)), ((rR 0), .inl (cy 1, 500, .inl R_text))] → va_S A s.heap H locs → lv_has ls 1 [(0, .ref h0)] → W p l e R s m args below meth c H locs 0 0 QQ (F0 m 347 ls [])) → ∀ (nf210 : Nat) (sR : AR) (H : Heap) (locs : List Loc) (ls : Array Slot), wpX8_advance_L210 R_text kx347 post nf210 sR → va_P D clsX [(h0, .inr (8, oX8 rR sR)), ((rR 0), .inl (cy 1, 500, .inl R_text))] H → va_D A [(h0, .inr (8, oX8 rR sR)), ((rR 0), .inl (cy 1, 500, .inl R_text))] → va_S A s.heap H locs → lv_has ls 1 [(0, .ref h0)] → W p l e R s m args below meth c H locs 0 0 QQ (F0 m 210 ls []) := by
        intro kx347 hk210_347 nf210
        induction nf210 with
        | zero =>
          intro sR H locs ls h
          exact (show False from h).elim
        | succ nf210 ih210 =>
          intro sR H locs ls h hP hD hS hl
          refine lv_aload_n hx hb dX8_advance_210 rfl (lv_at hl 0 rfl) ?_
          refine gfX8_25 (v := (sR 2)) hx hb hts hown hK hP 0 rfl rfl dX8_advance_211 ?_
          refine lv_aload_n hx hb dX8_advance_214 rfl (lv_at hl 0 rfl) ?_
          refine gfX8_21 (v := (sR 1)) hx hb hts hown hK hP 0 rfl rfl dX8_advance_215 ?_
          refine lv_icmp_ge (tgt := 347) hx hb dX8_advance_218 (by decide) (fun c218 => ?_) (fun c218 => ?_)
          · have h := h.1 c218
            exact hk210_347 sR _ _ _ h hP hD hS hl
          · have h := h.2 c218
            refine lv_aload_n hx hb dX8_advance_221 rfl (lv_at hl 0 rfl) ?_
            refine gfX8_9 hx hb hts hown hK hP 0 rfl dX8_advance_222 ?_
            refine lv_aload_n hx hb dX8_advance_225 rfl (lv_at hl 0 rfl) ?_
            refine gfX8_25 (v := (sR 2)) hx hb hts hown hK hP 0 rfl rfl dX8_advance_226 ?_
            obtain ⟨hin, h⟩ := h
            refine ldb (k := (sR 2).toNatClampNeg) hx hb hK hP 1 rfl hin rfl dX8_advance_229 ?_
            refine lv_bipush (v := (48 : Int32)) hx hb dX8_advance_230 (by decide) ?_
            refine lv_icmp_lt (tgt := 347) hx hb dX8_advance_232 (by decide) (fun c232 => ?_) (fun c232 => ?_)
            · have h := h.1 c232
              exact hk210_347 sR _ _ _ h hP hD hS hl
            · have h := h.2 c232
              refine lv_aload_n hx hb dX8_advance_235 rfl (lv_at hl 0 rfl) ?_
              refine gfX8_9 hx hb hts hown hK hP 0 rfl dX8_advance_236 ?_
              refine lv_aload_n hx hb dX8_advance_239 rfl (lv_at hl 0 rfl) ?_
              refine gfX8_25 (v := (sR 2)) hx hb hts hown hK hP 0 rfl rfl dX8_advance_240 ?_
              obtain ⟨hin, h⟩ := h
              refine ldb (k := (sR 2).toNatClampNeg) hx hb hK hP 1 rfl hin rfl dX8_advance_243 ?_
              refine lv_bipush (v := (57 : Int32)) hx hb dX8_advance_244 (by decide) ?_
              refine lv_icmp_gt (tgt := 347) hx hb dX8_advance_246 (by decide) (fun c246 => ?_) (fun c246 => ?_)
              · have h := h.1 c246
                exact hk210_347 sR _ _ _ h hP hD hS hl
              · have h := h.2 c246
                refine lv_aload_n hx hb dX8_advance_249 rfl (lv_at hl 0 rfl) ?_
                refine lv_aload_n hx hb dX8_advance_250 rfl (lv_at hl 0 rfl) ?_
                refine gfX8_43 (v := (sR 3)) hx hb hts hown hK hP 0 rfl rfl dX8_advance_251 ?_
                refine lv_bipush (v := (10 : Int32)) hx hb dX8_advance_254 (by decide) ?_
                refine lv_imul hx hb dX8_advance_256 ?_
                refine lv_aload_n hx hb dX8_advance_257 rfl (lv_at hl 0 rfl) ?_
                refine gfX8_9 hx hb hts hown hK hP 0 rfl dX8_advance_258 ?_
                refine lv_aload_n hx hb dX8_advance_261 rfl (lv_at hl 0 rfl) ?_
                refine gfX8_25 (v := (sR 2)) hx hb hts hown hK hP 0 rfl rfl dX8_advance_262 ?_
                obtain ⟨hin, h⟩ := h
                refine ldb (k := (sR 2).toNatClampNeg) hx hb hK hP 1 rfl hin rfl dX8_advance_265 ?_
                refine lv_iadd hx hb dX8_advance_266 ?_
                refine lv_bipush (v := (48 : Int32)) hx hb dX8_advance_267 (by decide) ?_
                refine lv_isub hx hb dX8_advance_269 ?_
                refine lv_topi (fun f3_270 ef3_270 => ?_)
                have h := h f3_270 ef3_270
                refine pfX8_43 hx hb hts hown hK hP hD hS 0 rfl dX8_advance_270 (fun H locs hP hD hS => ?_)
                have hP : va_P D clsX [(h0, .inr (8, oX8 rR (upd sR 3 f3_270))), ((rR 0), .inl (cy 1, 500, .inl R_text))] H := hP
                have hD : va_D A [(h0, .inr (8, oX8 rR (upd sR 3 f3_270))), ((rR 0), .inl (cy 1, 500, .inl R_text))] := hD
                refine lv_aload_n hx hb dX8_advance_273 rfl (lv_at hl 0 rfl) ?_
                refine lv_dup hx hb dX8_advance_274 rfl ?_
                refine gfX8_25 (v := (sR 2)) hx hb hts hown hK hP 0 rfl rfl dX8_advance_275 ?_
                refine lv_iconst (v := (1 : Int32)) hx hb dX8_advance_278 (by decide) ?_
                refine lv_iadd hx hb dX8_advance_279 ?_
                refine lv_topi (fun f2_280 ef2_280 => ?_)
                have h := h f2_280 ef2_280
                refine pfX8_25 hx hb hts hown hK hP hD hS 0 rfl dX8_advance_280 (fun H locs hP hD hS => ?_)
                have hP : va_P D clsX [(h0, .inr (8, oX8 rR (upd (upd sR 3 f3_270) 2 f2_280))), ((rR 0), .inl (cy 1, 500, .inl R_text))] H := hP
                have hD : va_D A [(h0, .inr (8, oX8 rR (upd (upd sR 3 f3_270) 2 f2_280))), ((rR 0), .inl (cy 1, 500, .inl R_text))] := hD
                refine lv_goto (tgt := 210) hx hb dX8_advance_283 (by decide) ?_
                exact ih210 (upd (upd sR 3 f3_270) 2 f2_280) _ _ _ h hP hD hS hl
      refine lv_aload_n hx hb dX8_advance_177 rfl (lv_at hl 0 rfl) ?_
      refine gfX8_9 hx hb hts hown hK hP 0 rfl dX8_advance_178 ?_
      refine lv_aload_n hx hb dX8_advance_181 rfl (lv_at hl 0 rfl) ?_
      refine gfX8_25 (v := (sR 2)) hx hb hts hown hK hP 0 rfl rfl dX8_advance_182 ?_
      obtain ⟨hin, h⟩ := h
      refine ldb (k := (sR 2).toNatClampNeg) hx hb hK hP 1 rfl hin rfl dX8_advance_185 ?_
      refine lv_bipush (v := (48 : Int32)) hx hb dX8_advance_186 (by decide) ?_
      refine lv_icmp_lt (tgt := 286) hx hb dX8_advance_188 (by decide) (fun c188 => ?_) (fun c188 => ?_)
      · have h := h.1 c188
        exact J286 sR _ _ _ h hP hD hS hl
      · have h := h.2 c188
        refine lv_aload_n hx hb dX8_advance_191 rfl (lv_at hl 0 rfl) ?_
        refine gfX8_9 hx hb hts hown hK hP 0 rfl dX8_advance_192 ?_
        refine lv_aload_n hx hb dX8_advance_195 rfl (lv_at hl 0 rfl) ?_
        refine gfX8_25 (v := (sR 2)) hx hb hts hown hK hP 0 rfl rfl dX8_advance_196 ?_
        obtain ⟨hin, h⟩ := h
        refine ldb (k := (sR 2).toNatClampNeg) hx hb hK hP 1 rfl hin rfl dX8_advance_199 ?_
        refine lv_bipush (v := (57 : Int32)) hx hb dX8_advance_200 (by decide) ?_
        refine lv_icmp_gt (tgt := 286) hx hb dX8_advance_202 (by decide) (fun c202 => ?_) (fun c202 => ?_)
        · have h := h.1 c202
          exact J286 sR _ _ _ h hP hD hS hl
        · have h := h.2 c202
          refine lv_aload_n hx hb dX8_advance_205 rfl (lv_at hl 0 rfl) ?_
          refine lv_iconst (v := (2 : Int32)) hx hb dX8_advance_206 (by decide) ?_
          refine pfX8_46 hx hb hts hown hK hP hD hS 0 rfl dX8_advance_207 (fun H locs hP hD hS => ?_)
          have hP : va_P D clsX [(h0, .inr (8, oX8 rR (upd sR 7 (2 : Int32)))), ((rR 0), .inl (cy 1, 500, .inl R_text))] H := hP
          have hD : va_D A [(h0, .inr (8, oX8 rR (upd sR 7 (2 : Int32)))), ((rR 0), .inl (cy 1, 500, .inl R_text))] := hD
          obtain ⟨nf210, h⟩ := h
          refine L210  _ (fun sR_347 H locs ls h hP hD hS hl => ?_) nf210 (upd sR 7 (2 : Int32)) _ _ _ h hP hD hS hl
          exact J347 sR_347 _ _ _ h hP hD hS hl
    have L125 : ∀ (kx347 : AR → Prop), (∀ (sR : AR) (H : Heap) (locs : List Loc) (ls : Array Slot), kx347 sR → va_P D clsX [(h0, .inr (8, oX8 rR sR)), ((rR 0), .inl (cy 1, 500, .inl R_text))] H → va_D A [(h0, .inr (8, oX8 rR sR)), ((rR 0), .inl (cy 1, 500, .inl R_text))] → va_S A s.heap H locs → lv_has ls 1 [(0, .ref h0)] → W p l e R s m args below meth c H locs 0 0 QQ (F0 m 347 ls [])) → ∀ (nf125 : Nat) (sR : AR) (H : Heap) (locs : List Loc) (ls : Array Slot), wpX8_advance_L125 R_text kx347 post nf125 sR → va_P D clsX [(h0, .inr (8, oX8 rR sR)), ((rR 0), .inl (cy 1, 500, .inl R_text))] H → va_D A [(h0, .inr (8, oX8 rR sR)), ((rR 0), .inl (cy 1, 500, .inl R_text))] → va_S A s.heap H locs → lv_has ls 1 [(0, .ref h0)] → W p l e R s m args below meth c H locs 0 0 QQ (F0 m 125 ls []) := by
      intro kx347 hk125_347 nf125
      induction nf125 with
      | zero =>
        intro sR H locs ls h
        exact (show False from h).elim
      | succ nf125 ih125 =>
        intro sR H locs ls h hP hD hS hl
        refine lv_aload_n hx hb dX8_advance_125 rfl (lv_at hl 0 rfl) ?_
        refine gfX8_25 (v := (sR 2)) hx hb hts hown hK hP 0 rfl rfl dX8_advance_126 ?_
        refine lv_aload_n hx hb dX8_advance_129 rfl (lv_at hl 0 rfl) ?_
        refine gfX8_21 (v := (sR 1)) hx hb hts hown hK hP 0 rfl rfl dX8_advance_130 ?_
        refine lv_icmp_ge (tgt := 347) hx hb dX8_advance_133 (by decide) (fun c133 => ?_) (fun c133 => ?_)
        · have h := h.1 c133
          exact hk125_347 sR _ _ _ h hP hD hS hl
        · have h := h.2 c133
          refine lv_aload_n hx hb dX8_advance_136 rfl (lv_at hl 0 rfl) ?_
          refine gfX8_9 hx hb hts hown hK hP 0 rfl dX8_advance_137 ?_
          refine lv_aload_n hx hb dX8_advance_140 rfl (lv_at hl 0 rfl) ?_
          refine gfX8_25 (v := (sR 2)) hx hb hts hown hK hP 0 rfl rfl dX8_advance_141 ?_
          obtain ⟨hin, h⟩ := h
          refine ldb (k := (sR 2).toNatClampNeg) hx hb hK hP 1 rfl hin rfl dX8_advance_144 ?_
          refine lv_bipush (v := (97 : Int32)) hx hb dX8_advance_145 (by decide) ?_
          refine lv_icmp_lt (tgt := 347) hx hb dX8_advance_147 (by decide) (fun c147 => ?_) (fun c147 => ?_)
          · have h := h.1 c147
            exact hk125_347 sR _ _ _ h hP hD hS hl
          · have h := h.2 c147
            refine lv_aload_n hx hb dX8_advance_150 rfl (lv_at hl 0 rfl) ?_
            refine gfX8_9 hx hb hts hown hK hP 0 rfl dX8_advance_151 ?_
            refine lv_aload_n hx hb dX8_advance_154 rfl (lv_at hl 0 rfl) ?_
            refine gfX8_25 (v := (sR 2)) hx hb hts hown hK hP 0 rfl rfl dX8_advance_155 ?_
            obtain ⟨hin, h⟩ := h
            refine ldb (k := (sR 2).toNatClampNeg) hx hb hK hP 1 rfl hin rfl dX8_advance_158 ?_
            refine lv_bipush (v := (122 : Int32)) hx hb dX8_advance_159 (by decide) ?_
            refine lv_icmp_gt (tgt := 347) hx hb dX8_advance_161 (by decide) (fun c161 => ?_) (fun c161 => ?_)
            · have h := h.1 c161
              exact hk125_347 sR _ _ _ h hP hD hS hl
            · have h := h.2 c161
              refine lv_aload_n hx hb dX8_advance_164 rfl (lv_at hl 0 rfl) ?_
              refine lv_dup hx hb dX8_advance_165 rfl ?_
              refine gfX8_25 (v := (sR 2)) hx hb hts hown hK hP 0 rfl rfl dX8_advance_166 ?_
              refine lv_iconst (v := (1 : Int32)) hx hb dX8_advance_169 (by decide) ?_
              refine lv_iadd hx hb dX8_advance_170 ?_
              refine lv_topi (fun f2_171 ef2_171 => ?_)
              have h := h f2_171 ef2_171
              refine pfX8_25 hx hb hts hown hK hP hD hS 0 rfl dX8_advance_171 (fun H locs hP hD hS => ?_)
              have hP : va_P D clsX [(h0, .inr (8, oX8 rR (upd sR 2 f2_171))), ((rR 0), .inl (cy 1, 500, .inl R_text))] H := hP
              have hD : va_D A [(h0, .inr (8, oX8 rR (upd sR 2 f2_171))), ((rR 0), .inl (cy 1, 500, .inl R_text))] := hD
              refine lv_goto (tgt := 125) hx hb dX8_advance_174 (by decide) ?_
              exact ih125 (upd sR 2 f2_171) _ _ _ h hP hD hS hl
    refine lv_aload_n hx hb dX8_advance_60 rfl (lv_at hl 0 rfl) ?_
    refine lv_aload_n hx hb dX8_advance_61 rfl (lv_at hl 0 rfl) ?_
    refine gfX8_25 (v := (sR 2)) hx hb hts hown hK hP 0 rfl rfl dX8_advance_62 ?_
    refine lv_topi (fun f5_65 ef5_65 => ?_)
    have h := h f5_65 ef5_65
    refine pfX8_28 hx hb hts hown hK hP hD hS 0 rfl dX8_advance_65 (fun H locs hP hD hS => ?_)
    have hP : va_P D clsX [(h0, .inr (8, oX8 rR (upd sR 5 f5_65))), ((rR 0), .inl (cy 1, 500, .inl R_text))] H := hP
    have hD : va_D A [(h0, .inr (8, oX8 rR (upd sR 5 f5_65))), ((rR 0), .inl (cy 1, 500, .inl R_text))] := hD
    refine lv_aload_n hx hb dX8_advance_68 rfl (lv_at hl 0 rfl) ?_
    refine lv_iconst (v := (0 : Int32)) hx hb dX8_advance_69 (by decide) ?_
    refine pfX8_43 hx hb hts hown hK hP hD hS 0 rfl dX8_advance_70 (fun H locs hP hD hS => ?_)
    have hP : va_P D clsX [(h0, .inr (8, oX8 rR (upd (upd sR 5 f5_65) 3 (0 : Int32)))), ((rR 0), .inl (cy 1, 500, .inl R_text))] H := hP
    have hD : va_D A [(h0, .inr (8, oX8 rR (upd (upd sR 5 f5_65) 3 (0 : Int32)))), ((rR 0), .inl (cy 1, 500, .inl R_text))] := hD
    refine lv_aload_n hx hb dX8_advance_73 rfl (lv_at hl 0 rfl) ?_
    refine gfX8_25 (v := (sR 2)) hx hb hts hown hK hP 0 rfl rfl dX8_advance_74 ?_
    refine lv_aload_n hx hb dX8_advance_77 rfl (lv_at hl 0 rfl) ?_
    refine gfX8_21 (v := (sR 1)) hx hb hts hown hK hP 0 rfl rfl dX8_advance_78 ?_
    refine lv_icmp_lt (tgt := 92) hx hb dX8_advance_81 (by decide) (fun c81 => ?_) (fun c81 => ?_)
    · have h := h.1 c81
      refine lv_aload_n hx hb dX8_advance_92 rfl (lv_at hl 0 rfl) ?_
      refine gfX8_9 hx hb hts hown hK hP 0 rfl dX8_advance_93 ?_
      refine lv_aload_n hx hb dX8_advance_96 rfl (lv_at hl 0 rfl) ?_
      refine gfX8_25 (v := (sR 2)) hx hb hts hown hK hP 0 rfl rfl dX8_advance_97 ?_
      obtain ⟨hin, h⟩ := h
      refine ldb (k := (sR 2).toNatClampNeg) hx hb hK hP 1 rfl hin rfl dX8_advance_100 ?_
      refine lv_bipush (v := (97 : Int32)) hx hb dX8_advance_101 (by decide) ?_
      refine lv_icmp_lt (tgt := 177) hx hb dX8_advance_103 (by decide) (fun c103 => ?_) (fun c103 => ?_)
      · have h := h.1 c103
        exact J177 (upd (upd sR 5 f5_65) 3 (0 : Int32)) _ _ _ h hP hD hS hl
      · have h := h.2 c103
        refine lv_aload_n hx hb dX8_advance_106 rfl (lv_at hl 0 rfl) ?_
        refine gfX8_9 hx hb hts hown hK hP 0 rfl dX8_advance_107 ?_
        refine lv_aload_n hx hb dX8_advance_110 rfl (lv_at hl 0 rfl) ?_
        refine gfX8_25 (v := (sR 2)) hx hb hts hown hK hP 0 rfl rfl dX8_advance_111 ?_
        obtain ⟨hin, h⟩ := h
        refine ldb (k := (sR 2).toNatClampNeg) hx hb hK hP 1 rfl hin rfl dX8_advance_114 ?_
        refine lv_bipush (v := (122 : Int32)) hx hb dX8_advance_115 (by decide) ?_
        refine lv_icmp_gt (tgt := 177) hx hb dX8_advance_117 (by decide) (fun c117 => ?_) (fun c117 => ?_)
        · have h := h.1 c117
          exact J177 (upd (upd sR 5 f5_65) 3 (0 : Int32)) _ _ _ h hP hD hS hl
        · have h := h.2 c117
          refine lv_aload_n hx hb dX8_advance_120 rfl (lv_at hl 0 rfl) ?_
          refine lv_iconst (v := (1 : Int32)) hx hb dX8_advance_121 (by decide) ?_
          refine pfX8_46 hx hb hts hown hK hP hD hS 0 rfl dX8_advance_122 (fun H locs hP hD hS => ?_)
          have hP : va_P D clsX [(h0, .inr (8, oX8 rR (upd (upd (upd sR 5 f5_65) 3 (0 : Int32)) 7 (1 : Int32)))), ((rR 0), .inl (cy 1, 500, .inl R_text))] H := hP
          have hD : va_D A [(h0, .inr (8, oX8 rR (upd (upd (upd sR 5 f5_65) 3 (0 : Int32)) 7 (1 : Int32)))), ((rR 0), .inl (cy 1, 500, .inl R_text))] := hD
          obtain ⟨nf125, h⟩ := h
          refine L125  _ (fun sR_347 H locs ls h hP hD hS hl => ?_) nf125 (upd (upd (upd sR 5 f5_65) 3 (0 : Int32)) 7 (1 : Int32)) _ _ _ h hP hD hS hl
          exact J347 sR_347 _ _ _ h hP hD hS hl
    · have h := h.2 c81
      refine lv_aload_n hx hb dX8_advance_84 rfl (lv_at hl 0 rfl) ?_
      refine lv_iconst (v := (0 : Int32)) hx hb dX8_advance_85 (by decide) ?_
      refine pfX8_46 hx hb hts hown hK hP hD hS 0 rfl dX8_advance_86 (fun H locs hP hD hS => ?_)
      have hP : va_P D clsX [(h0, .inr (8, oX8 rR (upd (upd (upd sR 5 f5_65) 3 (0 : Int32)) 7 (0 : Int32)))), ((rR 0), .inl (cy 1, 500, .inl R_text))] H := hP
      have hD : va_D A [(h0, .inr (8, oX8 rR (upd (upd (upd sR 5 f5_65) 3 (0 : Int32)) 7 (0 : Int32)))), ((rR 0), .inl (cy 1, 500, .inl R_text))] := hD
      refine lv_goto (tgt := 347) hx hb dX8_advance_89 (by decide) ?_
      exact J347 (upd (upd (upd sR 5 f5_65) 3 (0 : Int32)) 7 (0 : Int32)) _ _ _ h hP hD hS hl
  have L8 : ∀ (kx60 : AR → Prop), (∀ (sR : AR) (H : Heap) (locs : List Loc) (ls : Array Slot), kx60 sR → va_P D clsX [(h0, .inr (8, oX8 rR sR)), ((rR 0), .inl (cy 1, 500, .inl R_text))] H → va_D A [(h0, .inr (8, oX8 rR sR)), ((rR 0), .inl (cy 1, 500, .inl R_text))] → va_S A s.heap H locs → lv_has ls 1 [(0, .ref h0)] → W p l e R s m args below meth c H locs 0 0 QQ (F0 m 60 ls [])) → ∀ (nf8 : Nat) (sR : AR) (H : Heap) (locs : List Loc) (ls : Array Slot), wpX8_advance_L8 R_text kx60 post nf8 sR → va_P D clsX [(h0, .inr (8, oX8 rR sR)), ((rR 0), .inl (cy 1, 500, .inl R_text))] H → va_D A [(h0, .inr (8, oX8 rR sR)), ((rR 0), .inl (cy 1, 500, .inl R_text))] → va_S A s.heap H locs → lv_has ls 1 [(0, .ref h0)] → W p l e R s m args below meth c H locs 0 0 QQ (F0 m 8 ls []) := by
    intro kx60 hk8_60 nf8
    induction nf8 with
    | zero =>
      intro sR H locs ls h
      exact (show False from h).elim
    | succ nf8 ih8 =>
      intro sR H locs ls h hP hD hS hl
      have J47 : ∀ (sR : AR) (H : Heap) (locs : List Loc) (ls : Array Slot), wpX8_advance_J47 sR R_text (fun b0 => wpX8_advance_L8 R_text kx60 post nf8 b0) kx60 post → va_P D clsX [(h0, .inr (8, oX8 rR sR)), ((rR 0), .inl (cy 1, 500, .inl R_text))] H → va_D A [(h0, .inr (8, oX8 rR sR)), ((rR 0), .inl (cy 1, 500, .inl R_text))] → va_S A s.heap H locs → lv_has ls 1 [(0, .ref h0)] → W p l e R s m args below meth c H locs 0 0 QQ (F0 m 47 ls []) := by
        intro sR H locs ls h hP hD hS hl
        refine lv_aload_n hx hb dX8_advance_47 rfl (lv_at hl 0 rfl) ?_
        refine lv_dup hx hb dX8_advance_48 rfl ?_
        refine gfX8_25 (v := (sR 2)) hx hb hts hown hK hP 0 rfl rfl dX8_advance_49 ?_
        refine lv_iconst (v := (1 : Int32)) hx hb dX8_advance_52 (by decide) ?_
        refine lv_iadd hx hb dX8_advance_53 ?_
        refine lv_topi (fun f2_54 ef2_54 => ?_)
        have h := h f2_54 ef2_54
        refine pfX8_25 hx hb hts hown hK hP hD hS 0 rfl dX8_advance_54 (fun H locs hP hD hS => ?_)
        have hP : va_P D clsX [(h0, .inr (8, oX8 rR (upd sR 2 f2_54))), ((rR 0), .inl (cy 1, 500, .inl R_text))] H := hP
        have hD : va_D A [(h0, .inr (8, oX8 rR (upd sR 2 f2_54))), ((rR 0), .inl (cy 1, 500, .inl R_text))] := hD
        refine lv_goto (tgt := 8) hx hb dX8_advance_57 (by decide) ?_
        exact ih8 (upd sR 2 f2_54) _ _ _ h hP hD hS hl
      refine lv_aload_n hx hb dX8_advance_8 rfl (lv_at hl 0 rfl) ?_
      refine gfX8_25 (v := (sR 2)) hx hb hts hown hK hP 0 rfl rfl dX8_advance_9 ?_
      refine lv_aload_n hx hb dX8_advance_12 rfl (lv_at hl 0 rfl) ?_
      refine gfX8_21 (v := (sR 1)) hx hb hts hown hK hP 0 rfl rfl dX8_advance_13 ?_
      refine lv_icmp_ge (tgt := 60) hx hb dX8_advance_16 (by decide) (fun c16 => ?_) (fun c16 => ?_)
      · have h := h.1 c16
        exact hk8_60 sR _ _ _ h hP hD hS hl
      · have h := h.2 c16
        refine lv_aload_n hx hb dX8_advance_19 rfl (lv_at hl 0 rfl) ?_
        refine gfX8_9 hx hb hts hown hK hP 0 rfl dX8_advance_20 ?_
        refine lv_aload_n hx hb dX8_advance_23 rfl (lv_at hl 0 rfl) ?_
        refine gfX8_25 (v := (sR 2)) hx hb hts hown hK hP 0 rfl rfl dX8_advance_24 ?_
        obtain ⟨hin, h⟩ := h
        refine ldb (k := (sR 2).toNatClampNeg) hx hb hK hP 1 rfl hin rfl dX8_advance_27 ?_
        refine lv_bipush (v := (32 : Int32)) hx hb dX8_advance_28 (by decide) ?_
        refine lv_icmp_eq (tgt := 47) hx hb dX8_advance_30 (by decide) (fun c30 => ?_) (fun c30 => ?_)
        · have h := h.1 c30
          exact J47 sR _ _ _ h hP hD hS hl
        · have h := h.2 c30
          refine lv_aload_n hx hb dX8_advance_33 rfl (lv_at hl 0 rfl) ?_
          refine gfX8_9 hx hb hts hown hK hP 0 rfl dX8_advance_34 ?_
          refine lv_aload_n hx hb dX8_advance_37 rfl (lv_at hl 0 rfl) ?_
          refine gfX8_25 (v := (sR 2)) hx hb hts hown hK hP 0 rfl rfl dX8_advance_38 ?_
          obtain ⟨hin, h⟩ := h
          refine ldb (k := (sR 2).toNatClampNeg) hx hb hK hP 1 rfl hin rfl dX8_advance_41 ?_
          refine lv_bipush (v := (10 : Int32)) hx hb dX8_advance_42 (by decide) ?_
          refine lv_icmp_ne (tgt := 60) hx hb dX8_advance_44 (by decide) (fun c44 => ?_) (fun c44 => ?_)
          · have h := h.1 c44
            exact hk8_60 sR _ _ _ h hP hD hS hl
          · have h := h.2 c44
            exact J47 sR _ _ _ h hP hD hS hl
  refine lv_aload_n hx hb dX8_advance_0 rfl (lv_at hl 0 rfl) ?_
  refine lv_aload_n hx hb dX8_advance_1 rfl (lv_at hl 0 rfl) ?_
  refine gfX8_28 (v := (sR 5)) hx hb hts hown hK hP 0 rfl rfl dX8_advance_2 ?_
  refine lv_topi (fun f6_5 ef6_5 => ?_)
  have h := h f6_5 ef6_5
  refine pfX8_40 hx hb hts hown hK hP hD hS 0 rfl dX8_advance_5 (fun H locs hP hD hS => ?_)
  have hP : va_P D clsX [(h0, .inr (8, oX8 rR (upd sR 6 f6_5))), ((rR 0), .inl (cy 1, 500, .inl R_text))] H := hP
  have hD : va_D A [(h0, .inr (8, oX8 rR (upd sR 6 f6_5))), ((rR 0), .inl (cy 1, 500, .inl R_text))] := hD
  obtain ⟨nf8, h⟩ := h
  refine L8  _ (fun sR_60 H locs ls h hP hD hS hl => ?_) nf8 (upd sR 6 f6_5) _ _ _ h hP hD hS hl
  exact J60 sR_60 _ _ _ h hP hD hS hl
def wpX8_refuse (sR : AR) (x1 : Int32) (post : Int32 → AR → Prop) : Prop := ∀ f9_10 : Int32, f9_10 = (sR 5) → post (0 : Int32) (upd (upd sR 8 x1) 9 f9_10)
set_option maxHeartbeats 4000000 in
set_option maxRecDepth 100000 in
theorem ctX8_refuse (l : Launch) (D : va_G) (cy : Nat → ClassId) (ev : Nat → Nat) (h0 : Nat) (rR : Nat → Nat) (sR : AR) (x1 : Int32) (sz : Nat) (post : Int32 → AR → Prop) (h : wpX8_refuse sR x1 post) : Met l yX8_refuse (Cond.code yX8_refuse cX8_refuse 2 (some .boolean) :: TB) ({ frames := 0, cells := 0, slots := 0, locals := 0 }) (va_Pc [.ref h0, .int x1] (PreX D cy ev [(h0, .inr (8, oX8 rR sR))] sz)) (va_Qi (fun (r : Int32) (u : AR) => post r u) (fun u => BkX D cy [(h0, .inr (8, oX8 rR sR))] sz [(h0, .inr (8, oX8 rR u))]) (va_A [(h0, .inr (8, oX8 rR sR))] sz)) 0 0 (va_A [(h0, .inr (8, oX8 rR sR))] sz) := by
  refine ofWi (by decide) (Nat.le_of_ble_eq_true rfl) ?_
  intro p e s m args below meth c ls A R QQ hx hb hml hown hts hR hlk hE hK hP hD hS hA hl hret
  have hown : s.vm.findClass RX8 = some m.cls := hown
  have hRf : 0 ≤ R.frames := by rw [hR]; exact Nat.le_refl _
  have hRl : 0 ≤ R.locals := by rw [hR]; exact Nat.le_refl _
  clear hR
  have hl : lv_has ls 2 [(0, .ref h0), (1, .int x1)] := hl
  refine lv_aload_n hx hb dX8_refuse_0 rfl (lv_at hl 0 rfl) ?_
  refine lv_iload_n hx hb dX8_refuse_1 rfl (lv_at hl 1 rfl) ?_
  refine pfX8_31 hx hb hts hown hK hP hD hS 0 rfl dX8_refuse_2 (fun H locs hP hD hS => ?_)
  have hP : va_P D clsX [(h0, .inr (8, oX8 rR (upd sR 8 x1)))] H := hP
  have hD : va_D A [(h0, .inr (8, oX8 rR (upd sR 8 x1)))] := hD
  refine lv_aload_n hx hb dX8_refuse_5 rfl (lv_at hl 0 rfl) ?_
  refine lv_aload_n hx hb dX8_refuse_6 rfl (lv_at hl 0 rfl) ?_
  refine gfX8_28 (v := (sR 5)) hx hb hts hown hK hP 0 rfl rfl dX8_refuse_7 ?_
  refine lv_topi (fun f9_10 ef9_10 => ?_)
  have h := h f9_10 ef9_10
  refine pfX8_34 hx hb hts hown hK hP hD hS 0 rfl dX8_refuse_10 (fun H locs hP hD hS => ?_)
  have hP : va_P D clsX [(h0, .inr (8, oX8 rR (upd (upd sR 8 x1) 9 f9_10)))] H := hP
  have hD : va_D A [(h0, .inr (8, oX8 rR (upd (upd sR 8 x1) 9 f9_10)))] := hD
  refine lv_iconst (v := (0 : Int32)) hx hb dX8_refuse_13 (by decide) ?_
  exact hret (0 : Int32) ((upd (upd sR 8 x1) 9 f9_10)) _ _ _ _ rfl dX8_refuse_14 h hP hD hS
def wpX8_number_J40 (sR : AR) (R_text : AR) (post : Int32 → AR → Prop) : Prop := wpX8_refuse sR (2 : Int32) (fun r42 sR_42 => post (-1 : Int32) sR_42)
def wpX8_number (sR : AR) (R_text : AR) (x1 : Int32) (x2 : Int32) (post : Int32 → AR → Prop) : Prop := (((sR 7) = (2 : Int32) → (((3 : Int32) < (sR 4) → wpX8_number_J40 sR R_text post) ∧ (¬ (3 : Int32) < (sR 4) → (((sR 3) < x1 → wpX8_number_J40 sR R_text post) ∧ (¬ (sR 3) < x1 → (((sR 3) ≤ x2 → ∀ l3_52 : Int32, l3_52 = (sR 3) → wpX8_advance sR R_text (fun sR_54 => post l3_52 sR_54)) ∧ (¬ (sR 3) ≤ x2 → wpX8_number_J40 sR R_text post))))))) ∧ (¬ (sR 7) = (2 : Int32) → wpX8_refuse sR (1 : Int32) (fun r10 sR_10 => post (-1 : Int32) sR_10)))
set_option maxHeartbeats 4000000 in
set_option maxRecDepth 100000 in
theorem ctX8_number (l : Launch) (D : va_G) (cy : Nat → ClassId) (ev : Nat → Nat) (h0 : Nat) (rR : Nat → Nat) (sR : AR) (R_text : AR) (x1 : Int32) (x2 : Int32) (sz : Nat) (post : Int32 → AR → Prop) (h : wpX8_number sR R_text x1 x2 post) : Met l yX8_number (Cond.code yX8_number cX8_number 4 (some .int) :: TB) ({ frames := 1, cells := 0, slots := 0, locals := 21 }) (va_Pc [.ref h0, .int x1, .int x2] (PreX D cy ev [(h0, .inr (8, oX8 rR sR)), ((rR 0), .inl (cy 1, 500, .inl R_text))] sz)) (va_Qi (fun (r : Int32) (u : AR) => post r u) (fun u => BkX D cy [(h0, .inr (8, oX8 rR sR)), ((rR 0), .inl (cy 1, 500, .inl R_text))] sz [(h0, .inr (8, oX8 rR u)), ((rR 0), .inl (cy 1, 500, .inl R_text))]) (va_A [(h0, .inr (8, oX8 rR sR)), ((rR 0), .inl (cy 1, 500, .inl R_text))] sz)) 0 0 (va_A [(h0, .inr (8, oX8 rR sR)), ((rR 0), .inl (cy 1, 500, .inl R_text))] sz) := by
  refine ofWi (by decide) (Nat.le_of_ble_eq_true rfl) ?_
  intro p e s m args below meth c ls A R QQ hx hb hml hown hts hR hlk hE hK hP hD hS hA hl hret
  have hown : s.vm.findClass RX8 = some m.cls := hown
  have hRf : 1 ≤ R.frames := by rw [hR]; exact Nat.le_refl _
  have hRl : 21 ≤ R.locals := by rw [hR]; exact Nat.le_refl _
  clear hR
  have hl : lv_has ls 4 [(0, .ref h0), (1, .int x1), (2, .int x2)] := hl
  have J40 : ∀ (H : Heap) (locs : List Loc) (ls : Array Slot), wpX8_number_J40 sR R_text post → va_P D clsX [(h0, .inr (8, oX8 rR sR)), ((rR 0), .inl (cy 1, 500, .inl R_text))] H → va_D A [(h0, .inr (8, oX8 rR sR)), ((rR 0), .inl (cy 1, 500, .inl R_text))] → va_S A s.heap H locs → lv_has ls 4 [(0, .ref h0)] → W p l e R s m args below meth c H locs 0 0 QQ (F0 m 40 ls []) := by
    intro  H locs ls h hP hD hS hl
    refine lv_aload_n hx hb dX8_number_40 rfl (lv_at hl 0 rfl) ?_
    refine lv_iconst (v := (2 : Int32)) hx hb dX8_number_41 (by decide) ?_
    refine clVi (As := [.int (2 : Int32)]) (rest := []) (Wr := [((rR 0), .inl (cy 1, 500, .inl R_text))]) (cq := (RX8, TX8, 10)) ⟨hx, hb, hml, hown, hts⟩ ⟨callB_of 1 hts (goodC mw811) rfl rfl rfl (hts _ (tb mw2)) (hts _ (tb mw808)) kdX8_refuse ⟨Nat.le_trans (by decide) hRf, Nat.le_trans (by decide) hRl⟩, hts _ (tb mw809), hts _ (tb mw810)⟩ (ctX8_refuse l D cy ev h0 rR sR (2 : Int32) _ _ h) hE hK hP hD hS hA [0] [1] rfl rfl (by decide) (by decide) (by decide) 0 rfl rfl rfl hl.1 rfl (Nat.le_of_ble_eq_true rfl) ⟨Nat.zero_le _, Nat.zero_le _⟩ dX8_number_42 (fun r42 sR_42 H locs h hP hD hS => ?_)
    have hP : va_P D clsX [((rR 0), .inl (cy 1, 500, .inl R_text)), (h0, .inr (8, oX8 rR sR_42))] H := hP
    have hD : va_D A [((rR 0), .inl (cy 1, 500, .inl R_text)), (h0, .inr (8, oX8 rR sR_42))] := hD
    refine lv_pop hx hb dX8_number_45 rfl ?_
    refine lv_iconst (v := (-1 : Int32)) hx hb dX8_number_46 (by decide) ?_
    exact hret (-1 : Int32) (sR_42) _ _ _ _ rfl dX8_number_47 h (hP.sub [1, 0] rfl) (hD.sub [1, 0] (by decide) rfl) hS
  refine lv_aload_n hx hb dX8_number_0 rfl (lv_at hl 0 rfl) ?_
  refine gfX8_46 (v := (sR 7)) hx hb hts hown hK hP 0 rfl rfl dX8_number_1 ?_
  refine lv_iconst (v := (2 : Int32)) hx hb dX8_number_4 (by decide) ?_
  refine lv_icmp_eq (tgt := 16) hx hb dX8_number_5 (by decide) (fun c5 => ?_) (fun c5 => ?_)
  · have h := h.1 c5
    refine lv_aload_n hx hb dX8_number_16 rfl (lv_at hl 0 rfl) ?_
    refine gfX8_49 (v := (sR 4)) hx hb hts hown hK hP 0 rfl rfl dX8_number_17 ?_
    refine lv_iconst (v := (3 : Int32)) hx hb dX8_number_20 (by decide) ?_
    refine lv_icmp_gt (tgt := 40) hx hb dX8_number_21 (by decide) (fun c21 => ?_) (fun c21 => ?_)
    · have h := h.1 c21
      exact J40  _ _ _ h hP hD hS (lv_sub hl [0] rfl)
    · have h := h.2 c21
      refine lv_aload_n hx hb dX8_number_24 rfl (lv_at hl 0 rfl) ?_
      refine gfX8_43 (v := (sR 3)) hx hb hts hown hK hP 0 rfl rfl dX8_number_25 ?_
      refine lv_iload_n hx hb dX8_number_28 rfl (lv_at hl 1 rfl) ?_
      refine lv_icmp_lt (tgt := 40) hx hb dX8_number_29 (by decide) (fun c29 => ?_) (fun c29 => ?_)
      · have h := h.1 c29
        exact J40  _ _ _ h hP hD hS (lv_sub hl [0] rfl)
      · have h := h.2 c29
        refine lv_aload_n hx hb dX8_number_32 rfl (lv_at hl 0 rfl) ?_
        refine gfX8_43 (v := (sR 3)) hx hb hts hown hK hP 0 rfl rfl dX8_number_33 ?_
        refine lv_iload_n hx hb dX8_number_36 rfl (lv_at hl 2 rfl) ?_
        refine lv_icmp_le (tgt := 48) hx hb dX8_number_37 (by decide) (fun c37 => ?_) (fun c37 => ?_)
        · have h := h.1 c37
          refine lv_aload_n hx hb dX8_number_48 rfl (lv_at hl 0 rfl) ?_
          refine gfX8_43 (v := (sR 3)) hx hb hts hown hK hP 0 rfl rfl dX8_number_49 ?_
          refine lv_topi (fun l3_52 el3_52 => ?_)
          have h := h l3_52 el3_52
          refine lv_istore_n (lv' := [(3, .int l3_52), (0, .ref h0), (1, .int x1), (2, .int x2)]) hx hb dX8_number_52 rfl hl (by decide) rfl (fun ls hl => ?_)
          refine lv_aload_n hx hb dX8_number_53 rfl (lv_at hl 1 rfl) ?_
          refine clVv (As := []) (rest := []) (Wr := []) (cq := (RX8, TX8, 10)) ⟨hx, hb, hml, hown, hts⟩ ⟨callB_of 0 hts (goodC mw736) rfl rfl rfl (hts _ (tb mw2)) (hts _ (tb mw733)) kdX8_advance ⟨Nat.le_trans (by decide) hRf, Nat.le_trans (by decide) hRl⟩, hts _ (tb mw734), hts _ (tb mw735)⟩ (ctX8_advance l D cy ev h0 rR sR R_text  _ _ h) hE hK hP hD hS hA [0, 1] [] rfl rfl (by decide) (by decide) (by decide) 0 rfl rfl rfl hl.1 rfl (Nat.le_of_ble_eq_true rfl) ⟨Nat.zero_le _, Nat.zero_le _⟩ dX8_number_54 (fun sR_54 H locs h hP hD hS => ?_)
          have hP : va_P D clsX [(h0, .inr (8, oX8 rR sR_54)), ((rR 0), .inl (cy 1, 500, .inl R_text))] H := hP
          have hD : va_D A [(h0, .inr (8, oX8 rR sR_54)), ((rR 0), .inl (cy 1, 500, .inl R_text))] := hD
          refine lv_iload_n hx hb dX8_number_57 rfl (lv_at hl 0 rfl) ?_
          exact hret l3_52 (sR_54) _ _ _ _ rfl dX8_number_58 h hP hD hS
        · have h := h.2 c37
          exact J40  _ _ _ h hP hD hS (lv_sub hl [0] rfl)
  · have h := h.2 c5
    refine lv_aload_n hx hb dX8_number_8 rfl (lv_at hl 0 rfl) ?_
    refine lv_iconst (v := (1 : Int32)) hx hb dX8_number_9 (by decide) ?_
    refine clVi (As := [.int (1 : Int32)]) (rest := []) (Wr := [((rR 0), .inl (cy 1, 500, .inl R_text))]) (cq := (RX8, TX8, 10)) ⟨hx, hb, hml, hown, hts⟩ ⟨callB_of 1 hts (goodC mw811) rfl rfl rfl (hts _ (tb mw2)) (hts _ (tb mw808)) kdX8_refuse ⟨Nat.le_trans (by decide) hRf, Nat.le_trans (by decide) hRl⟩, hts _ (tb mw809), hts _ (tb mw810)⟩ (ctX8_refuse l D cy ev h0 rR sR (1 : Int32) _ _ h) hE hK hP hD hS hA [0] [1] rfl rfl (by decide) (by decide) (by decide) 0 rfl rfl rfl hl.1 rfl (Nat.le_of_ble_eq_true rfl) ⟨Nat.zero_le _, Nat.zero_le _⟩ dX8_number_10 (fun r10 sR_10 H locs h hP hD hS => ?_)
    have hP : va_P D clsX [((rR 0), .inl (cy 1, 500, .inl R_text)), (h0, .inr (8, oX8 rR sR_10))] H := hP
    have hD : va_D A [((rR 0), .inl (cy 1, 500, .inl R_text)), (h0, .inr (8, oX8 rR sR_10))] := hD
    refine lv_pop hx hb dX8_number_13 rfl ?_
    refine lv_iconst (v := (-1 : Int32)) hx hb dX8_number_14 (by decide) ?_
    exact hret (-1 : Int32) (sR_10) _ _ _ _ rfl dX8_number_15 h (hP.sub [1, 0] rfl) (hD.sub [1, 0] (by decide) rfl) hS
def wpX8_refuseBefore (sR : AR) (x1 : Int32) (post : Int32 → AR → Prop) : Prop := ∀ f9_10 : Int32, f9_10 = (sR 6) → post (0 : Int32) (upd (upd sR 8 x1) 9 f9_10)
set_option maxHeartbeats 4000000 in
set_option maxRecDepth 100000 in
theorem ctX8_refuseBefore (l : Launch) (D : va_G) (cy : Nat → ClassId) (ev : Nat → Nat) (h0 : Nat) (rR : Nat → Nat) (sR : AR) (x1 : Int32) (sz : Nat) (post : Int32 → AR → Prop) (h : wpX8_refuseBefore sR x1 post) : Met l yX8_refuseBefore (Cond.code yX8_refuseBefore cX8_refuseBefore 2 (some .boolean) :: TB) ({ frames := 0, cells := 0, slots := 0, locals := 0 }) (va_Pc [.ref h0, .int x1] (PreX D cy ev [(h0, .inr (8, oX8 rR sR))] sz)) (va_Qi (fun (r : Int32) (u : AR) => post r u) (fun u => BkX D cy [(h0, .inr (8, oX8 rR sR))] sz [(h0, .inr (8, oX8 rR u))]) (va_A [(h0, .inr (8, oX8 rR sR))] sz)) 0 0 (va_A [(h0, .inr (8, oX8 rR sR))] sz) := by
  refine ofWi (by decide) (Nat.le_of_ble_eq_true rfl) ?_
  intro p e s m args below meth c ls A R QQ hx hb hml hown hts hR hlk hE hK hP hD hS hA hl hret
  have hown : s.vm.findClass RX8 = some m.cls := hown
  have hRf : 0 ≤ R.frames := by rw [hR]; exact Nat.le_refl _
  have hRl : 0 ≤ R.locals := by rw [hR]; exact Nat.le_refl _
  clear hR
  have hl : lv_has ls 2 [(0, .ref h0), (1, .int x1)] := hl
  refine lv_aload_n hx hb dX8_refuseBefore_0 rfl (lv_at hl 0 rfl) ?_
  refine lv_iload_n hx hb dX8_refuseBefore_1 rfl (lv_at hl 1 rfl) ?_
  refine pfX8_31 hx hb hts hown hK hP hD hS 0 rfl dX8_refuseBefore_2 (fun H locs hP hD hS => ?_)
  have hP : va_P D clsX [(h0, .inr (8, oX8 rR (upd sR 8 x1)))] H := hP
  have hD : va_D A [(h0, .inr (8, oX8 rR (upd sR 8 x1)))] := hD
  refine lv_aload_n hx hb dX8_refuseBefore_5 rfl (lv_at hl 0 rfl) ?_
  refine lv_aload_n hx hb dX8_refuseBefore_6 rfl (lv_at hl 0 rfl) ?_
  refine gfX8_40 (v := (sR 6)) hx hb hts hown hK hP 0 rfl rfl dX8_refuseBefore_7 ?_
  refine lv_topi (fun f9_10 ef9_10 => ?_)
  have h := h f9_10 ef9_10
  refine pfX8_34 hx hb hts hown hK hP hD hS 0 rfl dX8_refuseBefore_10 (fun H locs hP hD hS => ?_)
  have hP : va_P D clsX [(h0, .inr (8, oX8 rR (upd (upd sR 8 x1) 9 f9_10)))] H := hP
  have hD : va_D A [(h0, .inr (8, oX8 rR (upd (upd sR 8 x1) 9 f9_10)))] := hD
  refine lv_iconst (v := (0 : Int32)) hx hb dX8_refuseBefore_13 (by decide) ?_
  exact hret (0 : Int32) ((upd (upd sR 8 x1) 9 f9_10)) _ _ _ _ rfl dX8_refuseBefore_14 h hP hD hS
def wpX8_open (sR : AR) (bytes : AR) (x2 : Int32) (post : AR → Prop) : Prop := ∀ f1_12 : Int32, f1_12 = (jmin x2 (500 : Int32)) → wpX8_advance (upd (upd (upd (upd (upd sR 1 f1_12) 2 (0 : Int32)) 5 (0 : Int32)) 8 (0 : Int32)) 9 (-1 : Int32)) bytes (fun sR_36 => post sR_36)
set_option maxHeartbeats 4000000 in
set_option maxRecDepth 100000 in
theorem ctX8_open (l : Launch) (D : va_G) (cy : Nat → ClassId) (ev : Nat → Nat) (h0 : Nat) (a1 : Nat) (rR : Nat → Nat) (sR : AR) (bytes : AR) (x2 : Int32) (sz : Nat) (post : AR → Prop) (h : wpX8_open sR bytes x2 post) : Met l yX8_open (Cond.code yX8_open cX8_open 3 none :: TB) ({ frames := 1, cells := 0, slots := 0, locals := 60 }) (va_Pc [.ref h0, .ref a1, .int x2] (PreX D cy ev [(h0, .inr (8, oX8 rR sR)), (a1, .inl (cy 1, 500, .inl bytes))] sz)) (va_Qv (fun (u : AR) => post u) (fun u => BkX D cy [(h0, .inr (8, oX8 rR sR)), (a1, .inl (cy 1, 500, .inl bytes))] sz [(h0, .inr (8, oX8 (rtQ a1 rR) u)), (a1, .inl (cy 1, 500, .inl bytes))]) (va_A [(h0, .inr (8, oX8 rR sR)), (a1, .inl (cy 1, 500, .inl bytes))] sz)) 0 0 (va_A [(h0, .inr (8, oX8 rR sR)), (a1, .inl (cy 1, 500, .inl bytes))] sz) := by
  refine ofWv (by decide) (Nat.le_of_ble_eq_true rfl) ?_
  intro p e s m args below meth c ls A R QQ hx hb hml hown hts hR hlk hE hK hP hD hS hA hl hret
  have hown : s.vm.findClass RX8 = some m.cls := hown
  have hRf : 1 ≤ R.frames := by rw [hR]; exact Nat.le_refl _
  have hRl : 60 ≤ R.locals := by rw [hR]; exact Nat.le_refl _
  clear hR
  have hl : lv_has ls 3 [(0, .ref h0), (1, .ref a1), (2, .int x2)] := hl
  refine lv_aload_n hx hb dX8_open_0 rfl (lv_at hl 0 rfl) ?_
  refine lv_aload_n hx hb dX8_open_1 rfl (lv_at hl 1 rfl) ?_
  refine pfX8_text hx hb hts hown hK hP hD hS 0 rfl dX8_open_2 (fun H locs hP hD hS => ?_)
  have hP : va_P D clsX [(h0, .inr (8, oX8 (rtQ a1 rR) sR)), (a1, .inl (cy 1, 500, .inl bytes))] H := hP
  have hD : va_D A [(h0, .inr (8, oX8 (rtQ a1 rR) sR)), (a1, .inl (cy 1, 500, .inl bytes))] := hD
  refine lv_aload_n hx hb dX8_open_5 rfl (lv_at hl 0 rfl) ?_
  refine lv_iload_n hx hb dX8_open_6 rfl (lv_at hl 2 rfl) ?_
  refine lv_aload_n hx hb dX8_open_7 rfl (lv_at hl 1 rfl) ?_
  refine va_alen hx hb hK hP 1 1 rfl rfl (show Int32.ofNat 500 = (500 : Int32) from rfl) dX8_open_8 ?_
  refine mmin hx hb (hml.trans hl.1.symm) hts hown mw732 (Nat.le_trans (by decide) hRf) (Nat.le_trans (Nat.le_of_ble_eq_true rfl) hRl) (Nat.zero_le _) (Nat.zero_le _) dX8_open_9 ?_
  refine lv_topi (fun f1_12 ef1_12 => ?_)
  have h := h f1_12 ef1_12
  refine pfX8_21 hx hb hts hown hK hP hD hS 0 rfl dX8_open_12 (fun H locs hP hD hS => ?_)
  have hP : va_P D clsX [(h0, .inr (8, oX8 (rtQ a1 rR) (upd sR 1 f1_12))), (a1, .inl (cy 1, 500, .inl bytes))] H := hP
  have hD : va_D A [(h0, .inr (8, oX8 (rtQ a1 rR) (upd sR 1 f1_12))), (a1, .inl (cy 1, 500, .inl bytes))] := hD
  refine lv_aload_n hx hb dX8_open_15 rfl (lv_at hl 0 rfl) ?_
  refine lv_iconst (v := (0 : Int32)) hx hb dX8_open_16 (by decide) ?_
  refine pfX8_25 hx hb hts hown hK hP hD hS 0 rfl dX8_open_17 (fun H locs hP hD hS => ?_)
  have hP : va_P D clsX [(h0, .inr (8, oX8 (rtQ a1 rR) (upd (upd sR 1 f1_12) 2 (0 : Int32)))), (a1, .inl (cy 1, 500, .inl bytes))] H := hP
  have hD : va_D A [(h0, .inr (8, oX8 (rtQ a1 rR) (upd (upd sR 1 f1_12) 2 (0 : Int32)))), (a1, .inl (cy 1, 500, .inl bytes))] := hD
  refine lv_aload_n hx hb dX8_open_20 rfl (lv_at hl 0 rfl) ?_
  refine lv_iconst (v := (0 : Int32)) hx hb dX8_open_21 (by decide) ?_
  refine pfX8_28 hx hb hts hown hK hP hD hS 0 rfl dX8_open_22 (fun H locs hP hD hS => ?_)
  have hP : va_P D clsX [(h0, .inr (8, oX8 (rtQ a1 rR) (upd (upd (upd sR 1 f1_12) 2 (0 : Int32)) 5 (0 : Int32)))), (a1, .inl (cy 1, 500, .inl bytes))] H := hP
  have hD : va_D A [(h0, .inr (8, oX8 (rtQ a1 rR) (upd (upd (upd sR 1 f1_12) 2 (0 : Int32)) 5 (0 : Int32)))), (a1, .inl (cy 1, 500, .inl bytes))] := hD
  refine lv_aload_n hx hb dX8_open_25 rfl (lv_at hl 0 rfl) ?_
  refine lv_iconst (v := (0 : Int32)) hx hb dX8_open_26 (by decide) ?_
  refine pfX8_31 hx hb hts hown hK hP hD hS 0 rfl dX8_open_27 (fun H locs hP hD hS => ?_)
  have hP : va_P D clsX [(h0, .inr (8, oX8 (rtQ a1 rR) (upd (upd (upd (upd sR 1 f1_12) 2 (0 : Int32)) 5 (0 : Int32)) 8 (0 : Int32)))), (a1, .inl (cy 1, 500, .inl bytes))] H := hP
  have hD : va_D A [(h0, .inr (8, oX8 (rtQ a1 rR) (upd (upd (upd (upd sR 1 f1_12) 2 (0 : Int32)) 5 (0 : Int32)) 8 (0 : Int32)))), (a1, .inl (cy 1, 500, .inl bytes))] := hD
  refine lv_aload_n hx hb dX8_open_30 rfl (lv_at hl 0 rfl) ?_
  refine lv_iconst (v := (-1 : Int32)) hx hb dX8_open_31 (by decide) ?_
  refine pfX8_34 hx hb hts hown hK hP hD hS 0 rfl dX8_open_32 (fun H locs hP hD hS => ?_)
  have hP : va_P D clsX [(h0, .inr (8, oX8 (rtQ a1 rR) (upd (upd (upd (upd (upd sR 1 f1_12) 2 (0 : Int32)) 5 (0 : Int32)) 8 (0 : Int32)) 9 (-1 : Int32)))), (a1, .inl (cy 1, 500, .inl bytes))] H := hP
  have hD : va_D A [(h0, .inr (8, oX8 (rtQ a1 rR) (upd (upd (upd (upd (upd sR 1 f1_12) 2 (0 : Int32)) 5 (0 : Int32)) 8 (0 : Int32)) 9 (-1 : Int32)))), (a1, .inl (cy 1, 500, .inl bytes))] := hD
  refine lv_aload_n hx hb dX8_open_35 rfl (lv_at hl 0 rfl) ?_
  refine clVv (As := []) (rest := []) (Wr := []) (cq := (RX8, TX8, 10)) ⟨hx, hb, hml, hown, hts⟩ ⟨callB_of 0 hts (goodC mw736) rfl rfl rfl (hts _ (tb mw2)) (hts _ (tb mw733)) kdX8_advance ⟨Nat.le_trans (by decide) hRf, Nat.le_trans (by decide) hRl⟩, hts _ (tb mw734), hts _ (tb mw735)⟩ (ctX8_advance l D cy ev h0 (rtQ a1 rR) (upd (upd (upd (upd (upd sR 1 f1_12) 2 (0 : Int32)) 5 (0 : Int32)) 8 (0 : Int32)) 9 (-1 : Int32)) bytes  _ _ h) hE hK hP hD hS hA [0, 1] [] rfl rfl (by decide) (by decide) (by decide) 0 rfl rfl rfl hl.1 rfl (Nat.le_of_ble_eq_true rfl) ⟨Nat.zero_le _, Nat.zero_le _⟩ dX8_open_36 (fun sR_36 H locs h hP hD hS => ?_)
  have hP : va_P D clsX [(h0, .inr (8, oX8 (rtQ a1 rR) sR_36)), (a1, .inl (cy 1, 500, .inl bytes))] H := hP
  have hD : va_D A [(h0, .inr (8, oX8 (rtQ a1 rR) sR_36)), (a1, .inl (cy 1, 500, .inl bytes))] := hD
  exact hret (sR_36) _ _ _ _ dX8_open_39 h hP hD hS
def wpX8_isWord_L23 (sR : AR) (R_text : AR) (k1 : Nat) (kx58 : Int32 → Prop) (post : Int32 → Prop) : Nat → Int32 → Prop
  | 0, _ => False
  | nf23 + 1, l2 => (((sR 4) ≤ l2 → kx58 l2) ∧ (¬ (sR 4) ≤ l2 → vp_in ((sR 5) + l2) 500 ∧ k1 < 50 ∧ vp_in l2 (skB k1).length ∧ (((R_text ((sR 5) + l2).toNatClampNeg) = ((skB k1).getD l2.toNatClampNeg 0) → ∀ l2_52 : Int32, l2_52 = (l2 + (1 : Int32)) → wpX8_isWord_L23 sR R_text k1 kx58 post nf23 l2_52) ∧ (¬ (R_text ((sR 5) + l2).toNatClampNeg) = ((skB k1).getD l2.toNatClampNeg 0) → post (0 : Int32)))))
def wpX8_isWord (sR : AR) (R_text : AR) (k1 : Nat) (post : Int32 → Prop) : Prop := ((¬ (sR 7) = (1 : Int32) → post (0 : Int32)) ∧ ((sR 7) = (1 : Int32) → k1 < 50 ∧ (((sR 4) = (nI (skB k1).length) → ∃ nf23 : Nat, wpX8_isWord_L23 sR R_text k1 (fun l2_58 => post (1 : Int32)) post nf23 (0 : Int32)) ∧ (¬ (sR 4) = (nI (skB k1).length) → post (0 : Int32)))))
set_option maxHeartbeats 4000000 in
set_option maxRecDepth 100000 in
theorem ctX8_isWord (l : Launch) (D : va_G) (cy : Nat → ClassId) (ev : Nat → Nat) (h0 : Nat) (rR : Nat → Nat) (sR : AR) (R_text : AR) (k1 : Nat) (sz : Nat) (post : Int32 → Prop) (h : wpX8_isWord sR R_text k1 post) : Met l yX8_isWord (Cond.code yX8_isWord cX8_isWord 3 (some .boolean) :: TB) ({ frames := 4, cells := 0, slots := 0, locals := 200 }) (va_Pc [.ref h0, .ref (ev (2 * k1))] (PreX D cy ev [(h0, .inr (8, oX8 rR sR)), ((rR 0), .inl (cy 1, 500, .inl R_text))] sz)) (va_Qi (fun (r : Int32) (u : Unit) => post r) (fun u => BkX D cy [(h0, .inr (8, oX8 rR sR)), ((rR 0), .inl (cy 1, 500, .inl R_text))] sz [(h0, .inr (8, oX8 rR sR)), ((rR 0), .inl (cy 1, 500, .inl R_text))]) (va_A [(h0, .inr (8, oX8 rR sR)), ((rR 0), .inl (cy 1, 500, .inl R_text))] sz)) 0 0 (va_A [(h0, .inr (8, oX8 rR sR)), ((rR 0), .inl (cy 1, 500, .inl R_text))] sz) := by
  refine ofWi (by decide) (Nat.le_of_ble_eq_true rfl) ?_
  intro p e s m args below meth c ls A R QQ hx hb hml hown hts hR hlk hE hK hP hD hS hA hl hret
  have hown : s.vm.findClass RX8 = some m.cls := hown
  have hRf : 4 ≤ R.frames := by rw [hR]; exact Nat.le_refl _
  have hRl : 200 ≤ R.locals := by rw [hR]; exact Nat.le_refl _
  clear hR
  have hl : lv_has ls 3 [(0, .ref h0), (1, .ref (ev (2 * k1)))] := hl
  have L23 : ∀ (kx58 : Int32 → Prop), (∀ (l2 : Int32) (H : Heap) (locs : List Loc) (ls : Array Slot), kx58 l2 → va_P D clsX [(h0, .inr (8, oX8 rR sR)), ((rR 0), .inl (cy 1, 500, .inl R_text))] H → va_D A [(h0, .inr (8, oX8 rR sR)), ((rR 0), .inl (cy 1, 500, .inl R_text))] → va_S A s.heap H locs → lv_has ls 3 [(0, .ref h0), (1, .ref (ev (2 * k1)))] → W p l e R s m args below meth c H locs 0 0 QQ (F0 m 58 ls [])) → ∀ (nf23 : Nat) (l2 : Int32) (H : Heap) (locs : List Loc) (ls : Array Slot), wpX8_isWord_L23 sR R_text k1 kx58 post nf23 l2 → va_P D clsX [(h0, .inr (8, oX8 rR sR)), ((rR 0), .inl (cy 1, 500, .inl R_text))] H → va_D A [(h0, .inr (8, oX8 rR sR)), ((rR 0), .inl (cy 1, 500, .inl R_text))] → va_S A s.heap H locs → lv_has ls 3 [(0, .ref h0), (1, .ref (ev (2 * k1))), (2, .int l2)] → W p l e R s m args below meth c H locs 0 0 QQ (F0 m 23 ls []) := by
    intro kx58 hk23_58 nf23
    induction nf23 with
    | zero =>
      intro l2 H locs ls h
      exact (show False from h).elim
    | succ nf23 ih23 =>
      intro l2 H locs ls h hP hD hS hl
      refine lv_iload_n hx hb dX8_isWord_23 rfl (lv_at hl 2 rfl) ?_
      refine lv_aload_n hx hb dX8_isWord_24 rfl (lv_at hl 0 rfl) ?_
      refine gfX8_49 (v := (sR 4)) hx hb hts hown hK hP 0 rfl rfl dX8_isWord_25 ?_
      refine lv_icmp_ge (tgt := 58) hx hb dX8_isWord_28 (by decide) (fun c28 => ?_) (fun c28 => ?_)
      · have h := h.1 c28
        exact hk23_58 l2 _ _ _ h hP hD hS (lv_sub hl [0, 1] rfl)
      · have h := h.2 c28
        refine lv_aload_n hx hb dX8_isWord_31 rfl (lv_at hl 0 rfl) ?_
        refine gfX8_9 hx hb hts hown hK hP 0 rfl dX8_isWord_32 ?_
        refine lv_aload_n hx hb dX8_isWord_35 rfl (lv_at hl 0 rfl) ?_
        refine gfX8_28 (v := (sR 5)) hx hb hts hown hK hP 0 rfl rfl dX8_isWord_36 ?_
        refine lv_iload_n hx hb dX8_isWord_39 rfl (lv_at hl 2 rfl) ?_
        refine lv_iadd hx hb dX8_isWord_40 ?_
        obtain ⟨hin, h⟩ := h
        refine ldb (k := ((sR 5) + l2).toNatClampNeg) hx hb hK hP 1 rfl hin rfl dX8_isWord_41 ?_
        refine lv_aload_n hx hb dX8_isWord_42 rfl (lv_at hl 1 rfl) ?_
        refine lv_iload_n hx hb dX8_isWord_43 rfl (lv_at hl 2 rfl) ?_
        obtain ⟨hk, h⟩ := h
        obtain ⟨hin, h⟩ := h
        refine strchr hx hb (hml.trans hl.1.symm) hts hown mw761 hE hK hP hD hS hA hk hin rfl (Nat.le_trans (by decide) hRf) (Nat.le_trans (by decide) hRl) (Nat.le_of_ble_eq_true rfl) ⟨Nat.zero_le _, Nat.zero_le _⟩ dX8_isWord_44 (fun H locs hP hD hS => ?_)
        refine lv_icmp_eq (tgt := 52) hx hb dX8_isWord_47 (by decide) (fun c47 => ?_) (fun c47 => ?_)
        · have h := h.1 c47
          obtain ⟨l2_52, el2_52⟩ : ∃ y : Int32, y = l2 + (1 : Int32) := ⟨_, rfl⟩
          have h := h l2_52 el2_52
          refine lv_iinc (v := l2_52) (lv' := [(2, .int l2_52), (0, .ref h0), (1, .ref (ev (2 * k1)))]) hx hb dX8_isWord_52 hl (k := 2) rfl (by rw [el2_52]; rfl) (by decide) rfl (fun ls hl => ?_)
          refine lv_goto (tgt := 23) hx hb dX8_isWord_55 (by decide) ?_
          exact ih23 l2_52 _ _ _ h hP hD hS (lv_sub hl [1, 2, 0] rfl)
        · have h := h.2 c47
          refine lv_iconst (v := (0 : Int32)) hx hb dX8_isWord_50 (by decide) ?_
          exact hret (0 : Int32) () _ _ _ _ rfl dX8_isWord_51 h hP hD hS
  refine lv_aload_n hx hb dX8_isWord_0 rfl (lv_at hl 0 rfl) ?_
  refine gfX8_46 (v := (sR 7)) hx hb hts hown hK hP 0 rfl rfl dX8_isWord_1 ?_
  refine lv_iconst (v := (1 : Int32)) hx hb dX8_isWord_4 (by decide) ?_
  refine lv_icmp_ne (tgt := 19) hx hb dX8_isWord_5 (by decide) (fun c5 => ?_) (fun c5 => ?_)
  · have h := h.1 c5
    refine lv_iconst (v := (0 : Int32)) hx hb dX8_isWord_19 (by decide) ?_
    exact hret (0 : Int32) () _ _ _ _ rfl dX8_isWord_20 h hP hD hS
  · have h := h.2 c5
    refine lv_aload_n hx hb dX8_isWord_8 rfl (lv_at hl 0 rfl) ?_
    refine gfX8_49 (v := (sR 4)) hx hb hts hown hK hP 0 rfl rfl dX8_isWord_9 ?_
    refine lv_aload_n hx hb dX8_isWord_12 rfl (lv_at hl 1 rfl) ?_
    obtain ⟨hk, h⟩ := h
    refine strlen hx hb (hml.trans hl.1.symm) hts hown mw751 hE hK hP hD hS hA hk rfl (Nat.le_trans (by decide) hRf) (Nat.le_trans (by decide) hRl) (Nat.le_of_ble_eq_true rfl) ⟨Nat.zero_le _, Nat.zero_le _⟩ dX8_isWord_13 (fun H locs hP hD hS => ?_)
    refine lv_icmp_eq (tgt := 21) hx hb dX8_isWord_16 (by decide) (fun c16 => ?_) (fun c16 => ?_)
    · have h := h.1 c16
      refine lv_iconst (v := (0 : Int32)) hx hb dX8_isWord_21 (by decide) ?_
      refine lv_istore_n (lv' := [(2, .int (0 : Int32)), (0, .ref h0), (1, .ref (ev (2 * k1)))]) hx hb dX8_isWord_22 rfl hl (by decide) rfl (fun ls hl => ?_)
      obtain ⟨nf23, h⟩ := h
      refine L23  _ (fun l2_58 H locs ls h hP hD hS hl => ?_) nf23 (0 : Int32) _ _ _ h hP hD hS (lv_sub hl [1, 2, 0] rfl)
      refine lv_iconst (v := (1 : Int32)) hx hb dX8_isWord_58 (by decide) ?_
      exact hret (1 : Int32) () _ _ _ _ rfl dX8_isWord_59 h hP hD hS
    · have h := h.2 c16
      refine lv_iconst (v := (0 : Int32)) hx hb dX8_isWord_19 (by decide) ?_
      exact hret (0 : Int32) () _ _ _ _ rfl dX8_isWord_20 h hP hD hS
def wpX8_isSign (sR : AR) (R_text : AR) (x1 : Int32) (post : Int32 → Prop) : Prop := ((¬ (sR 7) = (3 : Int32) → post (0 : Int32)) ∧ ((sR 7) = (3 : Int32) → vp_in (sR 5) 500 ∧ ((¬ (R_text (sR 5).toNatClampNeg) = x1 → post (0 : Int32)) ∧ ((R_text (sR 5).toNatClampNeg) = x1 → post (1 : Int32)))))
set_option maxHeartbeats 4000000 in
set_option maxRecDepth 100000 in
theorem ctX8_isSign (l : Launch) (D : va_G) (cy : Nat → ClassId) (ev : Nat → Nat) (h0 : Nat) (rR : Nat → Nat) (sR : AR) (R_text : AR) (x1 : Int32) (sz : Nat) (post : Int32 → Prop) (h : wpX8_isSign sR R_text x1 post) : Met l yX8_isSign (Cond.code yX8_isSign cX8_isSign 2 (some .boolean) :: TB) ({ frames := 0, cells := 0, slots := 0, locals := 0 }) (va_Pc [.ref h0, .int x1] (PreX D cy ev [(h0, .inr (8, oX8 rR sR)), ((rR 0), .inl (cy 1, 500, .inl R_text))] sz)) (va_Qi (fun (r : Int32) (u : Unit) => post r) (fun u => BkX D cy [(h0, .inr (8, oX8 rR sR)), ((rR 0), .inl (cy 1, 500, .inl R_text))] sz [(h0, .inr (8, oX8 rR sR)), ((rR 0), .inl (cy 1, 500, .inl R_text))]) (va_A [(h0, .inr (8, oX8 rR sR)), ((rR 0), .inl (cy 1, 500, .inl R_text))] sz)) 0 0 (va_A [(h0, .inr (8, oX8 rR sR)), ((rR 0), .inl (cy 1, 500, .inl R_text))] sz) := by
  refine ofWi (by decide) (Nat.le_of_ble_eq_true rfl) ?_
  intro p e s m args below meth c ls A R QQ hx hb hml hown hts hR hlk hE hK hP hD hS hA hl hret
  have hown : s.vm.findClass RX8 = some m.cls := hown
  have hRf : 0 ≤ R.frames := by rw [hR]; exact Nat.le_refl _
  have hRl : 0 ≤ R.locals := by rw [hR]; exact Nat.le_refl _
  clear hR
  have hl : lv_has ls 2 [(0, .ref h0), (1, .int x1)] := hl
  refine lv_aload_n hx hb dX8_isSign_0 rfl (lv_at hl 0 rfl) ?_
  refine gfX8_46 (v := (sR 7)) hx hb hts hown hK hP 0 rfl rfl dX8_isSign_1 ?_
  refine lv_iconst (v := (3 : Int32)) hx hb dX8_isSign_4 (by decide) ?_
  refine lv_icmp_ne (tgt := 25) hx hb dX8_isSign_5 (by decide) (fun c5 => ?_) (fun c5 => ?_)
  · have h := h.1 c5
    refine lv_iconst (v := (0 : Int32)) hx hb dX8_isSign_25 (by decide) ?_
    exact hret (0 : Int32) () _ _ _ _ rfl dX8_isSign_26 h hP hD hS
  · have h := h.2 c5
    refine lv_aload_n hx hb dX8_isSign_8 rfl (lv_at hl 0 rfl) ?_
    refine gfX8_9 hx hb hts hown hK hP 0 rfl dX8_isSign_9 ?_
    refine lv_aload_n hx hb dX8_isSign_12 rfl (lv_at hl 0 rfl) ?_
    refine gfX8_28 (v := (sR 5)) hx hb hts hown hK hP 0 rfl rfl dX8_isSign_13 ?_
    obtain ⟨hin, h⟩ := h
    refine ldb (k := (sR 5).toNatClampNeg) hx hb hK hP 1 rfl hin rfl dX8_isSign_16 ?_
    refine lv_iload_n hx hb dX8_isSign_17 rfl (lv_at hl 1 rfl) ?_
    refine lv_icmp_ne (tgt := 25) hx hb dX8_isSign_18 (by decide) (fun c18 => ?_) (fun c18 => ?_)
    · have h := h.1 c18
      refine lv_iconst (v := (0 : Int32)) hx hb dX8_isSign_25 (by decide) ?_
      exact hret (0 : Int32) () _ _ _ _ rfl dX8_isSign_26 h hP hD hS
    · have h := h.2 c18
      refine lv_iconst (v := (1 : Int32)) hx hb dX8_isSign_21 (by decide) ?_
      refine lv_goto (tgt := 26) hx hb dX8_isSign_22 (by decide) ?_
      exact hret (1 : Int32) () _ _ _ _ rfl dX8_isSign_26 h hP hD hS
def wpX8_passSign (sR : AR) (R_text : AR) (x1 : Int32) (post : Int32 → AR → Prop) : Prop := wpX8_isSign sR R_text x1 (fun r2 => ((¬ r2 = 0 → wpX8_advance sR R_text (fun sR_15 => post (1 : Int32) sR_15)) ∧ (r2 = 0 → wpX8_refuse sR (1 : Int32) (fun r10 sR_10 => narrow .boolean (.int r10) = .int r10 ∧ post r10 sR_10))))
set_option maxHeartbeats 4000000 in
set_option maxRecDepth 100000 in
theorem ctX8_passSign (l : Launch) (D : va_G) (cy : Nat → ClassId) (ev : Nat → Nat) (h0 : Nat) (rR : Nat → Nat) (sR : AR) (R_text : AR) (x1 : Int32) (sz : Nat) (post : Int32 → AR → Prop) (h : wpX8_passSign sR R_text x1 post) : Met l yX8_passSign (Cond.code yX8_passSign cX8_passSign 2 (some .boolean) :: TB) ({ frames := 1, cells := 0, slots := 0, locals := 21 }) (va_Pc [.ref h0, .int x1] (PreX D cy ev [(h0, .inr (8, oX8 rR sR)), ((rR 0), .inl (cy 1, 500, .inl R_text))] sz)) (va_Qi (fun (r : Int32) (u : AR) => post r u) (fun u => BkX D cy [(h0, .inr (8, oX8 rR sR)), ((rR 0), .inl (cy 1, 500, .inl R_text))] sz [(h0, .inr (8, oX8 rR u)), ((rR 0), .inl (cy 1, 500, .inl R_text))]) (va_A [(h0, .inr (8, oX8 rR sR)), ((rR 0), .inl (cy 1, 500, .inl R_text))] sz)) 0 0 (va_A [(h0, .inr (8, oX8 rR sR)), ((rR 0), .inl (cy 1, 500, .inl R_text))] sz) := by
  refine ofWi (by decide) (Nat.le_of_ble_eq_true rfl) ?_
  intro p e s m args below meth c ls A R QQ hx hb hml hown hts hR hlk hE hK hP hD hS hA hl hret
  have hown : s.vm.findClass RX8 = some m.cls := hown
  have hRf : 1 ≤ R.frames := by rw [hR]; exact Nat.le_refl _
  have hRl : 21 ≤ R.locals := by rw [hR]; exact Nat.le_refl _
  clear hR
  have hl : lv_has ls 2 [(0, .ref h0), (1, .int x1)] := hl
  refine lv_aload_n hx hb dX8_passSign_0 rfl (lv_at hl 0 rfl) ?_
  refine lv_iload_n hx hb dX8_passSign_1 rfl (lv_at hl 1 rfl) ?_
  refine clVi (As := [.int x1]) (rest := []) (Wr := []) (cq := (RX8, TX8, 10)) ⟨hx, hb, hml, hown, hts⟩ ⟨callB_of 1 hts (goodC mw879) rfl rfl rfl (hts _ (tb mw2)) (hts _ (tb mw876)) kdX8_isSign ⟨Nat.le_trans (by decide) hRf, Nat.le_trans (by decide) hRl⟩, hts _ (tb mw877), hts _ (tb mw878)⟩ (ctX8_isSign l D cy ev h0 rR sR R_text x1 _ _ h) hE hK hP hD hS hA [0, 1] [] rfl rfl (by decide) (by decide) (by decide) 0 rfl rfl rfl hl.1 rfl (Nat.le_of_ble_eq_true rfl) ⟨Nat.zero_le _, Nat.zero_le _⟩ dX8_passSign_2 (fun r2 u H locs h hP hD hS => ?_)
  have hP : va_P D clsX [(h0, .inr (8, oX8 rR sR)), ((rR 0), .inl (cy 1, 500, .inl R_text))] H := hP
  have hD : va_D A [(h0, .inr (8, oX8 rR sR)), ((rR 0), .inl (cy 1, 500, .inl R_text))] := hD
  refine lv_if_ne (tgt := 14) hx hb dX8_passSign_5 (by decide) (fun c5 => ?_) (fun c5 => ?_)
  · have h := h.1 c5
    refine lv_aload_n hx hb dX8_passSign_14 rfl (lv_at hl 0 rfl) ?_
    refine clVv (As := []) (rest := []) (Wr := []) (cq := (RX8, TX8, 10)) ⟨hx, hb, hml, hown, hts⟩ ⟨callB_of 0 hts (goodC mw736) rfl rfl rfl (hts _ (tb mw2)) (hts _ (tb mw733)) kdX8_advance ⟨Nat.le_trans (by decide) hRf, Nat.le_trans (by decide) hRl⟩, hts _ (tb mw734), hts _ (tb mw735)⟩ (ctX8_advance l D cy ev h0 rR sR R_text  _ _ h) hE hK hP hD hS hA [0, 1] [] rfl rfl (by decide) (by decide) (by decide) 0 rfl rfl rfl hl.1 rfl (Nat.le_of_ble_eq_true rfl) ⟨Nat.zero_le _, Nat.zero_le _⟩ dX8_passSign_15 (fun sR_15 H locs h hP hD hS => ?_)
    have hP : va_P D clsX [(h0, .inr (8, oX8 rR sR_15)), ((rR 0), .inl (cy 1, 500, .inl R_text))] H := hP
    have hD : va_D A [(h0, .inr (8, oX8 rR sR_15)), ((rR 0), .inl (cy 1, 500, .inl R_text))] := hD
    refine lv_iconst (v := (1 : Int32)) hx hb dX8_passSign_18 (by decide) ?_
    exact hret (1 : Int32) (sR_15) _ _ _ _ rfl dX8_passSign_19 h hP hD hS
  · have h := h.2 c5
    refine lv_aload_n hx hb dX8_passSign_8 rfl (lv_at hl 0 rfl) ?_
    refine lv_iconst (v := (1 : Int32)) hx hb dX8_passSign_9 (by decide) ?_
    refine clVi (As := [.int (1 : Int32)]) (rest := []) (Wr := [((rR 0), .inl (cy 1, 500, .inl R_text))]) (cq := (RX8, TX8, 10)) ⟨hx, hb, hml, hown, hts⟩ ⟨callB_of 1 hts (goodC mw811) rfl rfl rfl (hts _ (tb mw2)) (hts _ (tb mw808)) kdX8_refuse ⟨Nat.le_trans (by decide) hRf, Nat.le_trans (by decide) hRl⟩, hts _ (tb mw809), hts _ (tb mw810)⟩ (ctX8_refuse l D cy ev h0 rR sR (1 : Int32) _ _ h) hE hK hP hD hS hA [0] [1] rfl rfl (by decide) (by decide) (by decide) 0 rfl rfl rfl hl.1 rfl (Nat.le_of_ble_eq_true rfl) ⟨Nat.zero_le _, Nat.zero_le _⟩ dX8_passSign_10 (fun r10 sR_10 H locs h hP hD hS => ?_)
    have hP : va_P D clsX [((rR 0), .inl (cy 1, 500, .inl R_text)), (h0, .inr (8, oX8 rR sR_10))] H := hP
    have hD : va_D A [((rR 0), .inl (cy 1, 500, .inl R_text)), (h0, .inr (8, oX8 rR sR_10))] := hD
    obtain ⟨hz, h⟩ := h
    exact hret r10 (sR_10) _ _ _ _ hz dX8_passSign_13 h (hP.sub [1, 0] rfl) (hD.sub [1, 0] (by decide) rfl) hS
