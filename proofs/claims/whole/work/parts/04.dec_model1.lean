theorem dX12_init_0 : decode cX12_init 0 = .ok (.aload_n 0, 1) := by decide +kernel
theorem dX12_init_1 : decode cX12_init 1 = .ok (.invokespecial 1, 3) := by decide +kernel
theorem dX12_init_4 : decode cX12_init 4 = .ok (.aload_n 0, 1) := by decide +kernel
theorem dX12_init_5 : decode cX12_init 5 = .ok (.sipush 900, 3) := by decide +kernel
theorem dX12_init_8 : decode cX12_init 8 = .ok (.newarray .int, 2) := by decide +kernel
theorem dX12_init_10 : decode cX12_init 10 = .ok (.putfield 7, 3) := by decide +kernel
theorem dX12_init_13 : decode cX12_init 13 = .ok (.aload_n 0, 1) := by decide +kernel
theorem dX12_init_14 : decode cX12_init 14 = .ok (.iconst (-1), 1) := by decide +kernel
theorem dX12_init_15 : decode cX12_init 15 = .ok (.putfield 13, 3) := by decide +kernel
theorem dX12_init_18 : decode cX12_init 18 = .ok (.aload_n 0, 1) := by decide +kernel
theorem dX12_init_19 : decode cX12_init 19 = .ok (.bipush 8, 2) := by decide +kernel
theorem dX12_init_21 : decode cX12_init 21 = .ok (.newarray .int, 2) := by decide +kernel
theorem dX12_init_23 : decode cX12_init 23 = .ok (.putfield 17, 3) := by decide +kernel
theorem dX12_init_26 : decode cX12_init 26 = .ok (.aload_n 0, 1) := by decide +kernel
theorem dX12_init_27 : decode cX12_init 27 = .ok (.bipush 6, 2) := by decide +kernel
theorem dX12_init_29 : decode cX12_init 29 = .ok (.newarray .int, 2) := by decide +kernel
theorem dX12_init_31 : decode cX12_init 31 = .ok (.putfield 20, 3) := by decide +kernel
theorem dX12_init_34 : decode cX12_init 34 = .ok (.aload_n 0, 1) := by decide +kernel
theorem dX12_init_35 : decode cX12_init 35 = .ok (.bipush 12, 2) := by decide +kernel
theorem dX12_init_37 : decode cX12_init 37 = .ok (.newarray .int, 2) := by decide +kernel
theorem dX12_init_39 : decode cX12_init 39 = .ok (.putfield 23, 3) := by decide +kernel
theorem dX12_init_42 : decode cX12_init 42 = .ok (.aload_n 0, 1) := by decide +kernel
theorem dX12_init_43 : decode cX12_init 43 = .ok (.bipush 12, 2) := by decide +kernel
theorem dX12_init_45 : decode cX12_init 45 = .ok (.newarray .int, 2) := by decide +kernel
theorem dX12_init_47 : decode cX12_init 47 = .ok (.putfield 26, 3) := by decide +kernel
theorem dX12_init_50 : decode cX12_init 50 = .ok (.aload_n 0, 1) := by decide +kernel
theorem dX12_init_51 : decode cX12_init 51 = .ok (.sipush 2000, 3) := by decide +kernel
theorem dX12_init_54 : decode cX12_init 54 = .ok (.newarray .int, 2) := by decide +kernel
theorem dX12_init_56 : decode cX12_init 56 = .ok (.putfield 29, 3) := by decide +kernel
theorem dX12_init_59 : decode cX12_init 59 = .ok (.aload_n 0, 1) := by decide +kernel
theorem dX12_init_60 : decode cX12_init 60 = .ok (.sipush 2000, 3) := by decide +kernel
theorem dX12_init_63 : decode cX12_init 63 = .ok (.newarray .int, 2) := by decide +kernel
theorem dX12_init_65 : decode cX12_init 65 = .ok (.putfield 32, 3) := by decide +kernel
theorem dX12_init_68 : decode cX12_init 68 = .ok (.aload_n 0, 1) := by decide +kernel
theorem dX12_init_69 : decode cX12_init 69 = .ok (.sipush 2000, 3) := by decide +kernel
theorem dX12_init_72 : decode cX12_init 72 = .ok (.newarray .int, 2) := by decide +kernel
theorem dX12_init_74 : decode cX12_init 74 = .ok (.putfield 35, 3) := by decide +kernel
theorem dX12_init_77 : decode cX12_init 77 = .ok (.aload_n 0, 1) := by decide +kernel
theorem dX12_init_78 : decode cX12_init 78 = .ok (.iconst 4, 1) := by decide +kernel
theorem dX12_init_79 : decode cX12_init 79 = .ok (.newarray .int, 2) := by decide +kernel
theorem dX12_init_81 : decode cX12_init 81 = .ok (.putfield 38, 3) := by decide +kernel
theorem dX12_init_84 : decode cX12_init 84 = .ok (.aload_n 0, 1) := by decide +kernel
theorem dX12_init_85 : decode cX12_init 85 = .ok (.iconst 4, 1) := by decide +kernel
theorem dX12_init_86 : decode cX12_init 86 = .ok (.newarray .int, 2) := by decide +kernel
theorem dX12_init_88 : decode cX12_init 88 = .ok (.putfield 41, 3) := by decide +kernel
theorem dX12_init_91 : decode cX12_init 91 = .ok (.aload_n 0, 1) := by decide +kernel
theorem dX12_init_92 : decode cX12_init 92 = .ok (.iconst 4, 1) := by decide +kernel
theorem dX12_init_93 : decode cX12_init 93 = .ok (.newarray .long, 2) := by decide +kernel
theorem dX12_init_95 : decode cX12_init 95 = .ok (.putfield 44, 3) := by decide +kernel
theorem dX12_init_98 : decode cX12_init 98 = .ok (.aload_n 0, 1) := by decide +kernel
theorem dX12_init_99 : decode cX12_init 99 = .ok (.sipush 400, 3) := by decide +kernel
theorem dX12_init_102 : decode cX12_init 102 = .ok (.newarray .int, 2) := by decide +kernel
theorem dX12_init_104 : decode cX12_init 104 = .ok (.putfield 48, 3) := by decide +kernel
theorem dX12_init_107 : decode cX12_init 107 = .ok (.aload_n 0, 1) := by decide +kernel
theorem dX12_init_108 : decode cX12_init 108 = .ok (.sipush 400, 3) := by decide +kernel
theorem dX12_init_111 : decode cX12_init 111 = .ok (.newarray .long, 2) := by decide +kernel
theorem dX12_init_113 : decode cX12_init 113 = .ok (.putfield 51, 3) := by decide +kernel
theorem dX12_init_116 : decode cX12_init 116 = .ok (.aload_n 0, 1) := by decide +kernel
theorem dX12_init_117 : decode cX12_init 117 = .ok (.sipush 400, 3) := by decide +kernel
theorem dX12_init_120 : decode cX12_init 120 = .ok (.newarray .long, 2) := by decide +kernel
theorem dX12_init_122 : decode cX12_init 122 = .ok (.putfield 54, 3) := by decide +kernel
theorem dX12_init_125 : decode cX12_init 125 = .ok (.aload_n 0, 1) := by decide +kernel
theorem dX12_init_126 : decode cX12_init 126 = .ok (.sipush 400, 3) := by decide +kernel
theorem dX12_init_129 : decode cX12_init 129 = .ok (.newarray .long, 2) := by decide +kernel
theorem dX12_init_131 : decode cX12_init 131 = .ok (.putfield 57, 3) := by decide +kernel
theorem dX12_init_134 : decode cX12_init 134 = .ok (.aload_n 0, 1) := by decide +kernel
theorem dX12_init_135 : decode cX12_init 135 = .ok (.sipush 400, 3) := by decide +kernel
theorem dX12_init_138 : decode cX12_init 138 = .ok (.newarray .int, 2) := by decide +kernel
theorem dX12_init_140 : decode cX12_init 140 = .ok (.putfield 60, 3) := by decide +kernel
theorem dX12_init_143 : decode cX12_init 143 = .ok (.aload_n 0, 1) := by decide +kernel
theorem dX12_init_144 : decode cX12_init 144 = .ok (.sipush 400, 3) := by decide +kernel
theorem dX12_init_147 : decode cX12_init 147 = .ok (.newarray .int, 2) := by decide +kernel
theorem dX12_init_149 : decode cX12_init 149 = .ok (.putfield 63, 3) := by decide +kernel
theorem dX12_init_152 : decode cX12_init 152 = .ok (.aload_n 0, 1) := by decide +kernel
theorem dX12_init_153 : decode cX12_init 153 = .ok (.sipush 400, 3) := by decide +kernel
theorem dX12_init_156 : decode cX12_init 156 = .ok (.newarray .int, 2) := by decide +kernel
theorem dX12_init_158 : decode cX12_init 158 = .ok (.putfield 66, 3) := by decide +kernel
theorem dX12_init_161 : decode cX12_init 161 = .ok (.aload_n 0, 1) := by decide +kernel
theorem dX12_init_162 : decode cX12_init 162 = .ok (.bipush 64, 2) := by decide +kernel
theorem dX12_init_164 : decode cX12_init 164 = .ok (.newarray .long, 2) := by decide +kernel
theorem dX12_init_166 : decode cX12_init 166 = .ok (.putfield 69, 3) := by decide +kernel
theorem dX12_init_169 : decode cX12_init 169 = .ok (.aload_n 0, 1) := by decide +kernel
theorem dX12_init_170 : decode cX12_init 170 = .ok (.bipush 64, 2) := by decide +kernel
theorem dX12_init_172 : decode cX12_init 172 = .ok (.newarray .int, 2) := by decide +kernel
theorem dX12_init_174 : decode cX12_init 174 = .ok (.putfield 72, 3) := by decide +kernel
theorem dX12_init_177 : decode cX12_init 177 = .ok (.aload_n 0, 1) := by decide +kernel
theorem dX12_init_178 : decode cX12_init 178 = .ok (.bipush 8, 2) := by decide +kernel
theorem dX12_init_180 : decode cX12_init 180 = .ok (.newarray .long, 2) := by decide +kernel
theorem dX12_init_182 : decode cX12_init 182 = .ok (.putfield 75, 3) := by decide +kernel
theorem dX12_init_185 : decode cX12_init 185 = .ok (.aload_n 0, 1) := by decide +kernel
theorem dX12_init_186 : decode cX12_init 186 = .ok (.bipush 8, 2) := by decide +kernel
theorem dX12_init_188 : decode cX12_init 188 = .ok (.newarray .int, 2) := by decide +kernel
theorem dX12_init_190 : decode cX12_init 190 = .ok (.putfield 78, 3) := by decide +kernel
theorem dX12_init_193 : decode cX12_init 193 = .ok (.aload_n 0, 1) := by decide +kernel
theorem dX12_init_194 : decode cX12_init 194 = .ok (.bipush 48, 2) := by decide +kernel
theorem dX12_init_196 : decode cX12_init 196 = .ok (.newarray .long, 2) := by decide +kernel
theorem dX12_init_198 : decode cX12_init 198 = .ok (.putfield 81, 3) := by decide +kernel
theorem dX12_init_201 : decode cX12_init 201 = .ok (.aload_n 0, 1) := by decide +kernel
theorem dX12_init_202 : decode cX12_init 202 = .ok (.bipush 48, 2) := by decide +kernel
theorem dX12_init_204 : decode cX12_init 204 = .ok (.newarray .int, 2) := by decide +kernel
theorem dX12_init_206 : decode cX12_init 206 = .ok (.putfield 84, 3) := by decide +kernel
theorem dX12_init_209 : decode cX12_init 209 = .ok (.aload_n 0, 1) := by decide +kernel
theorem dX12_init_210 : decode cX12_init 210 = .ok (.bipush 20, 2) := by decide +kernel
theorem dX12_init_212 : decode cX12_init 212 = .ok (.newarray .long, 2) := by decide +kernel
theorem dX12_init_214 : decode cX12_init 214 = .ok (.putfield 87, 3) := by decide +kernel
theorem dX12_init_217 : decode cX12_init 217 = .ok (.aload_n 0, 1) := by decide +kernel
theorem dX12_init_218 : decode cX12_init 218 = .ok (.bipush 20, 2) := by decide +kernel
theorem dX12_init_220 : decode cX12_init 220 = .ok (.newarray .int, 2) := by decide +kernel
theorem dX12_init_222 : decode cX12_init 222 = .ok (.putfield 90, 3) := by decide +kernel
theorem dX12_init_225 : decode cX12_init 225 = .ok (.aload_n 0, 1) := by decide +kernel
theorem dX12_init_226 : decode cX12_init 226 = .ok (.sipush 3000, 3) := by decide +kernel
theorem dX12_init_229 : decode cX12_init 229 = .ok (.newarray .int, 2) := by decide +kernel
theorem dX12_init_231 : decode cX12_init 231 = .ok (.putfield 93, 3) := by decide +kernel
theorem dX12_init_234 : decode cX12_init 234 = .ok (.aload_n 0, 1) := by decide +kernel
theorem dX12_init_235 : decode cX12_init 235 = .ok (.sipush 1000, 3) := by decide +kernel
theorem dX12_init_238 : decode cX12_init 238 = .ok (.newarray .int, 2) := by decide +kernel
theorem dX12_init_240 : decode cX12_init 240 = .ok (.putfield 96, 3) := by decide +kernel
theorem dX12_init_243 : decode cX12_init 243 = .ok (.aload_n 0, 1) := by decide +kernel
theorem dX12_init_244 : decode cX12_init 244 = .ok (.sipush 400, 3) := by decide +kernel
theorem dX12_init_247 : decode cX12_init 247 = .ok (.newarray .boolean, 2) := by decide +kernel
theorem dX12_init_249 : decode cX12_init 249 = .ok (.putfield 99, 3) := by decide +kernel
theorem dX12_init_252 : decode cX12_init 252 = .ok (.aload_n 0, 1) := by decide +kernel
theorem dX12_init_253 : decode cX12_init 253 = .ok (.sipush 400, 3) := by decide +kernel
theorem dX12_init_256 : decode cX12_init 256 = .ok (.newarray .boolean, 2) := by decide +kernel
theorem dX12_init_258 : decode cX12_init 258 = .ok (.putfield 103, 3) := by decide +kernel
theorem dX12_init_261 : decode cX12_init 261 = .ok (.aload_n 0, 1) := by decide +kernel
theorem dX12_init_262 : decode cX12_init 262 = .ok (.sipush 400, 3) := by decide +kernel
theorem dX12_init_265 : decode cX12_init 265 = .ok (.newarray .boolean, 2) := by decide +kernel
theorem dX12_init_267 : decode cX12_init 267 = .ok (.putfield 106, 3) := by decide +kernel
theorem dX12_init_270 : decode cX12_init 270 = .ok (.aload_n 0, 1) := by decide +kernel
theorem dX12_init_271 : decode cX12_init 271 = .ok (.sipush 400, 3) := by decide +kernel
theorem dX12_init_274 : decode cX12_init 274 = .ok (.newarray .long, 2) := by decide +kernel
theorem dX12_init_276 : decode cX12_init 276 = .ok (.putfield 109, 3) := by decide +kernel
theorem dX12_init_279 : decode cX12_init 279 = .ok (.aload_n 0, 1) := by decide +kernel
theorem dX12_init_280 : decode cX12_init 280 = .ok (.sipush 400, 3) := by decide +kernel
theorem dX12_init_283 : decode cX12_init 283 = .ok (.newarray .long, 2) := by decide +kernel
theorem dX12_init_285 : decode cX12_init 285 = .ok (.putfield 112, 3) := by decide +kernel
theorem dX12_init_288 : decode cX12_init 288 = .ok (.aload_n 0, 1) := by decide +kernel
theorem dX12_init_289 : decode cX12_init 289 = .ok (.sipush 400, 3) := by decide +kernel
theorem dX12_init_292 : decode cX12_init 292 = .ok (.newarray .long, 2) := by decide +kernel
theorem dX12_init_294 : decode cX12_init 294 = .ok (.putfield 115, 3) := by decide +kernel
theorem dX12_init_297 : decode cX12_init 297 = .ok (.aload_n 0, 1) := by decide +kernel
theorem dX12_init_298 : decode cX12_init 298 = .ok (.bipush 80, 2) := by decide +kernel
theorem dX12_init_300 : decode cX12_init 300 = .ok (.newarray .long, 2) := by decide +kernel
theorem dX12_init_302 : decode cX12_init 302 = .ok (.putfield 118, 3) := by decide +kernel
theorem dX12_init_305 : decode cX12_init 305 = .ok (.aload_n 0, 1) := by decide +kernel
theorem dX12_init_306 : decode cX12_init 306 = .ok (.bipush 11, 2) := by decide +kernel
theorem dX12_init_308 : decode cX12_init 308 = .ok (.newarray .long, 2) := by decide +kernel
theorem dX12_init_310 : decode cX12_init 310 = .ok (.putfield 121, 3) := by decide +kernel
theorem dX12_init_313 : decode cX12_init 313 = .ok (.aload_n 0, 1) := by decide +kernel
theorem dX12_init_314 : decode cX12_init 314 = .ok (.sipush 3000, 3) := by decide +kernel
theorem dX12_init_317 : decode cX12_init 317 = .ok (.newarray .int, 2) := by decide +kernel
theorem dX12_init_319 : decode cX12_init 319 = .ok (.putfield 124, 3) := by decide +kernel
theorem dX12_init_322 : decode cX12_init 322 = .ok (.aload_n 0, 1) := by decide +kernel
theorem dX12_init_323 : decode cX12_init 323 = .ok (.sipush 8421, 3) := by decide +kernel
theorem dX12_init_326 : decode cX12_init 326 = .ok (.newarray .int, 2) := by decide +kernel
theorem dX12_init_328 : decode cX12_init 328 = .ok (.putfield 127, 3) := by decide +kernel
theorem dX12_init_331 : decode cX12_init 331 = .ok (.aload_n 0, 1) := by decide +kernel
theorem dX12_init_332 : decode cX12_init 332 = .ok (.sipush 8421, 3) := by decide +kernel
theorem dX12_init_335 : decode cX12_init 335 = .ok (.newarray .int, 2) := by decide +kernel
theorem dX12_init_337 : decode cX12_init 337 = .ok (.putfield 130, 3) := by decide +kernel
theorem dX12_init_340 : decode cX12_init 340 = .ok (.aload_n 0, 1) := by decide +kernel
theorem dX12_init_341 : decode cX12_init 341 = .ok (.iconst 3, 1) := by decide +kernel
theorem dX12_init_342 : decode cX12_init 342 = .ok (.newarray .int, 2) := by decide +kernel
theorem dX12_init_344 : decode cX12_init 344 = .ok (.putfield 133, 3) := by decide +kernel
theorem dX12_init_347 : decode cX12_init 347 = .ok (.aload_n 0, 1) := by decide +kernel
theorem dX12_init_348 : decode cX12_init 348 = .ok (.invokevirtual 136, 3) := by decide +kernel
theorem dX12_init_351 : decode cX12_init 351 = .ok (.aload_n 0, 1) := by decide +kernel
theorem dX12_init_352 : decode cX12_init 352 = .ok (.invokevirtual 139, 3) := by decide +kernel
theorem dX12_init_355 : decode cX12_init 355 = .ok (.return_, 1) := by decide +kernel
theorem dX12_thrown_0 : decode cX12_thrown 0 = .ok (.aload_n 0, 1) := by decide +kernel
theorem dX12_thrown_1 : decode cX12_thrown 1 = .ok (.getfield 142, 3) := by decide +kernel
theorem dX12_thrown_4 : decode cX12_thrown 4 = .ok (.ireturn, 1) := by decide +kernel
theorem dX12_feed_0 : decode cX12_feed 0 = .ok (.aload_n 0, 1) := by decide +kernel
theorem dX12_feed_1 : decode cX12_feed 1 = .ok (.iconst 0, 1) := by decide +kernel
theorem dX12_feed_2 : decode cX12_feed 2 = .ok (.putfield 142, 3) := by decide +kernel
theorem dX12_feed_5 : decode cX12_feed 5 = .ok (.aload_n 0, 1) := by decide +kernel
theorem dX12_feed_6 : decode cX12_feed 6 = .ok (.getfield 145, 3) := by decide +kernel
theorem dX12_feed_9 : decode cX12_feed 9 = .ok (.sipush 880, 3) := by decide +kernel
theorem dX12_feed_12 : decode cX12_feed 12 = .ok (.if_icmp .le 5, 3) := by decide +kernel
theorem dX12_feed_15 : decode cX12_feed 15 = .ok (.iconst (-1), 1) := by decide +kernel
theorem dX12_feed_16 : decode cX12_feed 16 = .ok (.ireturn, 1) := by decide +kernel
theorem dX12_feed_17 : decode cX12_feed 17 = .ok (.iconst 0, 1) := by decide +kernel
theorem dX12_feed_18 : decode cX12_feed 18 = .ok (.istore 6, 2) := by decide +kernel
theorem dX12_feed_20 : decode cX12_feed 20 = .ok (.iload 6, 2) := by decide +kernel
theorem dX12_feed_22 : decode cX12_feed 22 = .ok (.bipush 20, 2) := by decide +kernel
theorem dX12_feed_24 : decode cX12_feed 24 = .ok (.if_icmp .ge 86, 3) := by decide +kernel
theorem dX12_feed_27 : decode cX12_feed 27 = .ok (.iload 6, 2) := by decide +kernel
theorem dX12_feed_29 : decode cX12_feed 29 = .ok (.iconst 4, 1) := by decide +kernel
theorem dX12_feed_30 : decode cX12_feed 30 = .ok (.if_icmp .ge 7, 3) := by decide +kernel
theorem dX12_feed_33 : decode cX12_feed 33 = .ok (.iload_n 1, 1) := by decide +kernel
theorem dX12_feed_34 : decode cX12_feed 34 = .ok (.goto 39, 3) := by decide +kernel
theorem dX12_feed_37 : decode cX12_feed 37 = .ok (.iload 6, 2) := by decide +kernel
theorem dX12_feed_39 : decode cX12_feed 39 = .ok (.bipush 8, 2) := by decide +kernel
theorem dX12_feed_41 : decode cX12_feed 41 = .ok (.if_icmp .ge 7, 3) := by decide +kernel
theorem dX12_feed_44 : decode cX12_feed 44 = .ok (.iload_n 2, 1) := by decide +kernel
theorem dX12_feed_45 : decode cX12_feed 45 = .ok (.goto 28, 3) := by decide +kernel
theorem dX12_feed_48 : decode cX12_feed 48 = .ok (.iload 6, 2) := by decide +kernel
theorem dX12_feed_50 : decode cX12_feed 50 = .ok (.bipush 12, 2) := by decide +kernel
theorem dX12_feed_52 : decode cX12_feed 52 = .ok (.if_icmp .ge 7, 3) := by decide +kernel
theorem dX12_feed_55 : decode cX12_feed 55 = .ok (.iload_n 3, 1) := by decide +kernel
theorem dX12_feed_56 : decode cX12_feed 56 = .ok (.goto 17, 3) := by decide +kernel
theorem dX12_feed_59 : decode cX12_feed 59 = .ok (.iload 6, 2) := by decide +kernel
theorem dX12_feed_61 : decode cX12_feed 61 = .ok (.bipush 16, 2) := by decide +kernel
theorem dX12_feed_63 : decode cX12_feed 63 = .ok (.if_icmp .ge 8, 3) := by decide +kernel
theorem dX12_feed_66 : decode cX12_feed 66 = .ok (.iload 4, 2) := by decide +kernel
theorem dX12_feed_68 : decode cX12_feed 68 = .ok (.goto 5, 3) := by decide +kernel
theorem dX12_feed_71 : decode cX12_feed 71 = .ok (.iload 5, 2) := by decide +kernel
theorem dX12_feed_73 : decode cX12_feed 73 = .ok (.istore 7, 2) := by decide +kernel
theorem dX12_feed_75 : decode cX12_feed 75 = .ok (.aload_n 0, 1) := by decide +kernel
theorem dX12_feed_76 : decode cX12_feed 76 = .ok (.getfield 7, 3) := by decide +kernel
theorem dX12_feed_79 : decode cX12_feed 79 = .ok (.aload_n 0, 1) := by decide +kernel
theorem dX12_feed_80 : decode cX12_feed 80 = .ok (.getfield 145, 3) := by decide +kernel
theorem dX12_feed_83 : decode cX12_feed 83 = .ok (.iload 6, 2) := by decide +kernel
theorem dX12_feed_85 : decode cX12_feed 85 = .ok (.iadd, 1) := by decide +kernel
theorem dX12_feed_86 : decode cX12_feed 86 = .ok (.iload 7, 2) := by decide +kernel
theorem dX12_feed_88 : decode cX12_feed 88 = .ok (.bipush 24, 2) := by decide +kernel
theorem dX12_feed_90 : decode cX12_feed 90 = .ok (.bipush 8, 2) := by decide +kernel
theorem dX12_feed_92 : decode cX12_feed 92 = .ok (.iload 6, 2) := by decide +kernel
theorem dX12_feed_94 : decode cX12_feed 94 = .ok (.iconst 4, 1) := by decide +kernel
theorem dX12_feed_95 : decode cX12_feed 95 = .ok (.irem, 1) := by decide +kernel
theorem dX12_feed_96 : decode cX12_feed 96 = .ok (.imul, 1) := by decide +kernel
theorem dX12_feed_97 : decode cX12_feed 97 = .ok (.isub, 1) := by decide +kernel
theorem dX12_feed_98 : decode cX12_feed 98 = .ok (.ishr, 1) := by decide +kernel
theorem dX12_feed_99 : decode cX12_feed 99 = .ok (.sipush 255, 3) := by decide +kernel
theorem dX12_feed_102 : decode cX12_feed 102 = .ok (.iand, 1) := by decide +kernel
theorem dX12_feed_103 : decode cX12_feed 103 = .ok (.iastore, 1) := by decide +kernel
theorem dX12_feed_104 : decode cX12_feed 104 = .ok (.iinc 6 1, 3) := by decide +kernel
theorem dX12_feed_107 : decode cX12_feed 107 = .ok (.goto (-87), 3) := by decide +kernel
theorem dX12_feed_110 : decode cX12_feed 110 = .ok (.aload_n 0, 1) := by decide +kernel
theorem dX12_feed_111 : decode cX12_feed 111 = .ok (.dup, 1) := by decide +kernel
theorem dX12_feed_112 : decode cX12_feed 112 = .ok (.getfield 145, 3) := by decide +kernel
theorem dX12_feed_115 : decode cX12_feed 115 = .ok (.bipush 20, 2) := by decide +kernel
theorem dX12_feed_117 : decode cX12_feed 117 = .ok (.iadd, 1) := by decide +kernel
theorem dX12_feed_118 : decode cX12_feed 118 = .ok (.putfield 145, 3) := by decide +kernel
theorem dX12_feed_121 : decode cX12_feed 121 = .ok (.aload_n 0, 1) := by decide +kernel
theorem dX12_feed_122 : decode cX12_feed 122 = .ok (.getfield 145, 3) := by decide +kernel
theorem dX12_feed_125 : decode cX12_feed 125 = .ok (.ireturn, 1) := by decide +kernel
theorem dX12_here_0 : decode cX12_here 0 = .ok (.aload_n 0, 1) := by decide +kernel
theorem dX12_here_1 : decode cX12_here 1 = .ok (.getfield 148, 3) := by decide +kernel
theorem dX12_here_4 : decode cX12_here 4 = .ok (.aload_n 0, 1) := by decide +kernel
theorem dX12_here_5 : decode cX12_here 5 = .ok (.getfield 151, 3) := by decide +kernel
theorem dX12_here_8 : decode cX12_here 8 = .ok (.if_icmp .ge 15, 3) := by decide +kernel
theorem dX12_here_11 : decode cX12_here 11 = .ok (.aload_n 0, 1) := by decide +kernel
theorem dX12_here_12 : decode cX12_here 12 = .ok (.getfield 7, 3) := by decide +kernel
theorem dX12_here_15 : decode cX12_here 15 = .ok (.aload_n 0, 1) := by decide +kernel
theorem dX12_here_16 : decode cX12_here 16 = .ok (.getfield 148, 3) := by decide +kernel
theorem dX12_here_19 : decode cX12_here 19 = .ok (.iaload, 1) := by decide +kernel
theorem dX12_here_20 : decode cX12_here 20 = .ok (.goto 4, 3) := by decide +kernel
theorem dX12_here_23 : decode cX12_here 23 = .ok (.iconst (-1), 1) := by decide +kernel
theorem dX12_here_24 : decode cX12_here 24 = .ok (.ireturn, 1) := by decide +kernel
theorem dX12_isSmall_0 : decode cX12_isSmall 0 = .ok (.iload_n 0, 1) := by decide +kernel
theorem dX12_isSmall_1 : decode cX12_isSmall 1 = .ok (.bipush 97, 2) := by decide +kernel
theorem dX12_isSmall_3 : decode cX12_isSmall 3 = .ok (.if_icmp .lt 13, 3) := by decide +kernel
theorem dX12_isSmall_6 : decode cX12_isSmall 6 = .ok (.iload_n 0, 1) := by decide +kernel
theorem dX12_isSmall_7 : decode cX12_isSmall 7 = .ok (.bipush 122, 2) := by decide +kernel
theorem dX12_isSmall_9 : decode cX12_isSmall 9 = .ok (.if_icmp .gt 7, 3) := by decide +kernel
theorem dX12_isSmall_12 : decode cX12_isSmall 12 = .ok (.iconst 1, 1) := by decide +kernel
theorem dX12_isSmall_13 : decode cX12_isSmall 13 = .ok (.goto 4, 3) := by decide +kernel
theorem dX12_isSmall_16 : decode cX12_isSmall 16 = .ok (.iconst 0, 1) := by decide +kernel
theorem dX12_isSmall_17 : decode cX12_isSmall 17 = .ok (.ireturn, 1) := by decide +kernel
theorem dX12_isDigit_0 : decode cX12_isDigit 0 = .ok (.iload_n 0, 1) := by decide +kernel
theorem dX12_isDigit_1 : decode cX12_isDigit 1 = .ok (.bipush 48, 2) := by decide +kernel
theorem dX12_isDigit_3 : decode cX12_isDigit 3 = .ok (.if_icmp .lt 13, 3) := by decide +kernel
theorem dX12_isDigit_6 : decode cX12_isDigit 6 = .ok (.iload_n 0, 1) := by decide +kernel
theorem dX12_isDigit_7 : decode cX12_isDigit 7 = .ok (.bipush 57, 2) := by decide +kernel
theorem dX12_isDigit_9 : decode cX12_isDigit 9 = .ok (.if_icmp .gt 7, 3) := by decide +kernel
theorem dX12_isDigit_12 : decode cX12_isDigit 12 = .ok (.iconst 1, 1) := by decide +kernel
theorem dX12_isDigit_13 : decode cX12_isDigit 13 = .ok (.goto 4, 3) := by decide +kernel
theorem dX12_isDigit_16 : decode cX12_isDigit 16 = .ok (.iconst 0, 1) := by decide +kernel
theorem dX12_isDigit_17 : decode cX12_isDigit 17 = .ok (.ireturn, 1) := by decide +kernel
theorem dX12_isMark_0 : decode cX12_isMark 0 = .ok (.iload_n 0, 1) := by decide +kernel
theorem dX12_isMark_1 : decode cX12_isMark 1 = .ok (.bipush 59, 2) := by decide +kernel
theorem dX12_isMark_3 : decode cX12_isMark 3 = .ok (.if_icmp .eq 63, 3) := by decide +kernel
theorem dX12_isMark_6 : decode cX12_isMark 6 = .ok (.iload_n 0, 1) := by decide +kernel
theorem dX12_isMark_7 : decode cX12_isMark 7 = .ok (.bipush 61, 2) := by decide +kernel
theorem dX12_isMark_9 : decode cX12_isMark 9 = .ok (.if_icmp .eq 57, 3) := by decide +kernel
theorem dX12_isMark_12 : decode cX12_isMark 12 = .ok (.iload_n 0, 1) := by decide +kernel
theorem dX12_isMark_13 : decode cX12_isMark 13 = .ok (.bipush 60, 2) := by decide +kernel
theorem dX12_isMark_15 : decode cX12_isMark 15 = .ok (.if_icmp .eq 51, 3) := by decide +kernel
theorem dX12_isMark_18 : decode cX12_isMark 18 = .ok (.iload_n 0, 1) := by decide +kernel
theorem dX12_isMark_19 : decode cX12_isMark 19 = .ok (.bipush 91, 2) := by decide +kernel
theorem dX12_isMark_21 : decode cX12_isMark 21 = .ok (.if_icmp .eq 45, 3) := by decide +kernel
theorem dX12_isMark_24 : decode cX12_isMark 24 = .ok (.iload_n 0, 1) := by decide +kernel
theorem dX12_isMark_25 : decode cX12_isMark 25 = .ok (.bipush 93, 2) := by decide +kernel
theorem dX12_isMark_27 : decode cX12_isMark 27 = .ok (.if_icmp .eq 39, 3) := by decide +kernel
theorem dX12_isMark_30 : decode cX12_isMark 30 = .ok (.iload_n 0, 1) := by decide +kernel
theorem dX12_isMark_31 : decode cX12_isMark 31 = .ok (.bipush 40, 2) := by decide +kernel
theorem dX12_isMark_33 : decode cX12_isMark 33 = .ok (.if_icmp .eq 33, 3) := by decide +kernel
theorem dX12_isMark_36 : decode cX12_isMark 36 = .ok (.iload_n 0, 1) := by decide +kernel
theorem dX12_isMark_37 : decode cX12_isMark 37 = .ok (.bipush 41, 2) := by decide +kernel
theorem dX12_isMark_39 : decode cX12_isMark 39 = .ok (.if_icmp .eq 27, 3) := by decide +kernel
theorem dX12_isMark_42 : decode cX12_isMark 42 = .ok (.iload_n 0, 1) := by decide +kernel
theorem dX12_isMark_43 : decode cX12_isMark 43 = .ok (.bipush 43, 2) := by decide +kernel
theorem dX12_isMark_45 : decode cX12_isMark 45 = .ok (.if_icmp .eq 21, 3) := by decide +kernel
theorem dX12_isMark_48 : decode cX12_isMark 48 = .ok (.iload_n 0, 1) := by decide +kernel
theorem dX12_isMark_49 : decode cX12_isMark 49 = .ok (.bipush 45, 2) := by decide +kernel
theorem dX12_isMark_51 : decode cX12_isMark 51 = .ok (.if_icmp .eq 15, 3) := by decide +kernel
theorem dX12_isMark_54 : decode cX12_isMark 54 = .ok (.iload_n 0, 1) := by decide +kernel
theorem dX12_isMark_55 : decode cX12_isMark 55 = .ok (.bipush 42, 2) := by decide +kernel
theorem dX12_isMark_57 : decode cX12_isMark 57 = .ok (.if_icmp .eq 9, 3) := by decide +kernel
theorem dX12_isMark_60 : decode cX12_isMark 60 = .ok (.iload_n 0, 1) := by decide +kernel
theorem dX12_isMark_61 : decode cX12_isMark 61 = .ok (.bipush 47, 2) := by decide +kernel
theorem dX12_isMark_63 : decode cX12_isMark 63 = .ok (.if_icmp .ne 7, 3) := by decide +kernel
theorem dX12_isMark_66 : decode cX12_isMark 66 = .ok (.iconst 1, 1) := by decide +kernel
theorem dX12_isMark_67 : decode cX12_isMark 67 = .ok (.goto 4, 3) := by decide +kernel
theorem dX12_isMark_70 : decode cX12_isMark 70 = .ok (.iconst 0, 1) := by decide +kernel
theorem dX12_isMark_71 : decode cX12_isMark 71 = .ok (.ireturn, 1) := by decide +kernel
theorem dX12_token_0 : decode cX12_token 0 = .ok (.aload_n 0, 1) := by decide +kernel
theorem dX12_token_1 : decode cX12_token 1 = .ok (.invokevirtual 154, 3) := by decide +kernel
theorem dX12_token_4 : decode cX12_token 4 = .ok (.bipush 10, 2) := by decide +kernel
theorem dX12_token_6 : decode cX12_token 6 = .ok (.if_icmp .eq 12, 3) := by decide +kernel
theorem dX12_token_9 : decode cX12_token 9 = .ok (.aload_n 0, 1) := by decide +kernel
theorem dX12_token_10 : decode cX12_token 10 = .ok (.invokevirtual 154, 3) := by decide +kernel
theorem dX12_token_13 : decode cX12_token 13 = .ok (.bipush 32, 2) := by decide +kernel
theorem dX12_token_15 : decode cX12_token 15 = .ok (.if_icmp .ne 16, 3) := by decide +kernel
theorem dX12_token_18 : decode cX12_token 18 = .ok (.aload_n 0, 1) := by decide +kernel
theorem dX12_token_19 : decode cX12_token 19 = .ok (.dup, 1) := by decide +kernel
theorem dX12_token_20 : decode cX12_token 20 = .ok (.getfield 148, 3) := by decide +kernel
theorem dX12_token_23 : decode cX12_token 23 = .ok (.iconst 1, 1) := by decide +kernel
theorem dX12_token_24 : decode cX12_token 24 = .ok (.iadd, 1) := by decide +kernel
theorem dX12_token_25 : decode cX12_token 25 = .ok (.putfield 148, 3) := by decide +kernel
theorem dX12_token_28 : decode cX12_token 28 = .ok (.goto (-28), 3) := by decide +kernel
theorem dX12_token_31 : decode cX12_token 31 = .ok (.aload_n 0, 1) := by decide +kernel
theorem dX12_token_32 : decode cX12_token 32 = .ok (.aload_n 0, 1) := by decide +kernel
theorem dX12_token_33 : decode cX12_token 33 = .ok (.getfield 148, 3) := by decide +kernel
theorem dX12_token_36 : decode cX12_token 36 = .ok (.putfield 158, 3) := by decide +kernel
theorem dX12_token_39 : decode cX12_token 39 = .ok (.aload_n 0, 1) := by decide +kernel
theorem dX12_token_40 : decode cX12_token 40 = .ok (.invokevirtual 154, 3) := by decide +kernel
theorem dX12_token_43 : decode cX12_token 43 = .ok (.istore_n 1, 1) := by decide +kernel
theorem dX12_token_44 : decode cX12_token 44 = .ok (.iload_n 1, 1) := by decide +kernel
theorem dX12_token_45 : decode cX12_token 45 = .ok (.iconst (-1), 1) := by decide +kernel
theorem dX12_token_46 : decode cX12_token 46 = .ok (.if_icmp .ne 11, 3) := by decide +kernel
theorem dX12_token_49 : decode cX12_token 49 = .ok (.aload_n 0, 1) := by decide +kernel
theorem dX12_token_50 : decode cX12_token 50 = .ok (.iconst 3, 1) := by decide +kernel
theorem dX12_token_51 : decode cX12_token 51 = .ok (.putfield 161, 3) := by decide +kernel
theorem dX12_token_54 : decode cX12_token 54 = .ok (.goto 124, 3) := by decide +kernel
theorem dX12_token_57 : decode cX12_token 57 = .ok (.iload_n 1, 1) := by decide +kernel
theorem dX12_token_58 : decode cX12_token 58 = .ok (.invokestatic 164, 3) := by decide +kernel
theorem dX12_token_61 : decode cX12_token 61 = .ok (.ifCond .eq 10, 3) := by decide +kernel
theorem dX12_token_64 : decode cX12_token 64 = .ok (.aload_n 0, 1) := by decide +kernel
theorem dX12_token_65 : decode cX12_token 65 = .ok (.invokevirtual 168, 3) := by decide +kernel
theorem dX12_token_68 : decode cX12_token 68 = .ok (.goto 110, 3) := by decide +kernel
theorem dX12_token_71 : decode cX12_token 71 = .ok (.iload_n 1, 1) := by decide +kernel
theorem dX12_token_72 : decode cX12_token 72 = .ok (.invokestatic 171, 3) := by decide +kernel
theorem dX12_token_75 : decode cX12_token 75 = .ok (.ifCond .eq 72, 3) := by decide +kernel
theorem dX12_token_78 : decode cX12_token 78 = .ok (.aload_n 0, 1) := by decide +kernel
theorem dX12_token_79 : decode cX12_token 79 = .ok (.iconst 1, 1) := by decide +kernel
theorem dX12_token_80 : decode cX12_token 80 = .ok (.putfield 161, 3) := by decide +kernel
theorem dX12_token_83 : decode cX12_token 83 = .ok (.aload_n 0, 1) := by decide +kernel
theorem dX12_token_84 : decode cX12_token 84 = .ok (.iconst 0, 1) := by decide +kernel
theorem dX12_token_85 : decode cX12_token 85 = .ok (.putfield 174, 3) := by decide +kernel
theorem dX12_token_88 : decode cX12_token 88 = .ok (.aload_n 0, 1) := by decide +kernel
theorem dX12_token_89 : decode cX12_token 89 = .ok (.invokevirtual 154, 3) := by decide +kernel
theorem dX12_token_92 : decode cX12_token 92 = .ok (.invokestatic 171, 3) := by decide +kernel
theorem dX12_token_95 : decode cX12_token 95 = .ok (.ifCond .eq 83, 3) := by decide +kernel
theorem dX12_token_98 : decode cX12_token 98 = .ok (.aload_n 0, 1) := by decide +kernel
theorem dX12_token_99 : decode cX12_token 99 = .ok (.aload_n 0, 1) := by decide +kernel
theorem dX12_token_100 : decode cX12_token 100 = .ok (.getfield 174, 3) := by decide +kernel
theorem dX12_token_103 : decode cX12_token 103 = .ok (.sipush 9999, 3) := by decide +kernel
theorem dX12_token_106 : decode cX12_token 106 = .ok (.if_icmp .le 10, 3) := by decide +kernel
theorem dX12_token_109 : decode cX12_token 109 = .ok (.aload_n 0, 1) := by decide +kernel
theorem dX12_token_110 : decode cX12_token 110 = .ok (.getfield 174, 3) := by decide +kernel
theorem dX12_token_113 : decode cX12_token 113 = .ok (.goto 18, 3) := by decide +kernel
theorem dX12_token_116 : decode cX12_token 116 = .ok (.bipush 10, 2) := by decide +kernel
theorem dX12_token_118 : decode cX12_token 118 = .ok (.aload_n 0, 1) := by decide +kernel
theorem dX12_token_119 : decode cX12_token 119 = .ok (.getfield 174, 3) := by decide +kernel
theorem dX12_token_122 : decode cX12_token 122 = .ok (.imul, 1) := by decide +kernel
theorem dX12_token_123 : decode cX12_token 123 = .ok (.aload_n 0, 1) := by decide +kernel
theorem dX12_token_124 : decode cX12_token 124 = .ok (.invokevirtual 154, 3) := by decide +kernel
theorem dX12_token_127 : decode cX12_token 127 = .ok (.iadd, 1) := by decide +kernel
theorem dX12_token_128 : decode cX12_token 128 = .ok (.bipush 48, 2) := by decide +kernel
theorem dX12_token_130 : decode cX12_token 130 = .ok (.isub, 1) := by decide +kernel
theorem dX12_token_131 : decode cX12_token 131 = .ok (.putfield 174, 3) := by decide +kernel
theorem dX12_token_134 : decode cX12_token 134 = .ok (.aload_n 0, 1) := by decide +kernel
theorem dX12_token_135 : decode cX12_token 135 = .ok (.dup, 1) := by decide +kernel
theorem dX12_token_136 : decode cX12_token 136 = .ok (.getfield 148, 3) := by decide +kernel
theorem dX12_token_139 : decode cX12_token 139 = .ok (.iconst 1, 1) := by decide +kernel
theorem dX12_token_140 : decode cX12_token 140 = .ok (.iadd, 1) := by decide +kernel
theorem dX12_token_141 : decode cX12_token 141 = .ok (.putfield 148, 3) := by decide +kernel
theorem dX12_token_144 : decode cX12_token 144 = .ok (.goto (-56), 3) := by decide +kernel
theorem dX12_token_147 : decode cX12_token 147 = .ok (.aload_n 0, 1) := by decide +kernel
theorem dX12_token_148 : decode cX12_token 148 = .ok (.iload_n 1, 1) := by decide +kernel
theorem dX12_token_149 : decode cX12_token 149 = .ok (.invokestatic 177, 3) := by decide +kernel
theorem dX12_token_152 : decode cX12_token 152 = .ok (.ifCond .eq 7, 3) := by decide +kernel
theorem dX12_token_155 : decode cX12_token 155 = .ok (.iconst 2, 1) := by decide +kernel
theorem dX12_token_156 : decode cX12_token 156 = .ok (.goto 4, 3) := by decide +kernel
theorem dX12_token_159 : decode cX12_token 159 = .ok (.iconst 4, 1) := by decide +kernel
theorem dX12_token_160 : decode cX12_token 160 = .ok (.putfield 161, 3) := by decide +kernel
theorem dX12_token_163 : decode cX12_token 163 = .ok (.aload_n 0, 1) := by decide +kernel
theorem dX12_token_164 : decode cX12_token 164 = .ok (.iload_n 1, 1) := by decide +kernel
theorem dX12_token_165 : decode cX12_token 165 = .ok (.putfield 174, 3) := by decide +kernel
theorem dX12_token_168 : decode cX12_token 168 = .ok (.aload_n 0, 1) := by decide +kernel
theorem dX12_token_169 : decode cX12_token 169 = .ok (.dup, 1) := by decide +kernel
theorem dX12_token_170 : decode cX12_token 170 = .ok (.getfield 148, 3) := by decide +kernel
theorem dX12_token_173 : decode cX12_token 173 = .ok (.iconst 1, 1) := by decide +kernel
theorem dX12_token_174 : decode cX12_token 174 = .ok (.iadd, 1) := by decide +kernel
theorem dX12_token_175 : decode cX12_token 175 = .ok (.putfield 148, 3) := by decide +kernel
theorem dX12_token_178 : decode cX12_token 178 = .ok (.return_, 1) := by decide +kernel
theorem dX12_wordHere_0 : decode cX12_wordHere 0 = .ok (.aload_n 0, 1) := by decide +kernel
theorem dX12_wordHere_1 : decode cX12_wordHere 1 = .ok (.iconst 0, 1) := by decide +kernel
theorem dX12_wordHere_2 : decode cX12_wordHere 2 = .ok (.putfield 174, 3) := by decide +kernel
theorem dX12_wordHere_5 : decode cX12_wordHere 5 = .ok (.aload_n 0, 1) := by decide +kernel
theorem dX12_wordHere_6 : decode cX12_wordHere 6 = .ok (.invokevirtual 154, 3) := by decide +kernel
theorem dX12_wordHere_9 : decode cX12_wordHere 9 = .ok (.invokestatic 164, 3) := by decide +kernel
theorem dX12_wordHere_12 : decode cX12_wordHere 12 = .ok (.ifCond .eq 50, 3) := by decide +kernel
theorem dX12_wordHere_15 : decode cX12_wordHere 15 = .ok (.aload_n 0, 1) := by decide +kernel
theorem dX12_wordHere_16 : decode cX12_wordHere 16 = .ok (.getfield 148, 3) := by decide +kernel
theorem dX12_wordHere_19 : decode cX12_wordHere 19 = .ok (.aload_n 0, 1) := by decide +kernel
theorem dX12_wordHere_20 : decode cX12_wordHere 20 = .ok (.getfield 158, 3) := by decide +kernel
theorem dX12_wordHere_23 : decode cX12_wordHere 23 = .ok (.isub, 1) := by decide +kernel
theorem dX12_wordHere_24 : decode cX12_wordHere 24 = .ok (.iconst 4, 1) := by decide +kernel
theorem dX12_wordHere_25 : decode cX12_wordHere 25 = .ok (.if_icmp .ge 24, 3) := by decide +kernel
theorem dX12_wordHere_28 : decode cX12_wordHere 28 = .ok (.aload_n 0, 1) := by decide +kernel
theorem dX12_wordHere_29 : decode cX12_wordHere 29 = .ok (.bipush 27, 2) := by decide +kernel
theorem dX12_wordHere_31 : decode cX12_wordHere 31 = .ok (.aload_n 0, 1) := by decide +kernel
theorem dX12_wordHere_32 : decode cX12_wordHere 32 = .ok (.getfield 174, 3) := by decide +kernel
theorem dX12_wordHere_35 : decode cX12_wordHere 35 = .ok (.imul, 1) := by decide +kernel
theorem dX12_wordHere_36 : decode cX12_wordHere 36 = .ok (.aload_n 0, 1) := by decide +kernel
theorem dX12_wordHere_37 : decode cX12_wordHere 37 = .ok (.invokevirtual 154, 3) := by decide +kernel
theorem dX12_wordHere_40 : decode cX12_wordHere 40 = .ok (.iadd, 1) := by decide +kernel
theorem dX12_wordHere_41 : decode cX12_wordHere 41 = .ok (.bipush 97, 2) := by decide +kernel
theorem dX12_wordHere_43 : decode cX12_wordHere 43 = .ok (.isub, 1) := by decide +kernel
theorem dX12_wordHere_44 : decode cX12_wordHere 44 = .ok (.iconst 1, 1) := by decide +kernel
theorem dX12_wordHere_45 : decode cX12_wordHere 45 = .ok (.iadd, 1) := by decide +kernel
theorem dX12_wordHere_46 : decode cX12_wordHere 46 = .ok (.putfield 174, 3) := by decide +kernel
theorem dX12_wordHere_49 : decode cX12_wordHere 49 = .ok (.aload_n 0, 1) := by decide +kernel
theorem dX12_wordHere_50 : decode cX12_wordHere 50 = .ok (.dup, 1) := by decide +kernel
theorem dX12_wordHere_51 : decode cX12_wordHere 51 = .ok (.getfield 148, 3) := by decide +kernel
theorem dX12_wordHere_54 : decode cX12_wordHere 54 = .ok (.iconst 1, 1) := by decide +kernel
theorem dX12_wordHere_55 : decode cX12_wordHere 55 = .ok (.iadd, 1) := by decide +kernel
theorem dX12_wordHere_56 : decode cX12_wordHere 56 = .ok (.putfield 148, 3) := by decide +kernel
theorem dX12_wordHere_59 : decode cX12_wordHere 59 = .ok (.goto (-54), 3) := by decide +kernel
theorem dX12_wordHere_62 : decode cX12_wordHere 62 = .ok (.aload_n 0, 1) := by decide +kernel
theorem dX12_wordHere_63 : decode cX12_wordHere 63 = .ok (.getfield 148, 3) := by decide +kernel
theorem dX12_wordHere_66 : decode cX12_wordHere 66 = .ok (.aload_n 0, 1) := by decide +kernel
theorem dX12_wordHere_67 : decode cX12_wordHere 67 = .ok (.getfield 158, 3) := by decide +kernel
theorem dX12_wordHere_70 : decode cX12_wordHere 70 = .ok (.isub, 1) := by decide +kernel
theorem dX12_wordHere_71 : decode cX12_wordHere 71 = .ok (.istore_n 1, 1) := by decide +kernel
theorem dX12_wordHere_72 : decode cX12_wordHere 72 = .ok (.aload_n 0, 1) := by decide +kernel
theorem dX12_wordHere_73 : decode cX12_wordHere 73 = .ok (.iload_n 1, 1) := by decide +kernel
theorem dX12_wordHere_74 : decode cX12_wordHere 74 = .ok (.iconst 4, 1) := by decide +kernel
theorem dX12_wordHere_75 : decode cX12_wordHere 75 = .ok (.if_icmp .gt 7, 3) := by decide +kernel
theorem dX12_wordHere_78 : decode cX12_wordHere 78 = .ok (.iconst 0, 1) := by decide +kernel
theorem dX12_wordHere_79 : decode cX12_wordHere 79 = .ok (.goto 4, 3) := by decide +kernel
theorem dX12_wordHere_82 : decode cX12_wordHere 82 = .ok (.iconst 4, 1) := by decide +kernel
theorem dX12_wordHere_83 : decode cX12_wordHere 83 = .ok (.putfield 161, 3) := by decide +kernel
theorem dX12_wordHere_86 : decode cX12_wordHere 86 = .ok (.iload_n 1, 1) := by decide +kernel
theorem dX12_wordHere_87 : decode cX12_wordHere 87 = .ok (.iconst 5, 1) := by decide +kernel
theorem dX12_wordHere_88 : decode cX12_wordHere 88 = .ok (.if_icmp .ne 85, 3) := by decide +kernel
theorem dX12_wordHere_91 : decode cX12_wordHere 91 = .ok (.aload_n 0, 1) := by decide +kernel
theorem dX12_wordHere_92 : decode cX12_wordHere 92 = .ok (.getfield 7, 3) := by decide +kernel
theorem dX12_wordHere_95 : decode cX12_wordHere 95 = .ok (.aload_n 0, 1) := by decide +kernel
theorem dX12_wordHere_96 : decode cX12_wordHere 96 = .ok (.getfield 158, 3) := by decide +kernel
theorem dX12_wordHere_99 : decode cX12_wordHere 99 = .ok (.iaload, 1) := by decide +kernel
theorem dX12_wordHere_100 : decode cX12_wordHere 100 = .ok (.bipush 97, 2) := by decide +kernel
theorem dX12_wordHere_102 : decode cX12_wordHere 102 = .ok (.if_icmp .ne 71, 3) := by decide +kernel
theorem dX12_wordHere_105 : decode cX12_wordHere 105 = .ok (.aload_n 0, 1) := by decide +kernel
theorem dX12_wordHere_106 : decode cX12_wordHere 106 = .ok (.getfield 7, 3) := by decide +kernel
theorem dX12_wordHere_109 : decode cX12_wordHere 109 = .ok (.aload_n 0, 1) := by decide +kernel
theorem dX12_wordHere_110 : decode cX12_wordHere 110 = .ok (.getfield 158, 3) := by decide +kernel
theorem dX12_wordHere_113 : decode cX12_wordHere 113 = .ok (.iconst 1, 1) := by decide +kernel
theorem dX12_wordHere_114 : decode cX12_wordHere 114 = .ok (.iadd, 1) := by decide +kernel
theorem dX12_wordHere_115 : decode cX12_wordHere 115 = .ok (.iaload, 1) := by decide +kernel
theorem dX12_wordHere_116 : decode cX12_wordHere 116 = .ok (.bipush 108, 2) := by decide +kernel
theorem dX12_wordHere_118 : decode cX12_wordHere 118 = .ok (.if_icmp .ne 55, 3) := by decide +kernel
theorem dX12_wordHere_121 : decode cX12_wordHere 121 = .ok (.aload_n 0, 1) := by decide +kernel
theorem dX12_wordHere_122 : decode cX12_wordHere 122 = .ok (.getfield 7, 3) := by decide +kernel
theorem dX12_wordHere_125 : decode cX12_wordHere 125 = .ok (.aload_n 0, 1) := by decide +kernel
theorem dX12_wordHere_126 : decode cX12_wordHere 126 = .ok (.getfield 158, 3) := by decide +kernel
theorem dX12_wordHere_129 : decode cX12_wordHere 129 = .ok (.iconst 2, 1) := by decide +kernel
theorem dX12_wordHere_130 : decode cX12_wordHere 130 = .ok (.iadd, 1) := by decide +kernel
theorem dX12_wordHere_131 : decode cX12_wordHere 131 = .ok (.iaload, 1) := by decide +kernel
theorem dX12_wordHere_132 : decode cX12_wordHere 132 = .ok (.bipush 105, 2) := by decide +kernel
theorem dX12_wordHere_134 : decode cX12_wordHere 134 = .ok (.if_icmp .ne 39, 3) := by decide +kernel
theorem dX12_wordHere_137 : decode cX12_wordHere 137 = .ok (.aload_n 0, 1) := by decide +kernel
theorem dX12_wordHere_138 : decode cX12_wordHere 138 = .ok (.getfield 7, 3) := by decide +kernel
theorem dX12_wordHere_141 : decode cX12_wordHere 141 = .ok (.aload_n 0, 1) := by decide +kernel
theorem dX12_wordHere_142 : decode cX12_wordHere 142 = .ok (.getfield 158, 3) := by decide +kernel
theorem dX12_wordHere_145 : decode cX12_wordHere 145 = .ok (.iconst 3, 1) := by decide +kernel
theorem dX12_wordHere_146 : decode cX12_wordHere 146 = .ok (.iadd, 1) := by decide +kernel
theorem dX12_wordHere_147 : decode cX12_wordHere 147 = .ok (.iaload, 1) := by decide +kernel
theorem dX12_wordHere_148 : decode cX12_wordHere 148 = .ok (.bipush 97, 2) := by decide +kernel
theorem dX12_wordHere_150 : decode cX12_wordHere 150 = .ok (.if_icmp .ne 23, 3) := by decide +kernel
theorem dX12_wordHere_153 : decode cX12_wordHere 153 = .ok (.aload_n 0, 1) := by decide +kernel
theorem dX12_wordHere_154 : decode cX12_wordHere 154 = .ok (.getfield 7, 3) := by decide +kernel
theorem dX12_wordHere_157 : decode cX12_wordHere 157 = .ok (.aload_n 0, 1) := by decide +kernel
theorem dX12_wordHere_158 : decode cX12_wordHere 158 = .ok (.getfield 158, 3) := by decide +kernel
theorem dX12_wordHere_161 : decode cX12_wordHere 161 = .ok (.iconst 4, 1) := by decide +kernel
theorem dX12_wordHere_162 : decode cX12_wordHere 162 = .ok (.iadd, 1) := by decide +kernel
theorem dX12_wordHere_163 : decode cX12_wordHere 163 = .ok (.iaload, 1) := by decide +kernel
theorem dX12_wordHere_164 : decode cX12_wordHere 164 = .ok (.bipush 115, 2) := by decide +kernel
theorem dX12_wordHere_166 : decode cX12_wordHere 166 = .ok (.if_icmp .ne 7, 3) := by decide +kernel
theorem dX12_wordHere_169 : decode cX12_wordHere 169 = .ok (.iconst 1, 1) := by decide +kernel
theorem dX12_wordHere_170 : decode cX12_wordHere 170 = .ok (.goto 4, 3) := by decide +kernel
theorem dX12_wordHere_173 : decode cX12_wordHere 173 = .ok (.iconst 0, 1) := by decide +kernel
theorem dX12_wordHere_174 : decode cX12_wordHere 174 = .ok (.istore_n 2, 1) := by decide +kernel
theorem dX12_wordHere_175 : decode cX12_wordHere 175 = .ok (.iload_n 2, 1) := by decide +kernel
theorem dX12_wordHere_176 : decode cX12_wordHere 176 = .ok (.ifCond .ne 4, 3) := by decide +kernel
theorem dX12_wordHere_179 : decode cX12_wordHere 179 = .ok (.return_, 1) := by decide +kernel
theorem dX12_wordHere_180 : decode cX12_wordHere 180 = .ok (.aload_n 0, 1) := by decide +kernel
theorem dX12_wordHere_181 : decode cX12_wordHere 181 = .ok (.iconst 0, 1) := by decide +kernel
theorem dX12_wordHere_182 : decode cX12_wordHere 182 = .ok (.putfield 161, 3) := by decide +kernel
theorem dX12_wordHere_185 : decode cX12_wordHere 185 = .ok (.aload_n 0, 1) := by decide +kernel
theorem dX12_wordHere_186 : decode cX12_wordHere 186 = .ok (.ldc 180, 2) := by decide +kernel
theorem dX12_wordHere_188 : decode cX12_wordHere 188 = .ok (.putfield 174, 3) := by decide +kernel
theorem dX12_wordHere_191 : decode cX12_wordHere 191 = .ok (.return_, 1) := by decide +kernel
theorem dX12_isOwn_0 : decode cX12_isOwn 0 = .ok (.iload_n 0, 1) := by decide +kernel
theorem dX12_isOwn_1 : decode cX12_isOwn 1 = .ok (.sipush 257, 3) := by decide +kernel
theorem dX12_isOwn_4 : decode cX12_isOwn 4 = .ok (.if_icmp .eq 49, 3) := by decide +kernel
theorem dX12_isOwn_7 : decode cX12_isOwn 7 = .ok (.iload_n 0, 1) := by decide +kernel
theorem dX12_isOwn_8 : decode cX12_isOwn 8 = .ok (.sipush 13550, 3) := by decide +kernel
theorem dX12_isOwn_11 : decode cX12_isOwn 11 = .ok (.if_icmp .eq 42, 3) := by decide +kernel
theorem dX12_isOwn_14 : decode cX12_isOwn 14 = .ok (.iload_n 0, 1) := by decide +kernel
theorem dX12_isOwn_15 : decode cX12_isOwn 15 = .ok (.ldc 181, 2) := by decide +kernel
theorem dX12_isOwn_17 : decode cX12_isOwn 17 = .ok (.if_icmp .eq 36, 3) := by decide +kernel
theorem dX12_isOwn_20 : decode cX12_isOwn 20 = .ok (.iload_n 0, 1) := by decide +kernel
theorem dX12_isOwn_21 : decode cX12_isOwn 21 = .ok (.sipush 249, 3) := by decide +kernel
theorem dX12_isOwn_24 : decode cX12_isOwn 24 = .ok (.if_icmp .eq 29, 3) := by decide +kernel
theorem dX12_isOwn_27 : decode cX12_isOwn 27 = .ok (.iload_n 0, 1) := by decide +kernel
theorem dX12_isOwn_28 : decode cX12_isOwn 28 = .ok (.ldc 182, 2) := by decide +kernel
theorem dX12_isOwn_30 : decode cX12_isOwn 30 = .ok (.if_icmp .eq 23, 3) := by decide +kernel
theorem dX12_isOwn_33 : decode cX12_isOwn 33 = .ok (.iload_n 0, 1) := by decide +kernel
theorem dX12_isOwn_34 : decode cX12_isOwn 34 = .ok (.sipush 4027, 3) := by decide +kernel
theorem dX12_isOwn_37 : decode cX12_isOwn 37 = .ok (.if_icmp .eq 16, 3) := by decide +kernel
theorem dX12_isOwn_40 : decode cX12_isOwn 40 = .ok (.iload_n 0, 1) := by decide +kernel
theorem dX12_isOwn_41 : decode cX12_isOwn 41 = .ok (.sipush 11522, 3) := by decide +kernel
theorem dX12_isOwn_44 : decode cX12_isOwn 44 = .ok (.if_icmp .eq 9, 3) := by decide +kernel
theorem dX12_isOwn_47 : decode cX12_isOwn 47 = .ok (.iload_n 0, 1) := by decide +kernel
theorem dX12_isOwn_48 : decode cX12_isOwn 48 = .ok (.ldc 180, 2) := by decide +kernel
theorem dX12_isOwn_50 : decode cX12_isOwn 50 = .ok (.if_icmp .ne 7, 3) := by decide +kernel
theorem dX12_isOwn_53 : decode cX12_isOwn 53 = .ok (.iconst 1, 1) := by decide +kernel
theorem dX12_isOwn_54 : decode cX12_isOwn 54 = .ok (.goto 4, 3) := by decide +kernel
theorem dX12_isOwn_57 : decode cX12_isOwn 57 = .ok (.iconst 0, 1) := by decide +kernel
theorem dX12_isOwn_58 : decode cX12_isOwn 58 = .ok (.ireturn, 1) := by decide +kernel
theorem dX12_wrong_0 : decode cX12_wrong 0 = .ok (.aload_n 0, 1) := by decide +kernel
theorem dX12_wrong_1 : decode cX12_wrong 1 = .ok (.getfield 183, 3) := by decide +kernel
theorem dX12_wrong_4 : decode cX12_wrong 4 = .ok (.ifCond .eq 4, 3) := by decide +kernel
theorem dX12_wrong_7 : decode cX12_wrong 7 = .ok (.return_, 1) := by decide +kernel
theorem dX12_wrong_8 : decode cX12_wrong 8 = .ok (.aload_n 0, 1) := by decide +kernel
theorem dX12_wrong_9 : decode cX12_wrong 9 = .ok (.iload_n 1, 1) := by decide +kernel
theorem dX12_wrong_10 : decode cX12_wrong 10 = .ok (.putfield 183, 3) := by decide +kernel
theorem dX12_wrong_13 : decode cX12_wrong 13 = .ok (.aload_n 0, 1) := by decide +kernel
theorem dX12_wrong_14 : decode cX12_wrong 14 = .ok (.aload_n 0, 1) := by decide +kernel
theorem dX12_wrong_15 : decode cX12_wrong 15 = .ok (.getfield 158, 3) := by decide +kernel
theorem dX12_wrong_18 : decode cX12_wrong 18 = .ok (.putfield 186, 3) := by decide +kernel
theorem dX12_wrong_21 : decode cX12_wrong 21 = .ok (.return_, 1) := by decide +kernel
theorem dX12_goOn_0 : decode cX12_goOn 0 = .ok (.aload_n 0, 1) := by decide +kernel
theorem dX12_goOn_1 : decode cX12_goOn 1 = .ok (.getfield 183, 3) := by decide +kernel
theorem dX12_goOn_4 : decode cX12_goOn 4 = .ok (.ifCond .ne 7, 3) := by decide +kernel
theorem dX12_goOn_7 : decode cX12_goOn 7 = .ok (.aload_n 0, 1) := by decide +kernel
theorem dX12_goOn_8 : decode cX12_goOn 8 = .ok (.invokevirtual 189, 3) := by decide +kernel
theorem dX12_goOn_11 : decode cX12_goOn 11 = .ok (.return_, 1) := by decide +kernel
theorem dX12_numeral_0 : decode cX12_numeral 0 = .ok (.aload_n 0, 1) := by decide +kernel
theorem dX12_numeral_1 : decode cX12_numeral 1 = .ok (.getfield 183, 3) := by decide +kernel
theorem dX12_numeral_4 : decode cX12_numeral 4 = .ok (.ifCond .eq 5, 3) := by decide +kernel
theorem dX12_numeral_7 : decode cX12_numeral 7 = .ok (.iload_n 1, 1) := by decide +kernel
theorem dX12_numeral_8 : decode cX12_numeral 8 = .ok (.ireturn, 1) := by decide +kernel
theorem dX12_numeral_9 : decode cX12_numeral 9 = .ok (.aload_n 0, 1) := by decide +kernel
theorem dX12_numeral_10 : decode cX12_numeral 10 = .ok (.getfield 161, 3) := by decide +kernel
theorem dX12_numeral_13 : decode cX12_numeral 13 = .ok (.iconst 1, 1) := by decide +kernel
theorem dX12_numeral_14 : decode cX12_numeral 14 = .ok (.if_icmp .eq 11, 3) := by decide +kernel
theorem dX12_numeral_17 : decode cX12_numeral 17 = .ok (.aload_n 0, 1) := by decide +kernel
theorem dX12_numeral_18 : decode cX12_numeral 18 = .ok (.iconst 1, 1) := by decide +kernel
theorem dX12_numeral_19 : decode cX12_numeral 19 = .ok (.invokevirtual 192, 3) := by decide +kernel
theorem dX12_numeral_22 : decode cX12_numeral 22 = .ok (.goto 24, 3) := by decide +kernel
theorem dX12_numeral_25 : decode cX12_numeral 25 = .ok (.aload_n 0, 1) := by decide +kernel
theorem dX12_numeral_26 : decode cX12_numeral 26 = .ok (.getfield 174, 3) := by decide +kernel
theorem dX12_numeral_29 : decode cX12_numeral 29 = .ok (.iload_n 1, 1) := by decide +kernel
theorem dX12_numeral_30 : decode cX12_numeral 30 = .ok (.if_icmp .lt 11, 3) := by decide +kernel
theorem dX12_numeral_33 : decode cX12_numeral 33 = .ok (.aload_n 0, 1) := by decide +kernel
theorem dX12_numeral_34 : decode cX12_numeral 34 = .ok (.getfield 174, 3) := by decide +kernel
theorem dX12_numeral_37 : decode cX12_numeral 37 = .ok (.iload_n 2, 1) := by decide +kernel
theorem dX12_numeral_38 : decode cX12_numeral 38 = .ok (.if_icmp .le 8, 3) := by decide +kernel
theorem dX12_numeral_41 : decode cX12_numeral 41 = .ok (.aload_n 0, 1) := by decide +kernel
theorem dX12_numeral_42 : decode cX12_numeral 42 = .ok (.iconst 2, 1) := by decide +kernel
theorem dX12_numeral_43 : decode cX12_numeral 43 = .ok (.invokevirtual 192, 3) := by decide +kernel
theorem dX12_numeral_46 : decode cX12_numeral 46 = .ok (.aload_n 0, 1) := by decide +kernel
theorem dX12_numeral_47 : decode cX12_numeral 47 = .ok (.getfield 183, 3) := by decide +kernel
theorem dX12_numeral_50 : decode cX12_numeral 50 = .ok (.ifCond .ne 10, 3) := by decide +kernel
theorem dX12_numeral_53 : decode cX12_numeral 53 = .ok (.aload_n 0, 1) := by decide +kernel
theorem dX12_numeral_54 : decode cX12_numeral 54 = .ok (.getfield 174, 3) := by decide +kernel
theorem dX12_numeral_57 : decode cX12_numeral 57 = .ok (.goto 4, 3) := by decide +kernel
theorem dX12_numeral_60 : decode cX12_numeral 60 = .ok (.iload_n 1, 1) := by decide +kernel
theorem dX12_numeral_61 : decode cX12_numeral 61 = .ok (.istore_n 3, 1) := by decide +kernel
theorem dX12_numeral_62 : decode cX12_numeral 62 = .ok (.aload_n 0, 1) := by decide +kernel
theorem dX12_numeral_63 : decode cX12_numeral 63 = .ok (.invokevirtual 196, 3) := by decide +kernel
theorem dX12_numeral_66 : decode cX12_numeral 66 = .ok (.iload_n 3, 1) := by decide +kernel
theorem dX12_numeral_67 : decode cX12_numeral 67 = .ok (.ireturn, 1) := by decide +kernel
theorem dX12_isSign_0 : decode cX12_isSign 0 = .ok (.aload_n 0, 1) := by decide +kernel
theorem dX12_isSign_1 : decode cX12_isSign 1 = .ok (.getfield 183, 3) := by decide +kernel
theorem dX12_isSign_4 : decode cX12_isSign 4 = .ok (.ifCond .ne 23, 3) := by decide +kernel
theorem dX12_isSign_7 : decode cX12_isSign 7 = .ok (.aload_n 0, 1) := by decide +kernel
theorem dX12_isSign_8 : decode cX12_isSign 8 = .ok (.getfield 161, 3) := by decide +kernel
theorem dX12_isSign_11 : decode cX12_isSign 11 = .ok (.iconst 2, 1) := by decide +kernel
theorem dX12_isSign_12 : decode cX12_isSign 12 = .ok (.if_icmp .ne 15, 3) := by decide +kernel
theorem dX12_isSign_15 : decode cX12_isSign 15 = .ok (.aload_n 0, 1) := by decide +kernel
theorem dX12_isSign_16 : decode cX12_isSign 16 = .ok (.getfield 174, 3) := by decide +kernel
theorem dX12_isSign_19 : decode cX12_isSign 19 = .ok (.iload_n 1, 1) := by decide +kernel
theorem dX12_isSign_20 : decode cX12_isSign 20 = .ok (.if_icmp .ne 7, 3) := by decide +kernel
theorem dX12_isSign_23 : decode cX12_isSign 23 = .ok (.iconst 1, 1) := by decide +kernel
theorem dX12_isSign_24 : decode cX12_isSign 24 = .ok (.goto 4, 3) := by decide +kernel
theorem dX12_isSign_27 : decode cX12_isSign 27 = .ok (.iconst 0, 1) := by decide +kernel
theorem dX12_isSign_28 : decode cX12_isSign 28 = .ok (.ireturn, 1) := by decide +kernel
theorem dX12_needs_0 : decode cX12_needs 0 = .ok (.aload_n 0, 1) := by decide +kernel
theorem dX12_needs_1 : decode cX12_needs 1 = .ok (.getfield 183, 3) := by decide +kernel
theorem dX12_needs_4 : decode cX12_needs 4 = .ok (.ifCond .ne 16, 3) := by decide +kernel
theorem dX12_needs_7 : decode cX12_needs 7 = .ok (.aload_n 0, 1) := by decide +kernel
theorem dX12_needs_8 : decode cX12_needs 8 = .ok (.iload_n 1, 1) := by decide +kernel
theorem dX12_needs_9 : decode cX12_needs 9 = .ok (.invokevirtual 199, 3) := by decide +kernel
theorem dX12_needs_12 : decode cX12_needs 12 = .ok (.ifCond .ne 8, 3) := by decide +kernel
theorem dX12_needs_15 : decode cX12_needs 15 = .ok (.aload_n 0, 1) := by decide +kernel
theorem dX12_needs_16 : decode cX12_needs 16 = .ok (.iconst 1, 1) := by decide +kernel
theorem dX12_needs_17 : decode cX12_needs 17 = .ok (.invokevirtual 192, 3) := by decide +kernel
theorem dX12_needs_20 : decode cX12_needs 20 = .ok (.aload_n 0, 1) := by decide +kernel
theorem dX12_needs_21 : decode cX12_needs 21 = .ok (.invokevirtual 196, 3) := by decide +kernel
theorem dX12_needs_24 : decode cX12_needs 24 = .ok (.return_, 1) := by decide +kernel
theorem dX12_writes_0 : decode cX12_writes 0 = .ok (.aload_n 0, 1) := by decide +kernel
theorem dX12_writes_1 : decode cX12_writes 1 = .ok (.getfield 183, 3) := by decide +kernel
theorem dX12_writes_4 : decode cX12_writes 4 = .ok (.ifCond .eq 4, 3) := by decide +kernel
theorem dX12_writes_7 : decode cX12_writes 7 = .ok (.return_, 1) := by decide +kernel
theorem dX12_writes_8 : decode cX12_writes 8 = .ok (.aload_n 0, 1) := by decide +kernel
theorem dX12_writes_9 : decode cX12_writes 9 = .ok (.getfield 29, 3) := by decide +kernel
theorem dX12_writes_12 : decode cX12_writes 12 = .ok (.sipush 1000, 3) := by decide +kernel
theorem dX12_writes_15 : decode cX12_writes 15 = .ok (.aload_n 0, 1) := by decide +kernel
theorem dX12_writes_16 : decode cX12_writes 16 = .ok (.getfield 202, 3) := by decide +kernel
theorem dX12_writes_19 : decode cX12_writes 19 = .ok (.iadd, 1) := by decide +kernel
theorem dX12_writes_20 : decode cX12_writes 20 = .ok (.iload_n 1, 1) := by decide +kernel
theorem dX12_writes_21 : decode cX12_writes 21 = .ok (.iastore, 1) := by decide +kernel
theorem dX12_writes_22 : decode cX12_writes 22 = .ok (.aload_n 0, 1) := by decide +kernel
theorem dX12_writes_23 : decode cX12_writes 23 = .ok (.getfield 32, 3) := by decide +kernel
theorem dX12_writes_26 : decode cX12_writes 26 = .ok (.sipush 1000, 3) := by decide +kernel
theorem dX12_writes_29 : decode cX12_writes 29 = .ok (.aload_n 0, 1) := by decide +kernel
theorem dX12_writes_30 : decode cX12_writes 30 = .ok (.getfield 202, 3) := by decide +kernel
theorem dX12_writes_33 : decode cX12_writes 33 = .ok (.iadd, 1) := by decide +kernel
theorem dX12_writes_34 : decode cX12_writes 34 = .ok (.iload_n 2, 1) := by decide +kernel
theorem dX12_writes_35 : decode cX12_writes 35 = .ok (.iastore, 1) := by decide +kernel
theorem dX12_writes_36 : decode cX12_writes 36 = .ok (.aload_n 0, 1) := by decide +kernel
theorem dX12_writes_37 : decode cX12_writes 37 = .ok (.getfield 35, 3) := by decide +kernel
theorem dX12_writes_40 : decode cX12_writes 40 = .ok (.sipush 1000, 3) := by decide +kernel
theorem dX12_writes_43 : decode cX12_writes 43 = .ok (.aload_n 0, 1) := by decide +kernel
theorem dX12_writes_44 : decode cX12_writes 44 = .ok (.getfield 202, 3) := by decide +kernel
theorem dX12_writes_47 : decode cX12_writes 47 = .ok (.iadd, 1) := by decide +kernel
theorem dX12_writes_48 : decode cX12_writes 48 = .ok (.iload_n 3, 1) := by decide +kernel
theorem dX12_writes_49 : decode cX12_writes 49 = .ok (.iastore, 1) := by decide +kernel
theorem dX12_writes_50 : decode cX12_writes 50 = .ok (.aload_n 0, 1) := by decide +kernel
theorem dX12_writes_51 : decode cX12_writes 51 = .ok (.dup, 1) := by decide +kernel
theorem dX12_writes_52 : decode cX12_writes 52 = .ok (.getfield 202, 3) := by decide +kernel
theorem dX12_writes_55 : decode cX12_writes 55 = .ok (.iconst 1, 1) := by decide +kernel
theorem dX12_writes_56 : decode cX12_writes 56 = .ok (.iadd, 1) := by decide +kernel
theorem dX12_writes_57 : decode cX12_writes 57 = .ok (.putfield 202, 3) := by decide +kernel
theorem dX12_writes_60 : decode cX12_writes 60 = .ok (.return_, 1) := by decide +kernel
theorem dX12_variableOf_0 : decode cX12_variableOf 0 = .ok (.iconst 0, 1) := by decide +kernel
theorem dX12_variableOf_1 : decode cX12_variableOf 1 = .ok (.istore_n 2, 1) := by decide +kernel
theorem dX12_variableOf_2 : decode cX12_variableOf 2 = .ok (.iload_n 2, 1) := by decide +kernel
theorem dX12_variableOf_3 : decode cX12_variableOf 3 = .ok (.aload_n 0, 1) := by decide +kernel
theorem dX12_variableOf_4 : decode cX12_variableOf 4 = .ok (.getfield 205, 3) := by decide +kernel
theorem dX12_variableOf_7 : decode cX12_variableOf 7 = .ok (.if_icmp .ge 21, 3) := by decide +kernel
theorem dX12_variableOf_10 : decode cX12_variableOf 10 = .ok (.aload_n 0, 1) := by decide +kernel
theorem dX12_variableOf_11 : decode cX12_variableOf 11 = .ok (.getfield 17, 3) := by decide +kernel
theorem dX12_variableOf_14 : decode cX12_variableOf 14 = .ok (.iload_n 2, 1) := by decide +kernel
theorem dX12_variableOf_15 : decode cX12_variableOf 15 = .ok (.iaload, 1) := by decide +kernel
theorem dX12_variableOf_16 : decode cX12_variableOf 16 = .ok (.iload_n 1, 1) := by decide +kernel
theorem dX12_variableOf_17 : decode cX12_variableOf 17 = .ok (.if_icmp .ne 5, 3) := by decide +kernel
theorem dX12_variableOf_20 : decode cX12_variableOf 20 = .ok (.iload_n 2, 1) := by decide +kernel
theorem dX12_variableOf_21 : decode cX12_variableOf 21 = .ok (.ireturn, 1) := by decide +kernel
theorem dX12_variableOf_22 : decode cX12_variableOf 22 = .ok (.iinc 2 1, 3) := by decide +kernel
theorem dX12_variableOf_25 : decode cX12_variableOf 25 = .ok (.goto (-23), 3) := by decide +kernel
theorem dX12_variableOf_28 : decode cX12_variableOf 28 = .ok (.iconst (-1), 1) := by decide +kernel
theorem dX12_variableOf_29 : decode cX12_variableOf 29 = .ok (.ireturn, 1) := by decide +kernel
theorem dX12_rowOf_0 : decode cX12_rowOf 0 = .ok (.iconst 0, 1) := by decide +kernel
theorem dX12_rowOf_1 : decode cX12_rowOf 1 = .ok (.istore_n 2, 1) := by decide +kernel
theorem dX12_rowOf_2 : decode cX12_rowOf 2 = .ok (.iload_n 2, 1) := by decide +kernel
theorem dX12_rowOf_3 : decode cX12_rowOf 3 = .ok (.aload_n 0, 1) := by decide +kernel
theorem dX12_rowOf_4 : decode cX12_rowOf 4 = .ok (.getfield 208, 3) := by decide +kernel
theorem dX12_rowOf_7 : decode cX12_rowOf 7 = .ok (.if_icmp .ge 21, 3) := by decide +kernel
theorem dX12_rowOf_10 : decode cX12_rowOf 10 = .ok (.aload_n 0, 1) := by decide +kernel
theorem dX12_rowOf_11 : decode cX12_rowOf 11 = .ok (.getfield 20, 3) := by decide +kernel
theorem dX12_rowOf_14 : decode cX12_rowOf 14 = .ok (.iload_n 2, 1) := by decide +kernel
theorem dX12_rowOf_15 : decode cX12_rowOf 15 = .ok (.iaload, 1) := by decide +kernel
theorem dX12_rowOf_16 : decode cX12_rowOf 16 = .ok (.iload_n 1, 1) := by decide +kernel
theorem dX12_rowOf_17 : decode cX12_rowOf 17 = .ok (.if_icmp .ne 5, 3) := by decide +kernel
theorem dX12_rowOf_20 : decode cX12_rowOf 20 = .ok (.iload_n 2, 1) := by decide +kernel
theorem dX12_rowOf_21 : decode cX12_rowOf 21 = .ok (.ireturn, 1) := by decide +kernel
theorem dX12_rowOf_22 : decode cX12_rowOf 22 = .ok (.iinc 2 1, 3) := by decide +kernel
theorem dX12_rowOf_25 : decode cX12_rowOf 25 = .ok (.goto (-23), 3) := by decide +kernel
theorem dX12_rowOf_28 : decode cX12_rowOf 28 = .ok (.iconst (-1), 1) := by decide +kernel
theorem dX12_rowOf_29 : decode cX12_rowOf 29 = .ok (.ireturn, 1) := by decide +kernel
theorem dX12_isName_0 : decode cX12_isName 0 = .ok (.aload_n 0, 1) := by decide +kernel
theorem dX12_isName_1 : decode cX12_isName 1 = .ok (.getfield 183, 3) := by decide +kernel
theorem dX12_isName_4 : decode cX12_isName 4 = .ok (.ifCond .ne 24, 3) := by decide +kernel
theorem dX12_isName_7 : decode cX12_isName 7 = .ok (.aload_n 0, 1) := by decide +kernel
theorem dX12_isName_8 : decode cX12_isName 8 = .ok (.getfield 161, 3) := by decide +kernel
theorem dX12_isName_11 : decode cX12_isName 11 = .ok (.ifCond .ne 17, 3) := by decide +kernel
theorem dX12_isName_14 : decode cX12_isName 14 = .ok (.aload_n 0, 1) := by decide +kernel
theorem dX12_isName_15 : decode cX12_isName 15 = .ok (.getfield 174, 3) := by decide +kernel
theorem dX12_isName_18 : decode cX12_isName 18 = .ok (.invokestatic 211, 3) := by decide +kernel
theorem dX12_isName_21 : decode cX12_isName 21 = .ok (.ifCond .ne 7, 3) := by decide +kernel
theorem dX12_isName_24 : decode cX12_isName 24 = .ok (.iconst 1, 1) := by decide +kernel
theorem dX12_isName_25 : decode cX12_isName 25 = .ok (.goto 4, 3) := by decide +kernel
theorem dX12_isName_28 : decode cX12_isName 28 = .ok (.iconst 0, 1) := by decide +kernel
theorem dX12_isName_29 : decode cX12_isName 29 = .ok (.ireturn, 1) := by decide +kernel
theorem dX12_newName_0 : decode cX12_newName 0 = .ok (.aload_n 0, 1) := by decide +kernel
theorem dX12_newName_1 : decode cX12_newName 1 = .ok (.getfield 174, 3) := by decide +kernel
theorem dX12_newName_4 : decode cX12_newName 4 = .ok (.istore_n 1, 1) := by decide +kernel
theorem dX12_newName_5 : decode cX12_newName 5 = .ok (.aload_n 0, 1) := by decide +kernel
theorem dX12_newName_6 : decode cX12_newName 6 = .ok (.invokevirtual 214, 3) := by decide +kernel
theorem dX12_newName_9 : decode cX12_newName 9 = .ok (.ifCond .ne 11, 3) := by decide +kernel
theorem dX12_newName_12 : decode cX12_newName 12 = .ok (.aload_n 0, 1) := by decide +kernel
theorem dX12_newName_13 : decode cX12_newName 13 = .ok (.iconst 1, 1) := by decide +kernel
theorem dX12_newName_14 : decode cX12_newName 14 = .ok (.invokevirtual 192, 3) := by decide +kernel
theorem dX12_newName_17 : decode cX12_newName 17 = .ok (.goto 26, 3) := by decide +kernel
theorem dX12_newName_20 : decode cX12_newName 20 = .ok (.aload_n 0, 1) := by decide +kernel
theorem dX12_newName_21 : decode cX12_newName 21 = .ok (.iload_n 1, 1) := by decide +kernel
theorem dX12_newName_22 : decode cX12_newName 22 = .ok (.invokevirtual 218, 3) := by decide +kernel
theorem dX12_newName_25 : decode cX12_newName 25 = .ok (.iconst (-1), 1) := by decide +kernel
theorem dX12_newName_26 : decode cX12_newName 26 = .ok (.if_icmp .ne 12, 3) := by decide +kernel
theorem dX12_newName_29 : decode cX12_newName 29 = .ok (.aload_n 0, 1) := by decide +kernel
theorem dX12_newName_30 : decode cX12_newName 30 = .ok (.iload_n 1, 1) := by decide +kernel
theorem dX12_newName_31 : decode cX12_newName 31 = .ok (.invokevirtual 222, 3) := by decide +kernel
theorem dX12_newName_34 : decode cX12_newName 34 = .ok (.iconst (-1), 1) := by decide +kernel
theorem dX12_newName_35 : decode cX12_newName 35 = .ok (.if_icmp .eq 8, 3) := by decide +kernel
theorem dX12_newName_38 : decode cX12_newName 38 = .ok (.aload_n 0, 1) := by decide +kernel
theorem dX12_newName_39 : decode cX12_newName 39 = .ok (.iconst 3, 1) := by decide +kernel
theorem dX12_newName_40 : decode cX12_newName 40 = .ok (.invokevirtual 192, 3) := by decide +kernel
theorem dX12_newName_43 : decode cX12_newName 43 = .ok (.aload_n 0, 1) := by decide +kernel
theorem dX12_newName_44 : decode cX12_newName 44 = .ok (.invokevirtual 196, 3) := by decide +kernel
theorem dX12_newName_47 : decode cX12_newName 47 = .ok (.iload_n 1, 1) := by decide +kernel
theorem dX12_newName_48 : decode cX12_newName 48 = .ok (.ireturn, 1) := by decide +kernel
theorem dX12_readIn_0 : decode cX12_readIn 0 = .ok (.aload_n 0, 1) := by decide +kernel
theorem dX12_readIn_1 : decode cX12_readIn 1 = .ok (.getfield 225, 3) := by decide +kernel
theorem dX12_readIn_4 : decode cX12_readIn 4 = .ok (.ifCond .eq 11, 3) := by decide +kernel
theorem dX12_readIn_7 : decode cX12_readIn 7 = .ok (.aload_n 0, 1) := by decide +kernel
theorem dX12_readIn_8 : decode cX12_readIn 8 = .ok (.iconst 1, 1) := by decide +kernel
theorem dX12_readIn_9 : decode cX12_readIn 9 = .ok (.invokevirtual 192, 3) := by decide +kernel
theorem dX12_readIn_12 : decode cX12_readIn 12 = .ok (.goto 16, 3) := by decide +kernel
theorem dX12_readIn_15 : decode cX12_readIn 15 = .ok (.aload_n 0, 1) := by decide +kernel
theorem dX12_readIn_16 : decode cX12_readIn 16 = .ok (.getfield 229, 3) := by decide +kernel
theorem dX12_readIn_19 : decode cX12_readIn 19 = .ok (.iconst 4, 1) := by decide +kernel
theorem dX12_readIn_20 : decode cX12_readIn 20 = .ok (.if_icmp .ne 8, 3) := by decide +kernel
theorem dX12_readIn_23 : decode cX12_readIn 23 = .ok (.aload_n 0, 1) := by decide +kernel
theorem dX12_readIn_24 : decode cX12_readIn 24 = .ok (.iconst 2, 1) := by decide +kernel
theorem dX12_readIn_25 : decode cX12_readIn 25 = .ok (.invokevirtual 192, 3) := by decide +kernel
theorem dX12_readIn_28 : decode cX12_readIn 28 = .ok (.aload_n 0, 1) := by decide +kernel
theorem dX12_readIn_29 : decode cX12_readIn 29 = .ok (.invokevirtual 196, 3) := by decide +kernel
theorem dX12_readIn_32 : decode cX12_readIn 32 = .ok (.aload_n 0, 1) := by decide +kernel
theorem dX12_readIn_33 : decode cX12_readIn 33 = .ok (.invokevirtual 232, 3) := by decide +kernel
theorem dX12_readIn_36 : decode cX12_readIn 36 = .ok (.istore_n 1, 1) := by decide +kernel
theorem dX12_readIn_37 : decode cX12_readIn 37 = .ok (.aload_n 0, 1) := by decide +kernel
theorem dX12_readIn_38 : decode cX12_readIn 38 = .ok (.getfield 183, 3) := by decide +kernel
theorem dX12_readIn_41 : decode cX12_readIn 41 = .ok (.ifCond .eq 4, 3) := by decide +kernel
theorem dX12_readIn_44 : decode cX12_readIn 44 = .ok (.return_, 1) := by decide +kernel
theorem dX12_readIn_45 : decode cX12_readIn 45 = .ok (.aload_n 0, 1) := by decide +kernel
theorem dX12_readIn_46 : decode cX12_readIn 46 = .ok (.getfield 17, 3) := by decide +kernel
theorem dX12_readIn_49 : decode cX12_readIn 49 = .ok (.aload_n 0, 1) := by decide +kernel
theorem dX12_readIn_50 : decode cX12_readIn 50 = .ok (.getfield 205, 3) := by decide +kernel
theorem dX12_readIn_53 : decode cX12_readIn 53 = .ok (.iload_n 1, 1) := by decide +kernel
theorem dX12_readIn_54 : decode cX12_readIn 54 = .ok (.iastore, 1) := by decide +kernel
theorem dX12_readIn_55 : decode cX12_readIn 55 = .ok (.aload_n 0, 1) := by decide +kernel
theorem dX12_readIn_56 : decode cX12_readIn 56 = .ok (.dup, 1) := by decide +kernel
theorem dX12_readIn_57 : decode cX12_readIn 57 = .ok (.getfield 205, 3) := by decide +kernel
theorem dX12_readIn_60 : decode cX12_readIn 60 = .ok (.iconst 1, 1) := by decide +kernel
theorem dX12_readIn_61 : decode cX12_readIn 61 = .ok (.iadd, 1) := by decide +kernel
theorem dX12_readIn_62 : decode cX12_readIn 62 = .ok (.putfield 205, 3) := by decide +kernel
theorem dX12_readIn_65 : decode cX12_readIn 65 = .ok (.aload_n 0, 1) := by decide +kernel
theorem dX12_readIn_66 : decode cX12_readIn 66 = .ok (.dup, 1) := by decide +kernel
theorem dX12_readIn_67 : decode cX12_readIn 67 = .ok (.getfield 229, 3) := by decide +kernel
theorem dX12_readIn_70 : decode cX12_readIn 70 = .ok (.iconst 1, 1) := by decide +kernel
theorem dX12_readIn_71 : decode cX12_readIn 71 = .ok (.iadd, 1) := by decide +kernel
theorem dX12_readIn_72 : decode cX12_readIn 72 = .ok (.putfield 229, 3) := by decide +kernel
theorem dX12_readIn_75 : decode cX12_readIn 75 = .ok (.return_, 1) := by decide +kernel
theorem dX12_addsRow_0 : decode cX12_addsRow 0 = .ok (.aload_n 0, 1) := by decide +kernel
theorem dX12_addsRow_1 : decode cX12_addsRow 1 = .ok (.getfield 183, 3) := by decide +kernel
theorem dX12_addsRow_4 : decode cX12_addsRow 4 = .ok (.ifCond .eq 4, 3) := by decide +kernel
theorem dX12_addsRow_7 : decode cX12_addsRow 7 = .ok (.return_, 1) := by decide +kernel
theorem dX12_addsRow_8 : decode cX12_addsRow 8 = .ok (.aload_n 0, 1) := by decide +kernel
theorem dX12_addsRow_9 : decode cX12_addsRow 9 = .ok (.getfield 20, 3) := by decide +kernel
theorem dX12_addsRow_12 : decode cX12_addsRow 12 = .ok (.aload_n 0, 1) := by decide +kernel
theorem dX12_addsRow_13 : decode cX12_addsRow 13 = .ok (.getfield 208, 3) := by decide +kernel
theorem dX12_addsRow_16 : decode cX12_addsRow 16 = .ok (.iload_n 1, 1) := by decide +kernel
theorem dX12_addsRow_17 : decode cX12_addsRow 17 = .ok (.iastore, 1) := by decide +kernel
theorem dX12_addsRow_18 : decode cX12_addsRow 18 = .ok (.aload_n 0, 1) := by decide +kernel
theorem dX12_addsRow_19 : decode cX12_addsRow 19 = .ok (.getfield 23, 3) := by decide +kernel
theorem dX12_addsRow_22 : decode cX12_addsRow 22 = .ok (.bipush 6, 2) := by decide +kernel
theorem dX12_addsRow_24 : decode cX12_addsRow 24 = .ok (.aload_n 0, 1) := by decide +kernel
theorem dX12_addsRow_25 : decode cX12_addsRow 25 = .ok (.getfield 208, 3) := by decide +kernel
theorem dX12_addsRow_28 : decode cX12_addsRow 28 = .ok (.iadd, 1) := by decide +kernel
theorem dX12_addsRow_29 : decode cX12_addsRow 29 = .ok (.iload_n 2, 1) := by decide +kernel
theorem dX12_addsRow_30 : decode cX12_addsRow 30 = .ok (.iastore, 1) := by decide +kernel
theorem dX12_addsRow_31 : decode cX12_addsRow 31 = .ok (.aload_n 0, 1) := by decide +kernel
theorem dX12_addsRow_32 : decode cX12_addsRow 32 = .ok (.getfield 26, 3) := by decide +kernel
theorem dX12_addsRow_35 : decode cX12_addsRow 35 = .ok (.bipush 6, 2) := by decide +kernel
theorem dX12_addsRow_37 : decode cX12_addsRow 37 = .ok (.aload_n 0, 1) := by decide +kernel
theorem dX12_addsRow_38 : decode cX12_addsRow 38 = .ok (.getfield 208, 3) := by decide +kernel
theorem dX12_addsRow_41 : decode cX12_addsRow 41 = .ok (.iadd, 1) := by decide +kernel
theorem dX12_addsRow_42 : decode cX12_addsRow 42 = .ok (.iload_n 3, 1) := by decide +kernel
theorem dX12_addsRow_43 : decode cX12_addsRow 43 = .ok (.iastore, 1) := by decide +kernel
theorem dX12_addsRow_44 : decode cX12_addsRow 44 = .ok (.aload_n 0, 1) := by decide +kernel
theorem dX12_addsRow_45 : decode cX12_addsRow 45 = .ok (.dup, 1) := by decide +kernel
theorem dX12_addsRow_46 : decode cX12_addsRow 46 = .ok (.getfield 208, 3) := by decide +kernel
theorem dX12_addsRow_49 : decode cX12_addsRow 49 = .ok (.iconst 1, 1) := by decide +kernel
theorem dX12_addsRow_50 : decode cX12_addsRow 50 = .ok (.iadd, 1) := by decide +kernel
theorem dX12_addsRow_51 : decode cX12_addsRow 51 = .ok (.putfield 208, 3) := by decide +kernel
theorem dX12_addsRow_54 : decode cX12_addsRow 54 = .ok (.return_, 1) := by decide +kernel
theorem dX12_readRow_0 : decode cX12_readRow 0 = .ok (.aload_n 0, 1) := by decide +kernel
theorem dX12_readRow_1 : decode cX12_readRow 1 = .ok (.getfield 225, 3) := by decide +kernel
theorem dX12_readRow_4 : decode cX12_readRow 4 = .ok (.ifCond .eq 11, 3) := by decide +kernel
theorem dX12_readRow_7 : decode cX12_readRow 7 = .ok (.aload_n 0, 1) := by decide +kernel
theorem dX12_readRow_8 : decode cX12_readRow 8 = .ok (.iconst 1, 1) := by decide +kernel
theorem dX12_readRow_9 : decode cX12_readRow 9 = .ok (.invokevirtual 192, 3) := by decide +kernel
theorem dX12_readRow_12 : decode cX12_readRow 12 = .ok (.goto 17, 3) := by decide +kernel
theorem dX12_readRow_15 : decode cX12_readRow 15 = .ok (.aload_n 0, 1) := by decide +kernel
theorem dX12_readRow_16 : decode cX12_readRow 16 = .ok (.getfield 208, 3) := by decide +kernel
theorem dX12_readRow_19 : decode cX12_readRow 19 = .ok (.bipush 6, 2) := by decide +kernel
theorem dX12_readRow_21 : decode cX12_readRow 21 = .ok (.if_icmp .ne 8, 3) := by decide +kernel
theorem dX12_readRow_24 : decode cX12_readRow 24 = .ok (.aload_n 0, 1) := by decide +kernel
theorem dX12_readRow_25 : decode cX12_readRow 25 = .ok (.iconst 2, 1) := by decide +kernel
theorem dX12_readRow_26 : decode cX12_readRow 26 = .ok (.invokevirtual 192, 3) := by decide +kernel
theorem dX12_readRow_29 : decode cX12_readRow 29 = .ok (.aload_n 0, 1) := by decide +kernel
theorem dX12_readRow_30 : decode cX12_readRow 30 = .ok (.invokevirtual 196, 3) := by decide +kernel
theorem dX12_readRow_33 : decode cX12_readRow 33 = .ok (.aload_n 0, 1) := by decide +kernel
theorem dX12_readRow_34 : decode cX12_readRow 34 = .ok (.invokevirtual 232, 3) := by decide +kernel
theorem dX12_readRow_37 : decode cX12_readRow 37 = .ok (.istore_n 2, 1) := by decide +kernel
theorem dX12_readRow_38 : decode cX12_readRow 38 = .ok (.iload_n 1, 1) := by decide +kernel
theorem dX12_readRow_39 : decode cX12_readRow 39 = .ok (.ifCond .ne 32, 3) := by decide +kernel
theorem dX12_readRow_42 : decode cX12_readRow 42 = .ok (.aload_n 0, 1) := by decide +kernel
theorem dX12_readRow_43 : decode cX12_readRow 43 = .ok (.iconst 1, 1) := by decide +kernel
theorem dX12_readRow_44 : decode cX12_readRow 44 = .ok (.bipush 8, 2) := by decide +kernel
theorem dX12_readRow_46 : decode cX12_readRow 46 = .ok (.invokevirtual 235, 3) := by decide +kernel
theorem dX12_readRow_49 : decode cX12_readRow 49 = .ok (.istore_n 3, 1) := by decide +kernel
theorem dX12_readRow_50 : decode cX12_readRow 50 = .ok (.aload_n 0, 1) := by decide +kernel
theorem dX12_readRow_51 : decode cX12_readRow 51 = .ok (.iload_n 2, 1) := by decide +kernel
theorem dX12_readRow_52 : decode cX12_readRow 52 = .ok (.aload_n 0, 1) := by decide +kernel
theorem dX12_readRow_53 : decode cX12_readRow 53 = .ok (.getfield 239, 3) := by decide +kernel
theorem dX12_readRow_56 : decode cX12_readRow 56 = .ok (.iload_n 3, 1) := by decide +kernel
theorem dX12_readRow_57 : decode cX12_readRow 57 = .ok (.invokevirtual 242, 3) := by decide +kernel
theorem dX12_readRow_60 : decode cX12_readRow 60 = .ok (.aload_n 0, 1) := by decide +kernel
theorem dX12_readRow_61 : decode cX12_readRow 61 = .ok (.dup, 1) := by decide +kernel
theorem dX12_readRow_62 : decode cX12_readRow 62 = .ok (.getfield 239, 3) := by decide +kernel
theorem dX12_readRow_65 : decode cX12_readRow 65 = .ok (.iload_n 3, 1) := by decide +kernel
theorem dX12_readRow_66 : decode cX12_readRow 66 = .ok (.iadd, 1) := by decide +kernel
theorem dX12_readRow_67 : decode cX12_readRow 67 = .ok (.putfield 239, 3) := by decide +kernel
theorem dX12_readRow_70 : decode cX12_readRow 70 = .ok (.return_, 1) := by decide +kernel
theorem dX12_readRow_71 : decode cX12_readRow 71 = .ok (.aload_n 0, 1) := by decide +kernel
theorem dX12_readRow_72 : decode cX12_readRow 72 = .ok (.invokevirtual 214, 3) := by decide +kernel
theorem dX12_readRow_75 : decode cX12_readRow 75 = .ok (.ifCond .eq 14, 3) := by decide +kernel
theorem dX12_readRow_78 : decode cX12_readRow 78 = .ok (.aload_n 0, 1) := by decide +kernel
theorem dX12_readRow_79 : decode cX12_readRow 79 = .ok (.aload_n 0, 1) := by decide +kernel
theorem dX12_readRow_80 : decode cX12_readRow 80 = .ok (.getfield 174, 3) := by decide +kernel
theorem dX12_readRow_83 : decode cX12_readRow 83 = .ok (.invokevirtual 222, 3) := by decide +kernel
theorem dX12_readRow_86 : decode cX12_readRow 86 = .ok (.goto 4, 3) := by decide +kernel
theorem dX12_readRow_89 : decode cX12_readRow 89 = .ok (.iconst (-1), 1) := by decide +kernel
theorem dX12_readRow_90 : decode cX12_readRow 90 = .ok (.istore_n 3, 1) := by decide +kernel
theorem dX12_readRow_91 : decode cX12_readRow 91 = .ok (.iload_n 3, 1) := by decide +kernel
theorem dX12_readRow_92 : decode cX12_readRow 92 = .ok (.iconst (-1), 1) := by decide +kernel
theorem dX12_readRow_93 : decode cX12_readRow 93 = .ok (.if_icmp .ne 8, 3) := by decide +kernel
theorem dX12_readRow_96 : decode cX12_readRow 96 = .ok (.aload_n 0, 1) := by decide +kernel
theorem dX12_readRow_97 : decode cX12_readRow 97 = .ok (.iconst 1, 1) := by decide +kernel
theorem dX12_readRow_98 : decode cX12_readRow 98 = .ok (.invokevirtual 192, 3) := by decide +kernel
theorem dX12_readRow_101 : decode cX12_readRow 101 = .ok (.aload_n 0, 1) := by decide +kernel
theorem dX12_readRow_102 : decode cX12_readRow 102 = .ok (.invokevirtual 196, 3) := by decide +kernel
theorem dX12_readRow_105 : decode cX12_readRow 105 = .ok (.aload_n 0, 1) := by decide +kernel
theorem dX12_readRow_106 : decode cX12_readRow 106 = .ok (.getfield 183, 3) := by decide +kernel
theorem dX12_readRow_109 : decode cX12_readRow 109 = .ok (.ifCond .eq 4, 3) := by decide +kernel
theorem dX12_readRow_112 : decode cX12_readRow 112 = .ok (.return_, 1) := by decide +kernel
theorem dX12_readRow_113 : decode cX12_readRow 113 = .ok (.aload_n 0, 1) := by decide +kernel
theorem dX12_readRow_114 : decode cX12_readRow 114 = .ok (.iconst 0, 1) := by decide +kernel
theorem dX12_readRow_115 : decode cX12_readRow 115 = .ok (.aload_n 0, 1) := by decide +kernel
theorem dX12_readRow_116 : decode cX12_readRow 116 = .ok (.getfield 26, 3) := by decide +kernel
theorem dX12_readRow_119 : decode cX12_readRow 119 = .ok (.bipush 6, 2) := by decide +kernel
theorem dX12_readRow_121 : decode cX12_readRow 121 = .ok (.iload_n 3, 1) := by decide +kernel
theorem dX12_readRow_122 : decode cX12_readRow 122 = .ok (.iadd, 1) := by decide +kernel
theorem dX12_readRow_123 : decode cX12_readRow 123 = .ok (.iaload, 1) := by decide +kernel
theorem dX12_readRow_124 : decode cX12_readRow 124 = .ok (.iconst 1, 1) := by decide +kernel
theorem dX12_readRow_125 : decode cX12_readRow 125 = .ok (.isub, 1) := by decide +kernel
theorem dX12_readRow_126 : decode cX12_readRow 126 = .ok (.invokevirtual 235, 3) := by decide +kernel
theorem dX12_readRow_129 : decode cX12_readRow 129 = .ok (.istore 4, 2) := by decide +kernel
theorem dX12_readRow_131 : decode cX12_readRow 131 = .ok (.aload_n 0, 1) := by decide +kernel
theorem dX12_readRow_132 : decode cX12_readRow 132 = .ok (.iload_n 2, 1) := by decide +kernel
theorem dX12_readRow_133 : decode cX12_readRow 133 = .ok (.aload_n 0, 1) := by decide +kernel
theorem dX12_readRow_134 : decode cX12_readRow 134 = .ok (.getfield 23, 3) := by decide +kernel
theorem dX12_readRow_137 : decode cX12_readRow 137 = .ok (.bipush 6, 2) := by decide +kernel
theorem dX12_readRow_139 : decode cX12_readRow 139 = .ok (.iload_n 3, 1) := by decide +kernel
theorem dX12_readRow_140 : decode cX12_readRow 140 = .ok (.iadd, 1) := by decide +kernel
theorem dX12_readRow_141 : decode cX12_readRow 141 = .ok (.iaload, 1) := by decide +kernel
theorem dX12_readRow_142 : decode cX12_readRow 142 = .ok (.iload 4, 2) := by decide +kernel
theorem dX12_readRow_144 : decode cX12_readRow 144 = .ok (.iadd, 1) := by decide +kernel
theorem dX12_readRow_145 : decode cX12_readRow 145 = .ok (.aload_n 0, 1) := by decide +kernel
theorem dX12_readRow_146 : decode cX12_readRow 146 = .ok (.getfield 26, 3) := by decide +kernel
theorem dX12_readRow_149 : decode cX12_readRow 149 = .ok (.bipush 6, 2) := by decide +kernel
theorem dX12_readRow_151 : decode cX12_readRow 151 = .ok (.iload_n 3, 1) := by decide +kernel
theorem dX12_readRow_152 : decode cX12_readRow 152 = .ok (.iadd, 1) := by decide +kernel
theorem dX12_readRow_153 : decode cX12_readRow 153 = .ok (.iaload, 1) := by decide +kernel
theorem dX12_readRow_154 : decode cX12_readRow 154 = .ok (.iload 4, 2) := by decide +kernel
theorem dX12_readRow_156 : decode cX12_readRow 156 = .ok (.isub, 1) := by decide +kernel
theorem dX12_readRow_157 : decode cX12_readRow 157 = .ok (.invokevirtual 242, 3) := by decide +kernel
theorem dX12_readRow_160 : decode cX12_readRow 160 = .ok (.return_, 1) := by decide +kernel
theorem dX12_bracket_0 : decode cX12_bracket 0 = .ok (.aload_n 0, 1) := by decide +kernel
theorem dX12_bracket_1 : decode cX12_bracket 1 = .ok (.getfield 183, 3) := by decide +kernel
theorem dX12_bracket_4 : decode cX12_bracket 4 = .ok (.ifCond .ne 17, 3) := by decide +kernel
theorem dX12_bracket_7 : decode cX12_bracket 7 = .ok (.aload_n 0, 1) := by decide +kernel
theorem dX12_bracket_8 : decode cX12_bracket 8 = .ok (.getfield 246, 3) := by decide +kernel
theorem dX12_bracket_11 : decode cX12_bracket 11 = .ok (.bipush 8, 2) := by decide +kernel
theorem dX12_bracket_13 : decode cX12_bracket 13 = .ok (.if_icmp .ne 8, 3) := by decide +kernel
theorem dX12_bracket_16 : decode cX12_bracket 16 = .ok (.aload_n 0, 1) := by decide +kernel
theorem dX12_bracket_17 : decode cX12_bracket 17 = .ok (.iconst 2, 1) := by decide +kernel
theorem dX12_bracket_18 : decode cX12_bracket 18 = .ok (.invokevirtual 192, 3) := by decide +kernel
theorem dX12_bracket_21 : decode cX12_bracket 21 = .ok (.aload_n 0, 1) := by decide +kernel
theorem dX12_bracket_22 : decode cX12_bracket 22 = .ok (.dup, 1) := by decide +kernel
theorem dX12_bracket_23 : decode cX12_bracket 23 = .ok (.getfield 246, 3) := by decide +kernel
theorem dX12_bracket_26 : decode cX12_bracket 26 = .ok (.iconst 1, 1) := by decide +kernel
theorem dX12_bracket_27 : decode cX12_bracket 27 = .ok (.iadd, 1) := by decide +kernel
theorem dX12_bracket_28 : decode cX12_bracket 28 = .ok (.putfield 246, 3) := by decide +kernel
theorem dX12_bracket_31 : decode cX12_bracket 31 = .ok (.aload_n 0, 1) := by decide +kernel
theorem dX12_bracket_32 : decode cX12_bracket 32 = .ok (.invokevirtual 196, 3) := by decide +kernel
theorem dX12_bracket_35 : decode cX12_bracket 35 = .ok (.return_, 1) := by decide +kernel
theorem dX12_whole_0 : decode cX12_whole 0 = .ok (.aload_n 0, 1) := by decide +kernel
theorem dX12_whole_1 : decode cX12_whole 1 = .ok (.iconst 0, 1) := by decide +kernel
theorem dX12_whole_2 : decode cX12_whole 2 = .ok (.putfield 246, 3) := by decide +kernel
theorem dX12_whole_5 : decode cX12_whole 5 = .ok (.aload_n 0, 1) := by decide +kernel
theorem dX12_whole_6 : decode cX12_whole 6 = .ok (.invokevirtual 249, 3) := by decide +kernel
theorem dX12_whole_9 : decode cX12_whole 9 = .ok (.return_, 1) := by decide +kernel
theorem dX12_sum_0 : decode cX12_sum 0 = .ok (.aload_n 0, 1) := by decide +kernel
theorem dX12_sum_1 : decode cX12_sum 1 = .ok (.invokevirtual 252, 3) := by decide +kernel
theorem dX12_sum_4 : decode cX12_sum 4 = .ok (.aload_n 0, 1) := by decide +kernel
theorem dX12_sum_5 : decode cX12_sum 5 = .ok (.bipush 43, 2) := by decide +kernel
theorem dX12_sum_7 : decode cX12_sum 7 = .ok (.invokevirtual 199, 3) := by decide +kernel
theorem dX12_sum_10 : decode cX12_sum 10 = .ok (.ifCond .ne 12, 3) := by decide +kernel
theorem dX12_sum_13 : decode cX12_sum 13 = .ok (.aload_n 0, 1) := by decide +kernel
theorem dX12_sum_14 : decode cX12_sum 14 = .ok (.bipush 45, 2) := by decide +kernel
theorem dX12_sum_16 : decode cX12_sum 16 = .ok (.invokevirtual 199, 3) := by decide +kernel
theorem dX12_sum_19 : decode cX12_sum 19 = .ok (.ifCond .eq 36, 3) := by decide +kernel
theorem dX12_sum_22 : decode cX12_sum 22 = .ok (.aload_n 0, 1) := by decide +kernel
theorem dX12_sum_23 : decode cX12_sum 23 = .ok (.getfield 174, 3) := by decide +kernel
theorem dX12_sum_26 : decode cX12_sum 26 = .ok (.bipush 43, 2) := by decide +kernel
theorem dX12_sum_28 : decode cX12_sum 28 = .ok (.if_icmp .ne 7, 3) := by decide +kernel
theorem dX12_sum_31 : decode cX12_sum 31 = .ok (.iconst 3, 1) := by decide +kernel
theorem dX12_sum_32 : decode cX12_sum 32 = .ok (.goto 4, 3) := by decide +kernel
theorem dX12_sum_35 : decode cX12_sum 35 = .ok (.iconst 4, 1) := by decide +kernel
theorem dX12_sum_36 : decode cX12_sum 36 = .ok (.istore_n 1, 1) := by decide +kernel
theorem dX12_sum_37 : decode cX12_sum 37 = .ok (.aload_n 0, 1) := by decide +kernel
theorem dX12_sum_38 : decode cX12_sum 38 = .ok (.invokevirtual 196, 3) := by decide +kernel
theorem dX12_sum_41 : decode cX12_sum 41 = .ok (.aload_n 0, 1) := by decide +kernel
theorem dX12_sum_42 : decode cX12_sum 42 = .ok (.invokevirtual 252, 3) := by decide +kernel
theorem dX12_sum_45 : decode cX12_sum 45 = .ok (.aload_n 0, 1) := by decide +kernel
theorem dX12_sum_46 : decode cX12_sum 46 = .ok (.iload_n 1, 1) := by decide +kernel
theorem dX12_sum_47 : decode cX12_sum 47 = .ok (.iconst 0, 1) := by decide +kernel
theorem dX12_sum_48 : decode cX12_sum 48 = .ok (.iconst 0, 1) := by decide +kernel
theorem dX12_sum_49 : decode cX12_sum 49 = .ok (.invokevirtual 255, 3) := by decide +kernel
theorem dX12_sum_52 : decode cX12_sum 52 = .ok (.goto (-48), 3) := by decide +kernel
theorem dX12_sum_55 : decode cX12_sum 55 = .ok (.return_, 1) := by decide +kernel
theorem dX12_product_0 : decode cX12_product 0 = .ok (.aload_n 0, 1) := by decide +kernel
theorem dX12_product_1 : decode cX12_product 1 = .ok (.invokevirtual 258, 3) := by decide +kernel
theorem dX12_product_4 : decode cX12_product 4 = .ok (.aload_n 0, 1) := by decide +kernel
theorem dX12_product_5 : decode cX12_product 5 = .ok (.bipush 42, 2) := by decide +kernel
theorem dX12_product_7 : decode cX12_product 7 = .ok (.invokevirtual 199, 3) := by decide +kernel
theorem dX12_product_10 : decode cX12_product 10 = .ok (.ifCond .ne 12, 3) := by decide +kernel
theorem dX12_product_13 : decode cX12_product 13 = .ok (.aload_n 0, 1) := by decide +kernel
theorem dX12_product_14 : decode cX12_product 14 = .ok (.bipush 47, 2) := by decide +kernel
theorem dX12_product_16 : decode cX12_product 16 = .ok (.invokevirtual 199, 3) := by decide +kernel
theorem dX12_product_19 : decode cX12_product 19 = .ok (.ifCond .eq 37, 3) := by decide +kernel
theorem dX12_product_22 : decode cX12_product 22 = .ok (.aload_n 0, 1) := by decide +kernel
theorem dX12_product_23 : decode cX12_product 23 = .ok (.getfield 174, 3) := by decide +kernel
theorem dX12_product_26 : decode cX12_product 26 = .ok (.bipush 42, 2) := by decide +kernel
theorem dX12_product_28 : decode cX12_product 28 = .ok (.if_icmp .ne 7, 3) := by decide +kernel
theorem dX12_product_31 : decode cX12_product 31 = .ok (.iconst 5, 1) := by decide +kernel
theorem dX12_product_32 : decode cX12_product 32 = .ok (.goto 5, 3) := by decide +kernel
theorem dX12_product_35 : decode cX12_product 35 = .ok (.bipush 6, 2) := by decide +kernel
theorem dX12_product_37 : decode cX12_product 37 = .ok (.istore_n 1, 1) := by decide +kernel
theorem dX12_product_38 : decode cX12_product 38 = .ok (.aload_n 0, 1) := by decide +kernel
theorem dX12_product_39 : decode cX12_product 39 = .ok (.invokevirtual 196, 3) := by decide +kernel
theorem dX12_product_42 : decode cX12_product 42 = .ok (.aload_n 0, 1) := by decide +kernel
theorem dX12_product_43 : decode cX12_product 43 = .ok (.invokevirtual 258, 3) := by decide +kernel
theorem dX12_product_46 : decode cX12_product 46 = .ok (.aload_n 0, 1) := by decide +kernel
theorem dX12_product_47 : decode cX12_product 47 = .ok (.iload_n 1, 1) := by decide +kernel
theorem dX12_product_48 : decode cX12_product 48 = .ok (.iconst 0, 1) := by decide +kernel
theorem dX12_product_49 : decode cX12_product 49 = .ok (.iconst 0, 1) := by decide +kernel
theorem dX12_product_50 : decode cX12_product 50 = .ok (.invokevirtual 255, 3) := by decide +kernel
theorem dX12_product_53 : decode cX12_product 53 = .ok (.goto (-49), 3) := by decide +kernel
theorem dX12_product_56 : decode cX12_product 56 = .ok (.return_, 1) := by decide +kernel
theorem dX12_factor_0 : decode cX12_factor 0 = .ok (.aload_n 0, 1) := by decide +kernel
theorem dX12_factor_1 : decode cX12_factor 1 = .ok (.getfield 183, 3) := by decide +kernel
theorem dX12_factor_4 : decode cX12_factor 4 = .ok (.ifCond .eq 4, 3) := by decide +kernel
theorem dX12_factor_7 : decode cX12_factor 7 = .ok (.return_, 1) := by decide +kernel
theorem dX12_factor_8 : decode cX12_factor 8 = .ok (.aload_n 0, 1) := by decide +kernel
theorem dX12_factor_9 : decode cX12_factor 9 = .ok (.getfield 161, 3) := by decide +kernel
theorem dX12_factor_12 : decode cX12_factor 12 = .ok (.iconst 1, 1) := by decide +kernel
theorem dX12_factor_13 : decode cX12_factor 13 = .ok (.if_icmp .ne 20, 3) := by decide +kernel
theorem dX12_factor_16 : decode cX12_factor 16 = .ok (.aload_n 0, 1) := by decide +kernel
theorem dX12_factor_17 : decode cX12_factor 17 = .ok (.iconst 0, 1) := by decide +kernel
theorem dX12_factor_18 : decode cX12_factor 18 = .ok (.aload_n 0, 1) := by decide +kernel
theorem dX12_factor_19 : decode cX12_factor 19 = .ok (.iconst 0, 1) := by decide +kernel
theorem dX12_factor_20 : decode cX12_factor 20 = .ok (.sipush 9999, 3) := by decide +kernel
theorem dX12_factor_23 : decode cX12_factor 23 = .ok (.invokevirtual 235, 3) := by decide +kernel
theorem dX12_factor_26 : decode cX12_factor 26 = .ok (.iconst 0, 1) := by decide +kernel
theorem dX12_factor_27 : decode cX12_factor 27 = .ok (.invokevirtual 255, 3) := by decide +kernel
theorem dX12_factor_30 : decode cX12_factor 30 = .ok (.goto 58, 3) := by decide +kernel
theorem dX12_factor_33 : decode cX12_factor 33 = .ok (.aload_n 0, 1) := by decide +kernel
theorem dX12_factor_34 : decode cX12_factor 34 = .ok (.bipush 40, 2) := by decide +kernel
theorem dX12_factor_36 : decode cX12_factor 36 = .ok (.invokevirtual 199, 3) := by decide +kernel
theorem dX12_factor_39 : decode cX12_factor 39 = .ok (.ifCond .eq 30, 3) := by decide +kernel
theorem dX12_factor_42 : decode cX12_factor 42 = .ok (.aload_n 0, 1) := by decide +kernel
theorem dX12_factor_43 : decode cX12_factor 43 = .ok (.invokevirtual 261, 3) := by decide +kernel
theorem dX12_factor_46 : decode cX12_factor 46 = .ok (.aload_n 0, 1) := by decide +kernel
theorem dX12_factor_47 : decode cX12_factor 47 = .ok (.invokevirtual 249, 3) := by decide +kernel
theorem dX12_factor_50 : decode cX12_factor 50 = .ok (.aload_n 0, 1) := by decide +kernel
theorem dX12_factor_51 : decode cX12_factor 51 = .ok (.bipush 41, 2) := by decide +kernel
theorem dX12_factor_53 : decode cX12_factor 53 = .ok (.invokevirtual 264, 3) := by decide +kernel
theorem dX12_factor_56 : decode cX12_factor 56 = .ok (.aload_n 0, 1) := by decide +kernel
theorem dX12_factor_57 : decode cX12_factor 57 = .ok (.dup, 1) := by decide +kernel
theorem dX12_factor_58 : decode cX12_factor 58 = .ok (.getfield 246, 3) := by decide +kernel
theorem dX12_factor_61 : decode cX12_factor 61 = .ok (.iconst 1, 1) := by decide +kernel
theorem dX12_factor_62 : decode cX12_factor 62 = .ok (.isub, 1) := by decide +kernel
theorem dX12_factor_63 : decode cX12_factor 63 = .ok (.putfield 246, 3) := by decide +kernel
theorem dX12_factor_66 : decode cX12_factor 66 = .ok (.goto 22, 3) := by decide +kernel
theorem dX12_factor_69 : decode cX12_factor 69 = .ok (.aload_n 0, 1) := by decide +kernel
theorem dX12_factor_70 : decode cX12_factor 70 = .ok (.invokevirtual 214, 3) := by decide +kernel
theorem dX12_factor_73 : decode cX12_factor 73 = .ok (.ifCond .eq 10, 3) := by decide +kernel
theorem dX12_factor_76 : decode cX12_factor 76 = .ok (.aload_n 0, 1) := by decide +kernel
theorem dX12_factor_77 : decode cX12_factor 77 = .ok (.invokevirtual 267, 3) := by decide +kernel
theorem dX12_factor_80 : decode cX12_factor 80 = .ok (.goto 8, 3) := by decide +kernel
theorem dX12_factor_83 : decode cX12_factor 83 = .ok (.aload_n 0, 1) := by decide +kernel
theorem dX12_factor_84 : decode cX12_factor 84 = .ok (.iconst 1, 1) := by decide +kernel
theorem dX12_factor_85 : decode cX12_factor 85 = .ok (.invokevirtual 192, 3) := by decide +kernel
theorem dX12_factor_88 : decode cX12_factor 88 = .ok (.return_, 1) := by decide +kernel
theorem dX12_named_0 : decode cX12_named 0 = .ok (.aload_n 0, 1) := by decide +kernel
theorem dX12_named_1 : decode cX12_named 1 = .ok (.aload_n 0, 1) := by decide +kernel
theorem dX12_named_2 : decode cX12_named 2 = .ok (.getfield 174, 3) := by decide +kernel
theorem dX12_named_5 : decode cX12_named 5 = .ok (.invokevirtual 222, 3) := by decide +kernel
theorem dX12_named_8 : decode cX12_named 8 = .ok (.istore_n 1, 1) := by decide +kernel
theorem dX12_named_9 : decode cX12_named 9 = .ok (.aload_n 0, 1) := by decide +kernel
theorem dX12_named_10 : decode cX12_named 10 = .ok (.aload_n 0, 1) := by decide +kernel
theorem dX12_named_11 : decode cX12_named 11 = .ok (.getfield 174, 3) := by decide +kernel
theorem dX12_named_14 : decode cX12_named 14 = .ok (.invokevirtual 218, 3) := by decide +kernel
theorem dX12_named_17 : decode cX12_named 17 = .ok (.istore_n 2, 1) := by decide +kernel
theorem dX12_named_18 : decode cX12_named 18 = .ok (.iload_n 1, 1) := by decide +kernel
theorem dX12_named_19 : decode cX12_named 19 = .ok (.iconst (-1), 1) := by decide +kernel
theorem dX12_named_20 : decode cX12_named 20 = .ok (.if_icmp .ne 13, 3) := by decide +kernel
theorem dX12_named_23 : decode cX12_named 23 = .ok (.iload_n 2, 1) := by decide +kernel
theorem dX12_named_24 : decode cX12_named 24 = .ok (.iconst (-1), 1) := by decide +kernel
theorem dX12_named_25 : decode cX12_named 25 = .ok (.if_icmp .ne 8, 3) := by decide +kernel
theorem dX12_named_28 : decode cX12_named 28 = .ok (.aload_n 0, 1) := by decide +kernel
theorem dX12_named_29 : decode cX12_named 29 = .ok (.iconst 1, 1) := by decide +kernel
theorem dX12_named_30 : decode cX12_named 30 = .ok (.invokevirtual 192, 3) := by decide +kernel
theorem dX12_named_33 : decode cX12_named 33 = .ok (.aload_n 0, 1) := by decide +kernel
theorem dX12_named_34 : decode cX12_named 34 = .ok (.invokevirtual 196, 3) := by decide +kernel
theorem dX12_named_37 : decode cX12_named 37 = .ok (.iload_n 1, 1) := by decide +kernel
theorem dX12_named_38 : decode cX12_named 38 = .ok (.iconst (-1), 1) := by decide +kernel
theorem dX12_named_39 : decode cX12_named 39 = .ok (.if_icmp .ne 11, 3) := by decide +kernel
theorem dX12_named_42 : decode cX12_named 42 = .ok (.aload_n 0, 1) := by decide +kernel
theorem dX12_named_43 : decode cX12_named 43 = .ok (.iconst 1, 1) := by decide +kernel
theorem dX12_named_44 : decode cX12_named 44 = .ok (.iload_n 2, 1) := by decide +kernel
theorem dX12_named_45 : decode cX12_named 45 = .ok (.iconst 0, 1) := by decide +kernel
theorem dX12_named_46 : decode cX12_named 46 = .ok (.invokevirtual 255, 3) := by decide +kernel
theorem dX12_named_49 : decode cX12_named 49 = .ok (.return_, 1) := by decide +kernel
theorem dX12_named_50 : decode cX12_named 50 = .ok (.aload_n 0, 1) := by decide +kernel
theorem dX12_named_51 : decode cX12_named 51 = .ok (.bipush 91, 2) := by decide +kernel
theorem dX12_named_53 : decode cX12_named 53 = .ok (.invokevirtual 199, 3) := by decide +kernel
theorem dX12_named_56 : decode cX12_named 56 = .ok (.ifCond .ne 9, 3) := by decide +kernel
theorem dX12_named_59 : decode cX12_named 59 = .ok (.aload_n 0, 1) := by decide +kernel
theorem dX12_named_60 : decode cX12_named 60 = .ok (.iconst 1, 1) := by decide +kernel
theorem dX12_named_61 : decode cX12_named 61 = .ok (.invokevirtual 192, 3) := by decide +kernel
theorem dX12_named_64 : decode cX12_named 64 = .ok (.return_, 1) := by decide +kernel
theorem dX12_named_65 : decode cX12_named 65 = .ok (.aload_n 0, 1) := by decide +kernel
theorem dX12_named_66 : decode cX12_named 66 = .ok (.invokevirtual 261, 3) := by decide +kernel
theorem dX12_named_69 : decode cX12_named 69 = .ok (.aload_n 0, 1) := by decide +kernel
theorem dX12_named_70 : decode cX12_named 70 = .ok (.invokevirtual 249, 3) := by decide +kernel
theorem dX12_named_73 : decode cX12_named 73 = .ok (.aload_n 0, 1) := by decide +kernel
theorem dX12_named_74 : decode cX12_named 74 = .ok (.bipush 93, 2) := by decide +kernel
theorem dX12_named_76 : decode cX12_named 76 = .ok (.invokevirtual 264, 3) := by decide +kernel
theorem dX12_named_79 : decode cX12_named 79 = .ok (.aload_n 0, 1) := by decide +kernel
theorem dX12_named_80 : decode cX12_named 80 = .ok (.dup, 1) := by decide +kernel
theorem dX12_named_81 : decode cX12_named 81 = .ok (.getfield 246, 3) := by decide +kernel
theorem dX12_named_84 : decode cX12_named 84 = .ok (.iconst 1, 1) := by decide +kernel
theorem dX12_named_85 : decode cX12_named 85 = .ok (.isub, 1) := by decide +kernel
theorem dX12_named_86 : decode cX12_named 86 = .ok (.putfield 246, 3) := by decide +kernel
theorem dX12_named_89 : decode cX12_named 89 = .ok (.aload_n 0, 1) := by decide +kernel
theorem dX12_named_90 : decode cX12_named 90 = .ok (.iconst 2, 1) := by decide +kernel
theorem dX12_named_91 : decode cX12_named 91 = .ok (.iload_n 1, 1) := by decide +kernel
theorem dX12_named_92 : decode cX12_named 92 = .ok (.iconst 0, 1) := by decide +kernel
theorem dX12_named_93 : decode cX12_named 93 = .ok (.invokevirtual 255, 3) := by decide +kernel
theorem dX12_named_96 : decode cX12_named 96 = .ok (.return_, 1) := by decide +kernel
theorem dX12_target_0 : decode cX12_target 0 = .ok (.aload_n 0, 1) := by decide +kernel
theorem dX12_target_1 : decode cX12_target 1 = .ok (.invokevirtual 214, 3) := by decide +kernel
theorem dX12_target_4 : decode cX12_target 4 = .ok (.ifCond .eq 15, 3) := by decide +kernel
theorem dX12_target_7 : decode cX12_target 7 = .ok (.aload_n 0, 1) := by decide +kernel
theorem dX12_target_8 : decode cX12_target 8 = .ok (.aload_n 0, 1) := by decide +kernel
theorem dX12_target_9 : decode cX12_target 9 = .ok (.getfield 174, 3) := by decide +kernel
theorem dX12_target_12 : decode cX12_target 12 = .ok (.invokevirtual 222, 3) := by decide +kernel
theorem dX12_target_15 : decode cX12_target 15 = .ok (.iconst (-1), 1) := by decide +kernel
theorem dX12_target_16 : decode cX12_target 16 = .ok (.if_icmp .eq 8, 3) := by decide +kernel
theorem dX12_target_19 : decode cX12_target 19 = .ok (.aload_n 0, 1) := by decide +kernel
theorem dX12_target_20 : decode cX12_target 20 = .ok (.iconst 1, 1) := by decide +kernel
theorem dX12_target_21 : decode cX12_target 21 = .ok (.invokevirtual 192, 3) := by decide +kernel
theorem dX12_target_24 : decode cX12_target 24 = .ok (.aload_n 0, 1) := by decide +kernel
theorem dX12_target_25 : decode cX12_target 25 = .ok (.getfield 183, 3) := by decide +kernel
theorem dX12_target_28 : decode cX12_target 28 = .ok (.ifCond .ne 14, 3) := by decide +kernel
theorem dX12_target_31 : decode cX12_target 31 = .ok (.aload_n 0, 1) := by decide +kernel
theorem dX12_target_32 : decode cX12_target 32 = .ok (.aload_n 0, 1) := by decide +kernel
theorem dX12_target_33 : decode cX12_target 33 = .ok (.getfield 174, 3) := by decide +kernel
theorem dX12_target_36 : decode cX12_target 36 = .ok (.invokevirtual 218, 3) := by decide +kernel
theorem dX12_target_39 : decode cX12_target 39 = .ok (.goto 4, 3) := by decide +kernel
theorem dX12_target_42 : decode cX12_target 42 = .ok (.iconst 0, 1) := by decide +kernel
theorem dX12_target_43 : decode cX12_target 43 = .ok (.istore_n 1, 1) := by decide +kernel
theorem dX12_target_44 : decode cX12_target 44 = .ok (.iload_n 1, 1) := by decide +kernel
theorem dX12_target_45 : decode cX12_target 45 = .ok (.iconst (-1), 1) := by decide +kernel
theorem dX12_target_46 : decode cX12_target 46 = .ok (.if_icmp .ne 17, 3) := by decide +kernel
theorem dX12_target_49 : decode cX12_target 49 = .ok (.aload_n 0, 1) := by decide +kernel
theorem dX12_target_50 : decode cX12_target 50 = .ok (.getfield 205, 3) := by decide +kernel
theorem dX12_target_53 : decode cX12_target 53 = .ok (.bipush 8, 2) := by decide +kernel
theorem dX12_target_55 : decode cX12_target 55 = .ok (.if_icmp .ne 8, 3) := by decide +kernel
theorem dX12_target_58 : decode cX12_target 58 = .ok (.aload_n 0, 1) := by decide +kernel
theorem dX12_target_59 : decode cX12_target 59 = .ok (.iconst 2, 1) := by decide +kernel
theorem dX12_target_60 : decode cX12_target 60 = .ok (.invokevirtual 192, 3) := by decide +kernel
theorem dX12_target_63 : decode cX12_target 63 = .ok (.aload_n 0, 1) := by decide +kernel
theorem dX12_target_64 : decode cX12_target 64 = .ok (.getfield 183, 3) := by decide +kernel
theorem dX12_target_67 : decode cX12_target 67 = .ok (.ifCond .ne 36, 3) := by decide +kernel
theorem dX12_target_70 : decode cX12_target 70 = .ok (.iload_n 1, 1) := by decide +kernel
theorem dX12_target_71 : decode cX12_target 71 = .ok (.iconst (-1), 1) := by decide +kernel
theorem dX12_target_72 : decode cX12_target 72 = .ok (.if_icmp .ne 31, 3) := by decide +kernel
theorem dX12_target_75 : decode cX12_target 75 = .ok (.aload_n 0, 1) := by decide +kernel
theorem dX12_target_76 : decode cX12_target 76 = .ok (.getfield 205, 3) := by decide +kernel
theorem dX12_target_79 : decode cX12_target 79 = .ok (.istore_n 1, 1) := by decide +kernel
theorem dX12_target_80 : decode cX12_target 80 = .ok (.aload_n 0, 1) := by decide +kernel
theorem dX12_target_81 : decode cX12_target 81 = .ok (.getfield 17, 3) := by decide +kernel
theorem dX12_target_84 : decode cX12_target 84 = .ok (.aload_n 0, 1) := by decide +kernel
theorem dX12_target_85 : decode cX12_target 85 = .ok (.getfield 205, 3) := by decide +kernel
theorem dX12_target_88 : decode cX12_target 88 = .ok (.aload_n 0, 1) := by decide +kernel
theorem dX12_target_89 : decode cX12_target 89 = .ok (.getfield 174, 3) := by decide +kernel
theorem dX12_target_92 : decode cX12_target 92 = .ok (.iastore, 1) := by decide +kernel
theorem dX12_target_93 : decode cX12_target 93 = .ok (.aload_n 0, 1) := by decide +kernel
theorem dX12_target_94 : decode cX12_target 94 = .ok (.dup, 1) := by decide +kernel
theorem dX12_target_95 : decode cX12_target 95 = .ok (.getfield 205, 3) := by decide +kernel
theorem dX12_target_98 : decode cX12_target 98 = .ok (.iconst 1, 1) := by decide +kernel
theorem dX12_target_99 : decode cX12_target 99 = .ok (.iadd, 1) := by decide +kernel
theorem dX12_target_100 : decode cX12_target 100 = .ok (.putfield 205, 3) := by decide +kernel
theorem dX12_target_103 : decode cX12_target 103 = .ok (.aload_n 0, 1) := by decide +kernel
theorem dX12_target_104 : decode cX12_target 104 = .ok (.invokevirtual 196, 3) := by decide +kernel
theorem dX12_target_107 : decode cX12_target 107 = .ok (.iload_n 1, 1) := by decide +kernel
theorem dX12_target_108 : decode cX12_target 108 = .ok (.ireturn, 1) := by decide +kernel
theorem dX12_readAssignment_0 : decode cX12_readAssignment 0 = .ok (.aload_n 0, 1) := by decide +kernel
theorem dX12_readAssignment_1 : decode cX12_readAssignment 1 = .ok (.aload_n 0, 1) := by decide +kernel
theorem dX12_readAssignment_2 : decode cX12_readAssignment 2 = .ok (.getfield 174, 3) := by decide +kernel
theorem dX12_readAssignment_5 : decode cX12_readAssignment 5 = .ok (.invokevirtual 222, 3) := by decide +kernel
theorem dX12_readAssignment_8 : decode cX12_readAssignment 8 = .ok (.istore_n 1, 1) := by decide +kernel
theorem dX12_readAssignment_9 : decode cX12_readAssignment 9 = .ok (.iload_n 1, 1) := by decide +kernel
theorem dX12_readAssignment_10 : decode cX12_readAssignment 10 = .ok (.iconst (-1), 1) := by decide +kernel
theorem dX12_readAssignment_11 : decode cX12_readAssignment 11 = .ok (.if_icmp .ne 27, 3) := by decide +kernel
theorem dX12_readAssignment_14 : decode cX12_readAssignment 14 = .ok (.aload_n 0, 1) := by decide +kernel
theorem dX12_readAssignment_15 : decode cX12_readAssignment 15 = .ok (.invokevirtual 270, 3) := by decide +kernel
theorem dX12_readAssignment_18 : decode cX12_readAssignment 18 = .ok (.istore_n 2, 1) := by decide +kernel
theorem dX12_readAssignment_19 : decode cX12_readAssignment 19 = .ok (.aload_n 0, 1) := by decide +kernel
theorem dX12_readAssignment_20 : decode cX12_readAssignment 20 = .ok (.bipush 61, 2) := by decide +kernel
theorem dX12_readAssignment_22 : decode cX12_readAssignment 22 = .ok (.invokevirtual 264, 3) := by decide +kernel
theorem dX12_readAssignment_25 : decode cX12_readAssignment 25 = .ok (.aload_n 0, 1) := by decide +kernel
theorem dX12_readAssignment_26 : decode cX12_readAssignment 26 = .ok (.invokevirtual 273, 3) := by decide +kernel
theorem dX12_readAssignment_29 : decode cX12_readAssignment 29 = .ok (.aload_n 0, 1) := by decide +kernel
theorem dX12_readAssignment_30 : decode cX12_readAssignment 30 = .ok (.bipush 7, 2) := by decide +kernel
theorem dX12_readAssignment_32 : decode cX12_readAssignment 32 = .ok (.iload_n 2, 1) := by decide +kernel
theorem dX12_readAssignment_33 : decode cX12_readAssignment 33 = .ok (.iconst 0, 1) := by decide +kernel
theorem dX12_readAssignment_34 : decode cX12_readAssignment 34 = .ok (.invokevirtual 255, 3) := by decide +kernel
theorem dX12_readAssignment_37 : decode cX12_readAssignment 37 = .ok (.return_, 1) := by decide +kernel
theorem dX12_readAssignment_38 : decode cX12_readAssignment 38 = .ok (.aload_n 0, 1) := by decide +kernel
theorem dX12_readAssignment_39 : decode cX12_readAssignment 39 = .ok (.invokevirtual 196, 3) := by decide +kernel
theorem dX12_readAssignment_42 : decode cX12_readAssignment 42 = .ok (.aload_n 0, 1) := by decide +kernel
theorem dX12_readAssignment_43 : decode cX12_readAssignment 43 = .ok (.bipush 91, 2) := by decide +kernel
theorem dX12_readAssignment_45 : decode cX12_readAssignment 45 = .ok (.invokevirtual 264, 3) := by decide +kernel
theorem dX12_readAssignment_48 : decode cX12_readAssignment 48 = .ok (.aload_n 0, 1) := by decide +kernel
theorem dX12_readAssignment_49 : decode cX12_readAssignment 49 = .ok (.invokevirtual 273, 3) := by decide +kernel
theorem dX12_readAssignment_52 : decode cX12_readAssignment 52 = .ok (.aload_n 0, 1) := by decide +kernel
theorem dX12_readAssignment_53 : decode cX12_readAssignment 53 = .ok (.bipush 93, 2) := by decide +kernel
theorem dX12_readAssignment_55 : decode cX12_readAssignment 55 = .ok (.invokevirtual 264, 3) := by decide +kernel
theorem dX12_readAssignment_58 : decode cX12_readAssignment 58 = .ok (.aload_n 0, 1) := by decide +kernel
theorem dX12_readAssignment_59 : decode cX12_readAssignment 59 = .ok (.bipush 61, 2) := by decide +kernel
theorem dX12_readAssignment_61 : decode cX12_readAssignment 61 = .ok (.invokevirtual 264, 3) := by decide +kernel
theorem dX12_readAssignment_64 : decode cX12_readAssignment 64 = .ok (.aload_n 0, 1) := by decide +kernel
theorem dX12_readAssignment_65 : decode cX12_readAssignment 65 = .ok (.invokevirtual 273, 3) := by decide +kernel
theorem dX12_readAssignment_68 : decode cX12_readAssignment 68 = .ok (.aload_n 0, 1) := by decide +kernel
theorem dX12_readAssignment_69 : decode cX12_readAssignment 69 = .ok (.bipush 8, 2) := by decide +kernel
theorem dX12_readAssignment_71 : decode cX12_readAssignment 71 = .ok (.iload_n 1, 1) := by decide +kernel
theorem dX12_readAssignment_72 : decode cX12_readAssignment 72 = .ok (.iconst 0, 1) := by decide +kernel
theorem dX12_readAssignment_73 : decode cX12_readAssignment 73 = .ok (.invokevirtual 255, 3) := by decide +kernel
theorem dX12_readAssignment_76 : decode cX12_readAssignment 76 = .ok (.return_, 1) := by decide +kernel
theorem dX12_opens_0 : decode cX12_opens 0 = .ok (.aload_n 0, 1) := by decide +kernel
theorem dX12_opens_1 : decode cX12_opens 1 = .ok (.getfield 183, 3) := by decide +kernel
theorem dX12_opens_4 : decode cX12_opens 4 = .ok (.ifCond .eq 4, 3) := by decide +kernel
theorem dX12_opens_7 : decode cX12_opens 7 = .ok (.return_, 1) := by decide +kernel
theorem dX12_opens_8 : decode cX12_opens 8 = .ok (.aload_n 0, 1) := by decide +kernel
theorem dX12_opens_9 : decode cX12_opens 9 = .ok (.getfield 38, 3) := by decide +kernel
theorem dX12_opens_12 : decode cX12_opens 12 = .ok (.aload_n 0, 1) := by decide +kernel
theorem dX12_opens_13 : decode cX12_opens 13 = .ok (.getfield 276, 3) := by decide +kernel
theorem dX12_opens_16 : decode cX12_opens 16 = .ok (.iload_n 1, 1) := by decide +kernel
theorem dX12_opens_17 : decode cX12_opens 17 = .ok (.iastore, 1) := by decide +kernel
theorem dX12_opens_18 : decode cX12_opens 18 = .ok (.aload_n 0, 1) := by decide +kernel
theorem dX12_opens_19 : decode cX12_opens 19 = .ok (.getfield 41, 3) := by decide +kernel
theorem dX12_opens_22 : decode cX12_opens 22 = .ok (.aload_n 0, 1) := by decide +kernel
theorem dX12_opens_23 : decode cX12_opens 23 = .ok (.getfield 276, 3) := by decide +kernel
theorem dX12_opens_26 : decode cX12_opens 26 = .ok (.iload_n 2, 1) := by decide +kernel
theorem dX12_opens_27 : decode cX12_opens 27 = .ok (.iastore, 1) := by decide +kernel
theorem dX12_opens_28 : decode cX12_opens 28 = .ok (.aload_n 0, 1) := by decide +kernel
theorem dX12_opens_29 : decode cX12_opens 29 = .ok (.dup, 1) := by decide +kernel
theorem dX12_opens_30 : decode cX12_opens 30 = .ok (.getfield 276, 3) := by decide +kernel
theorem dX12_opens_33 : decode cX12_opens 33 = .ok (.iconst 1, 1) := by decide +kernel
theorem dX12_opens_34 : decode cX12_opens 34 = .ok (.iadd, 1) := by decide +kernel
theorem dX12_opens_35 : decode cX12_opens 35 = .ok (.putfield 276, 3) := by decide +kernel
theorem dX12_opens_38 : decode cX12_opens 38 = .ok (.return_, 1) := by decide +kernel
theorem dX12_readLoop_0 : decode cX12_readLoop 0 = .ok (.aload_n 0, 1) := by decide +kernel
theorem dX12_readLoop_1 : decode cX12_readLoop 1 = .ok (.getfield 276, 3) := by decide +kernel
theorem dX12_readLoop_4 : decode cX12_readLoop 4 = .ok (.iconst 4, 1) := by decide +kernel
theorem dX12_readLoop_5 : decode cX12_readLoop 5 = .ok (.if_icmp .ne 8, 3) := by decide +kernel
theorem dX12_readLoop_8 : decode cX12_readLoop 8 = .ok (.aload_n 0, 1) := by decide +kernel
theorem dX12_readLoop_9 : decode cX12_readLoop 9 = .ok (.iconst 2, 1) := by decide +kernel
theorem dX12_readLoop_10 : decode cX12_readLoop 10 = .ok (.invokevirtual 192, 3) := by decide +kernel
theorem dX12_readLoop_13 : decode cX12_readLoop 13 = .ok (.aload_n 0, 1) := by decide +kernel
theorem dX12_readLoop_14 : decode cX12_readLoop 14 = .ok (.invokevirtual 196, 3) := by decide +kernel
theorem dX12_readLoop_17 : decode cX12_readLoop 17 = .ok (.aload_n 0, 1) := by decide +kernel
theorem dX12_readLoop_18 : decode cX12_readLoop 18 = .ok (.invokevirtual 270, 3) := by decide +kernel
theorem dX12_readLoop_21 : decode cX12_readLoop 21 = .ok (.istore_n 1, 1) := by decide +kernel
theorem dX12_readLoop_22 : decode cX12_readLoop 22 = .ok (.aload_n 0, 1) := by decide +kernel
theorem dX12_readLoop_23 : decode cX12_readLoop 23 = .ok (.iconst 1, 1) := by decide +kernel
theorem dX12_readLoop_24 : decode cX12_readLoop 24 = .ok (.bipush 20, 2) := by decide +kernel
theorem dX12_readLoop_26 : decode cX12_readLoop 26 = .ok (.invokevirtual 235, 3) := by decide +kernel
theorem dX12_readLoop_29 : decode cX12_readLoop 29 = .ok (.istore_n 2, 1) := by decide +kernel
theorem dX12_readLoop_30 : decode cX12_readLoop 30 = .ok (.aload_n 0, 1) := by decide +kernel
theorem dX12_readLoop_31 : decode cX12_readLoop 31 = .ok (.iconst 0, 1) := by decide +kernel
theorem dX12_readLoop_32 : decode cX12_readLoop 32 = .ok (.aload_n 0, 1) := by decide +kernel
theorem dX12_readLoop_33 : decode cX12_readLoop 33 = .ok (.getfield 202, 3) := by decide +kernel
theorem dX12_readLoop_36 : decode cX12_readLoop 36 = .ok (.invokevirtual 279, 3) := by decide +kernel
theorem dX12_readLoop_39 : decode cX12_readLoop 39 = .ok (.aload_n 0, 1) := by decide +kernel
theorem dX12_readLoop_40 : decode cX12_readLoop 40 = .ok (.bipush 10, 2) := by decide +kernel
theorem dX12_readLoop_42 : decode cX12_readLoop 42 = .ok (.iload_n 1, 1) := by decide +kernel
theorem dX12_readLoop_43 : decode cX12_readLoop 43 = .ok (.iload_n 2, 1) := by decide +kernel
theorem dX12_readLoop_44 : decode cX12_readLoop 44 = .ok (.invokevirtual 255, 3) := by decide +kernel
theorem dX12_readLoop_47 : decode cX12_readLoop 47 = .ok (.return_, 1) := by decide +kernel
theorem dX12_readIf_0 : decode cX12_readIf 0 = .ok (.aload_n 0, 1) := by decide +kernel
theorem dX12_readIf_1 : decode cX12_readIf 1 = .ok (.getfield 276, 3) := by decide +kernel
theorem dX12_readIf_4 : decode cX12_readIf 4 = .ok (.iconst 4, 1) := by decide +kernel
theorem dX12_readIf_5 : decode cX12_readIf 5 = .ok (.if_icmp .ne 8, 3) := by decide +kernel
theorem dX12_readIf_8 : decode cX12_readIf 8 = .ok (.aload_n 0, 1) := by decide +kernel
theorem dX12_readIf_9 : decode cX12_readIf 9 = .ok (.iconst 2, 1) := by decide +kernel
theorem dX12_readIf_10 : decode cX12_readIf 10 = .ok (.invokevirtual 192, 3) := by decide +kernel
theorem dX12_readIf_13 : decode cX12_readIf 13 = .ok (.aload_n 0, 1) := by decide +kernel
theorem dX12_readIf_14 : decode cX12_readIf 14 = .ok (.invokevirtual 196, 3) := by decide +kernel
theorem dX12_readIf_17 : decode cX12_readIf 17 = .ok (.aload_n 0, 1) := by decide +kernel
theorem dX12_readIf_18 : decode cX12_readIf 18 = .ok (.invokevirtual 273, 3) := by decide +kernel
theorem dX12_readIf_21 : decode cX12_readIf 21 = .ok (.aload_n 0, 1) := by decide +kernel
theorem dX12_readIf_22 : decode cX12_readIf 22 = .ok (.bipush 60, 2) := by decide +kernel
theorem dX12_readIf_24 : decode cX12_readIf 24 = .ok (.invokevirtual 199, 3) := by decide +kernel
theorem dX12_readIf_27 : decode cX12_readIf 27 = .ok (.ifCond .eq 8, 3) := by decide +kernel
theorem dX12_readIf_30 : decode cX12_readIf 30 = .ok (.bipush 12, 2) := by decide +kernel
theorem dX12_readIf_32 : decode cX12_readIf 32 = .ok (.goto 5, 3) := by decide +kernel
theorem dX12_readIf_35 : decode cX12_readIf 35 = .ok (.bipush 13, 2) := by decide +kernel
theorem dX12_readIf_37 : decode cX12_readIf 37 = .ok (.istore_n 1, 1) := by decide +kernel
theorem dX12_readIf_38 : decode cX12_readIf 38 = .ok (.iload_n 1, 1) := by decide +kernel
theorem dX12_readIf_39 : decode cX12_readIf 39 = .ok (.bipush 13, 2) := by decide +kernel
theorem dX12_readIf_41 : decode cX12_readIf 41 = .ok (.if_icmp .ne 17, 3) := by decide +kernel
theorem dX12_readIf_44 : decode cX12_readIf 44 = .ok (.aload_n 0, 1) := by decide +kernel
theorem dX12_readIf_45 : decode cX12_readIf 45 = .ok (.bipush 61, 2) := by decide +kernel
theorem dX12_readIf_47 : decode cX12_readIf 47 = .ok (.invokevirtual 199, 3) := by decide +kernel
theorem dX12_readIf_50 : decode cX12_readIf 50 = .ok (.ifCond .ne 8, 3) := by decide +kernel
theorem dX12_readIf_53 : decode cX12_readIf 53 = .ok (.aload_n 0, 1) := by decide +kernel
theorem dX12_readIf_54 : decode cX12_readIf 54 = .ok (.iconst 1, 1) := by decide +kernel
theorem dX12_readIf_55 : decode cX12_readIf 55 = .ok (.invokevirtual 192, 3) := by decide +kernel
theorem dX12_readIf_58 : decode cX12_readIf 58 = .ok (.aload_n 0, 1) := by decide +kernel
theorem dX12_readIf_59 : decode cX12_readIf 59 = .ok (.invokevirtual 196, 3) := by decide +kernel
theorem dX12_readIf_62 : decode cX12_readIf 62 = .ok (.aload_n 0, 1) := by decide +kernel
theorem dX12_readIf_63 : decode cX12_readIf 63 = .ok (.invokevirtual 273, 3) := by decide +kernel
theorem dX12_readIf_66 : decode cX12_readIf 66 = .ok (.aload_n 0, 1) := by decide +kernel
theorem dX12_readIf_67 : decode cX12_readIf 67 = .ok (.iconst 1, 1) := by decide +kernel
theorem dX12_readIf_68 : decode cX12_readIf 68 = .ok (.aload_n 0, 1) := by decide +kernel
theorem dX12_readIf_69 : decode cX12_readIf 69 = .ok (.getfield 202, 3) := by decide +kernel
theorem dX12_readIf_72 : decode cX12_readIf 72 = .ok (.invokevirtual 279, 3) := by decide +kernel
theorem dX12_readIf_75 : decode cX12_readIf 75 = .ok (.aload_n 0, 1) := by decide +kernel
theorem dX12_readIf_76 : decode cX12_readIf 76 = .ok (.iload_n 1, 1) := by decide +kernel
theorem dX12_readIf_77 : decode cX12_readIf 77 = .ok (.iconst 0, 1) := by decide +kernel
theorem dX12_readIf_78 : decode cX12_readIf 78 = .ok (.iconst 0, 1) := by decide +kernel
theorem dX12_readIf_79 : decode cX12_readIf 79 = .ok (.invokevirtual 255, 3) := by decide +kernel
theorem dX12_readIf_82 : decode cX12_readIf 82 = .ok (.return_, 1) := by decide +kernel
theorem dX12_readElse_0 : decode cX12_readElse 0 = .ok (.aload_n 0, 1) := by decide +kernel
theorem dX12_readElse_1 : decode cX12_readElse 1 = .ok (.getfield 276, 3) := by decide +kernel
theorem dX12_readElse_4 : decode cX12_readElse 4 = .ok (.ifCond .eq 18, 3) := by decide +kernel
theorem dX12_readElse_7 : decode cX12_readElse 7 = .ok (.aload_n 0, 1) := by decide +kernel
theorem dX12_readElse_8 : decode cX12_readElse 8 = .ok (.getfield 38, 3) := by decide +kernel
theorem dX12_readElse_11 : decode cX12_readElse 11 = .ok (.aload_n 0, 1) := by decide +kernel
theorem dX12_readElse_12 : decode cX12_readElse 12 = .ok (.getfield 276, 3) := by decide +kernel
theorem dX12_readElse_15 : decode cX12_readElse 15 = .ok (.iconst 1, 1) := by decide +kernel
theorem dX12_readElse_16 : decode cX12_readElse 16 = .ok (.isub, 1) := by decide +kernel
theorem dX12_readElse_17 : decode cX12_readElse 17 = .ok (.iaload, 1) := by decide +kernel
theorem dX12_readElse_18 : decode cX12_readElse 18 = .ok (.iconst 1, 1) := by decide +kernel
theorem dX12_readElse_19 : decode cX12_readElse 19 = .ok (.if_icmp .eq 8, 3) := by decide +kernel
theorem dX12_readElse_22 : decode cX12_readElse 22 = .ok (.aload_n 0, 1) := by decide +kernel
theorem dX12_readElse_23 : decode cX12_readElse 23 = .ok (.iconst 1, 1) := by decide +kernel
theorem dX12_readElse_24 : decode cX12_readElse 24 = .ok (.invokevirtual 192, 3) := by decide +kernel
theorem dX12_readElse_27 : decode cX12_readElse 27 = .ok (.aload_n 0, 1) := by decide +kernel
theorem dX12_readElse_28 : decode cX12_readElse 28 = .ok (.invokevirtual 196, 3) := by decide +kernel
theorem dX12_readElse_31 : decode cX12_readElse 31 = .ok (.aload_n 0, 1) := by decide +kernel
theorem dX12_readElse_32 : decode cX12_readElse 32 = .ok (.getfield 183, 3) := by decide +kernel
theorem dX12_readElse_35 : decode cX12_readElse 35 = .ok (.ifCond .eq 4, 3) := by decide +kernel
theorem dX12_readElse_38 : decode cX12_readElse 38 = .ok (.return_, 1) := by decide +kernel
theorem dX12_readElse_39 : decode cX12_readElse 39 = .ok (.aload_n 0, 1) := by decide +kernel
theorem dX12_readElse_40 : decode cX12_readElse 40 = .ok (.getfield 41, 3) := by decide +kernel
theorem dX12_readElse_43 : decode cX12_readElse 43 = .ok (.aload_n 0, 1) := by decide +kernel
theorem dX12_readElse_44 : decode cX12_readElse 44 = .ok (.getfield 276, 3) := by decide +kernel
theorem dX12_readElse_47 : decode cX12_readElse 47 = .ok (.iconst 1, 1) := by decide +kernel
theorem dX12_readElse_48 : decode cX12_readElse 48 = .ok (.isub, 1) := by decide +kernel
theorem dX12_readElse_49 : decode cX12_readElse 49 = .ok (.iaload, 1) := by decide +kernel
theorem dX12_readElse_50 : decode cX12_readElse 50 = .ok (.istore_n 1, 1) := by decide +kernel
theorem dX12_readElse_51 : decode cX12_readElse 51 = .ok (.aload_n 0, 1) := by decide +kernel
theorem dX12_readElse_52 : decode cX12_readElse 52 = .ok (.getfield 38, 3) := by decide +kernel
theorem dX12_readElse_55 : decode cX12_readElse 55 = .ok (.aload_n 0, 1) := by decide +kernel
theorem dX12_readElse_56 : decode cX12_readElse 56 = .ok (.getfield 276, 3) := by decide +kernel
theorem dX12_readElse_59 : decode cX12_readElse 59 = .ok (.iconst 1, 1) := by decide +kernel
theorem dX12_readElse_60 : decode cX12_readElse 60 = .ok (.isub, 1) := by decide +kernel
theorem dX12_readElse_61 : decode cX12_readElse 61 = .ok (.iconst 2, 1) := by decide +kernel
theorem dX12_readElse_62 : decode cX12_readElse 62 = .ok (.iastore, 1) := by decide +kernel
theorem dX12_readElse_63 : decode cX12_readElse 63 = .ok (.aload_n 0, 1) := by decide +kernel
theorem dX12_readElse_64 : decode cX12_readElse 64 = .ok (.getfield 41, 3) := by decide +kernel
theorem dX12_readElse_67 : decode cX12_readElse 67 = .ok (.aload_n 0, 1) := by decide +kernel
theorem dX12_readElse_68 : decode cX12_readElse 68 = .ok (.getfield 276, 3) := by decide +kernel
theorem dX12_readElse_71 : decode cX12_readElse 71 = .ok (.iconst 1, 1) := by decide +kernel
theorem dX12_readElse_72 : decode cX12_readElse 72 = .ok (.isub, 1) := by decide +kernel
theorem dX12_readElse_73 : decode cX12_readElse 73 = .ok (.aload_n 0, 1) := by decide +kernel
theorem dX12_readElse_74 : decode cX12_readElse 74 = .ok (.getfield 202, 3) := by decide +kernel
theorem dX12_readElse_77 : decode cX12_readElse 77 = .ok (.iastore, 1) := by decide +kernel
theorem dX12_readElse_78 : decode cX12_readElse 78 = .ok (.aload_n 0, 1) := by decide +kernel
theorem dX12_readElse_79 : decode cX12_readElse 79 = .ok (.bipush 14, 2) := by decide +kernel
theorem dX12_readElse_81 : decode cX12_readElse 81 = .ok (.iconst 0, 1) := by decide +kernel
theorem dX12_readElse_82 : decode cX12_readElse 82 = .ok (.iconst 0, 1) := by decide +kernel
theorem dX12_readElse_83 : decode cX12_readElse 83 = .ok (.invokevirtual 255, 3) := by decide +kernel
theorem dX12_readElse_86 : decode cX12_readElse 86 = .ok (.aload_n 0, 1) := by decide +kernel
theorem dX12_readElse_87 : decode cX12_readElse 87 = .ok (.getfield 32, 3) := by decide +kernel
theorem dX12_readElse_90 : decode cX12_readElse 90 = .ok (.sipush 1000, 3) := by decide +kernel
theorem dX12_readElse_93 : decode cX12_readElse 93 = .ok (.iload_n 1, 1) := by decide +kernel
theorem dX12_readElse_94 : decode cX12_readElse 94 = .ok (.iadd, 1) := by decide +kernel
theorem dX12_readElse_95 : decode cX12_readElse 95 = .ok (.aload_n 0, 1) := by decide +kernel
theorem dX12_readElse_96 : decode cX12_readElse 96 = .ok (.getfield 202, 3) := by decide +kernel
theorem dX12_readElse_99 : decode cX12_readElse 99 = .ok (.iastore, 1) := by decide +kernel
theorem dX12_readElse_100 : decode cX12_readElse 100 = .ok (.return_, 1) := by decide +kernel
theorem dX12_readEnd_0 : decode cX12_readEnd 0 = .ok (.aload_n 0, 1) := by decide +kernel
theorem dX12_readEnd_1 : decode cX12_readEnd 1 = .ok (.getfield 276, 3) := by decide +kernel
theorem dX12_readEnd_4 : decode cX12_readEnd 4 = .ok (.ifCond .ne 8, 3) := by decide +kernel
theorem dX12_readEnd_7 : decode cX12_readEnd 7 = .ok (.aload_n 0, 1) := by decide +kernel
theorem dX12_readEnd_8 : decode cX12_readEnd 8 = .ok (.iconst 1, 1) := by decide +kernel
theorem dX12_readEnd_9 : decode cX12_readEnd 9 = .ok (.invokevirtual 192, 3) := by decide +kernel
theorem dX12_readEnd_12 : decode cX12_readEnd 12 = .ok (.aload_n 0, 1) := by decide +kernel
theorem dX12_readEnd_13 : decode cX12_readEnd 13 = .ok (.invokevirtual 196, 3) := by decide +kernel
theorem dX12_readEnd_16 : decode cX12_readEnd 16 = .ok (.aload_n 0, 1) := by decide +kernel
theorem dX12_readEnd_17 : decode cX12_readEnd 17 = .ok (.getfield 183, 3) := by decide +kernel
theorem dX12_readEnd_20 : decode cX12_readEnd 20 = .ok (.ifCond .eq 4, 3) := by decide +kernel
theorem dX12_readEnd_23 : decode cX12_readEnd 23 = .ok (.return_, 1) := by decide +kernel
theorem dX12_readEnd_24 : decode cX12_readEnd 24 = .ok (.aload_n 0, 1) := by decide +kernel
theorem dX12_readEnd_25 : decode cX12_readEnd 25 = .ok (.dup, 1) := by decide +kernel
theorem dX12_readEnd_26 : decode cX12_readEnd 26 = .ok (.getfield 276, 3) := by decide +kernel
theorem dX12_readEnd_29 : decode cX12_readEnd 29 = .ok (.iconst 1, 1) := by decide +kernel
theorem dX12_readEnd_30 : decode cX12_readEnd 30 = .ok (.isub, 1) := by decide +kernel
theorem dX12_readEnd_31 : decode cX12_readEnd 31 = .ok (.putfield 276, 3) := by decide +kernel
theorem dX12_readEnd_34 : decode cX12_readEnd 34 = .ok (.aload_n 0, 1) := by decide +kernel
theorem dX12_readEnd_35 : decode cX12_readEnd 35 = .ok (.getfield 41, 3) := by decide +kernel
theorem dX12_readEnd_38 : decode cX12_readEnd 38 = .ok (.aload_n 0, 1) := by decide +kernel
theorem dX12_readEnd_39 : decode cX12_readEnd 39 = .ok (.getfield 276, 3) := by decide +kernel
theorem dX12_readEnd_42 : decode cX12_readEnd 42 = .ok (.iaload, 1) := by decide +kernel
theorem dX12_readEnd_43 : decode cX12_readEnd 43 = .ok (.istore_n 1, 1) := by decide +kernel
theorem dX12_readEnd_44 : decode cX12_readEnd 44 = .ok (.aload_n 0, 1) := by decide +kernel
theorem dX12_readEnd_45 : decode cX12_readEnd 45 = .ok (.getfield 38, 3) := by decide +kernel
theorem dX12_readEnd_48 : decode cX12_readEnd 48 = .ok (.aload_n 0, 1) := by decide +kernel
theorem dX12_readEnd_49 : decode cX12_readEnd 49 = .ok (.getfield 276, 3) := by decide +kernel
theorem dX12_readEnd_52 : decode cX12_readEnd 52 = .ok (.iaload, 1) := by decide +kernel
theorem dX12_readEnd_53 : decode cX12_readEnd 53 = .ok (.ifCond .ne 16, 3) := by decide +kernel
theorem dX12_readEnd_56 : decode cX12_readEnd 56 = .ok (.aload_n 0, 1) := by decide +kernel
theorem dX12_readEnd_57 : decode cX12_readEnd 57 = .ok (.bipush 11, 2) := by decide +kernel
theorem dX12_readEnd_59 : decode cX12_readEnd 59 = .ok (.iload_n 1, 1) := by decide +kernel
theorem dX12_readEnd_60 : decode cX12_readEnd 60 = .ok (.iconst 1, 1) := by decide +kernel
theorem dX12_readEnd_61 : decode cX12_readEnd 61 = .ok (.iadd, 1) := by decide +kernel
theorem dX12_readEnd_62 : decode cX12_readEnd 62 = .ok (.iconst 0, 1) := by decide +kernel
theorem dX12_readEnd_63 : decode cX12_readEnd 63 = .ok (.invokevirtual 255, 3) := by decide +kernel
theorem dX12_readEnd_66 : decode cX12_readEnd 66 = .ok (.goto 17, 3) := by decide +kernel
theorem dX12_readEnd_69 : decode cX12_readEnd 69 = .ok (.aload_n 0, 1) := by decide +kernel
theorem dX12_readEnd_70 : decode cX12_readEnd 70 = .ok (.getfield 32, 3) := by decide +kernel
theorem dX12_readEnd_73 : decode cX12_readEnd 73 = .ok (.sipush 1000, 3) := by decide +kernel
theorem dX12_readEnd_76 : decode cX12_readEnd 76 = .ok (.iload_n 1, 1) := by decide +kernel
theorem dX12_readEnd_77 : decode cX12_readEnd 77 = .ok (.iadd, 1) := by decide +kernel
theorem dX12_readEnd_78 : decode cX12_readEnd 78 = .ok (.aload_n 0, 1) := by decide +kernel
theorem dX12_readEnd_79 : decode cX12_readEnd 79 = .ok (.getfield 202, 3) := by decide +kernel
theorem dX12_readEnd_82 : decode cX12_readEnd 82 = .ok (.iastore, 1) := by decide +kernel
theorem dX12_readEnd_83 : decode cX12_readEnd 83 = .ok (.return_, 1) := by decide +kernel
theorem dX12_readLine_0 : decode cX12_readLine 0 = .ok (.aload_n 0, 1) := by decide +kernel
theorem dX12_readLine_1 : decode cX12_readLine 1 = .ok (.getfield 161, 3) := by decide +kernel
theorem dX12_readLine_4 : decode cX12_readLine 4 = .ok (.ifCond .eq 8, 3) := by decide +kernel
theorem dX12_readLine_7 : decode cX12_readLine 7 = .ok (.aload_n 0, 1) := by decide +kernel
theorem dX12_readLine_8 : decode cX12_readLine 8 = .ok (.iconst 1, 1) := by decide +kernel
theorem dX12_readLine_9 : decode cX12_readLine 9 = .ok (.invokevirtual 192, 3) := by decide +kernel
theorem dX12_readLine_12 : decode cX12_readLine 12 = .ok (.aload_n 0, 1) := by decide +kernel
theorem dX12_readLine_13 : decode cX12_readLine 13 = .ok (.getfield 174, 3) := by decide +kernel
theorem dX12_readLine_16 : decode cX12_readLine 16 = .ok (.istore_n 1, 1) := by decide +kernel
theorem dX12_readLine_17 : decode cX12_readLine 17 = .ok (.aload_n 0, 1) := by decide +kernel
theorem dX12_readLine_18 : decode cX12_readLine 18 = .ok (.getfield 183, 3) := by decide +kernel
theorem dX12_readLine_21 : decode cX12_readLine 21 = .ok (.ifCond .ne 55, 3) := by decide +kernel
theorem dX12_readLine_24 : decode cX12_readLine 24 = .ok (.iload_n 1, 1) := by decide +kernel
theorem dX12_readLine_25 : decode cX12_readLine 25 = .ok (.sipush 257, 3) := by decide +kernel
theorem dX12_readLine_28 : decode cX12_readLine 28 = .ok (.if_icmp .eq 16, 3) := by decide +kernel
theorem dX12_readLine_31 : decode cX12_readLine 31 = .ok (.iload_n 1, 1) := by decide +kernel
theorem dX12_readLine_32 : decode cX12_readLine 32 = .ok (.sipush 13550, 3) := by decide +kernel
theorem dX12_readLine_35 : decode cX12_readLine 35 = .ok (.if_icmp .eq 9, 3) := by decide +kernel
theorem dX12_readLine_38 : decode cX12_readLine 38 = .ok (.iload_n 1, 1) := by decide +kernel
theorem dX12_readLine_39 : decode cX12_readLine 39 = .ok (.ldc 180, 2) := by decide +kernel
theorem dX12_readLine_41 : decode cX12_readLine 41 = .ok (.if_icmp .ne 35, 3) := by decide +kernel
theorem dX12_readLine_44 : decode cX12_readLine 44 = .ok (.iload_n 1, 1) := by decide +kernel
theorem dX12_readLine_45 : decode cX12_readLine 45 = .ok (.sipush 257, 3) := by decide +kernel
theorem dX12_readLine_48 : decode cX12_readLine 48 = .ok (.if_icmp .ne 10, 3) := by decide +kernel
theorem dX12_readLine_51 : decode cX12_readLine 51 = .ok (.aload_n 0, 1) := by decide +kernel
theorem dX12_readLine_52 : decode cX12_readLine 52 = .ok (.invokevirtual 283, 3) := by decide +kernel
theorem dX12_readLine_55 : decode cX12_readLine 55 = .ok (.goto 117, 3) := by decide +kernel
theorem dX12_readLine_58 : decode cX12_readLine 58 = .ok (.aload_n 0, 1) := by decide +kernel
theorem dX12_readLine_59 : decode cX12_readLine 59 = .ok (.iload_n 1, 1) := by decide +kernel
theorem dX12_readLine_60 : decode cX12_readLine 60 = .ok (.ldc 180, 2) := by decide +kernel
theorem dX12_readLine_62 : decode cX12_readLine 62 = .ok (.if_icmp .ne 7, 3) := by decide +kernel
theorem dX12_readLine_65 : decode cX12_readLine 65 = .ok (.iconst 1, 1) := by decide +kernel
theorem dX12_readLine_66 : decode cX12_readLine 66 = .ok (.goto 4, 3) := by decide +kernel
theorem dX12_readLine_69 : decode cX12_readLine 69 = .ok (.iconst 0, 1) := by decide +kernel
theorem dX12_readLine_70 : decode cX12_readLine 70 = .ok (.invokevirtual 286, 3) := by decide +kernel
theorem dX12_readLine_73 : decode cX12_readLine 73 = .ok (.goto 99, 3) := by decide +kernel
theorem dX12_readLine_76 : decode cX12_readLine 76 = .ok (.aload_n 0, 1) := by decide +kernel
theorem dX12_readLine_77 : decode cX12_readLine 77 = .ok (.getfield 183, 3) := by decide +kernel
theorem dX12_readLine_80 : decode cX12_readLine 80 = .ok (.ifCond .ne 92, 3) := by decide +kernel
theorem dX12_readLine_83 : decode cX12_readLine 83 = .ok (.aload_n 0, 1) := by decide +kernel
theorem dX12_readLine_84 : decode cX12_readLine 84 = .ok (.iconst 1, 1) := by decide +kernel
theorem dX12_readLine_85 : decode cX12_readLine 85 = .ok (.putfield 225, 3) := by decide +kernel
theorem dX12_readLine_88 : decode cX12_readLine 88 = .ok (.iload_n 1, 1) := by decide +kernel
theorem dX12_readLine_89 : decode cX12_readLine 89 = .ok (.ldc 181, 2) := by decide +kernel
theorem dX12_readLine_91 : decode cX12_readLine 91 = .ok (.if_icmp .ne 10, 3) := by decide +kernel
theorem dX12_readLine_94 : decode cX12_readLine 94 = .ok (.aload_n 0, 1) := by decide +kernel
theorem dX12_readLine_95 : decode cX12_readLine 95 = .ok (.invokevirtual 290, 3) := by decide +kernel
theorem dX12_readLine_98 : decode cX12_readLine 98 = .ok (.goto 74, 3) := by decide +kernel
theorem dX12_readLine_101 : decode cX12_readLine 101 = .ok (.iload_n 1, 1) := by decide +kernel
theorem dX12_readLine_102 : decode cX12_readLine 102 = .ok (.sipush 249, 3) := by decide +kernel
theorem dX12_readLine_105 : decode cX12_readLine 105 = .ok (.if_icmp .ne 10, 3) := by decide +kernel
theorem dX12_readLine_108 : decode cX12_readLine 108 = .ok (.aload_n 0, 1) := by decide +kernel
theorem dX12_readLine_109 : decode cX12_readLine 109 = .ok (.invokevirtual 293, 3) := by decide +kernel
theorem dX12_readLine_112 : decode cX12_readLine 112 = .ok (.goto 60, 3) := by decide +kernel
theorem dX12_readLine_115 : decode cX12_readLine 115 = .ok (.iload_n 1, 1) := by decide +kernel
theorem dX12_readLine_116 : decode cX12_readLine 116 = .ok (.ldc 182, 2) := by decide +kernel
theorem dX12_readLine_118 : decode cX12_readLine 118 = .ok (.if_icmp .ne 10, 3) := by decide +kernel
theorem dX12_readLine_121 : decode cX12_readLine 121 = .ok (.aload_n 0, 1) := by decide +kernel
theorem dX12_readLine_122 : decode cX12_readLine 122 = .ok (.invokevirtual 296, 3) := by decide +kernel
theorem dX12_readLine_125 : decode cX12_readLine 125 = .ok (.goto 47, 3) := by decide +kernel
theorem dX12_readLine_128 : decode cX12_readLine 128 = .ok (.iload_n 1, 1) := by decide +kernel
theorem dX12_readLine_129 : decode cX12_readLine 129 = .ok (.sipush 4027, 3) := by decide +kernel
theorem dX12_readLine_132 : decode cX12_readLine 132 = .ok (.if_icmp .ne 10, 3) := by decide +kernel
theorem dX12_readLine_135 : decode cX12_readLine 135 = .ok (.aload_n 0, 1) := by decide +kernel
theorem dX12_readLine_136 : decode cX12_readLine 136 = .ok (.invokevirtual 299, 3) := by decide +kernel
theorem dX12_readLine_139 : decode cX12_readLine 139 = .ok (.goto 33, 3) := by decide +kernel
theorem dX12_readLine_142 : decode cX12_readLine 142 = .ok (.iload_n 1, 1) := by decide +kernel
theorem dX12_readLine_143 : decode cX12_readLine 143 = .ok (.sipush 11522, 3) := by decide +kernel
theorem dX12_readLine_146 : decode cX12_readLine 146 = .ok (.if_icmp .ne 22, 3) := by decide +kernel
theorem dX12_readLine_149 : decode cX12_readLine 149 = .ok (.aload_n 0, 1) := by decide +kernel
theorem dX12_readLine_150 : decode cX12_readLine 150 = .ok (.invokevirtual 196, 3) := by decide +kernel
theorem dX12_readLine_153 : decode cX12_readLine 153 = .ok (.aload_n 0, 1) := by decide +kernel
theorem dX12_readLine_154 : decode cX12_readLine 154 = .ok (.invokevirtual 273, 3) := by decide +kernel
theorem dX12_readLine_157 : decode cX12_readLine 157 = .ok (.aload_n 0, 1) := by decide +kernel
theorem dX12_readLine_158 : decode cX12_readLine 158 = .ok (.bipush 9, 2) := by decide +kernel
theorem dX12_readLine_160 : decode cX12_readLine 160 = .ok (.iconst 0, 1) := by decide +kernel
theorem dX12_readLine_161 : decode cX12_readLine 161 = .ok (.iconst 0, 1) := by decide +kernel
theorem dX12_readLine_162 : decode cX12_readLine 162 = .ok (.invokevirtual 255, 3) := by decide +kernel
theorem dX12_readLine_165 : decode cX12_readLine 165 = .ok (.goto 7, 3) := by decide +kernel
theorem dX12_readLine_168 : decode cX12_readLine 168 = .ok (.aload_n 0, 1) := by decide +kernel
theorem dX12_readLine_169 : decode cX12_readLine 169 = .ok (.invokevirtual 302, 3) := by decide +kernel
theorem dX12_readLine_172 : decode cX12_readLine 172 = .ok (.aload_n 0, 1) := by decide +kernel
theorem dX12_readLine_173 : decode cX12_readLine 173 = .ok (.getfield 183, 3) := by decide +kernel
theorem dX12_readLine_176 : decode cX12_readLine 176 = .ok (.ifCond .ne 17, 3) := by decide +kernel
theorem dX12_readLine_179 : decode cX12_readLine 179 = .ok (.aload_n 0, 1) := by decide +kernel
theorem dX12_readLine_180 : decode cX12_readLine 180 = .ok (.bipush 59, 2) := by decide +kernel
theorem dX12_readLine_182 : decode cX12_readLine 182 = .ok (.invokevirtual 199, 3) := by decide +kernel
theorem dX12_readLine_185 : decode cX12_readLine 185 = .ok (.ifCond .ne 8, 3) := by decide +kernel
theorem dX12_readLine_188 : decode cX12_readLine 188 = .ok (.aload_n 0, 1) := by decide +kernel
theorem dX12_readLine_189 : decode cX12_readLine 189 = .ok (.iconst 1, 1) := by decide +kernel
theorem dX12_readLine_190 : decode cX12_readLine 190 = .ok (.invokevirtual 192, 3) := by decide +kernel
theorem dX12_readLine_193 : decode cX12_readLine 193 = .ok (.aload_n 0, 1) := by decide +kernel
theorem dX12_readLine_194 : decode cX12_readLine 194 = .ok (.invokevirtual 196, 3) := by decide +kernel
theorem dX12_readLine_197 : decode cX12_readLine 197 = .ok (.aload_n 0, 1) := by decide +kernel
theorem dX12_readLine_198 : decode cX12_readLine 198 = .ok (.dup, 1) := by decide +kernel
theorem dX12_readLine_199 : decode cX12_readLine 199 = .ok (.getfield 305, 3) := by decide +kernel
theorem dX12_readLine_202 : decode cX12_readLine 202 = .ok (.iconst 1, 1) := by decide +kernel
theorem dX12_readLine_203 : decode cX12_readLine 203 = .ok (.iadd, 1) := by decide +kernel
theorem dX12_readLine_204 : decode cX12_readLine 204 = .ok (.putfield 305, 3) := by decide +kernel
theorem dX12_readLine_207 : decode cX12_readLine 207 = .ok (.return_, 1) := by decide +kernel
theorem dX12_freshText_0 : decode cX12_freshText 0 = .ok (.aload_n 0, 1) := by decide +kernel
theorem dX12_freshText_1 : decode cX12_freshText 1 = .ok (.iconst 0, 1) := by decide +kernel
theorem dX12_freshText_2 : decode cX12_freshText 2 = .ok (.putfield 305, 3) := by decide +kernel
theorem dX12_freshText_5 : decode cX12_freshText 5 = .ok (.aload_n 0, 1) := by decide +kernel
theorem dX12_freshText_6 : decode cX12_freshText 6 = .ok (.iconst 0, 1) := by decide +kernel
theorem dX12_freshText_7 : decode cX12_freshText 7 = .ok (.putfield 205, 3) := by decide +kernel
theorem dX12_freshText_10 : decode cX12_freshText 10 = .ok (.aload_n 0, 1) := by decide +kernel
theorem dX12_freshText_11 : decode cX12_freshText 11 = .ok (.iconst 0, 1) := by decide +kernel
theorem dX12_freshText_12 : decode cX12_freshText 12 = .ok (.putfield 229, 3) := by decide +kernel
theorem dX12_freshText_15 : decode cX12_freshText 15 = .ok (.aload_n 0, 1) := by decide +kernel
theorem dX12_freshText_16 : decode cX12_freshText 16 = .ok (.iconst 0, 1) := by decide +kernel
theorem dX12_freshText_17 : decode cX12_freshText 17 = .ok (.putfield 208, 3) := by decide +kernel
theorem dX12_freshText_20 : decode cX12_freshText 20 = .ok (.aload_n 0, 1) := by decide +kernel
theorem dX12_freshText_21 : decode cX12_freshText 21 = .ok (.iconst 0, 1) := by decide +kernel
theorem dX12_freshText_22 : decode cX12_freshText 22 = .ok (.putfield 239, 3) := by decide +kernel
theorem dX12_freshText_25 : decode cX12_freshText 25 = .ok (.aload_n 0, 1) := by decide +kernel
theorem dX12_freshText_26 : decode cX12_freshText 26 = .ok (.iconst 0, 1) := by decide +kernel
theorem dX12_freshText_27 : decode cX12_freshText 27 = .ok (.putfield 202, 3) := by decide +kernel
theorem dX12_freshText_30 : decode cX12_freshText 30 = .ok (.aload_n 0, 1) := by decide +kernel
theorem dX12_freshText_31 : decode cX12_freshText 31 = .ok (.iconst 0, 1) := by decide +kernel
theorem dX12_freshText_32 : decode cX12_freshText 32 = .ok (.putfield 276, 3) := by decide +kernel
theorem dX12_freshText_35 : decode cX12_freshText 35 = .ok (.aload_n 0, 1) := by decide +kernel
theorem dX12_freshText_36 : decode cX12_freshText 36 = .ok (.iconst 0, 1) := by decide +kernel
theorem dX12_freshText_37 : decode cX12_freshText 37 = .ok (.putfield 225, 3) := by decide +kernel
theorem dX12_freshText_40 : decode cX12_freshText 40 = .ok (.return_, 1) := by decide +kernel
theorem dX12_readText_0 : decode cX12_readText 0 = .ok (.aload_n 0, 1) := by decide +kernel
theorem dX12_readText_1 : decode cX12_readText 1 = .ok (.iload_n 1, 1) := by decide +kernel
theorem dX12_readText_2 : decode cX12_readText 2 = .ok (.putfield 151, 3) := by decide +kernel
theorem dX12_readText_5 : decode cX12_readText 5 = .ok (.aload_n 0, 1) := by decide +kernel
theorem dX12_readText_6 : decode cX12_readText 6 = .ok (.iconst 0, 1) := by decide +kernel
theorem dX12_readText_7 : decode cX12_readText 7 = .ok (.putfield 148, 3) := by decide +kernel
theorem dX12_readText_10 : decode cX12_readText 10 = .ok (.aload_n 0, 1) := by decide +kernel
theorem dX12_readText_11 : decode cX12_readText 11 = .ok (.iconst 0, 1) := by decide +kernel
theorem dX12_readText_12 : decode cX12_readText 12 = .ok (.putfield 183, 3) := by decide +kernel
theorem dX12_readText_15 : decode cX12_readText 15 = .ok (.aload_n 0, 1) := by decide +kernel
theorem dX12_readText_16 : decode cX12_readText 16 = .ok (.invokevirtual 136, 3) := by decide +kernel
theorem dX12_readText_19 : decode cX12_readText 19 = .ok (.aload_n 0, 1) := by decide +kernel
theorem dX12_readText_20 : decode cX12_readText 20 = .ok (.invokevirtual 189, 3) := by decide +kernel
theorem dX12_readText_23 : decode cX12_readText 23 = .ok (.aload_n 0, 1) := by decide +kernel
theorem dX12_readText_24 : decode cX12_readText 24 = .ok (.getfield 183, 3) := by decide +kernel
theorem dX12_readText_27 : decode cX12_readText 27 = .ok (.ifCond .ne 18, 3) := by decide +kernel
theorem dX12_readText_30 : decode cX12_readText 30 = .ok (.aload_n 0, 1) := by decide +kernel
theorem dX12_readText_31 : decode cX12_readText 31 = .ok (.getfield 161, 3) := by decide +kernel
theorem dX12_readText_34 : decode cX12_readText 34 = .ok (.iconst 3, 1) := by decide +kernel
theorem dX12_readText_35 : decode cX12_readText 35 = .ok (.if_icmp .eq 10, 3) := by decide +kernel
theorem dX12_readText_38 : decode cX12_readText 38 = .ok (.aload_n 0, 1) := by decide +kernel
theorem dX12_readText_39 : decode cX12_readText 39 = .ok (.invokevirtual 308, 3) := by decide +kernel
theorem dX12_readText_42 : decode cX12_readText 42 = .ok (.goto (-19), 3) := by decide +kernel
theorem dX12_readText_45 : decode cX12_readText 45 = .ok (.aload_n 0, 1) := by decide +kernel
theorem dX12_readText_46 : decode cX12_readText 46 = .ok (.getfield 276, 3) := by decide +kernel
theorem dX12_readText_49 : decode cX12_readText 49 = .ok (.ifCond .le 8, 3) := by decide +kernel
theorem dX12_readText_52 : decode cX12_readText 52 = .ok (.aload_n 0, 1) := by decide +kernel
theorem dX12_readText_53 : decode cX12_readText 53 = .ok (.iconst 1, 1) := by decide +kernel
theorem dX12_readText_54 : decode cX12_readText 54 = .ok (.invokevirtual 192, 3) := by decide +kernel
theorem dX12_readText_57 : decode cX12_readText 57 = .ok (.return_, 1) := by decide +kernel
theorem dX12_begins_0 : decode cX12_begins 0 = .ok (.aload_n 0, 1) := by decide +kernel
theorem dX12_begins_1 : decode cX12_begins 1 = .ok (.aload_n 0, 1) := by decide +kernel
theorem dX12_begins_2 : decode cX12_begins 2 = .ok (.getfield 305, 3) := by decide +kernel
theorem dX12_begins_5 : decode cX12_begins 5 = .ok (.putfield 311, 3) := by decide +kernel
theorem dX12_begins_8 : decode cX12_begins 8 = .ok (.aload_n 0, 1) := by decide +kernel
theorem dX12_begins_9 : decode cX12_begins 9 = .ok (.aload_n 0, 1) := by decide +kernel
theorem dX12_begins_10 : decode cX12_begins 10 = .ok (.getfield 229, 3) := by decide +kernel
theorem dX12_begins_13 : decode cX12_begins 13 = .ok (.putfield 314, 3) := by decide +kernel
theorem dX12_begins_16 : decode cX12_begins 16 = .ok (.aload_n 0, 1) := by decide +kernel
theorem dX12_begins_17 : decode cX12_begins 17 = .ok (.aload_n 0, 1) := by decide +kernel
theorem dX12_begins_18 : decode cX12_begins 18 = .ok (.getfield 205, 3) := by decide +kernel
theorem dX12_begins_21 : decode cX12_begins 21 = .ok (.putfield 317, 3) := by decide +kernel
theorem dX12_begins_24 : decode cX12_begins 24 = .ok (.aload_n 0, 1) := by decide +kernel
theorem dX12_begins_25 : decode cX12_begins 25 = .ok (.aload_n 0, 1) := by decide +kernel
theorem dX12_begins_26 : decode cX12_begins 26 = .ok (.getfield 208, 3) := by decide +kernel
theorem dX12_begins_29 : decode cX12_begins 29 = .ok (.putfield 320, 3) := by decide +kernel
theorem dX12_begins_32 : decode cX12_begins 32 = .ok (.aload_n 0, 1) := by decide +kernel
theorem dX12_begins_33 : decode cX12_begins 33 = .ok (.aload_n 0, 1) := by decide +kernel
theorem dX12_begins_34 : decode cX12_begins 34 = .ok (.getfield 239, 3) := by decide +kernel
theorem dX12_begins_37 : decode cX12_begins 37 = .ok (.putfield 323, 3) := by decide +kernel
theorem dX12_begins_40 : decode cX12_begins 40 = .ok (.aload_n 0, 1) := by decide +kernel
theorem dX12_begins_41 : decode cX12_begins 41 = .ok (.aload_n 0, 1) := by decide +kernel
theorem dX12_begins_42 : decode cX12_begins 42 = .ok (.getfield 202, 3) := by decide +kernel
theorem dX12_begins_45 : decode cX12_begins 45 = .ok (.putfield 326, 3) := by decide +kernel
theorem dX12_begins_48 : decode cX12_begins 48 = .ok (.iconst 0, 1) := by decide +kernel
theorem dX12_begins_49 : decode cX12_begins 49 = .ok (.istore_n 1, 1) := by decide +kernel
theorem dX12_begins_50 : decode cX12_begins 50 = .ok (.iload_n 1, 1) := by decide +kernel
theorem dX12_begins_51 : decode cX12_begins 51 = .ok (.aload_n 0, 1) := by decide +kernel
theorem dX12_begins_52 : decode cX12_begins 52 = .ok (.getfield 202, 3) := by decide +kernel
theorem dX12_begins_55 : decode cX12_begins 55 = .ok (.if_icmp .ge 57, 3) := by decide +kernel
theorem dX12_begins_58 : decode cX12_begins 58 = .ok (.aload_n 0, 1) := by decide +kernel
theorem dX12_begins_59 : decode cX12_begins 59 = .ok (.getfield 29, 3) := by decide +kernel
theorem dX12_begins_62 : decode cX12_begins 62 = .ok (.iload_n 1, 1) := by decide +kernel
theorem dX12_begins_63 : decode cX12_begins 63 = .ok (.aload_n 0, 1) := by decide +kernel
theorem dX12_begins_64 : decode cX12_begins 64 = .ok (.getfield 29, 3) := by decide +kernel
theorem dX12_begins_67 : decode cX12_begins 67 = .ok (.sipush 1000, 3) := by decide +kernel
theorem dX12_begins_70 : decode cX12_begins 70 = .ok (.iload_n 1, 1) := by decide +kernel
theorem dX12_begins_71 : decode cX12_begins 71 = .ok (.iadd, 1) := by decide +kernel
theorem dX12_begins_72 : decode cX12_begins 72 = .ok (.iaload, 1) := by decide +kernel
theorem dX12_begins_73 : decode cX12_begins 73 = .ok (.iastore, 1) := by decide +kernel
theorem dX12_begins_74 : decode cX12_begins 74 = .ok (.aload_n 0, 1) := by decide +kernel
theorem dX12_begins_75 : decode cX12_begins 75 = .ok (.getfield 32, 3) := by decide +kernel
theorem dX12_begins_78 : decode cX12_begins 78 = .ok (.iload_n 1, 1) := by decide +kernel
theorem dX12_begins_79 : decode cX12_begins 79 = .ok (.aload_n 0, 1) := by decide +kernel
theorem dX12_begins_80 : decode cX12_begins 80 = .ok (.getfield 32, 3) := by decide +kernel
theorem dX12_begins_83 : decode cX12_begins 83 = .ok (.sipush 1000, 3) := by decide +kernel
theorem dX12_begins_86 : decode cX12_begins 86 = .ok (.iload_n 1, 1) := by decide +kernel
theorem dX12_begins_87 : decode cX12_begins 87 = .ok (.iadd, 1) := by decide +kernel
theorem dX12_begins_88 : decode cX12_begins 88 = .ok (.iaload, 1) := by decide +kernel
theorem dX12_begins_89 : decode cX12_begins 89 = .ok (.iastore, 1) := by decide +kernel
theorem dX12_begins_90 : decode cX12_begins 90 = .ok (.aload_n 0, 1) := by decide +kernel
theorem dX12_begins_91 : decode cX12_begins 91 = .ok (.getfield 35, 3) := by decide +kernel
theorem dX12_begins_94 : decode cX12_begins 94 = .ok (.iload_n 1, 1) := by decide +kernel
theorem dX12_begins_95 : decode cX12_begins 95 = .ok (.aload_n 0, 1) := by decide +kernel
theorem dX12_begins_96 : decode cX12_begins 96 = .ok (.getfield 35, 3) := by decide +kernel
theorem dX12_begins_99 : decode cX12_begins 99 = .ok (.sipush 1000, 3) := by decide +kernel
theorem dX12_begins_102 : decode cX12_begins 102 = .ok (.iload_n 1, 1) := by decide +kernel
theorem dX12_begins_103 : decode cX12_begins 103 = .ok (.iadd, 1) := by decide +kernel
theorem dX12_begins_104 : decode cX12_begins 104 = .ok (.iaload, 1) := by decide +kernel
theorem dX12_begins_105 : decode cX12_begins 105 = .ok (.iastore, 1) := by decide +kernel
theorem dX12_begins_106 : decode cX12_begins 106 = .ok (.iinc 1 1, 3) := by decide +kernel
theorem dX12_begins_109 : decode cX12_begins 109 = .ok (.goto (-59), 3) := by decide +kernel
theorem dX12_begins_112 : decode cX12_begins 112 = .ok (.iconst 0, 1) := by decide +kernel
theorem dX12_begins_113 : decode cX12_begins 113 = .ok (.istore_n 1, 1) := by decide +kernel
theorem dX12_begins_114 : decode cX12_begins 114 = .ok (.iload_n 1, 1) := by decide +kernel
theorem dX12_begins_115 : decode cX12_begins 115 = .ok (.aload_n 0, 1) := by decide +kernel
theorem dX12_begins_116 : decode cX12_begins 116 = .ok (.getfield 208, 3) := by decide +kernel
theorem dX12_begins_119 : decode cX12_begins 119 = .ok (.if_icmp .ge 39, 3) := by decide +kernel
theorem dX12_begins_122 : decode cX12_begins 122 = .ok (.aload_n 0, 1) := by decide +kernel
theorem dX12_begins_123 : decode cX12_begins 123 = .ok (.getfield 23, 3) := by decide +kernel
theorem dX12_begins_126 : decode cX12_begins 126 = .ok (.iload_n 1, 1) := by decide +kernel
theorem dX12_begins_127 : decode cX12_begins 127 = .ok (.aload_n 0, 1) := by decide +kernel
theorem dX12_begins_128 : decode cX12_begins 128 = .ok (.getfield 23, 3) := by decide +kernel
theorem dX12_begins_131 : decode cX12_begins 131 = .ok (.bipush 6, 2) := by decide +kernel
theorem dX12_begins_133 : decode cX12_begins 133 = .ok (.iload_n 1, 1) := by decide +kernel
theorem dX12_begins_134 : decode cX12_begins 134 = .ok (.iadd, 1) := by decide +kernel
theorem dX12_begins_135 : decode cX12_begins 135 = .ok (.iaload, 1) := by decide +kernel
theorem dX12_begins_136 : decode cX12_begins 136 = .ok (.iastore, 1) := by decide +kernel
theorem dX12_begins_137 : decode cX12_begins 137 = .ok (.aload_n 0, 1) := by decide +kernel
theorem dX12_begins_138 : decode cX12_begins 138 = .ok (.getfield 26, 3) := by decide +kernel
theorem dX12_begins_141 : decode cX12_begins 141 = .ok (.iload_n 1, 1) := by decide +kernel
theorem dX12_begins_142 : decode cX12_begins 142 = .ok (.aload_n 0, 1) := by decide +kernel
theorem dX12_begins_143 : decode cX12_begins 143 = .ok (.getfield 26, 3) := by decide +kernel
theorem dX12_begins_146 : decode cX12_begins 146 = .ok (.bipush 6, 2) := by decide +kernel
theorem dX12_begins_148 : decode cX12_begins 148 = .ok (.iload_n 1, 1) := by decide +kernel
theorem dX12_begins_149 : decode cX12_begins 149 = .ok (.iadd, 1) := by decide +kernel
theorem dX12_begins_150 : decode cX12_begins 150 = .ok (.iaload, 1) := by decide +kernel
theorem dX12_begins_151 : decode cX12_begins 151 = .ok (.iastore, 1) := by decide +kernel
theorem dX12_begins_152 : decode cX12_begins 152 = .ok (.iinc 1 1, 3) := by decide +kernel
theorem dX12_begins_155 : decode cX12_begins 155 = .ok (.goto (-41), 3) := by decide +kernel
theorem dX12_begins_158 : decode cX12_begins 158 = .ok (.iconst 0, 1) := by decide +kernel
theorem dX12_begins_159 : decode cX12_begins 159 = .ok (.istore_n 1, 1) := by decide +kernel
theorem dX12_begins_160 : decode cX12_begins 160 = .ok (.iload_n 1, 1) := by decide +kernel
theorem dX12_begins_161 : decode cX12_begins 161 = .ok (.iconst 4, 1) := by decide +kernel
theorem dX12_begins_162 : decode cX12_begins 162 = .ok (.if_icmp .ge 16, 3) := by decide +kernel
theorem dX12_begins_165 : decode cX12_begins 165 = .ok (.aload_n 0, 1) := by decide +kernel
theorem dX12_begins_166 : decode cX12_begins 166 = .ok (.getfield 44, 3) := by decide +kernel
theorem dX12_begins_169 : decode cX12_begins 169 = .ok (.iload_n 1, 1) := by decide +kernel
theorem dX12_begins_170 : decode cX12_begins 170 = .ok (.lconst 0, 1) := by decide +kernel
theorem dX12_begins_171 : decode cX12_begins 171 = .ok (.lastore, 1) := by decide +kernel
theorem dX12_begins_172 : decode cX12_begins 172 = .ok (.iinc 1 1, 3) := by decide +kernel
theorem dX12_begins_175 : decode cX12_begins 175 = .ok (.goto (-15), 3) := by decide +kernel
theorem dX12_begins_178 : decode cX12_begins 178 = .ok (.aload_n 0, 1) := by decide +kernel
theorem dX12_begins_179 : decode cX12_begins 179 = .ok (.invokevirtual 329, 3) := by decide +kernel
theorem dX12_begins_182 : decode cX12_begins 182 = .ok (.return_, 1) := by decide +kernel
theorem dX12_text_0 : decode cX12_text 0 = .ok (.aload_n 0, 1) := by decide +kernel
theorem dX12_text_1 : decode cX12_text 1 = .ok (.iconst 0, 1) := by decide +kernel
theorem dX12_text_2 : decode cX12_text 2 = .ok (.putfield 142, 3) := by decide +kernel
theorem dX12_text_5 : decode cX12_text 5 = .ok (.iload_n 1, 1) := by decide +kernel
theorem dX12_text_6 : decode cX12_text 6 = .ok (.ifCond .lt 11, 3) := by decide +kernel
theorem dX12_text_9 : decode cX12_text 9 = .ok (.iload_n 1, 1) := by decide +kernel
theorem dX12_text_10 : decode cX12_text 10 = .ok (.aload_n 0, 1) := by decide +kernel
theorem dX12_text_11 : decode cX12_text 11 = .ok (.getfield 145, 3) := by decide +kernel
theorem dX12_text_14 : decode cX12_text 14 = .ok (.if_icmp .le 6, 3) := by decide +kernel
theorem dX12_text_17 : decode cX12_text 17 = .ok (.bipush (-2), 2) := by decide +kernel
theorem dX12_text_19 : decode cX12_text 19 = .ok (.ireturn, 1) := by decide +kernel
theorem dX12_text_20 : decode cX12_text 20 = .ok (.aload_n 0, 1) := by decide +kernel
theorem dX12_text_21 : decode cX12_text 21 = .ok (.iload_n 1, 1) := by decide +kernel
theorem dX12_text_22 : decode cX12_text 22 = .ok (.invokevirtual 332, 3) := by decide +kernel
theorem dX12_text_25 : decode cX12_text 25 = .ok (.aload_n 0, 1) := by decide +kernel
theorem dX12_text_26 : decode cX12_text 26 = .ok (.iconst 0, 1) := by decide +kernel
theorem dX12_text_27 : decode cX12_text 27 = .ok (.putfield 145, 3) := by decide +kernel
theorem dX12_text_30 : decode cX12_text 30 = .ok (.aload_n 0, 1) := by decide +kernel
theorem dX12_text_31 : decode cX12_text 31 = .ok (.aload_n 0, 1) := by decide +kernel
theorem dX12_text_32 : decode cX12_text 32 = .ok (.getfield 183, 3) := by decide +kernel
theorem dX12_text_35 : decode cX12_text 35 = .ok (.putfield 335, 3) := by decide +kernel
theorem dX12_text_38 : decode cX12_text 38 = .ok (.aload_n 0, 1) := by decide +kernel
theorem dX12_text_39 : decode cX12_text 39 = .ok (.aload_n 0, 1) := by decide +kernel
theorem dX12_text_40 : decode cX12_text 40 = .ok (.getfield 183, 3) := by decide +kernel
theorem dX12_text_43 : decode cX12_text 43 = .ok (.ifCond .ne 7, 3) := by decide +kernel
theorem dX12_text_46 : decode cX12_text 46 = .ok (.iconst (-1), 1) := by decide +kernel
theorem dX12_text_47 : decode cX12_text 47 = .ok (.goto 7, 3) := by decide +kernel
theorem dX12_text_50 : decode cX12_text 50 = .ok (.aload_n 0, 1) := by decide +kernel
theorem dX12_text_51 : decode cX12_text 51 = .ok (.getfield 186, 3) := by decide +kernel
theorem dX12_text_54 : decode cX12_text 54 = .ok (.putfield 13, 3) := by decide +kernel
theorem dX12_text_57 : decode cX12_text 57 = .ok (.aload_n 0, 1) := by decide +kernel
theorem dX12_text_58 : decode cX12_text 58 = .ok (.getfield 183, 3) := by decide +kernel
theorem dX12_text_61 : decode cX12_text 61 = .ok (.ifCond .eq 5, 3) := by decide +kernel
theorem dX12_text_64 : decode cX12_text 64 = .ok (.iconst (-1), 1) := by decide +kernel
theorem dX12_text_65 : decode cX12_text 65 = .ok (.ireturn, 1) := by decide +kernel
theorem dX12_text_66 : decode cX12_text 66 = .ok (.aload_n 0, 1) := by decide +kernel
theorem dX12_text_67 : decode cX12_text 67 = .ok (.invokevirtual 139, 3) := by decide +kernel
theorem dX12_text_70 : decode cX12_text 70 = .ok (.aload_n 0, 1) := by decide +kernel
theorem dX12_text_71 : decode cX12_text 71 = .ok (.getfield 311, 3) := by decide +kernel
theorem dX12_text_74 : decode cX12_text 74 = .ok (.ireturn, 1) := by decide +kernel
theorem dX12_fault_0 : decode cX12_fault 0 = .ok (.aload_n 0, 1) := by decide +kernel
theorem dX12_fault_1 : decode cX12_fault 1 = .ok (.iconst 0, 1) := by decide +kernel
theorem dX12_fault_2 : decode cX12_fault 2 = .ok (.putfield 142, 3) := by decide +kernel
theorem dX12_fault_5 : decode cX12_fault 5 = .ok (.iload_n 1, 1) := by decide +kernel
theorem dX12_fault_6 : decode cX12_fault 6 = .ok (.ifCond .ne 10, 3) := by decide +kernel
theorem dX12_fault_9 : decode cX12_fault 9 = .ok (.aload_n 0, 1) := by decide +kernel
theorem dX12_fault_10 : decode cX12_fault 10 = .ok (.getfield 335, 3) := by decide +kernel
theorem dX12_fault_13 : decode cX12_fault 13 = .ok (.goto 16, 3) := by decide +kernel
theorem dX12_fault_16 : decode cX12_fault 16 = .ok (.iload_n 1, 1) := by decide +kernel
theorem dX12_fault_17 : decode cX12_fault 17 = .ok (.iconst 1, 1) := by decide +kernel
theorem dX12_fault_18 : decode cX12_fault 18 = .ok (.if_icmp .ne 10, 3) := by decide +kernel
theorem dX12_fault_21 : decode cX12_fault 21 = .ok (.aload_n 0, 1) := by decide +kernel
theorem dX12_fault_22 : decode cX12_fault 22 = .ok (.getfield 13, 3) := by decide +kernel
theorem dX12_fault_25 : decode cX12_fault 25 = .ok (.goto 4, 3) := by decide +kernel
theorem dX12_fault_28 : decode cX12_fault 28 = .ok (.iconst (-1), 1) := by decide +kernel
theorem dX12_fault_29 : decode cX12_fault 29 = .ok (.ireturn, 1) := by decide +kernel
theorem dX12_left_0 : decode cX12_left 0 = .ok (.lload_n 0, 1) := by decide +kernel
theorem dX12_left_1 : decode cX12_left 1 = .ok (.ldc2_w 338, 3) := by decide +kernel
theorem dX12_left_4 : decode cX12_left 4 = .ok (.lrem, 1) := by decide +kernel
theorem dX12_left_5 : decode cX12_left 5 = .ok (.lstore_n 2, 1) := by decide +kernel
theorem dX12_left_6 : decode cX12_left 6 = .ok (.lload_n 2, 1) := by decide +kernel
theorem dX12_left_7 : decode cX12_left 7 = .ok (.lconst 0, 1) := by decide +kernel
theorem dX12_left_8 : decode cX12_left 8 = .ok (.lcmp, 1) := by decide +kernel
theorem dX12_left_9 : decode cX12_left 9 = .ok (.ifCond .ge 11, 3) := by decide +kernel
theorem dX12_left_12 : decode cX12_left 12 = .ok (.lload_n 2, 1) := by decide +kernel
theorem dX12_left_13 : decode cX12_left 13 = .ok (.ldc2_w 338, 3) := by decide +kernel
theorem dX12_left_16 : decode cX12_left 16 = .ok (.ladd, 1) := by decide +kernel
theorem dX12_left_17 : decode cX12_left 17 = .ok (.goto 4, 3) := by decide +kernel
theorem dX12_left_20 : decode cX12_left 20 = .ok (.lload_n 2, 1) := by decide +kernel
theorem dX12_left_21 : decode cX12_left 21 = .ok (.lreturn, 1) := by decide +kernel
theorem dX12_power_0 : decode cX12_power 0 = .ok (.lconst 1, 1) := by decide +kernel
theorem dX12_power_1 : decode cX12_power 1 = .ok (.lstore 4, 2) := by decide +kernel
theorem dX12_power_3 : decode cX12_power 3 = .ok (.lload_n 0, 1) := by decide +kernel
theorem dX12_power_4 : decode cX12_power 4 = .ok (.lstore 6, 2) := by decide +kernel
theorem dX12_power_6 : decode cX12_power 6 = .ok (.lload_n 2, 1) := by decide +kernel
theorem dX12_power_7 : decode cX12_power 7 = .ok (.lstore 8, 2) := by decide +kernel
theorem dX12_power_9 : decode cX12_power 9 = .ok (.lload 8, 2) := by decide +kernel
theorem dX12_power_11 : decode cX12_power 11 = .ok (.lconst 0, 1) := by decide +kernel
theorem dX12_power_12 : decode cX12_power 12 = .ok (.lcmp, 1) := by decide +kernel
theorem dX12_power_13 : decode cX12_power 13 = .ok (.ifCond .le 47, 3) := by decide +kernel
theorem dX12_power_16 : decode cX12_power 16 = .ok (.lload 8, 2) := by decide +kernel
theorem dX12_power_18 : decode cX12_power 18 = .ok (.ldc2_w 340, 3) := by decide +kernel
theorem dX12_power_21 : decode cX12_power 21 = .ok (.lrem, 1) := by decide +kernel
theorem dX12_power_22 : decode cX12_power 22 = .ok (.lconst 1, 1) := by decide +kernel
theorem dX12_power_23 : decode cX12_power 23 = .ok (.lcmp, 1) := by decide +kernel
theorem dX12_power_24 : decode cX12_power 24 = .ok (.ifCond .ne 14, 3) := by decide +kernel
theorem dX12_power_27 : decode cX12_power 27 = .ok (.lload 4, 2) := by decide +kernel
theorem dX12_power_29 : decode cX12_power 29 = .ok (.lload 6, 2) := by decide +kernel
theorem dX12_power_31 : decode cX12_power 31 = .ok (.lmul, 1) := by decide +kernel
theorem dX12_power_32 : decode cX12_power 32 = .ok (.ldc2_w 338, 3) := by decide +kernel
theorem dX12_power_35 : decode cX12_power 35 = .ok (.lrem, 1) := by decide +kernel
theorem dX12_power_36 : decode cX12_power 36 = .ok (.lstore 4, 2) := by decide +kernel
theorem dX12_power_38 : decode cX12_power 38 = .ok (.lload 6, 2) := by decide +kernel
theorem dX12_power_40 : decode cX12_power 40 = .ok (.lload 6, 2) := by decide +kernel
theorem dX12_power_42 : decode cX12_power 42 = .ok (.lmul, 1) := by decide +kernel
theorem dX12_power_43 : decode cX12_power 43 = .ok (.ldc2_w 338, 3) := by decide +kernel
theorem dX12_power_46 : decode cX12_power 46 = .ok (.lrem, 1) := by decide +kernel
theorem dX12_power_47 : decode cX12_power 47 = .ok (.lstore 6, 2) := by decide +kernel
theorem dX12_power_49 : decode cX12_power 49 = .ok (.lload 8, 2) := by decide +kernel
theorem dX12_power_51 : decode cX12_power 51 = .ok (.ldc2_w 340, 3) := by decide +kernel
theorem dX12_power_54 : decode cX12_power 54 = .ok (.ldiv, 1) := by decide +kernel
theorem dX12_power_55 : decode cX12_power 55 = .ok (.lstore 8, 2) := by decide +kernel
theorem dX12_power_57 : decode cX12_power 57 = .ok (.goto (-48), 3) := by decide +kernel
theorem dX12_power_60 : decode cX12_power 60 = .ok (.lload 4, 2) := by decide +kernel
theorem dX12_power_62 : decode cX12_power 62 = .ok (.lreturn, 1) := by decide +kernel
theorem dX12_parted_0 : decode cX12_parted 0 = .ok (.lload_n 0, 1) := by decide +kernel
theorem dX12_parted_1 : decode cX12_parted 1 = .ok (.lload_n 2, 1) := by decide +kernel
theorem dX12_parted_2 : decode cX12_parted 2 = .ok (.ldc2_w 342, 3) := by decide +kernel
theorem dX12_parted_5 : decode cX12_parted 5 = .ok (.invokestatic 344, 3) := by decide +kernel
theorem dX12_parted_8 : decode cX12_parted 8 = .ok (.lmul, 1) := by decide +kernel
theorem dX12_parted_9 : decode cX12_parted 9 = .ok (.ldc2_w 338, 3) := by decide +kernel
theorem dX12_parted_12 : decode cX12_parted 12 = .ok (.lrem, 1) := by decide +kernel
theorem dX12_parted_13 : decode cX12_parted 13 = .ok (.lreturn, 1) := by decide +kernel
theorem dX12_signed_0 : decode cX12_signed 0 = .ok (.lload_n 0, 1) := by decide +kernel
theorem dX12_signed_1 : decode cX12_signed 1 = .ok (.ldc2_w 348, 3) := by decide +kernel
theorem dX12_signed_4 : decode cX12_signed 4 = .ok (.lcmp, 1) := by decide +kernel
theorem dX12_signed_5 : decode cX12_signed 5 = .ok (.ifCond .le 11, 3) := by decide +kernel
theorem dX12_signed_8 : decode cX12_signed 8 = .ok (.lload_n 0, 1) := by decide +kernel
theorem dX12_signed_9 : decode cX12_signed 9 = .ok (.ldc2_w 338, 3) := by decide +kernel
theorem dX12_signed_12 : decode cX12_signed 12 = .ok (.lsub, 1) := by decide +kernel
theorem dX12_signed_13 : decode cX12_signed 13 = .ok (.goto 4, 3) := by decide +kernel
theorem dX12_signed_16 : decode cX12_signed 16 = .ok (.lload_n 0, 1) := by decide +kernel
theorem dX12_signed_17 : decode cX12_signed 17 = .ok (.lreturn, 1) := by decide +kernel
theorem dX12_push_0 : decode cX12_push 0 = .ok (.aload_n 0, 1) := by decide +kernel
theorem dX12_push_1 : decode cX12_push 1 = .ok (.getfield 69, 3) := by decide +kernel
theorem dX12_push_4 : decode cX12_push 4 = .ok (.aload_n 0, 1) := by decide +kernel
theorem dX12_push_5 : decode cX12_push 5 = .ok (.getfield 350, 3) := by decide +kernel
theorem dX12_push_8 : decode cX12_push 8 = .ok (.lload_n 1, 1) := by decide +kernel
theorem dX12_push_9 : decode cX12_push 9 = .ok (.lastore, 1) := by decide +kernel
theorem dX12_push_10 : decode cX12_push 10 = .ok (.aload_n 0, 1) := by decide +kernel
theorem dX12_push_11 : decode cX12_push 11 = .ok (.getfield 72, 3) := by decide +kernel
theorem dX12_push_14 : decode cX12_push 14 = .ok (.aload_n 0, 1) := by decide +kernel
theorem dX12_push_15 : decode cX12_push 15 = .ok (.getfield 350, 3) := by decide +kernel
theorem dX12_push_18 : decode cX12_push 18 = .ok (.iload_n 3, 1) := by decide +kernel
theorem dX12_push_19 : decode cX12_push 19 = .ok (.iastore, 1) := by decide +kernel
theorem dX12_push_20 : decode cX12_push 20 = .ok (.aload_n 0, 1) := by decide +kernel
theorem dX12_push_21 : decode cX12_push 21 = .ok (.dup, 1) := by decide +kernel
theorem dX12_push_22 : decode cX12_push 22 = .ok (.getfield 350, 3) := by decide +kernel
theorem dX12_push_25 : decode cX12_push 25 = .ok (.iconst 1, 1) := by decide +kernel
theorem dX12_push_26 : decode cX12_push 26 = .ok (.iadd, 1) := by decide +kernel
theorem dX12_push_27 : decode cX12_push 27 = .ok (.putfield 350, 3) := by decide +kernel
theorem dX12_push_30 : decode cX12_push 30 = .ok (.return_, 1) := by decide +kernel
theorem dX12_clears_0 : decode cX12_clears 0 = .ok (.aload_n 0, 1) := by decide +kernel
theorem dX12_clears_1 : decode cX12_clears 1 = .ok (.iconst 0, 1) := by decide +kernel
theorem dX12_clears_2 : decode cX12_clears 2 = .ok (.putfield 353, 3) := by decide +kernel
theorem dX12_clears_5 : decode cX12_clears 5 = .ok (.aload_n 0, 1) := by decide +kernel
theorem dX12_clears_6 : decode cX12_clears 6 = .ok (.iconst 0, 1) := by decide +kernel
theorem dX12_clears_7 : decode cX12_clears 7 = .ok (.putfield 350, 3) := by decide +kernel
theorem dX12_clears_10 : decode cX12_clears 10 = .ok (.aload_n 0, 1) := by decide +kernel
theorem dX12_clears_11 : decode cX12_clears 11 = .ok (.iconst 0, 1) := by decide +kernel
theorem dX12_clears_12 : decode cX12_clears 12 = .ok (.putfield 356, 3) := by decide +kernel
theorem dX12_clears_15 : decode cX12_clears 15 = .ok (.aload_n 0, 1) := by decide +kernel
theorem dX12_clears_16 : decode cX12_clears 16 = .ok (.iconst 0, 1) := by decide +kernel
theorem dX12_clears_17 : decode cX12_clears 17 = .ok (.putfield 359, 3) := by decide +kernel
theorem dX12_clears_20 : decode cX12_clears 20 = .ok (.aload_n 0, 1) := by decide +kernel
theorem dX12_clears_21 : decode cX12_clears 21 = .ok (.iconst 0, 1) := by decide +kernel
theorem dX12_clears_22 : decode cX12_clears 22 = .ok (.putfield 362, 3) := by decide +kernel
theorem dX12_clears_25 : decode cX12_clears 25 = .ok (.aload_n 0, 1) := by decide +kernel
theorem dX12_clears_26 : decode cX12_clears 26 = .ok (.iconst 0, 1) := by decide +kernel
theorem dX12_clears_27 : decode cX12_clears 27 = .ok (.putfield 365, 3) := by decide +kernel
theorem dX12_clears_30 : decode cX12_clears 30 = .ok (.aload_n 0, 1) := by decide +kernel
theorem dX12_clears_31 : decode cX12_clears 31 = .ok (.bipush (-2), 2) := by decide +kernel
theorem dX12_clears_33 : decode cX12_clears 33 = .ok (.putfield 368, 3) := by decide +kernel
theorem dX12_clears_36 : decode cX12_clears 36 = .ok (.aload_n 0, 1) := by decide +kernel
theorem dX12_clears_37 : decode cX12_clears 37 = .ok (.iconst 0, 1) := by decide +kernel
theorem dX12_clears_38 : decode cX12_clears 38 = .ok (.putfield 371, 3) := by decide +kernel
theorem dX12_clears_41 : decode cX12_clears 41 = .ok (.iconst 0, 1) := by decide +kernel
theorem dX12_clears_42 : decode cX12_clears 42 = .ok (.istore_n 1, 1) := by decide +kernel
theorem dX12_clears_43 : decode cX12_clears 43 = .ok (.iload_n 1, 1) := by decide +kernel
theorem dX12_clears_44 : decode cX12_clears 44 = .ok (.bipush 8, 2) := by decide +kernel
theorem dX12_clears_46 : decode cX12_clears 46 = .ok (.if_icmp .ge 57, 3) := by decide +kernel
theorem dX12_clears_49 : decode cX12_clears 49 = .ok (.aload_n 0, 1) := by decide +kernel
theorem dX12_clears_50 : decode cX12_clears 50 = .ok (.getfield 75, 3) := by decide +kernel
theorem dX12_clears_53 : decode cX12_clears 53 = .ok (.iload_n 1, 1) := by decide +kernel
theorem dX12_clears_54 : decode cX12_clears 54 = .ok (.iload_n 1, 1) := by decide +kernel
theorem dX12_clears_55 : decode cX12_clears 55 = .ok (.aload_n 0, 1) := by decide +kernel
theorem dX12_clears_56 : decode cX12_clears 56 = .ok (.getfield 314, 3) := by decide +kernel
theorem dX12_clears_59 : decode cX12_clears 59 = .ok (.if_icmp .ge 12, 3) := by decide +kernel
theorem dX12_clears_62 : decode cX12_clears 62 = .ok (.aload_n 0, 1) := by decide +kernel
theorem dX12_clears_63 : decode cX12_clears 63 = .ok (.getfield 44, 3) := by decide +kernel
theorem dX12_clears_66 : decode cX12_clears 66 = .ok (.iload_n 1, 1) := by decide +kernel
theorem dX12_clears_67 : decode cX12_clears 67 = .ok (.laload, 1) := by decide +kernel
theorem dX12_clears_68 : decode cX12_clears 68 = .ok (.goto 4, 3) := by decide +kernel
theorem dX12_clears_71 : decode cX12_clears 71 = .ok (.lconst 0, 1) := by decide +kernel
theorem dX12_clears_72 : decode cX12_clears 72 = .ok (.lastore, 1) := by decide +kernel
theorem dX12_clears_73 : decode cX12_clears 73 = .ok (.aload_n 0, 1) := by decide +kernel
theorem dX12_clears_74 : decode cX12_clears 74 = .ok (.getfield 78, 3) := by decide +kernel
theorem dX12_clears_77 : decode cX12_clears 77 = .ok (.iload_n 1, 1) := by decide +kernel
theorem dX12_clears_78 : decode cX12_clears 78 = .ok (.iload_n 1, 1) := by decide +kernel
theorem dX12_clears_79 : decode cX12_clears 79 = .ok (.aload_n 0, 1) := by decide +kernel
theorem dX12_clears_80 : decode cX12_clears 80 = .ok (.getfield 314, 3) := by decide +kernel
theorem dX12_clears_83 : decode cX12_clears 83 = .ok (.if_icmp .ge 11, 3) := by decide +kernel
theorem dX12_clears_86 : decode cX12_clears 86 = .ok (.sipush 1000, 3) := by decide +kernel
theorem dX12_clears_89 : decode cX12_clears 89 = .ok (.iload_n 1, 1) := by decide +kernel
theorem dX12_clears_90 : decode cX12_clears 90 = .ok (.iadd, 1) := by decide +kernel
theorem dX12_clears_91 : decode cX12_clears 91 = .ok (.goto 5, 3) := by decide +kernel
theorem dX12_clears_94 : decode cX12_clears 94 = .ok (.bipush (-2), 2) := by decide +kernel
theorem dX12_clears_96 : decode cX12_clears 96 = .ok (.iastore, 1) := by decide +kernel
theorem dX12_clears_97 : decode cX12_clears 97 = .ok (.iinc 1 1, 3) := by decide +kernel
theorem dX12_clears_100 : decode cX12_clears 100 = .ok (.goto (-57), 3) := by decide +kernel
theorem dX12_clears_103 : decode cX12_clears 103 = .ok (.iconst 0, 1) := by decide +kernel
theorem dX12_clears_104 : decode cX12_clears 104 = .ok (.istore_n 1, 1) := by decide +kernel
theorem dX12_clears_105 : decode cX12_clears 105 = .ok (.iload_n 1, 1) := by decide +kernel
theorem dX12_clears_106 : decode cX12_clears 106 = .ok (.bipush 48, 2) := by decide +kernel
theorem dX12_clears_108 : decode cX12_clears 108 = .ok (.if_icmp .ge 24, 3) := by decide +kernel
theorem dX12_clears_111 : decode cX12_clears 111 = .ok (.aload_n 0, 1) := by decide +kernel
theorem dX12_clears_112 : decode cX12_clears 112 = .ok (.getfield 81, 3) := by decide +kernel
theorem dX12_clears_115 : decode cX12_clears 115 = .ok (.iload_n 1, 1) := by decide +kernel
theorem dX12_clears_116 : decode cX12_clears 116 = .ok (.lconst 0, 1) := by decide +kernel
theorem dX12_clears_117 : decode cX12_clears 117 = .ok (.lastore, 1) := by decide +kernel
theorem dX12_clears_118 : decode cX12_clears 118 = .ok (.aload_n 0, 1) := by decide +kernel
theorem dX12_clears_119 : decode cX12_clears 119 = .ok (.getfield 84, 3) := by decide +kernel
theorem dX12_clears_122 : decode cX12_clears 122 = .ok (.iload_n 1, 1) := by decide +kernel
theorem dX12_clears_123 : decode cX12_clears 123 = .ok (.bipush (-2), 2) := by decide +kernel
theorem dX12_clears_125 : decode cX12_clears 125 = .ok (.iastore, 1) := by decide +kernel
theorem dX12_clears_126 : decode cX12_clears 126 = .ok (.iinc 1 1, 3) := by decide +kernel
theorem dX12_clears_129 : decode cX12_clears 129 = .ok (.goto (-24), 3) := by decide +kernel
theorem dX12_clears_132 : decode cX12_clears 132 = .ok (.return_, 1) := by decide +kernel
theorem dX12_stops_0 : decode cX12_stops 0 = .ok (.aload_n 0, 1) := by decide +kernel
theorem dX12_stops_1 : decode cX12_stops 1 = .ok (.iload_n 1, 1) := by decide +kernel
theorem dX12_stops_2 : decode cX12_stops 2 = .ok (.putfield 365, 3) := by decide +kernel
theorem dX12_stops_5 : decode cX12_stops 5 = .ok (.aload_n 0, 1) := by decide +kernel
theorem dX12_stops_6 : decode cX12_stops 6 = .ok (.iload_n 2, 1) := by decide +kernel
theorem dX12_stops_7 : decode cX12_stops 7 = .ok (.putfield 368, 3) := by decide +kernel
theorem dX12_stops_10 : decode cX12_stops 10 = .ok (.return_, 1) := by decide +kernel
theorem dX12_runs_0 : decode cX12_runs 0 = .ok (.aload_n 0, 1) := by decide +kernel
theorem dX12_runs_1 : decode cX12_runs 1 = .ok (.invokevirtual 374, 3) := by decide +kernel
theorem dX12_runs_4 : decode cX12_runs 4 = .ok (.iconst 0, 1) := by decide +kernel
theorem dX12_runs_5 : decode cX12_runs 5 = .ok (.istore_n 1, 1) := by decide +kernel
theorem dX12_runs_6 : decode cX12_runs 6 = .ok (.iload_n 1, 1) := by decide +kernel
theorem dX12_runs_7 : decode cX12_runs 7 = .ok (.aload_n 0, 1) := by decide +kernel
theorem dX12_runs_8 : decode cX12_runs 8 = .ok (.getfield 326, 3) := by decide +kernel
theorem dX12_runs_11 : decode cX12_runs 11 = .ok (.if_icmp .ge 56, 3) := by decide +kernel
theorem dX12_runs_14 : decode cX12_runs 14 = .ok (.aload_n 0, 1) := by decide +kernel
theorem dX12_runs_15 : decode cX12_runs 15 = .ok (.getfield 365, 3) := by decide +kernel
theorem dX12_runs_18 : decode cX12_runs 18 = .ok (.ifCond .ne 49, 3) := by decide +kernel
theorem dX12_runs_21 : decode cX12_runs 21 = .ok (.aload_n 0, 1) := by decide +kernel
theorem dX12_runs_22 : decode cX12_runs 22 = .ok (.getfield 371, 3) := by decide +kernel
theorem dX12_runs_25 : decode cX12_runs 25 = .ok (.sipush 3000, 3) := by decide +kernel
theorem dX12_runs_28 : decode cX12_runs 28 = .ok (.if_icmp .ne 10, 3) := by decide +kernel
theorem dX12_runs_31 : decode cX12_runs 31 = .ok (.aload_n 0, 1) := by decide +kernel
theorem dX12_runs_32 : decode cX12_runs 32 = .ok (.iconst 3, 1) := by decide +kernel
theorem dX12_runs_33 : decode cX12_runs 33 = .ok (.iload_n 1, 1) := by decide +kernel
theorem dX12_runs_34 : decode cX12_runs 34 = .ok (.invokevirtual 377, 3) := by decide +kernel
theorem dX12_runs_37 : decode cX12_runs 37 = .ok (.return_, 1) := by decide +kernel
theorem dX12_runs_38 : decode cX12_runs 38 = .ok (.aload_n 0, 1) := by decide +kernel
theorem dX12_runs_39 : decode cX12_runs 39 = .ok (.iload_n 1, 1) := by decide +kernel
theorem dX12_runs_40 : decode cX12_runs 40 = .ok (.invokevirtual 380, 3) := by decide +kernel
theorem dX12_runs_43 : decode cX12_runs 43 = .ok (.istore_n 2, 1) := by decide +kernel
theorem dX12_runs_44 : decode cX12_runs 44 = .ok (.aload_n 0, 1) := by decide +kernel
theorem dX12_runs_45 : decode cX12_runs 45 = .ok (.getfield 365, 3) := by decide +kernel
theorem dX12_runs_48 : decode cX12_runs 48 = .ok (.ifCond .eq 4, 3) := by decide +kernel
theorem dX12_runs_51 : decode cX12_runs 51 = .ok (.return_, 1) := by decide +kernel
theorem dX12_runs_52 : decode cX12_runs 52 = .ok (.aload_n 0, 1) := by decide +kernel
theorem dX12_runs_53 : decode cX12_runs 53 = .ok (.dup, 1) := by decide +kernel
theorem dX12_runs_54 : decode cX12_runs 54 = .ok (.getfield 371, 3) := by decide +kernel
theorem dX12_runs_57 : decode cX12_runs 57 = .ok (.iconst 1, 1) := by decide +kernel
theorem dX12_runs_58 : decode cX12_runs 58 = .ok (.iadd, 1) := by decide +kernel
theorem dX12_runs_59 : decode cX12_runs 59 = .ok (.putfield 371, 3) := by decide +kernel
theorem dX12_runs_62 : decode cX12_runs 62 = .ok (.iload_n 2, 1) := by decide +kernel
theorem dX12_runs_63 : decode cX12_runs 63 = .ok (.istore_n 1, 1) := by decide +kernel
theorem dX12_runs_64 : decode cX12_runs 64 = .ok (.goto (-58), 3) := by decide +kernel
theorem dX12_runs_67 : decode cX12_runs 67 = .ok (.return_, 1) := by decide +kernel
theorem dX12_goes_0 : decode cX12_goes 0 = .ok (.aload_n 0, 1) := by decide +kernel
theorem dX12_goes_1 : decode cX12_goes 1 = .ok (.getfield 32, 3) := by decide +kernel
theorem dX12_goes_4 : decode cX12_goes 4 = .ok (.iload_n 1, 1) := by decide +kernel
theorem dX12_goes_5 : decode cX12_goes 5 = .ok (.iaload, 1) := by decide +kernel
theorem dX12_goes_6 : decode cX12_goes 6 = .ok (.istore_n 2, 1) := by decide +kernel
theorem dX12_goes_7 : decode cX12_goes 7 = .ok (.aload_n 0, 1) := by decide +kernel
theorem dX12_goes_8 : decode cX12_goes 8 = .ok (.getfield 29, 3) := by decide +kernel
theorem dX12_goes_11 : decode cX12_goes 11 = .ok (.iload_n 1, 1) := by decide +kernel
theorem dX12_goes_12 : decode cX12_goes 12 = .ok (.iaload, 1) := by decide +kernel
theorem dX12_goes_13 : decode cX12_goes 13 = .ok (.tableswitch 224 0 14 #[75, 86, 105, 224, 224, 224, 224, 114, 157, 166, 174, 199, 206, 206, 222], 75) := by decide +kernel
theorem dX12_goes_88 : decode cX12_goes 88 = .ok (.aload_n 0, 1) := by decide +kernel
theorem dX12_goes_89 : decode cX12_goes 89 = .ok (.iload_n 2, 1) := by decide +kernel
theorem dX12_goes_90 : decode cX12_goes 90 = .ok (.i2l, 1) := by decide +kernel
theorem dX12_goes_91 : decode cX12_goes 91 = .ok (.bipush (-2), 2) := by decide +kernel
theorem dX12_goes_93 : decode cX12_goes 93 = .ok (.invokevirtual 383, 3) := by decide +kernel
theorem dX12_goes_96 : decode cX12_goes 96 = .ok (.goto 146, 3) := by decide +kernel
theorem dX12_goes_99 : decode cX12_goes 99 = .ok (.aload_n 0, 1) := by decide +kernel
theorem dX12_goes_100 : decode cX12_goes 100 = .ok (.aload_n 0, 1) := by decide +kernel
theorem dX12_goes_101 : decode cX12_goes 101 = .ok (.getfield 75, 3) := by decide +kernel
theorem dX12_goes_104 : decode cX12_goes 104 = .ok (.iload_n 2, 1) := by decide +kernel
theorem dX12_goes_105 : decode cX12_goes 105 = .ok (.laload, 1) := by decide +kernel
theorem dX12_goes_106 : decode cX12_goes 106 = .ok (.aload_n 0, 1) := by decide +kernel
theorem dX12_goes_107 : decode cX12_goes 107 = .ok (.getfield 78, 3) := by decide +kernel
theorem dX12_goes_110 : decode cX12_goes 110 = .ok (.iload_n 2, 1) := by decide +kernel
theorem dX12_goes_111 : decode cX12_goes 111 = .ok (.iaload, 1) := by decide +kernel
theorem dX12_goes_112 : decode cX12_goes 112 = .ok (.invokevirtual 383, 3) := by decide +kernel
theorem dX12_goes_115 : decode cX12_goes 115 = .ok (.goto 127, 3) := by decide +kernel
theorem dX12_goes_118 : decode cX12_goes 118 = .ok (.aload_n 0, 1) := by decide +kernel
theorem dX12_goes_119 : decode cX12_goes 119 = .ok (.iload_n 2, 1) := by decide +kernel
theorem dX12_goes_120 : decode cX12_goes 120 = .ok (.iload_n 1, 1) := by decide +kernel
theorem dX12_goes_121 : decode cX12_goes 121 = .ok (.invokevirtual 387, 3) := by decide +kernel
theorem dX12_goes_124 : decode cX12_goes 124 = .ok (.goto 118, 3) := by decide +kernel
theorem dX12_goes_127 : decode cX12_goes 127 = .ok (.aload_n 0, 1) := by decide +kernel
theorem dX12_goes_128 : decode cX12_goes 128 = .ok (.dup, 1) := by decide +kernel
theorem dX12_goes_129 : decode cX12_goes 129 = .ok (.getfield 350, 3) := by decide +kernel
theorem dX12_goes_132 : decode cX12_goes 132 = .ok (.iconst 1, 1) := by decide +kernel
theorem dX12_goes_133 : decode cX12_goes 133 = .ok (.isub, 1) := by decide +kernel
theorem dX12_goes_134 : decode cX12_goes 134 = .ok (.putfield 350, 3) := by decide +kernel
theorem dX12_goes_137 : decode cX12_goes 137 = .ok (.aload_n 0, 1) := by decide +kernel
theorem dX12_goes_138 : decode cX12_goes 138 = .ok (.getfield 75, 3) := by decide +kernel
theorem dX12_goes_141 : decode cX12_goes 141 = .ok (.iload_n 2, 1) := by decide +kernel
theorem dX12_goes_142 : decode cX12_goes 142 = .ok (.aload_n 0, 1) := by decide +kernel
theorem dX12_goes_143 : decode cX12_goes 143 = .ok (.getfield 69, 3) := by decide +kernel
theorem dX12_goes_146 : decode cX12_goes 146 = .ok (.aload_n 0, 1) := by decide +kernel
theorem dX12_goes_147 : decode cX12_goes 147 = .ok (.getfield 350, 3) := by decide +kernel
theorem dX12_goes_150 : decode cX12_goes 150 = .ok (.laload, 1) := by decide +kernel
theorem dX12_goes_151 : decode cX12_goes 151 = .ok (.lastore, 1) := by decide +kernel
theorem dX12_goes_152 : decode cX12_goes 152 = .ok (.aload_n 0, 1) := by decide +kernel
theorem dX12_goes_153 : decode cX12_goes 153 = .ok (.getfield 78, 3) := by decide +kernel
theorem dX12_goes_156 : decode cX12_goes 156 = .ok (.iload_n 2, 1) := by decide +kernel
theorem dX12_goes_157 : decode cX12_goes 157 = .ok (.aload_n 0, 1) := by decide +kernel
theorem dX12_goes_158 : decode cX12_goes 158 = .ok (.getfield 72, 3) := by decide +kernel
theorem dX12_goes_161 : decode cX12_goes 161 = .ok (.aload_n 0, 1) := by decide +kernel
theorem dX12_goes_162 : decode cX12_goes 162 = .ok (.getfield 350, 3) := by decide +kernel
theorem dX12_goes_165 : decode cX12_goes 165 = .ok (.iaload, 1) := by decide +kernel
theorem dX12_goes_166 : decode cX12_goes 166 = .ok (.iastore, 1) := by decide +kernel
theorem dX12_goes_167 : decode cX12_goes 167 = .ok (.goto 75, 3) := by decide +kernel
theorem dX12_goes_170 : decode cX12_goes 170 = .ok (.aload_n 0, 1) := by decide +kernel
theorem dX12_goes_171 : decode cX12_goes 171 = .ok (.iload_n 2, 1) := by decide +kernel
theorem dX12_goes_172 : decode cX12_goes 172 = .ok (.iload_n 1, 1) := by decide +kernel
theorem dX12_goes_173 : decode cX12_goes 173 = .ok (.invokevirtual 390, 3) := by decide +kernel
theorem dX12_goes_176 : decode cX12_goes 176 = .ok (.goto 66, 3) := by decide +kernel
theorem dX12_goes_179 : decode cX12_goes 179 = .ok (.aload_n 0, 1) := by decide +kernel
theorem dX12_goes_180 : decode cX12_goes 180 = .ok (.iload_n 1, 1) := by decide +kernel
theorem dX12_goes_181 : decode cX12_goes 181 = .ok (.invokevirtual 393, 3) := by decide +kernel
theorem dX12_goes_184 : decode cX12_goes 184 = .ok (.goto 58, 3) := by decide +kernel
theorem dX12_goes_187 : decode cX12_goes 187 = .ok (.aload_n 0, 1) := by decide +kernel
theorem dX12_goes_188 : decode cX12_goes 188 = .ok (.getfield 96, 3) := by decide +kernel
theorem dX12_goes_191 : decode cX12_goes 191 = .ok (.iload_n 1, 1) := by decide +kernel
theorem dX12_goes_192 : decode cX12_goes 192 = .ok (.iconst 0, 1) := by decide +kernel
theorem dX12_goes_193 : decode cX12_goes 193 = .ok (.iastore, 1) := by decide +kernel
theorem dX12_goes_194 : decode cX12_goes 194 = .ok (.aload_n 0, 1) := by decide +kernel
theorem dX12_goes_195 : decode cX12_goes 195 = .ok (.getfield 75, 3) := by decide +kernel
theorem dX12_goes_198 : decode cX12_goes 198 = .ok (.iload_n 2, 1) := by decide +kernel
theorem dX12_goes_199 : decode cX12_goes 199 = .ok (.lconst 0, 1) := by decide +kernel
theorem dX12_goes_200 : decode cX12_goes 200 = .ok (.lastore, 1) := by decide +kernel
theorem dX12_goes_201 : decode cX12_goes 201 = .ok (.aload_n 0, 1) := by decide +kernel
theorem dX12_goes_202 : decode cX12_goes 202 = .ok (.getfield 78, 3) := by decide +kernel
theorem dX12_goes_205 : decode cX12_goes 205 = .ok (.iload_n 2, 1) := by decide +kernel
theorem dX12_goes_206 : decode cX12_goes 206 = .ok (.bipush (-2), 2) := by decide +kernel
theorem dX12_goes_208 : decode cX12_goes 208 = .ok (.iastore, 1) := by decide +kernel
theorem dX12_goes_209 : decode cX12_goes 209 = .ok (.goto 33, 3) := by decide +kernel
theorem dX12_goes_212 : decode cX12_goes 212 = .ok (.aload_n 0, 1) := by decide +kernel
theorem dX12_goes_213 : decode cX12_goes 213 = .ok (.iload_n 2, 1) := by decide +kernel
theorem dX12_goes_214 : decode cX12_goes 214 = .ok (.iload_n 1, 1) := by decide +kernel
theorem dX12_goes_215 : decode cX12_goes 215 = .ok (.invokevirtual 396, 3) := by decide +kernel
theorem dX12_goes_218 : decode cX12_goes 218 = .ok (.ireturn, 1) := by decide +kernel
theorem dX12_goes_219 : decode cX12_goes 219 = .ok (.aload_n 0, 1) := by decide +kernel
theorem dX12_goes_220 : decode cX12_goes 220 = .ok (.iload_n 1, 1) := by decide +kernel
theorem dX12_goes_221 : decode cX12_goes 221 = .ok (.invokevirtual 399, 3) := by decide +kernel
theorem dX12_goes_224 : decode cX12_goes 224 = .ok (.ifCond .eq 9, 3) := by decide +kernel
theorem dX12_goes_227 : decode cX12_goes 227 = .ok (.iload_n 1, 1) := by decide +kernel
theorem dX12_goes_228 : decode cX12_goes 228 = .ok (.iconst 1, 1) := by decide +kernel
theorem dX12_goes_229 : decode cX12_goes 229 = .ok (.iadd, 1) := by decide +kernel
theorem dX12_goes_230 : decode cX12_goes 230 = .ok (.goto 4, 3) := by decide +kernel
theorem dX12_goes_233 : decode cX12_goes 233 = .ok (.iload_n 2, 1) := by decide +kernel
theorem dX12_goes_234 : decode cX12_goes 234 = .ok (.ireturn, 1) := by decide +kernel
theorem dX12_goes_235 : decode cX12_goes 235 = .ok (.iload_n 2, 1) := by decide +kernel
theorem dX12_goes_236 : decode cX12_goes 236 = .ok (.ireturn, 1) := by decide +kernel
theorem dX12_goes_237 : decode cX12_goes 237 = .ok (.aload_n 0, 1) := by decide +kernel
theorem dX12_goes_238 : decode cX12_goes 238 = .ok (.iload_n 1, 1) := by decide +kernel
theorem dX12_goes_239 : decode cX12_goes 239 = .ok (.invokevirtual 401, 3) := by decide +kernel
theorem dX12_goes_242 : decode cX12_goes 242 = .ok (.iload_n 1, 1) := by decide +kernel
theorem dX12_goes_243 : decode cX12_goes 243 = .ok (.iconst 1, 1) := by decide +kernel
theorem dX12_goes_244 : decode cX12_goes 244 = .ok (.iadd, 1) := by decide +kernel
theorem dX12_goes_245 : decode cX12_goes 245 = .ok (.ireturn, 1) := by decide +kernel
theorem dX12_nextTo_0 : decode cX12_nextTo 0 = .ok (.iload_n 1, 1) := by decide +kernel
theorem dX12_nextTo_1 : decode cX12_nextTo 1 = .ok (.iconst 1, 1) := by decide +kernel
theorem dX12_nextTo_2 : decode cX12_nextTo 2 = .ok (.isub, 1) := by decide +kernel
theorem dX12_nextTo_3 : decode cX12_nextTo 3 = .ok (.istore_n 3, 1) := by decide +kernel
theorem dX12_nextTo_4 : decode cX12_nextTo 4 = .ok (.aload_n 0, 1) := by decide +kernel
theorem dX12_nextTo_5 : decode cX12_nextTo 5 = .ok (.getfield 96, 3) := by decide +kernel
theorem dX12_nextTo_8 : decode cX12_nextTo 8 = .ok (.iload_n 3, 1) := by decide +kernel
theorem dX12_nextTo_9 : decode cX12_nextTo 9 = .ok (.dup2, 1) := by decide +kernel
theorem dX12_nextTo_10 : decode cX12_nextTo 10 = .ok (.iaload, 1) := by decide +kernel
theorem dX12_nextTo_11 : decode cX12_nextTo 11 = .ok (.iconst 1, 1) := by decide +kernel
theorem dX12_nextTo_12 : decode cX12_nextTo 12 = .ok (.iadd, 1) := by decide +kernel
theorem dX12_nextTo_13 : decode cX12_nextTo 13 = .ok (.iastore, 1) := by decide +kernel
theorem dX12_nextTo_14 : decode cX12_nextTo 14 = .ok (.aload_n 0, 1) := by decide +kernel
theorem dX12_nextTo_15 : decode cX12_nextTo 15 = .ok (.getfield 96, 3) := by decide +kernel
theorem dX12_nextTo_18 : decode cX12_nextTo 18 = .ok (.iload_n 3, 1) := by decide +kernel
theorem dX12_nextTo_19 : decode cX12_nextTo 19 = .ok (.iaload, 1) := by decide +kernel
theorem dX12_nextTo_20 : decode cX12_nextTo 20 = .ok (.aload_n 0, 1) := by decide +kernel
theorem dX12_nextTo_21 : decode cX12_nextTo 21 = .ok (.getfield 35, 3) := by decide +kernel
theorem dX12_nextTo_24 : decode cX12_nextTo 24 = .ok (.iload_n 3, 1) := by decide +kernel
theorem dX12_nextTo_25 : decode cX12_nextTo 25 = .ok (.iaload, 1) := by decide +kernel
theorem dX12_nextTo_26 : decode cX12_nextTo 26 = .ok (.if_icmp .ne 7, 3) := by decide +kernel
theorem dX12_nextTo_29 : decode cX12_nextTo 29 = .ok (.iload_n 2, 1) := by decide +kernel
theorem dX12_nextTo_30 : decode cX12_nextTo 30 = .ok (.iconst 1, 1) := by decide +kernel
theorem dX12_nextTo_31 : decode cX12_nextTo 31 = .ok (.iadd, 1) := by decide +kernel
theorem dX12_nextTo_32 : decode cX12_nextTo 32 = .ok (.ireturn, 1) := by decide +kernel
theorem dX12_nextTo_33 : decode cX12_nextTo 33 = .ok (.aload_n 0, 1) := by decide +kernel
theorem dX12_nextTo_34 : decode cX12_nextTo 34 = .ok (.getfield 75, 3) := by decide +kernel
theorem dX12_nextTo_37 : decode cX12_nextTo 37 = .ok (.aload_n 0, 1) := by decide +kernel
theorem dX12_nextTo_38 : decode cX12_nextTo 38 = .ok (.getfield 32, 3) := by decide +kernel
theorem dX12_nextTo_41 : decode cX12_nextTo 41 = .ok (.iload_n 3, 1) := by decide +kernel
theorem dX12_nextTo_42 : decode cX12_nextTo 42 = .ok (.iaload, 1) := by decide +kernel
theorem dX12_nextTo_43 : decode cX12_nextTo 43 = .ok (.aload_n 0, 1) := by decide +kernel
theorem dX12_nextTo_44 : decode cX12_nextTo 44 = .ok (.getfield 96, 3) := by decide +kernel
theorem dX12_nextTo_47 : decode cX12_nextTo 47 = .ok (.iload_n 3, 1) := by decide +kernel
theorem dX12_nextTo_48 : decode cX12_nextTo 48 = .ok (.iaload, 1) := by decide +kernel
theorem dX12_nextTo_49 : decode cX12_nextTo 49 = .ok (.i2l, 1) := by decide +kernel
theorem dX12_nextTo_50 : decode cX12_nextTo 50 = .ok (.lastore, 1) := by decide +kernel
theorem dX12_nextTo_51 : decode cX12_nextTo 51 = .ok (.aload_n 0, 1) := by decide +kernel
theorem dX12_nextTo_52 : decode cX12_nextTo 52 = .ok (.getfield 78, 3) := by decide +kernel
theorem dX12_nextTo_55 : decode cX12_nextTo 55 = .ok (.aload_n 0, 1) := by decide +kernel
theorem dX12_nextTo_56 : decode cX12_nextTo 56 = .ok (.getfield 32, 3) := by decide +kernel
theorem dX12_nextTo_59 : decode cX12_nextTo 59 = .ok (.iload_n 3, 1) := by decide +kernel
theorem dX12_nextTo_60 : decode cX12_nextTo 60 = .ok (.iaload, 1) := by decide +kernel
theorem dX12_nextTo_61 : decode cX12_nextTo 61 = .ok (.bipush (-2), 2) := by decide +kernel
theorem dX12_nextTo_63 : decode cX12_nextTo 63 = .ok (.iastore, 1) := by decide +kernel
theorem dX12_nextTo_64 : decode cX12_nextTo 64 = .ok (.iload_n 1, 1) := by decide +kernel
theorem dX12_nextTo_65 : decode cX12_nextTo 65 = .ok (.ireturn, 1) := by decide +kernel
theorem dX12_tests_0 : decode cX12_tests 0 = .ok (.aload_n 0, 1) := by decide +kernel
theorem dX12_tests_1 : decode cX12_tests 1 = .ok (.dup, 1) := by decide +kernel
theorem dX12_tests_2 : decode cX12_tests 2 = .ok (.getfield 350, 3) := by decide +kernel
theorem dX12_tests_5 : decode cX12_tests 5 = .ok (.iconst 2, 1) := by decide +kernel
theorem dX12_tests_6 : decode cX12_tests 6 = .ok (.isub, 1) := by decide +kernel
theorem dX12_tests_7 : decode cX12_tests 7 = .ok (.putfield 350, 3) := by decide +kernel
theorem dX12_tests_10 : decode cX12_tests 10 = .ok (.aload_n 0, 1) := by decide +kernel
theorem dX12_tests_11 : decode cX12_tests 11 = .ok (.getfield 29, 3) := by decide +kernel
theorem dX12_tests_14 : decode cX12_tests 14 = .ok (.iload_n 1, 1) := by decide +kernel
theorem dX12_tests_15 : decode cX12_tests 15 = .ok (.iaload, 1) := by decide +kernel
theorem dX12_tests_16 : decode cX12_tests 16 = .ok (.bipush 12, 2) := by decide +kernel
theorem dX12_tests_18 : decode cX12_tests 18 = .ok (.if_icmp .ne 41, 3) := by decide +kernel
theorem dX12_tests_21 : decode cX12_tests 21 = .ok (.aload_n 0, 1) := by decide +kernel
theorem dX12_tests_22 : decode cX12_tests 22 = .ok (.getfield 69, 3) := by decide +kernel
theorem dX12_tests_25 : decode cX12_tests 25 = .ok (.aload_n 0, 1) := by decide +kernel
theorem dX12_tests_26 : decode cX12_tests 26 = .ok (.getfield 350, 3) := by decide +kernel
theorem dX12_tests_29 : decode cX12_tests 29 = .ok (.laload, 1) := by decide +kernel
theorem dX12_tests_30 : decode cX12_tests 30 = .ok (.invokestatic 404, 3) := by decide +kernel
theorem dX12_tests_33 : decode cX12_tests 33 = .ok (.aload_n 0, 1) := by decide +kernel
theorem dX12_tests_34 : decode cX12_tests 34 = .ok (.getfield 69, 3) := by decide +kernel
theorem dX12_tests_37 : decode cX12_tests 37 = .ok (.aload_n 0, 1) := by decide +kernel
theorem dX12_tests_38 : decode cX12_tests 38 = .ok (.getfield 350, 3) := by decide +kernel
theorem dX12_tests_41 : decode cX12_tests 41 = .ok (.iconst 1, 1) := by decide +kernel
theorem dX12_tests_42 : decode cX12_tests 42 = .ok (.iadd, 1) := by decide +kernel
theorem dX12_tests_43 : decode cX12_tests 43 = .ok (.laload, 1) := by decide +kernel
theorem dX12_tests_44 : decode cX12_tests 44 = .ok (.invokestatic 404, 3) := by decide +kernel
theorem dX12_tests_47 : decode cX12_tests 47 = .ok (.lcmp, 1) := by decide +kernel
theorem dX12_tests_48 : decode cX12_tests 48 = .ok (.ifCond .ge 7, 3) := by decide +kernel
theorem dX12_tests_51 : decode cX12_tests 51 = .ok (.iconst 1, 1) := by decide +kernel
theorem dX12_tests_52 : decode cX12_tests 52 = .ok (.goto 36, 3) := by decide +kernel
theorem dX12_tests_55 : decode cX12_tests 55 = .ok (.iconst 0, 1) := by decide +kernel
theorem dX12_tests_56 : decode cX12_tests 56 = .ok (.goto 32, 3) := by decide +kernel
theorem dX12_tests_59 : decode cX12_tests 59 = .ok (.aload_n 0, 1) := by decide +kernel
theorem dX12_tests_60 : decode cX12_tests 60 = .ok (.getfield 69, 3) := by decide +kernel
theorem dX12_tests_63 : decode cX12_tests 63 = .ok (.aload_n 0, 1) := by decide +kernel
theorem dX12_tests_64 : decode cX12_tests 64 = .ok (.getfield 350, 3) := by decide +kernel
theorem dX12_tests_67 : decode cX12_tests 67 = .ok (.laload, 1) := by decide +kernel
theorem dX12_tests_68 : decode cX12_tests 68 = .ok (.aload_n 0, 1) := by decide +kernel
theorem dX12_tests_69 : decode cX12_tests 69 = .ok (.getfield 69, 3) := by decide +kernel
theorem dX12_tests_72 : decode cX12_tests 72 = .ok (.aload_n 0, 1) := by decide +kernel
theorem dX12_tests_73 : decode cX12_tests 73 = .ok (.getfield 350, 3) := by decide +kernel
theorem dX12_tests_76 : decode cX12_tests 76 = .ok (.iconst 1, 1) := by decide +kernel
theorem dX12_tests_77 : decode cX12_tests 77 = .ok (.iadd, 1) := by decide +kernel
theorem dX12_tests_78 : decode cX12_tests 78 = .ok (.laload, 1) := by decide +kernel
theorem dX12_tests_79 : decode cX12_tests 79 = .ok (.lcmp, 1) := by decide +kernel
theorem dX12_tests_80 : decode cX12_tests 80 = .ok (.ifCond .ne 7, 3) := by decide +kernel
theorem dX12_tests_83 : decode cX12_tests 83 = .ok (.iconst 1, 1) := by decide +kernel
theorem dX12_tests_84 : decode cX12_tests 84 = .ok (.goto 4, 3) := by decide +kernel
theorem dX12_tests_87 : decode cX12_tests 87 = .ok (.iconst 0, 1) := by decide +kernel
theorem dX12_tests_88 : decode cX12_tests 88 = .ok (.istore_n 2, 1) := by decide +kernel
theorem dX12_tests_89 : decode cX12_tests 89 = .ok (.aload_n 0, 1) := by decide +kernel
theorem dX12_tests_90 : decode cX12_tests 90 = .ok (.getfield 93, 3) := by decide +kernel
theorem dX12_tests_93 : decode cX12_tests 93 = .ok (.aload_n 0, 1) := by decide +kernel
theorem dX12_tests_94 : decode cX12_tests 94 = .ok (.getfield 359, 3) := by decide +kernel
theorem dX12_tests_97 : decode cX12_tests 97 = .ok (.iload_n 2, 1) := by decide +kernel
theorem dX12_tests_98 : decode cX12_tests 98 = .ok (.ifCond .eq 7, 3) := by decide +kernel
theorem dX12_tests_101 : decode cX12_tests 101 = .ok (.iconst 1, 1) := by decide +kernel
theorem dX12_tests_102 : decode cX12_tests 102 = .ok (.goto 4, 3) := by decide +kernel
theorem dX12_tests_105 : decode cX12_tests 105 = .ok (.iconst 0, 1) := by decide +kernel
theorem dX12_tests_106 : decode cX12_tests 106 = .ok (.iastore, 1) := by decide +kernel
theorem dX12_tests_107 : decode cX12_tests 107 = .ok (.aload_n 0, 1) := by decide +kernel
theorem dX12_tests_108 : decode cX12_tests 108 = .ok (.dup, 1) := by decide +kernel
theorem dX12_tests_109 : decode cX12_tests 109 = .ok (.getfield 359, 3) := by decide +kernel
theorem dX12_tests_112 : decode cX12_tests 112 = .ok (.iconst 1, 1) := by decide +kernel
theorem dX12_tests_113 : decode cX12_tests 113 = .ok (.iadd, 1) := by decide +kernel
theorem dX12_tests_114 : decode cX12_tests 114 = .ok (.putfield 359, 3) := by decide +kernel
theorem dX12_tests_117 : decode cX12_tests 117 = .ok (.aload_n 0, 1) := by decide +kernel
theorem dX12_tests_118 : decode cX12_tests 118 = .ok (.dup, 1) := by decide +kernel
theorem dX12_tests_119 : decode cX12_tests 119 = .ok (.getfield 362, 3) := by decide +kernel
theorem dX12_tests_122 : decode cX12_tests 122 = .ok (.iload_n 2, 1) := by decide +kernel
theorem dX12_tests_123 : decode cX12_tests 123 = .ok (.ifCond .eq 7, 3) := by decide +kernel
theorem dX12_tests_126 : decode cX12_tests 126 = .ok (.iconst 1, 1) := by decide +kernel
theorem dX12_tests_127 : decode cX12_tests 127 = .ok (.goto 4, 3) := by decide +kernel
theorem dX12_tests_130 : decode cX12_tests 130 = .ok (.iconst 0, 1) := by decide +kernel
theorem dX12_tests_131 : decode cX12_tests 131 = .ok (.iadd, 1) := by decide +kernel
theorem dX12_tests_132 : decode cX12_tests 132 = .ok (.putfield 362, 3) := by decide +kernel
theorem dX12_tests_135 : decode cX12_tests 135 = .ok (.iload_n 2, 1) := by decide +kernel
theorem dX12_tests_136 : decode cX12_tests 136 = .ok (.ireturn, 1) := by decide +kernel
theorem dX12_fetches_0 : decode cX12_fetches 0 = .ok (.aload_n 0, 1) := by decide +kernel
theorem dX12_fetches_1 : decode cX12_fetches 1 = .ok (.getfield 69, 3) := by decide +kernel
theorem dX12_fetches_4 : decode cX12_fetches 4 = .ok (.aload_n 0, 1) := by decide +kernel
theorem dX12_fetches_5 : decode cX12_fetches 5 = .ok (.getfield 350, 3) := by decide +kernel
theorem dX12_fetches_8 : decode cX12_fetches 8 = .ok (.iconst 1, 1) := by decide +kernel
theorem dX12_fetches_9 : decode cX12_fetches 9 = .ok (.isub, 1) := by decide +kernel
theorem dX12_fetches_10 : decode cX12_fetches 10 = .ok (.laload, 1) := by decide +kernel
theorem dX12_fetches_11 : decode cX12_fetches 11 = .ok (.lstore_n 3, 1) := by decide +kernel
theorem dX12_fetches_12 : decode cX12_fetches 12 = .ok (.lload_n 3, 1) := by decide +kernel
theorem dX12_fetches_13 : decode cX12_fetches 13 = .ok (.aload_n 0, 1) := by decide +kernel
theorem dX12_fetches_14 : decode cX12_fetches 14 = .ok (.getfield 26, 3) := by decide +kernel
theorem dX12_fetches_17 : decode cX12_fetches 17 = .ok (.iload_n 1, 1) := by decide +kernel
theorem dX12_fetches_18 : decode cX12_fetches 18 = .ok (.iaload, 1) := by decide +kernel
theorem dX12_fetches_19 : decode cX12_fetches 19 = .ok (.i2l, 1) := by decide +kernel
theorem dX12_fetches_20 : decode cX12_fetches 20 = .ok (.lcmp, 1) := by decide +kernel
theorem dX12_fetches_21 : decode cX12_fetches 21 = .ok (.ifCond .lt 10, 3) := by decide +kernel
theorem dX12_fetches_24 : decode cX12_fetches 24 = .ok (.aload_n 0, 1) := by decide +kernel
theorem dX12_fetches_25 : decode cX12_fetches 25 = .ok (.iconst 2, 1) := by decide +kernel
theorem dX12_fetches_26 : decode cX12_fetches 26 = .ok (.iload_n 2, 1) := by decide +kernel
theorem dX12_fetches_27 : decode cX12_fetches 27 = .ok (.invokevirtual 377, 3) := by decide +kernel
theorem dX12_fetches_30 : decode cX12_fetches 30 = .ok (.return_, 1) := by decide +kernel
theorem dX12_fetches_31 : decode cX12_fetches 31 = .ok (.aload_n 0, 1) := by decide +kernel
theorem dX12_fetches_32 : decode cX12_fetches 32 = .ok (.getfield 23, 3) := by decide +kernel
theorem dX12_fetches_35 : decode cX12_fetches 35 = .ok (.iload_n 1, 1) := by decide +kernel
theorem dX12_fetches_36 : decode cX12_fetches 36 = .ok (.iaload, 1) := by decide +kernel
theorem dX12_fetches_37 : decode cX12_fetches 37 = .ok (.lload_n 3, 1) := by decide +kernel
theorem dX12_fetches_38 : decode cX12_fetches 38 = .ok (.l2i, 1) := by decide +kernel
theorem dX12_fetches_39 : decode cX12_fetches 39 = .ok (.iadd, 1) := by decide +kernel
theorem dX12_fetches_40 : decode cX12_fetches 40 = .ok (.istore 5, 2) := by decide +kernel
theorem dX12_fetches_42 : decode cX12_fetches 42 = .ok (.aload_n 0, 1) := by decide +kernel
theorem dX12_fetches_43 : decode cX12_fetches 43 = .ok (.getfield 69, 3) := by decide +kernel
theorem dX12_fetches_46 : decode cX12_fetches 46 = .ok (.aload_n 0, 1) := by decide +kernel
theorem dX12_fetches_47 : decode cX12_fetches 47 = .ok (.getfield 350, 3) := by decide +kernel
theorem dX12_fetches_50 : decode cX12_fetches 50 = .ok (.iconst 1, 1) := by decide +kernel
theorem dX12_fetches_51 : decode cX12_fetches 51 = .ok (.isub, 1) := by decide +kernel
theorem dX12_fetches_52 : decode cX12_fetches 52 = .ok (.aload_n 0, 1) := by decide +kernel
theorem dX12_fetches_53 : decode cX12_fetches 53 = .ok (.getfield 81, 3) := by decide +kernel
theorem dX12_fetches_56 : decode cX12_fetches 56 = .ok (.iload 5, 2) := by decide +kernel
theorem dX12_fetches_58 : decode cX12_fetches 58 = .ok (.laload, 1) := by decide +kernel
theorem dX12_fetches_59 : decode cX12_fetches 59 = .ok (.lastore, 1) := by decide +kernel
theorem dX12_fetches_60 : decode cX12_fetches 60 = .ok (.aload_n 0, 1) := by decide +kernel
theorem dX12_fetches_61 : decode cX12_fetches 61 = .ok (.getfield 72, 3) := by decide +kernel
theorem dX12_fetches_64 : decode cX12_fetches 64 = .ok (.aload_n 0, 1) := by decide +kernel
theorem dX12_fetches_65 : decode cX12_fetches 65 = .ok (.getfield 350, 3) := by decide +kernel
theorem dX12_fetches_68 : decode cX12_fetches 68 = .ok (.iconst 1, 1) := by decide +kernel
theorem dX12_fetches_69 : decode cX12_fetches 69 = .ok (.isub, 1) := by decide +kernel
theorem dX12_fetches_70 : decode cX12_fetches 70 = .ok (.aload_n 0, 1) := by decide +kernel
theorem dX12_fetches_71 : decode cX12_fetches 71 = .ok (.getfield 84, 3) := by decide +kernel
theorem dX12_fetches_74 : decode cX12_fetches 74 = .ok (.iload 5, 2) := by decide +kernel
theorem dX12_fetches_76 : decode cX12_fetches 76 = .ok (.iaload, 1) := by decide +kernel
theorem dX12_fetches_77 : decode cX12_fetches 77 = .ok (.iastore, 1) := by decide +kernel
theorem dX12_fetches_78 : decode cX12_fetches 78 = .ok (.return_, 1) := by decide +kernel
theorem dX12_puts_0 : decode cX12_puts 0 = .ok (.aload_n 0, 1) := by decide +kernel
theorem dX12_puts_1 : decode cX12_puts 1 = .ok (.getfield 69, 3) := by decide +kernel
theorem dX12_puts_4 : decode cX12_puts 4 = .ok (.aload_n 0, 1) := by decide +kernel
theorem dX12_puts_5 : decode cX12_puts 5 = .ok (.getfield 350, 3) := by decide +kernel
theorem dX12_puts_8 : decode cX12_puts 8 = .ok (.iconst 2, 1) := by decide +kernel
theorem dX12_puts_9 : decode cX12_puts 9 = .ok (.isub, 1) := by decide +kernel
theorem dX12_puts_10 : decode cX12_puts 10 = .ok (.laload, 1) := by decide +kernel
theorem dX12_puts_11 : decode cX12_puts 11 = .ok (.lstore_n 3, 1) := by decide +kernel
theorem dX12_puts_12 : decode cX12_puts 12 = .ok (.lload_n 3, 1) := by decide +kernel
theorem dX12_puts_13 : decode cX12_puts 13 = .ok (.aload_n 0, 1) := by decide +kernel
theorem dX12_puts_14 : decode cX12_puts 14 = .ok (.getfield 26, 3) := by decide +kernel
theorem dX12_puts_17 : decode cX12_puts 17 = .ok (.iload_n 1, 1) := by decide +kernel
theorem dX12_puts_18 : decode cX12_puts 18 = .ok (.iaload, 1) := by decide +kernel
theorem dX12_puts_19 : decode cX12_puts 19 = .ok (.i2l, 1) := by decide +kernel
theorem dX12_puts_20 : decode cX12_puts 20 = .ok (.lcmp, 1) := by decide +kernel
theorem dX12_puts_21 : decode cX12_puts 21 = .ok (.ifCond .lt 10, 3) := by decide +kernel
theorem dX12_puts_24 : decode cX12_puts 24 = .ok (.aload_n 0, 1) := by decide +kernel
theorem dX12_puts_25 : decode cX12_puts 25 = .ok (.iconst 2, 1) := by decide +kernel
theorem dX12_puts_26 : decode cX12_puts 26 = .ok (.iload_n 2, 1) := by decide +kernel
theorem dX12_puts_27 : decode cX12_puts 27 = .ok (.invokevirtual 377, 3) := by decide +kernel
theorem dX12_puts_30 : decode cX12_puts 30 = .ok (.return_, 1) := by decide +kernel
theorem dX12_puts_31 : decode cX12_puts 31 = .ok (.aload_n 0, 1) := by decide +kernel
theorem dX12_puts_32 : decode cX12_puts 32 = .ok (.getfield 23, 3) := by decide +kernel
theorem dX12_puts_35 : decode cX12_puts 35 = .ok (.iload_n 1, 1) := by decide +kernel
theorem dX12_puts_36 : decode cX12_puts 36 = .ok (.iaload, 1) := by decide +kernel
theorem dX12_puts_37 : decode cX12_puts 37 = .ok (.lload_n 3, 1) := by decide +kernel
theorem dX12_puts_38 : decode cX12_puts 38 = .ok (.l2i, 1) := by decide +kernel
theorem dX12_puts_39 : decode cX12_puts 39 = .ok (.iadd, 1) := by decide +kernel
theorem dX12_puts_40 : decode cX12_puts 40 = .ok (.istore 5, 2) := by decide +kernel
theorem dX12_puts_42 : decode cX12_puts 42 = .ok (.aload_n 0, 1) := by decide +kernel
theorem dX12_puts_43 : decode cX12_puts 43 = .ok (.getfield 81, 3) := by decide +kernel
theorem dX12_puts_46 : decode cX12_puts 46 = .ok (.iload 5, 2) := by decide +kernel
theorem dX12_puts_48 : decode cX12_puts 48 = .ok (.aload_n 0, 1) := by decide +kernel
theorem dX12_puts_49 : decode cX12_puts 49 = .ok (.getfield 69, 3) := by decide +kernel
theorem dX12_puts_52 : decode cX12_puts 52 = .ok (.aload_n 0, 1) := by decide +kernel
theorem dX12_puts_53 : decode cX12_puts 53 = .ok (.getfield 350, 3) := by decide +kernel
theorem dX12_puts_56 : decode cX12_puts 56 = .ok (.iconst 1, 1) := by decide +kernel
theorem dX12_puts_57 : decode cX12_puts 57 = .ok (.isub, 1) := by decide +kernel
theorem dX12_puts_58 : decode cX12_puts 58 = .ok (.laload, 1) := by decide +kernel
theorem dX12_puts_59 : decode cX12_puts 59 = .ok (.lastore, 1) := by decide +kernel
theorem dX12_puts_60 : decode cX12_puts 60 = .ok (.aload_n 0, 1) := by decide +kernel
theorem dX12_puts_61 : decode cX12_puts 61 = .ok (.getfield 84, 3) := by decide +kernel
theorem dX12_puts_64 : decode cX12_puts 64 = .ok (.iload 5, 2) := by decide +kernel
theorem dX12_puts_66 : decode cX12_puts 66 = .ok (.aload_n 0, 1) := by decide +kernel
theorem dX12_puts_67 : decode cX12_puts 67 = .ok (.getfield 72, 3) := by decide +kernel
theorem dX12_puts_70 : decode cX12_puts 70 = .ok (.aload_n 0, 1) := by decide +kernel
theorem dX12_puts_71 : decode cX12_puts 71 = .ok (.getfield 350, 3) := by decide +kernel
theorem dX12_puts_74 : decode cX12_puts 74 = .ok (.iconst 1, 1) := by decide +kernel
theorem dX12_puts_75 : decode cX12_puts 75 = .ok (.isub, 1) := by decide +kernel
theorem dX12_puts_76 : decode cX12_puts 76 = .ok (.iaload, 1) := by decide +kernel
theorem dX12_puts_77 : decode cX12_puts 77 = .ok (.iastore, 1) := by decide +kernel
theorem dX12_puts_78 : decode cX12_puts 78 = .ok (.aload_n 0, 1) := by decide +kernel
theorem dX12_puts_79 : decode cX12_puts 79 = .ok (.dup, 1) := by decide +kernel
theorem dX12_puts_80 : decode cX12_puts 80 = .ok (.getfield 350, 3) := by decide +kernel
theorem dX12_puts_83 : decode cX12_puts 83 = .ok (.iconst 2, 1) := by decide +kernel
theorem dX12_puts_84 : decode cX12_puts 84 = .ok (.isub, 1) := by decide +kernel
theorem dX12_puts_85 : decode cX12_puts 85 = .ok (.putfield 350, 3) := by decide +kernel
theorem dX12_puts_88 : decode cX12_puts 88 = .ok (.return_, 1) := by decide +kernel
theorem dX12_tellsOut_0 : decode cX12_tellsOut 0 = .ok (.aload_n 0, 1) := by decide +kernel
theorem dX12_tellsOut_1 : decode cX12_tellsOut 1 = .ok (.getfield 356, 3) := by decide +kernel
theorem dX12_tellsOut_4 : decode cX12_tellsOut 4 = .ok (.bipush 20, 2) := by decide +kernel
theorem dX12_tellsOut_6 : decode cX12_tellsOut 6 = .ok (.if_icmp .ne 10, 3) := by decide +kernel
theorem dX12_tellsOut_9 : decode cX12_tellsOut 9 = .ok (.aload_n 0, 1) := by decide +kernel
theorem dX12_tellsOut_10 : decode cX12_tellsOut 10 = .ok (.iconst 5, 1) := by decide +kernel
theorem dX12_tellsOut_11 : decode cX12_tellsOut 11 = .ok (.iload_n 1, 1) := by decide +kernel
theorem dX12_tellsOut_12 : decode cX12_tellsOut 12 = .ok (.invokevirtual 377, 3) := by decide +kernel
theorem dX12_tellsOut_15 : decode cX12_tellsOut 15 = .ok (.return_, 1) := by decide +kernel
theorem dX12_tellsOut_16 : decode cX12_tellsOut 16 = .ok (.aload_n 0, 1) := by decide +kernel
theorem dX12_tellsOut_17 : decode cX12_tellsOut 17 = .ok (.dup, 1) := by decide +kernel
theorem dX12_tellsOut_18 : decode cX12_tellsOut 18 = .ok (.getfield 350, 3) := by decide +kernel
theorem dX12_tellsOut_21 : decode cX12_tellsOut 21 = .ok (.iconst 1, 1) := by decide +kernel
theorem dX12_tellsOut_22 : decode cX12_tellsOut 22 = .ok (.isub, 1) := by decide +kernel
theorem dX12_tellsOut_23 : decode cX12_tellsOut 23 = .ok (.putfield 350, 3) := by decide +kernel
theorem dX12_tellsOut_26 : decode cX12_tellsOut 26 = .ok (.aload_n 0, 1) := by decide +kernel
theorem dX12_tellsOut_27 : decode cX12_tellsOut 27 = .ok (.getfield 87, 3) := by decide +kernel
theorem dX12_tellsOut_30 : decode cX12_tellsOut 30 = .ok (.aload_n 0, 1) := by decide +kernel
theorem dX12_tellsOut_31 : decode cX12_tellsOut 31 = .ok (.getfield 356, 3) := by decide +kernel
theorem dX12_tellsOut_34 : decode cX12_tellsOut 34 = .ok (.aload_n 0, 1) := by decide +kernel
theorem dX12_tellsOut_35 : decode cX12_tellsOut 35 = .ok (.getfield 69, 3) := by decide +kernel
theorem dX12_tellsOut_38 : decode cX12_tellsOut 38 = .ok (.aload_n 0, 1) := by decide +kernel
theorem dX12_tellsOut_39 : decode cX12_tellsOut 39 = .ok (.getfield 350, 3) := by decide +kernel
theorem dX12_tellsOut_42 : decode cX12_tellsOut 42 = .ok (.laload, 1) := by decide +kernel
theorem dX12_tellsOut_43 : decode cX12_tellsOut 43 = .ok (.lastore, 1) := by decide +kernel
theorem dX12_tellsOut_44 : decode cX12_tellsOut 44 = .ok (.aload_n 0, 1) := by decide +kernel
theorem dX12_tellsOut_45 : decode cX12_tellsOut 45 = .ok (.getfield 90, 3) := by decide +kernel
theorem dX12_tellsOut_48 : decode cX12_tellsOut 48 = .ok (.aload_n 0, 1) := by decide +kernel
theorem dX12_tellsOut_49 : decode cX12_tellsOut 49 = .ok (.getfield 356, 3) := by decide +kernel
theorem dX12_tellsOut_52 : decode cX12_tellsOut 52 = .ok (.aload_n 0, 1) := by decide +kernel
theorem dX12_tellsOut_53 : decode cX12_tellsOut 53 = .ok (.getfield 72, 3) := by decide +kernel
theorem dX12_tellsOut_56 : decode cX12_tellsOut 56 = .ok (.aload_n 0, 1) := by decide +kernel
theorem dX12_tellsOut_57 : decode cX12_tellsOut 57 = .ok (.getfield 350, 3) := by decide +kernel
theorem dX12_tellsOut_60 : decode cX12_tellsOut 60 = .ok (.iaload, 1) := by decide +kernel
theorem dX12_tellsOut_61 : decode cX12_tellsOut 61 = .ok (.iastore, 1) := by decide +kernel
theorem dX12_tellsOut_62 : decode cX12_tellsOut 62 = .ok (.aload_n 0, 1) := by decide +kernel
theorem dX12_tellsOut_63 : decode cX12_tellsOut 63 = .ok (.dup, 1) := by decide +kernel
theorem dX12_tellsOut_64 : decode cX12_tellsOut 64 = .ok (.getfield 356, 3) := by decide +kernel
theorem dX12_tellsOut_67 : decode cX12_tellsOut 67 = .ok (.iconst 1, 1) := by decide +kernel
theorem dX12_tellsOut_68 : decode cX12_tellsOut 68 = .ok (.iadd, 1) := by decide +kernel
theorem dX12_tellsOut_69 : decode cX12_tellsOut 69 = .ok (.putfield 356, 3) := by decide +kernel
theorem dX12_tellsOut_72 : decode cX12_tellsOut 72 = .ok (.return_, 1) := by decide +kernel
theorem dX12_enters_0 : decode cX12_enters 0 = .ok (.aload_n 0, 1) := by decide +kernel
theorem dX12_enters_1 : decode cX12_enters 1 = .ok (.getfield 69, 3) := by decide +kernel
theorem dX12_enters_4 : decode cX12_enters 4 = .ok (.aload_n 0, 1) := by decide +kernel
theorem dX12_enters_5 : decode cX12_enters 5 = .ok (.getfield 350, 3) := by decide +kernel
theorem dX12_enters_8 : decode cX12_enters 8 = .ok (.iconst 2, 1) := by decide +kernel
theorem dX12_enters_9 : decode cX12_enters 9 = .ok (.isub, 1) := by decide +kernel
theorem dX12_enters_10 : decode cX12_enters 10 = .ok (.laload, 1) := by decide +kernel
theorem dX12_enters_11 : decode cX12_enters 11 = .ok (.lstore_n 2, 1) := by decide +kernel
theorem dX12_enters_12 : decode cX12_enters 12 = .ok (.aload_n 0, 1) := by decide +kernel
theorem dX12_enters_13 : decode cX12_enters 13 = .ok (.getfield 69, 3) := by decide +kernel
theorem dX12_enters_16 : decode cX12_enters 16 = .ok (.aload_n 0, 1) := by decide +kernel
theorem dX12_enters_17 : decode cX12_enters 17 = .ok (.getfield 350, 3) := by decide +kernel
theorem dX12_enters_20 : decode cX12_enters 20 = .ok (.iconst 1, 1) := by decide +kernel
theorem dX12_enters_21 : decode cX12_enters 21 = .ok (.isub, 1) := by decide +kernel
theorem dX12_enters_22 : decode cX12_enters 22 = .ok (.laload, 1) := by decide +kernel
theorem dX12_enters_23 : decode cX12_enters 23 = .ok (.lstore 4, 2) := by decide +kernel
theorem dX12_enters_25 : decode cX12_enters 25 = .ok (.aload_n 0, 1) := by decide +kernel
theorem dX12_enters_26 : decode cX12_enters 26 = .ok (.getfield 29, 3) := by decide +kernel
theorem dX12_enters_29 : decode cX12_enters 29 = .ok (.iload_n 1, 1) := by decide +kernel
theorem dX12_enters_30 : decode cX12_enters 30 = .ok (.iaload, 1) := by decide +kernel
theorem dX12_enters_31 : decode cX12_enters 31 = .ok (.bipush 6, 2) := by decide +kernel
theorem dX12_enters_33 : decode cX12_enters 33 = .ok (.if_icmp .ne 17, 3) := by decide +kernel
theorem dX12_enters_36 : decode cX12_enters 36 = .ok (.lload 4, 2) := by decide +kernel
theorem dX12_enters_38 : decode cX12_enters 38 = .ok (.lconst 0, 1) := by decide +kernel
theorem dX12_enters_39 : decode cX12_enters 39 = .ok (.lcmp, 1) := by decide +kernel
theorem dX12_enters_40 : decode cX12_enters 40 = .ok (.ifCond .ne 10, 3) := by decide +kernel
theorem dX12_enters_43 : decode cX12_enters 43 = .ok (.aload_n 0, 1) := by decide +kernel
theorem dX12_enters_44 : decode cX12_enters 44 = .ok (.iconst 1, 1) := by decide +kernel
theorem dX12_enters_45 : decode cX12_enters 45 = .ok (.iload_n 1, 1) := by decide +kernel
theorem dX12_enters_46 : decode cX12_enters 46 = .ok (.invokevirtual 377, 3) := by decide +kernel
theorem dX12_enters_49 : decode cX12_enters 49 = .ok (.return_, 1) := by decide +kernel
theorem dX12_enters_50 : decode cX12_enters 50 = .ok (.aload_n 0, 1) := by decide +kernel
theorem dX12_enters_51 : decode cX12_enters 51 = .ok (.getfield 353, 3) := by decide +kernel
theorem dX12_enters_54 : decode cX12_enters 54 = .ok (.sipush 400, 3) := by decide +kernel
theorem dX12_enters_57 : decode cX12_enters 57 = .ok (.if_icmp .ne 10, 3) := by decide +kernel
theorem dX12_enters_60 : decode cX12_enters 60 = .ok (.aload_n 0, 1) := by decide +kernel
theorem dX12_enters_61 : decode cX12_enters 61 = .ok (.iconst 4, 1) := by decide +kernel
theorem dX12_enters_62 : decode cX12_enters 62 = .ok (.iload_n 1, 1) := by decide +kernel
theorem dX12_enters_63 : decode cX12_enters 63 = .ok (.invokevirtual 377, 3) := by decide +kernel
theorem dX12_enters_66 : decode cX12_enters 66 = .ok (.return_, 1) := by decide +kernel
theorem dX12_enters_67 : decode cX12_enters 67 = .ok (.aload_n 0, 1) := by decide +kernel
theorem dX12_enters_68 : decode cX12_enters 68 = .ok (.getfield 353, 3) := by decide +kernel
theorem dX12_enters_71 : decode cX12_enters 71 = .ok (.istore 6, 2) := by decide +kernel
theorem dX12_enters_73 : decode cX12_enters 73 = .ok (.aload_n 0, 1) := by decide +kernel
theorem dX12_enters_74 : decode cX12_enters 74 = .ok (.getfield 48, 3) := by decide +kernel
theorem dX12_enters_77 : decode cX12_enters 77 = .ok (.iload 6, 2) := by decide +kernel
theorem dX12_enters_79 : decode cX12_enters 79 = .ok (.aload_n 0, 1) := by decide +kernel
theorem dX12_enters_80 : decode cX12_enters 80 = .ok (.getfield 29, 3) := by decide +kernel
theorem dX12_enters_83 : decode cX12_enters 83 = .ok (.iload_n 1, 1) := by decide +kernel
theorem dX12_enters_84 : decode cX12_enters 84 = .ok (.iaload, 1) := by decide +kernel
theorem dX12_enters_85 : decode cX12_enters 85 = .ok (.iastore, 1) := by decide +kernel
theorem dX12_enters_86 : decode cX12_enters 86 = .ok (.aload_n 0, 1) := by decide +kernel
theorem dX12_enters_87 : decode cX12_enters 87 = .ok (.getfield 54, 3) := by decide +kernel
theorem dX12_enters_90 : decode cX12_enters 90 = .ok (.iload 6, 2) := by decide +kernel
theorem dX12_enters_92 : decode cX12_enters 92 = .ok (.lload_n 2, 1) := by decide +kernel
theorem dX12_enters_93 : decode cX12_enters 93 = .ok (.lastore, 1) := by decide +kernel
theorem dX12_enters_94 : decode cX12_enters 94 = .ok (.aload_n 0, 1) := by decide +kernel
theorem dX12_enters_95 : decode cX12_enters 95 = .ok (.getfield 57, 3) := by decide +kernel
theorem dX12_enters_98 : decode cX12_enters 98 = .ok (.iload 6, 2) := by decide +kernel
theorem dX12_enters_100 : decode cX12_enters 100 = .ok (.lload 4, 2) := by decide +kernel
theorem dX12_enters_102 : decode cX12_enters 102 = .ok (.lastore, 1) := by decide +kernel
theorem dX12_enters_103 : decode cX12_enters 103 = .ok (.aload_n 0, 1) := by decide +kernel
theorem dX12_enters_104 : decode cX12_enters 104 = .ok (.getfield 60, 3) := by decide +kernel
theorem dX12_enters_107 : decode cX12_enters 107 = .ok (.iload 6, 2) := by decide +kernel
theorem dX12_enters_109 : decode cX12_enters 109 = .ok (.aload_n 0, 1) := by decide +kernel
theorem dX12_enters_110 : decode cX12_enters 110 = .ok (.getfield 72, 3) := by decide +kernel
theorem dX12_enters_113 : decode cX12_enters 113 = .ok (.aload_n 0, 1) := by decide +kernel
theorem dX12_enters_114 : decode cX12_enters 114 = .ok (.getfield 350, 3) := by decide +kernel
theorem dX12_enters_117 : decode cX12_enters 117 = .ok (.iconst 2, 1) := by decide +kernel
theorem dX12_enters_118 : decode cX12_enters 118 = .ok (.isub, 1) := by decide +kernel
theorem dX12_enters_119 : decode cX12_enters 119 = .ok (.iaload, 1) := by decide +kernel
theorem dX12_enters_120 : decode cX12_enters 120 = .ok (.iastore, 1) := by decide +kernel
theorem dX12_enters_121 : decode cX12_enters 121 = .ok (.aload_n 0, 1) := by decide +kernel
theorem dX12_enters_122 : decode cX12_enters 122 = .ok (.getfield 63, 3) := by decide +kernel
theorem dX12_enters_125 : decode cX12_enters 125 = .ok (.iload 6, 2) := by decide +kernel
theorem dX12_enters_127 : decode cX12_enters 127 = .ok (.aload_n 0, 1) := by decide +kernel
theorem dX12_enters_128 : decode cX12_enters 128 = .ok (.getfield 72, 3) := by decide +kernel
theorem dX12_enters_131 : decode cX12_enters 131 = .ok (.aload_n 0, 1) := by decide +kernel
theorem dX12_enters_132 : decode cX12_enters 132 = .ok (.getfield 350, 3) := by decide +kernel
theorem dX12_enters_135 : decode cX12_enters 135 = .ok (.iconst 1, 1) := by decide +kernel
theorem dX12_enters_136 : decode cX12_enters 136 = .ok (.isub, 1) := by decide +kernel
theorem dX12_enters_137 : decode cX12_enters 137 = .ok (.iaload, 1) := by decide +kernel
theorem dX12_enters_138 : decode cX12_enters 138 = .ok (.iastore, 1) := by decide +kernel
theorem dX12_enters_139 : decode cX12_enters 139 = .ok (.aload_n 0, 1) := by decide +kernel
theorem dX12_enters_140 : decode cX12_enters 140 = .ok (.getfield 66, 3) := by decide +kernel
theorem dX12_enters_143 : decode cX12_enters 143 = .ok (.iload 6, 2) := by decide +kernel
theorem dX12_enters_145 : decode cX12_enters 145 = .ok (.iload_n 1, 1) := by decide +kernel
theorem dX12_enters_146 : decode cX12_enters 146 = .ok (.iastore, 1) := by decide +kernel
theorem dX12_enters_147 : decode cX12_enters 147 = .ok (.aload_n 0, 1) := by decide +kernel
theorem dX12_enters_148 : decode cX12_enters 148 = .ok (.getfield 51, 3) := by decide +kernel
theorem dX12_enters_151 : decode cX12_enters 151 = .ok (.iload 6, 2) := by decide +kernel
theorem dX12_enters_153 : decode cX12_enters 153 = .ok (.aload_n 0, 1) := by decide +kernel
theorem dX12_enters_154 : decode cX12_enters 154 = .ok (.getfield 29, 3) := by decide +kernel
theorem dX12_enters_157 : decode cX12_enters 157 = .ok (.iload_n 1, 1) := by decide +kernel
theorem dX12_enters_158 : decode cX12_enters 158 = .ok (.iaload, 1) := by decide +kernel
theorem dX12_enters_159 : decode cX12_enters 159 = .ok (.iconst 3, 1) := by decide +kernel
theorem dX12_enters_160 : decode cX12_enters 160 = .ok (.if_icmp .ne 14, 3) := by decide +kernel
theorem dX12_enters_163 : decode cX12_enters 163 = .ok (.lload_n 2, 1) := by decide +kernel
theorem dX12_enters_164 : decode cX12_enters 164 = .ok (.lload 4, 2) := by decide +kernel
theorem dX12_enters_166 : decode cX12_enters 166 = .ok (.ladd, 1) := by decide +kernel
theorem dX12_enters_167 : decode cX12_enters 167 = .ok (.ldc2_w 338, 3) := by decide +kernel
theorem dX12_enters_170 : decode cX12_enters 170 = .ok (.lrem, 1) := by decide +kernel
theorem dX12_enters_171 : decode cX12_enters 171 = .ok (.goto 50, 3) := by decide +kernel
theorem dX12_enters_174 : decode cX12_enters 174 = .ok (.aload_n 0, 1) := by decide +kernel
theorem dX12_enters_175 : decode cX12_enters 175 = .ok (.getfield 29, 3) := by decide +kernel
theorem dX12_enters_178 : decode cX12_enters 178 = .ok (.iload_n 1, 1) := by decide +kernel
theorem dX12_enters_179 : decode cX12_enters 179 = .ok (.iaload, 1) := by decide +kernel
theorem dX12_enters_180 : decode cX12_enters 180 = .ok (.iconst 4, 1) := by decide +kernel
theorem dX12_enters_181 : decode cX12_enters 181 = .ok (.if_icmp .ne 13, 3) := by decide +kernel
theorem dX12_enters_184 : decode cX12_enters 184 = .ok (.lload_n 2, 1) := by decide +kernel
theorem dX12_enters_185 : decode cX12_enters 185 = .ok (.lload 4, 2) := by decide +kernel
theorem dX12_enters_187 : decode cX12_enters 187 = .ok (.lsub, 1) := by decide +kernel
theorem dX12_enters_188 : decode cX12_enters 188 = .ok (.invokestatic 408, 3) := by decide +kernel
theorem dX12_enters_191 : decode cX12_enters 191 = .ok (.goto 30, 3) := by decide +kernel
theorem dX12_enters_194 : decode cX12_enters 194 = .ok (.aload_n 0, 1) := by decide +kernel
theorem dX12_enters_195 : decode cX12_enters 195 = .ok (.getfield 29, 3) := by decide +kernel
theorem dX12_enters_198 : decode cX12_enters 198 = .ok (.iload_n 1, 1) := by decide +kernel
theorem dX12_enters_199 : decode cX12_enters 199 = .ok (.iaload, 1) := by decide +kernel
theorem dX12_enters_200 : decode cX12_enters 200 = .ok (.iconst 5, 1) := by decide +kernel
theorem dX12_enters_201 : decode cX12_enters 201 = .ok (.if_icmp .ne 14, 3) := by decide +kernel
theorem dX12_enters_204 : decode cX12_enters 204 = .ok (.lload_n 2, 1) := by decide +kernel
theorem dX12_enters_205 : decode cX12_enters 205 = .ok (.lload 4, 2) := by decide +kernel
theorem dX12_enters_207 : decode cX12_enters 207 = .ok (.lmul, 1) := by decide +kernel
theorem dX12_enters_208 : decode cX12_enters 208 = .ok (.ldc2_w 338, 3) := by decide +kernel
theorem dX12_enters_211 : decode cX12_enters 211 = .ok (.lrem, 1) := by decide +kernel
theorem dX12_enters_212 : decode cX12_enters 212 = .ok (.goto 9, 3) := by decide +kernel
theorem dX12_enters_215 : decode cX12_enters 215 = .ok (.lload_n 2, 1) := by decide +kernel
theorem dX12_enters_216 : decode cX12_enters 216 = .ok (.lload 4, 2) := by decide +kernel
theorem dX12_enters_218 : decode cX12_enters 218 = .ok (.invokestatic 411, 3) := by decide +kernel
theorem dX12_enters_221 : decode cX12_enters 221 = .ok (.lastore, 1) := by decide +kernel
theorem dX12_enters_222 : decode cX12_enters 222 = .ok (.aload_n 0, 1) := by decide +kernel
theorem dX12_enters_223 : decode cX12_enters 223 = .ok (.dup, 1) := by decide +kernel
theorem dX12_enters_224 : decode cX12_enters 224 = .ok (.getfield 353, 3) := by decide +kernel
theorem dX12_enters_227 : decode cX12_enters 227 = .ok (.iconst 1, 1) := by decide +kernel
theorem dX12_enters_228 : decode cX12_enters 228 = .ok (.iadd, 1) := by decide +kernel
theorem dX12_enters_229 : decode cX12_enters 229 = .ok (.putfield 353, 3) := by decide +kernel
theorem dX12_enters_232 : decode cX12_enters 232 = .ok (.aload_n 0, 1) := by decide +kernel
theorem dX12_enters_233 : decode cX12_enters 233 = .ok (.dup, 1) := by decide +kernel
theorem dX12_enters_234 : decode cX12_enters 234 = .ok (.getfield 350, 3) := by decide +kernel
theorem dX12_enters_237 : decode cX12_enters 237 = .ok (.iconst 2, 1) := by decide +kernel
theorem dX12_enters_238 : decode cX12_enters 238 = .ok (.isub, 1) := by decide +kernel
theorem dX12_enters_239 : decode cX12_enters 239 = .ok (.putfield 350, 3) := by decide +kernel
theorem dX12_enters_242 : decode cX12_enters 242 = .ok (.aload_n 0, 1) := by decide +kernel
theorem dX12_enters_243 : decode cX12_enters 243 = .ok (.aload_n 0, 1) := by decide +kernel
theorem dX12_enters_244 : decode cX12_enters 244 = .ok (.getfield 51, 3) := by decide +kernel
theorem dX12_enters_247 : decode cX12_enters 247 = .ok (.iload 6, 2) := by decide +kernel
theorem dX12_enters_249 : decode cX12_enters 249 = .ok (.laload, 1) := by decide +kernel
theorem dX12_enters_250 : decode cX12_enters 250 = .ok (.iload 6, 2) := by decide +kernel
theorem dX12_enters_252 : decode cX12_enters 252 = .ok (.invokevirtual 383, 3) := by decide +kernel
theorem dX12_enters_255 : decode cX12_enters 255 = .ok (.return_, 1) := by decide +kernel
theorem dX12_set_0 : decode cX12_set 0 = .ok (.aload_n 0, 1) := by decide +kernel
theorem dX12_set_1 : decode cX12_set 1 = .ok (.iconst 0, 1) := by decide +kernel
theorem dX12_set_2 : decode cX12_set 2 = .ok (.putfield 142, 3) := by decide +kernel
theorem dX12_set_5 : decode cX12_set 5 = .ok (.iload_n 1, 1) := by decide +kernel
theorem dX12_set_6 : decode cX12_set 6 = .ok (.ifCond .lt 37, 3) := by decide +kernel
theorem dX12_set_9 : decode cX12_set 9 = .ok (.iload_n 1, 1) := by decide +kernel
theorem dX12_set_10 : decode cX12_set 10 = .ok (.aload_n 0, 1) := by decide +kernel
theorem dX12_set_11 : decode cX12_set 11 = .ok (.getfield 314, 3) := by decide +kernel
theorem dX12_set_14 : decode cX12_set 14 = .ok (.if_icmp .ge 29, 3) := by decide +kernel
theorem dX12_set_17 : decode cX12_set 17 = .ok (.iload_n 2, 1) := by decide +kernel
theorem dX12_set_18 : decode cX12_set 18 = .ok (.ldc_w 414, 3) := by decide +kernel
theorem dX12_set_21 : decode cX12_set 21 = .ok (.if_icmp .lt 22, 3) := by decide +kernel
theorem dX12_set_24 : decode cX12_set 24 = .ok (.iload_n 2, 1) := by decide +kernel
theorem dX12_set_25 : decode cX12_set 25 = .ok (.ldc_w 415, 3) := by decide +kernel
theorem dX12_set_28 : decode cX12_set 28 = .ok (.if_icmp .gt 15, 3) := by decide +kernel
theorem dX12_set_31 : decode cX12_set 31 = .ok (.iload_n 3, 1) := by decide +kernel
theorem dX12_set_32 : decode cX12_set 32 = .ok (.iconst 1, 1) := by decide +kernel
theorem dX12_set_33 : decode cX12_set 33 = .ok (.if_icmp .lt 10, 3) := by decide +kernel
theorem dX12_set_36 : decode cX12_set 36 = .ok (.iload_n 3, 1) := by decide +kernel
theorem dX12_set_37 : decode cX12_set 37 = .ok (.ldc_w 415, 3) := by decide +kernel
theorem dX12_set_40 : decode cX12_set 40 = .ok (.if_icmp .le 5, 3) := by decide +kernel
theorem dX12_set_43 : decode cX12_set 43 = .ok (.iconst (-1), 1) := by decide +kernel
theorem dX12_set_44 : decode cX12_set 44 = .ok (.ireturn, 1) := by decide +kernel
theorem dX12_set_45 : decode cX12_set 45 = .ok (.aload_n 0, 1) := by decide +kernel
theorem dX12_set_46 : decode cX12_set 46 = .ok (.getfield 44, 3) := by decide +kernel
theorem dX12_set_49 : decode cX12_set 49 = .ok (.iload_n 1, 1) := by decide +kernel
theorem dX12_set_50 : decode cX12_set 50 = .ok (.laload, 1) := by decide +kernel
theorem dX12_set_51 : decode cX12_set 51 = .ok (.l2i, 1) := by decide +kernel
theorem dX12_set_52 : decode cX12_set 52 = .ok (.istore 4, 2) := by decide +kernel
theorem dX12_set_54 : decode cX12_set 54 = .ok (.aload_n 0, 1) := by decide +kernel
theorem dX12_set_55 : decode cX12_set 55 = .ok (.getfield 44, 3) := by decide +kernel
theorem dX12_set_58 : decode cX12_set 58 = .ok (.iload_n 1, 1) := by decide +kernel
theorem dX12_set_59 : decode cX12_set 59 = .ok (.iload_n 2, 1) := by decide +kernel
theorem dX12_set_60 : decode cX12_set 60 = .ok (.i2l, 1) := by decide +kernel
theorem dX12_set_61 : decode cX12_set 61 = .ok (.invokestatic 408, 3) := by decide +kernel
theorem dX12_set_64 : decode cX12_set 64 = .ok (.iload_n 3, 1) := by decide +kernel
theorem dX12_set_65 : decode cX12_set 65 = .ok (.i2l, 1) := by decide +kernel
theorem dX12_set_66 : decode cX12_set 66 = .ok (.invokestatic 411, 3) := by decide +kernel
theorem dX12_set_69 : decode cX12_set 69 = .ok (.lastore, 1) := by decide +kernel
theorem dX12_set_70 : decode cX12_set 70 = .ok (.aload_n 0, 1) := by decide +kernel
theorem dX12_set_71 : decode cX12_set 71 = .ok (.invokevirtual 329, 3) := by decide +kernel
theorem dX12_set_74 : decode cX12_set 74 = .ok (.iload 4, 2) := by decide +kernel
theorem dX12_set_76 : decode cX12_set 76 = .ok (.ireturn, 1) := by decide +kernel
theorem dX12_code_0 : decode cX12_code 0 = .ok (.aload_n 0, 1) := by decide +kernel
theorem dX12_code_1 : decode cX12_code 1 = .ok (.iconst 0, 1) := by decide +kernel
theorem dX12_code_2 : decode cX12_code 2 = .ok (.putfield 142, 3) := by decide +kernel
theorem dX12_code_5 : decode cX12_code 5 = .ok (.iload_n 1, 1) := by decide +kernel
theorem dX12_code_6 : decode cX12_code 6 = .ok (.ifCond .lt 11, 3) := by decide +kernel
theorem dX12_code_9 : decode cX12_code 9 = .ok (.iload_n 1, 1) := by decide +kernel
theorem dX12_code_10 : decode cX12_code 10 = .ok (.aload_n 0, 1) := by decide +kernel
theorem dX12_code_11 : decode cX12_code 11 = .ok (.getfield 326, 3) := by decide +kernel
theorem dX12_code_14 : decode cX12_code 14 = .ok (.if_icmp .lt 10, 3) := by decide +kernel
theorem dX12_code_17 : decode cX12_code 17 = .ok (.aload_n 0, 1) := by decide +kernel
theorem dX12_code_18 : decode cX12_code 18 = .ok (.iconst 1, 1) := by decide +kernel
theorem dX12_code_19 : decode cX12_code 19 = .ok (.putfield 142, 3) := by decide +kernel
theorem dX12_code_22 : decode cX12_code 22 = .ok (.iconst 0, 1) := by decide +kernel
theorem dX12_code_23 : decode cX12_code 23 = .ok (.ireturn, 1) := by decide +kernel
theorem dX12_code_24 : decode cX12_code 24 = .ok (.iload_n 2, 1) := by decide +kernel
theorem dX12_code_25 : decode cX12_code 25 = .ok (.ifCond .lt 8, 3) := by decide +kernel
theorem dX12_code_28 : decode cX12_code 28 = .ok (.iload_n 2, 1) := by decide +kernel
theorem dX12_code_29 : decode cX12_code 29 = .ok (.iconst 2, 1) := by decide +kernel
theorem dX12_code_30 : decode cX12_code 30 = .ok (.if_icmp .le 10, 3) := by decide +kernel
theorem dX12_code_33 : decode cX12_code 33 = .ok (.aload_n 0, 1) := by decide +kernel
theorem dX12_code_34 : decode cX12_code 34 = .ok (.iconst 2, 1) := by decide +kernel
theorem dX12_code_35 : decode cX12_code 35 = .ok (.putfield 142, 3) := by decide +kernel
theorem dX12_code_38 : decode cX12_code 38 = .ok (.iconst 0, 1) := by decide +kernel
