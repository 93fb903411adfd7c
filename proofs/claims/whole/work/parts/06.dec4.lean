theorem dX10_goes_157 : decode cX10_goes 157 = .ok (.aload_n 0, 1) := by decide +kernel
theorem dX10_goes_158 : decode cX10_goes 158 = .ok (.getfield 194, 3) := by decide +kernel
theorem dX10_goes_161 : decode cX10_goes 161 = .ok (.iconst 1, 1) := by decide +kernel
theorem dX10_goes_162 : decode cX10_goes 162 = .ok (.iadd, 1) := by decide +kernel
theorem dX10_goes_163 : decode cX10_goes 163 = .ok (.iastore, 1) := by decide +kernel
theorem dX10_goes_164 : decode cX10_goes 164 = .ok (.aload_n 0, 1) := by decide +kernel
theorem dX10_goes_165 : decode cX10_goes 165 = .ok (.getfield 194, 3) := by decide +kernel
theorem dX10_goes_168 : decode cX10_goes 168 = .ok (.sipush 1500, 3) := by decide +kernel
theorem dX10_goes_171 : decode cX10_goes 171 = .ok (.if_icmp .ne 5, 3) := by decide +kernel
theorem dX10_goes_174 : decode cX10_goes 174 = .ok (.iconst 2, 1) := by decide +kernel
theorem dX10_goes_175 : decode cX10_goes 175 = .ok (.ireturn, 1) := by decide +kernel
theorem dX10_goes_176 : decode cX10_goes 176 = .ok (.bipush 6, 2) := by decide +kernel
theorem dX10_goes_178 : decode cX10_goes 178 = .ok (.aload_n 0, 1) := by decide +kernel
theorem dX10_goes_179 : decode cX10_goes 179 = .ok (.getfield 191, 3) := by decide +kernel
theorem dX10_goes_182 : decode cX10_goes 182 = .ok (.imul, 1) := by decide +kernel
theorem dX10_goes_183 : decode cX10_goes 183 = .ok (.aload_n 0, 1) := by decide +kernel
theorem dX10_goes_184 : decode cX10_goes 184 = .ok (.getfield 17, 3) := by decide +kernel
theorem dX10_goes_187 : decode cX10_goes 187 = .ok (.bipush 6, 2) := by decide +kernel
theorem dX10_goes_189 : decode cX10_goes 189 = .ok (.aload_n 0, 1) := by decide +kernel
theorem dX10_goes_190 : decode cX10_goes 190 = .ok (.getfield 191, 3) := by decide +kernel
theorem dX10_goes_193 : decode cX10_goes 193 = .ok (.imul, 1) := by decide +kernel
theorem dX10_goes_194 : decode cX10_goes 194 = .ok (.iconst 3, 1) := by decide +kernel
theorem dX10_goes_195 : decode cX10_goes 195 = .ok (.iadd, 1) := by decide +kernel
theorem dX10_goes_196 : decode cX10_goes 196 = .ok (.iaload, 1) := by decide +kernel
theorem dX10_goes_197 : decode cX10_goes 197 = .ok (.ifCond .lt 12, 3) := by decide +kernel
theorem dX10_goes_200 : decode cX10_goes 200 = .ok (.aload_n 0, 1) := by decide +kernel
theorem dX10_goes_201 : decode cX10_goes 201 = .ok (.getfield 73, 3) := by decide +kernel
theorem dX10_goes_204 : decode cX10_goes 204 = .ok (.iload_n 2, 1) := by decide +kernel
theorem dX10_goes_205 : decode cX10_goes 205 = .ok (.baload, 1) := by decide +kernel
theorem dX10_goes_206 : decode cX10_goes 206 = .ok (.ifCond .eq 7, 3) := by decide +kernel
theorem dX10_goes_209 : decode cX10_goes 209 = .ok (.iconst 0, 1) := by decide +kernel
theorem dX10_goes_210 : decode cX10_goes 210 = .ok (.goto 4, 3) := by decide +kernel
theorem dX10_goes_213 : decode cX10_goes 213 = .ok (.iconst 3, 1) := by decide +kernel
theorem dX10_goes_214 : decode cX10_goes 214 = .ok (.iadd, 1) := by decide +kernel
theorem dX10_goes_215 : decode cX10_goes 215 = .ok (.istore 4, 2) := by decide +kernel
theorem dX10_goes_217 : decode cX10_goes 217 = .ok (.aload_n 0, 1) := by decide +kernel
theorem dX10_goes_218 : decode cX10_goes 218 = .ok (.getfield 17, 3) := by decide +kernel
theorem dX10_goes_221 : decode cX10_goes 221 = .ok (.iload 4, 2) := by decide +kernel
theorem dX10_goes_223 : decode cX10_goes 223 = .ok (.iconst 1, 1) := by decide +kernel
theorem dX10_goes_224 : decode cX10_goes 224 = .ok (.iadd, 1) := by decide +kernel
theorem dX10_goes_225 : decode cX10_goes 225 = .ok (.iaload, 1) := by decide +kernel
theorem dX10_goes_226 : decode cX10_goes 226 = .ok (.iconst 1, 1) := by decide +kernel
theorem dX10_goes_227 : decode cX10_goes 227 = .ok (.if_icmp .ne 10, 3) := by decide +kernel
theorem dX10_goes_230 : decode cX10_goes 230 = .ok (.aload_n 0, 1) := by decide +kernel
theorem dX10_goes_231 : decode cX10_goes 231 = .ok (.getfield 73, 3) := by decide +kernel
theorem dX10_goes_234 : decode cX10_goes 234 = .ok (.iload_n 2, 1) := by decide +kernel
theorem dX10_goes_235 : decode cX10_goes 235 = .ok (.iconst 0, 1) := by decide +kernel
theorem dX10_goes_236 : decode cX10_goes 236 = .ok (.bastore, 1) := by decide +kernel
theorem dX10_goes_237 : decode cX10_goes 237 = .ok (.aload_n 0, 1) := by decide +kernel
theorem dX10_goes_238 : decode cX10_goes 238 = .ok (.getfield 17, 3) := by decide +kernel
theorem dX10_goes_241 : decode cX10_goes 241 = .ok (.iload 4, 2) := by decide +kernel
theorem dX10_goes_243 : decode cX10_goes 243 = .ok (.iconst 1, 1) := by decide +kernel
theorem dX10_goes_244 : decode cX10_goes 244 = .ok (.iadd, 1) := by decide +kernel
theorem dX10_goes_245 : decode cX10_goes 245 = .ok (.iaload, 1) := by decide +kernel
theorem dX10_goes_246 : decode cX10_goes 246 = .ok (.iconst 2, 1) := by decide +kernel
theorem dX10_goes_247 : decode cX10_goes 247 = .ok (.if_icmp .ne 10, 3) := by decide +kernel
theorem dX10_goes_250 : decode cX10_goes 250 = .ok (.aload_n 0, 1) := by decide +kernel
theorem dX10_goes_251 : decode cX10_goes 251 = .ok (.getfield 73, 3) := by decide +kernel
theorem dX10_goes_254 : decode cX10_goes 254 = .ok (.iload_n 2, 1) := by decide +kernel
theorem dX10_goes_255 : decode cX10_goes 255 = .ok (.iconst 1, 1) := by decide +kernel
theorem dX10_goes_256 : decode cX10_goes 256 = .ok (.bastore, 1) := by decide +kernel
theorem dX10_goes_257 : decode cX10_goes 257 = .ok (.aload_n 0, 1) := by decide +kernel
theorem dX10_goes_258 : decode cX10_goes 258 = .ok (.aload_n 0, 1) := by decide +kernel
theorem dX10_goes_259 : decode cX10_goes 259 = .ok (.getfield 17, 3) := by decide +kernel
theorem dX10_goes_262 : decode cX10_goes 262 = .ok (.iload 4, 2) := by decide +kernel
theorem dX10_goes_264 : decode cX10_goes 264 = .ok (.iconst 2, 1) := by decide +kernel
theorem dX10_goes_265 : decode cX10_goes 265 = .ok (.iadd, 1) := by decide +kernel
theorem dX10_goes_266 : decode cX10_goes 266 = .ok (.iaload, 1) := by decide +kernel
theorem dX10_goes_267 : decode cX10_goes 267 = .ok (.putfield 191, 3) := by decide +kernel
theorem dX10_goes_270 : decode cX10_goes 270 = .ok (.aload_n 0, 1) := by decide +kernel
theorem dX10_goes_271 : decode cX10_goes 271 = .ok (.iload_n 2, 1) := by decide +kernel
theorem dX10_goes_272 : decode cX10_goes 272 = .ok (.aload_n 0, 1) := by decide +kernel
theorem dX10_goes_273 : decode cX10_goes 273 = .ok (.getfield 188, 3) := by decide +kernel
theorem dX10_goes_276 : decode cX10_goes 276 = .ok (.aload_n 0, 1) := by decide +kernel
theorem dX10_goes_277 : decode cX10_goes 277 = .ok (.getfield 51, 3) := by decide +kernel
theorem dX10_goes_280 : decode cX10_goes 280 = .ok (.iload_n 2, 1) := by decide +kernel
theorem dX10_goes_281 : decode cX10_goes 281 = .ok (.iaload, 1) := by decide +kernel
theorem dX10_goes_282 : decode cX10_goes 282 = .ok (.isub, 1) := by decide +kernel
theorem dX10_goes_283 : decode cX10_goes 283 = .ok (.aload_n 0, 1) := by decide +kernel
theorem dX10_goes_284 : decode cX10_goes 284 = .ok (.getfield 17, 3) := by decide +kernel
theorem dX10_goes_287 : decode cX10_goes 287 = .ok (.iload 4, 2) := by decide +kernel
theorem dX10_goes_289 : decode cX10_goes 289 = .ok (.iaload, 1) := by decide +kernel
theorem dX10_goes_290 : decode cX10_goes 290 = .ok (.aload_n 0, 1) := by decide +kernel
theorem dX10_goes_291 : decode cX10_goes 291 = .ok (.getfield 194, 3) := by decide +kernel
theorem dX10_goes_294 : decode cX10_goes 294 = .ok (.invokevirtual 214, 3) := by decide +kernel
theorem dX10_goes_297 : decode cX10_goes 297 = .ok (.istore 5, 2) := by decide +kernel
theorem dX10_goes_299 : decode cX10_goes 299 = .ok (.iload 5, 2) := by decide +kernel
theorem dX10_goes_301 : decode cX10_goes 301 = .ok (.ifCond .lt 28, 3) := by decide +kernel
theorem dX10_goes_304 : decode cX10_goes 304 = .ok (.aload_n 0, 1) := by decide +kernel
theorem dX10_goes_305 : decode cX10_goes 305 = .ok (.aload_n 0, 1) := by decide +kernel
theorem dX10_goes_306 : decode cX10_goes 306 = .ok (.getfield 45, 3) := by decide +kernel
theorem dX10_goes_309 : decode cX10_goes 309 = .ok (.aload_n 0, 1) := by decide +kernel
theorem dX10_goes_310 : decode cX10_goes 310 = .ok (.getfield 42, 3) := by decide +kernel
theorem dX10_goes_313 : decode cX10_goes 313 = .ok (.aload_n 0, 1) := by decide +kernel
theorem dX10_goes_314 : decode cX10_goes 314 = .ok (.getfield 51, 3) := by decide +kernel
theorem dX10_goes_317 : decode cX10_goes 317 = .ok (.iload_n 2, 1) := by decide +kernel
theorem dX10_goes_318 : decode cX10_goes 318 = .ok (.iaload, 1) := by decide +kernel
theorem dX10_goes_319 : decode cX10_goes 319 = .ok (.iload 5, 2) := by decide +kernel
theorem dX10_goes_321 : decode cX10_goes 321 = .ok (.iadd, 1) := by decide +kernel
theorem dX10_goes_322 : decode cX10_goes 322 = .ok (.iaload, 1) := by decide +kernel
theorem dX10_goes_323 : decode cX10_goes 323 = .ok (.iconst 1, 1) := by decide +kernel
theorem dX10_goes_324 : decode cX10_goes 324 = .ok (.ixor, 1) := by decide +kernel
theorem dX10_goes_325 : decode cX10_goes 325 = .ok (.iaload, 1) := by decide +kernel
theorem dX10_goes_326 : decode cX10_goes 326 = .ok (.putfield 188, 3) := by decide +kernel
theorem dX10_goes_329 : decode cX10_goes 329 = .ok (.aload_n 0, 1) := by decide +kernel
theorem dX10_goes_330 : decode cX10_goes 330 = .ok (.dup, 1) := by decide +kernel
theorem dX10_goes_331 : decode cX10_goes 331 = .ok (.getfield 194, 3) := by decide +kernel
theorem dX10_goes_334 : decode cX10_goes 334 = .ok (.iconst 1, 1) := by decide +kernel
theorem dX10_goes_335 : decode cX10_goes 335 = .ok (.iadd, 1) := by decide +kernel
theorem dX10_goes_336 : decode cX10_goes 336 = .ok (.putfield 194, 3) := by decide +kernel
theorem dX10_goes_339 : decode cX10_goes 339 = .ok (.goto (-269), 3) := by decide +kernel
theorem dX10_walk_0 : decode cX10_walk 0 = .ok (.aload_n 0, 1) := by decide +kernel
theorem dX10_walk_1 : decode cX10_walk 1 = .ok (.iconst 0, 1) := by decide +kernel
theorem dX10_walk_2 : decode cX10_walk 2 = .ok (.putfield 100, 3) := by decide +kernel
theorem dX10_walk_5 : decode cX10_walk 5 = .ok (.aload_n 0, 1) := by decide +kernel
theorem dX10_walk_6 : decode cX10_walk 6 = .ok (.getfield 161, 3) := by decide +kernel
theorem dX10_walk_9 : decode cX10_walk 9 = .ok (.ifCond .eq 11, 3) := by decide +kernel
theorem dX10_walk_12 : decode cX10_walk 12 = .ok (.aload_n 0, 1) := by decide +kernel
theorem dX10_walk_13 : decode cX10_walk 13 = .ok (.iload_n 1, 1) := by decide +kernel
theorem dX10_walk_14 : decode cX10_walk 14 = .ok (.invokevirtual 218, 3) := by decide +kernel
theorem dX10_walk_17 : decode cX10_walk 17 = .ok (.ifCond .ne 5, 3) := by decide +kernel
theorem dX10_walk_20 : decode cX10_walk 20 = .ok (.iconst (-1), 1) := by decide +kernel
theorem dX10_walk_21 : decode cX10_walk 21 = .ok (.ireturn, 1) := by decide +kernel
theorem dX10_walk_22 : decode cX10_walk 22 = .ok (.aload_n 0, 1) := by decide +kernel
theorem dX10_walk_23 : decode cX10_walk 23 = .ok (.iload_n 1, 1) := by decide +kernel
theorem dX10_walk_24 : decode cX10_walk 24 = .ok (.invokevirtual 221, 3) := by decide +kernel
theorem dX10_walk_27 : decode cX10_walk 27 = .ok (.istore_n 2, 1) := by decide +kernel
theorem dX10_walk_28 : decode cX10_walk 28 = .ok (.aload_n 0, 1) := by decide +kernel
theorem dX10_walk_29 : decode cX10_walk 29 = .ok (.iconst 1, 1) := by decide +kernel
theorem dX10_walk_30 : decode cX10_walk 30 = .ok (.putfield 224, 3) := by decide +kernel
theorem dX10_walk_33 : decode cX10_walk 33 = .ok (.aload_n 0, 1) := by decide +kernel
theorem dX10_walk_34 : decode cX10_walk 34 = .ok (.getfield 76, 3) := by decide +kernel
theorem dX10_walk_37 : decode cX10_walk 37 = .ok (.iconst 0, 1) := by decide +kernel
theorem dX10_walk_38 : decode cX10_walk 38 = .ok (.iload_n 2, 1) := by decide +kernel
theorem dX10_walk_39 : decode cX10_walk 39 = .ok (.ifCond .ne 10, 3) := by decide +kernel
theorem dX10_walk_42 : decode cX10_walk 42 = .ok (.aload_n 0, 1) := by decide +kernel
theorem dX10_walk_43 : decode cX10_walk 43 = .ok (.getfield 194, 3) := by decide +kernel
theorem dX10_walk_46 : decode cX10_walk 46 = .ok (.goto 4, 3) := by decide +kernel
theorem dX10_walk_49 : decode cX10_walk 49 = .ok (.iconst (-1), 1) := by decide +kernel
theorem dX10_walk_50 : decode cX10_walk 50 = .ok (.iastore, 1) := by decide +kernel
theorem dX10_walk_51 : decode cX10_walk 51 = .ok (.aload_n 0, 1) := by decide +kernel
theorem dX10_walk_52 : decode cX10_walk 52 = .ok (.getfield 76, 3) := by decide +kernel
theorem dX10_walk_55 : decode cX10_walk 55 = .ok (.iconst 1, 1) := by decide +kernel
theorem dX10_walk_56 : decode cX10_walk 56 = .ok (.aload_n 0, 1) := by decide +kernel
theorem dX10_walk_57 : decode cX10_walk 57 = .ok (.getfield 204, 3) := by decide +kernel
theorem dX10_walk_60 : decode cX10_walk 60 = .ok (.iastore, 1) := by decide +kernel
theorem dX10_walk_61 : decode cX10_walk 61 = .ok (.aload_n 0, 1) := by decide +kernel
theorem dX10_walk_62 : decode cX10_walk 62 = .ok (.getfield 76, 3) := by decide +kernel
theorem dX10_walk_65 : decode cX10_walk 65 = .ok (.iconst 2, 1) := by decide +kernel
theorem dX10_walk_66 : decode cX10_walk 66 = .ok (.aload_n 0, 1) := by decide +kernel
theorem dX10_walk_67 : decode cX10_walk 67 = .ok (.getfield 207, 3) := by decide +kernel
theorem dX10_walk_70 : decode cX10_walk 70 = .ok (.iastore, 1) := by decide +kernel
theorem dX10_walk_71 : decode cX10_walk 71 = .ok (.aload_n 0, 1) := by decide +kernel
theorem dX10_walk_72 : decode cX10_walk 72 = .ok (.getfield 76, 3) := by decide +kernel
theorem dX10_walk_75 : decode cX10_walk 75 = .ok (.iconst 3, 1) := by decide +kernel
theorem dX10_walk_76 : decode cX10_walk 76 = .ok (.aload_n 0, 1) := by decide +kernel
theorem dX10_walk_77 : decode cX10_walk 77 = .ok (.getfield 188, 3) := by decide +kernel
theorem dX10_walk_80 : decode cX10_walk 80 = .ok (.iastore, 1) := by decide +kernel
theorem dX10_walk_81 : decode cX10_walk 81 = .ok (.aload_n 0, 1) := by decide +kernel
theorem dX10_walk_82 : decode cX10_walk 82 = .ok (.getfield 76, 3) := by decide +kernel
theorem dX10_walk_85 : decode cX10_walk 85 = .ok (.iconst 4, 1) := by decide +kernel
theorem dX10_walk_86 : decode cX10_walk 86 = .ok (.aload_n 0, 1) := by decide +kernel
theorem dX10_walk_87 : decode cX10_walk 87 = .ok (.getfield 191, 3) := by decide +kernel
theorem dX10_walk_90 : decode cX10_walk 90 = .ok (.iastore, 1) := by decide +kernel
theorem dX10_walk_91 : decode cX10_walk 91 = .ok (.aload_n 0, 1) := by decide +kernel
theorem dX10_walk_92 : decode cX10_walk 92 = .ok (.getfield 76, 3) := by decide +kernel
theorem dX10_walk_95 : decode cX10_walk 95 = .ok (.iconst 5, 1) := by decide +kernel
theorem dX10_walk_96 : decode cX10_walk 96 = .ok (.iconst 0, 1) := by decide +kernel
theorem dX10_walk_97 : decode cX10_walk 97 = .ok (.iastore, 1) := by decide +kernel
theorem dX10_walk_98 : decode cX10_walk 98 = .ok (.iconst 0, 1) := by decide +kernel
theorem dX10_walk_99 : decode cX10_walk 99 = .ok (.istore_n 3, 1) := by decide +kernel
theorem dX10_walk_100 : decode cX10_walk 100 = .ok (.iload_n 3, 1) := by decide +kernel
theorem dX10_walk_101 : decode cX10_walk 101 = .ok (.bipush 8, 2) := by decide +kernel
theorem dX10_walk_103 : decode cX10_walk 103 = .ok (.if_icmp .ge 32, 3) := by decide +kernel
theorem dX10_walk_106 : decode cX10_walk 106 = .ok (.aload_n 0, 1) := by decide +kernel
theorem dX10_walk_107 : decode cX10_walk 107 = .ok (.getfield 76, 3) := by decide +kernel
theorem dX10_walk_110 : decode cX10_walk 110 = .ok (.iconst 5, 1) := by decide +kernel
theorem dX10_walk_111 : decode cX10_walk 111 = .ok (.dup2, 1) := by decide +kernel
theorem dX10_walk_112 : decode cX10_walk 112 = .ok (.iaload, 1) := by decide +kernel
theorem dX10_walk_113 : decode cX10_walk 113 = .ok (.aload_n 0, 1) := by decide +kernel
theorem dX10_walk_114 : decode cX10_walk 114 = .ok (.getfield 73, 3) := by decide +kernel
theorem dX10_walk_117 : decode cX10_walk 117 = .ok (.iload_n 3, 1) := by decide +kernel
theorem dX10_walk_118 : decode cX10_walk 118 = .ok (.baload, 1) := by decide +kernel
theorem dX10_walk_119 : decode cX10_walk 119 = .ok (.ifCond .eq 7, 3) := by decide +kernel
theorem dX10_walk_122 : decode cX10_walk 122 = .ok (.iconst 1, 1) := by decide +kernel
theorem dX10_walk_123 : decode cX10_walk 123 = .ok (.goto 4, 3) := by decide +kernel
theorem dX10_walk_126 : decode cX10_walk 126 = .ok (.iconst 0, 1) := by decide +kernel
theorem dX10_walk_127 : decode cX10_walk 127 = .ok (.iadd, 1) := by decide +kernel
theorem dX10_walk_128 : decode cX10_walk 128 = .ok (.iastore, 1) := by decide +kernel
theorem dX10_walk_129 : decode cX10_walk 129 = .ok (.iinc 3 1, 3) := by decide +kernel
theorem dX10_walk_132 : decode cX10_walk 132 = .ok (.goto (-32), 3) := by decide +kernel
theorem dX10_walk_135 : decode cX10_walk 135 = .ok (.iload_n 2, 1) := by decide +kernel
theorem dX10_walk_136 : decode cX10_walk 136 = .ok (.ireturn, 1) := by decide +kernel
theorem dX10_walked_0 : decode cX10_walked 0 = .ok (.aload_n 0, 1) := by decide +kernel
theorem dX10_walked_1 : decode cX10_walked 1 = .ok (.iconst 0, 1) := by decide +kernel
theorem dX10_walked_2 : decode cX10_walked 2 = .ok (.putfield 100, 3) := by decide +kernel
theorem dX10_walked_5 : decode cX10_walked 5 = .ok (.aload_n 0, 1) := by decide +kernel
theorem dX10_walked_6 : decode cX10_walked 6 = .ok (.getfield 224, 3) := by decide +kernel
theorem dX10_walked_9 : decode cX10_walked 9 = .ok (.ifCond .eq 12, 3) := by decide +kernel
theorem dX10_walked_12 : decode cX10_walked 12 = .ok (.iload_n 1, 1) := by decide +kernel
theorem dX10_walked_13 : decode cX10_walked 13 = .ok (.ifCond .lt 8, 3) := by decide +kernel
theorem dX10_walked_16 : decode cX10_walked 16 = .ok (.iload_n 1, 1) := by decide +kernel
theorem dX10_walked_17 : decode cX10_walked 17 = .ok (.iconst 5, 1) := by decide +kernel
theorem dX10_walked_18 : decode cX10_walked 18 = .ok (.if_icmp .le 7, 3) := by decide +kernel
theorem dX10_walked_21 : decode cX10_walked 21 = .ok (.iconst (-1), 1) := by decide +kernel
theorem dX10_walked_22 : decode cX10_walked 22 = .ok (.goto 9, 3) := by decide +kernel
theorem dX10_walked_25 : decode cX10_walked 25 = .ok (.aload_n 0, 1) := by decide +kernel
theorem dX10_walked_26 : decode cX10_walked 26 = .ok (.getfield 76, 3) := by decide +kernel
theorem dX10_walked_29 : decode cX10_walked 29 = .ok (.iload_n 1, 1) := by decide +kernel
theorem dX10_walked_30 : decode cX10_walked 30 = .ok (.iaload, 1) := by decide +kernel
theorem dX10_walked_31 : decode cX10_walked 31 = .ok (.ireturn, 1) := by decide +kernel
theorem dX10_allOut_0 : decode cX10_allOut 0 = .ok (.iconst 0, 1) := by decide +kernel
theorem dX10_allOut_1 : decode cX10_allOut 1 = .ok (.istore_n 1, 1) := by decide +kernel
theorem dX10_allOut_2 : decode cX10_allOut 2 = .ok (.iload_n 1, 1) := by decide +kernel
theorem dX10_allOut_3 : decode cX10_allOut 3 = .ok (.aload_n 0, 1) := by decide +kernel
theorem dX10_allOut_4 : decode cX10_allOut 4 = .ok (.getfield 167, 3) := by decide +kernel
theorem dX10_allOut_7 : decode cX10_allOut 7 = .ok (.if_icmp .ge 19, 3) := by decide +kernel
theorem dX10_allOut_10 : decode cX10_allOut 10 = .ok (.aload_n 0, 1) := by decide +kernel
theorem dX10_allOut_11 : decode cX10_allOut 11 = .ok (.iload_n 1, 1) := by decide +kernel
theorem dX10_allOut_12 : decode cX10_allOut 12 = .ok (.invokevirtual 221, 3) := by decide +kernel
theorem dX10_allOut_15 : decode cX10_allOut 15 = .ok (.ifCond .eq 5, 3) := by decide +kernel
theorem dX10_allOut_18 : decode cX10_allOut 18 = .ok (.iconst 0, 1) := by decide +kernel
theorem dX10_allOut_19 : decode cX10_allOut 19 = .ok (.ireturn, 1) := by decide +kernel
theorem dX10_allOut_20 : decode cX10_allOut 20 = .ok (.iinc 1 1, 3) := by decide +kernel
theorem dX10_allOut_23 : decode cX10_allOut 23 = .ok (.goto (-21), 3) := by decide +kernel
theorem dX10_allOut_26 : decode cX10_allOut 26 = .ok (.iconst 1, 1) := by decide +kernel
theorem dX10_allOut_27 : decode cX10_allOut 27 = .ok (.ireturn, 1) := by decide +kernel
theorem dX10_lost_0 : decode cX10_lost 0 = .ok (.aload_n 0, 1) := by decide +kernel
theorem dX10_lost_1 : decode cX10_lost 1 = .ok (.iconst 0, 1) := by decide +kernel
theorem dX10_lost_2 : decode cX10_lost 2 = .ok (.putfield 100, 3) := by decide +kernel
theorem dX10_lost_5 : decode cX10_lost 5 = .ok (.aload_n 0, 1) := by decide +kernel
theorem dX10_lost_6 : decode cX10_lost 6 = .ok (.getfield 161, 3) := by decide +kernel
theorem dX10_lost_9 : decode cX10_lost 9 = .ok (.ifCond .ne 7, 3) := by decide +kernel
theorem dX10_lost_12 : decode cX10_lost 12 = .ok (.ldc2_w 228, 3) := by decide +kernel
theorem dX10_lost_15 : decode cX10_lost 15 = .ok (.lreturn, 1) := by decide +kernel
theorem dX10_lost_16 : decode cX10_lost 16 = .ok (.lconst 0, 1) := by decide +kernel
theorem dX10_lost_17 : decode cX10_lost 17 = .ok (.lstore_n 1, 1) := by decide +kernel
theorem dX10_lost_18 : decode cX10_lost 18 = .ok (.iconst 0, 1) := by decide +kernel
theorem dX10_lost_19 : decode cX10_lost 19 = .ok (.istore_n 3, 1) := by decide +kernel
theorem dX10_lost_20 : decode cX10_lost 20 = .ok (.iload_n 3, 1) := by decide +kernel
theorem dX10_lost_21 : decode cX10_lost 21 = .ok (.aload_n 0, 1) := by decide +kernel
theorem dX10_lost_22 : decode cX10_lost 22 = .ok (.getfield 167, 3) := by decide +kernel
theorem dX10_lost_25 : decode cX10_lost 25 = .ok (.if_icmp .ge 27, 3) := by decide +kernel
theorem dX10_lost_28 : decode cX10_lost 28 = .ok (.lload_n 1, 1) := by decide +kernel
theorem dX10_lost_29 : decode cX10_lost 29 = .ok (.aload_n 0, 1) := by decide +kernel
theorem dX10_lost_30 : decode cX10_lost 30 = .ok (.iload_n 3, 1) := by decide +kernel
theorem dX10_lost_31 : decode cX10_lost 31 = .ok (.invokevirtual 221, 3) := by decide +kernel
theorem dX10_lost_34 : decode cX10_lost 34 = .ok (.ifCond .eq 9, 3) := by decide +kernel
theorem dX10_lost_37 : decode cX10_lost 37 = .ok (.lconst 1, 1) := by decide +kernel
theorem dX10_lost_38 : decode cX10_lost 38 = .ok (.iload_n 3, 1) := by decide +kernel
theorem dX10_lost_39 : decode cX10_lost 39 = .ok (.lshl, 1) := by decide +kernel
theorem dX10_lost_40 : decode cX10_lost 40 = .ok (.goto 4, 3) := by decide +kernel
theorem dX10_lost_43 : decode cX10_lost 43 = .ok (.lconst 0, 1) := by decide +kernel
theorem dX10_lost_44 : decode cX10_lost 44 = .ok (.lor, 1) := by decide +kernel
theorem dX10_lost_45 : decode cX10_lost 45 = .ok (.lstore_n 1, 1) := by decide +kernel
theorem dX10_lost_46 : decode cX10_lost 46 = .ok (.iinc 3 1, 3) := by decide +kernel
theorem dX10_lost_49 : decode cX10_lost 49 = .ok (.goto (-29), 3) := by decide +kernel
theorem dX10_lost_52 : decode cX10_lost 52 = .ok (.lload_n 1, 1) := by decide +kernel
theorem dX10_lost_53 : decode cX10_lost 53 = .ok (.lreturn, 1) := by decide +kernel
theorem dX10_isFree_0 : decode cX10_isFree 0 = .ok (.iload_n 1, 1) := by decide +kernel
theorem dX10_isFree_1 : decode cX10_isFree 1 = .ok (.ifCond .ne 28, 3) := by decide +kernel
theorem dX10_isFree_4 : decode cX10_isFree 4 = .ok (.iload_n 2, 1) := by decide +kernel
theorem dX10_isFree_5 : decode cX10_isFree 5 = .ok (.aload_n 0, 1) := by decide +kernel
theorem dX10_isFree_6 : decode cX10_isFree 6 = .ok (.getfield 170, 3) := by decide +kernel
theorem dX10_isFree_9 : decode cX10_isFree 9 = .ok (.if_icmp .ge 16, 3) := by decide +kernel
theorem dX10_isFree_12 : decode cX10_isFree 12 = .ok (.aload_n 0, 1) := by decide +kernel
theorem dX10_isFree_13 : decode cX10_isFree 13 = .ok (.getfield 24, 3) := by decide +kernel
theorem dX10_isFree_16 : decode cX10_isFree 16 = .ok (.iload_n 2, 1) := by decide +kernel
theorem dX10_isFree_17 : decode cX10_isFree 17 = .ok (.baload, 1) := by decide +kernel
theorem dX10_isFree_18 : decode cX10_isFree 18 = .ok (.ifCond .ne 7, 3) := by decide +kernel
theorem dX10_isFree_21 : decode cX10_isFree 21 = .ok (.iconst 1, 1) := by decide +kernel
theorem dX10_isFree_22 : decode cX10_isFree 22 = .ok (.goto 29, 3) := by decide +kernel
theorem dX10_isFree_25 : decode cX10_isFree 25 = .ok (.iconst 0, 1) := by decide +kernel
theorem dX10_isFree_26 : decode cX10_isFree 26 = .ok (.goto 25, 3) := by decide +kernel
theorem dX10_isFree_29 : decode cX10_isFree 29 = .ok (.iload_n 2, 1) := by decide +kernel
theorem dX10_isFree_30 : decode cX10_isFree 30 = .ok (.aload_n 0, 1) := by decide +kernel
theorem dX10_isFree_31 : decode cX10_isFree 31 = .ok (.getfield 173, 3) := by decide +kernel
theorem dX10_isFree_34 : decode cX10_isFree 34 = .ok (.if_icmp .ge 16, 3) := by decide +kernel
theorem dX10_isFree_37 : decode cX10_isFree 37 = .ok (.aload_n 0, 1) := by decide +kernel
theorem dX10_isFree_38 : decode cX10_isFree 38 = .ok (.getfield 33, 3) := by decide +kernel
theorem dX10_isFree_41 : decode cX10_isFree 41 = .ok (.iload_n 2, 1) := by decide +kernel
theorem dX10_isFree_42 : decode cX10_isFree 42 = .ok (.baload, 1) := by decide +kernel
theorem dX10_isFree_43 : decode cX10_isFree 43 = .ok (.ifCond .ne 7, 3) := by decide +kernel
theorem dX10_isFree_46 : decode cX10_isFree 46 = .ok (.iconst 1, 1) := by decide +kernel
theorem dX10_isFree_47 : decode cX10_isFree 47 = .ok (.goto 4, 3) := by decide +kernel
theorem dX10_isFree_50 : decode cX10_isFree 50 = .ok (.iconst 0, 1) := by decide +kernel
theorem dX10_isFree_51 : decode cX10_isFree 51 = .ok (.ireturn, 1) := by decide +kernel
theorem dX10_put_0 : decode cX10_put 0 = .ok (.iload_n 1, 1) := by decide +kernel
theorem dX10_put_1 : decode cX10_put 1 = .ok (.ifCond .ne 13, 3) := by decide +kernel
theorem dX10_put_4 : decode cX10_put 4 = .ok (.aload_n 0, 1) := by decide +kernel
theorem dX10_put_5 : decode cX10_put 5 = .ok (.getfield 24, 3) := by decide +kernel
theorem dX10_put_8 : decode cX10_put 8 = .ok (.iload_n 2, 1) := by decide +kernel
theorem dX10_put_9 : decode cX10_put 9 = .ok (.iload_n 3, 1) := by decide +kernel
theorem dX10_put_10 : decode cX10_put 10 = .ok (.bastore, 1) := by decide +kernel
theorem dX10_put_11 : decode cX10_put 11 = .ok (.goto 10, 3) := by decide +kernel
theorem dX10_put_14 : decode cX10_put 14 = .ok (.aload_n 0, 1) := by decide +kernel
theorem dX10_put_15 : decode cX10_put 15 = .ok (.getfield 33, 3) := by decide +kernel
theorem dX10_put_18 : decode cX10_put 18 = .ok (.iload_n 2, 1) := by decide +kernel
theorem dX10_put_19 : decode cX10_put 19 = .ok (.iload_n 3, 1) := by decide +kernel
theorem dX10_put_20 : decode cX10_put 20 = .ok (.bastore, 1) := by decide +kernel
theorem dX10_put_21 : decode cX10_put 21 = .ok (.return_, 1) := by decide +kernel
theorem dX10_helping_0 : decode cX10_helping 0 = .ok (.aload_n 0, 1) := by decide +kernel
theorem dX10_helping_1 : decode cX10_helping 1 = .ok (.invokevirtual 230, 3) := by decide +kernel
theorem dX10_helping_4 : decode cX10_helping 4 = .ok (.ifCond .eq 5, 3) := by decide +kernel
theorem dX10_helping_7 : decode cX10_helping 7 = .ok (.iconst 0, 1) := by decide +kernel
theorem dX10_helping_8 : decode cX10_helping 8 = .ok (.ireturn, 1) := by decide +kernel
theorem dX10_helping_9 : decode cX10_helping 9 = .ok (.iconst 0, 1) := by decide +kernel
theorem dX10_helping_10 : decode cX10_helping 10 = .ok (.istore_n 2, 1) := by decide +kernel
theorem dX10_helping_11 : decode cX10_helping 11 = .ok (.iload_n 2, 1) := by decide +kernel
theorem dX10_helping_12 : decode cX10_helping 12 = .ok (.bipush 12, 2) := by decide +kernel
theorem dX10_helping_14 : decode cX10_helping 14 = .ok (.if_icmp .ge 53, 3) := by decide +kernel
theorem dX10_helping_17 : decode cX10_helping 17 = .ok (.aload_n 0, 1) := by decide +kernel
theorem dX10_helping_18 : decode cX10_helping 18 = .ok (.iload_n 1, 1) := by decide +kernel
theorem dX10_helping_19 : decode cX10_helping 19 = .ok (.iload_n 2, 1) := by decide +kernel
theorem dX10_helping_20 : decode cX10_helping 20 = .ok (.invokevirtual 233, 3) := by decide +kernel
theorem dX10_helping_23 : decode cX10_helping 23 = .ok (.ifCond .ne 6, 3) := by decide +kernel
theorem dX10_helping_26 : decode cX10_helping 26 = .ok (.goto 35, 3) := by decide +kernel
theorem dX10_helping_29 : decode cX10_helping 29 = .ok (.aload_n 0, 1) := by decide +kernel
theorem dX10_helping_30 : decode cX10_helping 30 = .ok (.iload_n 1, 1) := by decide +kernel
theorem dX10_helping_31 : decode cX10_helping 31 = .ok (.iload_n 2, 1) := by decide +kernel
theorem dX10_helping_32 : decode cX10_helping 32 = .ok (.iconst 1, 1) := by decide +kernel
theorem dX10_helping_33 : decode cX10_helping 33 = .ok (.invokevirtual 236, 3) := by decide +kernel
theorem dX10_helping_36 : decode cX10_helping 36 = .ok (.aload_n 0, 1) := by decide +kernel
theorem dX10_helping_37 : decode cX10_helping 37 = .ok (.invokevirtual 230, 3) := by decide +kernel
theorem dX10_helping_40 : decode cX10_helping 40 = .ok (.istore_n 3, 1) := by decide +kernel
theorem dX10_helping_41 : decode cX10_helping 41 = .ok (.aload_n 0, 1) := by decide +kernel
theorem dX10_helping_42 : decode cX10_helping 42 = .ok (.iload_n 1, 1) := by decide +kernel
theorem dX10_helping_43 : decode cX10_helping 43 = .ok (.iload_n 2, 1) := by decide +kernel
theorem dX10_helping_44 : decode cX10_helping 44 = .ok (.iconst 0, 1) := by decide +kernel
theorem dX10_helping_45 : decode cX10_helping 45 = .ok (.invokevirtual 236, 3) := by decide +kernel
theorem dX10_helping_48 : decode cX10_helping 48 = .ok (.aload_n 0, 1) := by decide +kernel
theorem dX10_helping_49 : decode cX10_helping 49 = .ok (.getfield 79, 3) := by decide +kernel
theorem dX10_helping_52 : decode cX10_helping 52 = .ok (.iconst 0, 1) := by decide +kernel
theorem dX10_helping_53 : decode cX10_helping 53 = .ok (.iload_n 2, 1) := by decide +kernel
theorem dX10_helping_54 : decode cX10_helping 54 = .ok (.iastore, 1) := by decide +kernel
theorem dX10_helping_55 : decode cX10_helping 55 = .ok (.iload_n 3, 1) := by decide +kernel
theorem dX10_helping_56 : decode cX10_helping 56 = .ok (.ifCond .eq 5, 3) := by decide +kernel
theorem dX10_helping_59 : decode cX10_helping 59 = .ok (.iconst 1, 1) := by decide +kernel
theorem dX10_helping_60 : decode cX10_helping 60 = .ok (.ireturn, 1) := by decide +kernel
theorem dX10_helping_61 : decode cX10_helping 61 = .ok (.iinc 2 1, 3) := by decide +kernel
theorem dX10_helping_64 : decode cX10_helping 64 = .ok (.goto (-53), 3) := by decide +kernel
theorem dX10_helping_67 : decode cX10_helping 67 = .ok (.iconst 0, 1) := by decide +kernel
theorem dX10_helping_68 : decode cX10_helping 68 = .ok (.istore_n 2, 1) := by decide +kernel
theorem dX10_helping_69 : decode cX10_helping 69 = .ok (.iload_n 2, 1) := by decide +kernel
theorem dX10_helping_70 : decode cX10_helping 70 = .ok (.bipush 12, 2) := by decide +kernel
theorem dX10_helping_72 : decode cX10_helping 72 = .ok (.if_icmp .ge 101, 3) := by decide +kernel
theorem dX10_helping_75 : decode cX10_helping 75 = .ok (.iload_n 2, 1) := by decide +kernel
theorem dX10_helping_76 : decode cX10_helping 76 = .ok (.iconst 1, 1) := by decide +kernel
theorem dX10_helping_77 : decode cX10_helping 77 = .ok (.iadd, 1) := by decide +kernel
theorem dX10_helping_78 : decode cX10_helping 78 = .ok (.istore_n 3, 1) := by decide +kernel
theorem dX10_helping_79 : decode cX10_helping 79 = .ok (.iload_n 3, 1) := by decide +kernel
theorem dX10_helping_80 : decode cX10_helping 80 = .ok (.bipush 12, 2) := by decide +kernel
theorem dX10_helping_82 : decode cX10_helping 82 = .ok (.if_icmp .ge 85, 3) := by decide +kernel
theorem dX10_helping_85 : decode cX10_helping 85 = .ok (.aload_n 0, 1) := by decide +kernel
theorem dX10_helping_86 : decode cX10_helping 86 = .ok (.iload_n 1, 1) := by decide +kernel
theorem dX10_helping_87 : decode cX10_helping 87 = .ok (.iload_n 2, 1) := by decide +kernel
theorem dX10_helping_88 : decode cX10_helping 88 = .ok (.invokevirtual 233, 3) := by decide +kernel
theorem dX10_helping_91 : decode cX10_helping 91 = .ok (.ifCond .eq 70, 3) := by decide +kernel
theorem dX10_helping_94 : decode cX10_helping 94 = .ok (.aload_n 0, 1) := by decide +kernel
theorem dX10_helping_95 : decode cX10_helping 95 = .ok (.iload_n 1, 1) := by decide +kernel
theorem dX10_helping_96 : decode cX10_helping 96 = .ok (.iload_n 3, 1) := by decide +kernel
theorem dX10_helping_97 : decode cX10_helping 97 = .ok (.invokevirtual 233, 3) := by decide +kernel
theorem dX10_helping_100 : decode cX10_helping 100 = .ok (.ifCond .ne 6, 3) := by decide +kernel
theorem dX10_helping_103 : decode cX10_helping 103 = .ok (.goto 58, 3) := by decide +kernel
theorem dX10_helping_106 : decode cX10_helping 106 = .ok (.aload_n 0, 1) := by decide +kernel
theorem dX10_helping_107 : decode cX10_helping 107 = .ok (.iload_n 1, 1) := by decide +kernel
theorem dX10_helping_108 : decode cX10_helping 108 = .ok (.iload_n 2, 1) := by decide +kernel
theorem dX10_helping_109 : decode cX10_helping 109 = .ok (.iconst 1, 1) := by decide +kernel
theorem dX10_helping_110 : decode cX10_helping 110 = .ok (.invokevirtual 236, 3) := by decide +kernel
theorem dX10_helping_113 : decode cX10_helping 113 = .ok (.aload_n 0, 1) := by decide +kernel
theorem dX10_helping_114 : decode cX10_helping 114 = .ok (.iload_n 1, 1) := by decide +kernel
theorem dX10_helping_115 : decode cX10_helping 115 = .ok (.iload_n 3, 1) := by decide +kernel
theorem dX10_helping_116 : decode cX10_helping 116 = .ok (.iconst 1, 1) := by decide +kernel
theorem dX10_helping_117 : decode cX10_helping 117 = .ok (.invokevirtual 236, 3) := by decide +kernel
theorem dX10_helping_120 : decode cX10_helping 120 = .ok (.aload_n 0, 1) := by decide +kernel
theorem dX10_helping_121 : decode cX10_helping 121 = .ok (.invokevirtual 230, 3) := by decide +kernel
theorem dX10_helping_124 : decode cX10_helping 124 = .ok (.istore 4, 2) := by decide +kernel
theorem dX10_helping_126 : decode cX10_helping 126 = .ok (.aload_n 0, 1) := by decide +kernel
theorem dX10_helping_127 : decode cX10_helping 127 = .ok (.iload_n 1, 1) := by decide +kernel
theorem dX10_helping_128 : decode cX10_helping 128 = .ok (.iload_n 2, 1) := by decide +kernel
theorem dX10_helping_129 : decode cX10_helping 129 = .ok (.iconst 0, 1) := by decide +kernel
theorem dX10_helping_130 : decode cX10_helping 130 = .ok (.invokevirtual 236, 3) := by decide +kernel
theorem dX10_helping_133 : decode cX10_helping 133 = .ok (.aload_n 0, 1) := by decide +kernel
theorem dX10_helping_134 : decode cX10_helping 134 = .ok (.iload_n 1, 1) := by decide +kernel
theorem dX10_helping_135 : decode cX10_helping 135 = .ok (.iload_n 3, 1) := by decide +kernel
theorem dX10_helping_136 : decode cX10_helping 136 = .ok (.iconst 0, 1) := by decide +kernel
theorem dX10_helping_137 : decode cX10_helping 137 = .ok (.invokevirtual 236, 3) := by decide +kernel
theorem dX10_helping_140 : decode cX10_helping 140 = .ok (.aload_n 0, 1) := by decide +kernel
theorem dX10_helping_141 : decode cX10_helping 141 = .ok (.getfield 79, 3) := by decide +kernel
theorem dX10_helping_144 : decode cX10_helping 144 = .ok (.iconst 0, 1) := by decide +kernel
theorem dX10_helping_145 : decode cX10_helping 145 = .ok (.iload_n 2, 1) := by decide +kernel
theorem dX10_helping_146 : decode cX10_helping 146 = .ok (.iastore, 1) := by decide +kernel
theorem dX10_helping_147 : decode cX10_helping 147 = .ok (.aload_n 0, 1) := by decide +kernel
theorem dX10_helping_148 : decode cX10_helping 148 = .ok (.getfield 79, 3) := by decide +kernel
theorem dX10_helping_151 : decode cX10_helping 151 = .ok (.iconst 1, 1) := by decide +kernel
theorem dX10_helping_152 : decode cX10_helping 152 = .ok (.iload_n 3, 1) := by decide +kernel
theorem dX10_helping_153 : decode cX10_helping 153 = .ok (.iastore, 1) := by decide +kernel
theorem dX10_helping_154 : decode cX10_helping 154 = .ok (.iload 4, 2) := by decide +kernel
theorem dX10_helping_156 : decode cX10_helping 156 = .ok (.ifCond .eq 5, 3) := by decide +kernel
theorem dX10_helping_159 : decode cX10_helping 159 = .ok (.iconst 2, 1) := by decide +kernel
theorem dX10_helping_160 : decode cX10_helping 160 = .ok (.ireturn, 1) := by decide +kernel
theorem dX10_helping_161 : decode cX10_helping 161 = .ok (.iinc 3 1, 3) := by decide +kernel
theorem dX10_helping_164 : decode cX10_helping 164 = .ok (.goto (-85), 3) := by decide +kernel
theorem dX10_helping_167 : decode cX10_helping 167 = .ok (.iinc 2 1, 3) := by decide +kernel
theorem dX10_helping_170 : decode cX10_helping 170 = .ok (.goto (-101), 3) := by decide +kernel
theorem dX10_helping_173 : decode cX10_helping 173 = .ok (.iconst (-1), 1) := by decide +kernel
theorem dX10_helping_174 : decode cX10_helping 174 = .ok (.ireturn, 1) := by decide +kernel
theorem dX10_help_0 : decode cX10_help 0 = .ok (.aload_n 0, 1) := by decide +kernel
theorem dX10_help_1 : decode cX10_help 1 = .ok (.iconst 0, 1) := by decide +kernel
theorem dX10_help_2 : decode cX10_help 2 = .ok (.putfield 100, 3) := by decide +kernel
theorem dX10_help_5 : decode cX10_help 5 = .ok (.aload_n 0, 1) := by decide +kernel
theorem dX10_help_6 : decode cX10_help 6 = .ok (.getfield 161, 3) := by decide +kernel
theorem dX10_help_9 : decode cX10_help 9 = .ok (.ifCond .eq 12, 3) := by decide +kernel
theorem dX10_help_12 : decode cX10_help 12 = .ok (.iload_n 1, 1) := by decide +kernel
theorem dX10_help_13 : decode cX10_help 13 = .ok (.ifCond .lt 8, 3) := by decide +kernel
theorem dX10_help_16 : decode cX10_help 16 = .ok (.iload_n 1, 1) := by decide +kernel
theorem dX10_help_17 : decode cX10_help 17 = .ok (.iconst 1, 1) := by decide +kernel
theorem dX10_help_18 : decode cX10_help 18 = .ok (.if_icmp .le 5, 3) := by decide +kernel
theorem dX10_help_21 : decode cX10_help 21 = .ok (.iconst (-1), 1) := by decide +kernel
theorem dX10_help_22 : decode cX10_help 22 = .ok (.ireturn, 1) := by decide +kernel
theorem dX10_help_23 : decode cX10_help 23 = .ok (.aload_n 0, 1) := by decide +kernel
theorem dX10_help_24 : decode cX10_help 24 = .ok (.iload_n 1, 1) := by decide +kernel
theorem dX10_help_25 : decode cX10_help 25 = .ok (.invokevirtual 240, 3) := by decide +kernel
theorem dX10_help_28 : decode cX10_help 28 = .ok (.istore_n 2, 1) := by decide +kernel
theorem dX10_help_29 : decode cX10_help 29 = .ok (.iload_n 2, 1) := by decide +kernel
theorem dX10_help_30 : decode cX10_help 30 = .ok (.ifCond .ge 5, 3) := by decide +kernel
theorem dX10_help_33 : decode cX10_help 33 = .ok (.iconst (-1), 1) := by decide +kernel
theorem dX10_help_34 : decode cX10_help 34 = .ok (.ireturn, 1) := by decide +kernel
theorem dX10_help_35 : decode cX10_help 35 = .ok (.aload_n 0, 1) := by decide +kernel
theorem dX10_help_36 : decode cX10_help 36 = .ok (.iload_n 2, 1) := by decide +kernel
theorem dX10_help_37 : decode cX10_help 37 = .ok (.putfield 243, 3) := by decide +kernel
theorem dX10_help_40 : decode cX10_help 40 = .ok (.iconst 0, 1) := by decide +kernel
theorem dX10_help_41 : decode cX10_help 41 = .ok (.istore_n 3, 1) := by decide +kernel
theorem dX10_help_42 : decode cX10_help 42 = .ok (.iload_n 3, 1) := by decide +kernel
theorem dX10_help_43 : decode cX10_help 43 = .ok (.iconst 2, 1) := by decide +kernel
theorem dX10_help_44 : decode cX10_help 44 = .ok (.if_icmp .ge 21, 3) := by decide +kernel
theorem dX10_help_47 : decode cX10_help 47 = .ok (.aload_n 0, 1) := by decide +kernel
theorem dX10_help_48 : decode cX10_help 48 = .ok (.getfield 82, 3) := by decide +kernel
theorem dX10_help_51 : decode cX10_help 51 = .ok (.iload_n 3, 1) := by decide +kernel
theorem dX10_help_52 : decode cX10_help 52 = .ok (.aload_n 0, 1) := by decide +kernel
theorem dX10_help_53 : decode cX10_help 53 = .ok (.getfield 79, 3) := by decide +kernel
theorem dX10_help_56 : decode cX10_help 56 = .ok (.iload_n 3, 1) := by decide +kernel
theorem dX10_help_57 : decode cX10_help 57 = .ok (.iaload, 1) := by decide +kernel
theorem dX10_help_58 : decode cX10_help 58 = .ok (.iastore, 1) := by decide +kernel
theorem dX10_help_59 : decode cX10_help 59 = .ok (.iinc 3 1, 3) := by decide +kernel
theorem dX10_help_62 : decode cX10_help 62 = .ok (.goto (-20), 3) := by decide +kernel
theorem dX10_help_65 : decode cX10_help 65 = .ok (.iload_n 2, 1) := by decide +kernel
theorem dX10_help_66 : decode cX10_help 66 = .ok (.ireturn, 1) := by decide +kernel
theorem dX10_helped_0 : decode cX10_helped 0 = .ok (.aload_n 0, 1) := by decide +kernel
theorem dX10_helped_1 : decode cX10_helped 1 = .ok (.iconst 0, 1) := by decide +kernel
theorem dX10_helped_2 : decode cX10_helped 2 = .ok (.putfield 100, 3) := by decide +kernel
theorem dX10_helped_5 : decode cX10_helped 5 = .ok (.iload_n 1, 1) := by decide +kernel
theorem dX10_helped_6 : decode cX10_helped 6 = .ok (.ifCond .lt 11, 3) := by decide +kernel
theorem dX10_helped_9 : decode cX10_helped 9 = .ok (.iload_n 1, 1) := by decide +kernel
theorem dX10_helped_10 : decode cX10_helped 10 = .ok (.aload_n 0, 1) := by decide +kernel
theorem dX10_helped_11 : decode cX10_helped 11 = .ok (.getfield 243, 3) := by decide +kernel
theorem dX10_helped_14 : decode cX10_helped 14 = .ok (.if_icmp .lt 7, 3) := by decide +kernel
theorem dX10_helped_17 : decode cX10_helped 17 = .ok (.iconst (-1), 1) := by decide +kernel
theorem dX10_helped_18 : decode cX10_helped 18 = .ok (.goto 9, 3) := by decide +kernel
theorem dX10_helped_21 : decode cX10_helped 21 = .ok (.aload_n 0, 1) := by decide +kernel
theorem dX10_helped_22 : decode cX10_helped 22 = .ok (.getfield 82, 3) := by decide +kernel
theorem dX10_helped_25 : decode cX10_helped 25 = .ok (.iload_n 1, 1) := by decide +kernel
theorem dX10_helped_26 : decode cX10_helped 26 = .ok (.iaload, 1) := by decide +kernel
theorem dX10_helped_27 : decode cX10_helped 27 = .ok (.ireturn, 1) := by decide +kernel
theorem dX10_seeing_0 : decode cX10_seeing 0 = .ok (.lconst 0, 1) := by decide +kernel
theorem dX10_seeing_1 : decode cX10_seeing 1 = .ok (.lstore_n 2, 1) := by decide +kernel
theorem dX10_seeing_2 : decode cX10_seeing 2 = .ok (.iconst 0, 1) := by decide +kernel
theorem dX10_seeing_3 : decode cX10_seeing 3 = .ok (.istore 4, 2) := by decide +kernel
theorem dX10_seeing_5 : decode cX10_seeing 5 = .ok (.iload 4, 2) := by decide +kernel
theorem dX10_seeing_7 : decode cX10_seeing 7 = .ok (.aload_n 0, 1) := by decide +kernel
theorem dX10_seeing_8 : decode cX10_seeing 8 = .ok (.getfield 167, 3) := by decide +kernel
theorem dX10_seeing_11 : decode cX10_seeing 11 = .ok (.if_icmp .ge 36, 3) := by decide +kernel
theorem dX10_seeing_14 : decode cX10_seeing 14 = .ok (.lload_n 2, 1) := by decide +kernel
theorem dX10_seeing_15 : decode cX10_seeing 15 = .ok (.aload_n 0, 1) := by decide +kernel
theorem dX10_seeing_16 : decode cX10_seeing 16 = .ok (.getfield 48, 3) := by decide +kernel
theorem dX10_seeing_19 : decode cX10_seeing 19 = .ok (.aload_n 0, 1) := by decide +kernel
theorem dX10_seeing_20 : decode cX10_seeing 20 = .ok (.getfield 39, 3) := by decide +kernel
theorem dX10_seeing_23 : decode cX10_seeing 23 = .ok (.iload 4, 2) := by decide +kernel
theorem dX10_seeing_25 : decode cX10_seeing 25 = .ok (.iaload, 1) := by decide +kernel
theorem dX10_seeing_26 : decode cX10_seeing 26 = .ok (.iaload, 1) := by decide +kernel
theorem dX10_seeing_27 : decode cX10_seeing 27 = .ok (.iload_n 1, 1) := by decide +kernel
theorem dX10_seeing_28 : decode cX10_seeing 28 = .ok (.if_icmp .ne 10, 3) := by decide +kernel
theorem dX10_seeing_31 : decode cX10_seeing 31 = .ok (.lconst 1, 1) := by decide +kernel
theorem dX10_seeing_32 : decode cX10_seeing 32 = .ok (.iload 4, 2) := by decide +kernel
theorem dX10_seeing_34 : decode cX10_seeing 34 = .ok (.lshl, 1) := by decide +kernel
theorem dX10_seeing_35 : decode cX10_seeing 35 = .ok (.goto 4, 3) := by decide +kernel
theorem dX10_seeing_38 : decode cX10_seeing 38 = .ok (.lconst 0, 1) := by decide +kernel
theorem dX10_seeing_39 : decode cX10_seeing 39 = .ok (.lor, 1) := by decide +kernel
theorem dX10_seeing_40 : decode cX10_seeing 40 = .ok (.lstore_n 2, 1) := by decide +kernel
theorem dX10_seeing_41 : decode cX10_seeing 41 = .ok (.iinc 4 1, 3) := by decide +kernel
theorem dX10_seeing_44 : decode cX10_seeing 44 = .ok (.goto (-39), 3) := by decide +kernel
theorem dX10_seeing_47 : decode cX10_seeing 47 = .ok (.lload_n 2, 1) := by decide +kernel
theorem dX10_seeing_48 : decode cX10_seeing 48 = .ok (.lreturn, 1) := by decide +kernel
theorem dX10_led_0 : decode cX10_led 0 = .ok (.aload_n 0, 1) := by decide +kernel
theorem dX10_led_1 : decode cX10_led 1 = .ok (.getfield 39, 3) := by decide +kernel
theorem dX10_led_4 : decode cX10_led 4 = .ok (.iload_n 1, 1) := by decide +kernel
theorem dX10_led_5 : decode cX10_led 5 = .ok (.iaload, 1) := by decide +kernel
theorem dX10_led_6 : decode cX10_led 6 = .ok (.istore_n 3, 1) := by decide +kernel
theorem dX10_led_7 : decode cX10_led 7 = .ok (.aload_n 0, 1) := by decide +kernel
theorem dX10_led_8 : decode cX10_led 8 = .ok (.getfield 45, 3) := by decide +kernel
theorem dX10_led_11 : decode cX10_led 11 = .ok (.aload_n 0, 1) := by decide +kernel
theorem dX10_led_12 : decode cX10_led 12 = .ok (.getfield 42, 3) := by decide +kernel
theorem dX10_led_15 : decode cX10_led 15 = .ok (.aload_n 0, 1) := by decide +kernel
theorem dX10_led_16 : decode cX10_led 16 = .ok (.getfield 51, 3) := by decide +kernel
theorem dX10_led_19 : decode cX10_led 19 = .ok (.iload_n 3, 1) := by decide +kernel
theorem dX10_led_20 : decode cX10_led 20 = .ok (.iaload, 1) := by decide +kernel
theorem dX10_led_21 : decode cX10_led 21 = .ok (.iload_n 1, 1) := by decide +kernel
theorem dX10_led_22 : decode cX10_led 22 = .ok (.aload_n 0, 1) := by decide +kernel
theorem dX10_led_23 : decode cX10_led 23 = .ok (.getfield 51, 3) := by decide +kernel
theorem dX10_led_26 : decode cX10_led 26 = .ok (.iload_n 3, 1) := by decide +kernel
theorem dX10_led_27 : decode cX10_led 27 = .ok (.iaload, 1) := by decide +kernel
theorem dX10_led_28 : decode cX10_led 28 = .ok (.isub, 1) := by decide +kernel
theorem dX10_led_29 : decode cX10_led 29 = .ok (.iload_n 2, 1) := by decide +kernel
theorem dX10_led_30 : decode cX10_led 30 = .ok (.iadd, 1) := by decide +kernel
theorem dX10_led_31 : decode cX10_led 31 = .ok (.aload_n 0, 1) := by decide +kernel
theorem dX10_led_32 : decode cX10_led 32 = .ok (.getfield 48, 3) := by decide +kernel
theorem dX10_led_35 : decode cX10_led 35 = .ok (.iload_n 3, 1) := by decide +kernel
theorem dX10_led_36 : decode cX10_led 36 = .ok (.iaload, 1) := by decide +kernel
theorem dX10_led_37 : decode cX10_led 37 = .ok (.irem, 1) := by decide +kernel
theorem dX10_led_38 : decode cX10_led 38 = .ok (.iadd, 1) := by decide +kernel
theorem dX10_led_39 : decode cX10_led 39 = .ok (.iaload, 1) := by decide +kernel
theorem dX10_led_40 : decode cX10_led 40 = .ok (.iconst 1, 1) := by decide +kernel
theorem dX10_led_41 : decode cX10_led 41 = .ok (.ixor, 1) := by decide +kernel
theorem dX10_led_42 : decode cX10_led 42 = .ok (.iaload, 1) := by decide +kernel
theorem dX10_led_43 : decode cX10_led 43 = .ok (.ireturn, 1) := by decide +kernel
theorem dX10_tale_0 : decode cX10_tale 0 = .ok (.aload_n 0, 1) := by decide +kernel
theorem dX10_tale_1 : decode cX10_tale 1 = .ok (.iconst 0, 1) := by decide +kernel
theorem dX10_tale_2 : decode cX10_tale 2 = .ok (.putfield 100, 3) := by decide +kernel
theorem dX10_tale_5 : decode cX10_tale 5 = .ok (.iload_n 1, 1) := by decide +kernel
theorem dX10_tale_6 : decode cX10_tale 6 = .ok (.ifCond .lt 9, 3) := by decide +kernel
theorem dX10_tale_9 : decode cX10_tale 9 = .ok (.iload_n 1, 1) := by decide +kernel
theorem dX10_tale_10 : decode cX10_tale 10 = .ok (.bipush 6, 2) := by decide +kernel
theorem dX10_tale_12 : decode cX10_tale 12 = .ok (.if_icmp .le 7, 3) := by decide +kernel
theorem dX10_tale_15 : decode cX10_tale 15 = .ok (.ldc2_w 228, 3) := by decide +kernel
theorem dX10_tale_18 : decode cX10_tale 18 = .ok (.lreturn, 1) := by decide +kernel
theorem dX10_tale_19 : decode cX10_tale 19 = .ok (.aload_n 0, 1) := by decide +kernel
theorem dX10_tale_20 : decode cX10_tale 20 = .ok (.iconst 0, 1) := by decide +kernel
theorem dX10_tale_21 : decode cX10_tale 21 = .ok (.putfield 85, 3) := by decide +kernel
theorem dX10_tale_24 : decode cX10_tale 24 = .ok (.aload_n 0, 1) := by decide +kernel
theorem dX10_tale_25 : decode cX10_tale 25 = .ok (.aload_n 0, 1) := by decide +kernel
theorem dX10_tale_26 : decode cX10_tale 26 = .ok (.iload_n 1, 1) := by decide +kernel
theorem dX10_tale_27 : decode cX10_tale 27 = .ok (.invokevirtual 246, 3) := by decide +kernel
theorem dX10_tale_30 : decode cX10_tale 30 = .ok (.putfield 250, 3) := by decide +kernel
theorem dX10_tale_33 : decode cX10_tale 33 = .ok (.aload_n 0, 1) := by decide +kernel
theorem dX10_tale_34 : decode cX10_tale 34 = .ok (.getfield 250, 3) := by decide +kernel
theorem dX10_tale_37 : decode cX10_tale 37 = .ok (.lreturn, 1) := by decide +kernel
theorem dX10_turn_0 : decode cX10_turn 0 = .ok (.aload_n 0, 1) := by decide +kernel
theorem dX10_turn_1 : decode cX10_turn 1 = .ok (.iconst 0, 1) := by decide +kernel
theorem dX10_turn_2 : decode cX10_turn 2 = .ok (.putfield 100, 3) := by decide +kernel
theorem dX10_turn_5 : decode cX10_turn 5 = .ok (.aload_n 0, 1) := by decide +kernel
theorem dX10_turn_6 : decode cX10_turn 6 = .ok (.getfield 85, 3) := by decide +kernel
theorem dX10_turn_9 : decode cX10_turn 9 = .ok (.ifCond .lt 32, 3) := by decide +kernel
theorem dX10_turn_12 : decode cX10_turn 12 = .ok (.aload_n 0, 1) := by decide +kernel
theorem dX10_turn_13 : decode cX10_turn 13 = .ok (.getfield 85, 3) := by decide +kernel
theorem dX10_turn_16 : decode cX10_turn 16 = .ok (.bipush 8, 2) := by decide +kernel
theorem dX10_turn_18 : decode cX10_turn 18 = .ok (.if_icmp .eq 23, 3) := by decide +kernel
theorem dX10_turn_21 : decode cX10_turn 21 = .ok (.iload_n 1, 1) := by decide +kernel
theorem dX10_turn_22 : decode cX10_turn 22 = .ok (.ifCond .lt 19, 3) := by decide +kernel
theorem dX10_turn_25 : decode cX10_turn 25 = .ok (.iload_n 1, 1) := by decide +kernel
theorem dX10_turn_26 : decode cX10_turn 26 = .ok (.bipush 9, 2) := by decide +kernel
theorem dX10_turn_28 : decode cX10_turn 28 = .ok (.if_icmp .gt 13, 3) := by decide +kernel
theorem dX10_turn_31 : decode cX10_turn 31 = .ok (.iload_n 2, 1) := by decide +kernel
theorem dX10_turn_32 : decode cX10_turn 32 = .ok (.ifCond .lt 9, 3) := by decide +kernel
theorem dX10_turn_35 : decode cX10_turn 35 = .ok (.iload_n 2, 1) := by decide +kernel
theorem dX10_turn_36 : decode cX10_turn 36 = .ok (.bipush 6, 2) := by decide +kernel
theorem dX10_turn_38 : decode cX10_turn 38 = .ok (.if_icmp .le 7, 3) := by decide +kernel
theorem dX10_turn_41 : decode cX10_turn 41 = .ok (.ldc2_w 228, 3) := by decide +kernel
theorem dX10_turn_44 : decode cX10_turn 44 = .ok (.lreturn, 1) := by decide +kernel
theorem dX10_turn_45 : decode cX10_turn 45 = .ok (.lconst 0, 1) := by decide +kernel
theorem dX10_turn_46 : decode cX10_turn 46 = .ok (.lstore_n 3, 1) := by decide +kernel
theorem dX10_turn_47 : decode cX10_turn 47 = .ok (.iconst 0, 1) := by decide +kernel
theorem dX10_turn_48 : decode cX10_turn 48 = .ok (.istore 5, 2) := by decide +kernel
theorem dX10_turn_50 : decode cX10_turn 50 = .ok (.iload 5, 2) := by decide +kernel
theorem dX10_turn_52 : decode cX10_turn 52 = .ok (.aload_n 0, 1) := by decide +kernel
theorem dX10_turn_53 : decode cX10_turn 53 = .ok (.getfield 167, 3) := by decide +kernel
theorem dX10_turn_56 : decode cX10_turn 56 = .ok (.if_icmp .ge 35, 3) := by decide +kernel
theorem dX10_turn_59 : decode cX10_turn 59 = .ok (.aload_n 0, 1) := by decide +kernel
theorem dX10_turn_60 : decode cX10_turn 60 = .ok (.getfield 250, 3) := by decide +kernel
theorem dX10_turn_63 : decode cX10_turn 63 = .ok (.iload 5, 2) := by decide +kernel
theorem dX10_turn_65 : decode cX10_turn 65 = .ok (.lshr, 1) := by decide +kernel
theorem dX10_turn_66 : decode cX10_turn 66 = .ok (.lconst 1, 1) := by decide +kernel
theorem dX10_turn_67 : decode cX10_turn 67 = .ok (.land, 1) := by decide +kernel
theorem dX10_turn_68 : decode cX10_turn 68 = .ok (.lconst 1, 1) := by decide +kernel
theorem dX10_turn_69 : decode cX10_turn 69 = .ok (.lcmp, 1) := by decide +kernel
theorem dX10_turn_70 : decode cX10_turn 70 = .ok (.ifCond .ne 15, 3) := by decide +kernel
theorem dX10_turn_73 : decode cX10_turn 73 = .ok (.lload_n 3, 1) := by decide +kernel
theorem dX10_turn_74 : decode cX10_turn 74 = .ok (.lconst 1, 1) := by decide +kernel
theorem dX10_turn_75 : decode cX10_turn 75 = .ok (.aload_n 0, 1) := by decide +kernel
theorem dX10_turn_76 : decode cX10_turn 76 = .ok (.iload 5, 2) := by decide +kernel
theorem dX10_turn_78 : decode cX10_turn 78 = .ok (.iload_n 1, 1) := by decide +kernel
theorem dX10_turn_79 : decode cX10_turn 79 = .ok (.invokevirtual 254, 3) := by decide +kernel
theorem dX10_turn_82 : decode cX10_turn 82 = .ok (.lshl, 1) := by decide +kernel
theorem dX10_turn_83 : decode cX10_turn 83 = .ok (.lor, 1) := by decide +kernel
theorem dX10_turn_84 : decode cX10_turn 84 = .ok (.lstore_n 3, 1) := by decide +kernel
theorem dX10_turn_85 : decode cX10_turn 85 = .ok (.iinc 5 1, 3) := by decide +kernel
theorem dX10_turn_88 : decode cX10_turn 88 = .ok (.goto (-38), 3) := by decide +kernel
theorem dX10_turn_91 : decode cX10_turn 91 = .ok (.aload_n 0, 1) := by decide +kernel
theorem dX10_turn_92 : decode cX10_turn 92 = .ok (.lload_n 3, 1) := by decide +kernel
theorem dX10_turn_93 : decode cX10_turn 93 = .ok (.aload_n 0, 1) := by decide +kernel
theorem dX10_turn_94 : decode cX10_turn 94 = .ok (.iload_n 2, 1) := by decide +kernel
theorem dX10_turn_95 : decode cX10_turn 95 = .ok (.invokevirtual 246, 3) := by decide +kernel
theorem dX10_turn_98 : decode cX10_turn 98 = .ok (.land, 1) := by decide +kernel
theorem dX10_turn_99 : decode cX10_turn 99 = .ok (.putfield 250, 3) := by decide +kernel
theorem dX10_turn_102 : decode cX10_turn 102 = .ok (.aload_n 0, 1) := by decide +kernel
theorem dX10_turn_103 : decode cX10_turn 103 = .ok (.dup, 1) := by decide +kernel
theorem dX10_turn_104 : decode cX10_turn 104 = .ok (.getfield 85, 3) := by decide +kernel
theorem dX10_turn_107 : decode cX10_turn 107 = .ok (.iconst 1, 1) := by decide +kernel
theorem dX10_turn_108 : decode cX10_turn 108 = .ok (.iadd, 1) := by decide +kernel
theorem dX10_turn_109 : decode cX10_turn 109 = .ok (.putfield 85, 3) := by decide +kernel
theorem dX10_turn_112 : decode cX10_turn 112 = .ok (.aload_n 0, 1) := by decide +kernel
theorem dX10_turn_113 : decode cX10_turn 113 = .ok (.getfield 250, 3) := by decide +kernel
theorem dX10_turn_116 : decode cX10_turn 116 = .ok (.lreturn, 1) := by decide +kernel
theorem dX10_tells_0 : decode cX10_tells 0 = .ok (.iconst 0, 1) := by decide +kernel
theorem dX10_tells_1 : decode cX10_tells 1 = .ok (.istore_n 2, 1) := by decide +kernel
theorem dX10_tells_2 : decode cX10_tells 2 = .ok (.iload_n 2, 1) := by decide +kernel
theorem dX10_tells_3 : decode cX10_tells 3 = .ok (.aload_n 0, 1) := by decide +kernel
theorem dX10_tells_4 : decode cX10_tells 4 = .ok (.getfield 167, 3) := by decide +kernel
theorem dX10_tells_7 : decode cX10_tells 7 = .ok (.if_icmp .ge 33, 3) := by decide +kernel
theorem dX10_tells_10 : decode cX10_tells 10 = .ok (.aload_n 0, 1) := by decide +kernel
theorem dX10_tells_11 : decode cX10_tells 11 = .ok (.getfield 94, 3) := by decide +kernel
theorem dX10_tells_14 : decode cX10_tells 14 = .ok (.iload_n 2, 1) := by decide +kernel
theorem dX10_tells_15 : decode cX10_tells 15 = .ok (.iload_n 2, 1) := by decide +kernel
theorem dX10_tells_16 : decode cX10_tells 16 = .ok (.iastore, 1) := by decide +kernel
theorem dX10_tells_17 : decode cX10_tells 17 = .ok (.aload_n 0, 1) := by decide +kernel
theorem dX10_tells_18 : decode cX10_tells 18 = .ok (.getfield 97, 3) := by decide +kernel
theorem dX10_tells_21 : decode cX10_tells 21 = .ok (.iload_n 2, 1) := by decide +kernel
theorem dX10_tells_22 : decode cX10_tells 22 = .ok (.aload_n 0, 1) := by decide +kernel
theorem dX10_tells_23 : decode cX10_tells 23 = .ok (.getfield 48, 3) := by decide +kernel
theorem dX10_tells_26 : decode cX10_tells 26 = .ok (.aload_n 0, 1) := by decide +kernel
theorem dX10_tells_27 : decode cX10_tells 27 = .ok (.getfield 39, 3) := by decide +kernel
theorem dX10_tells_30 : decode cX10_tells 30 = .ok (.iload_n 2, 1) := by decide +kernel
theorem dX10_tells_31 : decode cX10_tells 31 = .ok (.iaload, 1) := by decide +kernel
theorem dX10_tells_32 : decode cX10_tells 32 = .ok (.iaload, 1) := by decide +kernel
theorem dX10_tells_33 : decode cX10_tells 33 = .ok (.iastore, 1) := by decide +kernel
theorem dX10_tells_34 : decode cX10_tells 34 = .ok (.iinc 2 1, 3) := by decide +kernel
theorem dX10_tells_37 : decode cX10_tells 37 = .ok (.goto (-35), 3) := by decide +kernel
theorem dX10_tells_40 : decode cX10_tells 40 = .ok (.iconst 0, 1) := by decide +kernel
theorem dX10_tells_41 : decode cX10_tells 41 = .ok (.istore_n 2, 1) := by decide +kernel
theorem dX10_tells_42 : decode cX10_tells 42 = .ok (.iload_n 2, 1) := by decide +kernel
theorem dX10_tells_43 : decode cX10_tells 43 = .ok (.iload_n 1, 1) := by decide +kernel
theorem dX10_tells_44 : decode cX10_tells 44 = .ok (.if_icmp .ge 79, 3) := by decide +kernel
theorem dX10_tells_47 : decode cX10_tells 47 = .ok (.iconst 0, 1) := by decide +kernel
theorem dX10_tells_48 : decode cX10_tells 48 = .ok (.istore_n 3, 1) := by decide +kernel
theorem dX10_tells_49 : decode cX10_tells 49 = .ok (.iload_n 3, 1) := by decide +kernel
theorem dX10_tells_50 : decode cX10_tells 50 = .ok (.aload_n 0, 1) := by decide +kernel
theorem dX10_tells_51 : decode cX10_tells 51 = .ok (.getfield 167, 3) := by decide +kernel
theorem dX10_tells_54 : decode cX10_tells 54 = .ok (.if_icmp .ge 63, 3) := by decide +kernel
theorem dX10_tells_57 : decode cX10_tells 57 = .ok (.aload_n 0, 1) := by decide +kernel
theorem dX10_tells_58 : decode cX10_tells 58 = .ok (.getfield 94, 3) := by decide +kernel
theorem dX10_tells_61 : decode cX10_tells 61 = .ok (.iload_n 3, 1) := by decide +kernel
theorem dX10_tells_62 : decode cX10_tells 62 = .ok (.aload_n 0, 1) := by decide +kernel
theorem dX10_tells_63 : decode cX10_tells 63 = .ok (.aload_n 0, 1) := by decide +kernel
theorem dX10_tells_64 : decode cX10_tells 64 = .ok (.getfield 94, 3) := by decide +kernel
theorem dX10_tells_67 : decode cX10_tells 67 = .ok (.iload_n 3, 1) := by decide +kernel
theorem dX10_tells_68 : decode cX10_tells 68 = .ok (.iaload, 1) := by decide +kernel
theorem dX10_tells_69 : decode cX10_tells 69 = .ok (.aload_n 0, 1) := by decide +kernel
theorem dX10_tells_70 : decode cX10_tells 70 = .ok (.getfield 91, 3) := by decide +kernel
theorem dX10_tells_73 : decode cX10_tells 73 = .ok (.iload_n 2, 1) := by decide +kernel
theorem dX10_tells_74 : decode cX10_tells 74 = .ok (.iaload, 1) := by decide +kernel
theorem dX10_tells_75 : decode cX10_tells 75 = .ok (.invokevirtual 254, 3) := by decide +kernel
theorem dX10_tells_78 : decode cX10_tells 78 = .ok (.iastore, 1) := by decide +kernel
theorem dX10_tells_79 : decode cX10_tells 79 = .ok (.aload_n 0, 1) := by decide +kernel
theorem dX10_tells_80 : decode cX10_tells 80 = .ok (.getfield 97, 3) := by decide +kernel
theorem dX10_tells_83 : decode cX10_tells 83 = .ok (.iload_n 3, 1) := by decide +kernel
theorem dX10_tells_84 : decode cX10_tells 84 = .ok (.bipush 7, 2) := by decide +kernel
theorem dX10_tells_86 : decode cX10_tells 86 = .ok (.aload_n 0, 1) := by decide +kernel
theorem dX10_tells_87 : decode cX10_tells 87 = .ok (.getfield 97, 3) := by decide +kernel
theorem dX10_tells_90 : decode cX10_tells 90 = .ok (.iload_n 3, 1) := by decide +kernel
theorem dX10_tells_91 : decode cX10_tells 91 = .ok (.iaload, 1) := by decide +kernel
theorem dX10_tells_92 : decode cX10_tells 92 = .ok (.imul, 1) := by decide +kernel
theorem dX10_tells_93 : decode cX10_tells 93 = .ok (.aload_n 0, 1) := by decide +kernel
theorem dX10_tells_94 : decode cX10_tells 94 = .ok (.getfield 48, 3) := by decide +kernel
theorem dX10_tells_97 : decode cX10_tells 97 = .ok (.aload_n 0, 1) := by decide +kernel
theorem dX10_tells_98 : decode cX10_tells 98 = .ok (.getfield 39, 3) := by decide +kernel
theorem dX10_tells_101 : decode cX10_tells 101 = .ok (.aload_n 0, 1) := by decide +kernel
theorem dX10_tells_102 : decode cX10_tells 102 = .ok (.getfield 94, 3) := by decide +kernel
theorem dX10_tells_105 : decode cX10_tells 105 = .ok (.iload_n 3, 1) := by decide +kernel
theorem dX10_tells_106 : decode cX10_tells 106 = .ok (.iaload, 1) := by decide +kernel
theorem dX10_tells_107 : decode cX10_tells 107 = .ok (.iaload, 1) := by decide +kernel
theorem dX10_tells_108 : decode cX10_tells 108 = .ok (.iaload, 1) := by decide +kernel
theorem dX10_tells_109 : decode cX10_tells 109 = .ok (.iadd, 1) := by decide +kernel
theorem dX10_tells_110 : decode cX10_tells 110 = .ok (.iastore, 1) := by decide +kernel
theorem dX10_tells_111 : decode cX10_tells 111 = .ok (.iinc 3 1, 3) := by decide +kernel
theorem dX10_tells_114 : decode cX10_tells 114 = .ok (.goto (-65), 3) := by decide +kernel
theorem dX10_tells_117 : decode cX10_tells 117 = .ok (.iinc 2 1, 3) := by decide +kernel
theorem dX10_tells_120 : decode cX10_tells 120 = .ok (.goto (-78), 3) := by decide +kernel
theorem dX10_tells_123 : decode cX10_tells 123 = .ok (.iconst 0, 1) := by decide +kernel
theorem dX10_tells_124 : decode cX10_tells 124 = .ok (.istore_n 2, 1) := by decide +kernel
theorem dX10_tells_125 : decode cX10_tells 125 = .ok (.iload_n 2, 1) := by decide +kernel
theorem dX10_tells_126 : decode cX10_tells 126 = .ok (.aload_n 0, 1) := by decide +kernel
theorem dX10_tells_127 : decode cX10_tells 127 = .ok (.getfield 167, 3) := by decide +kernel
theorem dX10_tells_130 : decode cX10_tells 130 = .ok (.if_icmp .ge 54, 3) := by decide +kernel
theorem dX10_tells_133 : decode cX10_tells 133 = .ok (.iconst 0, 1) := by decide +kernel
theorem dX10_tells_134 : decode cX10_tells 134 = .ok (.istore_n 3, 1) := by decide +kernel
theorem dX10_tells_135 : decode cX10_tells 135 = .ok (.iload_n 3, 1) := by decide +kernel
theorem dX10_tells_136 : decode cX10_tells 136 = .ok (.iload_n 2, 1) := by decide +kernel
theorem dX10_tells_137 : decode cX10_tells 137 = .ok (.if_icmp .ge 41, 3) := by decide +kernel
theorem dX10_tells_140 : decode cX10_tells 140 = .ok (.aload_n 0, 1) := by decide +kernel
theorem dX10_tells_141 : decode cX10_tells 141 = .ok (.getfield 97, 3) := by decide +kernel
theorem dX10_tells_144 : decode cX10_tells 144 = .ok (.iload_n 2, 1) := by decide +kernel
theorem dX10_tells_145 : decode cX10_tells 145 = .ok (.iaload, 1) := by decide +kernel
theorem dX10_tells_146 : decode cX10_tells 146 = .ok (.aload_n 0, 1) := by decide +kernel
theorem dX10_tells_147 : decode cX10_tells 147 = .ok (.getfield 97, 3) := by decide +kernel
theorem dX10_tells_150 : decode cX10_tells 150 = .ok (.iload_n 3, 1) := by decide +kernel
theorem dX10_tells_151 : decode cX10_tells 151 = .ok (.iaload, 1) := by decide +kernel
theorem dX10_tells_152 : decode cX10_tells 152 = .ok (.if_icmp .ne 20, 3) := by decide +kernel
theorem dX10_tells_155 : decode cX10_tells 155 = .ok (.aload_n 0, 1) := by decide +kernel
theorem dX10_tells_156 : decode cX10_tells 156 = .ok (.getfield 94, 3) := by decide +kernel
theorem dX10_tells_159 : decode cX10_tells 159 = .ok (.iload_n 2, 1) := by decide +kernel
theorem dX10_tells_160 : decode cX10_tells 160 = .ok (.iaload, 1) := by decide +kernel
theorem dX10_tells_161 : decode cX10_tells 161 = .ok (.aload_n 0, 1) := by decide +kernel
theorem dX10_tells_162 : decode cX10_tells 162 = .ok (.getfield 94, 3) := by decide +kernel
theorem dX10_tells_165 : decode cX10_tells 165 = .ok (.iload_n 3, 1) := by decide +kernel
theorem dX10_tells_166 : decode cX10_tells 166 = .ok (.iaload, 1) := by decide +kernel
theorem dX10_tells_167 : decode cX10_tells 167 = .ok (.if_icmp .eq 5, 3) := by decide +kernel
theorem dX10_tells_170 : decode cX10_tells 170 = .ok (.iconst 0, 1) := by decide +kernel
theorem dX10_tells_171 : decode cX10_tells 171 = .ok (.ireturn, 1) := by decide +kernel
theorem dX10_tells_172 : decode cX10_tells 172 = .ok (.iinc 3 1, 3) := by decide +kernel
theorem dX10_tells_175 : decode cX10_tells 175 = .ok (.goto (-40), 3) := by decide +kernel
theorem dX10_tells_178 : decode cX10_tells 178 = .ok (.iinc 2 1, 3) := by decide +kernel
theorem dX10_tells_181 : decode cX10_tells 181 = .ok (.goto (-56), 3) := by decide +kernel
theorem dX10_tells_184 : decode cX10_tells 184 = .ok (.iconst 1, 1) := by decide +kernel
theorem dX10_tells_185 : decode cX10_tells 185 = .ok (.ireturn, 1) := by decide +kernel
theorem dX10_home_0 : decode cX10_home 0 = .ok (.aload_n 0, 1) := by decide +kernel
theorem dX10_home_1 : decode cX10_home 1 = .ok (.iconst 0, 1) := by decide +kernel
theorem dX10_home_2 : decode cX10_home 2 = .ok (.putfield 100, 3) := by decide +kernel
theorem dX10_home_5 : decode cX10_home 5 = .ok (.iconst 1, 1) := by decide +kernel
theorem dX10_home_6 : decode cX10_home 6 = .ok (.istore_n 1, 1) := by decide +kernel
theorem dX10_home_7 : decode cX10_home 7 = .ok (.iconst 0, 1) := by decide +kernel
theorem dX10_home_8 : decode cX10_home 8 = .ok (.istore_n 2, 1) := by decide +kernel
theorem dX10_home_9 : decode cX10_home 9 = .ok (.iload_n 2, 1) := by decide +kernel
theorem dX10_home_10 : decode cX10_home 10 = .ok (.bipush 6, 2) := by decide +kernel
theorem dX10_home_12 : decode cX10_home 12 = .ok (.if_icmp .ge 112, 3) := by decide +kernel
theorem dX10_home_15 : decode cX10_home 15 = .ok (.iconst 0, 1) := by decide +kernel
theorem dX10_home_16 : decode cX10_home 16 = .ok (.istore_n 3, 1) := by decide +kernel
theorem dX10_home_17 : decode cX10_home 17 = .ok (.iload_n 3, 1) := by decide +kernel
theorem dX10_home_18 : decode cX10_home 18 = .ok (.iload_n 1, 1) := by decide +kernel
theorem dX10_home_19 : decode cX10_home 19 = .ok (.if_icmp .ge 94, 3) := by decide +kernel
theorem dX10_home_22 : decode cX10_home 22 = .ok (.iload_n 3, 1) := by decide +kernel
theorem dX10_home_23 : decode cX10_home 23 = .ok (.istore 4, 2) := by decide +kernel
theorem dX10_home_25 : decode cX10_home 25 = .ok (.iload_n 2, 1) := by decide +kernel
theorem dX10_home_26 : decode cX10_home 26 = .ok (.iconst 1, 1) := by decide +kernel
theorem dX10_home_27 : decode cX10_home 27 = .ok (.isub, 1) := by decide +kernel
theorem dX10_home_28 : decode cX10_home 28 = .ok (.istore 5, 2) := by decide +kernel
theorem dX10_home_30 : decode cX10_home 30 = .ok (.iload 5, 2) := by decide +kernel
theorem dX10_home_32 : decode cX10_home 32 = .ok (.ifCond .lt 28, 3) := by decide +kernel
theorem dX10_home_35 : decode cX10_home 35 = .ok (.aload_n 0, 1) := by decide +kernel
theorem dX10_home_36 : decode cX10_home 36 = .ok (.getfield 91, 3) := by decide +kernel
theorem dX10_home_39 : decode cX10_home 39 = .ok (.iload 5, 2) := by decide +kernel
theorem dX10_home_41 : decode cX10_home 41 = .ok (.iload 4, 2) := by decide +kernel
theorem dX10_home_43 : decode cX10_home 43 = .ok (.bipush 6, 2) := by decide +kernel
theorem dX10_home_45 : decode cX10_home 45 = .ok (.irem, 1) := by decide +kernel
theorem dX10_home_46 : decode cX10_home 46 = .ok (.iastore, 1) := by decide +kernel
theorem dX10_home_47 : decode cX10_home 47 = .ok (.iload 4, 2) := by decide +kernel
theorem dX10_home_49 : decode cX10_home 49 = .ok (.bipush 6, 2) := by decide +kernel
theorem dX10_home_51 : decode cX10_home 51 = .ok (.idiv, 1) := by decide +kernel
theorem dX10_home_52 : decode cX10_home 52 = .ok (.istore 4, 2) := by decide +kernel
theorem dX10_home_54 : decode cX10_home 54 = .ok (.iinc 5 (-1), 3) := by decide +kernel
theorem dX10_home_57 : decode cX10_home 57 = .ok (.goto (-27), 3) := by decide +kernel
theorem dX10_home_60 : decode cX10_home 60 = .ok (.aload_n 0, 1) := by decide +kernel
theorem dX10_home_61 : decode cX10_home 61 = .ok (.iload_n 2, 1) := by decide +kernel
theorem dX10_home_62 : decode cX10_home 62 = .ok (.invokevirtual 257, 3) := by decide +kernel
theorem dX10_home_65 : decode cX10_home 65 = .ok (.ifCond .ne 6, 3) := by decide +kernel
theorem dX10_home_68 : decode cX10_home 68 = .ok (.goto 39, 3) := by decide +kernel
theorem dX10_home_71 : decode cX10_home 71 = .ok (.aload_n 0, 1) := by decide +kernel
theorem dX10_home_72 : decode cX10_home 72 = .ok (.iload_n 2, 1) := by decide +kernel
theorem dX10_home_73 : decode cX10_home 73 = .ok (.putfield 260, 3) := by decide +kernel
theorem dX10_home_76 : decode cX10_home 76 = .ok (.iconst 0, 1) := by decide +kernel
theorem dX10_home_77 : decode cX10_home 77 = .ok (.istore 5, 2) := by decide +kernel
theorem dX10_home_79 : decode cX10_home 79 = .ok (.iload 5, 2) := by decide +kernel
theorem dX10_home_81 : decode cX10_home 81 = .ok (.iload_n 2, 1) := by decide +kernel
theorem dX10_home_82 : decode cX10_home 82 = .ok (.if_icmp .ge 23, 3) := by decide +kernel
theorem dX10_home_85 : decode cX10_home 85 = .ok (.aload_n 0, 1) := by decide +kernel
theorem dX10_home_86 : decode cX10_home 86 = .ok (.getfield 88, 3) := by decide +kernel
theorem dX10_home_89 : decode cX10_home 89 = .ok (.iload 5, 2) := by decide +kernel
theorem dX10_home_91 : decode cX10_home 91 = .ok (.aload_n 0, 1) := by decide +kernel
theorem dX10_home_92 : decode cX10_home 92 = .ok (.getfield 91, 3) := by decide +kernel
theorem dX10_home_95 : decode cX10_home 95 = .ok (.iload 5, 2) := by decide +kernel
theorem dX10_home_97 : decode cX10_home 97 = .ok (.iaload, 1) := by decide +kernel
theorem dX10_home_98 : decode cX10_home 98 = .ok (.iastore, 1) := by decide +kernel
theorem dX10_home_99 : decode cX10_home 99 = .ok (.iinc 5 1, 3) := by decide +kernel
theorem dX10_home_102 : decode cX10_home 102 = .ok (.goto (-23), 3) := by decide +kernel
theorem dX10_home_105 : decode cX10_home 105 = .ok (.iload_n 2, 1) := by decide +kernel
theorem dX10_home_106 : decode cX10_home 106 = .ok (.ireturn, 1) := by decide +kernel
theorem dX10_home_107 : decode cX10_home 107 = .ok (.iinc 3 1, 3) := by decide +kernel
theorem dX10_home_110 : decode cX10_home 110 = .ok (.goto (-93), 3) := by decide +kernel
theorem dX10_home_113 : decode cX10_home 113 = .ok (.iload_n 1, 1) := by decide +kernel
theorem dX10_home_114 : decode cX10_home 114 = .ok (.bipush 6, 2) := by decide +kernel
theorem dX10_home_116 : decode cX10_home 116 = .ok (.imul, 1) := by decide +kernel
theorem dX10_home_117 : decode cX10_home 117 = .ok (.istore_n 1, 1) := by decide +kernel
theorem dX10_home_118 : decode cX10_home 118 = .ok (.iinc 2 1, 3) := by decide +kernel
theorem dX10_home_121 : decode cX10_home 121 = .ok (.goto (-112), 3) := by decide +kernel
theorem dX10_home_124 : decode cX10_home 124 = .ok (.iconst (-1), 1) := by decide +kernel
theorem dX10_home_125 : decode cX10_home 125 = .ok (.ireturn, 1) := by decide +kernel
theorem dX10_homing_0 : decode cX10_homing 0 = .ok (.aload_n 0, 1) := by decide +kernel
theorem dX10_homing_1 : decode cX10_homing 1 = .ok (.iconst 0, 1) := by decide +kernel
theorem dX10_homing_2 : decode cX10_homing 2 = .ok (.putfield 100, 3) := by decide +kernel
theorem dX10_homing_5 : decode cX10_homing 5 = .ok (.iload_n 1, 1) := by decide +kernel
theorem dX10_homing_6 : decode cX10_homing 6 = .ok (.ifCond .lt 11, 3) := by decide +kernel
theorem dX10_homing_9 : decode cX10_homing 9 = .ok (.iload_n 1, 1) := by decide +kernel
theorem dX10_homing_10 : decode cX10_homing 10 = .ok (.aload_n 0, 1) := by decide +kernel
theorem dX10_homing_11 : decode cX10_homing 11 = .ok (.getfield 260, 3) := by decide +kernel
theorem dX10_homing_14 : decode cX10_homing 14 = .ok (.if_icmp .lt 7, 3) := by decide +kernel
theorem dX10_homing_17 : decode cX10_homing 17 = .ok (.iconst (-1), 1) := by decide +kernel
theorem dX10_homing_18 : decode cX10_homing 18 = .ok (.goto 9, 3) := by decide +kernel
theorem dX10_homing_21 : decode cX10_homing 21 = .ok (.aload_n 0, 1) := by decide +kernel
theorem dX10_homing_22 : decode cX10_homing 22 = .ok (.getfield 88, 3) := by decide +kernel
theorem dX10_homing_25 : decode cX10_homing 25 = .ok (.iload_n 1, 1) := by decide +kernel
theorem dX10_homing_26 : decode cX10_homing 26 = .ok (.iaload, 1) := by decide +kernel
theorem dX10_homing_27 : decode cX10_homing 27 = .ok (.ireturn, 1) := by decide +kernel
theorem dX10_fails_0 : decode cX10_fails 0 = .ok (.aload_n 0, 1) := by decide +kernel
theorem dX10_fails_1 : decode cX10_fails 1 = .ok (.iload_n 1, 1) := by decide +kernel
theorem dX10_fails_2 : decode cX10_fails 2 = .ok (.putfield 100, 3) := by decide +kernel
theorem dX10_fails_5 : decode cX10_fails 5 = .ok (.iconst 0, 1) := by decide +kernel
theorem dX10_fails_6 : decode cX10_fails 6 = .ok (.ireturn, 1) := by decide +kernel
theorem dX10_look_0 : decode cX10_look 0 = .ok (.aload_n 0, 1) := by decide +kernel
theorem dX10_look_1 : decode cX10_look 1 = .ok (.iconst 0, 1) := by decide +kernel
theorem dX10_look_2 : decode cX10_look 2 = .ok (.putfield 100, 3) := by decide +kernel
theorem dX10_look_5 : decode cX10_look 5 = .ok (.aload_n 0, 1) := by decide +kernel
theorem dX10_look_6 : decode cX10_look 6 = .ok (.iload_n 1, 1) := by decide +kernel
theorem dX10_look_7 : decode cX10_look 7 = .ok (.invokevirtual 218, 3) := by decide +kernel
theorem dX10_look_10 : decode cX10_look 10 = .ok (.ifCond .ne 9, 3) := by decide +kernel
theorem dX10_look_13 : decode cX10_look 13 = .ok (.aload_n 0, 1) := by decide +kernel
theorem dX10_look_14 : decode cX10_look 14 = .ok (.iconst 1, 1) := by decide +kernel
theorem dX10_look_15 : decode cX10_look 15 = .ok (.invokevirtual 263, 3) := by decide +kernel
theorem dX10_look_18 : decode cX10_look 18 = .ok (.ireturn, 1) := by decide +kernel
theorem dX10_look_19 : decode cX10_look 19 = .ok (.iload_n 2, 1) := by decide +kernel
theorem dX10_look_20 : decode cX10_look 20 = .ok (.tableswitch 76 0 3 #[32, 39, 53, 62], 32) := by decide +kernel
theorem dX10_look_52 : decode cX10_look 52 = .ok (.aload_n 0, 1) := by decide +kernel
theorem dX10_look_53 : decode cX10_look 53 = .ok (.getfield 39, 3) := by decide +kernel
theorem dX10_look_56 : decode cX10_look 56 = .ok (.iload_n 1, 1) := by decide +kernel
theorem dX10_look_57 : decode cX10_look 57 = .ok (.iaload, 1) := by decide +kernel
theorem dX10_look_58 : decode cX10_look 58 = .ok (.ireturn, 1) := by decide +kernel
theorem dX10_look_59 : decode cX10_look 59 = .ok (.iload_n 1, 1) := by decide +kernel
theorem dX10_look_60 : decode cX10_look 60 = .ok (.aload_n 0, 1) := by decide +kernel
theorem dX10_look_61 : decode cX10_look 61 = .ok (.getfield 51, 3) := by decide +kernel
theorem dX10_look_64 : decode cX10_look 64 = .ok (.aload_n 0, 1) := by decide +kernel
theorem dX10_look_65 : decode cX10_look 65 = .ok (.getfield 39, 3) := by decide +kernel
theorem dX10_look_68 : decode cX10_look 68 = .ok (.iload_n 1, 1) := by decide +kernel
theorem dX10_look_69 : decode cX10_look 69 = .ok (.iaload, 1) := by decide +kernel
theorem dX10_look_70 : decode cX10_look 70 = .ok (.iaload, 1) := by decide +kernel
theorem dX10_look_71 : decode cX10_look 71 = .ok (.isub, 1) := by decide +kernel
theorem dX10_look_72 : decode cX10_look 72 = .ok (.ireturn, 1) := by decide +kernel
theorem dX10_look_73 : decode cX10_look 73 = .ok (.aload_n 0, 1) := by decide +kernel
theorem dX10_look_74 : decode cX10_look 74 = .ok (.getfield 42, 3) := by decide +kernel
theorem dX10_look_77 : decode cX10_look 77 = .ok (.iload_n 1, 1) := by decide +kernel
theorem dX10_look_78 : decode cX10_look 78 = .ok (.iaload, 1) := by decide +kernel
theorem dX10_look_79 : decode cX10_look 79 = .ok (.iconst 2, 1) := by decide +kernel
theorem dX10_look_80 : decode cX10_look 80 = .ok (.idiv, 1) := by decide +kernel
theorem dX10_look_81 : decode cX10_look 81 = .ok (.ireturn, 1) := by decide +kernel
theorem dX10_look_82 : decode cX10_look 82 = .ok (.aload_n 0, 1) := by decide +kernel
theorem dX10_look_83 : decode cX10_look 83 = .ok (.getfield 45, 3) := by decide +kernel
theorem dX10_look_86 : decode cX10_look 86 = .ok (.aload_n 0, 1) := by decide +kernel
theorem dX10_look_87 : decode cX10_look 87 = .ok (.getfield 42, 3) := by decide +kernel
theorem dX10_look_90 : decode cX10_look 90 = .ok (.iload_n 1, 1) := by decide +kernel
theorem dX10_look_91 : decode cX10_look 91 = .ok (.iaload, 1) := by decide +kernel
theorem dX10_look_92 : decode cX10_look 92 = .ok (.iconst 1, 1) := by decide +kernel
theorem dX10_look_93 : decode cX10_look 93 = .ok (.ixor, 1) := by decide +kernel
theorem dX10_look_94 : decode cX10_look 94 = .ok (.iaload, 1) := by decide +kernel
theorem dX10_look_95 : decode cX10_look 95 = .ok (.ireturn, 1) := by decide +kernel
theorem dX10_look_96 : decode cX10_look 96 = .ok (.aload_n 0, 1) := by decide +kernel
theorem dX10_look_97 : decode cX10_look 97 = .ok (.iconst 2, 1) := by decide +kernel
theorem dX10_look_98 : decode cX10_look 98 = .ok (.invokevirtual 263, 3) := by decide +kernel
theorem dX10_look_101 : decode cX10_look 101 = .ok (.ireturn, 1) := by decide +kernel
theorem dX10_count_0 : decode cX10_count 0 = .ok (.aload_n 0, 1) := by decide +kernel
theorem dX10_count_1 : decode cX10_count 1 = .ok (.iconst 0, 1) := by decide +kernel
theorem dX10_count_2 : decode cX10_count 2 = .ok (.putfield 100, 3) := by decide +kernel
theorem dX10_count_5 : decode cX10_count 5 = .ok (.iconst 0, 1) := by decide +kernel
theorem dX10_count_6 : decode cX10_count 6 = .ok (.istore_n 2, 1) := by decide +kernel
theorem dX10_count_7 : decode cX10_count 7 = .ok (.iload_n 1, 1) := by decide +kernel
theorem dX10_count_8 : decode cX10_count 8 = .ok (.tableswitch 100 0 5 #[40, 45, 50, 55, 90, 95], 40) := by decide +kernel
theorem dX10_count_48 : decode cX10_count 48 = .ok (.aload_n 0, 1) := by decide +kernel
theorem dX10_count_49 : decode cX10_count 49 = .ok (.getfield 170, 3) := by decide +kernel
theorem dX10_count_52 : decode cX10_count 52 = .ok (.ireturn, 1) := by decide +kernel
theorem dX10_count_53 : decode cX10_count 53 = .ok (.aload_n 0, 1) := by decide +kernel
theorem dX10_count_54 : decode cX10_count 54 = .ok (.getfield 173, 3) := by decide +kernel
theorem dX10_count_57 : decode cX10_count 57 = .ok (.ireturn, 1) := by decide +kernel
theorem dX10_count_58 : decode cX10_count 58 = .ok (.aload_n 0, 1) := by decide +kernel
theorem dX10_count_59 : decode cX10_count 59 = .ok (.getfield 167, 3) := by decide +kernel
theorem dX10_count_62 : decode cX10_count 62 = .ok (.ireturn, 1) := by decide +kernel
theorem dX10_count_63 : decode cX10_count 63 = .ok (.iconst 0, 1) := by decide +kernel
theorem dX10_count_64 : decode cX10_count 64 = .ok (.istore_n 3, 1) := by decide +kernel
theorem dX10_count_65 : decode cX10_count 65 = .ok (.iload_n 3, 1) := by decide +kernel
theorem dX10_count_66 : decode cX10_count 66 = .ok (.aload_n 0, 1) := by decide +kernel
theorem dX10_count_67 : decode cX10_count 67 = .ok (.getfield 170, 3) := by decide +kernel
theorem dX10_count_70 : decode cX10_count 70 = .ok (.if_icmp .ge 26, 3) := by decide +kernel
theorem dX10_count_73 : decode cX10_count 73 = .ok (.iload_n 2, 1) := by decide +kernel
theorem dX10_count_74 : decode cX10_count 74 = .ok (.aload_n 0, 1) := by decide +kernel
theorem dX10_count_75 : decode cX10_count 75 = .ok (.getfield 24, 3) := by decide +kernel
theorem dX10_count_78 : decode cX10_count 78 = .ok (.iload_n 3, 1) := by decide +kernel
theorem dX10_count_79 : decode cX10_count 79 = .ok (.baload, 1) := by decide +kernel
theorem dX10_count_80 : decode cX10_count 80 = .ok (.ifCond .eq 7, 3) := by decide +kernel
theorem dX10_count_83 : decode cX10_count 83 = .ok (.iconst 1, 1) := by decide +kernel
theorem dX10_count_84 : decode cX10_count 84 = .ok (.goto 4, 3) := by decide +kernel
theorem dX10_count_87 : decode cX10_count 87 = .ok (.iconst 0, 1) := by decide +kernel
theorem dX10_count_88 : decode cX10_count 88 = .ok (.iadd, 1) := by decide +kernel
theorem dX10_count_89 : decode cX10_count 89 = .ok (.istore_n 2, 1) := by decide +kernel
theorem dX10_count_90 : decode cX10_count 90 = .ok (.iinc 3 1, 3) := by decide +kernel
theorem dX10_count_93 : decode cX10_count 93 = .ok (.goto (-28), 3) := by decide +kernel
theorem dX10_count_96 : decode cX10_count 96 = .ok (.iload_n 2, 1) := by decide +kernel
theorem dX10_count_97 : decode cX10_count 97 = .ok (.ireturn, 1) := by decide +kernel
theorem dX10_count_98 : decode cX10_count 98 = .ok (.aload_n 0, 1) := by decide +kernel
theorem dX10_count_99 : decode cX10_count 99 = .ok (.getfield 85, 3) := by decide +kernel
theorem dX10_count_102 : decode cX10_count 102 = .ok (.ireturn, 1) := by decide +kernel
theorem dX10_count_103 : decode cX10_count 103 = .ok (.aload_n 0, 1) := by decide +kernel
theorem dX10_count_104 : decode cX10_count 104 = .ok (.getfield 161, 3) := by decide +kernel
theorem dX10_count_107 : decode cX10_count 107 = .ok (.ireturn, 1) := by decide +kernel
theorem dX10_count_108 : decode cX10_count 108 = .ok (.iconst (-1), 1) := by decide +kernel
theorem dX10_count_109 : decode cX10_count 109 = .ok (.ireturn, 1) := by decide +kernel
theorem dJ6_bitCount_0f7a4_0 : decode cJ6_bitCount_0f7a4 0 = .ok (.iload_n 0, 1) := by decide +kernel
theorem dJ6_bitCount_0f7a4_1 : decode cJ6_bitCount_0f7a4 1 = .ok (.iload_n 0, 1) := by decide +kernel
theorem dJ6_bitCount_0f7a4_2 : decode cJ6_bitCount_0f7a4 2 = .ok (.iconst 1, 1) := by decide +kernel
theorem dJ6_bitCount_0f7a4_3 : decode cJ6_bitCount_0f7a4 3 = .ok (.iushr, 1) := by decide +kernel
theorem dJ6_bitCount_0f7a4_4 : decode cJ6_bitCount_0f7a4 4 = .ok (.ldc_w 265, 3) := by decide +kernel
theorem dJ6_bitCount_0f7a4_7 : decode cJ6_bitCount_0f7a4 7 = .ok (.iand, 1) := by decide +kernel
theorem dJ6_bitCount_0f7a4_8 : decode cJ6_bitCount_0f7a4 8 = .ok (.isub, 1) := by decide +kernel
theorem dJ6_bitCount_0f7a4_9 : decode cJ6_bitCount_0f7a4 9 = .ok (.istore_n 0, 1) := by decide +kernel
theorem dJ6_bitCount_0f7a4_10 : decode cJ6_bitCount_0f7a4 10 = .ok (.iload_n 0, 1) := by decide +kernel
theorem dJ6_bitCount_0f7a4_11 : decode cJ6_bitCount_0f7a4 11 = .ok (.ldc_w 266, 3) := by decide +kernel
theorem dJ6_bitCount_0f7a4_14 : decode cJ6_bitCount_0f7a4 14 = .ok (.iand, 1) := by decide +kernel
theorem dJ6_bitCount_0f7a4_15 : decode cJ6_bitCount_0f7a4 15 = .ok (.iload_n 0, 1) := by decide +kernel
theorem dJ6_bitCount_0f7a4_16 : decode cJ6_bitCount_0f7a4 16 = .ok (.iconst 2, 1) := by decide +kernel
theorem dJ6_bitCount_0f7a4_17 : decode cJ6_bitCount_0f7a4 17 = .ok (.iushr, 1) := by decide +kernel
theorem dJ6_bitCount_0f7a4_18 : decode cJ6_bitCount_0f7a4 18 = .ok (.ldc_w 266, 3) := by decide +kernel
theorem dJ6_bitCount_0f7a4_21 : decode cJ6_bitCount_0f7a4 21 = .ok (.iand, 1) := by decide +kernel
theorem dJ6_bitCount_0f7a4_22 : decode cJ6_bitCount_0f7a4 22 = .ok (.iadd, 1) := by decide +kernel
theorem dJ6_bitCount_0f7a4_23 : decode cJ6_bitCount_0f7a4 23 = .ok (.istore_n 0, 1) := by decide +kernel
theorem dJ6_bitCount_0f7a4_24 : decode cJ6_bitCount_0f7a4 24 = .ok (.iload_n 0, 1) := by decide +kernel
theorem dJ6_bitCount_0f7a4_25 : decode cJ6_bitCount_0f7a4 25 = .ok (.iload_n 0, 1) := by decide +kernel
theorem dJ6_bitCount_0f7a4_26 : decode cJ6_bitCount_0f7a4 26 = .ok (.iconst 4, 1) := by decide +kernel
theorem dJ6_bitCount_0f7a4_27 : decode cJ6_bitCount_0f7a4 27 = .ok (.iushr, 1) := by decide +kernel
theorem dJ6_bitCount_0f7a4_28 : decode cJ6_bitCount_0f7a4 28 = .ok (.iadd, 1) := by decide +kernel
theorem dJ6_bitCount_0f7a4_29 : decode cJ6_bitCount_0f7a4 29 = .ok (.ldc_w 267, 3) := by decide +kernel
theorem dJ6_bitCount_0f7a4_32 : decode cJ6_bitCount_0f7a4 32 = .ok (.iand, 1) := by decide +kernel
theorem dJ6_bitCount_0f7a4_33 : decode cJ6_bitCount_0f7a4 33 = .ok (.istore_n 0, 1) := by decide +kernel
theorem dJ6_bitCount_0f7a4_34 : decode cJ6_bitCount_0f7a4 34 = .ok (.iload_n 0, 1) := by decide +kernel
theorem dJ6_bitCount_0f7a4_35 : decode cJ6_bitCount_0f7a4 35 = .ok (.iload_n 0, 1) := by decide +kernel
theorem dJ6_bitCount_0f7a4_36 : decode cJ6_bitCount_0f7a4 36 = .ok (.bipush 8, 2) := by decide +kernel
theorem dJ6_bitCount_0f7a4_38 : decode cJ6_bitCount_0f7a4 38 = .ok (.iushr, 1) := by decide +kernel
theorem dJ6_bitCount_0f7a4_39 : decode cJ6_bitCount_0f7a4 39 = .ok (.iadd, 1) := by decide +kernel
theorem dJ6_bitCount_0f7a4_40 : decode cJ6_bitCount_0f7a4 40 = .ok (.istore_n 0, 1) := by decide +kernel
theorem dJ6_bitCount_0f7a4_41 : decode cJ6_bitCount_0f7a4 41 = .ok (.iload_n 0, 1) := by decide +kernel
theorem dJ6_bitCount_0f7a4_42 : decode cJ6_bitCount_0f7a4 42 = .ok (.iload_n 0, 1) := by decide +kernel
theorem dJ6_bitCount_0f7a4_43 : decode cJ6_bitCount_0f7a4 43 = .ok (.bipush 16, 2) := by decide +kernel
theorem dJ6_bitCount_0f7a4_45 : decode cJ6_bitCount_0f7a4 45 = .ok (.iushr, 1) := by decide +kernel
theorem dJ6_bitCount_0f7a4_46 : decode cJ6_bitCount_0f7a4 46 = .ok (.iadd, 1) := by decide +kernel
theorem dJ6_bitCount_0f7a4_47 : decode cJ6_bitCount_0f7a4 47 = .ok (.istore_n 0, 1) := by decide +kernel
theorem dJ6_bitCount_0f7a4_48 : decode cJ6_bitCount_0f7a4 48 = .ok (.iload_n 0, 1) := by decide +kernel
theorem dJ6_bitCount_0f7a4_49 : decode cJ6_bitCount_0f7a4 49 = .ok (.bipush 63, 2) := by decide +kernel
theorem dJ6_bitCount_0f7a4_51 : decode cJ6_bitCount_0f7a4 51 = .ok (.iand, 1) := by decide +kernel
theorem dJ6_bitCount_0f7a4_52 : decode cJ6_bitCount_0f7a4 52 = .ok (.ireturn, 1) := by decide +kernel
theorem dJ9_min_7cf53_0 : decode cJ9_min_7cf53 0 = .ok (.iload_n 0, 1) := by decide +kernel
theorem dJ9_min_7cf53_1 : decode cJ9_min_7cf53 1 = .ok (.iload_n 1, 1) := by decide +kernel
theorem dJ9_min_7cf53_2 : decode cJ9_min_7cf53 2 = .ok (.if_icmp .gt 7, 3) := by decide +kernel
theorem dJ9_min_7cf53_5 : decode cJ9_min_7cf53 5 = .ok (.iload_n 0, 1) := by decide +kernel
theorem dJ9_min_7cf53_6 : decode cJ9_min_7cf53 6 = .ok (.goto 4, 3) := by decide +kernel
theorem dJ9_min_7cf53_9 : decode cJ9_min_7cf53 9 = .ok (.iload_n 1, 1) := by decide +kernel
theorem dJ9_min_7cf53_10 : decode cJ9_min_7cf53 10 = .ok (.ireturn, 1) := by decide +kernel
theorem dL_look_0 : decode cL_look 0 = .ok (.aload_n 3, 1) := by decide +kernel
theorem dL_look_1 : decode cL_look 1 = .ok (.iconst 0, 1) := by decide +kernel
theorem dL_look_2 : decode cL_look 2 = .ok (.aload_n 0, 1) := by decide +kernel
theorem dL_look_3 : decode cL_look 3 = .ok (.iload_n 1, 1) := by decide +kernel
theorem dL_look_4 : decode cL_look 4 = .ok (.iload_n 2, 1) := by decide +kernel
theorem dL_look_5 : decode cL_look 5 = .ok (.invokevirtual 7, 3) := by decide +kernel
theorem dL_look_8 : decode cL_look 8 = .ok (.i2l, 1) := by decide +kernel
theorem dL_look_9 : decode cL_look 9 = .ok (.lastore, 1) := by decide +kernel
theorem dL_look_10 : decode cL_look 10 = .ok (.goto 11, 3) := by decide +kernel
theorem dL_look_13 : decode cL_look 13 = .ok (.astore 4, 2) := by decide +kernel
theorem dL_look_15 : decode cL_look 15 = .ok (.iconst 1, 1) := by decide +kernel
theorem dL_look_16 : decode cL_look 16 = .ok (.ireturn, 1) := by decide +kernel
theorem dL_look_17 : decode cL_look 17 = .ok (.astore 4, 2) := by decide +kernel
theorem dL_look_19 : decode cL_look 19 = .ok (.iconst 2, 1) := by decide +kernel
theorem dL_look_20 : decode cL_look 20 = .ok (.ireturn, 1) := by decide +kernel
theorem dL_look_21 : decode cL_look 21 = .ok (.iconst 0, 1) := by decide +kernel
theorem dL_look_22 : decode cL_look 22 = .ok (.ireturn, 1) := by decide +kernel
theorem dL_law_0 : decode cL_law 0 = .ok (.new 8, 3) := by decide +kernel
theorem dL_law_3 : decode cL_law 3 = .ok (.dup, 1) := by decide +kernel
theorem dL_law_4 : decode cL_law 4 = .ok (.invokespecial 17, 3) := by decide +kernel
theorem dL_law_7 : decode cL_law 7 = .ok (.astore_n 1, 1) := by decide +kernel
theorem dL_law_8 : decode cL_law 8 = .ok (.new 18, 3) := by decide +kernel
theorem dL_law_11 : decode cL_law 11 = .ok (.dup, 1) := by decide +kernel
theorem dL_law_12 : decode cL_law 12 = .ok (.invokespecial 20, 3) := by decide +kernel
theorem dL_law_15 : decode cL_law 15 = .ok (.astore_n 2, 1) := by decide +kernel
theorem dL_law_16 : decode cL_law 16 = .ok (.iconst 1, 1) := by decide +kernel
theorem dL_law_17 : decode cL_law 17 = .ok (.newarray .long, 2) := by decide +kernel
theorem dL_law_19 : decode cL_law 19 = .ok (.astore_n 3, 1) := by decide +kernel
theorem dL_law_20 : decode cL_law 20 = .ok (.iconst 0, 1) := by decide +kernel
theorem dL_law_21 : decode cL_law 21 = .ok (.istore 4, 2) := by decide +kernel
theorem dL_law_23 : decode cL_law 23 = .ok (.iload 4, 2) := by decide +kernel
theorem dL_law_25 : decode cL_law 25 = .ok (.aload_n 0, 1) := by decide +kernel
theorem dL_law_26 : decode cL_law 26 = .ok (.arraylength, 1) := by decide +kernel
theorem dL_law_27 : decode cL_law 27 = .ok (.bipush 6, 2) := by decide +kernel
theorem dL_law_29 : decode cL_law 29 = .ok (.isub, 1) := by decide +kernel
theorem dL_law_30 : decode cL_law 30 = .ok (.if_icmp .gt 846, 3) := by decide +kernel
theorem dL_law_33 : decode cL_law 33 = .ok (.aload_n 0, 1) := by decide +kernel
theorem dL_law_34 : decode cL_law 34 = .ok (.iload 4, 2) := by decide +kernel
theorem dL_law_36 : decode cL_law 36 = .ok (.iaload, 1) := by decide +kernel
theorem dL_law_37 : decode cL_law 37 = .ok (.bipush 31, 2) := by decide +kernel
theorem dL_law_39 : decode cL_law 39 = .ok (.iand, 1) := by decide +kernel
theorem dL_law_40 : decode cL_law 40 = .ok (.tableswitch 830 0 21 #[104, 177, 202, 227, 238, 279, 316, 369, 394, 431, 484, 521, 546, 571, 585, 610, 635, 661, 699, 712, 737, 805], 104) := by decide +kernel
theorem dL_law_144 : decode cL_law 144 = .ok (.aload_n 1, 1) := by decide +kernel
theorem dL_law_145 : decode cL_law 145 = .ok (.aload_n 0, 1) := by decide +kernel
theorem dL_law_146 : decode cL_law 146 = .ok (.iload 4, 2) := by decide +kernel
theorem dL_law_148 : decode cL_law 148 = .ok (.iconst 1, 1) := by decide +kernel
theorem dL_law_149 : decode cL_law 149 = .ok (.iadd, 1) := by decide +kernel
theorem dL_law_150 : decode cL_law 150 = .ok (.iaload, 1) := by decide +kernel
theorem dL_law_151 : decode cL_law 151 = .ok (.aload_n 0, 1) := by decide +kernel
theorem dL_law_152 : decode cL_law 152 = .ok (.iload 4, 2) := by decide +kernel
theorem dL_law_154 : decode cL_law 154 = .ok (.iconst 2, 1) := by decide +kernel
theorem dL_law_155 : decode cL_law 155 = .ok (.iadd, 1) := by decide +kernel
theorem dL_law_156 : decode cL_law 156 = .ok (.iaload, 1) := by decide +kernel
theorem dL_law_157 : decode cL_law 157 = .ok (.aload_n 0, 1) := by decide +kernel
theorem dL_law_158 : decode cL_law 158 = .ok (.iload 4, 2) := by decide +kernel
theorem dL_law_160 : decode cL_law 160 = .ok (.iconst 3, 1) := by decide +kernel
theorem dL_law_161 : decode cL_law 161 = .ok (.iadd, 1) := by decide +kernel
theorem dL_law_162 : decode cL_law 162 = .ok (.iaload, 1) := by decide +kernel
theorem dL_law_163 : decode cL_law 163 = .ok (.aload_n 0, 1) := by decide +kernel
theorem dL_law_164 : decode cL_law 164 = .ok (.iload 4, 2) := by decide +kernel
theorem dL_law_166 : decode cL_law 166 = .ok (.iconst 4, 1) := by decide +kernel
theorem dL_law_167 : decode cL_law 167 = .ok (.iadd, 1) := by decide +kernel
theorem dL_law_168 : decode cL_law 168 = .ok (.iaload, 1) := by decide +kernel
theorem dL_law_169 : decode cL_law 169 = .ok (.aload_n 0, 1) := by decide +kernel
theorem dL_law_170 : decode cL_law 170 = .ok (.iload 4, 2) := by decide +kernel
theorem dL_law_172 : decode cL_law 172 = .ok (.iconst 5, 1) := by decide +kernel
theorem dL_law_173 : decode cL_law 173 = .ok (.iadd, 1) := by decide +kernel
theorem dL_law_174 : decode cL_law 174 = .ok (.iaload, 1) := by decide +kernel
theorem dL_law_175 : decode cL_law 175 = .ok (.invokevirtual 21, 3) := by decide +kernel
theorem dL_law_178 : decode cL_law 178 = .ok (.aload_n 2, 1) := by decide +kernel
theorem dL_law_179 : decode cL_law 179 = .ok (.aload_n 0, 1) := by decide +kernel
theorem dL_law_180 : decode cL_law 180 = .ok (.iload 4, 2) := by decide +kernel
theorem dL_law_182 : decode cL_law 182 = .ok (.iconst 1, 1) := by decide +kernel
theorem dL_law_183 : decode cL_law 183 = .ok (.iadd, 1) := by decide +kernel
theorem dL_law_184 : decode cL_law 184 = .ok (.iaload, 1) := by decide +kernel
theorem dL_law_185 : decode cL_law 185 = .ok (.aload_n 0, 1) := by decide +kernel
theorem dL_law_186 : decode cL_law 186 = .ok (.iload 4, 2) := by decide +kernel
theorem dL_law_188 : decode cL_law 188 = .ok (.iconst 2, 1) := by decide +kernel
theorem dL_law_189 : decode cL_law 189 = .ok (.iadd, 1) := by decide +kernel
theorem dL_law_190 : decode cL_law 190 = .ok (.iaload, 1) := by decide +kernel
theorem dL_law_191 : decode cL_law 191 = .ok (.aload_n 0, 1) := by decide +kernel
theorem dL_law_192 : decode cL_law 192 = .ok (.iload 4, 2) := by decide +kernel
theorem dL_law_194 : decode cL_law 194 = .ok (.iconst 3, 1) := by decide +kernel
theorem dL_law_195 : decode cL_law 195 = .ok (.iadd, 1) := by decide +kernel
theorem dL_law_196 : decode cL_law 196 = .ok (.iaload, 1) := by decide +kernel
theorem dL_law_197 : decode cL_law 197 = .ok (.aload_n 0, 1) := by decide +kernel
theorem dL_law_198 : decode cL_law 198 = .ok (.iload 4, 2) := by decide +kernel
theorem dL_law_200 : decode cL_law 200 = .ok (.iconst 4, 1) := by decide +kernel
theorem dL_law_201 : decode cL_law 201 = .ok (.iadd, 1) := by decide +kernel
theorem dL_law_202 : decode cL_law 202 = .ok (.iaload, 1) := by decide +kernel
theorem dL_law_203 : decode cL_law 203 = .ok (.aload_n 0, 1) := by decide +kernel
theorem dL_law_204 : decode cL_law 204 = .ok (.iload 4, 2) := by decide +kernel
theorem dL_law_206 : decode cL_law 206 = .ok (.iconst 5, 1) := by decide +kernel
theorem dL_law_207 : decode cL_law 207 = .ok (.iadd, 1) := by decide +kernel
theorem dL_law_208 : decode cL_law 208 = .ok (.iaload, 1) := by decide +kernel
theorem dL_law_209 : decode cL_law 209 = .ok (.invokevirtual 25, 3) := by decide +kernel
theorem dL_law_212 : decode cL_law 212 = .ok (.if_icmp .eq 658, 3) := by decide +kernel
theorem dL_law_215 : decode cL_law 215 = .ok (.iconst 0, 1) := by decide +kernel
theorem dL_law_216 : decode cL_law 216 = .ok (.ireturn, 1) := by decide +kernel
theorem dL_law_217 : decode cL_law 217 = .ok (.aload_n 1, 1) := by decide +kernel
theorem dL_law_218 : decode cL_law 218 = .ok (.aload_n 0, 1) := by decide +kernel
theorem dL_law_219 : decode cL_law 219 = .ok (.iload 4, 2) := by decide +kernel
theorem dL_law_221 : decode cL_law 221 = .ok (.iconst 1, 1) := by decide +kernel
theorem dL_law_222 : decode cL_law 222 = .ok (.iadd, 1) := by decide +kernel
theorem dL_law_223 : decode cL_law 223 = .ok (.iaload, 1) := by decide +kernel
theorem dL_law_224 : decode cL_law 224 = .ok (.invokevirtual 26, 3) := by decide +kernel
theorem dL_law_227 : decode cL_law 227 = .ok (.aload_n 2, 1) := by decide +kernel
theorem dL_law_228 : decode cL_law 228 = .ok (.aload_n 0, 1) := by decide +kernel
theorem dL_law_229 : decode cL_law 229 = .ok (.iload 4, 2) := by decide +kernel
theorem dL_law_231 : decode cL_law 231 = .ok (.iconst 1, 1) := by decide +kernel
theorem dL_law_232 : decode cL_law 232 = .ok (.iadd, 1) := by decide +kernel
theorem dL_law_233 : decode cL_law 233 = .ok (.iaload, 1) := by decide +kernel
theorem dL_law_234 : decode cL_law 234 = .ok (.invokevirtual 30, 3) := by decide +kernel
theorem dL_law_237 : decode cL_law 237 = .ok (.if_icmp .eq 633, 3) := by decide +kernel
theorem dL_law_240 : decode cL_law 240 = .ok (.iconst 0, 1) := by decide +kernel
theorem dL_law_241 : decode cL_law 241 = .ok (.ireturn, 1) := by decide +kernel
theorem dL_law_242 : decode cL_law 242 = .ok (.aload_n 1, 1) := by decide +kernel
theorem dL_law_243 : decode cL_law 243 = .ok (.aload_n 0, 1) := by decide +kernel
theorem dL_law_244 : decode cL_law 244 = .ok (.iload 4, 2) := by decide +kernel
theorem dL_law_246 : decode cL_law 246 = .ok (.iconst 1, 1) := by decide +kernel
theorem dL_law_247 : decode cL_law 247 = .ok (.iadd, 1) := by decide +kernel
theorem dL_law_248 : decode cL_law 248 = .ok (.iaload, 1) := by decide +kernel
theorem dL_law_249 : decode cL_law 249 = .ok (.invokevirtual 31, 3) := by decide +kernel
theorem dL_law_252 : decode cL_law 252 = .ok (.aload_n 2, 1) := by decide +kernel
theorem dL_law_253 : decode cL_law 253 = .ok (.aload_n 0, 1) := by decide +kernel
theorem dL_law_254 : decode cL_law 254 = .ok (.iload 4, 2) := by decide +kernel
theorem dL_law_256 : decode cL_law 256 = .ok (.iconst 1, 1) := by decide +kernel
theorem dL_law_257 : decode cL_law 257 = .ok (.iadd, 1) := by decide +kernel
theorem dL_law_258 : decode cL_law 258 = .ok (.iaload, 1) := by decide +kernel
theorem dL_law_259 : decode cL_law 259 = .ok (.invokevirtual 34, 3) := by decide +kernel
theorem dL_law_262 : decode cL_law 262 = .ok (.if_icmp .eq 608, 3) := by decide +kernel
theorem dL_law_265 : decode cL_law 265 = .ok (.iconst 0, 1) := by decide +kernel
theorem dL_law_266 : decode cL_law 266 = .ok (.ireturn, 1) := by decide +kernel
theorem dL_law_267 : decode cL_law 267 = .ok (.aload_n 1, 1) := by decide +kernel
theorem dL_law_268 : decode cL_law 268 = .ok (.invokevirtual 35, 3) := by decide +kernel
theorem dL_law_271 : decode cL_law 271 = .ok (.aload_n 2, 1) := by decide +kernel
theorem dL_law_272 : decode cL_law 272 = .ok (.invokevirtual 38, 3) := by decide +kernel
theorem dL_law_275 : decode cL_law 275 = .ok (.goto 595, 3) := by decide +kernel
theorem dL_law_278 : decode cL_law 278 = .ok (.aload_n 1, 1) := by decide +kernel
theorem dL_law_279 : decode cL_law 279 = .ok (.aload_n 0, 1) := by decide +kernel
theorem dL_law_280 : decode cL_law 280 = .ok (.iload 4, 2) := by decide +kernel
theorem dL_law_282 : decode cL_law 282 = .ok (.iconst 1, 1) := by decide +kernel
theorem dL_law_283 : decode cL_law 283 = .ok (.iadd, 1) := by decide +kernel
theorem dL_law_284 : decode cL_law 284 = .ok (.iaload, 1) := by decide +kernel
theorem dL_law_285 : decode cL_law 285 = .ok (.ifCond .eq 7, 3) := by decide +kernel
theorem dL_law_288 : decode cL_law 288 = .ok (.iconst 1, 1) := by decide +kernel
theorem dL_law_289 : decode cL_law 289 = .ok (.goto 4, 3) := by decide +kernel
theorem dL_law_292 : decode cL_law 292 = .ok (.iconst 0, 1) := by decide +kernel
theorem dL_law_293 : decode cL_law 293 = .ok (.invokevirtual 39, 3) := by decide +kernel
theorem dL_law_296 : decode cL_law 296 = .ok (.aload_n 2, 1) := by decide +kernel
theorem dL_law_297 : decode cL_law 297 = .ok (.aload_n 0, 1) := by decide +kernel
theorem dL_law_298 : decode cL_law 298 = .ok (.iload 4, 2) := by decide +kernel
theorem dL_law_300 : decode cL_law 300 = .ok (.iconst 1, 1) := by decide +kernel
theorem dL_law_301 : decode cL_law 301 = .ok (.iadd, 1) := by decide +kernel
theorem dL_law_302 : decode cL_law 302 = .ok (.iaload, 1) := by decide +kernel
theorem dL_law_303 : decode cL_law 303 = .ok (.ifCond .eq 7, 3) := by decide +kernel
theorem dL_law_306 : decode cL_law 306 = .ok (.iconst 1, 1) := by decide +kernel
theorem dL_law_307 : decode cL_law 307 = .ok (.goto 4, 3) := by decide +kernel
theorem dL_law_310 : decode cL_law 310 = .ok (.iconst 0, 1) := by decide +kernel
theorem dL_law_311 : decode cL_law 311 = .ok (.invokevirtual 43, 3) := by decide +kernel
theorem dL_law_314 : decode cL_law 314 = .ok (.if_icmp .eq 556, 3) := by decide +kernel
theorem dL_law_317 : decode cL_law 317 = .ok (.iconst 0, 1) := by decide +kernel
theorem dL_law_318 : decode cL_law 318 = .ok (.ireturn, 1) := by decide +kernel
theorem dL_law_319 : decode cL_law 319 = .ok (.aload_n 1, 1) := by decide +kernel
theorem dL_law_320 : decode cL_law 320 = .ok (.aload_n 0, 1) := by decide +kernel
theorem dL_law_321 : decode cL_law 321 = .ok (.iload 4, 2) := by decide +kernel
theorem dL_law_323 : decode cL_law 323 = .ok (.iconst 1, 1) := by decide +kernel
theorem dL_law_324 : decode cL_law 324 = .ok (.iadd, 1) := by decide +kernel
theorem dL_law_325 : decode cL_law 325 = .ok (.iaload, 1) := by decide +kernel
theorem dL_law_326 : decode cL_law 326 = .ok (.aload_n 0, 1) := by decide +kernel
theorem dL_law_327 : decode cL_law 327 = .ok (.iload 4, 2) := by decide +kernel
theorem dL_law_329 : decode cL_law 329 = .ok (.iconst 2, 1) := by decide +kernel
theorem dL_law_330 : decode cL_law 330 = .ok (.iadd, 1) := by decide +kernel
theorem dL_law_331 : decode cL_law 331 = .ok (.iaload, 1) := by decide +kernel
theorem dL_law_332 : decode cL_law 332 = .ok (.invokevirtual 44, 3) := by decide +kernel
theorem dL_law_335 : decode cL_law 335 = .ok (.aload_n 2, 1) := by decide +kernel
theorem dL_law_336 : decode cL_law 336 = .ok (.aload_n 0, 1) := by decide +kernel
theorem dL_law_337 : decode cL_law 337 = .ok (.iload 4, 2) := by decide +kernel
theorem dL_law_339 : decode cL_law 339 = .ok (.iconst 1, 1) := by decide +kernel
theorem dL_law_340 : decode cL_law 340 = .ok (.iadd, 1) := by decide +kernel
theorem dL_law_341 : decode cL_law 341 = .ok (.iaload, 1) := by decide +kernel
theorem dL_law_342 : decode cL_law 342 = .ok (.aload_n 0, 1) := by decide +kernel
theorem dL_law_343 : decode cL_law 343 = .ok (.iload 4, 2) := by decide +kernel
theorem dL_law_345 : decode cL_law 345 = .ok (.iconst 2, 1) := by decide +kernel
theorem dL_law_346 : decode cL_law 346 = .ok (.iadd, 1) := by decide +kernel
theorem dL_law_347 : decode cL_law 347 = .ok (.iaload, 1) := by decide +kernel
theorem dL_law_348 : decode cL_law 348 = .ok (.invokevirtual 47, 3) := by decide +kernel
theorem dL_law_351 : decode cL_law 351 = .ok (.if_icmp .eq 519, 3) := by decide +kernel
theorem dL_law_354 : decode cL_law 354 = .ok (.iconst 0, 1) := by decide +kernel
theorem dL_law_355 : decode cL_law 355 = .ok (.ireturn, 1) := by decide +kernel
theorem dL_law_356 : decode cL_law 356 = .ok (.aload_n 1, 1) := by decide +kernel
theorem dL_law_357 : decode cL_law 357 = .ok (.aload_n 0, 1) := by decide +kernel
theorem dL_law_358 : decode cL_law 358 = .ok (.iload 4, 2) := by decide +kernel
theorem dL_law_360 : decode cL_law 360 = .ok (.iconst 1, 1) := by decide +kernel
theorem dL_law_361 : decode cL_law 361 = .ok (.iadd, 1) := by decide +kernel
theorem dL_law_362 : decode cL_law 362 = .ok (.iaload, 1) := by decide +kernel
theorem dL_law_363 : decode cL_law 363 = .ok (.aload_n 0, 1) := by decide +kernel
theorem dL_law_364 : decode cL_law 364 = .ok (.iload 4, 2) := by decide +kernel
theorem dL_law_366 : decode cL_law 366 = .ok (.iconst 2, 1) := by decide +kernel
theorem dL_law_367 : decode cL_law 367 = .ok (.iadd, 1) := by decide +kernel
theorem dL_law_368 : decode cL_law 368 = .ok (.iaload, 1) := by decide +kernel
theorem dL_law_369 : decode cL_law 369 = .ok (.ifCond .eq 7, 3) := by decide +kernel
theorem dL_law_372 : decode cL_law 372 = .ok (.iconst 1, 1) := by decide +kernel
theorem dL_law_373 : decode cL_law 373 = .ok (.goto 4, 3) := by decide +kernel
theorem dL_law_376 : decode cL_law 376 = .ok (.iconst 0, 1) := by decide +kernel
theorem dL_law_377 : decode cL_law 377 = .ok (.invokevirtual 48, 3) := by decide +kernel
theorem dL_law_380 : decode cL_law 380 = .ok (.aload_n 2, 1) := by decide +kernel
theorem dL_law_381 : decode cL_law 381 = .ok (.aload_n 0, 1) := by decide +kernel
theorem dL_law_382 : decode cL_law 382 = .ok (.iload 4, 2) := by decide +kernel
theorem dL_law_384 : decode cL_law 384 = .ok (.iconst 1, 1) := by decide +kernel
theorem dL_law_385 : decode cL_law 385 = .ok (.iadd, 1) := by decide +kernel
theorem dL_law_386 : decode cL_law 386 = .ok (.iaload, 1) := by decide +kernel
theorem dL_law_387 : decode cL_law 387 = .ok (.aload_n 0, 1) := by decide +kernel
theorem dL_law_388 : decode cL_law 388 = .ok (.iload 4, 2) := by decide +kernel
theorem dL_law_390 : decode cL_law 390 = .ok (.iconst 2, 1) := by decide +kernel
theorem dL_law_391 : decode cL_law 391 = .ok (.iadd, 1) := by decide +kernel
theorem dL_law_392 : decode cL_law 392 = .ok (.iaload, 1) := by decide +kernel
theorem dL_law_393 : decode cL_law 393 = .ok (.ifCond .eq 7, 3) := by decide +kernel
theorem dL_law_396 : decode cL_law 396 = .ok (.iconst 1, 1) := by decide +kernel
theorem dL_law_397 : decode cL_law 397 = .ok (.goto 4, 3) := by decide +kernel
theorem dL_law_400 : decode cL_law 400 = .ok (.iconst 0, 1) := by decide +kernel
theorem dL_law_401 : decode cL_law 401 = .ok (.invokevirtual 52, 3) := by decide +kernel
theorem dL_law_404 : decode cL_law 404 = .ok (.if_icmp .eq 466, 3) := by decide +kernel
theorem dL_law_407 : decode cL_law 407 = .ok (.iconst 0, 1) := by decide +kernel
theorem dL_law_408 : decode cL_law 408 = .ok (.ireturn, 1) := by decide +kernel
theorem dL_law_409 : decode cL_law 409 = .ok (.aload_n 1, 1) := by decide +kernel
theorem dL_law_410 : decode cL_law 410 = .ok (.aload_n 0, 1) := by decide +kernel
theorem dL_law_411 : decode cL_law 411 = .ok (.iload 4, 2) := by decide +kernel
theorem dL_law_413 : decode cL_law 413 = .ok (.iconst 1, 1) := by decide +kernel
theorem dL_law_414 : decode cL_law 414 = .ok (.iadd, 1) := by decide +kernel
theorem dL_law_415 : decode cL_law 415 = .ok (.iaload, 1) := by decide +kernel
theorem dL_law_416 : decode cL_law 416 = .ok (.invokevirtual 53, 3) := by decide +kernel
theorem dL_law_419 : decode cL_law 419 = .ok (.aload_n 2, 1) := by decide +kernel
theorem dL_law_420 : decode cL_law 420 = .ok (.aload_n 0, 1) := by decide +kernel
theorem dL_law_421 : decode cL_law 421 = .ok (.iload 4, 2) := by decide +kernel
theorem dL_law_423 : decode cL_law 423 = .ok (.iconst 1, 1) := by decide +kernel
theorem dL_law_424 : decode cL_law 424 = .ok (.iadd, 1) := by decide +kernel
theorem dL_law_425 : decode cL_law 425 = .ok (.iaload, 1) := by decide +kernel
theorem dL_law_426 : decode cL_law 426 = .ok (.invokevirtual 57, 3) := by decide +kernel
theorem dL_law_429 : decode cL_law 429 = .ok (.if_icmp .eq 441, 3) := by decide +kernel
theorem dL_law_432 : decode cL_law 432 = .ok (.iconst 0, 1) := by decide +kernel
theorem dL_law_433 : decode cL_law 433 = .ok (.ireturn, 1) := by decide +kernel
theorem dL_law_434 : decode cL_law 434 = .ok (.aload_n 1, 1) := by decide +kernel
theorem dL_law_435 : decode cL_law 435 = .ok (.aload_n 0, 1) := by decide +kernel
theorem dL_law_436 : decode cL_law 436 = .ok (.iload 4, 2) := by decide +kernel
theorem dL_law_438 : decode cL_law 438 = .ok (.iconst 1, 1) := by decide +kernel
theorem dL_law_439 : decode cL_law 439 = .ok (.iadd, 1) := by decide +kernel
theorem dL_law_440 : decode cL_law 440 = .ok (.iaload, 1) := by decide +kernel
theorem dL_law_441 : decode cL_law 441 = .ok (.aload_n 0, 1) := by decide +kernel
theorem dL_law_442 : decode cL_law 442 = .ok (.iload 4, 2) := by decide +kernel
theorem dL_law_444 : decode cL_law 444 = .ok (.iconst 2, 1) := by decide +kernel
theorem dL_law_445 : decode cL_law 445 = .ok (.iadd, 1) := by decide +kernel
theorem dL_law_446 : decode cL_law 446 = .ok (.iaload, 1) := by decide +kernel
theorem dL_law_447 : decode cL_law 447 = .ok (.invokevirtual 58, 3) := by decide +kernel
theorem dL_law_450 : decode cL_law 450 = .ok (.aload_n 2, 1) := by decide +kernel
theorem dL_law_451 : decode cL_law 451 = .ok (.aload_n 0, 1) := by decide +kernel
theorem dL_law_452 : decode cL_law 452 = .ok (.iload 4, 2) := by decide +kernel
theorem dL_law_454 : decode cL_law 454 = .ok (.iconst 1, 1) := by decide +kernel
theorem dL_law_455 : decode cL_law 455 = .ok (.iadd, 1) := by decide +kernel
theorem dL_law_456 : decode cL_law 456 = .ok (.iaload, 1) := by decide +kernel
theorem dL_law_457 : decode cL_law 457 = .ok (.aload_n 0, 1) := by decide +kernel
theorem dL_law_458 : decode cL_law 458 = .ok (.iload 4, 2) := by decide +kernel
theorem dL_law_460 : decode cL_law 460 = .ok (.iconst 2, 1) := by decide +kernel
theorem dL_law_461 : decode cL_law 461 = .ok (.iadd, 1) := by decide +kernel
theorem dL_law_462 : decode cL_law 462 = .ok (.iaload, 1) := by decide +kernel
theorem dL_law_463 : decode cL_law 463 = .ok (.invokevirtual 62, 3) := by decide +kernel
theorem dL_law_466 : decode cL_law 466 = .ok (.if_icmp .eq 404, 3) := by decide +kernel
theorem dL_law_469 : decode cL_law 469 = .ok (.iconst 0, 1) := by decide +kernel
theorem dL_law_470 : decode cL_law 470 = .ok (.ireturn, 1) := by decide +kernel
theorem dL_law_471 : decode cL_law 471 = .ok (.aload_n 1, 1) := by decide +kernel
theorem dL_law_472 : decode cL_law 472 = .ok (.aload_n 0, 1) := by decide +kernel
theorem dL_law_473 : decode cL_law 473 = .ok (.iload 4, 2) := by decide +kernel
theorem dL_law_475 : decode cL_law 475 = .ok (.iconst 1, 1) := by decide +kernel
theorem dL_law_476 : decode cL_law 476 = .ok (.iadd, 1) := by decide +kernel
theorem dL_law_477 : decode cL_law 477 = .ok (.iaload, 1) := by decide +kernel
theorem dL_law_478 : decode cL_law 478 = .ok (.aload_n 0, 1) := by decide +kernel
theorem dL_law_479 : decode cL_law 479 = .ok (.iload 4, 2) := by decide +kernel
theorem dL_law_481 : decode cL_law 481 = .ok (.iconst 2, 1) := by decide +kernel
theorem dL_law_482 : decode cL_law 482 = .ok (.iadd, 1) := by decide +kernel
theorem dL_law_483 : decode cL_law 483 = .ok (.iaload, 1) := by decide +kernel
theorem dL_law_484 : decode cL_law 484 = .ok (.ifCond .eq 7, 3) := by decide +kernel
theorem dL_law_487 : decode cL_law 487 = .ok (.iconst 1, 1) := by decide +kernel
theorem dL_law_488 : decode cL_law 488 = .ok (.goto 4, 3) := by decide +kernel
theorem dL_law_491 : decode cL_law 491 = .ok (.iconst 0, 1) := by decide +kernel
theorem dL_law_492 : decode cL_law 492 = .ok (.invokevirtual 63, 3) := by decide +kernel
theorem dL_law_495 : decode cL_law 495 = .ok (.aload_n 2, 1) := by decide +kernel
theorem dL_law_496 : decode cL_law 496 = .ok (.aload_n 0, 1) := by decide +kernel
theorem dL_law_497 : decode cL_law 497 = .ok (.iload 4, 2) := by decide +kernel
theorem dL_law_499 : decode cL_law 499 = .ok (.iconst 1, 1) := by decide +kernel
theorem dL_law_500 : decode cL_law 500 = .ok (.iadd, 1) := by decide +kernel
theorem dL_law_501 : decode cL_law 501 = .ok (.iaload, 1) := by decide +kernel
theorem dL_law_502 : decode cL_law 502 = .ok (.aload_n 0, 1) := by decide +kernel
theorem dL_law_503 : decode cL_law 503 = .ok (.iload 4, 2) := by decide +kernel
theorem dL_law_505 : decode cL_law 505 = .ok (.iconst 2, 1) := by decide +kernel
theorem dL_law_506 : decode cL_law 506 = .ok (.iadd, 1) := by decide +kernel
theorem dL_law_507 : decode cL_law 507 = .ok (.iaload, 1) := by decide +kernel
theorem dL_law_508 : decode cL_law 508 = .ok (.ifCond .eq 7, 3) := by decide +kernel
theorem dL_law_511 : decode cL_law 511 = .ok (.iconst 1, 1) := by decide +kernel
theorem dL_law_512 : decode cL_law 512 = .ok (.goto 4, 3) := by decide +kernel
theorem dL_law_515 : decode cL_law 515 = .ok (.iconst 0, 1) := by decide +kernel
theorem dL_law_516 : decode cL_law 516 = .ok (.invokevirtual 66, 3) := by decide +kernel
theorem dL_law_519 : decode cL_law 519 = .ok (.if_icmp .eq 351, 3) := by decide +kernel
theorem dL_law_522 : decode cL_law 522 = .ok (.iconst 0, 1) := by decide +kernel
theorem dL_law_523 : decode cL_law 523 = .ok (.ireturn, 1) := by decide +kernel
theorem dL_law_524 : decode cL_law 524 = .ok (.aload_n 1, 1) := by decide +kernel
theorem dL_law_525 : decode cL_law 525 = .ok (.aload_n 0, 1) := by decide +kernel
theorem dL_law_526 : decode cL_law 526 = .ok (.iload 4, 2) := by decide +kernel
theorem dL_law_528 : decode cL_law 528 = .ok (.iconst 1, 1) := by decide +kernel
theorem dL_law_529 : decode cL_law 529 = .ok (.iadd, 1) := by decide +kernel
theorem dL_law_530 : decode cL_law 530 = .ok (.iaload, 1) := by decide +kernel
theorem dL_law_531 : decode cL_law 531 = .ok (.aload_n 0, 1) := by decide +kernel
theorem dL_law_532 : decode cL_law 532 = .ok (.iload 4, 2) := by decide +kernel
theorem dL_law_534 : decode cL_law 534 = .ok (.iconst 2, 1) := by decide +kernel
theorem dL_law_535 : decode cL_law 535 = .ok (.iadd, 1) := by decide +kernel
theorem dL_law_536 : decode cL_law 536 = .ok (.iaload, 1) := by decide +kernel
theorem dL_law_537 : decode cL_law 537 = .ok (.invokevirtual 67, 3) := by decide +kernel
theorem dL_law_540 : decode cL_law 540 = .ok (.aload_n 2, 1) := by decide +kernel
theorem dL_law_541 : decode cL_law 541 = .ok (.aload_n 0, 1) := by decide +kernel
theorem dL_law_542 : decode cL_law 542 = .ok (.iload 4, 2) := by decide +kernel
theorem dL_law_544 : decode cL_law 544 = .ok (.iconst 1, 1) := by decide +kernel
theorem dL_law_545 : decode cL_law 545 = .ok (.iadd, 1) := by decide +kernel
theorem dL_law_546 : decode cL_law 546 = .ok (.iaload, 1) := by decide +kernel
theorem dL_law_547 : decode cL_law 547 = .ok (.aload_n 0, 1) := by decide +kernel
theorem dL_law_548 : decode cL_law 548 = .ok (.iload 4, 2) := by decide +kernel
theorem dL_law_550 : decode cL_law 550 = .ok (.iconst 2, 1) := by decide +kernel
theorem dL_law_551 : decode cL_law 551 = .ok (.iadd, 1) := by decide +kernel
theorem dL_law_552 : decode cL_law 552 = .ok (.iaload, 1) := by decide +kernel
theorem dL_law_553 : decode cL_law 553 = .ok (.invokevirtual 70, 3) := by decide +kernel
theorem dL_law_556 : decode cL_law 556 = .ok (.if_icmp .eq 314, 3) := by decide +kernel
theorem dL_law_559 : decode cL_law 559 = .ok (.iconst 0, 1) := by decide +kernel
theorem dL_law_560 : decode cL_law 560 = .ok (.ireturn, 1) := by decide +kernel
theorem dL_law_561 : decode cL_law 561 = .ok (.aload_n 1, 1) := by decide +kernel
theorem dL_law_562 : decode cL_law 562 = .ok (.aload_n 0, 1) := by decide +kernel
theorem dL_law_563 : decode cL_law 563 = .ok (.iload 4, 2) := by decide +kernel
theorem dL_law_565 : decode cL_law 565 = .ok (.iconst 1, 1) := by decide +kernel
theorem dL_law_566 : decode cL_law 566 = .ok (.iadd, 1) := by decide +kernel
theorem dL_law_567 : decode cL_law 567 = .ok (.iaload, 1) := by decide +kernel
theorem dL_law_568 : decode cL_law 568 = .ok (.invokevirtual 71, 3) := by decide +kernel
theorem dL_law_571 : decode cL_law 571 = .ok (.aload_n 2, 1) := by decide +kernel
theorem dL_law_572 : decode cL_law 572 = .ok (.aload_n 0, 1) := by decide +kernel
theorem dL_law_573 : decode cL_law 573 = .ok (.iload 4, 2) := by decide +kernel
theorem dL_law_575 : decode cL_law 575 = .ok (.iconst 1, 1) := by decide +kernel
theorem dL_law_576 : decode cL_law 576 = .ok (.iadd, 1) := by decide +kernel
theorem dL_law_577 : decode cL_law 577 = .ok (.iaload, 1) := by decide +kernel
theorem dL_law_578 : decode cL_law 578 = .ok (.invokevirtual 74, 3) := by decide +kernel
theorem dL_law_581 : decode cL_law 581 = .ok (.if_icmp .eq 289, 3) := by decide +kernel
theorem dL_law_584 : decode cL_law 584 = .ok (.iconst 0, 1) := by decide +kernel
theorem dL_law_585 : decode cL_law 585 = .ok (.ireturn, 1) := by decide +kernel
theorem dL_law_586 : decode cL_law 586 = .ok (.aload_n 1, 1) := by decide +kernel
theorem dL_law_587 : decode cL_law 587 = .ok (.aload_n 0, 1) := by decide +kernel
theorem dL_law_588 : decode cL_law 588 = .ok (.iload 4, 2) := by decide +kernel
theorem dL_law_590 : decode cL_law 590 = .ok (.iconst 1, 1) := by decide +kernel
theorem dL_law_591 : decode cL_law 591 = .ok (.iadd, 1) := by decide +kernel
theorem dL_law_592 : decode cL_law 592 = .ok (.iaload, 1) := by decide +kernel
theorem dL_law_593 : decode cL_law 593 = .ok (.invokevirtual 75, 3) := by decide +kernel
theorem dL_law_596 : decode cL_law 596 = .ok (.aload_n 2, 1) := by decide +kernel
theorem dL_law_597 : decode cL_law 597 = .ok (.aload_n 0, 1) := by decide +kernel
theorem dL_law_598 : decode cL_law 598 = .ok (.iload 4, 2) := by decide +kernel
theorem dL_law_600 : decode cL_law 600 = .ok (.iconst 1, 1) := by decide +kernel
theorem dL_law_601 : decode cL_law 601 = .ok (.iadd, 1) := by decide +kernel
theorem dL_law_602 : decode cL_law 602 = .ok (.iaload, 1) := by decide +kernel
theorem dL_law_603 : decode cL_law 603 = .ok (.invokevirtual 78, 3) := by decide +kernel
theorem dL_law_606 : decode cL_law 606 = .ok (.if_icmp .eq 264, 3) := by decide +kernel
theorem dL_law_609 : decode cL_law 609 = .ok (.iconst 0, 1) := by decide +kernel
theorem dL_law_610 : decode cL_law 610 = .ok (.ireturn, 1) := by decide +kernel
theorem dL_law_611 : decode cL_law 611 = .ok (.aload_n 1, 1) := by decide +kernel
theorem dL_law_612 : decode cL_law 612 = .ok (.invokevirtual 79, 3) := by decide +kernel
theorem dL_law_615 : decode cL_law 615 = .ok (.aload_n 2, 1) := by decide +kernel
theorem dL_law_616 : decode cL_law 616 = .ok (.invokevirtual 83, 3) := by decide +kernel
theorem dL_law_619 : decode cL_law 619 = .ok (.lcmp, 1) := by decide +kernel
theorem dL_law_620 : decode cL_law 620 = .ok (.ifCond .eq 250, 3) := by decide +kernel
theorem dL_law_623 : decode cL_law 623 = .ok (.iconst 0, 1) := by decide +kernel
theorem dL_law_624 : decode cL_law 624 = .ok (.ireturn, 1) := by decide +kernel
theorem dL_law_625 : decode cL_law 625 = .ok (.aload_n 1, 1) := by decide +kernel
theorem dL_law_626 : decode cL_law 626 = .ok (.aload_n 0, 1) := by decide +kernel
theorem dL_law_627 : decode cL_law 627 = .ok (.iload 4, 2) := by decide +kernel
theorem dL_law_629 : decode cL_law 629 = .ok (.iconst 1, 1) := by decide +kernel
theorem dL_law_630 : decode cL_law 630 = .ok (.iadd, 1) := by decide +kernel
theorem dL_law_631 : decode cL_law 631 = .ok (.iaload, 1) := by decide +kernel
theorem dL_law_632 : decode cL_law 632 = .ok (.invokevirtual 84, 3) := by decide +kernel
theorem dL_law_635 : decode cL_law 635 = .ok (.aload_n 2, 1) := by decide +kernel
theorem dL_law_636 : decode cL_law 636 = .ok (.aload_n 0, 1) := by decide +kernel
theorem dL_law_637 : decode cL_law 637 = .ok (.iload 4, 2) := by decide +kernel
theorem dL_law_639 : decode cL_law 639 = .ok (.iconst 1, 1) := by decide +kernel
theorem dL_law_640 : decode cL_law 640 = .ok (.iadd, 1) := by decide +kernel
theorem dL_law_641 : decode cL_law 641 = .ok (.iaload, 1) := by decide +kernel
theorem dL_law_642 : decode cL_law 642 = .ok (.invokevirtual 87, 3) := by decide +kernel
theorem dL_law_645 : decode cL_law 645 = .ok (.if_icmp .eq 225, 3) := by decide +kernel
theorem dL_law_648 : decode cL_law 648 = .ok (.iconst 0, 1) := by decide +kernel
theorem dL_law_649 : decode cL_law 649 = .ok (.ireturn, 1) := by decide +kernel
theorem dL_law_650 : decode cL_law 650 = .ok (.aload_n 1, 1) := by decide +kernel
theorem dL_law_651 : decode cL_law 651 = .ok (.aload_n 0, 1) := by decide +kernel
theorem dL_law_652 : decode cL_law 652 = .ok (.iload 4, 2) := by decide +kernel
theorem dL_law_654 : decode cL_law 654 = .ok (.iconst 1, 1) := by decide +kernel
theorem dL_law_655 : decode cL_law 655 = .ok (.iadd, 1) := by decide +kernel
theorem dL_law_656 : decode cL_law 656 = .ok (.iaload, 1) := by decide +kernel
theorem dL_law_657 : decode cL_law 657 = .ok (.invokevirtual 88, 3) := by decide +kernel
theorem dL_law_660 : decode cL_law 660 = .ok (.aload_n 2, 1) := by decide +kernel
theorem dL_law_661 : decode cL_law 661 = .ok (.aload_n 0, 1) := by decide +kernel
theorem dL_law_662 : decode cL_law 662 = .ok (.iload 4, 2) := by decide +kernel
theorem dL_law_664 : decode cL_law 664 = .ok (.iconst 1, 1) := by decide +kernel
theorem dL_law_665 : decode cL_law 665 = .ok (.iadd, 1) := by decide +kernel
theorem dL_law_666 : decode cL_law 666 = .ok (.iaload, 1) := by decide +kernel
theorem dL_law_667 : decode cL_law 667 = .ok (.invokevirtual 91, 3) := by decide +kernel
theorem dL_law_670 : decode cL_law 670 = .ok (.if_icmp .eq 200, 3) := by decide +kernel
theorem dL_law_673 : decode cL_law 673 = .ok (.iconst 0, 1) := by decide +kernel
theorem dL_law_674 : decode cL_law 674 = .ok (.ireturn, 1) := by decide +kernel
theorem dL_law_675 : decode cL_law 675 = .ok (.aload_n 1, 1) := by decide +kernel
theorem dL_law_676 : decode cL_law 676 = .ok (.aload_n 0, 1) := by decide +kernel
theorem dL_law_677 : decode cL_law 677 = .ok (.iload 4, 2) := by decide +kernel
theorem dL_law_679 : decode cL_law 679 = .ok (.iconst 1, 1) := by decide +kernel
theorem dL_law_680 : decode cL_law 680 = .ok (.iadd, 1) := by decide +kernel
theorem dL_law_681 : decode cL_law 681 = .ok (.iaload, 1) := by decide +kernel
theorem dL_law_682 : decode cL_law 682 = .ok (.invokevirtual 92, 3) := by decide +kernel
theorem dL_law_685 : decode cL_law 685 = .ok (.aload_n 2, 1) := by decide +kernel
theorem dL_law_686 : decode cL_law 686 = .ok (.aload_n 0, 1) := by decide +kernel
theorem dL_law_687 : decode cL_law 687 = .ok (.iload 4, 2) := by decide +kernel
theorem dL_law_689 : decode cL_law 689 = .ok (.iconst 1, 1) := by decide +kernel
theorem dL_law_690 : decode cL_law 690 = .ok (.iadd, 1) := by decide +kernel
theorem dL_law_691 : decode cL_law 691 = .ok (.iaload, 1) := by decide +kernel
theorem dL_law_692 : decode cL_law 692 = .ok (.invokevirtual 96, 3) := by decide +kernel
theorem dL_law_695 : decode cL_law 695 = .ok (.lcmp, 1) := by decide +kernel
theorem dL_law_696 : decode cL_law 696 = .ok (.ifCond .eq 174, 3) := by decide +kernel
theorem dL_law_699 : decode cL_law 699 = .ok (.iconst 0, 1) := by decide +kernel
theorem dL_law_700 : decode cL_law 700 = .ok (.ireturn, 1) := by decide +kernel
theorem dL_law_701 : decode cL_law 701 = .ok (.aload_n 1, 1) := by decide +kernel
theorem dL_law_702 : decode cL_law 702 = .ok (.aload_n 0, 1) := by decide +kernel
theorem dL_law_703 : decode cL_law 703 = .ok (.iload 4, 2) := by decide +kernel
theorem dL_law_705 : decode cL_law 705 = .ok (.iconst 1, 1) := by decide +kernel
theorem dL_law_706 : decode cL_law 706 = .ok (.iadd, 1) := by decide +kernel
theorem dL_law_707 : decode cL_law 707 = .ok (.iaload, 1) := by decide +kernel
theorem dL_law_708 : decode cL_law 708 = .ok (.aload_n 0, 1) := by decide +kernel
theorem dL_law_709 : decode cL_law 709 = .ok (.iload 4, 2) := by decide +kernel
theorem dL_law_711 : decode cL_law 711 = .ok (.iconst 2, 1) := by decide +kernel
theorem dL_law_712 : decode cL_law 712 = .ok (.iadd, 1) := by decide +kernel
theorem dL_law_713 : decode cL_law 713 = .ok (.iaload, 1) := by decide +kernel
theorem dL_law_714 : decode cL_law 714 = .ok (.invokevirtual 97, 3) := by decide +kernel
theorem dL_law_717 : decode cL_law 717 = .ok (.aload_n 2, 1) := by decide +kernel
theorem dL_law_718 : decode cL_law 718 = .ok (.aload_n 0, 1) := by decide +kernel
theorem dL_law_719 : decode cL_law 719 = .ok (.iload 4, 2) := by decide +kernel
theorem dL_law_721 : decode cL_law 721 = .ok (.iconst 1, 1) := by decide +kernel
theorem dL_law_722 : decode cL_law 722 = .ok (.iadd, 1) := by decide +kernel
theorem dL_law_723 : decode cL_law 723 = .ok (.iaload, 1) := by decide +kernel
theorem dL_law_724 : decode cL_law 724 = .ok (.aload_n 0, 1) := by decide +kernel
theorem dL_law_725 : decode cL_law 725 = .ok (.iload 4, 2) := by decide +kernel
theorem dL_law_727 : decode cL_law 727 = .ok (.iconst 2, 1) := by decide +kernel
theorem dL_law_728 : decode cL_law 728 = .ok (.iadd, 1) := by decide +kernel
theorem dL_law_729 : decode cL_law 729 = .ok (.iaload, 1) := by decide +kernel
theorem dL_law_730 : decode cL_law 730 = .ok (.invokevirtual 101, 3) := by decide +kernel
theorem dL_law_733 : decode cL_law 733 = .ok (.lcmp, 1) := by decide +kernel
theorem dL_law_734 : decode cL_law 734 = .ok (.ifCond .eq 136, 3) := by decide +kernel
theorem dL_law_737 : decode cL_law 737 = .ok (.iconst 0, 1) := by decide +kernel
theorem dL_law_738 : decode cL_law 738 = .ok (.ireturn, 1) := by decide +kernel
theorem dL_law_739 : decode cL_law 739 = .ok (.aload_n 1, 1) := by decide +kernel
theorem dL_law_740 : decode cL_law 740 = .ok (.invokevirtual 102, 3) := by decide +kernel
theorem dL_law_743 : decode cL_law 743 = .ok (.aload_n 2, 1) := by decide +kernel
theorem dL_law_744 : decode cL_law 744 = .ok (.invokevirtual 106, 3) := by decide +kernel
theorem dL_law_747 : decode cL_law 747 = .ok (.if_icmp .eq 123, 3) := by decide +kernel
theorem dL_law_750 : decode cL_law 750 = .ok (.iconst 0, 1) := by decide +kernel
theorem dL_law_751 : decode cL_law 751 = .ok (.ireturn, 1) := by decide +kernel
theorem dL_law_752 : decode cL_law 752 = .ok (.aload_n 1, 1) := by decide +kernel
theorem dL_law_753 : decode cL_law 753 = .ok (.aload_n 0, 1) := by decide +kernel
theorem dL_law_754 : decode cL_law 754 = .ok (.iload 4, 2) := by decide +kernel
theorem dL_law_756 : decode cL_law 756 = .ok (.iconst 1, 1) := by decide +kernel
theorem dL_law_757 : decode cL_law 757 = .ok (.iadd, 1) := by decide +kernel
theorem dL_law_758 : decode cL_law 758 = .ok (.iaload, 1) := by decide +kernel
theorem dL_law_759 : decode cL_law 759 = .ok (.invokevirtual 107, 3) := by decide +kernel
theorem dL_law_762 : decode cL_law 762 = .ok (.aload_n 2, 1) := by decide +kernel
theorem dL_law_763 : decode cL_law 763 = .ok (.aload_n 0, 1) := by decide +kernel
theorem dL_law_764 : decode cL_law 764 = .ok (.iload 4, 2) := by decide +kernel
theorem dL_law_766 : decode cL_law 766 = .ok (.iconst 1, 1) := by decide +kernel
theorem dL_law_767 : decode cL_law 767 = .ok (.iadd, 1) := by decide +kernel
theorem dL_law_768 : decode cL_law 768 = .ok (.iaload, 1) := by decide +kernel
theorem dL_law_769 : decode cL_law 769 = .ok (.invokevirtual 110, 3) := by decide +kernel
theorem dL_law_772 : decode cL_law 772 = .ok (.if_icmp .eq 98, 3) := by decide +kernel
theorem dL_law_775 : decode cL_law 775 = .ok (.iconst 0, 1) := by decide +kernel
theorem dL_law_776 : decode cL_law 776 = .ok (.ireturn, 1) := by decide +kernel
theorem dL_law_777 : decode cL_law 777 = .ok (.aload_n 1, 1) := by decide +kernel
theorem dL_law_778 : decode cL_law 778 = .ok (.aload_n 0, 1) := by decide +kernel
theorem dL_law_779 : decode cL_law 779 = .ok (.iload 4, 2) := by decide +kernel
theorem dL_law_781 : decode cL_law 781 = .ok (.iconst 1, 1) := by decide +kernel
theorem dL_law_782 : decode cL_law 782 = .ok (.iadd, 1) := by decide +kernel
theorem dL_law_783 : decode cL_law 783 = .ok (.iaload, 1) := by decide +kernel
theorem dL_law_784 : decode cL_law 784 = .ok (.aload_n 0, 1) := by decide +kernel
theorem dL_law_785 : decode cL_law 785 = .ok (.iload 4, 2) := by decide +kernel
theorem dL_law_787 : decode cL_law 787 = .ok (.iconst 2, 1) := by decide +kernel
theorem dL_law_788 : decode cL_law 788 = .ok (.iadd, 1) := by decide +kernel
theorem dL_law_789 : decode cL_law 789 = .ok (.iaload, 1) := by decide +kernel
theorem dL_law_790 : decode cL_law 790 = .ok (.aload_n 3, 1) := by decide +kernel
theorem dL_law_791 : decode cL_law 791 = .ok (.invokestatic 111, 3) := by decide +kernel
theorem dL_law_794 : decode cL_law 794 = .ok (.istore 5, 2) := by decide +kernel
theorem dL_law_796 : decode cL_law 796 = .ok (.aload_n 2, 1) := by decide +kernel
theorem dL_law_797 : decode cL_law 797 = .ok (.aload_n 0, 1) := by decide +kernel
theorem dL_law_798 : decode cL_law 798 = .ok (.iload 4, 2) := by decide +kernel
theorem dL_law_800 : decode cL_law 800 = .ok (.iconst 1, 1) := by decide +kernel
theorem dL_law_801 : decode cL_law 801 = .ok (.iadd, 1) := by decide +kernel
theorem dL_law_802 : decode cL_law 802 = .ok (.iaload, 1) := by decide +kernel
theorem dL_law_803 : decode cL_law 803 = .ok (.aload_n 0, 1) := by decide +kernel
theorem dL_law_804 : decode cL_law 804 = .ok (.iload 4, 2) := by decide +kernel
theorem dL_law_806 : decode cL_law 806 = .ok (.iconst 2, 1) := by decide +kernel
theorem dL_law_807 : decode cL_law 807 = .ok (.iadd, 1) := by decide +kernel
theorem dL_law_808 : decode cL_law 808 = .ok (.iaload, 1) := by decide +kernel
theorem dL_law_809 : decode cL_law 809 = .ok (.invokevirtual 116, 3) := by decide +kernel
theorem dL_law_812 : decode cL_law 812 = .ok (.istore 6, 2) := by decide +kernel
theorem dL_law_814 : decode cL_law 814 = .ok (.aload_n 2, 1) := by decide +kernel
theorem dL_law_815 : decode cL_law 815 = .ok (.invokevirtual 117, 3) := by decide +kernel
theorem dL_law_818 : decode cL_law 818 = .ok (.iload 5, 2) := by decide +kernel
theorem dL_law_820 : decode cL_law 820 = .ok (.if_icmp .eq 5, 3) := by decide +kernel
theorem dL_law_823 : decode cL_law 823 = .ok (.iconst 0, 1) := by decide +kernel
theorem dL_law_824 : decode cL_law 824 = .ok (.ireturn, 1) := by decide +kernel
theorem dL_law_825 : decode cL_law 825 = .ok (.iload 5, 2) := by decide +kernel
theorem dL_law_827 : decode cL_law 827 = .ok (.ifCond .ne 15, 3) := by decide +kernel
theorem dL_law_830 : decode cL_law 830 = .ok (.aload_n 3, 1) := by decide +kernel
theorem dL_law_831 : decode cL_law 831 = .ok (.iconst 0, 1) := by decide +kernel
theorem dL_law_832 : decode cL_law 832 = .ok (.laload, 1) := by decide +kernel
theorem dL_law_833 : decode cL_law 833 = .ok (.iload 6, 2) := by decide +kernel
theorem dL_law_835 : decode cL_law 835 = .ok (.i2l, 1) := by decide +kernel
theorem dL_law_836 : decode cL_law 836 = .ok (.lcmp, 1) := by decide +kernel
theorem dL_law_837 : decode cL_law 837 = .ok (.ifCond .eq 5, 3) := by decide +kernel
theorem dL_law_840 : decode cL_law 840 = .ok (.iconst 0, 1) := by decide +kernel
theorem dL_law_841 : decode cL_law 841 = .ok (.ireturn, 1) := by decide +kernel
theorem dL_law_842 : decode cL_law 842 = .ok (.goto 28, 3) := by decide +kernel
theorem dL_law_845 : decode cL_law 845 = .ok (.aload_n 1, 1) := by decide +kernel
theorem dL_law_846 : decode cL_law 846 = .ok (.aload_n 0, 1) := by decide +kernel
theorem dL_law_847 : decode cL_law 847 = .ok (.iload 4, 2) := by decide +kernel
theorem dL_law_849 : decode cL_law 849 = .ok (.iconst 1, 1) := by decide +kernel
theorem dL_law_850 : decode cL_law 850 = .ok (.iadd, 1) := by decide +kernel
theorem dL_law_851 : decode cL_law 851 = .ok (.iaload, 1) := by decide +kernel
theorem dL_law_852 : decode cL_law 852 = .ok (.invokevirtual 120, 3) := by decide +kernel
theorem dL_law_855 : decode cL_law 855 = .ok (.aload_n 2, 1) := by decide +kernel
theorem dL_law_856 : decode cL_law 856 = .ok (.aload_n 0, 1) := by decide +kernel
theorem dL_law_857 : decode cL_law 857 = .ok (.iload 4, 2) := by decide +kernel
theorem dL_law_859 : decode cL_law 859 = .ok (.iconst 1, 1) := by decide +kernel
theorem dL_law_860 : decode cL_law 860 = .ok (.iadd, 1) := by decide +kernel
theorem dL_law_861 : decode cL_law 861 = .ok (.iaload, 1) := by decide +kernel
theorem dL_law_862 : decode cL_law 862 = .ok (.invokevirtual 123, 3) := by decide +kernel
theorem dL_law_865 : decode cL_law 865 = .ok (.if_icmp .eq 5, 3) := by decide +kernel
theorem dL_law_868 : decode cL_law 868 = .ok (.iconst 0, 1) := by decide +kernel
theorem dL_law_869 : decode cL_law 869 = .ok (.ireturn, 1) := by decide +kernel
theorem dL_law_870 : decode cL_law 870 = .ok (.iinc 4 6, 3) := by decide +kernel
theorem dL_law_873 : decode cL_law 873 = .ok (.goto (-850), 3) := by decide +kernel
theorem dL_law_876 : decode cL_law 876 = .ok (.iconst 1, 1) := by decide +kernel
theorem dL_law_877 : decode cL_law 877 = .ok (.ireturn, 1) := by decide +kernel
