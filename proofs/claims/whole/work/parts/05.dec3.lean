theorem dX9_isSeeable_1 : decode cX9_isSeeable 1 = .ok (.ifCond .lt 13, 3) := by decide +kernel
theorem dX9_isSeeable_4 : decode cX9_isSeeable 4 = .ok (.iload_n 0, 1) := by decide +kernel
theorem dX9_isSeeable_5 : decode cX9_isSeeable 5 = .ok (.bipush 6, 2) := by decide +kernel
theorem dX9_isSeeable_7 : decode cX9_isSeeable 7 = .ok (.if_icmp .gt 7, 3) := by decide +kernel
theorem dX9_isSeeable_10 : decode cX9_isSeeable 10 = .ok (.iconst 1, 1) := by decide +kernel
theorem dX9_isSeeable_11 : decode cX9_isSeeable 11 = .ok (.goto 4, 3) := by decide +kernel
theorem dX9_isSeeable_14 : decode cX9_isSeeable 14 = .ok (.iconst 0, 1) := by decide +kernel
theorem dX9_isSeeable_15 : decode cX9_isSeeable 15 = .ok (.ireturn, 1) := by decide +kernel
theorem dX9_withBit_0 : decode cX9_withBit 0 = .ok (.iload_n 2, 1) := by decide +kernel
theorem dX9_withBit_1 : decode cX9_withBit 1 = .ok (.ifCond .eq 11, 3) := by decide +kernel
theorem dX9_withBit_4 : decode cX9_withBit 4 = .ok (.iload_n 0, 1) := by decide +kernel
theorem dX9_withBit_5 : decode cX9_withBit 5 = .ok (.iconst 1, 1) := by decide +kernel
theorem dX9_withBit_6 : decode cX9_withBit 6 = .ok (.iload_n 1, 1) := by decide +kernel
theorem dX9_withBit_7 : decode cX9_withBit 7 = .ok (.ishl, 1) := by decide +kernel
theorem dX9_withBit_8 : decode cX9_withBit 8 = .ok (.ior, 1) := by decide +kernel
theorem dX9_withBit_9 : decode cX9_withBit 9 = .ok (.goto 10, 3) := by decide +kernel
theorem dX9_withBit_12 : decode cX9_withBit 12 = .ok (.iload_n 0, 1) := by decide +kernel
theorem dX9_withBit_13 : decode cX9_withBit 13 = .ok (.iconst 1, 1) := by decide +kernel
theorem dX9_withBit_14 : decode cX9_withBit 14 = .ok (.iload_n 1, 1) := by decide +kernel
theorem dX9_withBit_15 : decode cX9_withBit 15 = .ok (.ishl, 1) := by decide +kernel
theorem dX9_withBit_16 : decode cX9_withBit 16 = .ok (.iconst (-1), 1) := by decide +kernel
theorem dX9_withBit_17 : decode cX9_withBit 17 = .ok (.ixor, 1) := by decide +kernel
theorem dX9_withBit_18 : decode cX9_withBit 18 = .ok (.iand, 1) := by decide +kernel
theorem dX9_withBit_19 : decode cX9_withBit 19 = .ok (.ireturn, 1) := by decide +kernel
theorem dX9_hasBit_0 : decode cX9_hasBit 0 = .ok (.iload_n 0, 1) := by decide +kernel
theorem dX9_hasBit_1 : decode cX9_hasBit 1 = .ok (.iload_n 1, 1) := by decide +kernel
theorem dX9_hasBit_2 : decode cX9_hasBit 2 = .ok (.iushr, 1) := by decide +kernel
theorem dX9_hasBit_3 : decode cX9_hasBit 3 = .ok (.iconst 1, 1) := by decide +kernel
theorem dX9_hasBit_4 : decode cX9_hasBit 4 = .ok (.iand, 1) := by decide +kernel
theorem dX9_hasBit_5 : decode cX9_hasBit 5 = .ok (.ifCond .eq 7, 3) := by decide +kernel
theorem dX9_hasBit_8 : decode cX9_hasBit 8 = .ok (.iconst 1, 1) := by decide +kernel
theorem dX9_hasBit_9 : decode cX9_hasBit 9 = .ok (.goto 4, 3) := by decide +kernel
theorem dX9_hasBit_12 : decode cX9_hasBit 12 = .ok (.iconst 0, 1) := by decide +kernel
theorem dX9_hasBit_13 : decode cX9_hasBit 13 = .ok (.ireturn, 1) := by decide +kernel
theorem dX10_init_0 : decode cX10_init 0 = .ok (.aload_n 0, 1) := by decide +kernel
theorem dX10_init_1 : decode cX10_init 1 = .ok (.invokespecial 1, 3) := by decide +kernel
theorem dX10_init_4 : decode cX10_init 4 = .ok (.aload_n 0, 1) := by decide +kernel
theorem dX10_init_5 : decode cX10_init 5 = .ok (.sipush 300, 3) := by decide +kernel
theorem dX10_init_8 : decode cX10_init 8 = .ok (.newarray .int, 2) := by decide +kernel
theorem dX10_init_10 : decode cX10_init 10 = .ok (.putfield 7, 3) := by decide +kernel
theorem dX10_init_13 : decode cX10_init 13 = .ok (.aload_n 0, 1) := by decide +kernel
theorem dX10_init_14 : decode cX10_init 14 = .ok (.iconst (-1), 1) := by decide +kernel
theorem dX10_init_15 : decode cX10_init 15 = .ok (.putfield 13, 3) := by decide +kernel
theorem dX10_init_18 : decode cX10_init 18 = .ok (.aload_n 0, 1) := by decide +kernel
theorem dX10_init_19 : decode cX10_init 19 = .ok (.bipush 48, 2) := by decide +kernel
theorem dX10_init_21 : decode cX10_init 21 = .ok (.newarray .int, 2) := by decide +kernel
theorem dX10_init_23 : decode cX10_init 23 = .ok (.putfield 17, 3) := by decide +kernel
theorem dX10_init_26 : decode cX10_init 26 = .ok (.aload_n 0, 1) := by decide +kernel
theorem dX10_init_27 : decode cX10_init 27 = .ok (.bipush 8, 2) := by decide +kernel
theorem dX10_init_29 : decode cX10_init 29 = .ok (.newarray .boolean, 2) := by decide +kernel
theorem dX10_init_31 : decode cX10_init 31 = .ok (.putfield 20, 3) := by decide +kernel
theorem dX10_init_34 : decode cX10_init 34 = .ok (.aload_n 0, 1) := by decide +kernel
theorem dX10_init_35 : decode cX10_init 35 = .ok (.bipush 8, 2) := by decide +kernel
theorem dX10_init_37 : decode cX10_init 37 = .ok (.newarray .boolean, 2) := by decide +kernel
theorem dX10_init_39 : decode cX10_init 39 = .ok (.putfield 24, 3) := by decide +kernel
theorem dX10_init_42 : decode cX10_init 42 = .ok (.aload_n 0, 1) := by decide +kernel
theorem dX10_init_43 : decode cX10_init 43 = .ok (.bipush 24, 2) := by decide +kernel
theorem dX10_init_45 : decode cX10_init 45 = .ok (.newarray .int, 2) := by decide +kernel
theorem dX10_init_47 : decode cX10_init 47 = .ok (.putfield 27, 3) := by decide +kernel
theorem dX10_init_50 : decode cX10_init 50 = .ok (.aload_n 0, 1) := by decide +kernel
theorem dX10_init_51 : decode cX10_init 51 = .ok (.bipush 12, 2) := by decide +kernel
theorem dX10_init_53 : decode cX10_init 53 = .ok (.newarray .int, 2) := by decide +kernel
theorem dX10_init_55 : decode cX10_init 55 = .ok (.putfield 30, 3) := by decide +kernel
theorem dX10_init_58 : decode cX10_init 58 = .ok (.aload_n 0, 1) := by decide +kernel
theorem dX10_init_59 : decode cX10_init 59 = .ok (.bipush 12, 2) := by decide +kernel
theorem dX10_init_61 : decode cX10_init 61 = .ok (.newarray .boolean, 2) := by decide +kernel
theorem dX10_init_63 : decode cX10_init 63 = .ok (.putfield 33, 3) := by decide +kernel
theorem dX10_init_66 : decode cX10_init 66 = .ok (.aload_n 0, 1) := by decide +kernel
theorem dX10_init_67 : decode cX10_init 67 = .ok (.iconst 1, 1) := by decide +kernel
theorem dX10_init_68 : decode cX10_init 68 = .ok (.putfield 36, 3) := by decide +kernel
theorem dX10_init_71 : decode cX10_init 71 = .ok (.aload_n 0, 1) := by decide +kernel
theorem dX10_init_72 : decode cX10_init 72 = .ok (.bipush 24, 2) := by decide +kernel
theorem dX10_init_74 : decode cX10_init 74 = .ok (.newarray .int, 2) := by decide +kernel
theorem dX10_init_76 : decode cX10_init 76 = .ok (.putfield 39, 3) := by decide +kernel
theorem dX10_init_79 : decode cX10_init 79 = .ok (.aload_n 0, 1) := by decide +kernel
theorem dX10_init_80 : decode cX10_init 80 = .ok (.bipush 24, 2) := by decide +kernel
theorem dX10_init_82 : decode cX10_init 82 = .ok (.newarray .int, 2) := by decide +kernel
theorem dX10_init_84 : decode cX10_init 84 = .ok (.putfield 42, 3) := by decide +kernel
theorem dX10_init_87 : decode cX10_init 87 = .ok (.aload_n 0, 1) := by decide +kernel
theorem dX10_init_88 : decode cX10_init 88 = .ok (.bipush 24, 2) := by decide +kernel
theorem dX10_init_90 : decode cX10_init 90 = .ok (.newarray .int, 2) := by decide +kernel
theorem dX10_init_92 : decode cX10_init 92 = .ok (.putfield 45, 3) := by decide +kernel
theorem dX10_init_95 : decode cX10_init 95 = .ok (.aload_n 0, 1) := by decide +kernel
theorem dX10_init_96 : decode cX10_init 96 = .ok (.bipush 8, 2) := by decide +kernel
theorem dX10_init_98 : decode cX10_init 98 = .ok (.newarray .int, 2) := by decide +kernel
theorem dX10_init_100 : decode cX10_init 100 = .ok (.putfield 48, 3) := by decide +kernel
theorem dX10_init_103 : decode cX10_init 103 = .ok (.aload_n 0, 1) := by decide +kernel
theorem dX10_init_104 : decode cX10_init 104 = .ok (.bipush 8, 2) := by decide +kernel
theorem dX10_init_106 : decode cX10_init 106 = .ok (.newarray .int, 2) := by decide +kernel
theorem dX10_init_108 : decode cX10_init 108 = .ok (.putfield 51, 3) := by decide +kernel
theorem dX10_init_111 : decode cX10_init 111 = .ok (.aload_n 0, 1) := by decide +kernel
theorem dX10_init_112 : decode cX10_init 112 = .ok (.bipush 15, 2) := by decide +kernel
theorem dX10_init_114 : decode cX10_init 114 = .ok (.newarray .int, 2) := by decide +kernel
theorem dX10_init_116 : decode cX10_init 116 = .ok (.dup, 1) := by decide +kernel
theorem dX10_init_117 : decode cX10_init 117 = .ok (.iconst 0, 1) := by decide +kernel
theorem dX10_init_118 : decode cX10_init 118 = .ok (.bipush 115, 2) := by decide +kernel
theorem dX10_init_120 : decode cX10_init 120 = .ok (.iastore, 1) := by decide +kernel
theorem dX10_init_121 : decode cX10_init 121 = .ok (.dup, 1) := by decide +kernel
theorem dX10_init_122 : decode cX10_init 122 = .ok (.iconst 1, 1) := by decide +kernel
theorem dX10_init_123 : decode cX10_init 123 = .ok (.bipush 116, 2) := by decide +kernel
theorem dX10_init_125 : decode cX10_init 125 = .ok (.iastore, 1) := by decide +kernel
theorem dX10_init_126 : decode cX10_init 126 = .ok (.dup, 1) := by decide +kernel
theorem dX10_init_127 : decode cX10_init 127 = .ok (.iconst 2, 1) := by decide +kernel
theorem dX10_init_128 : decode cX10_init 128 = .ok (.bipush 97, 2) := by decide +kernel
theorem dX10_init_130 : decode cX10_init 130 = .ok (.iastore, 1) := by decide +kernel
theorem dX10_init_131 : decode cX10_init 131 = .ok (.dup, 1) := by decide +kernel
theorem dX10_init_132 : decode cX10_init 132 = .ok (.iconst 3, 1) := by decide +kernel
theorem dX10_init_133 : decode cX10_init 133 = .ok (.bipush 121, 2) := by decide +kernel
theorem dX10_init_135 : decode cX10_init 135 = .ok (.iastore, 1) := by decide +kernel
theorem dX10_init_136 : decode cX10_init 136 = .ok (.dup, 1) := by decide +kernel
theorem dX10_init_137 : decode cX10_init 137 = .ok (.iconst 4, 1) := by decide +kernel
theorem dX10_init_138 : decode cX10_init 138 = .ok (.bipush 32, 2) := by decide +kernel
theorem dX10_init_140 : decode cX10_init 140 = .ok (.iastore, 1) := by decide +kernel
theorem dX10_init_141 : decode cX10_init 141 = .ok (.dup, 1) := by decide +kernel
theorem dX10_init_142 : decode cX10_init 142 = .ok (.iconst 5, 1) := by decide +kernel
theorem dX10_init_143 : decode cX10_init 143 = .ok (.bipush 116, 2) := by decide +kernel
theorem dX10_init_145 : decode cX10_init 145 = .ok (.iastore, 1) := by decide +kernel
theorem dX10_init_146 : decode cX10_init 146 = .ok (.dup, 1) := by decide +kernel
theorem dX10_init_147 : decode cX10_init 147 = .ok (.bipush 6, 2) := by decide +kernel
theorem dX10_init_149 : decode cX10_init 149 = .ok (.bipush 97, 2) := by decide +kernel
theorem dX10_init_151 : decode cX10_init 151 = .ok (.iastore, 1) := by decide +kernel
theorem dX10_init_152 : decode cX10_init 152 = .ok (.dup, 1) := by decide +kernel
theorem dX10_init_153 : decode cX10_init 153 = .ok (.bipush 7, 2) := by decide +kernel
theorem dX10_init_155 : decode cX10_init 155 = .ok (.bipush 107, 2) := by decide +kernel
theorem dX10_init_157 : decode cX10_init 157 = .ok (.iastore, 1) := by decide +kernel
theorem dX10_init_158 : decode cX10_init 158 = .ok (.dup, 1) := by decide +kernel
theorem dX10_init_159 : decode cX10_init 159 = .ok (.bipush 8, 2) := by decide +kernel
theorem dX10_init_161 : decode cX10_init 161 = .ok (.bipush 101, 2) := by decide +kernel
theorem dX10_init_163 : decode cX10_init 163 = .ok (.iastore, 1) := by decide +kernel
theorem dX10_init_164 : decode cX10_init 164 = .ok (.dup, 1) := by decide +kernel
theorem dX10_init_165 : decode cX10_init 165 = .ok (.bipush 9, 2) := by decide +kernel
theorem dX10_init_167 : decode cX10_init 167 = .ok (.bipush 32, 2) := by decide +kernel
theorem dX10_init_169 : decode cX10_init 169 = .ok (.iastore, 1) := by decide +kernel
theorem dX10_init_170 : decode cX10_init 170 = .ok (.dup, 1) := by decide +kernel
theorem dX10_init_171 : decode cX10_init 171 = .ok (.bipush 10, 2) := by decide +kernel
theorem dX10_init_173 : decode cX10_init 173 = .ok (.bipush 100, 2) := by decide +kernel
theorem dX10_init_175 : decode cX10_init 175 = .ok (.iastore, 1) := by decide +kernel
theorem dX10_init_176 : decode cX10_init 176 = .ok (.dup, 1) := by decide +kernel
theorem dX10_init_177 : decode cX10_init 177 = .ok (.bipush 11, 2) := by decide +kernel
theorem dX10_init_179 : decode cX10_init 179 = .ok (.bipush 114, 2) := by decide +kernel
theorem dX10_init_181 : decode cX10_init 181 = .ok (.iastore, 1) := by decide +kernel
theorem dX10_init_182 : decode cX10_init 182 = .ok (.dup, 1) := by decide +kernel
theorem dX10_init_183 : decode cX10_init 183 = .ok (.bipush 12, 2) := by decide +kernel
theorem dX10_init_185 : decode cX10_init 185 = .ok (.bipush 111, 2) := by decide +kernel
theorem dX10_init_187 : decode cX10_init 187 = .ok (.iastore, 1) := by decide +kernel
theorem dX10_init_188 : decode cX10_init 188 = .ok (.dup, 1) := by decide +kernel
theorem dX10_init_189 : decode cX10_init 189 = .ok (.bipush 13, 2) := by decide +kernel
theorem dX10_init_191 : decode cX10_init 191 = .ok (.bipush 112, 2) := by decide +kernel
theorem dX10_init_193 : decode cX10_init 193 = .ok (.iastore, 1) := by decide +kernel
theorem dX10_init_194 : decode cX10_init 194 = .ok (.dup, 1) := by decide +kernel
theorem dX10_init_195 : decode cX10_init 195 = .ok (.bipush 14, 2) := by decide +kernel
theorem dX10_init_197 : decode cX10_init 197 = .ok (.bipush 32, 2) := by decide +kernel
theorem dX10_init_199 : decode cX10_init 199 = .ok (.iastore, 1) := by decide +kernel
theorem dX10_init_200 : decode cX10_init 200 = .ok (.putfield 54, 3) := by decide +kernel
theorem dX10_init_203 : decode cX10_init 203 = .ok (.aload_n 0, 1) := by decide +kernel
theorem dX10_init_204 : decode cX10_init 204 = .ok (.bipush 8, 2) := by decide +kernel
theorem dX10_init_206 : decode cX10_init 206 = .ok (.newarray .int, 2) := by decide +kernel
theorem dX10_init_208 : decode cX10_init 208 = .ok (.putfield 57, 3) := by decide +kernel
theorem dX10_init_211 : decode cX10_init 211 = .ok (.aload_n 0, 1) := by decide +kernel
theorem dX10_init_212 : decode cX10_init 212 = .ok (.bipush 8, 2) := by decide +kernel
theorem dX10_init_214 : decode cX10_init 214 = .ok (.newarray .int, 2) := by decide +kernel
theorem dX10_init_216 : decode cX10_init 216 = .ok (.putfield 60, 3) := by decide +kernel
theorem dX10_init_219 : decode cX10_init 219 = .ok (.aload_n 0, 1) := by decide +kernel
theorem dX10_init_220 : decode cX10_init 220 = .ok (.iconst 4, 1) := by decide +kernel
theorem dX10_init_221 : decode cX10_init 221 = .ok (.newarray .boolean, 2) := by decide +kernel
theorem dX10_init_223 : decode cX10_init 223 = .ok (.putfield 63, 3) := by decide +kernel
theorem dX10_init_226 : decode cX10_init 226 = .ok (.aload_n 0, 1) := by decide +kernel
theorem dX10_init_227 : decode cX10_init 227 = .ok (.sipush 1501, 3) := by decide +kernel
theorem dX10_init_230 : decode cX10_init 230 = .ok (.newarray .int, 2) := by decide +kernel
theorem dX10_init_232 : decode cX10_init 232 = .ok (.putfield 66, 3) := by decide +kernel
theorem dX10_init_235 : decode cX10_init 235 = .ok (.aload_n 0, 1) := by decide +kernel
theorem dX10_init_236 : decode cX10_init 236 = .ok (.ldc 69, 2) := by decide +kernel
theorem dX10_init_238 : decode cX10_init 238 = .ok (.newarray .int, 2) := by decide +kernel
theorem dX10_init_240 : decode cX10_init 240 = .ok (.putfield 70, 3) := by decide +kernel
theorem dX10_init_243 : decode cX10_init 243 = .ok (.aload_n 0, 1) := by decide +kernel
theorem dX10_init_244 : decode cX10_init 244 = .ok (.bipush 8, 2) := by decide +kernel
theorem dX10_init_246 : decode cX10_init 246 = .ok (.newarray .boolean, 2) := by decide +kernel
theorem dX10_init_248 : decode cX10_init 248 = .ok (.putfield 73, 3) := by decide +kernel
theorem dX10_init_251 : decode cX10_init 251 = .ok (.aload_n 0, 1) := by decide +kernel
theorem dX10_init_252 : decode cX10_init 252 = .ok (.bipush 6, 2) := by decide +kernel
theorem dX10_init_254 : decode cX10_init 254 = .ok (.newarray .int, 2) := by decide +kernel
theorem dX10_init_256 : decode cX10_init 256 = .ok (.putfield 76, 3) := by decide +kernel
theorem dX10_init_259 : decode cX10_init 259 = .ok (.aload_n 0, 1) := by decide +kernel
theorem dX10_init_260 : decode cX10_init 260 = .ok (.iconst 2, 1) := by decide +kernel
theorem dX10_init_261 : decode cX10_init 261 = .ok (.newarray .int, 2) := by decide +kernel
theorem dX10_init_263 : decode cX10_init 263 = .ok (.putfield 79, 3) := by decide +kernel
theorem dX10_init_266 : decode cX10_init 266 = .ok (.aload_n 0, 1) := by decide +kernel
theorem dX10_init_267 : decode cX10_init 267 = .ok (.iconst 2, 1) := by decide +kernel
theorem dX10_init_268 : decode cX10_init 268 = .ok (.newarray .int, 2) := by decide +kernel
theorem dX10_init_270 : decode cX10_init 270 = .ok (.putfield 82, 3) := by decide +kernel
theorem dX10_init_273 : decode cX10_init 273 = .ok (.aload_n 0, 1) := by decide +kernel
theorem dX10_init_274 : decode cX10_init 274 = .ok (.iconst (-1), 1) := by decide +kernel
theorem dX10_init_275 : decode cX10_init 275 = .ok (.putfield 85, 3) := by decide +kernel
theorem dX10_init_278 : decode cX10_init 278 = .ok (.aload_n 0, 1) := by decide +kernel
theorem dX10_init_279 : decode cX10_init 279 = .ok (.iconst 5, 1) := by decide +kernel
theorem dX10_init_280 : decode cX10_init 280 = .ok (.newarray .int, 2) := by decide +kernel
theorem dX10_init_282 : decode cX10_init 282 = .ok (.putfield 88, 3) := by decide +kernel
theorem dX10_init_285 : decode cX10_init 285 = .ok (.aload_n 0, 1) := by decide +kernel
theorem dX10_init_286 : decode cX10_init 286 = .ok (.iconst 5, 1) := by decide +kernel
theorem dX10_init_287 : decode cX10_init 287 = .ok (.newarray .int, 2) := by decide +kernel
theorem dX10_init_289 : decode cX10_init 289 = .ok (.putfield 91, 3) := by decide +kernel
theorem dX10_init_292 : decode cX10_init 292 = .ok (.aload_n 0, 1) := by decide +kernel
theorem dX10_init_293 : decode cX10_init 293 = .ok (.bipush 24, 2) := by decide +kernel
theorem dX10_init_295 : decode cX10_init 295 = .ok (.newarray .int, 2) := by decide +kernel
theorem dX10_init_297 : decode cX10_init 297 = .ok (.putfield 94, 3) := by decide +kernel
theorem dX10_init_300 : decode cX10_init 300 = .ok (.aload_n 0, 1) := by decide +kernel
theorem dX10_init_301 : decode cX10_init 301 = .ok (.bipush 24, 2) := by decide +kernel
theorem dX10_init_303 : decode cX10_init 303 = .ok (.newarray .int, 2) := by decide +kernel
theorem dX10_init_305 : decode cX10_init 305 = .ok (.putfield 97, 3) := by decide +kernel
theorem dX10_init_308 : decode cX10_init 308 = .ok (.return_, 1) := by decide +kernel
theorem dX10_thrown_0 : decode cX10_thrown 0 = .ok (.aload_n 0, 1) := by decide +kernel
theorem dX10_thrown_1 : decode cX10_thrown 1 = .ok (.getfield 100, 3) := by decide +kernel
theorem dX10_thrown_4 : decode cX10_thrown 4 = .ok (.ireturn, 1) := by decide +kernel
theorem dX10_feed_0 : decode cX10_feed 0 = .ok (.aload_n 0, 1) := by decide +kernel
theorem dX10_feed_1 : decode cX10_feed 1 = .ok (.iconst 0, 1) := by decide +kernel
theorem dX10_feed_2 : decode cX10_feed 2 = .ok (.putfield 100, 3) := by decide +kernel
theorem dX10_feed_5 : decode cX10_feed 5 = .ok (.aload_n 0, 1) := by decide +kernel
theorem dX10_feed_6 : decode cX10_feed 6 = .ok (.getfield 103, 3) := by decide +kernel
theorem dX10_feed_9 : decode cX10_feed 9 = .ok (.bipush 20, 2) := by decide +kernel
theorem dX10_feed_11 : decode cX10_feed 11 = .ok (.iadd, 1) := by decide +kernel
theorem dX10_feed_12 : decode cX10_feed 12 = .ok (.sipush 300, 3) := by decide +kernel
theorem dX10_feed_15 : decode cX10_feed 15 = .ok (.if_icmp .le 5, 3) := by decide +kernel
theorem dX10_feed_18 : decode cX10_feed 18 = .ok (.iconst (-1), 1) := by decide +kernel
theorem dX10_feed_19 : decode cX10_feed 19 = .ok (.ireturn, 1) := by decide +kernel
theorem dX10_feed_20 : decode cX10_feed 20 = .ok (.iconst 0, 1) := by decide +kernel
theorem dX10_feed_21 : decode cX10_feed 21 = .ok (.istore 6, 2) := by decide +kernel
theorem dX10_feed_23 : decode cX10_feed 23 = .ok (.iload 6, 2) := by decide +kernel
theorem dX10_feed_25 : decode cX10_feed 25 = .ok (.bipush 20, 2) := by decide +kernel
theorem dX10_feed_27 : decode cX10_feed 27 = .ok (.if_icmp .ge 86, 3) := by decide +kernel
theorem dX10_feed_30 : decode cX10_feed 30 = .ok (.iload 6, 2) := by decide +kernel
theorem dX10_feed_32 : decode cX10_feed 32 = .ok (.iconst 4, 1) := by decide +kernel
theorem dX10_feed_33 : decode cX10_feed 33 = .ok (.if_icmp .ge 7, 3) := by decide +kernel
theorem dX10_feed_36 : decode cX10_feed 36 = .ok (.iload_n 1, 1) := by decide +kernel
theorem dX10_feed_37 : decode cX10_feed 37 = .ok (.goto 39, 3) := by decide +kernel
theorem dX10_feed_40 : decode cX10_feed 40 = .ok (.iload 6, 2) := by decide +kernel
theorem dX10_feed_42 : decode cX10_feed 42 = .ok (.bipush 8, 2) := by decide +kernel
theorem dX10_feed_44 : decode cX10_feed 44 = .ok (.if_icmp .ge 7, 3) := by decide +kernel
theorem dX10_feed_47 : decode cX10_feed 47 = .ok (.iload_n 2, 1) := by decide +kernel
theorem dX10_feed_48 : decode cX10_feed 48 = .ok (.goto 28, 3) := by decide +kernel
theorem dX10_feed_51 : decode cX10_feed 51 = .ok (.iload 6, 2) := by decide +kernel
theorem dX10_feed_53 : decode cX10_feed 53 = .ok (.bipush 12, 2) := by decide +kernel
theorem dX10_feed_55 : decode cX10_feed 55 = .ok (.if_icmp .ge 7, 3) := by decide +kernel
theorem dX10_feed_58 : decode cX10_feed 58 = .ok (.iload_n 3, 1) := by decide +kernel
theorem dX10_feed_59 : decode cX10_feed 59 = .ok (.goto 17, 3) := by decide +kernel
theorem dX10_feed_62 : decode cX10_feed 62 = .ok (.iload 6, 2) := by decide +kernel
theorem dX10_feed_64 : decode cX10_feed 64 = .ok (.bipush 16, 2) := by decide +kernel
theorem dX10_feed_66 : decode cX10_feed 66 = .ok (.if_icmp .ge 8, 3) := by decide +kernel
theorem dX10_feed_69 : decode cX10_feed 69 = .ok (.iload 4, 2) := by decide +kernel
theorem dX10_feed_71 : decode cX10_feed 71 = .ok (.goto 5, 3) := by decide +kernel
theorem dX10_feed_74 : decode cX10_feed 74 = .ok (.iload 5, 2) := by decide +kernel
theorem dX10_feed_76 : decode cX10_feed 76 = .ok (.istore 7, 2) := by decide +kernel
theorem dX10_feed_78 : decode cX10_feed 78 = .ok (.aload_n 0, 1) := by decide +kernel
theorem dX10_feed_79 : decode cX10_feed 79 = .ok (.getfield 7, 3) := by decide +kernel
theorem dX10_feed_82 : decode cX10_feed 82 = .ok (.aload_n 0, 1) := by decide +kernel
theorem dX10_feed_83 : decode cX10_feed 83 = .ok (.getfield 103, 3) := by decide +kernel
theorem dX10_feed_86 : decode cX10_feed 86 = .ok (.iload 6, 2) := by decide +kernel
theorem dX10_feed_88 : decode cX10_feed 88 = .ok (.iadd, 1) := by decide +kernel
theorem dX10_feed_89 : decode cX10_feed 89 = .ok (.iload 7, 2) := by decide +kernel
theorem dX10_feed_91 : decode cX10_feed 91 = .ok (.bipush 24, 2) := by decide +kernel
theorem dX10_feed_93 : decode cX10_feed 93 = .ok (.bipush 8, 2) := by decide +kernel
theorem dX10_feed_95 : decode cX10_feed 95 = .ok (.iload 6, 2) := by decide +kernel
theorem dX10_feed_97 : decode cX10_feed 97 = .ok (.iconst 4, 1) := by decide +kernel
theorem dX10_feed_98 : decode cX10_feed 98 = .ok (.irem, 1) := by decide +kernel
theorem dX10_feed_99 : decode cX10_feed 99 = .ok (.imul, 1) := by decide +kernel
theorem dX10_feed_100 : decode cX10_feed 100 = .ok (.isub, 1) := by decide +kernel
theorem dX10_feed_101 : decode cX10_feed 101 = .ok (.ishr, 1) := by decide +kernel
theorem dX10_feed_102 : decode cX10_feed 102 = .ok (.sipush 255, 3) := by decide +kernel
theorem dX10_feed_105 : decode cX10_feed 105 = .ok (.iand, 1) := by decide +kernel
theorem dX10_feed_106 : decode cX10_feed 106 = .ok (.iastore, 1) := by decide +kernel
theorem dX10_feed_107 : decode cX10_feed 107 = .ok (.iinc 6 1, 3) := by decide +kernel
theorem dX10_feed_110 : decode cX10_feed 110 = .ok (.goto (-87), 3) := by decide +kernel
theorem dX10_feed_113 : decode cX10_feed 113 = .ok (.aload_n 0, 1) := by decide +kernel
theorem dX10_feed_114 : decode cX10_feed 114 = .ok (.dup, 1) := by decide +kernel
theorem dX10_feed_115 : decode cX10_feed 115 = .ok (.getfield 103, 3) := by decide +kernel
theorem dX10_feed_118 : decode cX10_feed 118 = .ok (.bipush 20, 2) := by decide +kernel
theorem dX10_feed_120 : decode cX10_feed 120 = .ok (.iadd, 1) := by decide +kernel
theorem dX10_feed_121 : decode cX10_feed 121 = .ok (.putfield 103, 3) := by decide +kernel
theorem dX10_feed_124 : decode cX10_feed 124 = .ok (.aload_n 0, 1) := by decide +kernel
theorem dX10_feed_125 : decode cX10_feed 125 = .ok (.getfield 103, 3) := by decide +kernel
theorem dX10_feed_128 : decode cX10_feed 128 = .ok (.ireturn, 1) := by decide +kernel
theorem dX10_wrong_0 : decode cX10_wrong 0 = .ok (.aload_n 0, 1) := by decide +kernel
theorem dX10_wrong_1 : decode cX10_wrong 1 = .ok (.iload_n 1, 1) := by decide +kernel
theorem dX10_wrong_2 : decode cX10_wrong 2 = .ok (.putfield 106, 3) := by decide +kernel
theorem dX10_wrong_5 : decode cX10_wrong 5 = .ok (.aload_n 0, 1) := by decide +kernel
theorem dX10_wrong_6 : decode cX10_wrong 6 = .ok (.iload_n 2, 1) := by decide +kernel
theorem dX10_wrong_7 : decode cX10_wrong 7 = .ok (.putfield 13, 3) := by decide +kernel
theorem dX10_wrong_10 : decode cX10_wrong 10 = .ok (.iconst 0, 1) := by decide +kernel
theorem dX10_wrong_11 : decode cX10_wrong 11 = .ok (.ireturn, 1) := by decide +kernel
theorem dX10_wordAt_0 : decode cX10_wordAt 0 = .ok (.iconst 0, 1) := by decide +kernel
theorem dX10_wordAt_1 : decode cX10_wordAt 1 = .ok (.istore_n 3, 1) := by decide +kernel
theorem dX10_wordAt_2 : decode cX10_wordAt 2 = .ok (.iconst 0, 1) := by decide +kernel
theorem dX10_wordAt_3 : decode cX10_wordAt 3 = .ok (.istore 4, 2) := by decide +kernel
theorem dX10_wordAt_5 : decode cX10_wordAt 5 = .ok (.iload 4, 2) := by decide +kernel
theorem dX10_wordAt_7 : decode cX10_wordAt 7 = .ok (.aload_n 0, 1) := by decide +kernel
theorem dX10_wordAt_8 : decode cX10_wordAt 8 = .ok (.getfield 54, 3) := by decide +kernel
theorem dX10_wordAt_11 : decode cX10_wordAt 11 = .ok (.arraylength, 1) := by decide +kernel
theorem dX10_wordAt_12 : decode cX10_wordAt 12 = .ok (.if_icmp .ge 114, 3) := by decide +kernel
theorem dX10_wordAt_15 : decode cX10_wordAt 15 = .ok (.iconst 0, 1) := by decide +kernel
theorem dX10_wordAt_16 : decode cX10_wordAt 16 = .ok (.istore 5, 2) := by decide +kernel
theorem dX10_wordAt_18 : decode cX10_wordAt 18 = .ok (.aload_n 0, 1) := by decide +kernel
theorem dX10_wordAt_19 : decode cX10_wordAt 19 = .ok (.getfield 54, 3) := by decide +kernel
theorem dX10_wordAt_22 : decode cX10_wordAt 22 = .ok (.iload 4, 2) := by decide +kernel
theorem dX10_wordAt_24 : decode cX10_wordAt 24 = .ok (.iload 5, 2) := by decide +kernel
theorem dX10_wordAt_26 : decode cX10_wordAt 26 = .ok (.iadd, 1) := by decide +kernel
theorem dX10_wordAt_27 : decode cX10_wordAt 27 = .ok (.iaload, 1) := by decide +kernel
theorem dX10_wordAt_28 : decode cX10_wordAt 28 = .ok (.bipush 32, 2) := by decide +kernel
theorem dX10_wordAt_30 : decode cX10_wordAt 30 = .ok (.if_icmp .eq 9, 3) := by decide +kernel
theorem dX10_wordAt_33 : decode cX10_wordAt 33 = .ok (.iinc 5 1, 3) := by decide +kernel
theorem dX10_wordAt_36 : decode cX10_wordAt 36 = .ok (.goto (-18), 3) := by decide +kernel
theorem dX10_wordAt_39 : decode cX10_wordAt 39 = .ok (.iload 5, 2) := by decide +kernel
theorem dX10_wordAt_41 : decode cX10_wordAt 41 = .ok (.iload_n 2, 1) := by decide +kernel
theorem dX10_wordAt_42 : decode cX10_wordAt 42 = .ok (.iload_n 1, 1) := by decide +kernel
theorem dX10_wordAt_43 : decode cX10_wordAt 43 = .ok (.isub, 1) := by decide +kernel
theorem dX10_wordAt_44 : decode cX10_wordAt 44 = .ok (.if_icmp .ne 7, 3) := by decide +kernel
theorem dX10_wordAt_47 : decode cX10_wordAt 47 = .ok (.iconst 1, 1) := by decide +kernel
theorem dX10_wordAt_48 : decode cX10_wordAt 48 = .ok (.goto 4, 3) := by decide +kernel
theorem dX10_wordAt_51 : decode cX10_wordAt 51 = .ok (.iconst 0, 1) := by decide +kernel
theorem dX10_wordAt_52 : decode cX10_wordAt 52 = .ok (.istore 6, 2) := by decide +kernel
theorem dX10_wordAt_54 : decode cX10_wordAt 54 = .ok (.iconst 0, 1) := by decide +kernel
theorem dX10_wordAt_55 : decode cX10_wordAt 55 = .ok (.istore 7, 2) := by decide +kernel
theorem dX10_wordAt_57 : decode cX10_wordAt 57 = .ok (.iload 7, 2) := by decide +kernel
theorem dX10_wordAt_59 : decode cX10_wordAt 59 = .ok (.iload 5, 2) := by decide +kernel
theorem dX10_wordAt_61 : decode cX10_wordAt 61 = .ok (.if_icmp .ge 43, 3) := by decide +kernel
theorem dX10_wordAt_64 : decode cX10_wordAt 64 = .ok (.iload 6, 2) := by decide +kernel
theorem dX10_wordAt_66 : decode cX10_wordAt 66 = .ok (.ifCond .eq 38, 3) := by decide +kernel
theorem dX10_wordAt_69 : decode cX10_wordAt 69 = .ok (.aload_n 0, 1) := by decide +kernel
theorem dX10_wordAt_70 : decode cX10_wordAt 70 = .ok (.getfield 54, 3) := by decide +kernel
theorem dX10_wordAt_73 : decode cX10_wordAt 73 = .ok (.iload 4, 2) := by decide +kernel
theorem dX10_wordAt_75 : decode cX10_wordAt 75 = .ok (.iload 7, 2) := by decide +kernel
theorem dX10_wordAt_77 : decode cX10_wordAt 77 = .ok (.iadd, 1) := by decide +kernel
theorem dX10_wordAt_78 : decode cX10_wordAt 78 = .ok (.iaload, 1) := by decide +kernel
theorem dX10_wordAt_79 : decode cX10_wordAt 79 = .ok (.aload_n 0, 1) := by decide +kernel
theorem dX10_wordAt_80 : decode cX10_wordAt 80 = .ok (.getfield 7, 3) := by decide +kernel
theorem dX10_wordAt_83 : decode cX10_wordAt 83 = .ok (.iload_n 1, 1) := by decide +kernel
theorem dX10_wordAt_84 : decode cX10_wordAt 84 = .ok (.iload 7, 2) := by decide +kernel
theorem dX10_wordAt_86 : decode cX10_wordAt 86 = .ok (.iadd, 1) := by decide +kernel
theorem dX10_wordAt_87 : decode cX10_wordAt 87 = .ok (.iaload, 1) := by decide +kernel
theorem dX10_wordAt_88 : decode cX10_wordAt 88 = .ok (.if_icmp .ne 7, 3) := by decide +kernel
theorem dX10_wordAt_91 : decode cX10_wordAt 91 = .ok (.iconst 1, 1) := by decide +kernel
theorem dX10_wordAt_92 : decode cX10_wordAt 92 = .ok (.goto 4, 3) := by decide +kernel
theorem dX10_wordAt_95 : decode cX10_wordAt 95 = .ok (.iconst 0, 1) := by decide +kernel
theorem dX10_wordAt_96 : decode cX10_wordAt 96 = .ok (.istore 6, 2) := by decide +kernel
theorem dX10_wordAt_98 : decode cX10_wordAt 98 = .ok (.iinc 7 1, 3) := by decide +kernel
theorem dX10_wordAt_101 : decode cX10_wordAt 101 = .ok (.goto (-44), 3) := by decide +kernel
theorem dX10_wordAt_104 : decode cX10_wordAt 104 = .ok (.iload 6, 2) := by decide +kernel
theorem dX10_wordAt_106 : decode cX10_wordAt 106 = .ok (.ifCond .eq 5, 3) := by decide +kernel
theorem dX10_wordAt_109 : decode cX10_wordAt 109 = .ok (.iload_n 3, 1) := by decide +kernel
theorem dX10_wordAt_110 : decode cX10_wordAt 110 = .ok (.ireturn, 1) := by decide +kernel
theorem dX10_wordAt_111 : decode cX10_wordAt 111 = .ok (.iload 4, 2) := by decide +kernel
theorem dX10_wordAt_113 : decode cX10_wordAt 113 = .ok (.iload 5, 2) := by decide +kernel
theorem dX10_wordAt_115 : decode cX10_wordAt 115 = .ok (.iconst 1, 1) := by decide +kernel
theorem dX10_wordAt_116 : decode cX10_wordAt 116 = .ok (.iadd, 1) := by decide +kernel
theorem dX10_wordAt_117 : decode cX10_wordAt 117 = .ok (.iadd, 1) := by decide +kernel
theorem dX10_wordAt_118 : decode cX10_wordAt 118 = .ok (.istore 4, 2) := by decide +kernel
theorem dX10_wordAt_120 : decode cX10_wordAt 120 = .ok (.iinc 3 1, 3) := by decide +kernel
theorem dX10_wordAt_123 : decode cX10_wordAt 123 = .ok (.goto (-118), 3) := by decide +kernel
theorem dX10_wordAt_126 : decode cX10_wordAt 126 = .ok (.iconst (-1), 1) := by decide +kernel
theorem dX10_wordAt_127 : decode cX10_wordAt 127 = .ok (.ireturn, 1) := by decide +kernel
theorem dX10_isSmall_0 : decode cX10_isSmall 0 = .ok (.iload_n 1, 1) := by decide +kernel
theorem dX10_isSmall_1 : decode cX10_isSmall 1 = .ok (.aload_n 0, 1) := by decide +kernel
theorem dX10_isSmall_2 : decode cX10_isSmall 2 = .ok (.getfield 109, 3) := by decide +kernel
theorem dX10_isSmall_5 : decode cX10_isSmall 5 = .ok (.if_icmp .ge 29, 3) := by decide +kernel
theorem dX10_isSmall_8 : decode cX10_isSmall 8 = .ok (.aload_n 0, 1) := by decide +kernel
theorem dX10_isSmall_9 : decode cX10_isSmall 9 = .ok (.getfield 7, 3) := by decide +kernel
theorem dX10_isSmall_12 : decode cX10_isSmall 12 = .ok (.iload_n 1, 1) := by decide +kernel
theorem dX10_isSmall_13 : decode cX10_isSmall 13 = .ok (.iaload, 1) := by decide +kernel
theorem dX10_isSmall_14 : decode cX10_isSmall 14 = .ok (.bipush 97, 2) := by decide +kernel
theorem dX10_isSmall_16 : decode cX10_isSmall 16 = .ok (.if_icmp .lt 18, 3) := by decide +kernel
theorem dX10_isSmall_19 : decode cX10_isSmall 19 = .ok (.aload_n 0, 1) := by decide +kernel
theorem dX10_isSmall_20 : decode cX10_isSmall 20 = .ok (.getfield 7, 3) := by decide +kernel
theorem dX10_isSmall_23 : decode cX10_isSmall 23 = .ok (.iload_n 1, 1) := by decide +kernel
theorem dX10_isSmall_24 : decode cX10_isSmall 24 = .ok (.iaload, 1) := by decide +kernel
theorem dX10_isSmall_25 : decode cX10_isSmall 25 = .ok (.bipush 122, 2) := by decide +kernel
theorem dX10_isSmall_27 : decode cX10_isSmall 27 = .ok (.if_icmp .gt 7, 3) := by decide +kernel
theorem dX10_isSmall_30 : decode cX10_isSmall 30 = .ok (.iconst 1, 1) := by decide +kernel
theorem dX10_isSmall_31 : decode cX10_isSmall 31 = .ok (.goto 4, 3) := by decide +kernel
theorem dX10_isSmall_34 : decode cX10_isSmall 34 = .ok (.iconst 0, 1) := by decide +kernel
theorem dX10_isSmall_35 : decode cX10_isSmall 35 = .ok (.ireturn, 1) := by decide +kernel
theorem dX10_isDigit_0 : decode cX10_isDigit 0 = .ok (.iload_n 1, 1) := by decide +kernel
theorem dX10_isDigit_1 : decode cX10_isDigit 1 = .ok (.aload_n 0, 1) := by decide +kernel
theorem dX10_isDigit_2 : decode cX10_isDigit 2 = .ok (.getfield 109, 3) := by decide +kernel
theorem dX10_isDigit_5 : decode cX10_isDigit 5 = .ok (.if_icmp .ge 29, 3) := by decide +kernel
theorem dX10_isDigit_8 : decode cX10_isDigit 8 = .ok (.aload_n 0, 1) := by decide +kernel
theorem dX10_isDigit_9 : decode cX10_isDigit 9 = .ok (.getfield 7, 3) := by decide +kernel
theorem dX10_isDigit_12 : decode cX10_isDigit 12 = .ok (.iload_n 1, 1) := by decide +kernel
theorem dX10_isDigit_13 : decode cX10_isDigit 13 = .ok (.iaload, 1) := by decide +kernel
theorem dX10_isDigit_14 : decode cX10_isDigit 14 = .ok (.bipush 48, 2) := by decide +kernel
theorem dX10_isDigit_16 : decode cX10_isDigit 16 = .ok (.if_icmp .lt 18, 3) := by decide +kernel
theorem dX10_isDigit_19 : decode cX10_isDigit 19 = .ok (.aload_n 0, 1) := by decide +kernel
theorem dX10_isDigit_20 : decode cX10_isDigit 20 = .ok (.getfield 7, 3) := by decide +kernel
theorem dX10_isDigit_23 : decode cX10_isDigit 23 = .ok (.iload_n 1, 1) := by decide +kernel
theorem dX10_isDigit_24 : decode cX10_isDigit 24 = .ok (.iaload, 1) := by decide +kernel
theorem dX10_isDigit_25 : decode cX10_isDigit 25 = .ok (.bipush 57, 2) := by decide +kernel
theorem dX10_isDigit_27 : decode cX10_isDigit 27 = .ok (.if_icmp .gt 7, 3) := by decide +kernel
theorem dX10_isDigit_30 : decode cX10_isDigit 30 = .ok (.iconst 1, 1) := by decide +kernel
theorem dX10_isDigit_31 : decode cX10_isDigit 31 = .ok (.goto 4, 3) := by decide +kernel
theorem dX10_isDigit_34 : decode cX10_isDigit 34 = .ok (.iconst 0, 1) := by decide +kernel
theorem dX10_isDigit_35 : decode cX10_isDigit 35 = .ok (.ireturn, 1) := by decide +kernel
theorem dX10_take_0 : decode cX10_take 0 = .ok (.aload_n 0, 1) := by decide +kernel
theorem dX10_take_1 : decode cX10_take 1 = .ok (.getfield 112, 3) := by decide +kernel
theorem dX10_take_4 : decode cX10_take 4 = .ok (.aload_n 0, 1) := by decide +kernel
theorem dX10_take_5 : decode cX10_take 5 = .ok (.getfield 109, 3) := by decide +kernel
theorem dX10_take_8 : decode cX10_take 8 = .ok (.if_icmp .ge 44, 3) := by decide +kernel
theorem dX10_take_11 : decode cX10_take 11 = .ok (.aload_n 0, 1) := by decide +kernel
theorem dX10_take_12 : decode cX10_take 12 = .ok (.getfield 7, 3) := by decide +kernel
theorem dX10_take_15 : decode cX10_take 15 = .ok (.aload_n 0, 1) := by decide +kernel
theorem dX10_take_16 : decode cX10_take 16 = .ok (.getfield 112, 3) := by decide +kernel
theorem dX10_take_19 : decode cX10_take 19 = .ok (.iaload, 1) := by decide +kernel
theorem dX10_take_20 : decode cX10_take 20 = .ok (.bipush 10, 2) := by decide +kernel
theorem dX10_take_22 : decode cX10_take 22 = .ok (.if_icmp .eq 17, 3) := by decide +kernel
theorem dX10_take_25 : decode cX10_take 25 = .ok (.aload_n 0, 1) := by decide +kernel
theorem dX10_take_26 : decode cX10_take 26 = .ok (.getfield 7, 3) := by decide +kernel
theorem dX10_take_29 : decode cX10_take 29 = .ok (.aload_n 0, 1) := by decide +kernel
theorem dX10_take_30 : decode cX10_take 30 = .ok (.getfield 112, 3) := by decide +kernel
theorem dX10_take_33 : decode cX10_take 33 = .ok (.iaload, 1) := by decide +kernel
theorem dX10_take_34 : decode cX10_take 34 = .ok (.bipush 32, 2) := by decide +kernel
theorem dX10_take_36 : decode cX10_take 36 = .ok (.if_icmp .ne 16, 3) := by decide +kernel
theorem dX10_take_39 : decode cX10_take 39 = .ok (.aload_n 0, 1) := by decide +kernel
theorem dX10_take_40 : decode cX10_take 40 = .ok (.dup, 1) := by decide +kernel
theorem dX10_take_41 : decode cX10_take 41 = .ok (.getfield 112, 3) := by decide +kernel
theorem dX10_take_44 : decode cX10_take 44 = .ok (.iconst 1, 1) := by decide +kernel
theorem dX10_take_45 : decode cX10_take 45 = .ok (.iadd, 1) := by decide +kernel
theorem dX10_take_46 : decode cX10_take 46 = .ok (.putfield 112, 3) := by decide +kernel
theorem dX10_take_49 : decode cX10_take 49 = .ok (.goto (-49), 3) := by decide +kernel
theorem dX10_take_52 : decode cX10_take 52 = .ok (.aload_n 0, 1) := by decide +kernel
theorem dX10_take_53 : decode cX10_take 53 = .ok (.aload_n 0, 1) := by decide +kernel
theorem dX10_take_54 : decode cX10_take 54 = .ok (.getfield 112, 3) := by decide +kernel
theorem dX10_take_57 : decode cX10_take 57 = .ok (.putfield 115, 3) := by decide +kernel
theorem dX10_take_60 : decode cX10_take 60 = .ok (.aload_n 0, 1) := by decide +kernel
theorem dX10_take_61 : decode cX10_take 61 = .ok (.getfield 112, 3) := by decide +kernel
theorem dX10_take_64 : decode cX10_take 64 = .ok (.aload_n 0, 1) := by decide +kernel
theorem dX10_take_65 : decode cX10_take 65 = .ok (.getfield 109, 3) := by decide +kernel
theorem dX10_take_68 : decode cX10_take 68 = .ok (.if_icmp .ne 11, 3) := by decide +kernel
theorem dX10_take_71 : decode cX10_take 71 = .ok (.aload_n 0, 1) := by decide +kernel
theorem dX10_take_72 : decode cX10_take 72 = .ok (.iconst 0, 1) := by decide +kernel
theorem dX10_take_73 : decode cX10_take 73 = .ok (.putfield 118, 3) := by decide +kernel
theorem dX10_take_76 : decode cX10_take 76 = .ok (.goto 267, 3) := by decide +kernel
theorem dX10_take_79 : decode cX10_take 79 = .ok (.aload_n 0, 1) := by decide +kernel
theorem dX10_take_80 : decode cX10_take 80 = .ok (.aload_n 0, 1) := by decide +kernel
theorem dX10_take_81 : decode cX10_take 81 = .ok (.getfield 112, 3) := by decide +kernel
theorem dX10_take_84 : decode cX10_take 84 = .ok (.invokevirtual 121, 3) := by decide +kernel
theorem dX10_take_87 : decode cX10_take 87 = .ok (.ifCond .eq 111, 3) := by decide +kernel
theorem dX10_take_90 : decode cX10_take 90 = .ok (.aload_n 0, 1) := by decide +kernel
theorem dX10_take_91 : decode cX10_take 91 = .ok (.aload_n 0, 1) := by decide +kernel
theorem dX10_take_92 : decode cX10_take 92 = .ok (.getfield 112, 3) := by decide +kernel
theorem dX10_take_95 : decode cX10_take 95 = .ok (.invokevirtual 121, 3) := by decide +kernel
theorem dX10_take_98 : decode cX10_take 98 = .ok (.ifCond .eq 16, 3) := by decide +kernel
theorem dX10_take_101 : decode cX10_take 101 = .ok (.aload_n 0, 1) := by decide +kernel
theorem dX10_take_102 : decode cX10_take 102 = .ok (.dup, 1) := by decide +kernel
theorem dX10_take_103 : decode cX10_take 103 = .ok (.getfield 112, 3) := by decide +kernel
theorem dX10_take_106 : decode cX10_take 106 = .ok (.iconst 1, 1) := by decide +kernel
theorem dX10_take_107 : decode cX10_take 107 = .ok (.iadd, 1) := by decide +kernel
theorem dX10_take_108 : decode cX10_take 108 = .ok (.putfield 112, 3) := by decide +kernel
theorem dX10_take_111 : decode cX10_take 111 = .ok (.goto (-21), 3) := by decide +kernel
theorem dX10_take_114 : decode cX10_take 114 = .ok (.aload_n 0, 1) := by decide +kernel
theorem dX10_take_115 : decode cX10_take 115 = .ok (.getfield 112, 3) := by decide +kernel
theorem dX10_take_118 : decode cX10_take 118 = .ok (.aload_n 0, 1) := by decide +kernel
theorem dX10_take_119 : decode cX10_take 119 = .ok (.getfield 115, 3) := by decide +kernel
theorem dX10_take_122 : decode cX10_take 122 = .ok (.isub, 1) := by decide +kernel
theorem dX10_take_123 : decode cX10_take 123 = .ok (.iconst 1, 1) := by decide +kernel
theorem dX10_take_124 : decode cX10_take 124 = .ok (.if_icmp .ne 39, 3) := by decide +kernel
theorem dX10_take_127 : decode cX10_take 127 = .ok (.aload_n 0, 1) := by decide +kernel
theorem dX10_take_128 : decode cX10_take 128 = .ok (.aload_n 0, 1) := by decide +kernel
theorem dX10_take_129 : decode cX10_take 129 = .ok (.getfield 7, 3) := by decide +kernel
theorem dX10_take_132 : decode cX10_take 132 = .ok (.aload_n 0, 1) := by decide +kernel
theorem dX10_take_133 : decode cX10_take 133 = .ok (.getfield 115, 3) := by decide +kernel
theorem dX10_take_136 : decode cX10_take 136 = .ok (.iaload, 1) := by decide +kernel
theorem dX10_take_137 : decode cX10_take 137 = .ok (.bipush 97, 2) := by decide +kernel
theorem dX10_take_139 : decode cX10_take 139 = .ok (.isub, 1) := by decide +kernel
theorem dX10_take_140 : decode cX10_take 140 = .ok (.putfield 125, 3) := by decide +kernel
theorem dX10_take_143 : decode cX10_take 143 = .ok (.aload_n 0, 1) := by decide +kernel
theorem dX10_take_144 : decode cX10_take 144 = .ok (.aload_n 0, 1) := by decide +kernel
theorem dX10_take_145 : decode cX10_take 145 = .ok (.getfield 125, 3) := by decide +kernel
theorem dX10_take_148 : decode cX10_take 148 = .ok (.iconst 4, 1) := by decide +kernel
theorem dX10_take_149 : decode cX10_take 149 = .ok (.if_icmp .ge 7, 3) := by decide +kernel
theorem dX10_take_152 : decode cX10_take 152 = .ok (.iconst 1, 1) := by decide +kernel
theorem dX10_take_153 : decode cX10_take 153 = .ok (.goto 4, 3) := by decide +kernel
theorem dX10_take_156 : decode cX10_take 156 = .ok (.iconst 5, 1) := by decide +kernel
theorem dX10_take_157 : decode cX10_take 157 = .ok (.putfield 118, 3) := by decide +kernel
theorem dX10_take_160 : decode cX10_take 160 = .ok (.goto 183, 3) := by decide +kernel
theorem dX10_take_163 : decode cX10_take 163 = .ok (.aload_n 0, 1) := by decide +kernel
theorem dX10_take_164 : decode cX10_take 164 = .ok (.aload_n 0, 1) := by decide +kernel
theorem dX10_take_165 : decode cX10_take 165 = .ok (.aload_n 0, 1) := by decide +kernel
theorem dX10_take_166 : decode cX10_take 166 = .ok (.getfield 115, 3) := by decide +kernel
theorem dX10_take_169 : decode cX10_take 169 = .ok (.aload_n 0, 1) := by decide +kernel
theorem dX10_take_170 : decode cX10_take 170 = .ok (.getfield 112, 3) := by decide +kernel
theorem dX10_take_173 : decode cX10_take 173 = .ok (.invokevirtual 128, 3) := by decide +kernel
theorem dX10_take_176 : decode cX10_take 176 = .ok (.putfield 125, 3) := by decide +kernel
theorem dX10_take_179 : decode cX10_take 179 = .ok (.aload_n 0, 1) := by decide +kernel
theorem dX10_take_180 : decode cX10_take 180 = .ok (.aload_n 0, 1) := by decide +kernel
theorem dX10_take_181 : decode cX10_take 181 = .ok (.getfield 125, 3) := by decide +kernel
theorem dX10_take_184 : decode cX10_take 184 = .ok (.ifCond .ge 7, 3) := by decide +kernel
theorem dX10_take_187 : decode cX10_take 187 = .ok (.iconst 5, 1) := by decide +kernel
theorem dX10_take_188 : decode cX10_take 188 = .ok (.goto 4, 3) := by decide +kernel
theorem dX10_take_191 : decode cX10_take 191 = .ok (.iconst 2, 1) := by decide +kernel
theorem dX10_take_192 : decode cX10_take 192 = .ok (.putfield 118, 3) := by decide +kernel
theorem dX10_take_195 : decode cX10_take 195 = .ok (.goto 148, 3) := by decide +kernel
theorem dX10_take_198 : decode cX10_take 198 = .ok (.aload_n 0, 1) := by decide +kernel
theorem dX10_take_199 : decode cX10_take 199 = .ok (.aload_n 0, 1) := by decide +kernel
theorem dX10_take_200 : decode cX10_take 200 = .ok (.getfield 112, 3) := by decide +kernel
theorem dX10_take_203 : decode cX10_take 203 = .ok (.invokevirtual 132, 3) := by decide +kernel
theorem dX10_take_206 : decode cX10_take 206 = .ok (.ifCond .eq 78, 3) := by decide +kernel
theorem dX10_take_209 : decode cX10_take 209 = .ok (.aload_n 0, 1) := by decide +kernel
theorem dX10_take_210 : decode cX10_take 210 = .ok (.iconst 3, 1) := by decide +kernel
theorem dX10_take_211 : decode cX10_take 211 = .ok (.putfield 118, 3) := by decide +kernel
theorem dX10_take_214 : decode cX10_take 214 = .ok (.aload_n 0, 1) := by decide +kernel
theorem dX10_take_215 : decode cX10_take 215 = .ok (.iconst 0, 1) := by decide +kernel
theorem dX10_take_216 : decode cX10_take 216 = .ok (.putfield 125, 3) := by decide +kernel
theorem dX10_take_219 : decode cX10_take 219 = .ok (.aload_n 0, 1) := by decide +kernel
theorem dX10_take_220 : decode cX10_take 220 = .ok (.aload_n 0, 1) := by decide +kernel
theorem dX10_take_221 : decode cX10_take 221 = .ok (.getfield 112, 3) := by decide +kernel
theorem dX10_take_224 : decode cX10_take 224 = .ok (.invokevirtual 132, 3) := by decide +kernel
theorem dX10_take_227 : decode cX10_take 227 = .ok (.ifCond .eq 116, 3) := by decide +kernel
theorem dX10_take_230 : decode cX10_take 230 = .ok (.aload_n 0, 1) := by decide +kernel
theorem dX10_take_231 : decode cX10_take 231 = .ok (.aload_n 0, 1) := by decide +kernel
theorem dX10_take_232 : decode cX10_take 232 = .ok (.getfield 125, 3) := by decide +kernel
theorem dX10_take_235 : decode cX10_take 235 = .ok (.sipush 999, 3) := by decide +kernel
theorem dX10_take_238 : decode cX10_take 238 = .ok (.if_icmp .le 10, 3) := by decide +kernel
theorem dX10_take_241 : decode cX10_take 241 = .ok (.aload_n 0, 1) := by decide +kernel
theorem dX10_take_242 : decode cX10_take 242 = .ok (.getfield 125, 3) := by decide +kernel
theorem dX10_take_245 : decode cX10_take 245 = .ok (.goto 23, 3) := by decide +kernel
theorem dX10_take_248 : decode cX10_take 248 = .ok (.bipush 10, 2) := by decide +kernel
theorem dX10_take_250 : decode cX10_take 250 = .ok (.aload_n 0, 1) := by decide +kernel
theorem dX10_take_251 : decode cX10_take 251 = .ok (.getfield 125, 3) := by decide +kernel
theorem dX10_take_254 : decode cX10_take 254 = .ok (.imul, 1) := by decide +kernel
theorem dX10_take_255 : decode cX10_take 255 = .ok (.aload_n 0, 1) := by decide +kernel
theorem dX10_take_256 : decode cX10_take 256 = .ok (.getfield 7, 3) := by decide +kernel
theorem dX10_take_259 : decode cX10_take 259 = .ok (.aload_n 0, 1) := by decide +kernel
theorem dX10_take_260 : decode cX10_take 260 = .ok (.getfield 112, 3) := by decide +kernel
theorem dX10_take_263 : decode cX10_take 263 = .ok (.iaload, 1) := by decide +kernel
theorem dX10_take_264 : decode cX10_take 264 = .ok (.iadd, 1) := by decide +kernel
theorem dX10_take_265 : decode cX10_take 265 = .ok (.bipush 48, 2) := by decide +kernel
theorem dX10_take_267 : decode cX10_take 267 = .ok (.isub, 1) := by decide +kernel
theorem dX10_take_268 : decode cX10_take 268 = .ok (.putfield 125, 3) := by decide +kernel
theorem dX10_take_271 : decode cX10_take 271 = .ok (.aload_n 0, 1) := by decide +kernel
theorem dX10_take_272 : decode cX10_take 272 = .ok (.dup, 1) := by decide +kernel
theorem dX10_take_273 : decode cX10_take 273 = .ok (.getfield 112, 3) := by decide +kernel
theorem dX10_take_276 : decode cX10_take 276 = .ok (.iconst 1, 1) := by decide +kernel
theorem dX10_take_277 : decode cX10_take 277 = .ok (.iadd, 1) := by decide +kernel
theorem dX10_take_278 : decode cX10_take 278 = .ok (.putfield 112, 3) := by decide +kernel
theorem dX10_take_281 : decode cX10_take 281 = .ok (.goto (-62), 3) := by decide +kernel
theorem dX10_take_284 : decode cX10_take 284 = .ok (.aload_n 0, 1) := by decide +kernel
theorem dX10_take_285 : decode cX10_take 285 = .ok (.aload_n 0, 1) := by decide +kernel
theorem dX10_take_286 : decode cX10_take 286 = .ok (.getfield 7, 3) := by decide +kernel
theorem dX10_take_289 : decode cX10_take 289 = .ok (.aload_n 0, 1) := by decide +kernel
theorem dX10_take_290 : decode cX10_take 290 = .ok (.getfield 112, 3) := by decide +kernel
theorem dX10_take_293 : decode cX10_take 293 = .ok (.iaload, 1) := by decide +kernel
theorem dX10_take_294 : decode cX10_take 294 = .ok (.putfield 125, 3) := by decide +kernel
theorem dX10_take_297 : decode cX10_take 297 = .ok (.aload_n 0, 1) := by decide +kernel
theorem dX10_take_298 : decode cX10_take 298 = .ok (.aload_n 0, 1) := by decide +kernel
theorem dX10_take_299 : decode cX10_take 299 = .ok (.getfield 125, 3) := by decide +kernel
theorem dX10_take_302 : decode cX10_take 302 = .ok (.bipush 58, 2) := by decide +kernel
theorem dX10_take_304 : decode cX10_take 304 = .ok (.if_icmp .eq 21, 3) := by decide +kernel
theorem dX10_take_307 : decode cX10_take 307 = .ok (.aload_n 0, 1) := by decide +kernel
theorem dX10_take_308 : decode cX10_take 308 = .ok (.getfield 125, 3) := by decide +kernel
theorem dX10_take_311 : decode cX10_take 311 = .ok (.bipush 124, 2) := by decide +kernel
theorem dX10_take_313 : decode cX10_take 313 = .ok (.if_icmp .eq 12, 3) := by decide +kernel
theorem dX10_take_316 : decode cX10_take 316 = .ok (.aload_n 0, 1) := by decide +kernel
theorem dX10_take_317 : decode cX10_take 317 = .ok (.getfield 125, 3) := by decide +kernel
theorem dX10_take_320 : decode cX10_take 320 = .ok (.bipush 59, 2) := by decide +kernel
theorem dX10_take_322 : decode cX10_take 322 = .ok (.if_icmp .ne 7, 3) := by decide +kernel
theorem dX10_take_325 : decode cX10_take 325 = .ok (.iconst 4, 1) := by decide +kernel
theorem dX10_take_326 : decode cX10_take 326 = .ok (.goto 4, 3) := by decide +kernel
theorem dX10_take_329 : decode cX10_take 329 = .ok (.iconst 5, 1) := by decide +kernel
theorem dX10_take_330 : decode cX10_take 330 = .ok (.putfield 118, 3) := by decide +kernel
theorem dX10_take_333 : decode cX10_take 333 = .ok (.aload_n 0, 1) := by decide +kernel
theorem dX10_take_334 : decode cX10_take 334 = .ok (.dup, 1) := by decide +kernel
theorem dX10_take_335 : decode cX10_take 335 = .ok (.getfield 112, 3) := by decide +kernel
theorem dX10_take_338 : decode cX10_take 338 = .ok (.iconst 1, 1) := by decide +kernel
theorem dX10_take_339 : decode cX10_take 339 = .ok (.iadd, 1) := by decide +kernel
theorem dX10_take_340 : decode cX10_take 340 = .ok (.putfield 112, 3) := by decide +kernel
theorem dX10_take_343 : decode cX10_take 343 = .ok (.return_, 1) := by decide +kernel
theorem dX10_sign_0 : decode cX10_sign 0 = .ok (.aload_n 0, 1) := by decide +kernel
theorem dX10_sign_1 : decode cX10_sign 1 = .ok (.getfield 118, 3) := by decide +kernel
theorem dX10_sign_4 : decode cX10_sign 4 = .ok (.iconst 4, 1) := by decide +kernel
theorem dX10_sign_5 : decode cX10_sign 5 = .ok (.if_icmp .ne 11, 3) := by decide +kernel
theorem dX10_sign_8 : decode cX10_sign 8 = .ok (.aload_n 0, 1) := by decide +kernel
theorem dX10_sign_9 : decode cX10_sign 9 = .ok (.getfield 125, 3) := by decide +kernel
theorem dX10_sign_12 : decode cX10_sign 12 = .ok (.iload_n 1, 1) := by decide +kernel
theorem dX10_sign_13 : decode cX10_sign 13 = .ok (.if_icmp .eq 13, 3) := by decide +kernel
theorem dX10_sign_16 : decode cX10_sign 16 = .ok (.aload_n 0, 1) := by decide +kernel
theorem dX10_sign_17 : decode cX10_sign 17 = .ok (.iconst 1, 1) := by decide +kernel
theorem dX10_sign_18 : decode cX10_sign 18 = .ok (.aload_n 0, 1) := by decide +kernel
theorem dX10_sign_19 : decode cX10_sign 19 = .ok (.getfield 115, 3) := by decide +kernel
theorem dX10_sign_22 : decode cX10_sign 22 = .ok (.invokevirtual 135, 3) := by decide +kernel
theorem dX10_sign_25 : decode cX10_sign 25 = .ok (.ireturn, 1) := by decide +kernel
theorem dX10_sign_26 : decode cX10_sign 26 = .ok (.aload_n 0, 1) := by decide +kernel
theorem dX10_sign_27 : decode cX10_sign 27 = .ok (.invokevirtual 139, 3) := by decide +kernel
theorem dX10_sign_30 : decode cX10_sign 30 = .ok (.iconst 1, 1) := by decide +kernel
theorem dX10_sign_31 : decode cX10_sign 31 = .ok (.ireturn, 1) := by decide +kernel
theorem dX10_actAt_0 : decode cX10_actAt 0 = .ok (.aload_n 0, 1) := by decide +kernel
theorem dX10_actAt_1 : decode cX10_actAt 1 = .ok (.getfield 118, 3) := by decide +kernel
theorem dX10_actAt_4 : decode cX10_actAt 4 = .ok (.iconst 3, 1) := by decide +kernel
theorem dX10_actAt_5 : decode cX10_actAt 5 = .ok (.if_icmp .eq 13, 3) := by decide +kernel
theorem dX10_actAt_8 : decode cX10_actAt 8 = .ok (.aload_n 0, 1) := by decide +kernel
theorem dX10_actAt_9 : decode cX10_actAt 9 = .ok (.iconst 1, 1) := by decide +kernel
theorem dX10_actAt_10 : decode cX10_actAt 10 = .ok (.aload_n 0, 1) := by decide +kernel
theorem dX10_actAt_11 : decode cX10_actAt 11 = .ok (.getfield 115, 3) := by decide +kernel
theorem dX10_actAt_14 : decode cX10_actAt 14 = .ok (.invokevirtual 135, 3) := by decide +kernel
theorem dX10_actAt_17 : decode cX10_actAt 17 = .ok (.ireturn, 1) := by decide +kernel
theorem dX10_actAt_18 : decode cX10_actAt 18 = .ok (.aload_n 0, 1) := by decide +kernel
theorem dX10_actAt_19 : decode cX10_actAt 19 = .ok (.getfield 125, 3) := by decide +kernel
theorem dX10_actAt_22 : decode cX10_actAt 22 = .ok (.bipush 9, 2) := by decide +kernel
theorem dX10_actAt_24 : decode cX10_actAt 24 = .ok (.if_icmp .le 13, 3) := by decide +kernel
theorem dX10_actAt_27 : decode cX10_actAt 27 = .ok (.aload_n 0, 1) := by decide +kernel
theorem dX10_actAt_28 : decode cX10_actAt 28 = .ok (.iconst 2, 1) := by decide +kernel
theorem dX10_actAt_29 : decode cX10_actAt 29 = .ok (.aload_n 0, 1) := by decide +kernel
theorem dX10_actAt_30 : decode cX10_actAt 30 = .ok (.getfield 115, 3) := by decide +kernel
theorem dX10_actAt_33 : decode cX10_actAt 33 = .ok (.invokevirtual 135, 3) := by decide +kernel
theorem dX10_actAt_36 : decode cX10_actAt 36 = .ok (.ireturn, 1) := by decide +kernel
theorem dX10_actAt_37 : decode cX10_actAt 37 = .ok (.aload_n 0, 1) := by decide +kernel
theorem dX10_actAt_38 : decode cX10_actAt 38 = .ok (.getfield 17, 3) := by decide +kernel
theorem dX10_actAt_41 : decode cX10_actAt 41 = .ok (.iload_n 1, 1) := by decide +kernel
theorem dX10_actAt_42 : decode cX10_actAt 42 = .ok (.aload_n 0, 1) := by decide +kernel
theorem dX10_actAt_43 : decode cX10_actAt 43 = .ok (.getfield 125, 3) := by decide +kernel
theorem dX10_actAt_46 : decode cX10_actAt 46 = .ok (.iastore, 1) := by decide +kernel
theorem dX10_actAt_47 : decode cX10_actAt 47 = .ok (.aload_n 0, 1) := by decide +kernel
theorem dX10_actAt_48 : decode cX10_actAt 48 = .ok (.invokevirtual 139, 3) := by decide +kernel
theorem dX10_actAt_51 : decode cX10_actAt 51 = .ok (.aload_n 0, 1) := by decide +kernel
theorem dX10_actAt_52 : decode cX10_actAt 52 = .ok (.getfield 118, 3) := by decide +kernel
theorem dX10_actAt_55 : decode cX10_actAt 55 = .ok (.iconst 2, 1) := by decide +kernel
theorem dX10_actAt_56 : decode cX10_actAt 56 = .ok (.if_icmp .eq 13, 3) := by decide +kernel
theorem dX10_actAt_59 : decode cX10_actAt 59 = .ok (.aload_n 0, 1) := by decide +kernel
theorem dX10_actAt_60 : decode cX10_actAt 60 = .ok (.iconst 1, 1) := by decide +kernel
theorem dX10_actAt_61 : decode cX10_actAt 61 = .ok (.aload_n 0, 1) := by decide +kernel
theorem dX10_actAt_62 : decode cX10_actAt 62 = .ok (.getfield 115, 3) := by decide +kernel
theorem dX10_actAt_65 : decode cX10_actAt 65 = .ok (.invokevirtual 135, 3) := by decide +kernel
theorem dX10_actAt_68 : decode cX10_actAt 68 = .ok (.ireturn, 1) := by decide +kernel
theorem dX10_actAt_69 : decode cX10_actAt 69 = .ok (.aload_n 0, 1) := by decide +kernel
theorem dX10_actAt_70 : decode cX10_actAt 70 = .ok (.getfield 17, 3) := by decide +kernel
theorem dX10_actAt_73 : decode cX10_actAt 73 = .ok (.iload_n 1, 1) := by decide +kernel
theorem dX10_actAt_74 : decode cX10_actAt 74 = .ok (.iconst 1, 1) := by decide +kernel
theorem dX10_actAt_75 : decode cX10_actAt 75 = .ok (.iadd, 1) := by decide +kernel
theorem dX10_actAt_76 : decode cX10_actAt 76 = .ok (.aload_n 0, 1) := by decide +kernel
theorem dX10_actAt_77 : decode cX10_actAt 77 = .ok (.getfield 125, 3) := by decide +kernel
theorem dX10_actAt_80 : decode cX10_actAt 80 = .ok (.iastore, 1) := by decide +kernel
theorem dX10_actAt_81 : decode cX10_actAt 81 = .ok (.aload_n 0, 1) := by decide +kernel
theorem dX10_actAt_82 : decode cX10_actAt 82 = .ok (.invokevirtual 139, 3) := by decide +kernel
theorem dX10_actAt_85 : decode cX10_actAt 85 = .ok (.aload_n 0, 1) := by decide +kernel
theorem dX10_actAt_86 : decode cX10_actAt 86 = .ok (.getfield 118, 3) := by decide +kernel
theorem dX10_actAt_89 : decode cX10_actAt 89 = .ok (.iconst 1, 1) := by decide +kernel
theorem dX10_actAt_90 : decode cX10_actAt 90 = .ok (.if_icmp .eq 13, 3) := by decide +kernel
theorem dX10_actAt_93 : decode cX10_actAt 93 = .ok (.aload_n 0, 1) := by decide +kernel
theorem dX10_actAt_94 : decode cX10_actAt 94 = .ok (.iconst 1, 1) := by decide +kernel
theorem dX10_actAt_95 : decode cX10_actAt 95 = .ok (.aload_n 0, 1) := by decide +kernel
theorem dX10_actAt_96 : decode cX10_actAt 96 = .ok (.getfield 115, 3) := by decide +kernel
theorem dX10_actAt_99 : decode cX10_actAt 99 = .ok (.invokevirtual 135, 3) := by decide +kernel
theorem dX10_actAt_102 : decode cX10_actAt 102 = .ok (.ireturn, 1) := by decide +kernel
theorem dX10_actAt_103 : decode cX10_actAt 103 = .ok (.aload_n 0, 1) := by decide +kernel
theorem dX10_actAt_104 : decode cX10_actAt 104 = .ok (.getfield 17, 3) := by decide +kernel
theorem dX10_actAt_107 : decode cX10_actAt 107 = .ok (.iload_n 1, 1) := by decide +kernel
theorem dX10_actAt_108 : decode cX10_actAt 108 = .ok (.iconst 2, 1) := by decide +kernel
theorem dX10_actAt_109 : decode cX10_actAt 109 = .ok (.iadd, 1) := by decide +kernel
theorem dX10_actAt_110 : decode cX10_actAt 110 = .ok (.aload_n 0, 1) := by decide +kernel
theorem dX10_actAt_111 : decode cX10_actAt 111 = .ok (.getfield 125, 3) := by decide +kernel
theorem dX10_actAt_114 : decode cX10_actAt 114 = .ok (.iastore, 1) := by decide +kernel
theorem dX10_actAt_115 : decode cX10_actAt 115 = .ok (.aload_n 0, 1) := by decide +kernel
theorem dX10_actAt_116 : decode cX10_actAt 116 = .ok (.getfield 57, 3) := by decide +kernel
theorem dX10_actAt_119 : decode cX10_actAt 119 = .ok (.aload_n 0, 1) := by decide +kernel
theorem dX10_actAt_120 : decode cX10_actAt 120 = .ok (.getfield 142, 3) := by decide +kernel
theorem dX10_actAt_123 : decode cX10_actAt 123 = .ok (.aload_n 0, 1) := by decide +kernel
theorem dX10_actAt_124 : decode cX10_actAt 124 = .ok (.getfield 125, 3) := by decide +kernel
theorem dX10_actAt_127 : decode cX10_actAt 127 = .ok (.iastore, 1) := by decide +kernel
theorem dX10_actAt_128 : decode cX10_actAt 128 = .ok (.aload_n 0, 1) := by decide +kernel
theorem dX10_actAt_129 : decode cX10_actAt 129 = .ok (.getfield 60, 3) := by decide +kernel
theorem dX10_actAt_132 : decode cX10_actAt 132 = .ok (.aload_n 0, 1) := by decide +kernel
theorem dX10_actAt_133 : decode cX10_actAt 133 = .ok (.getfield 142, 3) := by decide +kernel
theorem dX10_actAt_136 : decode cX10_actAt 136 = .ok (.aload_n 0, 1) := by decide +kernel
theorem dX10_actAt_137 : decode cX10_actAt 137 = .ok (.getfield 115, 3) := by decide +kernel
theorem dX10_actAt_140 : decode cX10_actAt 140 = .ok (.iastore, 1) := by decide +kernel
theorem dX10_actAt_141 : decode cX10_actAt 141 = .ok (.aload_n 0, 1) := by decide +kernel
theorem dX10_actAt_142 : decode cX10_actAt 142 = .ok (.dup, 1) := by decide +kernel
theorem dX10_actAt_143 : decode cX10_actAt 143 = .ok (.getfield 142, 3) := by decide +kernel
theorem dX10_actAt_146 : decode cX10_actAt 146 = .ok (.iconst 1, 1) := by decide +kernel
theorem dX10_actAt_147 : decode cX10_actAt 147 = .ok (.iadd, 1) := by decide +kernel
theorem dX10_actAt_148 : decode cX10_actAt 148 = .ok (.putfield 142, 3) := by decide +kernel
theorem dX10_actAt_151 : decode cX10_actAt 151 = .ok (.aload_n 0, 1) := by decide +kernel
theorem dX10_actAt_152 : decode cX10_actAt 152 = .ok (.invokevirtual 139, 3) := by decide +kernel
theorem dX10_actAt_155 : decode cX10_actAt 155 = .ok (.iconst 1, 1) := by decide +kernel
theorem dX10_actAt_156 : decode cX10_actAt 156 = .ok (.ireturn, 1) := by decide +kernel
theorem dX10_line_0 : decode cX10_line 0 = .ok (.aload_n 0, 1) := by decide +kernel
theorem dX10_line_1 : decode cX10_line 1 = .ok (.getfield 118, 3) := by decide +kernel
theorem dX10_line_4 : decode cX10_line 4 = .ok (.iconst 1, 1) := by decide +kernel
theorem dX10_line_5 : decode cX10_line 5 = .ok (.if_icmp .eq 13, 3) := by decide +kernel
theorem dX10_line_8 : decode cX10_line 8 = .ok (.aload_n 0, 1) := by decide +kernel
theorem dX10_line_9 : decode cX10_line 9 = .ok (.iconst 1, 1) := by decide +kernel
theorem dX10_line_10 : decode cX10_line 10 = .ok (.aload_n 0, 1) := by decide +kernel
theorem dX10_line_11 : decode cX10_line 11 = .ok (.getfield 115, 3) := by decide +kernel
theorem dX10_line_14 : decode cX10_line 14 = .ok (.invokevirtual 135, 3) := by decide +kernel
theorem dX10_line_17 : decode cX10_line 17 = .ok (.ireturn, 1) := by decide +kernel
theorem dX10_line_18 : decode cX10_line 18 = .ok (.aload_n 0, 1) := by decide +kernel
theorem dX10_line_19 : decode cX10_line 19 = .ok (.getfield 125, 3) := by decide +kernel
theorem dX10_line_22 : decode cX10_line 22 = .ok (.istore_n 1, 1) := by decide +kernel
theorem dX10_line_23 : decode cX10_line 23 = .ok (.aload_n 0, 1) := by decide +kernel
theorem dX10_line_24 : decode cX10_line 24 = .ok (.getfield 63, 3) := by decide +kernel
theorem dX10_line_27 : decode cX10_line 27 = .ok (.iload_n 1, 1) := by decide +kernel
theorem dX10_line_28 : decode cX10_line 28 = .ok (.baload, 1) := by decide +kernel
theorem dX10_line_29 : decode cX10_line 29 = .ok (.ifCond .eq 13, 3) := by decide +kernel
theorem dX10_line_32 : decode cX10_line 32 = .ok (.aload_n 0, 1) := by decide +kernel
theorem dX10_line_33 : decode cX10_line 33 = .ok (.iconst 3, 1) := by decide +kernel
theorem dX10_line_34 : decode cX10_line 34 = .ok (.aload_n 0, 1) := by decide +kernel
theorem dX10_line_35 : decode cX10_line 35 = .ok (.getfield 115, 3) := by decide +kernel
theorem dX10_line_38 : decode cX10_line 38 = .ok (.invokevirtual 135, 3) := by decide +kernel
theorem dX10_line_41 : decode cX10_line 41 = .ok (.ireturn, 1) := by decide +kernel
theorem dX10_line_42 : decode cX10_line 42 = .ok (.aload_n 0, 1) := by decide +kernel
theorem dX10_line_43 : decode cX10_line 43 = .ok (.getfield 63, 3) := by decide +kernel
theorem dX10_line_46 : decode cX10_line 46 = .ok (.iload_n 1, 1) := by decide +kernel
theorem dX10_line_47 : decode cX10_line 47 = .ok (.iconst 1, 1) := by decide +kernel
theorem dX10_line_48 : decode cX10_line 48 = .ok (.bastore, 1) := by decide +kernel
theorem dX10_line_49 : decode cX10_line 49 = .ok (.aload_n 0, 1) := by decide +kernel
theorem dX10_line_50 : decode cX10_line 50 = .ok (.getfield 145, 3) := by decide +kernel
theorem dX10_line_53 : decode cX10_line 53 = .ok (.ifCond .ne 8, 3) := by decide +kernel
theorem dX10_line_56 : decode cX10_line 56 = .ok (.aload_n 0, 1) := by decide +kernel
theorem dX10_line_57 : decode cX10_line 57 = .ok (.iload_n 1, 1) := by decide +kernel
theorem dX10_line_58 : decode cX10_line 58 = .ok (.putfield 148, 3) := by decide +kernel
theorem dX10_line_61 : decode cX10_line 61 = .ok (.aload_n 0, 1) := by decide +kernel
theorem dX10_line_62 : decode cX10_line 62 = .ok (.dup, 1) := by decide +kernel
theorem dX10_line_63 : decode cX10_line 63 = .ok (.getfield 145, 3) := by decide +kernel
theorem dX10_line_66 : decode cX10_line 66 = .ok (.iconst 1, 1) := by decide +kernel
theorem dX10_line_67 : decode cX10_line 67 = .ok (.iadd, 1) := by decide +kernel
theorem dX10_line_68 : decode cX10_line 68 = .ok (.putfield 145, 3) := by decide +kernel
theorem dX10_line_71 : decode cX10_line 71 = .ok (.aload_n 0, 1) := by decide +kernel
theorem dX10_line_72 : decode cX10_line 72 = .ok (.invokevirtual 139, 3) := by decide +kernel
theorem dX10_line_75 : decode cX10_line 75 = .ok (.bipush 24, 2) := by decide +kernel
theorem dX10_line_77 : decode cX10_line 77 = .ok (.bipush 6, 2) := by decide +kernel
theorem dX10_line_79 : decode cX10_line 79 = .ok (.iload_n 1, 1) := by decide +kernel
theorem dX10_line_80 : decode cX10_line 80 = .ok (.imul, 1) := by decide +kernel
theorem dX10_line_81 : decode cX10_line 81 = .ok (.iadd, 1) := by decide +kernel
theorem dX10_line_82 : decode cX10_line 82 = .ok (.istore_n 2, 1) := by decide +kernel
theorem dX10_line_83 : decode cX10_line 83 = .ok (.aload_n 0, 1) := by decide +kernel
theorem dX10_line_84 : decode cX10_line 84 = .ok (.getfield 17, 3) := by decide +kernel
theorem dX10_line_87 : decode cX10_line 87 = .ok (.iload_n 2, 1) := by decide +kernel
theorem dX10_line_88 : decode cX10_line 88 = .ok (.iconst 3, 1) := by decide +kernel
theorem dX10_line_89 : decode cX10_line 89 = .ok (.iadd, 1) := by decide +kernel
theorem dX10_line_90 : decode cX10_line 90 = .ok (.iconst (-1), 1) := by decide +kernel
theorem dX10_line_91 : decode cX10_line 91 = .ok (.iastore, 1) := by decide +kernel
theorem dX10_line_92 : decode cX10_line 92 = .ok (.aload_n 0, 1) := by decide +kernel
theorem dX10_line_93 : decode cX10_line 93 = .ok (.bipush 58, 2) := by decide +kernel
theorem dX10_line_95 : decode cX10_line 95 = .ok (.invokevirtual 151, 3) := by decide +kernel
theorem dX10_line_98 : decode cX10_line 98 = .ok (.ifCond .eq 11, 3) := by decide +kernel
theorem dX10_line_101 : decode cX10_line 101 = .ok (.aload_n 0, 1) := by decide +kernel
theorem dX10_line_102 : decode cX10_line 102 = .ok (.iload_n 2, 1) := by decide +kernel
theorem dX10_line_103 : decode cX10_line 103 = .ok (.invokevirtual 154, 3) := by decide +kernel
theorem dX10_line_106 : decode cX10_line 106 = .ok (.ifCond .ne 5, 3) := by decide +kernel
theorem dX10_line_109 : decode cX10_line 109 = .ok (.iconst 0, 1) := by decide +kernel
theorem dX10_line_110 : decode cX10_line 110 = .ok (.ireturn, 1) := by decide +kernel
theorem dX10_line_111 : decode cX10_line 111 = .ok (.aload_n 0, 1) := by decide +kernel
theorem dX10_line_112 : decode cX10_line 112 = .ok (.getfield 118, 3) := by decide +kernel
theorem dX10_line_115 : decode cX10_line 115 = .ok (.iconst 4, 1) := by decide +kernel
theorem dX10_line_116 : decode cX10_line 116 = .ok (.if_icmp .ne 28, 3) := by decide +kernel
theorem dX10_line_119 : decode cX10_line 119 = .ok (.aload_n 0, 1) := by decide +kernel
theorem dX10_line_120 : decode cX10_line 120 = .ok (.getfield 125, 3) := by decide +kernel
theorem dX10_line_123 : decode cX10_line 123 = .ok (.bipush 124, 2) := by decide +kernel
theorem dX10_line_125 : decode cX10_line 125 = .ok (.if_icmp .ne 19, 3) := by decide +kernel
theorem dX10_line_128 : decode cX10_line 128 = .ok (.aload_n 0, 1) := by decide +kernel
theorem dX10_line_129 : decode cX10_line 129 = .ok (.invokevirtual 139, 3) := by decide +kernel
theorem dX10_line_132 : decode cX10_line 132 = .ok (.aload_n 0, 1) := by decide +kernel
theorem dX10_line_133 : decode cX10_line 133 = .ok (.iload_n 2, 1) := by decide +kernel
theorem dX10_line_134 : decode cX10_line 134 = .ok (.iconst 3, 1) := by decide +kernel
theorem dX10_line_135 : decode cX10_line 135 = .ok (.iadd, 1) := by decide +kernel
theorem dX10_line_136 : decode cX10_line 136 = .ok (.invokevirtual 154, 3) := by decide +kernel
theorem dX10_line_139 : decode cX10_line 139 = .ok (.ifCond .ne 5, 3) := by decide +kernel
theorem dX10_line_142 : decode cX10_line 142 = .ok (.iconst 0, 1) := by decide +kernel
theorem dX10_line_143 : decode cX10_line 143 = .ok (.ireturn, 1) := by decide +kernel
theorem dX10_line_144 : decode cX10_line 144 = .ok (.aload_n 0, 1) := by decide +kernel
theorem dX10_line_145 : decode cX10_line 145 = .ok (.bipush 59, 2) := by decide +kernel
theorem dX10_line_147 : decode cX10_line 147 = .ok (.invokevirtual 151, 3) := by decide +kernel
theorem dX10_line_150 : decode cX10_line 150 = .ok (.ireturn, 1) := by decide +kernel
theorem dX10_rules_0 : decode cX10_rules 0 = .ok (.aload_n 0, 1) := by decide +kernel
theorem dX10_rules_1 : decode cX10_rules 1 = .ok (.iconst 0, 1) := by decide +kernel
theorem dX10_rules_2 : decode cX10_rules 2 = .ok (.putfield 100, 3) := by decide +kernel
theorem dX10_rules_5 : decode cX10_rules 5 = .ok (.iload_n 1, 1) := by decide +kernel
theorem dX10_rules_6 : decode cX10_rules 6 = .ok (.ifCond .lt 11, 3) := by decide +kernel
theorem dX10_rules_9 : decode cX10_rules 9 = .ok (.iload_n 1, 1) := by decide +kernel
theorem dX10_rules_10 : decode cX10_rules 10 = .ok (.aload_n 0, 1) := by decide +kernel
theorem dX10_rules_11 : decode cX10_rules 11 = .ok (.getfield 103, 3) := by decide +kernel
theorem dX10_rules_14 : decode cX10_rules 14 = .ok (.if_icmp .le 6, 3) := by decide +kernel
theorem dX10_rules_17 : decode cX10_rules 17 = .ok (.bipush (-2), 2) := by decide +kernel
theorem dX10_rules_19 : decode cX10_rules 19 = .ok (.ireturn, 1) := by decide +kernel
theorem dX10_rules_20 : decode cX10_rules 20 = .ok (.aload_n 0, 1) := by decide +kernel
theorem dX10_rules_21 : decode cX10_rules 21 = .ok (.iload_n 1, 1) := by decide +kernel
theorem dX10_rules_22 : decode cX10_rules 22 = .ok (.putfield 109, 3) := by decide +kernel
theorem dX10_rules_25 : decode cX10_rules 25 = .ok (.aload_n 0, 1) := by decide +kernel
theorem dX10_rules_26 : decode cX10_rules 26 = .ok (.iconst 0, 1) := by decide +kernel
theorem dX10_rules_27 : decode cX10_rules 27 = .ok (.putfield 103, 3) := by decide +kernel
theorem dX10_rules_30 : decode cX10_rules 30 = .ok (.aload_n 0, 1) := by decide +kernel
theorem dX10_rules_31 : decode cX10_rules 31 = .ok (.iconst 0, 1) := by decide +kernel
theorem dX10_rules_32 : decode cX10_rules 32 = .ok (.putfield 106, 3) := by decide +kernel
theorem dX10_rules_35 : decode cX10_rules 35 = .ok (.aload_n 0, 1) := by decide +kernel
theorem dX10_rules_36 : decode cX10_rules 36 = .ok (.iconst (-1), 1) := by decide +kernel
theorem dX10_rules_37 : decode cX10_rules 37 = .ok (.putfield 13, 3) := by decide +kernel
theorem dX10_rules_40 : decode cX10_rules 40 = .ok (.aload_n 0, 1) := by decide +kernel
theorem dX10_rules_41 : decode cX10_rules 41 = .ok (.iconst 0, 1) := by decide +kernel
theorem dX10_rules_42 : decode cX10_rules 42 = .ok (.putfield 142, 3) := by decide +kernel
theorem dX10_rules_45 : decode cX10_rules 45 = .ok (.aload_n 0, 1) := by decide +kernel
theorem dX10_rules_46 : decode cX10_rules 46 = .ok (.iconst 0, 1) := by decide +kernel
theorem dX10_rules_47 : decode cX10_rules 47 = .ok (.putfield 145, 3) := by decide +kernel
theorem dX10_rules_50 : decode cX10_rules 50 = .ok (.iconst 0, 1) := by decide +kernel
theorem dX10_rules_51 : decode cX10_rules 51 = .ok (.istore_n 2, 1) := by decide +kernel
theorem dX10_rules_52 : decode cX10_rules 52 = .ok (.iload_n 2, 1) := by decide +kernel
theorem dX10_rules_53 : decode cX10_rules 53 = .ok (.iconst 4, 1) := by decide +kernel
theorem dX10_rules_54 : decode cX10_rules 54 = .ok (.if_icmp .ge 16, 3) := by decide +kernel
theorem dX10_rules_57 : decode cX10_rules 57 = .ok (.aload_n 0, 1) := by decide +kernel
theorem dX10_rules_58 : decode cX10_rules 58 = .ok (.getfield 63, 3) := by decide +kernel
theorem dX10_rules_61 : decode cX10_rules 61 = .ok (.iload_n 2, 1) := by decide +kernel
theorem dX10_rules_62 : decode cX10_rules 62 = .ok (.iconst 0, 1) := by decide +kernel
theorem dX10_rules_63 : decode cX10_rules 63 = .ok (.bastore, 1) := by decide +kernel
theorem dX10_rules_64 : decode cX10_rules 64 = .ok (.iinc 2 1, 3) := by decide +kernel
theorem dX10_rules_67 : decode cX10_rules 67 = .ok (.goto (-15), 3) := by decide +kernel
theorem dX10_rules_70 : decode cX10_rules 70 = .ok (.aload_n 0, 1) := by decide +kernel
theorem dX10_rules_71 : decode cX10_rules 71 = .ok (.iconst 0, 1) := by decide +kernel
theorem dX10_rules_72 : decode cX10_rules 72 = .ok (.putfield 112, 3) := by decide +kernel
theorem dX10_rules_75 : decode cX10_rules 75 = .ok (.aload_n 0, 1) := by decide +kernel
theorem dX10_rules_76 : decode cX10_rules 76 = .ok (.invokevirtual 139, 3) := by decide +kernel
theorem dX10_rules_79 : decode cX10_rules 79 = .ok (.aload_n 0, 1) := by decide +kernel
theorem dX10_rules_80 : decode cX10_rules 80 = .ok (.getfield 118, 3) := by decide +kernel
theorem dX10_rules_83 : decode cX10_rules 83 = .ok (.ifCond .eq 12, 3) := by decide +kernel
theorem dX10_rules_86 : decode cX10_rules 86 = .ok (.aload_n 0, 1) := by decide +kernel
theorem dX10_rules_87 : decode cX10_rules 87 = .ok (.invokevirtual 157, 3) := by decide +kernel
theorem dX10_rules_90 : decode cX10_rules 90 = .ok (.ifCond .ne (-11), 3) := by decide +kernel
theorem dX10_rules_93 : decode cX10_rules 93 = .ok (.iconst (-1), 1) := by decide +kernel
theorem dX10_rules_94 : decode cX10_rules 94 = .ok (.ireturn, 1) := by decide +kernel
theorem dX10_rules_95 : decode cX10_rules 95 = .ok (.iconst 0, 1) := by decide +kernel
theorem dX10_rules_96 : decode cX10_rules 96 = .ok (.istore_n 2, 1) := by decide +kernel
theorem dX10_rules_97 : decode cX10_rules 97 = .ok (.iload_n 2, 1) := by decide +kernel
theorem dX10_rules_98 : decode cX10_rules 98 = .ok (.aload_n 0, 1) := by decide +kernel
theorem dX10_rules_99 : decode cX10_rules 99 = .ok (.getfield 142, 3) := by decide +kernel
theorem dX10_rules_102 : decode cX10_rules 102 = .ok (.if_icmp .ge 40, 3) := by decide +kernel
theorem dX10_rules_105 : decode cX10_rules 105 = .ok (.aload_n 0, 1) := by decide +kernel
theorem dX10_rules_106 : decode cX10_rules 106 = .ok (.getfield 63, 3) := by decide +kernel
theorem dX10_rules_109 : decode cX10_rules 109 = .ok (.aload_n 0, 1) := by decide +kernel
theorem dX10_rules_110 : decode cX10_rules 110 = .ok (.getfield 57, 3) := by decide +kernel
theorem dX10_rules_113 : decode cX10_rules 113 = .ok (.iload_n 2, 1) := by decide +kernel
theorem dX10_rules_114 : decode cX10_rules 114 = .ok (.iaload, 1) := by decide +kernel
theorem dX10_rules_115 : decode cX10_rules 115 = .ok (.baload, 1) := by decide +kernel
theorem dX10_rules_116 : decode cX10_rules 116 = .ok (.ifCond .eq 6, 3) := by decide +kernel
theorem dX10_rules_119 : decode cX10_rules 119 = .ok (.goto 17, 3) := by decide +kernel
theorem dX10_rules_122 : decode cX10_rules 122 = .ok (.aload_n 0, 1) := by decide +kernel
theorem dX10_rules_123 : decode cX10_rules 123 = .ok (.iconst 4, 1) := by decide +kernel
theorem dX10_rules_124 : decode cX10_rules 124 = .ok (.aload_n 0, 1) := by decide +kernel
theorem dX10_rules_125 : decode cX10_rules 125 = .ok (.getfield 60, 3) := by decide +kernel
theorem dX10_rules_128 : decode cX10_rules 128 = .ok (.iload_n 2, 1) := by decide +kernel
theorem dX10_rules_129 : decode cX10_rules 129 = .ok (.iaload, 1) := by decide +kernel
theorem dX10_rules_130 : decode cX10_rules 130 = .ok (.invokevirtual 135, 3) := by decide +kernel
theorem dX10_rules_133 : decode cX10_rules 133 = .ok (.istore_n 3, 1) := by decide +kernel
theorem dX10_rules_134 : decode cX10_rules 134 = .ok (.iconst (-1), 1) := by decide +kernel
theorem dX10_rules_135 : decode cX10_rules 135 = .ok (.ireturn, 1) := by decide +kernel
theorem dX10_rules_136 : decode cX10_rules 136 = .ok (.iinc 2 1, 3) := by decide +kernel
theorem dX10_rules_139 : decode cX10_rules 139 = .ok (.goto (-42), 3) := by decide +kernel
theorem dX10_rules_142 : decode cX10_rules 142 = .ok (.aload_n 0, 1) := by decide +kernel
theorem dX10_rules_143 : decode cX10_rules 143 = .ok (.aload_n 0, 1) := by decide +kernel
theorem dX10_rules_144 : decode cX10_rules 144 = .ok (.getfield 145, 3) := by decide +kernel
theorem dX10_rules_147 : decode cX10_rules 147 = .ok (.putfield 161, 3) := by decide +kernel
theorem dX10_rules_150 : decode cX10_rules 150 = .ok (.aload_n 0, 1) := by decide +kernel
theorem dX10_rules_151 : decode cX10_rules 151 = .ok (.aload_n 0, 1) := by decide +kernel
theorem dX10_rules_152 : decode cX10_rules 152 = .ok (.getfield 148, 3) := by decide +kernel
theorem dX10_rules_155 : decode cX10_rules 155 = .ok (.putfield 164, 3) := by decide +kernel
theorem dX10_rules_158 : decode cX10_rules 158 = .ok (.iconst 0, 1) := by decide +kernel
theorem dX10_rules_159 : decode cX10_rules 159 = .ok (.istore_n 2, 1) := by decide +kernel
theorem dX10_rules_160 : decode cX10_rules 160 = .ok (.iload_n 2, 1) := by decide +kernel
theorem dX10_rules_161 : decode cX10_rules 161 = .ok (.bipush 24, 2) := by decide +kernel
theorem dX10_rules_163 : decode cX10_rules 163 = .ok (.if_icmp .ge 24, 3) := by decide +kernel
theorem dX10_rules_166 : decode cX10_rules 166 = .ok (.aload_n 0, 1) := by decide +kernel
theorem dX10_rules_167 : decode cX10_rules 167 = .ok (.getfield 17, 3) := by decide +kernel
theorem dX10_rules_170 : decode cX10_rules 170 = .ok (.iload_n 2, 1) := by decide +kernel
theorem dX10_rules_171 : decode cX10_rules 171 = .ok (.aload_n 0, 1) := by decide +kernel
theorem dX10_rules_172 : decode cX10_rules 172 = .ok (.getfield 17, 3) := by decide +kernel
theorem dX10_rules_175 : decode cX10_rules 175 = .ok (.bipush 24, 2) := by decide +kernel
theorem dX10_rules_177 : decode cX10_rules 177 = .ok (.iload_n 2, 1) := by decide +kernel
theorem dX10_rules_178 : decode cX10_rules 178 = .ok (.iadd, 1) := by decide +kernel
theorem dX10_rules_179 : decode cX10_rules 179 = .ok (.iaload, 1) := by decide +kernel
theorem dX10_rules_180 : decode cX10_rules 180 = .ok (.iastore, 1) := by decide +kernel
theorem dX10_rules_181 : decode cX10_rules 181 = .ok (.iinc 2 1, 3) := by decide +kernel
theorem dX10_rules_184 : decode cX10_rules 184 = .ok (.goto (-24), 3) := by decide +kernel
theorem dX10_rules_187 : decode cX10_rules 187 = .ok (.aload_n 0, 1) := by decide +kernel
theorem dX10_rules_188 : decode cX10_rules 188 = .ok (.getfield 161, 3) := by decide +kernel
theorem dX10_rules_191 : decode cX10_rules 191 = .ok (.ireturn, 1) := by decide +kernel
theorem dX10_fault_0 : decode cX10_fault 0 = .ok (.aload_n 0, 1) := by decide +kernel
theorem dX10_fault_1 : decode cX10_fault 1 = .ok (.iconst 0, 1) := by decide +kernel
theorem dX10_fault_2 : decode cX10_fault 2 = .ok (.putfield 100, 3) := by decide +kernel
theorem dX10_fault_5 : decode cX10_fault 5 = .ok (.iload_n 1, 1) := by decide +kernel
theorem dX10_fault_6 : decode cX10_fault 6 = .ok (.ifCond .ne 10, 3) := by decide +kernel
theorem dX10_fault_9 : decode cX10_fault 9 = .ok (.aload_n 0, 1) := by decide +kernel
theorem dX10_fault_10 : decode cX10_fault 10 = .ok (.getfield 106, 3) := by decide +kernel
theorem dX10_fault_13 : decode cX10_fault 13 = .ok (.goto 16, 3) := by decide +kernel
theorem dX10_fault_16 : decode cX10_fault 16 = .ok (.iload_n 1, 1) := by decide +kernel
theorem dX10_fault_17 : decode cX10_fault 17 = .ok (.iconst 1, 1) := by decide +kernel
theorem dX10_fault_18 : decode cX10_fault 18 = .ok (.if_icmp .ne 10, 3) := by decide +kernel
theorem dX10_fault_21 : decode cX10_fault 21 = .ok (.aload_n 0, 1) := by decide +kernel
theorem dX10_fault_22 : decode cX10_fault 22 = .ok (.getfield 13, 3) := by decide +kernel
theorem dX10_fault_25 : decode cX10_fault 25 = .ok (.goto 4, 3) := by decide +kernel
theorem dX10_fault_28 : decode cX10_fault 28 = .ok (.iconst (-1), 1) := by decide +kernel
theorem dX10_fault_29 : decode cX10_fault 29 = .ok (.ireturn, 1) := by decide +kernel
theorem dX10_number_0 : decode cX10_number 0 = .ok (.aload_n 0, 1) := by decide +kernel
theorem dX10_number_1 : decode cX10_number 1 = .ok (.iconst 0, 1) := by decide +kernel
theorem dX10_number_2 : decode cX10_number 2 = .ok (.putfield 167, 3) := by decide +kernel
theorem dX10_number_5 : decode cX10_number 5 = .ok (.iconst 0, 1) := by decide +kernel
theorem dX10_number_6 : decode cX10_number 6 = .ok (.istore_n 1, 1) := by decide +kernel
theorem dX10_number_7 : decode cX10_number 7 = .ok (.iload_n 1, 1) := by decide +kernel
theorem dX10_number_8 : decode cX10_number 8 = .ok (.aload_n 0, 1) := by decide +kernel
theorem dX10_number_9 : decode cX10_number 9 = .ok (.getfield 170, 3) := by decide +kernel
theorem dX10_number_12 : decode cX10_number 12 = .ok (.if_icmp .ge 107, 3) := by decide +kernel
theorem dX10_number_15 : decode cX10_number 15 = .ok (.aload_n 0, 1) := by decide +kernel
theorem dX10_number_16 : decode cX10_number 16 = .ok (.getfield 51, 3) := by decide +kernel
theorem dX10_number_19 : decode cX10_number 19 = .ok (.iload_n 1, 1) := by decide +kernel
theorem dX10_number_20 : decode cX10_number 20 = .ok (.aload_n 0, 1) := by decide +kernel
theorem dX10_number_21 : decode cX10_number 21 = .ok (.getfield 167, 3) := by decide +kernel
theorem dX10_number_24 : decode cX10_number 24 = .ok (.iastore, 1) := by decide +kernel
theorem dX10_number_25 : decode cX10_number 25 = .ok (.aload_n 0, 1) := by decide +kernel
theorem dX10_number_26 : decode cX10_number 26 = .ok (.getfield 48, 3) := by decide +kernel
theorem dX10_number_29 : decode cX10_number 29 = .ok (.iload_n 1, 1) := by decide +kernel
theorem dX10_number_30 : decode cX10_number 30 = .ok (.iconst 0, 1) := by decide +kernel
theorem dX10_number_31 : decode cX10_number 31 = .ok (.iastore, 1) := by decide +kernel
theorem dX10_number_32 : decode cX10_number 32 = .ok (.iconst 0, 1) := by decide +kernel
theorem dX10_number_33 : decode cX10_number 33 = .ok (.istore_n 2, 1) := by decide +kernel
theorem dX10_number_34 : decode cX10_number 34 = .ok (.iload_n 2, 1) := by decide +kernel
theorem dX10_number_35 : decode cX10_number 35 = .ok (.iconst 2, 1) := by decide +kernel
theorem dX10_number_36 : decode cX10_number 36 = .ok (.aload_n 0, 1) := by decide +kernel
theorem dX10_number_37 : decode cX10_number 37 = .ok (.getfield 173, 3) := by decide +kernel
theorem dX10_number_40 : decode cX10_number 40 = .ok (.imul, 1) := by decide +kernel
theorem dX10_number_41 : decode cX10_number 41 = .ok (.if_icmp .ge 72, 3) := by decide +kernel
theorem dX10_number_44 : decode cX10_number 44 = .ok (.aload_n 0, 1) := by decide +kernel
theorem dX10_number_45 : decode cX10_number 45 = .ok (.getfield 27, 3) := by decide +kernel
theorem dX10_number_48 : decode cX10_number 48 = .ok (.iload_n 2, 1) := by decide +kernel
theorem dX10_number_49 : decode cX10_number 49 = .ok (.iaload, 1) := by decide +kernel
theorem dX10_number_50 : decode cX10_number 50 = .ok (.iload_n 1, 1) := by decide +kernel
theorem dX10_number_51 : decode cX10_number 51 = .ok (.if_icmp .eq 6, 3) := by decide +kernel
theorem dX10_number_54 : decode cX10_number 54 = .ok (.goto 53, 3) := by decide +kernel
theorem dX10_number_57 : decode cX10_number 57 = .ok (.aload_n 0, 1) := by decide +kernel
theorem dX10_number_58 : decode cX10_number 58 = .ok (.getfield 39, 3) := by decide +kernel
theorem dX10_number_61 : decode cX10_number 61 = .ok (.aload_n 0, 1) := by decide +kernel
theorem dX10_number_62 : decode cX10_number 62 = .ok (.getfield 167, 3) := by decide +kernel
theorem dX10_number_65 : decode cX10_number 65 = .ok (.iload_n 1, 1) := by decide +kernel
theorem dX10_number_66 : decode cX10_number 66 = .ok (.iastore, 1) := by decide +kernel
theorem dX10_number_67 : decode cX10_number 67 = .ok (.aload_n 0, 1) := by decide +kernel
theorem dX10_number_68 : decode cX10_number 68 = .ok (.getfield 42, 3) := by decide +kernel
theorem dX10_number_71 : decode cX10_number 71 = .ok (.aload_n 0, 1) := by decide +kernel
theorem dX10_number_72 : decode cX10_number 72 = .ok (.getfield 167, 3) := by decide +kernel
theorem dX10_number_75 : decode cX10_number 75 = .ok (.iload_n 2, 1) := by decide +kernel
theorem dX10_number_76 : decode cX10_number 76 = .ok (.iastore, 1) := by decide +kernel
theorem dX10_number_77 : decode cX10_number 77 = .ok (.aload_n 0, 1) := by decide +kernel
theorem dX10_number_78 : decode cX10_number 78 = .ok (.getfield 45, 3) := by decide +kernel
theorem dX10_number_81 : decode cX10_number 81 = .ok (.iload_n 2, 1) := by decide +kernel
theorem dX10_number_82 : decode cX10_number 82 = .ok (.aload_n 0, 1) := by decide +kernel
theorem dX10_number_83 : decode cX10_number 83 = .ok (.getfield 167, 3) := by decide +kernel
theorem dX10_number_86 : decode cX10_number 86 = .ok (.iastore, 1) := by decide +kernel
theorem dX10_number_87 : decode cX10_number 87 = .ok (.aload_n 0, 1) := by decide +kernel
theorem dX10_number_88 : decode cX10_number 88 = .ok (.dup, 1) := by decide +kernel
theorem dX10_number_89 : decode cX10_number 89 = .ok (.getfield 167, 3) := by decide +kernel
theorem dX10_number_92 : decode cX10_number 92 = .ok (.iconst 1, 1) := by decide +kernel
theorem dX10_number_93 : decode cX10_number 93 = .ok (.iadd, 1) := by decide +kernel
theorem dX10_number_94 : decode cX10_number 94 = .ok (.putfield 167, 3) := by decide +kernel
theorem dX10_number_97 : decode cX10_number 97 = .ok (.aload_n 0, 1) := by decide +kernel
theorem dX10_number_98 : decode cX10_number 98 = .ok (.getfield 48, 3) := by decide +kernel
theorem dX10_number_101 : decode cX10_number 101 = .ok (.iload_n 1, 1) := by decide +kernel
theorem dX10_number_102 : decode cX10_number 102 = .ok (.dup2, 1) := by decide +kernel
theorem dX10_number_103 : decode cX10_number 103 = .ok (.iaload, 1) := by decide +kernel
theorem dX10_number_104 : decode cX10_number 104 = .ok (.iconst 1, 1) := by decide +kernel
theorem dX10_number_105 : decode cX10_number 105 = .ok (.iadd, 1) := by decide +kernel
theorem dX10_number_106 : decode cX10_number 106 = .ok (.iastore, 1) := by decide +kernel
theorem dX10_number_107 : decode cX10_number 107 = .ok (.iinc 2 1, 3) := by decide +kernel
theorem dX10_number_110 : decode cX10_number 110 = .ok (.goto (-76), 3) := by decide +kernel
theorem dX10_number_113 : decode cX10_number 113 = .ok (.iinc 1 1, 3) := by decide +kernel
theorem dX10_number_116 : decode cX10_number 116 = .ok (.goto (-109), 3) := by decide +kernel
theorem dX10_number_119 : decode cX10_number 119 = .ok (.return_, 1) := by decide +kernel
theorem dX10_anew_0 : decode cX10_anew 0 = .ok (.aload_n 0, 1) := by decide +kernel
theorem dX10_anew_1 : decode cX10_anew 1 = .ok (.iconst 0, 1) := by decide +kernel
theorem dX10_anew_2 : decode cX10_anew 2 = .ok (.putfield 100, 3) := by decide +kernel
theorem dX10_anew_5 : decode cX10_anew 5 = .ok (.aload_n 0, 1) := by decide +kernel
theorem dX10_anew_6 : decode cX10_anew 6 = .ok (.iconst 0, 1) := by decide +kernel
theorem dX10_anew_7 : decode cX10_anew 7 = .ok (.putfield 170, 3) := by decide +kernel
theorem dX10_anew_10 : decode cX10_anew 10 = .ok (.aload_n 0, 1) := by decide +kernel
theorem dX10_anew_11 : decode cX10_anew 11 = .ok (.iconst 0, 1) := by decide +kernel
theorem dX10_anew_12 : decode cX10_anew 12 = .ok (.putfield 173, 3) := by decide +kernel
theorem dX10_anew_15 : decode cX10_anew 15 = .ok (.aload_n 0, 1) := by decide +kernel
theorem dX10_anew_16 : decode cX10_anew 16 = .ok (.iconst 1, 1) := by decide +kernel
theorem dX10_anew_17 : decode cX10_anew 17 = .ok (.putfield 36, 3) := by decide +kernel
theorem dX10_anew_20 : decode cX10_anew 20 = .ok (.aload_n 0, 1) := by decide +kernel
theorem dX10_anew_21 : decode cX10_anew 21 = .ok (.iconst (-1), 1) := by decide +kernel
theorem dX10_anew_22 : decode cX10_anew 22 = .ok (.putfield 85, 3) := by decide +kernel
theorem dX10_anew_25 : decode cX10_anew 25 = .ok (.aload_n 0, 1) := by decide +kernel
theorem dX10_anew_26 : decode cX10_anew 26 = .ok (.invokevirtual 176, 3) := by decide +kernel
theorem dX10_anew_29 : decode cX10_anew 29 = .ok (.return_, 1) := by decide +kernel
theorem dX10_junction_0 : decode cX10_junction 0 = .ok (.aload_n 0, 1) := by decide +kernel
theorem dX10_junction_1 : decode cX10_junction 1 = .ok (.iconst 0, 1) := by decide +kernel
theorem dX10_junction_2 : decode cX10_junction 2 = .ok (.putfield 100, 3) := by decide +kernel
theorem dX10_junction_5 : decode cX10_junction 5 = .ok (.aload_n 0, 1) := by decide +kernel
theorem dX10_junction_6 : decode cX10_junction 6 = .ok (.getfield 170, 3) := by decide +kernel
theorem dX10_junction_9 : decode cX10_junction 9 = .ok (.bipush 8, 2) := by decide +kernel
theorem dX10_junction_11 : decode cX10_junction 11 = .ok (.if_icmp .ne 5, 3) := by decide +kernel
theorem dX10_junction_14 : decode cX10_junction 14 = .ok (.iconst (-1), 1) := by decide +kernel
theorem dX10_junction_15 : decode cX10_junction 15 = .ok (.ireturn, 1) := by decide +kernel
theorem dX10_junction_16 : decode cX10_junction 16 = .ok (.aload_n 0, 1) := by decide +kernel
theorem dX10_junction_17 : decode cX10_junction 17 = .ok (.getfield 20, 3) := by decide +kernel
theorem dX10_junction_20 : decode cX10_junction 20 = .ok (.aload_n 0, 1) := by decide +kernel
theorem dX10_junction_21 : decode cX10_junction 21 = .ok (.getfield 170, 3) := by decide +kernel
theorem dX10_junction_24 : decode cX10_junction 24 = .ok (.iload_n 1, 1) := by decide +kernel
theorem dX10_junction_25 : decode cX10_junction 25 = .ok (.bastore, 1) := by decide +kernel
theorem dX10_junction_26 : decode cX10_junction 26 = .ok (.aload_n 0, 1) := by decide +kernel
theorem dX10_junction_27 : decode cX10_junction 27 = .ok (.getfield 24, 3) := by decide +kernel
theorem dX10_junction_30 : decode cX10_junction 30 = .ok (.aload_n 0, 1) := by decide +kernel
theorem dX10_junction_31 : decode cX10_junction 31 = .ok (.getfield 170, 3) := by decide +kernel
theorem dX10_junction_34 : decode cX10_junction 34 = .ok (.iconst 0, 1) := by decide +kernel
theorem dX10_junction_35 : decode cX10_junction 35 = .ok (.bastore, 1) := by decide +kernel
theorem dX10_junction_36 : decode cX10_junction 36 = .ok (.aload_n 0, 1) := by decide +kernel
theorem dX10_junction_37 : decode cX10_junction 37 = .ok (.dup, 1) := by decide +kernel
theorem dX10_junction_38 : decode cX10_junction 38 = .ok (.getfield 170, 3) := by decide +kernel
theorem dX10_junction_41 : decode cX10_junction 41 = .ok (.iconst 1, 1) := by decide +kernel
theorem dX10_junction_42 : decode cX10_junction 42 = .ok (.iadd, 1) := by decide +kernel
theorem dX10_junction_43 : decode cX10_junction 43 = .ok (.putfield 170, 3) := by decide +kernel
theorem dX10_junction_46 : decode cX10_junction 46 = .ok (.aload_n 0, 1) := by decide +kernel
theorem dX10_junction_47 : decode cX10_junction 47 = .ok (.invokevirtual 176, 3) := by decide +kernel
theorem dX10_junction_50 : decode cX10_junction 50 = .ok (.aload_n 0, 1) := by decide +kernel
theorem dX10_junction_51 : decode cX10_junction 51 = .ok (.getfield 170, 3) := by decide +kernel
theorem dX10_junction_54 : decode cX10_junction 54 = .ok (.iconst 1, 1) := by decide +kernel
theorem dX10_junction_55 : decode cX10_junction 55 = .ok (.isub, 1) := by decide +kernel
theorem dX10_junction_56 : decode cX10_junction 56 = .ok (.ireturn, 1) := by decide +kernel
theorem dX10_isJunction_0 : decode cX10_isJunction 0 = .ok (.iload_n 1, 1) := by decide +kernel
theorem dX10_isJunction_1 : decode cX10_isJunction 1 = .ok (.ifCond .lt 15, 3) := by decide +kernel
theorem dX10_isJunction_4 : decode cX10_isJunction 4 = .ok (.iload_n 1, 1) := by decide +kernel
theorem dX10_isJunction_5 : decode cX10_isJunction 5 = .ok (.aload_n 0, 1) := by decide +kernel
theorem dX10_isJunction_6 : decode cX10_isJunction 6 = .ok (.getfield 170, 3) := by decide +kernel
theorem dX10_isJunction_9 : decode cX10_isJunction 9 = .ok (.if_icmp .ge 7, 3) := by decide +kernel
theorem dX10_isJunction_12 : decode cX10_isJunction 12 = .ok (.iconst 1, 1) := by decide +kernel
theorem dX10_isJunction_13 : decode cX10_isJunction 13 = .ok (.goto 4, 3) := by decide +kernel
theorem dX10_isJunction_16 : decode cX10_isJunction 16 = .ok (.iconst 0, 1) := by decide +kernel
theorem dX10_isJunction_17 : decode cX10_isJunction 17 = .ok (.ireturn, 1) := by decide +kernel
theorem dX10_isPath_0 : decode cX10_isPath 0 = .ok (.iload_n 1, 1) := by decide +kernel
theorem dX10_isPath_1 : decode cX10_isPath 1 = .ok (.ifCond .lt 15, 3) := by decide +kernel
theorem dX10_isPath_4 : decode cX10_isPath 4 = .ok (.iload_n 1, 1) := by decide +kernel
theorem dX10_isPath_5 : decode cX10_isPath 5 = .ok (.aload_n 0, 1) := by decide +kernel
theorem dX10_isPath_6 : decode cX10_isPath 6 = .ok (.getfield 173, 3) := by decide +kernel
theorem dX10_isPath_9 : decode cX10_isPath 9 = .ok (.if_icmp .ge 7, 3) := by decide +kernel
theorem dX10_isPath_12 : decode cX10_isPath 12 = .ok (.iconst 1, 1) := by decide +kernel
theorem dX10_isPath_13 : decode cX10_isPath 13 = .ok (.goto 4, 3) := by decide +kernel
theorem dX10_isPath_16 : decode cX10_isPath 16 = .ok (.iconst 0, 1) := by decide +kernel
theorem dX10_isPath_17 : decode cX10_isPath 17 = .ok (.ireturn, 1) := by decide +kernel
theorem dX10_isPlace_0 : decode cX10_isPlace 0 = .ok (.iload_n 1, 1) := by decide +kernel
theorem dX10_isPlace_1 : decode cX10_isPlace 1 = .ok (.ifCond .lt 15, 3) := by decide +kernel
theorem dX10_isPlace_4 : decode cX10_isPlace 4 = .ok (.iload_n 1, 1) := by decide +kernel
theorem dX10_isPlace_5 : decode cX10_isPlace 5 = .ok (.aload_n 0, 1) := by decide +kernel
theorem dX10_isPlace_6 : decode cX10_isPlace 6 = .ok (.getfield 167, 3) := by decide +kernel
theorem dX10_isPlace_9 : decode cX10_isPlace 9 = .ok (.if_icmp .ge 7, 3) := by decide +kernel
theorem dX10_isPlace_12 : decode cX10_isPlace 12 = .ok (.iconst 1, 1) := by decide +kernel
theorem dX10_isPlace_13 : decode cX10_isPlace 13 = .ok (.goto 4, 3) := by decide +kernel
theorem dX10_isPlace_16 : decode cX10_isPlace 16 = .ok (.iconst 0, 1) := by decide +kernel
theorem dX10_isPlace_17 : decode cX10_isPlace 17 = .ok (.ireturn, 1) := by decide +kernel
theorem dX10_path_0 : decode cX10_path 0 = .ok (.aload_n 0, 1) := by decide +kernel
theorem dX10_path_1 : decode cX10_path 1 = .ok (.iconst 0, 1) := by decide +kernel
theorem dX10_path_2 : decode cX10_path 2 = .ok (.putfield 100, 3) := by decide +kernel
theorem dX10_path_5 : decode cX10_path 5 = .ok (.aload_n 0, 1) := by decide +kernel
theorem dX10_path_6 : decode cX10_path 6 = .ok (.getfield 173, 3) := by decide +kernel
theorem dX10_path_9 : decode cX10_path 9 = .ok (.bipush 12, 2) := by decide +kernel
theorem dX10_path_11 : decode cX10_path 11 = .ok (.if_icmp .eq 63, 3) := by decide +kernel
theorem dX10_path_14 : decode cX10_path 14 = .ok (.aload_n 0, 1) := by decide +kernel
theorem dX10_path_15 : decode cX10_path 15 = .ok (.iload_n 1, 1) := by decide +kernel
theorem dX10_path_16 : decode cX10_path 16 = .ok (.invokevirtual 179, 3) := by decide +kernel
theorem dX10_path_19 : decode cX10_path 19 = .ok (.ifCond .eq 55, 3) := by decide +kernel
theorem dX10_path_22 : decode cX10_path 22 = .ok (.aload_n 0, 1) := by decide +kernel
theorem dX10_path_23 : decode cX10_path 23 = .ok (.iload_n 2, 1) := by decide +kernel
theorem dX10_path_24 : decode cX10_path 24 = .ok (.invokevirtual 179, 3) := by decide +kernel
theorem dX10_path_27 : decode cX10_path 27 = .ok (.ifCond .eq 47, 3) := by decide +kernel
theorem dX10_path_30 : decode cX10_path 30 = .ok (.aload_n 0, 1) := by decide +kernel
theorem dX10_path_31 : decode cX10_path 31 = .ok (.getfield 48, 3) := by decide +kernel
theorem dX10_path_34 : decode cX10_path 34 = .ok (.iload_n 1, 1) := by decide +kernel
theorem dX10_path_35 : decode cX10_path 35 = .ok (.iaload, 1) := by decide +kernel
theorem dX10_path_36 : decode cX10_path 36 = .ok (.iload_n 1, 1) := by decide +kernel
theorem dX10_path_37 : decode cX10_path 37 = .ok (.iload_n 2, 1) := by decide +kernel
theorem dX10_path_38 : decode cX10_path 38 = .ok (.if_icmp .ne 7, 3) := by decide +kernel
theorem dX10_path_41 : decode cX10_path 41 = .ok (.iconst 2, 1) := by decide +kernel
theorem dX10_path_42 : decode cX10_path 42 = .ok (.goto 4, 3) := by decide +kernel
theorem dX10_path_45 : decode cX10_path 45 = .ok (.iconst 1, 1) := by decide +kernel
theorem dX10_path_46 : decode cX10_path 46 = .ok (.iadd, 1) := by decide +kernel
theorem dX10_path_47 : decode cX10_path 47 = .ok (.bipush 6, 2) := by decide +kernel
theorem dX10_path_49 : decode cX10_path 49 = .ok (.if_icmp .gt 25, 3) := by decide +kernel
theorem dX10_path_52 : decode cX10_path 52 = .ok (.aload_n 0, 1) := by decide +kernel
theorem dX10_path_53 : decode cX10_path 53 = .ok (.getfield 48, 3) := by decide +kernel
theorem dX10_path_56 : decode cX10_path 56 = .ok (.iload_n 2, 1) := by decide +kernel
theorem dX10_path_57 : decode cX10_path 57 = .ok (.iaload, 1) := by decide +kernel
theorem dX10_path_58 : decode cX10_path 58 = .ok (.iload_n 1, 1) := by decide +kernel
theorem dX10_path_59 : decode cX10_path 59 = .ok (.iload_n 2, 1) := by decide +kernel
theorem dX10_path_60 : decode cX10_path 60 = .ok (.if_icmp .ne 7, 3) := by decide +kernel
theorem dX10_path_63 : decode cX10_path 63 = .ok (.iconst 2, 1) := by decide +kernel
theorem dX10_path_64 : decode cX10_path 64 = .ok (.goto 4, 3) := by decide +kernel
theorem dX10_path_67 : decode cX10_path 67 = .ok (.iconst 1, 1) := by decide +kernel
theorem dX10_path_68 : decode cX10_path 68 = .ok (.iadd, 1) := by decide +kernel
theorem dX10_path_69 : decode cX10_path 69 = .ok (.bipush 6, 2) := by decide +kernel
theorem dX10_path_71 : decode cX10_path 71 = .ok (.if_icmp .le 5, 3) := by decide +kernel
theorem dX10_path_74 : decode cX10_path 74 = .ok (.iconst (-1), 1) := by decide +kernel
theorem dX10_path_75 : decode cX10_path 75 = .ok (.ireturn, 1) := by decide +kernel
theorem dX10_path_76 : decode cX10_path 76 = .ok (.aload_n 0, 1) := by decide +kernel
theorem dX10_path_77 : decode cX10_path 77 = .ok (.getfield 27, 3) := by decide +kernel
theorem dX10_path_80 : decode cX10_path 80 = .ok (.iconst 2, 1) := by decide +kernel
theorem dX10_path_81 : decode cX10_path 81 = .ok (.aload_n 0, 1) := by decide +kernel
theorem dX10_path_82 : decode cX10_path 82 = .ok (.getfield 173, 3) := by decide +kernel
theorem dX10_path_85 : decode cX10_path 85 = .ok (.imul, 1) := by decide +kernel
theorem dX10_path_86 : decode cX10_path 86 = .ok (.iload_n 1, 1) := by decide +kernel
theorem dX10_path_87 : decode cX10_path 87 = .ok (.iastore, 1) := by decide +kernel
theorem dX10_path_88 : decode cX10_path 88 = .ok (.aload_n 0, 1) := by decide +kernel
theorem dX10_path_89 : decode cX10_path 89 = .ok (.getfield 27, 3) := by decide +kernel
theorem dX10_path_92 : decode cX10_path 92 = .ok (.iconst 2, 1) := by decide +kernel
theorem dX10_path_93 : decode cX10_path 93 = .ok (.aload_n 0, 1) := by decide +kernel
theorem dX10_path_94 : decode cX10_path 94 = .ok (.getfield 173, 3) := by decide +kernel
theorem dX10_path_97 : decode cX10_path 97 = .ok (.imul, 1) := by decide +kernel
theorem dX10_path_98 : decode cX10_path 98 = .ok (.iconst 1, 1) := by decide +kernel
theorem dX10_path_99 : decode cX10_path 99 = .ok (.iadd, 1) := by decide +kernel
theorem dX10_path_100 : decode cX10_path 100 = .ok (.iload_n 2, 1) := by decide +kernel
theorem dX10_path_101 : decode cX10_path 101 = .ok (.iastore, 1) := by decide +kernel
theorem dX10_path_102 : decode cX10_path 102 = .ok (.aload_n 0, 1) := by decide +kernel
theorem dX10_path_103 : decode cX10_path 103 = .ok (.getfield 30, 3) := by decide +kernel
theorem dX10_path_106 : decode cX10_path 106 = .ok (.aload_n 0, 1) := by decide +kernel
theorem dX10_path_107 : decode cX10_path 107 = .ok (.getfield 173, 3) := by decide +kernel
theorem dX10_path_110 : decode cX10_path 110 = .ok (.sipush 255, 3) := by decide +kernel
theorem dX10_path_113 : decode cX10_path 113 = .ok (.iastore, 1) := by decide +kernel
theorem dX10_path_114 : decode cX10_path 114 = .ok (.aload_n 0, 1) := by decide +kernel
theorem dX10_path_115 : decode cX10_path 115 = .ok (.getfield 33, 3) := by decide +kernel
theorem dX10_path_118 : decode cX10_path 118 = .ok (.aload_n 0, 1) := by decide +kernel
theorem dX10_path_119 : decode cX10_path 119 = .ok (.getfield 173, 3) := by decide +kernel
theorem dX10_path_122 : decode cX10_path 122 = .ok (.iconst 0, 1) := by decide +kernel
theorem dX10_path_123 : decode cX10_path 123 = .ok (.bastore, 1) := by decide +kernel
theorem dX10_path_124 : decode cX10_path 124 = .ok (.aload_n 0, 1) := by decide +kernel
theorem dX10_path_125 : decode cX10_path 125 = .ok (.dup, 1) := by decide +kernel
theorem dX10_path_126 : decode cX10_path 126 = .ok (.getfield 173, 3) := by decide +kernel
theorem dX10_path_129 : decode cX10_path 129 = .ok (.iconst 1, 1) := by decide +kernel
theorem dX10_path_130 : decode cX10_path 130 = .ok (.iadd, 1) := by decide +kernel
theorem dX10_path_131 : decode cX10_path 131 = .ok (.putfield 173, 3) := by decide +kernel
theorem dX10_path_134 : decode cX10_path 134 = .ok (.aload_n 0, 1) := by decide +kernel
theorem dX10_path_135 : decode cX10_path 135 = .ok (.iconst (-1), 1) := by decide +kernel
theorem dX10_path_136 : decode cX10_path 136 = .ok (.putfield 85, 3) := by decide +kernel
theorem dX10_path_139 : decode cX10_path 139 = .ok (.aload_n 0, 1) := by decide +kernel
theorem dX10_path_140 : decode cX10_path 140 = .ok (.invokevirtual 176, 3) := by decide +kernel
theorem dX10_path_143 : decode cX10_path 143 = .ok (.aload_n 0, 1) := by decide +kernel
theorem dX10_path_144 : decode cX10_path 144 = .ok (.getfield 173, 3) := by decide +kernel
theorem dX10_path_147 : decode cX10_path 147 = .ok (.iconst 1, 1) := by decide +kernel
theorem dX10_path_148 : decode cX10_path 148 = .ok (.isub, 1) := by decide +kernel
theorem dX10_path_149 : decode cX10_path 149 = .ok (.ireturn, 1) := by decide +kernel
theorem dX10_mark_0 : decode cX10_mark 0 = .ok (.aload_n 0, 1) := by decide +kernel
theorem dX10_mark_1 : decode cX10_mark 1 = .ok (.iconst 0, 1) := by decide +kernel
theorem dX10_mark_2 : decode cX10_mark 2 = .ok (.putfield 100, 3) := by decide +kernel
theorem dX10_mark_5 : decode cX10_mark 5 = .ok (.aload_n 0, 1) := by decide +kernel
theorem dX10_mark_6 : decode cX10_mark 6 = .ok (.iload_n 1, 1) := by decide +kernel
theorem dX10_mark_7 : decode cX10_mark 7 = .ok (.invokevirtual 179, 3) := by decide +kernel
theorem dX10_mark_10 : decode cX10_mark 10 = .ok (.ifCond .ne 5, 3) := by decide +kernel
theorem dX10_mark_13 : decode cX10_mark 13 = .ok (.iconst 0, 1) := by decide +kernel
theorem dX10_mark_14 : decode cX10_mark 14 = .ok (.ireturn, 1) := by decide +kernel
theorem dX10_mark_15 : decode cX10_mark 15 = .ok (.aload_n 0, 1) := by decide +kernel
theorem dX10_mark_16 : decode cX10_mark 16 = .ok (.getfield 24, 3) := by decide +kernel
theorem dX10_mark_19 : decode cX10_mark 19 = .ok (.iload_n 1, 1) := by decide +kernel
theorem dX10_mark_20 : decode cX10_mark 20 = .ok (.iload_n 2, 1) := by decide +kernel
theorem dX10_mark_21 : decode cX10_mark 21 = .ok (.bastore, 1) := by decide +kernel
theorem dX10_mark_22 : decode cX10_mark 22 = .ok (.iconst 1, 1) := by decide +kernel
theorem dX10_mark_23 : decode cX10_mark 23 = .ok (.ireturn, 1) := by decide +kernel
theorem dX10_period_0 : decode cX10_period 0 = .ok (.aload_n 0, 1) := by decide +kernel
theorem dX10_period_1 : decode cX10_period 1 = .ok (.iconst 0, 1) := by decide +kernel
theorem dX10_period_2 : decode cX10_period 2 = .ok (.putfield 100, 3) := by decide +kernel
theorem dX10_period_5 : decode cX10_period 5 = .ok (.iload_n 1, 1) := by decide +kernel
theorem dX10_period_6 : decode cX10_period 6 = .ok (.iconst 1, 1) := by decide +kernel
theorem dX10_period_7 : decode cX10_period 7 = .ok (.if_icmp .lt 9, 3) := by decide +kernel
theorem dX10_period_10 : decode cX10_period 10 = .ok (.iload_n 1, 1) := by decide +kernel
theorem dX10_period_11 : decode cX10_period 11 = .ok (.bipush 8, 2) := by decide +kernel
theorem dX10_period_13 : decode cX10_period 13 = .ok (.if_icmp .le 5, 3) := by decide +kernel
theorem dX10_period_16 : decode cX10_period 16 = .ok (.iconst 0, 1) := by decide +kernel
theorem dX10_period_17 : decode cX10_period 17 = .ok (.ireturn, 1) := by decide +kernel
theorem dX10_period_18 : decode cX10_period 18 = .ok (.aload_n 0, 1) := by decide +kernel
theorem dX10_period_19 : decode cX10_period 19 = .ok (.iload_n 1, 1) := by decide +kernel
theorem dX10_period_20 : decode cX10_period 20 = .ok (.putfield 36, 3) := by decide +kernel
theorem dX10_period_23 : decode cX10_period 23 = .ok (.iconst 1, 1) := by decide +kernel
theorem dX10_period_24 : decode cX10_period 24 = .ok (.ireturn, 1) := by decide +kernel
theorem dX10_gate_0 : decode cX10_gate 0 = .ok (.aload_n 0, 1) := by decide +kernel
theorem dX10_gate_1 : decode cX10_gate 1 = .ok (.iconst 0, 1) := by decide +kernel
theorem dX10_gate_2 : decode cX10_gate 2 = .ok (.putfield 100, 3) := by decide +kernel
theorem dX10_gate_5 : decode cX10_gate 5 = .ok (.aload_n 0, 1) := by decide +kernel
theorem dX10_gate_6 : decode cX10_gate 6 = .ok (.iload_n 1, 1) := by decide +kernel
theorem dX10_gate_7 : decode cX10_gate 7 = .ok (.invokevirtual 182, 3) := by decide +kernel
theorem dX10_gate_10 : decode cX10_gate 10 = .ok (.ifCond .eq 14, 3) := by decide +kernel
theorem dX10_gate_13 : decode cX10_gate 13 = .ok (.iload_n 2, 1) := by decide +kernel
theorem dX10_gate_14 : decode cX10_gate 14 = .ok (.ifCond .lt 10, 3) := by decide +kernel
theorem dX10_gate_17 : decode cX10_gate 17 = .ok (.iload_n 2, 1) := by decide +kernel
theorem dX10_gate_18 : decode cX10_gate 18 = .ok (.sipush 255, 3) := by decide +kernel
theorem dX10_gate_21 : decode cX10_gate 21 = .ok (.if_icmp .le 5, 3) := by decide +kernel
theorem dX10_gate_24 : decode cX10_gate 24 = .ok (.iconst 0, 1) := by decide +kernel
theorem dX10_gate_25 : decode cX10_gate 25 = .ok (.ireturn, 1) := by decide +kernel
theorem dX10_gate_26 : decode cX10_gate 26 = .ok (.aload_n 0, 1) := by decide +kernel
theorem dX10_gate_27 : decode cX10_gate 27 = .ok (.getfield 30, 3) := by decide +kernel
theorem dX10_gate_30 : decode cX10_gate 30 = .ok (.iload_n 1, 1) := by decide +kernel
theorem dX10_gate_31 : decode cX10_gate 31 = .ok (.iload_n 2, 1) := by decide +kernel
theorem dX10_gate_32 : decode cX10_gate 32 = .ok (.iastore, 1) := by decide +kernel
theorem dX10_gate_33 : decode cX10_gate 33 = .ok (.iconst 1, 1) := by decide +kernel
theorem dX10_gate_34 : decode cX10_gate 34 = .ok (.ireturn, 1) := by decide +kernel
theorem dX10_shut_0 : decode cX10_shut 0 = .ok (.aload_n 0, 1) := by decide +kernel
theorem dX10_shut_1 : decode cX10_shut 1 = .ok (.iconst 0, 1) := by decide +kernel
theorem dX10_shut_2 : decode cX10_shut 2 = .ok (.putfield 100, 3) := by decide +kernel
theorem dX10_shut_5 : decode cX10_shut 5 = .ok (.aload_n 0, 1) := by decide +kernel
theorem dX10_shut_6 : decode cX10_shut 6 = .ok (.iload_n 1, 1) := by decide +kernel
theorem dX10_shut_7 : decode cX10_shut 7 = .ok (.invokevirtual 182, 3) := by decide +kernel
theorem dX10_shut_10 : decode cX10_shut 10 = .ok (.ifCond .ne 5, 3) := by decide +kernel
theorem dX10_shut_13 : decode cX10_shut 13 = .ok (.iconst 0, 1) := by decide +kernel
theorem dX10_shut_14 : decode cX10_shut 14 = .ok (.ireturn, 1) := by decide +kernel
theorem dX10_shut_15 : decode cX10_shut 15 = .ok (.aload_n 0, 1) := by decide +kernel
theorem dX10_shut_16 : decode cX10_shut 16 = .ok (.getfield 33, 3) := by decide +kernel
theorem dX10_shut_19 : decode cX10_shut 19 = .ok (.iload_n 1, 1) := by decide +kernel
theorem dX10_shut_20 : decode cX10_shut 20 = .ok (.iload_n 2, 1) := by decide +kernel
theorem dX10_shut_21 : decode cX10_shut 21 = .ok (.bastore, 1) := by decide +kernel
theorem dX10_shut_22 : decode cX10_shut 22 = .ok (.iconst 1, 1) := by decide +kernel
theorem dX10_shut_23 : decode cX10_shut 23 = .ok (.ireturn, 1) := by decide +kernel
theorem dX10_place_0 : decode cX10_place 0 = .ok (.aload_n 0, 1) := by decide +kernel
theorem dX10_place_1 : decode cX10_place 1 = .ok (.iconst 0, 1) := by decide +kernel
theorem dX10_place_2 : decode cX10_place 2 = .ok (.putfield 100, 3) := by decide +kernel
theorem dX10_place_5 : decode cX10_place 5 = .ok (.aload_n 0, 1) := by decide +kernel
theorem dX10_place_6 : decode cX10_place 6 = .ok (.iload_n 1, 1) := by decide +kernel
theorem dX10_place_7 : decode cX10_place 7 = .ok (.invokevirtual 179, 3) := by decide +kernel
theorem dX10_place_10 : decode cX10_place 10 = .ok (.ifCond .eq 17, 3) := by decide +kernel
theorem dX10_place_13 : decode cX10_place 13 = .ok (.iload_n 2, 1) := by decide +kernel
theorem dX10_place_14 : decode cX10_place 14 = .ok (.ifCond .lt 13, 3) := by decide +kernel
theorem dX10_place_17 : decode cX10_place 17 = .ok (.iload_n 2, 1) := by decide +kernel
theorem dX10_place_18 : decode cX10_place 18 = .ok (.aload_n 0, 1) := by decide +kernel
theorem dX10_place_19 : decode cX10_place 19 = .ok (.getfield 48, 3) := by decide +kernel
theorem dX10_place_22 : decode cX10_place 22 = .ok (.iload_n 1, 1) := by decide +kernel
theorem dX10_place_23 : decode cX10_place 23 = .ok (.iaload, 1) := by decide +kernel
theorem dX10_place_24 : decode cX10_place 24 = .ok (.if_icmp .lt 7, 3) := by decide +kernel
theorem dX10_place_27 : decode cX10_place 27 = .ok (.iconst (-1), 1) := by decide +kernel
theorem dX10_place_28 : decode cX10_place 28 = .ok (.goto 11, 3) := by decide +kernel
theorem dX10_place_31 : decode cX10_place 31 = .ok (.aload_n 0, 1) := by decide +kernel
theorem dX10_place_32 : decode cX10_place 32 = .ok (.getfield 51, 3) := by decide +kernel
theorem dX10_place_35 : decode cX10_place 35 = .ok (.iload_n 1, 1) := by decide +kernel
theorem dX10_place_36 : decode cX10_place 36 = .ok (.iaload, 1) := by decide +kernel
theorem dX10_place_37 : decode cX10_place 37 = .ok (.iload_n 2, 1) := by decide +kernel
theorem dX10_place_38 : decode cX10_place 38 = .ok (.iadd, 1) := by decide +kernel
theorem dX10_place_39 : decode cX10_place 39 = .ok (.ireturn, 1) := by decide +kernel
theorem dX10_isOpen_0 : decode cX10_isOpen 0 = .ok (.aload_n 0, 1) := by decide +kernel
theorem dX10_isOpen_1 : decode cX10_isOpen 1 = .ok (.getfield 33, 3) := by decide +kernel
theorem dX10_isOpen_4 : decode cX10_isOpen 4 = .ok (.iload_n 1, 1) := by decide +kernel
theorem dX10_isOpen_5 : decode cX10_isOpen 5 = .ok (.baload, 1) := by decide +kernel
theorem dX10_isOpen_6 : decode cX10_isOpen 6 = .ok (.ifCond .ne 26, 3) := by decide +kernel
theorem dX10_isOpen_9 : decode cX10_isOpen 9 = .ok (.aload_n 0, 1) := by decide +kernel
theorem dX10_isOpen_10 : decode cX10_isOpen 10 = .ok (.getfield 30, 3) := by decide +kernel
theorem dX10_isOpen_13 : decode cX10_isOpen 13 = .ok (.iload_n 1, 1) := by decide +kernel
theorem dX10_isOpen_14 : decode cX10_isOpen 14 = .ok (.iaload, 1) := by decide +kernel
theorem dX10_isOpen_15 : decode cX10_isOpen 15 = .ok (.iload_n 2, 1) := by decide +kernel
theorem dX10_isOpen_16 : decode cX10_isOpen 16 = .ok (.aload_n 0, 1) := by decide +kernel
theorem dX10_isOpen_17 : decode cX10_isOpen 17 = .ok (.getfield 36, 3) := by decide +kernel
theorem dX10_isOpen_20 : decode cX10_isOpen 20 = .ok (.irem, 1) := by decide +kernel
theorem dX10_isOpen_21 : decode cX10_isOpen 21 = .ok (.ishr, 1) := by decide +kernel
theorem dX10_isOpen_22 : decode cX10_isOpen 22 = .ok (.iconst 1, 1) := by decide +kernel
theorem dX10_isOpen_23 : decode cX10_isOpen 23 = .ok (.iand, 1) := by decide +kernel
theorem dX10_isOpen_24 : decode cX10_isOpen 24 = .ok (.iconst 1, 1) := by decide +kernel
theorem dX10_isOpen_25 : decode cX10_isOpen 25 = .ok (.if_icmp .ne 7, 3) := by decide +kernel
theorem dX10_isOpen_28 : decode cX10_isOpen 28 = .ok (.iconst 1, 1) := by decide +kernel
theorem dX10_isOpen_29 : decode cX10_isOpen 29 = .ok (.goto 4, 3) := by decide +kernel
theorem dX10_isOpen_32 : decode cX10_isOpen 32 = .ok (.iconst 0, 1) := by decide +kernel
theorem dX10_isOpen_33 : decode cX10_isOpen 33 = .ok (.ireturn, 1) := by decide +kernel
theorem dX10_turned_0 : decode cX10_turned 0 = .ok (.iload_n 3, 1) := by decide +kernel
theorem dX10_turned_1 : decode cX10_turned 1 = .ok (.istore 5, 2) := by decide +kernel
theorem dX10_turned_3 : decode cX10_turned 3 = .ok (.iload 5, 2) := by decide +kernel
theorem dX10_turned_5 : decode cX10_turned 5 = .ok (.ifCond .ne 29, 3) := by decide +kernel
theorem dX10_turned_8 : decode cX10_turned 8 = .ok (.aload_n 0, 1) := by decide +kernel
theorem dX10_turned_9 : decode cX10_turned 9 = .ok (.aload_n 0, 1) := by decide +kernel
theorem dX10_turned_10 : decode cX10_turned 10 = .ok (.getfield 42, 3) := by decide +kernel
theorem dX10_turned_13 : decode cX10_turned 13 = .ok (.aload_n 0, 1) := by decide +kernel
theorem dX10_turned_14 : decode cX10_turned 14 = .ok (.getfield 51, 3) := by decide +kernel
theorem dX10_turned_17 : decode cX10_turned 17 = .ok (.iload_n 1, 1) := by decide +kernel
theorem dX10_turned_18 : decode cX10_turned 18 = .ok (.iaload, 1) := by decide +kernel
theorem dX10_turned_19 : decode cX10_turned 19 = .ok (.iload_n 2, 1) := by decide +kernel
theorem dX10_turned_20 : decode cX10_turned 20 = .ok (.iadd, 1) := by decide +kernel
theorem dX10_turned_21 : decode cX10_turned 21 = .ok (.iaload, 1) := by decide +kernel
theorem dX10_turned_22 : decode cX10_turned 22 = .ok (.iconst 2, 1) := by decide +kernel
theorem dX10_turned_23 : decode cX10_turned 23 = .ok (.idiv, 1) := by decide +kernel
theorem dX10_turned_24 : decode cX10_turned 24 = .ok (.iload 4, 2) := by decide +kernel
theorem dX10_turned_26 : decode cX10_turned 26 = .ok (.invokevirtual 185, 3) := by decide +kernel
theorem dX10_turned_29 : decode cX10_turned 29 = .ok (.ifCond .eq 5, 3) := by decide +kernel
theorem dX10_turned_32 : decode cX10_turned 32 = .ok (.iload_n 2, 1) := by decide +kernel
theorem dX10_turned_33 : decode cX10_turned 33 = .ok (.ireturn, 1) := by decide +kernel
theorem dX10_turned_34 : decode cX10_turned 34 = .ok (.iload 5, 2) := by decide +kernel
theorem dX10_turned_36 : decode cX10_turned 36 = .ok (.ifCond .ne 6, 3) := by decide +kernel
theorem dX10_turned_39 : decode cX10_turned 39 = .ok (.iconst 1, 1) := by decide +kernel
theorem dX10_turned_40 : decode cX10_turned 40 = .ok (.istore 5, 2) := by decide +kernel
theorem dX10_turned_42 : decode cX10_turned 42 = .ok (.iconst 0, 1) := by decide +kernel
theorem dX10_turned_43 : decode cX10_turned 43 = .ok (.istore 6, 2) := by decide +kernel
theorem dX10_turned_45 : decode cX10_turned 45 = .ok (.iconst 0, 1) := by decide +kernel
theorem dX10_turned_46 : decode cX10_turned 46 = .ok (.istore 7, 2) := by decide +kernel
theorem dX10_turned_48 : decode cX10_turned 48 = .ok (.iload 7, 2) := by decide +kernel
theorem dX10_turned_50 : decode cX10_turned 50 = .ok (.aload_n 0, 1) := by decide +kernel
theorem dX10_turned_51 : decode cX10_turned 51 = .ok (.getfield 48, 3) := by decide +kernel
theorem dX10_turned_54 : decode cX10_turned 54 = .ok (.iload_n 1, 1) := by decide +kernel
theorem dX10_turned_55 : decode cX10_turned 55 = .ok (.iaload, 1) := by decide +kernel
theorem dX10_turned_56 : decode cX10_turned 56 = .ok (.if_icmp .ge 46, 3) := by decide +kernel
theorem dX10_turned_59 : decode cX10_turned 59 = .ok (.iload 6, 2) := by decide +kernel
theorem dX10_turned_61 : decode cX10_turned 61 = .ok (.ifCond .ne 28, 3) := by decide +kernel
theorem dX10_turned_64 : decode cX10_turned 64 = .ok (.aload_n 0, 1) := by decide +kernel
theorem dX10_turned_65 : decode cX10_turned 65 = .ok (.aload_n 0, 1) := by decide +kernel
theorem dX10_turned_66 : decode cX10_turned 66 = .ok (.getfield 42, 3) := by decide +kernel
theorem dX10_turned_69 : decode cX10_turned 69 = .ok (.aload_n 0, 1) := by decide +kernel
theorem dX10_turned_70 : decode cX10_turned 70 = .ok (.getfield 51, 3) := by decide +kernel
theorem dX10_turned_73 : decode cX10_turned 73 = .ok (.iload_n 1, 1) := by decide +kernel
theorem dX10_turned_74 : decode cX10_turned 74 = .ok (.iaload, 1) := by decide +kernel
theorem dX10_turned_75 : decode cX10_turned 75 = .ok (.iload 7, 2) := by decide +kernel
theorem dX10_turned_77 : decode cX10_turned 77 = .ok (.iadd, 1) := by decide +kernel
theorem dX10_turned_78 : decode cX10_turned 78 = .ok (.iaload, 1) := by decide +kernel
theorem dX10_turned_79 : decode cX10_turned 79 = .ok (.iconst 2, 1) := by decide +kernel
theorem dX10_turned_80 : decode cX10_turned 80 = .ok (.idiv, 1) := by decide +kernel
theorem dX10_turned_81 : decode cX10_turned 81 = .ok (.iload 4, 2) := by decide +kernel
theorem dX10_turned_83 : decode cX10_turned 83 = .ok (.invokevirtual 185, 3) := by decide +kernel
theorem dX10_turned_86 : decode cX10_turned 86 = .ok (.ifCond .eq 7, 3) := by decide +kernel
theorem dX10_turned_89 : decode cX10_turned 89 = .ok (.iconst 1, 1) := by decide +kernel
theorem dX10_turned_90 : decode cX10_turned 90 = .ok (.goto 4, 3) := by decide +kernel
theorem dX10_turned_93 : decode cX10_turned 93 = .ok (.iconst 0, 1) := by decide +kernel
theorem dX10_turned_94 : decode cX10_turned 94 = .ok (.istore 6, 2) := by decide +kernel
theorem dX10_turned_96 : decode cX10_turned 96 = .ok (.iinc 7 1, 3) := by decide +kernel
theorem dX10_turned_99 : decode cX10_turned 99 = .ok (.goto (-51), 3) := by decide +kernel
theorem dX10_turned_102 : decode cX10_turned 102 = .ok (.iload 6, 2) := by decide +kernel
theorem dX10_turned_104 : decode cX10_turned 104 = .ok (.ifCond .ne 5, 3) := by decide +kernel
theorem dX10_turned_107 : decode cX10_turned 107 = .ok (.iconst (-1), 1) := by decide +kernel
theorem dX10_turned_108 : decode cX10_turned 108 = .ok (.ireturn, 1) := by decide +kernel
theorem dX10_turned_109 : decode cX10_turned 109 = .ok (.iload_n 2, 1) := by decide +kernel
theorem dX10_turned_110 : decode cX10_turned 110 = .ok (.istore 7, 2) := by decide +kernel
theorem dX10_turned_112 : decode cX10_turned 112 = .ok (.iload 5, 2) := by decide +kernel
theorem dX10_turned_114 : decode cX10_turned 114 = .ok (.ifCond .le 47, 3) := by decide +kernel
theorem dX10_turned_117 : decode cX10_turned 117 = .ok (.iload 7, 2) := by decide +kernel
theorem dX10_turned_119 : decode cX10_turned 119 = .ok (.iconst 1, 1) := by decide +kernel
theorem dX10_turned_120 : decode cX10_turned 120 = .ok (.iadd, 1) := by decide +kernel
theorem dX10_turned_121 : decode cX10_turned 121 = .ok (.aload_n 0, 1) := by decide +kernel
theorem dX10_turned_122 : decode cX10_turned 122 = .ok (.getfield 48, 3) := by decide +kernel
theorem dX10_turned_125 : decode cX10_turned 125 = .ok (.iload_n 1, 1) := by decide +kernel
theorem dX10_turned_126 : decode cX10_turned 126 = .ok (.iaload, 1) := by decide +kernel
theorem dX10_turned_127 : decode cX10_turned 127 = .ok (.irem, 1) := by decide +kernel
theorem dX10_turned_128 : decode cX10_turned 128 = .ok (.istore 7, 2) := by decide +kernel
theorem dX10_turned_130 : decode cX10_turned 130 = .ok (.aload_n 0, 1) := by decide +kernel
theorem dX10_turned_131 : decode cX10_turned 131 = .ok (.aload_n 0, 1) := by decide +kernel
theorem dX10_turned_132 : decode cX10_turned 132 = .ok (.getfield 42, 3) := by decide +kernel
theorem dX10_turned_135 : decode cX10_turned 135 = .ok (.aload_n 0, 1) := by decide +kernel
theorem dX10_turned_136 : decode cX10_turned 136 = .ok (.getfield 51, 3) := by decide +kernel
theorem dX10_turned_139 : decode cX10_turned 139 = .ok (.iload_n 1, 1) := by decide +kernel
theorem dX10_turned_140 : decode cX10_turned 140 = .ok (.iaload, 1) := by decide +kernel
theorem dX10_turned_141 : decode cX10_turned 141 = .ok (.iload 7, 2) := by decide +kernel
theorem dX10_turned_143 : decode cX10_turned 143 = .ok (.iadd, 1) := by decide +kernel
theorem dX10_turned_144 : decode cX10_turned 144 = .ok (.iaload, 1) := by decide +kernel
theorem dX10_turned_145 : decode cX10_turned 145 = .ok (.iconst 2, 1) := by decide +kernel
theorem dX10_turned_146 : decode cX10_turned 146 = .ok (.idiv, 1) := by decide +kernel
theorem dX10_turned_147 : decode cX10_turned 147 = .ok (.iload 4, 2) := by decide +kernel
theorem dX10_turned_149 : decode cX10_turned 149 = .ok (.invokevirtual 185, 3) := by decide +kernel
theorem dX10_turned_152 : decode cX10_turned 152 = .ok (.ifCond .eq (-40), 3) := by decide +kernel
theorem dX10_turned_155 : decode cX10_turned 155 = .ok (.iinc 5 (-1), 3) := by decide +kernel
theorem dX10_turned_158 : decode cX10_turned 158 = .ok (.goto (-46), 3) := by decide +kernel
theorem dX10_turned_161 : decode cX10_turned 161 = .ok (.iload 7, 2) := by decide +kernel
theorem dX10_turned_163 : decode cX10_turned 163 = .ok (.ireturn, 1) := by decide +kernel
theorem dX10_together_0 : decode cX10_together 0 = .ok (.iconst 0, 1) := by decide +kernel
theorem dX10_together_1 : decode cX10_together 1 = .ok (.istore_n 1, 1) := by decide +kernel
theorem dX10_together_2 : decode cX10_together 2 = .ok (.iconst 0, 1) := by decide +kernel
theorem dX10_together_3 : decode cX10_together 3 = .ok (.istore_n 2, 1) := by decide +kernel
theorem dX10_together_4 : decode cX10_together 4 = .ok (.iload_n 2, 1) := by decide +kernel
theorem dX10_together_5 : decode cX10_together 5 = .ok (.bipush 8, 2) := by decide +kernel
theorem dX10_together_7 : decode cX10_together 7 = .ok (.if_icmp .ge 28, 3) := by decide +kernel
theorem dX10_together_10 : decode cX10_together 10 = .ok (.iconst 2, 1) := by decide +kernel
theorem dX10_together_11 : decode cX10_together 11 = .ok (.iload_n 1, 1) := by decide +kernel
theorem dX10_together_12 : decode cX10_together 12 = .ok (.imul, 1) := by decide +kernel
theorem dX10_together_13 : decode cX10_together 13 = .ok (.aload_n 0, 1) := by decide +kernel
theorem dX10_together_14 : decode cX10_together 14 = .ok (.getfield 73, 3) := by decide +kernel
theorem dX10_together_17 : decode cX10_together 17 = .ok (.iload_n 2, 1) := by decide +kernel
theorem dX10_together_18 : decode cX10_together 18 = .ok (.baload, 1) := by decide +kernel
theorem dX10_together_19 : decode cX10_together 19 = .ok (.ifCond .eq 7, 3) := by decide +kernel
theorem dX10_together_22 : decode cX10_together 22 = .ok (.iconst 1, 1) := by decide +kernel
theorem dX10_together_23 : decode cX10_together 23 = .ok (.goto 4, 3) := by decide +kernel
theorem dX10_together_26 : decode cX10_together 26 = .ok (.iconst 0, 1) := by decide +kernel
theorem dX10_together_27 : decode cX10_together 27 = .ok (.iadd, 1) := by decide +kernel
theorem dX10_together_28 : decode cX10_together 28 = .ok (.istore_n 1, 1) := by decide +kernel
theorem dX10_together_29 : decode cX10_together 29 = .ok (.iinc 2 1, 3) := by decide +kernel
theorem dX10_together_32 : decode cX10_together 32 = .ok (.goto (-28), 3) := by decide +kernel
theorem dX10_together_35 : decode cX10_together 35 = .ok (.iload_n 1, 1) := by decide +kernel
theorem dX10_together_36 : decode cX10_together 36 = .ok (.bipush 24, 2) := by decide +kernel
theorem dX10_together_38 : decode cX10_together 38 = .ok (.imul, 1) := by decide +kernel
theorem dX10_together_39 : decode cX10_together 39 = .ok (.aload_n 0, 1) := by decide +kernel
theorem dX10_together_40 : decode cX10_together 40 = .ok (.getfield 188, 3) := by decide +kernel
theorem dX10_together_43 : decode cX10_together 43 = .ok (.iadd, 1) := by decide +kernel
theorem dX10_together_44 : decode cX10_together 44 = .ok (.iconst 4, 1) := by decide +kernel
theorem dX10_together_45 : decode cX10_together 45 = .ok (.imul, 1) := by decide +kernel
theorem dX10_together_46 : decode cX10_together 46 = .ok (.aload_n 0, 1) := by decide +kernel
theorem dX10_together_47 : decode cX10_together 47 = .ok (.getfield 191, 3) := by decide +kernel
theorem dX10_together_50 : decode cX10_together 50 = .ok (.iadd, 1) := by decide +kernel
theorem dX10_together_51 : decode cX10_together 51 = .ok (.bipush 8, 2) := by decide +kernel
theorem dX10_together_53 : decode cX10_together 53 = .ok (.imul, 1) := by decide +kernel
theorem dX10_together_54 : decode cX10_together 54 = .ok (.aload_n 0, 1) := by decide +kernel
theorem dX10_together_55 : decode cX10_together 55 = .ok (.getfield 194, 3) := by decide +kernel
theorem dX10_together_58 : decode cX10_together 58 = .ok (.aload_n 0, 1) := by decide +kernel
theorem dX10_together_59 : decode cX10_together 59 = .ok (.getfield 36, 3) := by decide +kernel
theorem dX10_together_62 : decode cX10_together 62 = .ok (.irem, 1) := by decide +kernel
theorem dX10_together_63 : decode cX10_together 63 = .ok (.iadd, 1) := by decide +kernel
theorem dX10_together_64 : decode cX10_together 64 = .ok (.ireturn, 1) := by decide +kernel
theorem dX10_walks_0 : decode cX10_walks 0 = .ok (.aload_n 0, 1) := by decide +kernel
theorem dX10_walks_1 : decode cX10_walks 1 = .ok (.iconst 0, 1) := by decide +kernel
theorem dX10_walks_2 : decode cX10_walks 2 = .ok (.putfield 197, 3) := by decide +kernel
theorem dX10_walks_5 : decode cX10_walks 5 = .ok (.aload_n 0, 1) := by decide +kernel
theorem dX10_walks_6 : decode cX10_walks 6 = .ok (.iload_n 1, 1) := by decide +kernel
theorem dX10_walks_7 : decode cX10_walks 7 = .ok (.invokevirtual 200, 3) := by decide +kernel
theorem dX10_walks_10 : decode cX10_walks 10 = .ok (.istore_n 2, 1) := by decide +kernel
theorem dX10_walks_11 : decode cX10_walks 11 = .ok (.iconst 0, 1) := by decide +kernel
theorem dX10_walks_12 : decode cX10_walks 12 = .ok (.istore_n 3, 1) := by decide +kernel
theorem dX10_walks_13 : decode cX10_walks 13 = .ok (.iload_n 3, 1) := by decide +kernel
theorem dX10_walks_14 : decode cX10_walks 14 = .ok (.aload_n 0, 1) := by decide +kernel
theorem dX10_walks_15 : decode cX10_walks 15 = .ok (.getfield 197, 3) := by decide +kernel
theorem dX10_walks_18 : decode cX10_walks 18 = .ok (.if_icmp .ge 21, 3) := by decide +kernel
theorem dX10_walks_21 : decode cX10_walks 21 = .ok (.aload_n 0, 1) := by decide +kernel
theorem dX10_walks_22 : decode cX10_walks 22 = .ok (.getfield 70, 3) := by decide +kernel
theorem dX10_walks_25 : decode cX10_walks 25 = .ok (.aload_n 0, 1) := by decide +kernel
theorem dX10_walks_26 : decode cX10_walks 26 = .ok (.getfield 66, 3) := by decide +kernel
theorem dX10_walks_29 : decode cX10_walks 29 = .ok (.iload_n 3, 1) := by decide +kernel
theorem dX10_walks_30 : decode cX10_walks 30 = .ok (.iaload, 1) := by decide +kernel
theorem dX10_walks_31 : decode cX10_walks 31 = .ok (.iconst 0, 1) := by decide +kernel
theorem dX10_walks_32 : decode cX10_walks 32 = .ok (.iastore, 1) := by decide +kernel
theorem dX10_walks_33 : decode cX10_walks 33 = .ok (.iinc 3 1, 3) := by decide +kernel
theorem dX10_walks_36 : decode cX10_walks 36 = .ok (.goto (-23), 3) := by decide +kernel
theorem dX10_walks_39 : decode cX10_walks 39 = .ok (.iload_n 2, 1) := by decide +kernel
theorem dX10_walks_40 : decode cX10_walks 40 = .ok (.ireturn, 1) := by decide +kernel
theorem dX10_goes_0 : decode cX10_goes 0 = .ok (.iconst 0, 1) := by decide +kernel
theorem dX10_goes_1 : decode cX10_goes 1 = .ok (.istore_n 2, 1) := by decide +kernel
theorem dX10_goes_2 : decode cX10_goes 2 = .ok (.iload_n 2, 1) := by decide +kernel
theorem dX10_goes_3 : decode cX10_goes 3 = .ok (.bipush 8, 2) := by decide +kernel
theorem dX10_goes_5 : decode cX10_goes 5 = .ok (.if_icmp .ge 37, 3) := by decide +kernel
theorem dX10_goes_8 : decode cX10_goes 8 = .ok (.aload_n 0, 1) := by decide +kernel
theorem dX10_goes_9 : decode cX10_goes 9 = .ok (.getfield 73, 3) := by decide +kernel
theorem dX10_goes_12 : decode cX10_goes 12 = .ok (.iload_n 2, 1) := by decide +kernel
theorem dX10_goes_13 : decode cX10_goes 13 = .ok (.iload_n 2, 1) := by decide +kernel
theorem dX10_goes_14 : decode cX10_goes 14 = .ok (.aload_n 0, 1) := by decide +kernel
theorem dX10_goes_15 : decode cX10_goes 15 = .ok (.getfield 170, 3) := by decide +kernel
theorem dX10_goes_18 : decode cX10_goes 18 = .ok (.if_icmp .ge 16, 3) := by decide +kernel
theorem dX10_goes_21 : decode cX10_goes 21 = .ok (.aload_n 0, 1) := by decide +kernel
theorem dX10_goes_22 : decode cX10_goes 22 = .ok (.getfield 24, 3) := by decide +kernel
theorem dX10_goes_25 : decode cX10_goes 25 = .ok (.iload_n 2, 1) := by decide +kernel
theorem dX10_goes_26 : decode cX10_goes 26 = .ok (.baload, 1) := by decide +kernel
theorem dX10_goes_27 : decode cX10_goes 27 = .ok (.ifCond .eq 7, 3) := by decide +kernel
theorem dX10_goes_30 : decode cX10_goes 30 = .ok (.iconst 1, 1) := by decide +kernel
theorem dX10_goes_31 : decode cX10_goes 31 = .ok (.goto 4, 3) := by decide +kernel
theorem dX10_goes_34 : decode cX10_goes 34 = .ok (.iconst 0, 1) := by decide +kernel
theorem dX10_goes_35 : decode cX10_goes 35 = .ok (.bastore, 1) := by decide +kernel
theorem dX10_goes_36 : decode cX10_goes 36 = .ok (.iinc 2 1, 3) := by decide +kernel
theorem dX10_goes_39 : decode cX10_goes 39 = .ok (.goto (-37), 3) := by decide +kernel
theorem dX10_goes_42 : decode cX10_goes 42 = .ok (.aload_n 0, 1) := by decide +kernel
theorem dX10_goes_43 : decode cX10_goes 43 = .ok (.iload_n 1, 1) := by decide +kernel
theorem dX10_goes_44 : decode cX10_goes 44 = .ok (.putfield 188, 3) := by decide +kernel
theorem dX10_goes_47 : decode cX10_goes 47 = .ok (.aload_n 0, 1) := by decide +kernel
theorem dX10_goes_48 : decode cX10_goes 48 = .ok (.aload_n 0, 1) := by decide +kernel
theorem dX10_goes_49 : decode cX10_goes 49 = .ok (.getfield 164, 3) := by decide +kernel
theorem dX10_goes_52 : decode cX10_goes 52 = .ok (.putfield 191, 3) := by decide +kernel
theorem dX10_goes_55 : decode cX10_goes 55 = .ok (.aload_n 0, 1) := by decide +kernel
theorem dX10_goes_56 : decode cX10_goes 56 = .ok (.iconst 0, 1) := by decide +kernel
theorem dX10_goes_57 : decode cX10_goes 57 = .ok (.putfield 194, 3) := by decide +kernel
theorem dX10_goes_60 : decode cX10_goes 60 = .ok (.aload_n 0, 1) := by decide +kernel
theorem dX10_goes_61 : decode cX10_goes 61 = .ok (.iconst (-1), 1) := by decide +kernel
theorem dX10_goes_62 : decode cX10_goes 62 = .ok (.putfield 204, 3) := by decide +kernel
theorem dX10_goes_65 : decode cX10_goes 65 = .ok (.aload_n 0, 1) := by decide +kernel
theorem dX10_goes_66 : decode cX10_goes 66 = .ok (.iconst (-1), 1) := by decide +kernel
theorem dX10_goes_67 : decode cX10_goes 67 = .ok (.putfield 207, 3) := by decide +kernel
theorem dX10_goes_70 : decode cX10_goes 70 = .ok (.aload_n 0, 1) := by decide +kernel
theorem dX10_goes_71 : decode cX10_goes 71 = .ok (.getfield 39, 3) := by decide +kernel
theorem dX10_goes_74 : decode cX10_goes 74 = .ok (.aload_n 0, 1) := by decide +kernel
theorem dX10_goes_75 : decode cX10_goes 75 = .ok (.getfield 188, 3) := by decide +kernel
theorem dX10_goes_78 : decode cX10_goes 78 = .ok (.iaload, 1) := by decide +kernel
theorem dX10_goes_79 : decode cX10_goes 79 = .ok (.istore_n 2, 1) := by decide +kernel
theorem dX10_goes_80 : decode cX10_goes 80 = .ok (.aload_n 0, 1) := by decide +kernel
theorem dX10_goes_81 : decode cX10_goes 81 = .ok (.getfield 20, 3) := by decide +kernel
theorem dX10_goes_84 : decode cX10_goes 84 = .ok (.iload_n 2, 1) := by decide +kernel
theorem dX10_goes_85 : decode cX10_goes 85 = .ok (.baload, 1) := by decide +kernel
theorem dX10_goes_86 : decode cX10_goes 86 = .ok (.ifCond .eq 5, 3) := by decide +kernel
theorem dX10_goes_89 : decode cX10_goes 89 = .ok (.iconst 0, 1) := by decide +kernel
theorem dX10_goes_90 : decode cX10_goes 90 = .ok (.ireturn, 1) := by decide +kernel
theorem dX10_goes_91 : decode cX10_goes 91 = .ok (.aload_n 0, 1) := by decide +kernel
theorem dX10_goes_92 : decode cX10_goes 92 = .ok (.invokevirtual 210, 3) := by decide +kernel
theorem dX10_goes_95 : decode cX10_goes 95 = .ok (.istore_n 3, 1) := by decide +kernel
theorem dX10_goes_96 : decode cX10_goes 96 = .ok (.aload_n 0, 1) := by decide +kernel
theorem dX10_goes_97 : decode cX10_goes 97 = .ok (.getfield 70, 3) := by decide +kernel
theorem dX10_goes_100 : decode cX10_goes 100 = .ok (.iload_n 3, 1) := by decide +kernel
theorem dX10_goes_101 : decode cX10_goes 101 = .ok (.iaload, 1) := by decide +kernel
theorem dX10_goes_102 : decode cX10_goes 102 = .ok (.ifCond .le 30, 3) := by decide +kernel
theorem dX10_goes_105 : decode cX10_goes 105 = .ok (.aload_n 0, 1) := by decide +kernel
theorem dX10_goes_106 : decode cX10_goes 106 = .ok (.aload_n 0, 1) := by decide +kernel
theorem dX10_goes_107 : decode cX10_goes 107 = .ok (.getfield 70, 3) := by decide +kernel
theorem dX10_goes_110 : decode cX10_goes 110 = .ok (.iload_n 3, 1) := by decide +kernel
theorem dX10_goes_111 : decode cX10_goes 111 = .ok (.iaload, 1) := by decide +kernel
theorem dX10_goes_112 : decode cX10_goes 112 = .ok (.iconst 1, 1) := by decide +kernel
theorem dX10_goes_113 : decode cX10_goes 113 = .ok (.isub, 1) := by decide +kernel
theorem dX10_goes_114 : decode cX10_goes 114 = .ok (.putfield 204, 3) := by decide +kernel
theorem dX10_goes_117 : decode cX10_goes 117 = .ok (.aload_n 0, 1) := by decide +kernel
theorem dX10_goes_118 : decode cX10_goes 118 = .ok (.aload_n 0, 1) := by decide +kernel
theorem dX10_goes_119 : decode cX10_goes 119 = .ok (.getfield 194, 3) := by decide +kernel
theorem dX10_goes_122 : decode cX10_goes 122 = .ok (.aload_n 0, 1) := by decide +kernel
theorem dX10_goes_123 : decode cX10_goes 123 = .ok (.getfield 204, 3) := by decide +kernel
theorem dX10_goes_126 : decode cX10_goes 126 = .ok (.isub, 1) := by decide +kernel
theorem dX10_goes_127 : decode cX10_goes 127 = .ok (.putfield 207, 3) := by decide +kernel
theorem dX10_goes_130 : decode cX10_goes 130 = .ok (.iconst 1, 1) := by decide +kernel
theorem dX10_goes_131 : decode cX10_goes 131 = .ok (.ireturn, 1) := by decide +kernel
theorem dX10_goes_132 : decode cX10_goes 132 = .ok (.aload_n 0, 1) := by decide +kernel
theorem dX10_goes_133 : decode cX10_goes 133 = .ok (.getfield 66, 3) := by decide +kernel
theorem dX10_goes_136 : decode cX10_goes 136 = .ok (.aload_n 0, 1) := by decide +kernel
theorem dX10_goes_137 : decode cX10_goes 137 = .ok (.getfield 197, 3) := by decide +kernel
theorem dX10_goes_140 : decode cX10_goes 140 = .ok (.iload_n 3, 1) := by decide +kernel
theorem dX10_goes_141 : decode cX10_goes 141 = .ok (.iastore, 1) := by decide +kernel
theorem dX10_goes_142 : decode cX10_goes 142 = .ok (.aload_n 0, 1) := by decide +kernel
theorem dX10_goes_143 : decode cX10_goes 143 = .ok (.dup, 1) := by decide +kernel
theorem dX10_goes_144 : decode cX10_goes 144 = .ok (.getfield 197, 3) := by decide +kernel
theorem dX10_goes_147 : decode cX10_goes 147 = .ok (.iconst 1, 1) := by decide +kernel
theorem dX10_goes_148 : decode cX10_goes 148 = .ok (.iadd, 1) := by decide +kernel
theorem dX10_goes_149 : decode cX10_goes 149 = .ok (.putfield 197, 3) := by decide +kernel
theorem dX10_goes_152 : decode cX10_goes 152 = .ok (.aload_n 0, 1) := by decide +kernel
theorem dX10_goes_153 : decode cX10_goes 153 = .ok (.getfield 70, 3) := by decide +kernel
theorem dX10_goes_156 : decode cX10_goes 156 = .ok (.iload_n 3, 1) := by decide +kernel
