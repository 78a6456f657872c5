theorem dX11_blame_273 : decode cX11_blame 273 = .ok (.iinc 9 1, 3) := by decide +kernel
theorem dX11_blame_276 : decode cX11_blame 276 = .ok (.goto (-86), 3) := by decide +kernel
theorem dX11_blame_279 : decode cX11_blame 279 = .ok (.iload 6, 2) := by decide +kernel
theorem dX11_blame_281 : decode cX11_blame 281 = .ok (.invokestatic 287, 3) := by decide +kernel
theorem dX11_blame_284 : decode cX11_blame 284 = .ok (.lstore 9, 2) := by decide +kernel
theorem dX11_blame_286 : decode cX11_blame 286 = .ok (.lload 7, 2) := by decide +kernel
theorem dX11_blame_288 : decode cX11_blame 288 = .ok (.lconst 0, 1) := by decide +kernel
theorem dX11_blame_289 : decode cX11_blame 289 = .ok (.lcmp, 1) := by decide +kernel
theorem dX11_blame_290 : decode cX11_blame 290 = .ok (.ifCond .ge 9, 3) := by decide +kernel
theorem dX11_blame_293 : decode cX11_blame 293 = .ok (.lload 7, 2) := by decide +kernel
theorem dX11_blame_295 : decode cX11_blame 295 = .ok (.lneg, 1) := by decide +kernel
theorem dX11_blame_296 : decode cX11_blame 296 = .ok (.goto 5, 3) := by decide +kernel
theorem dX11_blame_299 : decode cX11_blame 299 = .ok (.lload 7, 2) := by decide +kernel
theorem dX11_blame_301 : decode cX11_blame 301 = .ok (.lstore 11, 2) := by decide +kernel
theorem dX11_blame_303 : decode cX11_blame 303 = .ok (.lload 9, 2) := by decide +kernel
theorem dX11_blame_305 : decode cX11_blame 305 = .ok (.lstore 13, 2) := by decide +kernel
theorem dX11_blame_307 : decode cX11_blame 307 = .ok (.lload 13, 2) := by decide +kernel
theorem dX11_blame_309 : decode cX11_blame 309 = .ok (.lconst 0, 1) := by decide +kernel
theorem dX11_blame_310 : decode cX11_blame 310 = .ok (.lcmp, 1) := by decide +kernel
theorem dX11_blame_311 : decode cX11_blame 311 = .ok (.ifCond .le 21, 3) := by decide +kernel
theorem dX11_blame_314 : decode cX11_blame 314 = .ok (.lload 11, 2) := by decide +kernel
theorem dX11_blame_316 : decode cX11_blame 316 = .ok (.lload 13, 2) := by decide +kernel
theorem dX11_blame_318 : decode cX11_blame 318 = .ok (.lrem, 1) := by decide +kernel
theorem dX11_blame_319 : decode cX11_blame 319 = .ok (.lstore 15, 2) := by decide +kernel
theorem dX11_blame_321 : decode cX11_blame 321 = .ok (.lload 13, 2) := by decide +kernel
theorem dX11_blame_323 : decode cX11_blame 323 = .ok (.lstore 11, 2) := by decide +kernel
theorem dX11_blame_325 : decode cX11_blame 325 = .ok (.lload 15, 2) := by decide +kernel
theorem dX11_blame_327 : decode cX11_blame 327 = .ok (.lstore 13, 2) := by decide +kernel
theorem dX11_blame_329 : decode cX11_blame 329 = .ok (.goto (-22), 3) := by decide +kernel
theorem dX11_blame_332 : decode cX11_blame 332 = .ok (.iload 4, 2) := by decide +kernel
theorem dX11_blame_334 : decode cX11_blame 334 = .ok (.ifCond .ne 11, 3) := by decide +kernel
theorem dX11_blame_337 : decode cX11_blame 337 = .ok (.lload 7, 2) := by decide +kernel
theorem dX11_blame_339 : decode cX11_blame 339 = .ok (.lload 11, 2) := by decide +kernel
theorem dX11_blame_341 : decode cX11_blame 341 = .ok (.ldiv, 1) := by decide +kernel
theorem dX11_blame_342 : decode cX11_blame 342 = .ok (.goto 8, 3) := by decide +kernel
theorem dX11_blame_345 : decode cX11_blame 345 = .ok (.lload 9, 2) := by decide +kernel
theorem dX11_blame_347 : decode cX11_blame 347 = .ok (.lload 11, 2) := by decide +kernel
theorem dX11_blame_349 : decode cX11_blame 349 = .ok (.ldiv, 1) := by decide +kernel
theorem dX11_blame_350 : decode cX11_blame 350 = .ok (.lreturn, 1) := by decide +kernel
theorem dX11_goesOn_0 : decode cX11_goesOn 0 = .ok (.aload_n 0, 1) := by decide +kernel
theorem dX11_goesOn_1 : decode cX11_goesOn 1 = .ok (.getfield 299, 3) := by decide +kernel
theorem dX11_goesOn_4 : decode cX11_goesOn 4 = .ok (.iconst (-1), 1) := by decide +kernel
theorem dX11_goesOn_5 : decode cX11_goesOn 5 = .ok (.if_icmp .eq 12, 3) := by decide +kernel
theorem dX11_goesOn_8 : decode cX11_goesOn 8 = .ok (.iload_n 2, 1) := by decide +kernel
theorem dX11_goesOn_9 : decode cX11_goesOn 9 = .ok (.aload_n 0, 1) := by decide +kernel
theorem dX11_goesOn_10 : decode cX11_goesOn 10 = .ok (.getfield 299, 3) := by decide +kernel
theorem dX11_goesOn_13 : decode cX11_goesOn 13 = .ok (.if_icmp .lt 4, 3) := by decide +kernel
theorem dX11_goesOn_16 : decode cX11_goesOn 16 = .ok (.return_, 1) := by decide +kernel
theorem dX11_goesOn_17 : decode cX11_goesOn 17 = .ok (.iload_n 1, 1) := by decide +kernel
theorem dX11_goesOn_18 : decode cX11_goesOn 18 = .ok (.aload_n 0, 1) := by decide +kernel
theorem dX11_goesOn_19 : decode cX11_goesOn 19 = .ok (.getfield 302, 3) := by decide +kernel
theorem dX11_goesOn_22 : decode cX11_goesOn 22 = .ok (.if_icmp .ne 34, 3) := by decide +kernel
theorem dX11_goesOn_25 : decode cX11_goesOn 25 = .ok (.aload_n 0, 1) := by decide +kernel
theorem dX11_goesOn_26 : decode cX11_goesOn 26 = .ok (.iload_n 2, 1) := by decide +kernel
theorem dX11_goesOn_27 : decode cX11_goesOn 27 = .ok (.putfield 299, 3) := by decide +kernel
theorem dX11_goesOn_30 : decode cX11_goesOn 30 = .ok (.iconst 0, 1) := by decide +kernel
theorem dX11_goesOn_31 : decode cX11_goesOn 31 = .ok (.istore_n 3, 1) := by decide +kernel
theorem dX11_goesOn_32 : decode cX11_goesOn 32 = .ok (.iload_n 3, 1) := by decide +kernel
theorem dX11_goesOn_33 : decode cX11_goesOn 33 = .ok (.iload_n 1, 1) := by decide +kernel
theorem dX11_goesOn_34 : decode cX11_goesOn 34 = .ok (.if_icmp .ge 21, 3) := by decide +kernel
theorem dX11_goesOn_37 : decode cX11_goesOn 37 = .ok (.aload_n 0, 1) := by decide +kernel
theorem dX11_goesOn_38 : decode cX11_goesOn 38 = .ok (.getfield 75, 3) := by decide +kernel
theorem dX11_goesOn_41 : decode cX11_goesOn 41 = .ok (.iload_n 3, 1) := by decide +kernel
theorem dX11_goesOn_42 : decode cX11_goesOn 42 = .ok (.aload_n 0, 1) := by decide +kernel
theorem dX11_goesOn_43 : decode cX11_goesOn 43 = .ok (.getfield 72, 3) := by decide +kernel
theorem dX11_goesOn_46 : decode cX11_goesOn 46 = .ok (.iload_n 3, 1) := by decide +kernel
theorem dX11_goesOn_47 : decode cX11_goesOn 47 = .ok (.iaload, 1) := by decide +kernel
theorem dX11_goesOn_48 : decode cX11_goesOn 48 = .ok (.iastore, 1) := by decide +kernel
theorem dX11_goesOn_49 : decode cX11_goesOn 49 = .ok (.iinc 3 1, 3) := by decide +kernel
theorem dX11_goesOn_52 : decode cX11_goesOn 52 = .ok (.goto (-20), 3) := by decide +kernel
theorem dX11_goesOn_55 : decode cX11_goesOn 55 = .ok (.return_, 1) := by decide +kernel
theorem dX11_goesOn_56 : decode cX11_goesOn 56 = .ok (.iconst 0, 1) := by decide +kernel
theorem dX11_goesOn_57 : decode cX11_goesOn 57 = .ok (.istore_n 3, 1) := by decide +kernel
theorem dX11_goesOn_58 : decode cX11_goesOn 58 = .ok (.iload_n 3, 1) := by decide +kernel
theorem dX11_goesOn_59 : decode cX11_goesOn 59 = .ok (.iconst 1, 1) := by decide +kernel
theorem dX11_goesOn_60 : decode cX11_goesOn 60 = .ok (.aload_n 0, 1) := by decide +kernel
theorem dX11_goesOn_61 : decode cX11_goesOn 61 = .ok (.getfield 238, 3) := by decide +kernel
theorem dX11_goesOn_64 : decode cX11_goesOn 64 = .ok (.ishl, 1) := by decide +kernel
theorem dX11_goesOn_65 : decode cX11_goesOn 65 = .ok (.if_icmp .ge 210, 3) := by decide +kernel
theorem dX11_goesOn_68 : decode cX11_goesOn 68 = .ok (.iconst 0, 1) := by decide +kernel
theorem dX11_goesOn_69 : decode cX11_goesOn 69 = .ok (.istore 4, 2) := by decide +kernel
theorem dX11_goesOn_71 : decode cX11_goesOn 71 = .ok (.iload 4, 2) := by decide +kernel
theorem dX11_goesOn_73 : decode cX11_goesOn 73 = .ok (.aload_n 0, 1) := by decide +kernel
theorem dX11_goesOn_74 : decode cX11_goesOn 74 = .ok (.getfield 238, 3) := by decide +kernel
theorem dX11_goesOn_77 : decode cX11_goesOn 77 = .ok (.if_icmp .ge 71, 3) := by decide +kernel
theorem dX11_goesOn_80 : decode cX11_goesOn 80 = .ok (.aload_n 0, 1) := by decide +kernel
theorem dX11_goesOn_81 : decode cX11_goesOn 81 = .ok (.getfield 44, 3) := by decide +kernel
theorem dX11_goesOn_84 : decode cX11_goesOn 84 = .ok (.iload 4, 2) := by decide +kernel
theorem dX11_goesOn_86 : decode cX11_goesOn 86 = .ok (.iload_n 3, 1) := by decide +kernel
theorem dX11_goesOn_87 : decode cX11_goesOn 87 = .ok (.iload 4, 2) := by decide +kernel
theorem dX11_goesOn_89 : decode cX11_goesOn 89 = .ok (.ishr, 1) := by decide +kernel
theorem dX11_goesOn_90 : decode cX11_goesOn 90 = .ok (.iconst 1, 1) := by decide +kernel
theorem dX11_goesOn_91 : decode cX11_goesOn 91 = .ok (.iand, 1) := by decide +kernel
theorem dX11_goesOn_92 : decode cX11_goesOn 92 = .ok (.iconst 1, 1) := by decide +kernel
theorem dX11_goesOn_93 : decode cX11_goesOn 93 = .ok (.if_icmp .ne 7, 3) := by decide +kernel
theorem dX11_goesOn_96 : decode cX11_goesOn 96 = .ok (.iconst 0, 1) := by decide +kernel
theorem dX11_goesOn_97 : decode cX11_goesOn 97 = .ok (.goto 12, 3) := by decide +kernel
theorem dX11_goesOn_100 : decode cX11_goesOn 100 = .ok (.aload_n 0, 1) := by decide +kernel
theorem dX11_goesOn_101 : decode cX11_goesOn 101 = .ok (.getfield 80, 3) := by decide +kernel
theorem dX11_goesOn_104 : decode cX11_goesOn 104 = .ok (.iload_n 1, 1) := by decide +kernel
theorem dX11_goesOn_105 : decode cX11_goesOn 105 = .ok (.aaload, 1) := by decide +kernel
theorem dX11_goesOn_106 : decode cX11_goesOn 106 = .ok (.iload 4, 2) := by decide +kernel
theorem dX11_goesOn_108 : decode cX11_goesOn 108 = .ok (.iaload, 1) := by decide +kernel
theorem dX11_goesOn_109 : decode cX11_goesOn 109 = .ok (.iastore, 1) := by decide +kernel
theorem dX11_goesOn_110 : decode cX11_goesOn 110 = .ok (.aload_n 0, 1) := by decide +kernel
theorem dX11_goesOn_111 : decode cX11_goesOn 111 = .ok (.getfield 53, 3) := by decide +kernel
theorem dX11_goesOn_114 : decode cX11_goesOn 114 = .ok (.iload 4, 2) := by decide +kernel
theorem dX11_goesOn_116 : decode cX11_goesOn 116 = .ok (.aload_n 0, 1) := by decide +kernel
theorem dX11_goesOn_117 : decode cX11_goesOn 117 = .ok (.getfield 83, 3) := by decide +kernel
theorem dX11_goesOn_120 : decode cX11_goesOn 120 = .ok (.iload_n 1, 1) := by decide +kernel
theorem dX11_goesOn_121 : decode cX11_goesOn 121 = .ok (.aaload, 1) := by decide +kernel
theorem dX11_goesOn_122 : decode cX11_goesOn 122 = .ok (.iload 4, 2) := by decide +kernel
theorem dX11_goesOn_124 : decode cX11_goesOn 124 = .ok (.iaload, 1) := by decide +kernel
theorem dX11_goesOn_125 : decode cX11_goesOn 125 = .ok (.iastore, 1) := by decide +kernel
theorem dX11_goesOn_126 : decode cX11_goesOn 126 = .ok (.aload_n 0, 1) := by decide +kernel
theorem dX11_goesOn_127 : decode cX11_goesOn 127 = .ok (.getfield 56, 3) := by decide +kernel
theorem dX11_goesOn_130 : decode cX11_goesOn 130 = .ok (.iload 4, 2) := by decide +kernel
theorem dX11_goesOn_132 : decode cX11_goesOn 132 = .ok (.aload_n 0, 1) := by decide +kernel
theorem dX11_goesOn_133 : decode cX11_goesOn 133 = .ok (.getfield 86, 3) := by decide +kernel
theorem dX11_goesOn_136 : decode cX11_goesOn 136 = .ok (.iload_n 1, 1) := by decide +kernel
theorem dX11_goesOn_137 : decode cX11_goesOn 137 = .ok (.aaload, 1) := by decide +kernel
theorem dX11_goesOn_138 : decode cX11_goesOn 138 = .ok (.iload 4, 2) := by decide +kernel
theorem dX11_goesOn_140 : decode cX11_goesOn 140 = .ok (.iaload, 1) := by decide +kernel
theorem dX11_goesOn_141 : decode cX11_goesOn 141 = .ok (.iastore, 1) := by decide +kernel
theorem dX11_goesOn_142 : decode cX11_goesOn 142 = .ok (.iinc 4 1, 3) := by decide +kernel
theorem dX11_goesOn_145 : decode cX11_goesOn 145 = .ok (.goto (-74), 3) := by decide +kernel
theorem dX11_goesOn_148 : decode cX11_goesOn 148 = .ok (.aload_n 0, 1) := by decide +kernel
theorem dX11_goesOn_149 : decode cX11_goesOn 149 = .ok (.aload_n 0, 1) := by decide +kernel
theorem dX11_goesOn_150 : decode cX11_goesOn 150 = .ok (.getfield 69, 3) := by decide +kernel
theorem dX11_goesOn_153 : decode cX11_goesOn 153 = .ok (.iload_n 1, 1) := by decide +kernel
theorem dX11_goesOn_154 : decode cX11_goesOn 154 = .ok (.iaload, 1) := by decide +kernel
theorem dX11_goesOn_155 : decode cX11_goesOn 155 = .ok (.invokevirtual 280, 3) := by decide +kernel
theorem dX11_goesOn_158 : decode cX11_goesOn 158 = .ok (.ifCond .le 6, 3) := by decide +kernel
theorem dX11_goesOn_161 : decode cX11_goesOn 161 = .ok (.goto 108, 3) := by decide +kernel
theorem dX11_goesOn_164 : decode cX11_goesOn 164 = .ok (.aload_n 0, 1) := by decide +kernel
theorem dX11_goesOn_165 : decode cX11_goesOn 165 = .ok (.getfield 72, 3) := by decide +kernel
theorem dX11_goesOn_168 : decode cX11_goesOn 168 = .ok (.iload_n 1, 1) := by decide +kernel
theorem dX11_goesOn_169 : decode cX11_goesOn 169 = .ok (.iload_n 3, 1) := by decide +kernel
theorem dX11_goesOn_170 : decode cX11_goesOn 170 = .ok (.iastore, 1) := by decide +kernel
theorem dX11_goesOn_171 : decode cX11_goesOn 171 = .ok (.iconst 0, 1) := by decide +kernel
theorem dX11_goesOn_172 : decode cX11_goesOn 172 = .ok (.istore 4, 2) := by decide +kernel
theorem dX11_goesOn_174 : decode cX11_goesOn 174 = .ok (.iload 4, 2) := by decide +kernel
theorem dX11_goesOn_176 : decode cX11_goesOn 176 = .ok (.aload_n 0, 1) := by decide +kernel
theorem dX11_goesOn_177 : decode cX11_goesOn 177 = .ok (.getfield 238, 3) := by decide +kernel
theorem dX11_goesOn_180 : decode cX11_goesOn 180 = .ok (.if_icmp .ge 76, 3) := by decide +kernel
theorem dX11_goesOn_183 : decode cX11_goesOn 183 = .ok (.aload_n 0, 1) := by decide +kernel
theorem dX11_goesOn_184 : decode cX11_goesOn 184 = .ok (.getfield 80, 3) := by decide +kernel
theorem dX11_goesOn_187 : decode cX11_goesOn 187 = .ok (.iload_n 1, 1) := by decide +kernel
theorem dX11_goesOn_188 : decode cX11_goesOn 188 = .ok (.iconst 1, 1) := by decide +kernel
theorem dX11_goesOn_189 : decode cX11_goesOn 189 = .ok (.iadd, 1) := by decide +kernel
theorem dX11_goesOn_190 : decode cX11_goesOn 190 = .ok (.aaload, 1) := by decide +kernel
theorem dX11_goesOn_191 : decode cX11_goesOn 191 = .ok (.iload 4, 2) := by decide +kernel
theorem dX11_goesOn_193 : decode cX11_goesOn 193 = .ok (.bipush 10, 2) := by decide +kernel
theorem dX11_goesOn_195 : decode cX11_goesOn 195 = .ok (.aload_n 0, 1) := by decide +kernel
theorem dX11_goesOn_196 : decode cX11_goesOn 196 = .ok (.getfield 44, 3) := by decide +kernel
theorem dX11_goesOn_199 : decode cX11_goesOn 199 = .ok (.iload 4, 2) := by decide +kernel
theorem dX11_goesOn_201 : decode cX11_goesOn 201 = .ok (.iaload, 1) := by decide +kernel
theorem dX11_goesOn_202 : decode cX11_goesOn 202 = .ok (.aload_n 0, 1) := by decide +kernel
theorem dX11_goesOn_203 : decode cX11_goesOn 203 = .ok (.iload 4, 2) := by decide +kernel
theorem dX11_goesOn_205 : decode cX11_goesOn 205 = .ok (.iconst 2, 1) := by decide +kernel
theorem dX11_goesOn_206 : decode cX11_goesOn 206 = .ok (.invokevirtual 241, 3) := by decide +kernel
theorem dX11_goesOn_209 : decode cX11_goesOn 209 = .ok (.iadd, 1) := by decide +kernel
theorem dX11_goesOn_210 : decode cX11_goesOn 210 = .ok (.invokestatic 244, 3) := by decide +kernel
theorem dX11_goesOn_213 : decode cX11_goesOn 213 = .ok (.iastore, 1) := by decide +kernel
theorem dX11_goesOn_214 : decode cX11_goesOn 214 = .ok (.aload_n 0, 1) := by decide +kernel
theorem dX11_goesOn_215 : decode cX11_goesOn 215 = .ok (.getfield 83, 3) := by decide +kernel
theorem dX11_goesOn_218 : decode cX11_goesOn 218 = .ok (.iload_n 1, 1) := by decide +kernel
theorem dX11_goesOn_219 : decode cX11_goesOn 219 = .ok (.iconst 1, 1) := by decide +kernel
theorem dX11_goesOn_220 : decode cX11_goesOn 220 = .ok (.iadd, 1) := by decide +kernel
theorem dX11_goesOn_221 : decode cX11_goesOn 221 = .ok (.aaload, 1) := by decide +kernel
theorem dX11_goesOn_222 : decode cX11_goesOn 222 = .ok (.iload 4, 2) := by decide +kernel
theorem dX11_goesOn_224 : decode cX11_goesOn 224 = .ok (.aload_n 0, 1) := by decide +kernel
theorem dX11_goesOn_225 : decode cX11_goesOn 225 = .ok (.getfield 53, 3) := by decide +kernel
theorem dX11_goesOn_228 : decode cX11_goesOn 228 = .ok (.iload 4, 2) := by decide +kernel
theorem dX11_goesOn_230 : decode cX11_goesOn 230 = .ok (.iaload, 1) := by decide +kernel
theorem dX11_goesOn_231 : decode cX11_goesOn 231 = .ok (.iastore, 1) := by decide +kernel
theorem dX11_goesOn_232 : decode cX11_goesOn 232 = .ok (.aload_n 0, 1) := by decide +kernel
theorem dX11_goesOn_233 : decode cX11_goesOn 233 = .ok (.getfield 86, 3) := by decide +kernel
theorem dX11_goesOn_236 : decode cX11_goesOn 236 = .ok (.iload_n 1, 1) := by decide +kernel
theorem dX11_goesOn_237 : decode cX11_goesOn 237 = .ok (.iconst 1, 1) := by decide +kernel
theorem dX11_goesOn_238 : decode cX11_goesOn 238 = .ok (.iadd, 1) := by decide +kernel
theorem dX11_goesOn_239 : decode cX11_goesOn 239 = .ok (.aaload, 1) := by decide +kernel
theorem dX11_goesOn_240 : decode cX11_goesOn 240 = .ok (.iload 4, 2) := by decide +kernel
theorem dX11_goesOn_242 : decode cX11_goesOn 242 = .ok (.aload_n 0, 1) := by decide +kernel
theorem dX11_goesOn_243 : decode cX11_goesOn 243 = .ok (.getfield 56, 3) := by decide +kernel
theorem dX11_goesOn_246 : decode cX11_goesOn 246 = .ok (.iload 4, 2) := by decide +kernel
theorem dX11_goesOn_248 : decode cX11_goesOn 248 = .ok (.iaload, 1) := by decide +kernel
theorem dX11_goesOn_249 : decode cX11_goesOn 249 = .ok (.iastore, 1) := by decide +kernel
theorem dX11_goesOn_250 : decode cX11_goesOn 250 = .ok (.iinc 4 1, 3) := by decide +kernel
theorem dX11_goesOn_253 : decode cX11_goesOn 253 = .ok (.goto (-79), 3) := by decide +kernel
theorem dX11_goesOn_256 : decode cX11_goesOn 256 = .ok (.aload_n 0, 1) := by decide +kernel
theorem dX11_goesOn_257 : decode cX11_goesOn 257 = .ok (.iload_n 1, 1) := by decide +kernel
theorem dX11_goesOn_258 : decode cX11_goesOn 258 = .ok (.iconst 1, 1) := by decide +kernel
theorem dX11_goesOn_259 : decode cX11_goesOn 259 = .ok (.iadd, 1) := by decide +kernel
theorem dX11_goesOn_260 : decode cX11_goesOn 260 = .ok (.iload_n 2, 1) := by decide +kernel
theorem dX11_goesOn_261 : decode cX11_goesOn 261 = .ok (.iload_n 3, 1) := by decide +kernel
theorem dX11_goesOn_262 : decode cX11_goesOn 262 = .ok (.invokestatic 293, 3) := by decide +kernel
theorem dX11_goesOn_265 : decode cX11_goesOn 265 = .ok (.iadd, 1) := by decide +kernel
theorem dX11_goesOn_266 : decode cX11_goesOn 266 = .ok (.invokevirtual 305, 3) := by decide +kernel
theorem dX11_goesOn_269 : decode cX11_goesOn 269 = .ok (.iinc 3 1, 3) := by decide +kernel
theorem dX11_goesOn_272 : decode cX11_goesOn 272 = .ok (.goto (-214), 3) := by decide +kernel
theorem dX11_goesOn_275 : decode cX11_goesOn 275 = .ok (.return_, 1) := by decide +kernel
theorem dX11_cleanings_0 : decode cX11_cleanings 0 = .ok (.aload_n 0, 1) := by decide +kernel
theorem dX11_cleanings_1 : decode cX11_cleanings 1 = .ok (.getfield 69, 3) := by decide +kernel
theorem dX11_cleanings_4 : decode cX11_cleanings 4 = .ok (.iconst 0, 1) := by decide +kernel
theorem dX11_cleanings_5 : decode cX11_cleanings 5 = .ok (.iload_n 1, 1) := by decide +kernel
theorem dX11_cleanings_6 : decode cX11_cleanings 6 = .ok (.iastore, 1) := by decide +kernel
theorem dX11_cleanings_7 : decode cX11_cleanings 7 = .ok (.aload_n 0, 1) := by decide +kernel
theorem dX11_cleanings_8 : decode cX11_cleanings 8 = .ok (.getfield 69, 3) := by decide +kernel
theorem dX11_cleanings_11 : decode cX11_cleanings 11 = .ok (.iconst 1, 1) := by decide +kernel
theorem dX11_cleanings_12 : decode cX11_cleanings 12 = .ok (.iload_n 2, 1) := by decide +kernel
theorem dX11_cleanings_13 : decode cX11_cleanings 13 = .ok (.iastore, 1) := by decide +kernel
theorem dX11_cleanings_14 : decode cX11_cleanings 14 = .ok (.aload_n 0, 1) := by decide +kernel
theorem dX11_cleanings_15 : decode cX11_cleanings 15 = .ok (.getfield 69, 3) := by decide +kernel
theorem dX11_cleanings_18 : decode cX11_cleanings 18 = .ok (.iconst 2, 1) := by decide +kernel
theorem dX11_cleanings_19 : decode cX11_cleanings 19 = .ok (.iload_n 3, 1) := by decide +kernel
theorem dX11_cleanings_20 : decode cX11_cleanings 20 = .ok (.iastore, 1) := by decide +kernel
theorem dX11_cleanings_21 : decode cX11_cleanings 21 = .ok (.aload_n 0, 1) := by decide +kernel
theorem dX11_cleanings_22 : decode cX11_cleanings 22 = .ok (.getfield 69, 3) := by decide +kernel
theorem dX11_cleanings_25 : decode cX11_cleanings 25 = .ok (.iconst 3, 1) := by decide +kernel
theorem dX11_cleanings_26 : decode cX11_cleanings 26 = .ok (.iload 4, 2) := by decide +kernel
theorem dX11_cleanings_28 : decode cX11_cleanings 28 = .ok (.iastore, 1) := by decide +kernel
theorem dX11_cleanings_29 : decode cX11_cleanings 29 = .ok (.aload_n 0, 1) := by decide +kernel
theorem dX11_cleanings_30 : decode cX11_cleanings 30 = .ok (.iconst 0, 1) := by decide +kernel
theorem dX11_cleanings_31 : decode cX11_cleanings 31 = .ok (.putfield 302, 3) := by decide +kernel
theorem dX11_cleanings_34 : decode cX11_cleanings 34 = .ok (.aload_n 0, 1) := by decide +kernel
theorem dX11_cleanings_35 : decode cX11_cleanings 35 = .ok (.getfield 302, 3) := by decide +kernel
theorem dX11_cleanings_38 : decode cX11_cleanings 38 = .ok (.iconst 4, 1) := by decide +kernel
theorem dX11_cleanings_39 : decode cX11_cleanings 39 = .ok (.if_icmp .ge 47, 3) := by decide +kernel
theorem dX11_cleanings_42 : decode cX11_cleanings 42 = .ok (.aload_n 0, 1) := by decide +kernel
theorem dX11_cleanings_43 : decode cX11_cleanings 43 = .ok (.getfield 69, 3) := by decide +kernel
theorem dX11_cleanings_46 : decode cX11_cleanings 46 = .ok (.aload_n 0, 1) := by decide +kernel
theorem dX11_cleanings_47 : decode cX11_cleanings 47 = .ok (.getfield 302, 3) := by decide +kernel
theorem dX11_cleanings_50 : decode cX11_cleanings 50 = .ok (.iaload, 1) := by decide +kernel
theorem dX11_cleanings_51 : decode cX11_cleanings 51 = .ok (.iconst (-1), 1) := by decide +kernel
theorem dX11_cleanings_52 : decode cX11_cleanings 52 = .ok (.if_icmp .eq 34, 3) := by decide +kernel
theorem dX11_cleanings_55 : decode cX11_cleanings 55 = .ok (.aload_n 0, 1) := by decide +kernel
theorem dX11_cleanings_56 : decode cX11_cleanings 56 = .ok (.aload_n 0, 1) := by decide +kernel
theorem dX11_cleanings_57 : decode cX11_cleanings 57 = .ok (.getfield 69, 3) := by decide +kernel
theorem dX11_cleanings_60 : decode cX11_cleanings 60 = .ok (.aload_n 0, 1) := by decide +kernel
theorem dX11_cleanings_61 : decode cX11_cleanings 61 = .ok (.getfield 302, 3) := by decide +kernel
theorem dX11_cleanings_64 : decode cX11_cleanings 64 = .ok (.iaload, 1) := by decide +kernel
theorem dX11_cleanings_65 : decode cX11_cleanings 65 = .ok (.invokevirtual 105, 3) := by decide +kernel
theorem dX11_cleanings_68 : decode cX11_cleanings 68 = .ok (.ifCond .ne 5, 3) := by decide +kernel
theorem dX11_cleanings_71 : decode cX11_cleanings 71 = .ok (.iconst (-1), 1) := by decide +kernel
theorem dX11_cleanings_72 : decode cX11_cleanings 72 = .ok (.ireturn, 1) := by decide +kernel
theorem dX11_cleanings_73 : decode cX11_cleanings 73 = .ok (.aload_n 0, 1) := by decide +kernel
theorem dX11_cleanings_74 : decode cX11_cleanings 74 = .ok (.dup, 1) := by decide +kernel
theorem dX11_cleanings_75 : decode cX11_cleanings 75 = .ok (.getfield 302, 3) := by decide +kernel
theorem dX11_cleanings_78 : decode cX11_cleanings 78 = .ok (.iconst 1, 1) := by decide +kernel
theorem dX11_cleanings_79 : decode cX11_cleanings 79 = .ok (.iadd, 1) := by decide +kernel
theorem dX11_cleanings_80 : decode cX11_cleanings 80 = .ok (.putfield 302, 3) := by decide +kernel
theorem dX11_cleanings_83 : decode cX11_cleanings 83 = .ok (.goto (-49), 3) := by decide +kernel
theorem dX11_cleanings_86 : decode cX11_cleanings 86 = .ok (.aload_n 0, 1) := by decide +kernel
theorem dX11_cleanings_87 : decode cX11_cleanings 87 = .ok (.getfield 302, 3) := by decide +kernel
theorem dX11_cleanings_90 : decode cX11_cleanings 90 = .ok (.ifCond .eq 35, 3) := by decide +kernel
theorem dX11_cleanings_93 : decode cX11_cleanings 93 = .ok (.aload_n 0, 1) := by decide +kernel
theorem dX11_cleanings_94 : decode cX11_cleanings 94 = .ok (.getfield 7, 3) := by decide +kernel
theorem dX11_cleanings_97 : decode cX11_cleanings 97 = .ok (.iconst 0, 1) := by decide +kernel
theorem dX11_cleanings_98 : decode cX11_cleanings 98 = .ok (.iaload, 1) := by decide +kernel
theorem dX11_cleanings_99 : decode cX11_cleanings 99 = .ok (.iconst 4, 1) := by decide +kernel
theorem dX11_cleanings_100 : decode cX11_cleanings 100 = .ok (.if_icmp .gt 25, 3) := by decide +kernel
theorem dX11_cleanings_103 : decode cX11_cleanings 103 = .ok (.iload 5, 2) := by decide +kernel
theorem dX11_cleanings_105 : decode cX11_cleanings 105 = .ok (.ifCond .eq 22, 3) := by decide +kernel
theorem dX11_cleanings_108 : decode cX11_cleanings 108 = .ok (.iload 5, 2) := by decide +kernel
theorem dX11_cleanings_110 : decode cX11_cleanings 110 = .ok (.bipush 10, 2) := by decide +kernel
theorem dX11_cleanings_112 : decode cX11_cleanings 112 = .ok (.bipush 9, 2) := by decide +kernel
theorem dX11_cleanings_114 : decode cX11_cleanings 114 = .ok (.aload_n 0, 1) := by decide +kernel
theorem dX11_cleanings_115 : decode cX11_cleanings 115 = .ok (.getfield 302, 3) := by decide +kernel
theorem dX11_cleanings_118 : decode cX11_cleanings 118 = .ok (.iadd, 1) := by decide +kernel
theorem dX11_cleanings_119 : decode cX11_cleanings 119 = .ok (.invokestatic 93, 3) := by decide +kernel
theorem dX11_cleanings_122 : decode cX11_cleanings 122 = .ok (.ifCond .ne 5, 3) := by decide +kernel
theorem dX11_cleanings_125 : decode cX11_cleanings 125 = .ok (.iconst (-1), 1) := by decide +kernel
theorem dX11_cleanings_126 : decode cX11_cleanings 126 = .ok (.ireturn, 1) := by decide +kernel
theorem dX11_cleanings_127 : decode cX11_cleanings 127 = .ok (.aload_n 0, 1) := by decide +kernel
theorem dX11_cleanings_128 : decode cX11_cleanings 128 = .ok (.invokevirtual 277, 3) := by decide +kernel
theorem dX11_cleanings_131 : decode cX11_cleanings 131 = .ok (.iconst 0, 1) := by decide +kernel
theorem dX11_cleanings_132 : decode cX11_cleanings 132 = .ok (.istore 6, 2) := by decide +kernel
theorem dX11_cleanings_134 : decode cX11_cleanings 134 = .ok (.iload 6, 2) := by decide +kernel
theorem dX11_cleanings_136 : decode cX11_cleanings 136 = .ok (.aload_n 0, 1) := by decide +kernel
theorem dX11_cleanings_137 : decode cX11_cleanings 137 = .ok (.getfield 238, 3) := by decide +kernel
theorem dX11_cleanings_140 : decode cX11_cleanings 140 = .ok (.if_icmp .ge 57, 3) := by decide +kernel
theorem dX11_cleanings_143 : decode cX11_cleanings 143 = .ok (.aload_n 0, 1) := by decide +kernel
theorem dX11_cleanings_144 : decode cX11_cleanings 144 = .ok (.getfield 80, 3) := by decide +kernel
theorem dX11_cleanings_147 : decode cX11_cleanings 147 = .ok (.iconst 0, 1) := by decide +kernel
theorem dX11_cleanings_148 : decode cX11_cleanings 148 = .ok (.aaload, 1) := by decide +kernel
theorem dX11_cleanings_149 : decode cX11_cleanings 149 = .ok (.iload 6, 2) := by decide +kernel
theorem dX11_cleanings_151 : decode cX11_cleanings 151 = .ok (.aload_n 0, 1) := by decide +kernel
theorem dX11_cleanings_152 : decode cX11_cleanings 152 = .ok (.getfield 44, 3) := by decide +kernel
theorem dX11_cleanings_155 : decode cX11_cleanings 155 = .ok (.iload 6, 2) := by decide +kernel
theorem dX11_cleanings_157 : decode cX11_cleanings 157 = .ok (.iaload, 1) := by decide +kernel
theorem dX11_cleanings_158 : decode cX11_cleanings 158 = .ok (.iastore, 1) := by decide +kernel
theorem dX11_cleanings_159 : decode cX11_cleanings 159 = .ok (.aload_n 0, 1) := by decide +kernel
theorem dX11_cleanings_160 : decode cX11_cleanings 160 = .ok (.getfield 83, 3) := by decide +kernel
theorem dX11_cleanings_163 : decode cX11_cleanings 163 = .ok (.iconst 0, 1) := by decide +kernel
theorem dX11_cleanings_164 : decode cX11_cleanings 164 = .ok (.aaload, 1) := by decide +kernel
theorem dX11_cleanings_165 : decode cX11_cleanings 165 = .ok (.iload 6, 2) := by decide +kernel
theorem dX11_cleanings_167 : decode cX11_cleanings 167 = .ok (.aload_n 0, 1) := by decide +kernel
theorem dX11_cleanings_168 : decode cX11_cleanings 168 = .ok (.getfield 53, 3) := by decide +kernel
theorem dX11_cleanings_171 : decode cX11_cleanings 171 = .ok (.iload 6, 2) := by decide +kernel
theorem dX11_cleanings_173 : decode cX11_cleanings 173 = .ok (.iaload, 1) := by decide +kernel
theorem dX11_cleanings_174 : decode cX11_cleanings 174 = .ok (.iastore, 1) := by decide +kernel
theorem dX11_cleanings_175 : decode cX11_cleanings 175 = .ok (.aload_n 0, 1) := by decide +kernel
theorem dX11_cleanings_176 : decode cX11_cleanings 176 = .ok (.getfield 86, 3) := by decide +kernel
theorem dX11_cleanings_179 : decode cX11_cleanings 179 = .ok (.iconst 0, 1) := by decide +kernel
theorem dX11_cleanings_180 : decode cX11_cleanings 180 = .ok (.aaload, 1) := by decide +kernel
theorem dX11_cleanings_181 : decode cX11_cleanings 181 = .ok (.iload 6, 2) := by decide +kernel
theorem dX11_cleanings_183 : decode cX11_cleanings 183 = .ok (.aload_n 0, 1) := by decide +kernel
theorem dX11_cleanings_184 : decode cX11_cleanings 184 = .ok (.getfield 56, 3) := by decide +kernel
theorem dX11_cleanings_187 : decode cX11_cleanings 187 = .ok (.iload 6, 2) := by decide +kernel
theorem dX11_cleanings_189 : decode cX11_cleanings 189 = .ok (.iaload, 1) := by decide +kernel
theorem dX11_cleanings_190 : decode cX11_cleanings 190 = .ok (.iastore, 1) := by decide +kernel
theorem dX11_cleanings_191 : decode cX11_cleanings 191 = .ok (.iinc 6 1, 3) := by decide +kernel
theorem dX11_cleanings_194 : decode cX11_cleanings 194 = .ok (.goto (-60), 3) := by decide +kernel
theorem dX11_cleanings_197 : decode cX11_cleanings 197 = .ok (.aload_n 0, 1) := by decide +kernel
theorem dX11_cleanings_198 : decode cX11_cleanings 198 = .ok (.iconst (-1), 1) := by decide +kernel
theorem dX11_cleanings_199 : decode cX11_cleanings 199 = .ok (.putfield 299, 3) := by decide +kernel
theorem dX11_cleanings_202 : decode cX11_cleanings 202 = .ok (.aload_n 0, 1) := by decide +kernel
theorem dX11_cleanings_203 : decode cX11_cleanings 203 = .ok (.iconst 0, 1) := by decide +kernel
theorem dX11_cleanings_204 : decode cX11_cleanings 204 = .ok (.iconst 0, 1) := by decide +kernel
theorem dX11_cleanings_205 : decode cX11_cleanings 205 = .ok (.invokevirtual 305, 3) := by decide +kernel
theorem dX11_cleanings_208 : decode cX11_cleanings 208 = .ok (.aload_n 0, 1) := by decide +kernel
theorem dX11_cleanings_209 : decode cX11_cleanings 209 = .ok (.getfield 299, 3) := by decide +kernel
theorem dX11_cleanings_212 : decode cX11_cleanings 212 = .ok (.iconst (-1), 1) := by decide +kernel
theorem dX11_cleanings_213 : decode cX11_cleanings 213 = .ok (.if_icmp .eq 8, 3) := by decide +kernel
theorem dX11_cleanings_216 : decode cX11_cleanings 216 = .ok (.iload 5, 2) := by decide +kernel
theorem dX11_cleanings_218 : decode cX11_cleanings 218 = .ok (.ifCond .ne 10, 3) := by decide +kernel
theorem dX11_cleanings_221 : decode cX11_cleanings 221 = .ok (.aload_n 0, 1) := by decide +kernel
theorem dX11_cleanings_222 : decode cX11_cleanings 222 = .ok (.getfield 299, 3) := by decide +kernel
theorem dX11_cleanings_225 : decode cX11_cleanings 225 = .ok (.goto 13, 3) := by decide +kernel
theorem dX11_cleanings_228 : decode cX11_cleanings 228 = .ok (.aload_n 0, 1) := by decide +kernel
theorem dX11_cleanings_229 : decode cX11_cleanings 229 = .ok (.getfield 75, 3) := by decide +kernel
theorem dX11_cleanings_232 : decode cX11_cleanings 232 = .ok (.iload 5, 2) := by decide +kernel
theorem dX11_cleanings_234 : decode cX11_cleanings 234 = .ok (.bipush 10, 2) := by decide +kernel
theorem dX11_cleanings_236 : decode cX11_cleanings 236 = .ok (.isub, 1) := by decide +kernel
theorem dX11_cleanings_237 : decode cX11_cleanings 237 = .ok (.iaload, 1) := by decide +kernel
theorem dX11_cleanings_238 : decode cX11_cleanings 238 = .ok (.ireturn, 1) := by decide +kernel
theorem dX11_gutters_0 : decode cX11_gutters 0 = .ok (.aload_n 0, 1) := by decide +kernel
theorem dX11_gutters_1 : decode cX11_gutters 1 = .ok (.iload_n 1, 1) := by decide +kernel
theorem dX11_gutters_2 : decode cX11_gutters 2 = .ok (.invokevirtual 105, 3) := by decide +kernel
theorem dX11_gutters_5 : decode cX11_gutters 5 = .ok (.ifCond .eq 25, 3) := by decide +kernel
theorem dX11_gutters_8 : decode cX11_gutters 8 = .ok (.iload_n 2, 1) := by decide +kernel
theorem dX11_gutters_9 : decode cX11_gutters 9 = .ok (.ifCond .eq 23, 3) := by decide +kernel
theorem dX11_gutters_12 : decode cX11_gutters 12 = .ok (.iload_n 2, 1) := by decide +kernel
theorem dX11_gutters_13 : decode cX11_gutters 13 = .ok (.bipush 10, 2) := by decide +kernel
theorem dX11_gutters_15 : decode cX11_gutters 15 = .ok (.bipush 9, 2) := by decide +kernel
theorem dX11_gutters_17 : decode cX11_gutters 17 = .ok (.aload_n 0, 1) := by decide +kernel
theorem dX11_gutters_18 : decode cX11_gutters 18 = .ok (.getfield 7, 3) := by decide +kernel
theorem dX11_gutters_21 : decode cX11_gutters 21 = .ok (.iconst 0, 1) := by decide +kernel
theorem dX11_gutters_22 : decode cX11_gutters 22 = .ok (.iaload, 1) := by decide +kernel
theorem dX11_gutters_23 : decode cX11_gutters 23 = .ok (.iadd, 1) := by decide +kernel
theorem dX11_gutters_24 : decode cX11_gutters 24 = .ok (.invokestatic 93, 3) := by decide +kernel
theorem dX11_gutters_27 : decode cX11_gutters 27 = .ok (.ifCond .ne 5, 3) := by decide +kernel
theorem dX11_gutters_30 : decode cX11_gutters 30 = .ok (.iconst (-1), 1) := by decide +kernel
theorem dX11_gutters_31 : decode cX11_gutters 31 = .ok (.ireturn, 1) := by decide +kernel
theorem dX11_gutters_32 : decode cX11_gutters 32 = .ok (.aload_n 0, 1) := by decide +kernel
theorem dX11_gutters_33 : decode cX11_gutters 33 = .ok (.getfield 7, 3) := by decide +kernel
theorem dX11_gutters_36 : decode cX11_gutters 36 = .ok (.iconst 0, 1) := by decide +kernel
theorem dX11_gutters_37 : decode cX11_gutters 37 = .ok (.iaload, 1) := by decide +kernel
theorem dX11_gutters_38 : decode cX11_gutters 38 = .ok (.istore_n 3, 1) := by decide +kernel
theorem dX11_gutters_39 : decode cX11_gutters 39 = .ok (.iconst 0, 1) := by decide +kernel
theorem dX11_gutters_40 : decode cX11_gutters 40 = .ok (.istore 4, 2) := by decide +kernel
theorem dX11_gutters_42 : decode cX11_gutters 42 = .ok (.iload 4, 2) := by decide +kernel
theorem dX11_gutters_44 : decode cX11_gutters 44 = .ok (.iload_n 3, 1) := by decide +kernel
theorem dX11_gutters_45 : decode cX11_gutters 45 = .ok (.if_icmp .ge 25, 3) := by decide +kernel
theorem dX11_gutters_48 : decode cX11_gutters 48 = .ok (.aload_n 0, 1) := by decide +kernel
theorem dX11_gutters_49 : decode cX11_gutters 49 = .ok (.getfield 89, 3) := by decide +kernel
theorem dX11_gutters_52 : decode cX11_gutters 52 = .ok (.iload 4, 2) := by decide +kernel
theorem dX11_gutters_54 : decode cX11_gutters 54 = .ok (.iconst 0, 1) := by decide +kernel
theorem dX11_gutters_55 : decode cX11_gutters 55 = .ok (.iastore, 1) := by decide +kernel
theorem dX11_gutters_56 : decode cX11_gutters 56 = .ok (.aload_n 0, 1) := by decide +kernel
theorem dX11_gutters_57 : decode cX11_gutters 57 = .ok (.getfield 56, 3) := by decide +kernel
theorem dX11_gutters_60 : decode cX11_gutters 60 = .ok (.iload 4, 2) := by decide +kernel
theorem dX11_gutters_62 : decode cX11_gutters 62 = .ok (.iconst 0, 1) := by decide +kernel
theorem dX11_gutters_63 : decode cX11_gutters 63 = .ok (.iastore, 1) := by decide +kernel
theorem dX11_gutters_64 : decode cX11_gutters 64 = .ok (.iinc 4 1, 3) := by decide +kernel
theorem dX11_gutters_67 : decode cX11_gutters 67 = .ok (.goto (-25), 3) := by decide +kernel
theorem dX11_gutters_70 : decode cX11_gutters 70 = .ok (.iconst 0, 1) := by decide +kernel
theorem dX11_gutters_71 : decode cX11_gutters 71 = .ok (.istore 4, 2) := by decide +kernel
theorem dX11_gutters_73 : decode cX11_gutters 73 = .ok (.iload 4, 2) := by decide +kernel
theorem dX11_gutters_75 : decode cX11_gutters 75 = .ok (.aload_n 0, 1) := by decide +kernel
theorem dX11_gutters_76 : decode cX11_gutters 76 = .ok (.iload_n 1, 1) := by decide +kernel
theorem dX11_gutters_77 : decode cX11_gutters 77 = .ok (.invokevirtual 108, 3) := by decide +kernel
theorem dX11_gutters_80 : decode cX11_gutters 80 = .ok (.if_icmp .ge 210, 3) := by decide +kernel
theorem dX11_gutters_83 : decode cX11_gutters 83 = .ok (.iconst 0, 1) := by decide +kernel
theorem dX11_gutters_84 : decode cX11_gutters 84 = .ok (.istore 5, 2) := by decide +kernel
theorem dX11_gutters_86 : decode cX11_gutters 86 = .ok (.iload 5, 2) := by decide +kernel
theorem dX11_gutters_88 : decode cX11_gutters 88 = .ok (.iload_n 3, 1) := by decide +kernel
theorem dX11_gutters_89 : decode cX11_gutters 89 = .ok (.if_icmp .ge 17, 3) := by decide +kernel
theorem dX11_gutters_92 : decode cX11_gutters 92 = .ok (.aload_n 0, 1) := by decide +kernel
theorem dX11_gutters_93 : decode cX11_gutters 93 = .ok (.getfield 62, 3) := by decide +kernel
theorem dX11_gutters_96 : decode cX11_gutters 96 = .ok (.iload 5, 2) := by decide +kernel
theorem dX11_gutters_98 : decode cX11_gutters 98 = .ok (.iconst 0, 1) := by decide +kernel
theorem dX11_gutters_99 : decode cX11_gutters 99 = .ok (.iastore, 1) := by decide +kernel
theorem dX11_gutters_100 : decode cX11_gutters 100 = .ok (.iinc 5 1, 3) := by decide +kernel
theorem dX11_gutters_103 : decode cX11_gutters 103 = .ok (.goto (-17), 3) := by decide +kernel
theorem dX11_gutters_106 : decode cX11_gutters 106 = .ok (.iconst 0, 1) := by decide +kernel
theorem dX11_gutters_107 : decode cX11_gutters 107 = .ok (.istore 5, 2) := by decide +kernel
theorem dX11_gutters_109 : decode cX11_gutters 109 = .ok (.iload 5, 2) := by decide +kernel
theorem dX11_gutters_111 : decode cX11_gutters 111 = .ok (.iload_n 3, 1) := by decide +kernel
theorem dX11_gutters_112 : decode cX11_gutters 112 = .ok (.if_icmp .ge 172, 3) := by decide +kernel
theorem dX11_gutters_115 : decode cX11_gutters 115 = .ok (.aload_n 0, 1) := by decide +kernel
theorem dX11_gutters_116 : decode cX11_gutters 116 = .ok (.iload_n 1, 1) := by decide +kernel
theorem dX11_gutters_117 : decode cX11_gutters 117 = .ok (.iload 4, 2) := by decide +kernel
theorem dX11_gutters_119 : decode cX11_gutters 119 = .ok (.invokevirtual 256, 3) := by decide +kernel
theorem dX11_gutters_122 : decode cX11_gutters 122 = .ok (.aload_n 0, 1) := by decide +kernel
theorem dX11_gutters_123 : decode cX11_gutters 123 = .ok (.iload 5, 2) := by decide +kernel
theorem dX11_gutters_125 : decode cX11_gutters 125 = .ok (.iconst 0, 1) := by decide +kernel
theorem dX11_gutters_126 : decode cX11_gutters 126 = .ok (.invokevirtual 241, 3) := by decide +kernel
theorem dX11_gutters_129 : decode cX11_gutters 129 = .ok (.imul, 1) := by decide +kernel
theorem dX11_gutters_130 : decode cX11_gutters 130 = .ok (.istore 6, 2) := by decide +kernel
theorem dX11_gutters_132 : decode cX11_gutters 132 = .ok (.aload_n 0, 1) := by decide +kernel
theorem dX11_gutters_133 : decode cX11_gutters 133 = .ok (.iload_n 1, 1) := by decide +kernel
theorem dX11_gutters_134 : decode cX11_gutters 134 = .ok (.iload 4, 2) := by decide +kernel
theorem dX11_gutters_136 : decode cX11_gutters 136 = .ok (.invokevirtual 259, 3) := by decide +kernel
theorem dX11_gutters_139 : decode cX11_gutters 139 = .ok (.ifCond .eq 7, 3) := by decide +kernel
theorem dX11_gutters_142 : decode cX11_gutters 142 = .ok (.iconst 0, 1) := by decide +kernel
theorem dX11_gutters_143 : decode cX11_gutters 143 = .ok (.goto 28, 3) := by decide +kernel
theorem dX11_gutters_146 : decode cX11_gutters 146 = .ok (.aload_n 0, 1) := by decide +kernel
theorem dX11_gutters_147 : decode cX11_gutters 147 = .ok (.getfield 56, 3) := by decide +kernel
theorem dX11_gutters_150 : decode cX11_gutters 150 = .ok (.iload 5, 2) := by decide +kernel
theorem dX11_gutters_152 : decode cX11_gutters 152 = .ok (.iaload, 1) := by decide +kernel
theorem dX11_gutters_153 : decode cX11_gutters 153 = .ok (.aload_n 0, 1) := by decide +kernel
theorem dX11_gutters_154 : decode cX11_gutters 154 = .ok (.getfield 7, 3) := by decide +kernel
theorem dX11_gutters_157 : decode cX11_gutters 157 = .ok (.bipush 6, 2) := by decide +kernel
theorem dX11_gutters_159 : decode cX11_gutters 159 = .ok (.iaload, 1) := by decide +kernel
theorem dX11_gutters_160 : decode cX11_gutters 160 = .ok (.aload_n 0, 1) := by decide +kernel
theorem dX11_gutters_161 : decode cX11_gutters 161 = .ok (.iload 5, 2) := by decide +kernel
theorem dX11_gutters_163 : decode cX11_gutters 163 = .ok (.iconst 0, 1) := by decide +kernel
theorem dX11_gutters_164 : decode cX11_gutters 164 = .ok (.invokevirtual 241, 3) := by decide +kernel
theorem dX11_gutters_167 : decode cX11_gutters 167 = .ok (.imul, 1) := by decide +kernel
theorem dX11_gutters_168 : decode cX11_gutters 168 = .ok (.invokestatic 244, 3) := by decide +kernel
theorem dX11_gutters_171 : decode cX11_gutters 171 = .ok (.istore 7, 2) := by decide +kernel
theorem dX11_gutters_173 : decode cX11_gutters 173 = .ok (.aload_n 0, 1) := by decide +kernel
theorem dX11_gutters_174 : decode cX11_gutters 174 = .ok (.getfield 56, 3) := by decide +kernel
theorem dX11_gutters_177 : decode cX11_gutters 177 = .ok (.iload 5, 2) := by decide +kernel
theorem dX11_gutters_179 : decode cX11_gutters 179 = .ok (.dup2, 1) := by decide +kernel
theorem dX11_gutters_180 : decode cX11_gutters 180 = .ok (.iaload, 1) := by decide +kernel
theorem dX11_gutters_181 : decode cX11_gutters 181 = .ok (.aload_n 0, 1) := by decide +kernel
theorem dX11_gutters_182 : decode cX11_gutters 182 = .ok (.iload_n 1, 1) := by decide +kernel
theorem dX11_gutters_183 : decode cX11_gutters 183 = .ok (.iload 4, 2) := by decide +kernel
theorem dX11_gutters_185 : decode cX11_gutters 185 = .ok (.invokevirtual 259, 3) := by decide +kernel
theorem dX11_gutters_188 : decode cX11_gutters 188 = .ok (.ifCond .eq 8, 3) := by decide +kernel
theorem dX11_gutters_191 : decode cX11_gutters 191 = .ok (.iload 6, 2) := by decide +kernel
theorem dX11_gutters_193 : decode cX11_gutters 193 = .ok (.goto 4, 3) := by decide +kernel
theorem dX11_gutters_196 : decode cX11_gutters 196 = .ok (.iconst 0, 1) := by decide +kernel
theorem dX11_gutters_197 : decode cX11_gutters 197 = .ok (.iload 7, 2) := by decide +kernel
theorem dX11_gutters_199 : decode cX11_gutters 199 = .ok (.isub, 1) := by decide +kernel
theorem dX11_gutters_200 : decode cX11_gutters 200 = .ok (.iadd, 1) := by decide +kernel
theorem dX11_gutters_201 : decode cX11_gutters 201 = .ok (.iastore, 1) := by decide +kernel
theorem dX11_gutters_202 : decode cX11_gutters 202 = .ok (.aload_n 0, 1) := by decide +kernel
theorem dX11_gutters_203 : decode cX11_gutters 203 = .ok (.getfield 62, 3) := by decide +kernel
theorem dX11_gutters_206 : decode cX11_gutters 206 = .ok (.iload 5, 2) := by decide +kernel
theorem dX11_gutters_208 : decode cX11_gutters 208 = .ok (.iaload, 1) := by decide +kernel
theorem dX11_gutters_209 : decode cX11_gutters 209 = .ok (.iload 7, 2) := by decide +kernel
theorem dX11_gutters_211 : decode cX11_gutters 211 = .ok (.iadd, 1) := by decide +kernel
theorem dX11_gutters_212 : decode cX11_gutters 212 = .ok (.aload_n 0, 1) := by decide +kernel
theorem dX11_gutters_213 : decode cX11_gutters 213 = .ok (.iload_n 1, 1) := by decide +kernel
theorem dX11_gutters_214 : decode cX11_gutters 214 = .ok (.iload 4, 2) := by decide +kernel
theorem dX11_gutters_216 : decode cX11_gutters 216 = .ok (.invokevirtual 259, 3) := by decide +kernel
theorem dX11_gutters_219 : decode cX11_gutters 219 = .ok (.ifCond .eq 7, 3) := by decide +kernel
theorem dX11_gutters_222 : decode cX11_gutters 222 = .ok (.iconst 0, 1) := by decide +kernel
theorem dX11_gutters_223 : decode cX11_gutters 223 = .ok (.goto 5, 3) := by decide +kernel
theorem dX11_gutters_226 : decode cX11_gutters 226 = .ok (.iload 6, 2) := by decide +kernel
theorem dX11_gutters_228 : decode cX11_gutters 228 = .ok (.iadd, 1) := by decide +kernel
theorem dX11_gutters_229 : decode cX11_gutters 229 = .ok (.istore 8, 2) := by decide +kernel
theorem dX11_gutters_231 : decode cX11_gutters 231 = .ok (.aload_n 0, 1) := by decide +kernel
theorem dX11_gutters_232 : decode cX11_gutters 232 = .ok (.getfield 89, 3) := by decide +kernel
theorem dX11_gutters_235 : decode cX11_gutters 235 = .ok (.iload 5, 2) := by decide +kernel
theorem dX11_gutters_237 : decode cX11_gutters 237 = .ok (.aload_n 0, 1) := by decide +kernel
theorem dX11_gutters_238 : decode cX11_gutters 238 = .ok (.getfield 89, 3) := by decide +kernel
theorem dX11_gutters_241 : decode cX11_gutters 241 = .ok (.iload 5, 2) := by decide +kernel
theorem dX11_gutters_243 : decode cX11_gutters 243 = .ok (.iaload, 1) := by decide +kernel
theorem dX11_gutters_244 : decode cX11_gutters 244 = .ok (.iload 8, 2) := by decide +kernel
theorem dX11_gutters_246 : decode cX11_gutters 246 = .ok (.invokestatic 247, 3) := by decide +kernel
theorem dX11_gutters_249 : decode cX11_gutters 249 = .ok (.iastore, 1) := by decide +kernel
theorem dX11_gutters_250 : decode cX11_gutters 250 = .ok (.aload_n 0, 1) := by decide +kernel
theorem dX11_gutters_251 : decode cX11_gutters 251 = .ok (.iload 5, 2) := by decide +kernel
theorem dX11_gutters_253 : decode cX11_gutters 253 = .ok (.iconst 4, 1) := by decide +kernel
theorem dX11_gutters_254 : decode cX11_gutters 254 = .ok (.invokevirtual 241, 3) := by decide +kernel
theorem dX11_gutters_257 : decode cX11_gutters 257 = .ok (.iconst (-1), 1) := by decide +kernel
theorem dX11_gutters_258 : decode cX11_gutters 258 = .ok (.if_icmp .eq 20, 3) := by decide +kernel
theorem dX11_gutters_261 : decode cX11_gutters 261 = .ok (.aload_n 0, 1) := by decide +kernel
theorem dX11_gutters_262 : decode cX11_gutters 262 = .ok (.getfield 62, 3) := by decide +kernel
theorem dX11_gutters_265 : decode cX11_gutters 265 = .ok (.aload_n 0, 1) := by decide +kernel
theorem dX11_gutters_266 : decode cX11_gutters 266 = .ok (.iload 5, 2) := by decide +kernel
theorem dX11_gutters_268 : decode cX11_gutters 268 = .ok (.iconst 4, 1) := by decide +kernel
theorem dX11_gutters_269 : decode cX11_gutters 269 = .ok (.invokevirtual 241, 3) := by decide +kernel
theorem dX11_gutters_272 : decode cX11_gutters 272 = .ok (.dup2, 1) := by decide +kernel
theorem dX11_gutters_273 : decode cX11_gutters 273 = .ok (.iaload, 1) := by decide +kernel
theorem dX11_gutters_274 : decode cX11_gutters 274 = .ok (.iload 8, 2) := by decide +kernel
theorem dX11_gutters_276 : decode cX11_gutters 276 = .ok (.iadd, 1) := by decide +kernel
theorem dX11_gutters_277 : decode cX11_gutters 277 = .ok (.iastore, 1) := by decide +kernel
theorem dX11_gutters_278 : decode cX11_gutters 278 = .ok (.iinc 5 1, 3) := by decide +kernel
theorem dX11_gutters_281 : decode cX11_gutters 281 = .ok (.goto (-172), 3) := by decide +kernel
theorem dX11_gutters_284 : decode cX11_gutters 284 = .ok (.iinc 4 1, 3) := by decide +kernel
theorem dX11_gutters_287 : decode cX11_gutters 287 = .ok (.goto (-214), 3) := by decide +kernel
theorem dX11_gutters_290 : decode cX11_gutters 290 = .ok (.iload_n 2, 1) := by decide +kernel
theorem dX11_gutters_291 : decode cX11_gutters 291 = .ok (.ifCond .le 13, 3) := by decide +kernel
theorem dX11_gutters_294 : decode cX11_gutters 294 = .ok (.aload_n 0, 1) := by decide +kernel
theorem dX11_gutters_295 : decode cX11_gutters 295 = .ok (.getfield 89, 3) := by decide +kernel
theorem dX11_gutters_298 : decode cX11_gutters 298 = .ok (.iload_n 2, 1) := by decide +kernel
theorem dX11_gutters_299 : decode cX11_gutters 299 = .ok (.bipush 10, 2) := by decide +kernel
theorem dX11_gutters_301 : decode cX11_gutters 301 = .ok (.isub, 1) := by decide +kernel
theorem dX11_gutters_302 : decode cX11_gutters 302 = .ok (.iaload, 1) := by decide +kernel
theorem dX11_gutters_303 : decode cX11_gutters 303 = .ok (.ireturn, 1) := by decide +kernel
theorem dX11_gutters_304 : decode cX11_gutters 304 = .ok (.iconst 0, 1) := by decide +kernel
theorem dX11_gutters_305 : decode cX11_gutters 305 = .ok (.istore 4, 2) := by decide +kernel
theorem dX11_gutters_307 : decode cX11_gutters 307 = .ok (.iconst 0, 1) := by decide +kernel
theorem dX11_gutters_308 : decode cX11_gutters 308 = .ok (.istore 5, 2) := by decide +kernel
theorem dX11_gutters_310 : decode cX11_gutters 310 = .ok (.iload 5, 2) := by decide +kernel
theorem dX11_gutters_312 : decode cX11_gutters 312 = .ok (.iload_n 3, 1) := by decide +kernel
theorem dX11_gutters_313 : decode cX11_gutters 313 = .ok (.if_icmp .ge 41, 3) := by decide +kernel
theorem dX11_gutters_316 : decode cX11_gutters 316 = .ok (.iload 4, 2) := by decide +kernel
theorem dX11_gutters_318 : decode cX11_gutters 318 = .ok (.iconst 0, 1) := by decide +kernel
theorem dX11_gutters_319 : decode cX11_gutters 319 = .ok (.aload_n 0, 1) := by decide +kernel
theorem dX11_gutters_320 : decode cX11_gutters 320 = .ok (.getfield 89, 3) := by decide +kernel
theorem dX11_gutters_323 : decode cX11_gutters 323 = .ok (.iload 5, 2) := by decide +kernel
theorem dX11_gutters_325 : decode cX11_gutters 325 = .ok (.iaload, 1) := by decide +kernel
theorem dX11_gutters_326 : decode cX11_gutters 326 = .ok (.aload_n 0, 1) := by decide +kernel
theorem dX11_gutters_327 : decode cX11_gutters 327 = .ok (.iload 5, 2) := by decide +kernel
theorem dX11_gutters_329 : decode cX11_gutters 329 = .ok (.iconst 1, 1) := by decide +kernel
theorem dX11_gutters_330 : decode cX11_gutters 330 = .ok (.invokevirtual 241, 3) := by decide +kernel
theorem dX11_gutters_333 : decode cX11_gutters 333 = .ok (.isub, 1) := by decide +kernel
theorem dX11_gutters_334 : decode cX11_gutters 334 = .ok (.invokestatic 247, 3) := by decide +kernel
theorem dX11_gutters_337 : decode cX11_gutters 337 = .ok (.aload_n 0, 1) := by decide +kernel
theorem dX11_gutters_338 : decode cX11_gutters 338 = .ok (.iload 5, 2) := by decide +kernel
theorem dX11_gutters_340 : decode cX11_gutters 340 = .ok (.iconst 3, 1) := by decide +kernel
theorem dX11_gutters_341 : decode cX11_gutters 341 = .ok (.invokevirtual 241, 3) := by decide +kernel
theorem dX11_gutters_344 : decode cX11_gutters 344 = .ok (.imul, 1) := by decide +kernel
theorem dX11_gutters_345 : decode cX11_gutters 345 = .ok (.iadd, 1) := by decide +kernel
theorem dX11_gutters_346 : decode cX11_gutters 346 = .ok (.istore 4, 2) := by decide +kernel
theorem dX11_gutters_348 : decode cX11_gutters 348 = .ok (.iinc 5 1, 3) := by decide +kernel
theorem dX11_gutters_351 : decode cX11_gutters 351 = .ok (.goto (-41), 3) := by decide +kernel
theorem dX11_gutters_354 : decode cX11_gutters 354 = .ok (.iload 4, 2) := by decide +kernel
theorem dX11_gutters_356 : decode cX11_gutters 356 = .ok (.ireturn, 1) := by decide +kernel
theorem dX11_stains_0 : decode cX11_stains 0 = .ok (.aload_n 0, 1) := by decide +kernel
theorem dX11_stains_1 : decode cX11_stains 1 = .ok (.getfield 7, 3) := by decide +kernel
theorem dX11_stains_4 : decode cX11_stains 4 = .ok (.iconst 0, 1) := by decide +kernel
theorem dX11_stains_5 : decode cX11_stains 5 = .ok (.iaload, 1) := by decide +kernel
theorem dX11_stains_6 : decode cX11_stains 6 = .ok (.istore_n 3, 1) := by decide +kernel
theorem dX11_stains_7 : decode cX11_stains 7 = .ok (.iload_n 3, 1) := by decide +kernel
theorem dX11_stains_8 : decode cX11_stains 8 = .ok (.bipush 8, 2) := by decide +kernel
theorem dX11_stains_10 : decode cX11_stains 10 = .ok (.if_icmp .gt 25, 3) := by decide +kernel
theorem dX11_stains_13 : decode cX11_stains 13 = .ok (.iload_n 1, 1) := by decide +kernel
theorem dX11_stains_14 : decode cX11_stains 14 = .ok (.iconst 0, 1) := by decide +kernel
theorem dX11_stains_15 : decode cX11_stains 15 = .ok (.iconst 1, 1) := by decide +kernel
theorem dX11_stains_16 : decode cX11_stains 16 = .ok (.iload_n 3, 1) := by decide +kernel
theorem dX11_stains_17 : decode cX11_stains 17 = .ok (.ishl, 1) := by decide +kernel
theorem dX11_stains_18 : decode cX11_stains 18 = .ok (.iconst 1, 1) := by decide +kernel
theorem dX11_stains_19 : decode cX11_stains 19 = .ok (.isub, 1) := by decide +kernel
theorem dX11_stains_20 : decode cX11_stains 20 = .ok (.invokestatic 93, 3) := by decide +kernel
theorem dX11_stains_23 : decode cX11_stains 23 = .ok (.ifCond .eq 12, 3) := by decide +kernel
theorem dX11_stains_26 : decode cX11_stains 26 = .ok (.iload_n 2, 1) := by decide +kernel
theorem dX11_stains_27 : decode cX11_stains 27 = .ok (.iconst 0, 1) := by decide +kernel
theorem dX11_stains_28 : decode cX11_stains 28 = .ok (.iconst 3, 1) := by decide +kernel
theorem dX11_stains_29 : decode cX11_stains 29 = .ok (.invokestatic 93, 3) := by decide +kernel
theorem dX11_stains_32 : decode cX11_stains 32 = .ok (.ifCond .ne 6, 3) := by decide +kernel
theorem dX11_stains_35 : decode cX11_stains 35 = .ok (.bipush (-2), 2) := by decide +kernel
theorem dX11_stains_37 : decode cX11_stains 37 = .ok (.ireturn, 1) := by decide +kernel
theorem dX11_stains_38 : decode cX11_stains 38 = .ok (.iconst 0, 1) := by decide +kernel
theorem dX11_stains_39 : decode cX11_stains 39 = .ok (.istore 4, 2) := by decide +kernel
theorem dX11_stains_41 : decode cX11_stains 41 = .ok (.iconst (-1), 1) := by decide +kernel
theorem dX11_stains_42 : decode cX11_stains 42 = .ok (.istore 5, 2) := by decide +kernel
theorem dX11_stains_44 : decode cX11_stains 44 = .ok (.iconst (-1), 1) := by decide +kernel
theorem dX11_stains_45 : decode cX11_stains 45 = .ok (.istore 6, 2) := by decide +kernel
theorem dX11_stains_47 : decode cX11_stains 47 = .ok (.iconst 0, 1) := by decide +kernel
theorem dX11_stains_48 : decode cX11_stains 48 = .ok (.istore 7, 2) := by decide +kernel
theorem dX11_stains_50 : decode cX11_stains 50 = .ok (.iconst 0, 1) := by decide +kernel
theorem dX11_stains_51 : decode cX11_stains 51 = .ok (.istore 8, 2) := by decide +kernel
theorem dX11_stains_53 : decode cX11_stains 53 = .ok (.iload 8, 2) := by decide +kernel
theorem dX11_stains_55 : decode cX11_stains 55 = .ok (.aload_n 0, 1) := by decide +kernel
theorem dX11_stains_56 : decode cX11_stains 56 = .ok (.getfield 7, 3) := by decide +kernel
theorem dX11_stains_59 : decode cX11_stains 59 = .ok (.iconst 1, 1) := by decide +kernel
theorem dX11_stains_60 : decode cX11_stains 60 = .ok (.iaload, 1) := by decide +kernel
theorem dX11_stains_61 : decode cX11_stains 61 = .ok (.if_icmp .ge 190, 3) := by decide +kernel
theorem dX11_stains_64 : decode cX11_stains 64 = .ok (.iconst 0, 1) := by decide +kernel
theorem dX11_stains_65 : decode cX11_stains 65 = .ok (.istore 9, 2) := by decide +kernel
theorem dX11_stains_67 : decode cX11_stains 67 = .ok (.iload 9, 2) := by decide +kernel
theorem dX11_stains_69 : decode cX11_stains 69 = .ok (.iconst 1, 1) := by decide +kernel
theorem dX11_stains_70 : decode cX11_stains 70 = .ok (.iload_n 3, 1) := by decide +kernel
theorem dX11_stains_71 : decode cX11_stains 71 = .ok (.ishl, 1) := by decide +kernel
theorem dX11_stains_72 : decode cX11_stains 72 = .ok (.if_icmp .ge 173, 3) := by decide +kernel
theorem dX11_stains_75 : decode cX11_stains 75 = .ok (.aload_n 0, 1) := by decide +kernel
theorem dX11_stains_76 : decode cX11_stains 76 = .ok (.invokevirtual 277, 3) := by decide +kernel
theorem dX11_stains_79 : decode cX11_stains 79 = .ok (.iconst 0, 1) := by decide +kernel
theorem dX11_stains_80 : decode cX11_stains 80 = .ok (.istore 10, 2) := by decide +kernel
theorem dX11_stains_82 : decode cX11_stains 82 = .ok (.iload 10, 2) := by decide +kernel
theorem dX11_stains_84 : decode cX11_stains 84 = .ok (.iload_n 3, 1) := by decide +kernel
theorem dX11_stains_85 : decode cX11_stains 85 = .ok (.if_icmp .ge 49, 3) := by decide +kernel
theorem dX11_stains_88 : decode cX11_stains 88 = .ok (.aload_n 0, 1) := by decide +kernel
theorem dX11_stains_89 : decode cX11_stains 89 = .ok (.getfield 44, 3) := by decide +kernel
theorem dX11_stains_92 : decode cX11_stains 92 = .ok (.iload 10, 2) := by decide +kernel
theorem dX11_stains_94 : decode cX11_stains 94 = .ok (.iload 9, 2) := by decide +kernel
theorem dX11_stains_96 : decode cX11_stains 96 = .ok (.iload 10, 2) := by decide +kernel
theorem dX11_stains_98 : decode cX11_stains 98 = .ok (.ishr, 1) := by decide +kernel
theorem dX11_stains_99 : decode cX11_stains 99 = .ok (.iconst 1, 1) := by decide +kernel
theorem dX11_stains_100 : decode cX11_stains 100 = .ok (.iand, 1) := by decide +kernel
theorem dX11_stains_101 : decode cX11_stains 101 = .ok (.iconst 1, 1) := by decide +kernel
theorem dX11_stains_102 : decode cX11_stains 102 = .ok (.if_icmp .ne 8, 3) := by decide +kernel
theorem dX11_stains_105 : decode cX11_stains 105 = .ok (.bipush 10, 2) := by decide +kernel
theorem dX11_stains_107 : decode cX11_stains 107 = .ok (.goto 4, 3) := by decide +kernel
theorem dX11_stains_110 : decode cX11_stains 110 = .ok (.iconst 0, 1) := by decide +kernel
theorem dX11_stains_111 : decode cX11_stains 111 = .ok (.iastore, 1) := by decide +kernel
theorem dX11_stains_112 : decode cX11_stains 112 = .ok (.aload_n 0, 1) := by decide +kernel
theorem dX11_stains_113 : decode cX11_stains 113 = .ok (.getfield 53, 3) := by decide +kernel
theorem dX11_stains_116 : decode cX11_stains 116 = .ok (.iload 10, 2) := by decide +kernel
theorem dX11_stains_118 : decode cX11_stains 118 = .ok (.iconst 0, 1) := by decide +kernel
theorem dX11_stains_119 : decode cX11_stains 119 = .ok (.iastore, 1) := by decide +kernel
theorem dX11_stains_120 : decode cX11_stains 120 = .ok (.aload_n 0, 1) := by decide +kernel
theorem dX11_stains_121 : decode cX11_stains 121 = .ok (.getfield 56, 3) := by decide +kernel
theorem dX11_stains_124 : decode cX11_stains 124 = .ok (.iload 10, 2) := by decide +kernel
theorem dX11_stains_126 : decode cX11_stains 126 = .ok (.iconst 0, 1) := by decide +kernel
theorem dX11_stains_127 : decode cX11_stains 127 = .ok (.iastore, 1) := by decide +kernel
theorem dX11_stains_128 : decode cX11_stains 128 = .ok (.iinc 10 1, 3) := by decide +kernel
theorem dX11_stains_131 : decode cX11_stains 131 = .ok (.goto (-49), 3) := by decide +kernel
theorem dX11_stains_134 : decode cX11_stains 134 = .ok (.aload_n 0, 1) := by decide +kernel
theorem dX11_stains_135 : decode cX11_stains 135 = .ok (.iload 8, 2) := by decide +kernel
theorem dX11_stains_137 : decode cX11_stains 137 = .ok (.invokevirtual 280, 3) := by decide +kernel
theorem dX11_stains_140 : decode cX11_stains 140 = .ok (.pop, 1) := by decide +kernel
theorem dX11_stains_141 : decode cX11_stains 141 = .ok (.iconst 0, 1) := by decide +kernel
theorem dX11_stains_142 : decode cX11_stains 142 = .ok (.istore 10, 2) := by decide +kernel
theorem dX11_stains_144 : decode cX11_stains 144 = .ok (.iconst 0, 1) := by decide +kernel
theorem dX11_stains_145 : decode cX11_stains 145 = .ok (.istore 11, 2) := by decide +kernel
theorem dX11_stains_147 : decode cX11_stains 147 = .ok (.iload 11, 2) := by decide +kernel
theorem dX11_stains_149 : decode cX11_stains 149 = .ok (.iload_n 3, 1) := by decide +kernel
theorem dX11_stains_150 : decode cX11_stains 150 = .ok (.if_icmp .ge 32, 3) := by decide +kernel
theorem dX11_stains_153 : decode cX11_stains 153 = .ok (.iload 10, 2) := by decide +kernel
theorem dX11_stains_155 : decode cX11_stains 155 = .ok (.aload_n 0, 1) := by decide +kernel
theorem dX11_stains_156 : decode cX11_stains 156 = .ok (.getfield 59, 3) := by decide +kernel
theorem dX11_stains_159 : decode cX11_stains 159 = .ok (.iload 11, 2) := by decide +kernel
theorem dX11_stains_161 : decode cX11_stains 161 = .ok (.iaload, 1) := by decide +kernel
theorem dX11_stains_162 : decode cX11_stains 162 = .ok (.ifCond .le 10, 3) := by decide +kernel
theorem dX11_stains_165 : decode cX11_stains 165 = .ok (.iconst 1, 1) := by decide +kernel
theorem dX11_stains_166 : decode cX11_stains 166 = .ok (.iload 11, 2) := by decide +kernel
theorem dX11_stains_168 : decode cX11_stains 168 = .ok (.ishl, 1) := by decide +kernel
theorem dX11_stains_169 : decode cX11_stains 169 = .ok (.goto 4, 3) := by decide +kernel
theorem dX11_stains_172 : decode cX11_stains 172 = .ok (.iconst 0, 1) := by decide +kernel
theorem dX11_stains_173 : decode cX11_stains 173 = .ok (.ior, 1) := by decide +kernel
theorem dX11_stains_174 : decode cX11_stains 174 = .ok (.istore 10, 2) := by decide +kernel
theorem dX11_stains_176 : decode cX11_stains 176 = .ok (.iinc 11 1, 3) := by decide +kernel
theorem dX11_stains_179 : decode cX11_stains 179 = .ok (.goto (-32), 3) := by decide +kernel
theorem dX11_stains_182 : decode cX11_stains 182 = .ok (.iload 10, 2) := by decide +kernel
theorem dX11_stains_184 : decode cX11_stains 184 = .ok (.iload_n 1, 1) := by decide +kernel
theorem dX11_stains_185 : decode cX11_stains 185 = .ok (.if_icmp .eq 6, 3) := by decide +kernel
theorem dX11_stains_188 : decode cX11_stains 188 = .ok (.goto 51, 3) := by decide +kernel
theorem dX11_stains_191 : decode cX11_stains 191 = .ok (.iload 4, 2) := by decide +kernel
theorem dX11_stains_193 : decode cX11_stains 193 = .ok (.ifCond .ne 8, 3) := by decide +kernel
theorem dX11_stains_196 : decode cX11_stains 196 = .ok (.iload 9, 2) := by decide +kernel
theorem dX11_stains_198 : decode cX11_stains 198 = .ok (.goto 8, 3) := by decide +kernel
theorem dX11_stains_201 : decode cX11_stains 201 = .ok (.iload 7, 2) := by decide +kernel
theorem dX11_stains_203 : decode cX11_stains 203 = .ok (.iload 9, 2) := by decide +kernel
theorem dX11_stains_205 : decode cX11_stains 205 = .ok (.iand, 1) := by decide +kernel
theorem dX11_stains_206 : decode cX11_stains 206 = .ok (.istore 7, 2) := by decide +kernel
theorem dX11_stains_208 : decode cX11_stains 208 = .ok (.iload 4, 2) := by decide +kernel
theorem dX11_stains_210 : decode cX11_stains 210 = .ok (.ifCond .ne 8, 3) := by decide +kernel
theorem dX11_stains_213 : decode cX11_stains 213 = .ok (.iload 8, 2) := by decide +kernel
theorem dX11_stains_215 : decode cX11_stains 215 = .ok (.goto 5, 3) := by decide +kernel
theorem dX11_stains_218 : decode cX11_stains 218 = .ok (.iload 5, 2) := by decide +kernel
theorem dX11_stains_220 : decode cX11_stains 220 = .ok (.istore 5, 2) := by decide +kernel
theorem dX11_stains_222 : decode cX11_stains 222 = .ok (.iload 4, 2) := by decide +kernel
theorem dX11_stains_224 : decode cX11_stains 224 = .ok (.ifCond .ne 8, 3) := by decide +kernel
theorem dX11_stains_227 : decode cX11_stains 227 = .ok (.iload 9, 2) := by decide +kernel
theorem dX11_stains_229 : decode cX11_stains 229 = .ok (.goto 5, 3) := by decide +kernel
theorem dX11_stains_232 : decode cX11_stains 232 = .ok (.iload 6, 2) := by decide +kernel
theorem dX11_stains_234 : decode cX11_stains 234 = .ok (.istore 6, 2) := by decide +kernel
theorem dX11_stains_236 : decode cX11_stains 236 = .ok (.iinc 4 1, 3) := by decide +kernel
theorem dX11_stains_239 : decode cX11_stains 239 = .ok (.iinc 9 1, 3) := by decide +kernel
theorem dX11_stains_242 : decode cX11_stains 242 = .ok (.goto (-175), 3) := by decide +kernel
theorem dX11_stains_245 : decode cX11_stains 245 = .ok (.iinc 8 1, 3) := by decide +kernel
theorem dX11_stains_248 : decode cX11_stains 248 = .ok (.goto (-195), 3) := by decide +kernel
theorem dX11_stains_251 : decode cX11_stains 251 = .ok (.iload_n 2, 1) := by decide +kernel
theorem dX11_stains_252 : decode cX11_stains 252 = .ok (.ifCond .ne 8, 3) := by decide +kernel
theorem dX11_stains_255 : decode cX11_stains 255 = .ok (.iload 4, 2) := by decide +kernel
theorem dX11_stains_257 : decode cX11_stains 257 = .ok (.goto 25, 3) := by decide +kernel
theorem dX11_stains_260 : decode cX11_stains 260 = .ok (.iload_n 2, 1) := by decide +kernel
theorem dX11_stains_261 : decode cX11_stains 261 = .ok (.iconst 1, 1) := by decide +kernel
theorem dX11_stains_262 : decode cX11_stains 262 = .ok (.if_icmp .ne 8, 3) := by decide +kernel
theorem dX11_stains_265 : decode cX11_stains 265 = .ok (.iload 5, 2) := by decide +kernel
theorem dX11_stains_267 : decode cX11_stains 267 = .ok (.goto 15, 3) := by decide +kernel
theorem dX11_stains_270 : decode cX11_stains 270 = .ok (.iload_n 2, 1) := by decide +kernel
theorem dX11_stains_271 : decode cX11_stains 271 = .ok (.iconst 2, 1) := by decide +kernel
theorem dX11_stains_272 : decode cX11_stains 272 = .ok (.if_icmp .ne 8, 3) := by decide +kernel
theorem dX11_stains_275 : decode cX11_stains 275 = .ok (.iload 6, 2) := by decide +kernel
theorem dX11_stains_277 : decode cX11_stains 277 = .ok (.goto 5, 3) := by decide +kernel
theorem dX11_stains_280 : decode cX11_stains 280 = .ok (.iload 7, 2) := by decide +kernel
theorem dX11_stains_282 : decode cX11_stains 282 = .ok (.ireturn, 1) := by decide +kernel
theorem dX11_drain_0 : decode cX11_drain 0 = .ok (.aload_n 0, 1) := by decide +kernel
theorem dX11_drain_1 : decode cX11_drain 1 = .ok (.iload_n 1, 1) := by decide +kernel
theorem dX11_drain_2 : decode cX11_drain 2 = .ok (.invokevirtual 105, 3) := by decide +kernel
theorem dX11_drain_5 : decode cX11_drain 5 = .ok (.ifCond .ne 5, 3) := by decide +kernel
theorem dX11_drain_8 : decode cX11_drain 8 = .ok (.iconst (-1), 1) := by decide +kernel
theorem dX11_drain_9 : decode cX11_drain 9 = .ok (.ireturn, 1) := by decide +kernel
theorem dX11_drain_10 : decode cX11_drain 10 = .ok (.aload_n 0, 1) := by decide +kernel
theorem dX11_drain_11 : decode cX11_drain 11 = .ok (.invokevirtual 277, 3) := by decide +kernel
theorem dX11_drain_14 : decode cX11_drain 14 = .ok (.iconst (-1), 1) := by decide +kernel
theorem dX11_drain_15 : decode cX11_drain 15 = .ok (.istore_n 2, 1) := by decide +kernel
theorem dX11_drain_16 : decode cX11_drain 16 = .ok (.aload_n 0, 1) := by decide +kernel
theorem dX11_drain_17 : decode cX11_drain 17 = .ok (.iload_n 1, 1) := by decide +kernel
theorem dX11_drain_18 : decode cX11_drain 18 = .ok (.invokevirtual 280, 3) := by decide +kernel
theorem dX11_drain_21 : decode cX11_drain 21 = .ok (.istore_n 3, 1) := by decide +kernel
theorem dX11_drain_22 : decode cX11_drain 22 = .ok (.iconst 0, 1) := by decide +kernel
theorem dX11_drain_23 : decode cX11_drain 23 = .ok (.istore 4, 2) := by decide +kernel
theorem dX11_drain_25 : decode cX11_drain 25 = .ok (.iload 4, 2) := by decide +kernel
theorem dX11_drain_27 : decode cX11_drain 27 = .ok (.aload_n 0, 1) := by decide +kernel
theorem dX11_drain_28 : decode cX11_drain 28 = .ok (.getfield 7, 3) := by decide +kernel
theorem dX11_drain_31 : decode cX11_drain 31 = .ok (.iconst 0, 1) := by decide +kernel
theorem dX11_drain_32 : decode cX11_drain 32 = .ok (.iaload, 1) := by decide +kernel
theorem dX11_drain_33 : decode cX11_drain 33 = .ok (.if_icmp .ge 57, 3) := by decide +kernel
theorem dX11_drain_36 : decode cX11_drain 36 = .ok (.aload_n 0, 1) := by decide +kernel
theorem dX11_drain_37 : decode cX11_drain 37 = .ok (.iload 4, 2) := by decide +kernel
theorem dX11_drain_39 : decode cX11_drain 39 = .ok (.iconst 4, 1) := by decide +kernel
theorem dX11_drain_40 : decode cX11_drain 40 = .ok (.invokevirtual 241, 3) := by decide +kernel
theorem dX11_drain_43 : decode cX11_drain 43 = .ok (.iconst (-1), 1) := by decide +kernel
theorem dX11_drain_44 : decode cX11_drain 44 = .ok (.if_icmp .ne 6, 3) := by decide +kernel
theorem dX11_drain_47 : decode cX11_drain 47 = .ok (.goto 37, 3) := by decide +kernel
theorem dX11_drain_50 : decode cX11_drain 50 = .ok (.aload_n 0, 1) := by decide +kernel
theorem dX11_drain_51 : decode cX11_drain 51 = .ok (.invokevirtual 277, 3) := by decide +kernel
theorem dX11_drain_54 : decode cX11_drain 54 = .ok (.aload_n 0, 1) := by decide +kernel
theorem dX11_drain_55 : decode cX11_drain 55 = .ok (.getfield 41, 3) := by decide +kernel
theorem dX11_drain_58 : decode cX11_drain 58 = .ok (.iload 4, 2) := by decide +kernel
theorem dX11_drain_60 : decode cX11_drain 60 = .ok (.iconst (-1), 1) := by decide +kernel
theorem dX11_drain_61 : decode cX11_drain 61 = .ok (.iastore, 1) := by decide +kernel
theorem dX11_drain_62 : decode cX11_drain 62 = .ok (.aload_n 0, 1) := by decide +kernel
theorem dX11_drain_63 : decode cX11_drain 63 = .ok (.iload_n 1, 1) := by decide +kernel
theorem dX11_drain_64 : decode cX11_drain 64 = .ok (.invokevirtual 280, 3) := by decide +kernel
theorem dX11_drain_67 : decode cX11_drain 67 = .ok (.istore 5, 2) := by decide +kernel
theorem dX11_drain_69 : decode cX11_drain 69 = .ok (.iload 5, 2) := by decide +kernel
theorem dX11_drain_71 : decode cX11_drain 71 = .ok (.iload_n 3, 1) := by decide +kernel
theorem dX11_drain_72 : decode cX11_drain 72 = .ok (.if_icmp .lt 6, 3) := by decide +kernel
theorem dX11_drain_75 : decode cX11_drain 75 = .ok (.goto 9, 3) := by decide +kernel
theorem dX11_drain_78 : decode cX11_drain 78 = .ok (.iload 4, 2) := by decide +kernel
theorem dX11_drain_80 : decode cX11_drain 80 = .ok (.istore_n 2, 1) := by decide +kernel
theorem dX11_drain_81 : decode cX11_drain 81 = .ok (.iload 5, 2) := by decide +kernel
theorem dX11_drain_83 : decode cX11_drain 83 = .ok (.istore_n 3, 1) := by decide +kernel
theorem dX11_drain_84 : decode cX11_drain 84 = .ok (.iinc 4 1, 3) := by decide +kernel
theorem dX11_drain_87 : decode cX11_drain 87 = .ok (.goto (-62), 3) := by decide +kernel
theorem dX11_drain_90 : decode cX11_drain 90 = .ok (.iload_n 2, 1) := by decide +kernel
theorem dX11_drain_91 : decode cX11_drain 91 = .ok (.ireturn, 1) := by decide +kernel
theorem dX11_movesDown_0 : decode cX11_movesDown 0 = .ok (.aload_n 0, 1) := by decide +kernel
theorem dX11_movesDown_1 : decode cX11_movesDown 1 = .ok (.getfield 35, 3) := by decide +kernel
theorem dX11_movesDown_4 : decode cX11_movesDown 4 = .ok (.iload_n 1, 1) := by decide +kernel
theorem dX11_movesDown_5 : decode cX11_movesDown 5 = .ok (.iconst 1, 1) := by decide +kernel
theorem dX11_movesDown_6 : decode cX11_movesDown 6 = .ok (.iadd, 1) := by decide +kernel
theorem dX11_movesDown_7 : decode cX11_movesDown 7 = .ok (.aload_n 0, 1) := by decide +kernel
theorem dX11_movesDown_8 : decode cX11_movesDown 8 = .ok (.getfield 35, 3) := by decide +kernel
theorem dX11_movesDown_11 : decode cX11_movesDown 11 = .ok (.iload_n 1, 1) := by decide +kernel
theorem dX11_movesDown_12 : decode cX11_movesDown 12 = .ok (.iaload, 1) := by decide +kernel
theorem dX11_movesDown_13 : decode cX11_movesDown 13 = .ok (.iastore, 1) := by decide +kernel
theorem dX11_movesDown_14 : decode cX11_movesDown 14 = .ok (.aload_n 0, 1) := by decide +kernel
theorem dX11_movesDown_15 : decode cX11_movesDown 15 = .ok (.getfield 38, 3) := by decide +kernel
theorem dX11_movesDown_18 : decode cX11_movesDown 18 = .ok (.iload_n 1, 1) := by decide +kernel
theorem dX11_movesDown_19 : decode cX11_movesDown 19 = .ok (.iconst 1, 1) := by decide +kernel
theorem dX11_movesDown_20 : decode cX11_movesDown 20 = .ok (.iadd, 1) := by decide +kernel
theorem dX11_movesDown_21 : decode cX11_movesDown 21 = .ok (.aload_n 0, 1) := by decide +kernel
theorem dX11_movesDown_22 : decode cX11_movesDown 22 = .ok (.getfield 38, 3) := by decide +kernel
theorem dX11_movesDown_25 : decode cX11_movesDown 25 = .ok (.iload_n 1, 1) := by decide +kernel
theorem dX11_movesDown_26 : decode cX11_movesDown 26 = .ok (.iaload, 1) := by decide +kernel
theorem dX11_movesDown_27 : decode cX11_movesDown 27 = .ok (.iastore, 1) := by decide +kernel
theorem dX11_movesDown_28 : decode cX11_movesDown 28 = .ok (.aload_n 0, 1) := by decide +kernel
theorem dX11_movesDown_29 : decode cX11_movesDown 29 = .ok (.getfield 41, 3) := by decide +kernel
theorem dX11_movesDown_32 : decode cX11_movesDown 32 = .ok (.iload_n 1, 1) := by decide +kernel
theorem dX11_movesDown_33 : decode cX11_movesDown 33 = .ok (.iconst 1, 1) := by decide +kernel
theorem dX11_movesDown_34 : decode cX11_movesDown 34 = .ok (.iadd, 1) := by decide +kernel
theorem dX11_movesDown_35 : decode cX11_movesDown 35 = .ok (.aload_n 0, 1) := by decide +kernel
theorem dX11_movesDown_36 : decode cX11_movesDown 36 = .ok (.getfield 41, 3) := by decide +kernel
theorem dX11_movesDown_39 : decode cX11_movesDown 39 = .ok (.iload_n 1, 1) := by decide +kernel
theorem dX11_movesDown_40 : decode cX11_movesDown 40 = .ok (.iaload, 1) := by decide +kernel
theorem dX11_movesDown_41 : decode cX11_movesDown 41 = .ok (.iastore, 1) := by decide +kernel
theorem dX11_movesDown_42 : decode cX11_movesDown 42 = .ok (.aload_n 0, 1) := by decide +kernel
theorem dX11_movesDown_43 : decode cX11_movesDown 43 = .ok (.getfield 44, 3) := by decide +kernel
theorem dX11_movesDown_46 : decode cX11_movesDown 46 = .ok (.iload_n 1, 1) := by decide +kernel
theorem dX11_movesDown_47 : decode cX11_movesDown 47 = .ok (.iconst 1, 1) := by decide +kernel
theorem dX11_movesDown_48 : decode cX11_movesDown 48 = .ok (.iadd, 1) := by decide +kernel
theorem dX11_movesDown_49 : decode cX11_movesDown 49 = .ok (.aload_n 0, 1) := by decide +kernel
theorem dX11_movesDown_50 : decode cX11_movesDown 50 = .ok (.getfield 44, 3) := by decide +kernel
theorem dX11_movesDown_53 : decode cX11_movesDown 53 = .ok (.iload_n 1, 1) := by decide +kernel
theorem dX11_movesDown_54 : decode cX11_movesDown 54 = .ok (.iaload, 1) := by decide +kernel
theorem dX11_movesDown_55 : decode cX11_movesDown 55 = .ok (.iastore, 1) := by decide +kernel
theorem dX11_movesDown_56 : decode cX11_movesDown 56 = .ok (.aload_n 0, 1) := by decide +kernel
theorem dX11_movesDown_57 : decode cX11_movesDown 57 = .ok (.getfield 47, 3) := by decide +kernel
theorem dX11_movesDown_60 : decode cX11_movesDown 60 = .ok (.iload_n 1, 1) := by decide +kernel
theorem dX11_movesDown_61 : decode cX11_movesDown 61 = .ok (.iconst 1, 1) := by decide +kernel
theorem dX11_movesDown_62 : decode cX11_movesDown 62 = .ok (.iadd, 1) := by decide +kernel
theorem dX11_movesDown_63 : decode cX11_movesDown 63 = .ok (.aload_n 0, 1) := by decide +kernel
theorem dX11_movesDown_64 : decode cX11_movesDown 64 = .ok (.getfield 47, 3) := by decide +kernel
theorem dX11_movesDown_67 : decode cX11_movesDown 67 = .ok (.iload_n 1, 1) := by decide +kernel
theorem dX11_movesDown_68 : decode cX11_movesDown 68 = .ok (.iaload, 1) := by decide +kernel
theorem dX11_movesDown_69 : decode cX11_movesDown 69 = .ok (.iastore, 1) := by decide +kernel
theorem dX11_movesDown_70 : decode cX11_movesDown 70 = .ok (.aload_n 0, 1) := by decide +kernel
theorem dX11_movesDown_71 : decode cX11_movesDown 71 = .ok (.getfield 50, 3) := by decide +kernel
theorem dX11_movesDown_74 : decode cX11_movesDown 74 = .ok (.iload_n 1, 1) := by decide +kernel
theorem dX11_movesDown_75 : decode cX11_movesDown 75 = .ok (.iconst 1, 1) := by decide +kernel
theorem dX11_movesDown_76 : decode cX11_movesDown 76 = .ok (.iadd, 1) := by decide +kernel
theorem dX11_movesDown_77 : decode cX11_movesDown 77 = .ok (.aload_n 0, 1) := by decide +kernel
theorem dX11_movesDown_78 : decode cX11_movesDown 78 = .ok (.getfield 50, 3) := by decide +kernel
theorem dX11_movesDown_81 : decode cX11_movesDown 81 = .ok (.iload_n 1, 1) := by decide +kernel
theorem dX11_movesDown_82 : decode cX11_movesDown 82 = .ok (.iaload, 1) := by decide +kernel
theorem dX11_movesDown_83 : decode cX11_movesDown 83 = .ok (.iastore, 1) := by decide +kernel
theorem dX11_movesDown_84 : decode cX11_movesDown 84 = .ok (.aload_n 0, 1) := by decide +kernel
theorem dX11_movesDown_85 : decode cX11_movesDown 85 = .ok (.getfield 53, 3) := by decide +kernel
theorem dX11_movesDown_88 : decode cX11_movesDown 88 = .ok (.iload_n 1, 1) := by decide +kernel
theorem dX11_movesDown_89 : decode cX11_movesDown 89 = .ok (.iconst 1, 1) := by decide +kernel
theorem dX11_movesDown_90 : decode cX11_movesDown 90 = .ok (.iadd, 1) := by decide +kernel
theorem dX11_movesDown_91 : decode cX11_movesDown 91 = .ok (.aload_n 0, 1) := by decide +kernel
theorem dX11_movesDown_92 : decode cX11_movesDown 92 = .ok (.getfield 53, 3) := by decide +kernel
theorem dX11_movesDown_95 : decode cX11_movesDown 95 = .ok (.iload_n 1, 1) := by decide +kernel
theorem dX11_movesDown_96 : decode cX11_movesDown 96 = .ok (.iaload, 1) := by decide +kernel
theorem dX11_movesDown_97 : decode cX11_movesDown 97 = .ok (.iastore, 1) := by decide +kernel
theorem dX11_movesDown_98 : decode cX11_movesDown 98 = .ok (.aload_n 0, 1) := by decide +kernel
theorem dX11_movesDown_99 : decode cX11_movesDown 99 = .ok (.getfield 56, 3) := by decide +kernel
theorem dX11_movesDown_102 : decode cX11_movesDown 102 = .ok (.iload_n 1, 1) := by decide +kernel
theorem dX11_movesDown_103 : decode cX11_movesDown 103 = .ok (.iconst 1, 1) := by decide +kernel
theorem dX11_movesDown_104 : decode cX11_movesDown 104 = .ok (.iadd, 1) := by decide +kernel
theorem dX11_movesDown_105 : decode cX11_movesDown 105 = .ok (.aload_n 0, 1) := by decide +kernel
theorem dX11_movesDown_106 : decode cX11_movesDown 106 = .ok (.getfield 56, 3) := by decide +kernel
theorem dX11_movesDown_109 : decode cX11_movesDown 109 = .ok (.iload_n 1, 1) := by decide +kernel
theorem dX11_movesDown_110 : decode cX11_movesDown 110 = .ok (.iaload, 1) := by decide +kernel
theorem dX11_movesDown_111 : decode cX11_movesDown 111 = .ok (.iastore, 1) := by decide +kernel
theorem dX11_movesDown_112 : decode cX11_movesDown 112 = .ok (.return_, 1) := by decide +kernel
theorem dX11_added_0 : decode cX11_added 0 = .ok (.iload_n 1, 1) := by decide +kernel
theorem dX11_added_1 : decode cX11_added 1 = .ok (.iconst 0, 1) := by decide +kernel
theorem dX11_added_2 : decode cX11_added 2 = .ok (.aload_n 0, 1) := by decide +kernel
theorem dX11_added_3 : decode cX11_added 3 = .ok (.getfield 7, 3) := by decide +kernel
theorem dX11_added_6 : decode cX11_added 6 = .ok (.iconst 0, 1) := by decide +kernel
theorem dX11_added_7 : decode cX11_added 7 = .ok (.iaload, 1) := by decide +kernel
theorem dX11_added_8 : decode cX11_added 8 = .ok (.invokestatic 93, 3) := by decide +kernel
theorem dX11_added_11 : decode cX11_added 11 = .ok (.ifCond .eq 44, 3) := by decide +kernel
theorem dX11_added_14 : decode cX11_added 14 = .ok (.iload_n 2, 1) := by decide +kernel
theorem dX11_added_15 : decode cX11_added 15 = .ok (.iconst 1, 1) := by decide +kernel
theorem dX11_added_16 : decode cX11_added 16 = .ok (.bipush 99, 2) := by decide +kernel
theorem dX11_added_18 : decode cX11_added 18 = .ok (.invokestatic 93, 3) := by decide +kernel
theorem dX11_added_21 : decode cX11_added 21 = .ok (.ifCond .eq 34, 3) := by decide +kernel
theorem dX11_added_24 : decode cX11_added 24 = .ok (.iload_n 3, 1) := by decide +kernel
theorem dX11_added_25 : decode cX11_added 25 = .ok (.iconst 0, 1) := by decide +kernel
theorem dX11_added_26 : decode cX11_added 26 = .ok (.sipush 9999, 3) := by decide +kernel
theorem dX11_added_29 : decode cX11_added 29 = .ok (.invokestatic 93, 3) := by decide +kernel
theorem dX11_added_32 : decode cX11_added 32 = .ok (.ifCond .eq 23, 3) := by decide +kernel
theorem dX11_added_35 : decode cX11_added 35 = .ok (.aload_n 0, 1) := by decide +kernel
theorem dX11_added_36 : decode cX11_added 36 = .ok (.iload 4, 2) := by decide +kernel
theorem dX11_added_38 : decode cX11_added 38 = .ok (.invokevirtual 105, 3) := by decide +kernel
theorem dX11_added_41 : decode cX11_added 41 = .ok (.ifCond .eq 14, 3) := by decide +kernel
theorem dX11_added_44 : decode cX11_added 44 = .ok (.aload_n 0, 1) := by decide +kernel
theorem dX11_added_45 : decode cX11_added 45 = .ok (.getfield 7, 3) := by decide +kernel
theorem dX11_added_48 : decode cX11_added 48 = .ok (.iconst 0, 1) := by decide +kernel
theorem dX11_added_49 : decode cX11_added 49 = .ok (.iaload, 1) := by decide +kernel
theorem dX11_added_50 : decode cX11_added 50 = .ok (.bipush 10, 2) := by decide +kernel
theorem dX11_added_52 : decode cX11_added 52 = .ok (.if_icmp .ne 7, 3) := by decide +kernel
theorem dX11_added_55 : decode cX11_added 55 = .ok (.ldc_w 286, 3) := by decide +kernel
theorem dX11_added_58 : decode cX11_added 58 = .ok (.ireturn, 1) := by decide +kernel
theorem dX11_added_59 : decode cX11_added 59 = .ok (.aload_n 0, 1) := by decide +kernel
theorem dX11_added_60 : decode cX11_added 60 = .ok (.invokevirtual 277, 3) := by decide +kernel
theorem dX11_added_63 : decode cX11_added 63 = .ok (.aload_n 0, 1) := by decide +kernel
theorem dX11_added_64 : decode cX11_added 64 = .ok (.iload 4, 2) := by decide +kernel
theorem dX11_added_66 : decode cX11_added 66 = .ok (.invokevirtual 280, 3) := by decide +kernel
theorem dX11_added_69 : decode cX11_added 69 = .ok (.istore 5, 2) := by decide +kernel
theorem dX11_added_71 : decode cX11_added 71 = .ok (.aload_n 0, 1) := by decide +kernel
theorem dX11_added_72 : decode cX11_added 72 = .ok (.invokevirtual 277, 3) := by decide +kernel
theorem dX11_added_75 : decode cX11_added 75 = .ok (.aload_n 0, 1) := by decide +kernel
theorem dX11_added_76 : decode cX11_added 76 = .ok (.getfield 238, 3) := by decide +kernel
theorem dX11_added_79 : decode cX11_added 79 = .ok (.iconst 1, 1) := by decide +kernel
theorem dX11_added_80 : decode cX11_added 80 = .ok (.isub, 1) := by decide +kernel
theorem dX11_added_81 : decode cX11_added 81 = .ok (.istore 6, 2) := by decide +kernel
theorem dX11_added_83 : decode cX11_added 83 = .ok (.iload 6, 2) := by decide +kernel
theorem dX11_added_85 : decode cX11_added 85 = .ok (.iload_n 1, 1) := by decide +kernel
theorem dX11_added_86 : decode cX11_added 86 = .ok (.if_icmp .lt 15, 3) := by decide +kernel
theorem dX11_added_89 : decode cX11_added 89 = .ok (.aload_n 0, 1) := by decide +kernel
theorem dX11_added_90 : decode cX11_added 90 = .ok (.iload 6, 2) := by decide +kernel
theorem dX11_added_92 : decode cX11_added 92 = .ok (.invokevirtual 308, 3) := by decide +kernel
theorem dX11_added_95 : decode cX11_added 95 = .ok (.iinc 6 (-1), 3) := by decide +kernel
theorem dX11_added_98 : decode cX11_added 98 = .ok (.goto (-15), 3) := by decide +kernel
theorem dX11_added_101 : decode cX11_added 101 = .ok (.aload_n 0, 1) := by decide +kernel
theorem dX11_added_102 : decode cX11_added 102 = .ok (.dup, 1) := by decide +kernel
theorem dX11_added_103 : decode cX11_added 103 = .ok (.getfield 238, 3) := by decide +kernel
theorem dX11_added_106 : decode cX11_added 106 = .ok (.iconst 1, 1) := by decide +kernel
theorem dX11_added_107 : decode cX11_added 107 = .ok (.iadd, 1) := by decide +kernel
theorem dX11_added_108 : decode cX11_added 108 = .ok (.putfield 238, 3) := by decide +kernel
theorem dX11_added_111 : decode cX11_added 111 = .ok (.iconst 0, 1) := by decide +kernel
theorem dX11_added_112 : decode cX11_added 112 = .ok (.istore 6, 2) := by decide +kernel
theorem dX11_added_114 : decode cX11_added 114 = .ok (.iload 6, 2) := by decide +kernel
theorem dX11_added_116 : decode cX11_added 116 = .ok (.aload_n 0, 1) := by decide +kernel
theorem dX11_added_117 : decode cX11_added 117 = .ok (.getfield 238, 3) := by decide +kernel
theorem dX11_added_120 : decode cX11_added 120 = .ok (.if_icmp .ge 37, 3) := by decide +kernel
theorem dX11_added_123 : decode cX11_added 123 = .ok (.iload 6, 2) := by decide +kernel
theorem dX11_added_125 : decode cX11_added 125 = .ok (.iload_n 1, 1) := by decide +kernel
theorem dX11_added_126 : decode cX11_added 126 = .ok (.if_icmp .eq 25, 3) := by decide +kernel
theorem dX11_added_129 : decode cX11_added 129 = .ok (.aload_n 0, 1) := by decide +kernel
theorem dX11_added_130 : decode cX11_added 130 = .ok (.getfield 41, 3) := by decide +kernel
theorem dX11_added_133 : decode cX11_added 133 = .ok (.iload 6, 2) := by decide +kernel
theorem dX11_added_135 : decode cX11_added 135 = .ok (.iaload, 1) := by decide +kernel
theorem dX11_added_136 : decode cX11_added 136 = .ok (.iload_n 1, 1) := by decide +kernel
theorem dX11_added_137 : decode cX11_added 137 = .ok (.if_icmp .le 14, 3) := by decide +kernel
theorem dX11_added_140 : decode cX11_added 140 = .ok (.aload_n 0, 1) := by decide +kernel
theorem dX11_added_141 : decode cX11_added 141 = .ok (.getfield 41, 3) := by decide +kernel
theorem dX11_added_144 : decode cX11_added 144 = .ok (.iload 6, 2) := by decide +kernel
theorem dX11_added_146 : decode cX11_added 146 = .ok (.dup2, 1) := by decide +kernel
theorem dX11_added_147 : decode cX11_added 147 = .ok (.iaload, 1) := by decide +kernel
theorem dX11_added_148 : decode cX11_added 148 = .ok (.iconst 1, 1) := by decide +kernel
theorem dX11_added_149 : decode cX11_added 149 = .ok (.iadd, 1) := by decide +kernel
theorem dX11_added_150 : decode cX11_added 150 = .ok (.iastore, 1) := by decide +kernel
theorem dX11_added_151 : decode cX11_added 151 = .ok (.iinc 6 1, 3) := by decide +kernel
theorem dX11_added_154 : decode cX11_added 154 = .ok (.goto (-40), 3) := by decide +kernel
theorem dX11_added_157 : decode cX11_added 157 = .ok (.aload_n 0, 1) := by decide +kernel
theorem dX11_added_158 : decode cX11_added 158 = .ok (.getfield 35, 3) := by decide +kernel
theorem dX11_added_161 : decode cX11_added 161 = .ok (.iload_n 1, 1) := by decide +kernel
theorem dX11_added_162 : decode cX11_added 162 = .ok (.iload_n 2, 1) := by decide +kernel
theorem dX11_added_163 : decode cX11_added 163 = .ok (.iastore, 1) := by decide +kernel
theorem dX11_added_164 : decode cX11_added 164 = .ok (.aload_n 0, 1) := by decide +kernel
theorem dX11_added_165 : decode cX11_added 165 = .ok (.getfield 38, 3) := by decide +kernel
theorem dX11_added_168 : decode cX11_added 168 = .ok (.iload_n 1, 1) := by decide +kernel
theorem dX11_added_169 : decode cX11_added 169 = .ok (.iload_n 3, 1) := by decide +kernel
theorem dX11_added_170 : decode cX11_added 170 = .ok (.iastore, 1) := by decide +kernel
theorem dX11_added_171 : decode cX11_added 171 = .ok (.aload_n 0, 1) := by decide +kernel
theorem dX11_added_172 : decode cX11_added 172 = .ok (.getfield 41, 3) := by decide +kernel
theorem dX11_added_175 : decode cX11_added 175 = .ok (.iload_n 1, 1) := by decide +kernel
theorem dX11_added_176 : decode cX11_added 176 = .ok (.iload_n 1, 1) := by decide +kernel
theorem dX11_added_177 : decode cX11_added 177 = .ok (.aload_n 0, 1) := by decide +kernel
theorem dX11_added_178 : decode cX11_added 178 = .ok (.getfield 238, 3) := by decide +kernel
theorem dX11_added_181 : decode cX11_added 181 = .ok (.iconst 1, 1) := by decide +kernel
theorem dX11_added_182 : decode cX11_added 182 = .ok (.isub, 1) := by decide +kernel
theorem dX11_added_183 : decode cX11_added 183 = .ok (.if_icmp .ne 7, 3) := by decide +kernel
theorem dX11_added_186 : decode cX11_added 186 = .ok (.iconst (-1), 1) := by decide +kernel
theorem dX11_added_187 : decode cX11_added 187 = .ok (.goto 6, 3) := by decide +kernel
theorem dX11_added_190 : decode cX11_added 190 = .ok (.iload_n 1, 1) := by decide +kernel
theorem dX11_added_191 : decode cX11_added 191 = .ok (.iconst 1, 1) := by decide +kernel
theorem dX11_added_192 : decode cX11_added 192 = .ok (.iadd, 1) := by decide +kernel
theorem dX11_added_193 : decode cX11_added 193 = .ok (.iastore, 1) := by decide +kernel
theorem dX11_added_194 : decode cX11_added 194 = .ok (.aload_n 0, 1) := by decide +kernel
theorem dX11_added_195 : decode cX11_added 195 = .ok (.getfield 44, 3) := by decide +kernel
theorem dX11_added_198 : decode cX11_added 198 = .ok (.iload_n 1, 1) := by decide +kernel
theorem dX11_added_199 : decode cX11_added 199 = .ok (.iconst 0, 1) := by decide +kernel
theorem dX11_added_200 : decode cX11_added 200 = .ok (.iastore, 1) := by decide +kernel
theorem dX11_added_201 : decode cX11_added 201 = .ok (.aload_n 0, 1) := by decide +kernel
theorem dX11_added_202 : decode cX11_added 202 = .ok (.getfield 47, 3) := by decide +kernel
theorem dX11_added_205 : decode cX11_added 205 = .ok (.iload_n 1, 1) := by decide +kernel
theorem dX11_added_206 : decode cX11_added 206 = .ok (.iconst 0, 1) := by decide +kernel
theorem dX11_added_207 : decode cX11_added 207 = .ok (.iastore, 1) := by decide +kernel
theorem dX11_added_208 : decode cX11_added 208 = .ok (.aload_n 0, 1) := by decide +kernel
theorem dX11_added_209 : decode cX11_added 209 = .ok (.getfield 50, 3) := by decide +kernel
theorem dX11_added_212 : decode cX11_added 212 = .ok (.iload_n 1, 1) := by decide +kernel
theorem dX11_added_213 : decode cX11_added 213 = .ok (.iconst 0, 1) := by decide +kernel
theorem dX11_added_214 : decode cX11_added 214 = .ok (.iastore, 1) := by decide +kernel
theorem dX11_added_215 : decode cX11_added 215 = .ok (.aload_n 0, 1) := by decide +kernel
theorem dX11_added_216 : decode cX11_added 216 = .ok (.getfield 53, 3) := by decide +kernel
theorem dX11_added_219 : decode cX11_added 219 = .ok (.iload_n 1, 1) := by decide +kernel
theorem dX11_added_220 : decode cX11_added 220 = .ok (.iconst 0, 1) := by decide +kernel
theorem dX11_added_221 : decode cX11_added 221 = .ok (.iastore, 1) := by decide +kernel
theorem dX11_added_222 : decode cX11_added 222 = .ok (.aload_n 0, 1) := by decide +kernel
theorem dX11_added_223 : decode cX11_added 223 = .ok (.getfield 56, 3) := by decide +kernel
theorem dX11_added_226 : decode cX11_added 226 = .ok (.iload_n 1, 1) := by decide +kernel
theorem dX11_added_227 : decode cX11_added 227 = .ok (.iconst 0, 1) := by decide +kernel
theorem dX11_added_228 : decode cX11_added 228 = .ok (.iastore, 1) := by decide +kernel
theorem dX11_added_229 : decode cX11_added 229 = .ok (.aload_n 0, 1) := by decide +kernel
theorem dX11_added_230 : decode cX11_added 230 = .ok (.iload 4, 2) := by decide +kernel
theorem dX11_added_232 : decode cX11_added 232 = .ok (.invokevirtual 280, 3) := by decide +kernel
theorem dX11_added_235 : decode cX11_added 235 = .ok (.iload 5, 2) := by decide +kernel
theorem dX11_added_237 : decode cX11_added 237 = .ok (.isub, 1) := by decide +kernel
theorem dX11_added_238 : decode cX11_added 238 = .ok (.ireturn, 1) := by decide +kernel
theorem dX11_image_0 : decode cX11_image 0 = .ok (.iload_n 1, 1) := by decide +kernel
theorem dX11_image_1 : decode cX11_image 1 = .ok (.ifCond .ne 12, 3) := by decide +kernel
theorem dX11_image_4 : decode cX11_image 4 = .ok (.aload_n 0, 1) := by decide +kernel
theorem dX11_image_5 : decode cX11_image 5 = .ok (.getfield 312, 3) := by decide +kernel
theorem dX11_image_8 : decode cX11_image 8 = .ok (.ifCond .ne 5, 3) := by decide +kernel
theorem dX11_image_11 : decode cX11_image 11 = .ok (.iconst 0, 1) := by decide +kernel
theorem dX11_image_12 : decode cX11_image 12 = .ok (.ireturn, 1) := by decide +kernel
theorem dX11_image_13 : decode cX11_image 13 = .ok (.iconst 0, 1) := by decide +kernel
theorem dX11_image_14 : decode cX11_image 14 = .ok (.istore_n 2, 1) := by decide +kernel
theorem dX11_image_15 : decode cX11_image 15 = .ok (.iload_n 2, 1) := by decide +kernel
theorem dX11_image_16 : decode cX11_image 16 = .ok (.sipush 1700, 3) := by decide +kernel
theorem dX11_image_19 : decode cX11_image 19 = .ok (.if_icmp .ge 40, 3) := by decide +kernel
theorem dX11_image_22 : decode cX11_image 22 = .ok (.iload_n 1, 1) := by decide +kernel
theorem dX11_image_23 : decode cX11_image 23 = .ok (.ifCond .eq 18, 3) := by decide +kernel
theorem dX11_image_26 : decode cX11_image 26 = .ok (.aload_n 0, 1) := by decide +kernel
theorem dX11_image_27 : decode cX11_image 27 = .ok (.getfield 13, 3) := by decide +kernel
theorem dX11_image_30 : decode cX11_image 30 = .ok (.iload_n 2, 1) := by decide +kernel
theorem dX11_image_31 : decode cX11_image 31 = .ok (.aload_n 0, 1) := by decide +kernel
theorem dX11_image_32 : decode cX11_image 32 = .ok (.getfield 7, 3) := by decide +kernel
theorem dX11_image_35 : decode cX11_image 35 = .ok (.iload_n 2, 1) := by decide +kernel
theorem dX11_image_36 : decode cX11_image 36 = .ok (.iaload, 1) := by decide +kernel
theorem dX11_image_37 : decode cX11_image 37 = .ok (.iastore, 1) := by decide +kernel
theorem dX11_image_38 : decode cX11_image 38 = .ok (.goto 15, 3) := by decide +kernel
theorem dX11_image_41 : decode cX11_image 41 = .ok (.aload_n 0, 1) := by decide +kernel
theorem dX11_image_42 : decode cX11_image 42 = .ok (.getfield 7, 3) := by decide +kernel
theorem dX11_image_45 : decode cX11_image 45 = .ok (.iload_n 2, 1) := by decide +kernel
theorem dX11_image_46 : decode cX11_image 46 = .ok (.aload_n 0, 1) := by decide +kernel
theorem dX11_image_47 : decode cX11_image 47 = .ok (.getfield 13, 3) := by decide +kernel
theorem dX11_image_50 : decode cX11_image 50 = .ok (.iload_n 2, 1) := by decide +kernel
theorem dX11_image_51 : decode cX11_image 51 = .ok (.iaload, 1) := by decide +kernel
theorem dX11_image_52 : decode cX11_image 52 = .ok (.iastore, 1) := by decide +kernel
theorem dX11_image_53 : decode cX11_image 53 = .ok (.iinc 2 1, 3) := by decide +kernel
theorem dX11_image_56 : decode cX11_image 56 = .ok (.goto (-41), 3) := by decide +kernel
theorem dX11_image_59 : decode cX11_image 59 = .ok (.aload_n 0, 1) := by decide +kernel
theorem dX11_image_60 : decode cX11_image 60 = .ok (.iconst 1, 1) := by decide +kernel
theorem dX11_image_61 : decode cX11_image 61 = .ok (.putfield 312, 3) := by decide +kernel
theorem dX11_image_64 : decode cX11_image 64 = .ok (.iconst 1, 1) := by decide +kernel
theorem dX11_image_65 : decode cX11_image 65 = .ok (.ireturn, 1) := by decide +kernel
theorem dX11_look_0 : decode cX11_look 0 = .ok (.iload_n 1, 1) := by decide +kernel
theorem dX11_look_1 : decode cX11_look 1 = .ok (.tableswitch 118 0 8 #[51, 58, 65, 72, 79, 86, 93, 102, 110], 51) := by decide +kernel
theorem dX11_look_52 : decode cX11_look 52 = .ok (.aload_n 0, 1) := by decide +kernel
theorem dX11_look_53 : decode cX11_look 53 = .ok (.getfield 7, 3) := by decide +kernel
theorem dX11_look_56 : decode cX11_look 56 = .ok (.iconst 0, 1) := by decide +kernel
theorem dX11_look_57 : decode cX11_look 57 = .ok (.iaload, 1) := by decide +kernel
theorem dX11_look_58 : decode cX11_look 58 = .ok (.ireturn, 1) := by decide +kernel
theorem dX11_look_59 : decode cX11_look 59 = .ok (.aload_n 0, 1) := by decide +kernel
theorem dX11_look_60 : decode cX11_look 60 = .ok (.getfield 7, 3) := by decide +kernel
theorem dX11_look_63 : decode cX11_look 63 = .ok (.iconst 1, 1) := by decide +kernel
theorem dX11_look_64 : decode cX11_look 64 = .ok (.iaload, 1) := by decide +kernel
theorem dX11_look_65 : decode cX11_look 65 = .ok (.ireturn, 1) := by decide +kernel
theorem dX11_look_66 : decode cX11_look 66 = .ok (.aload_n 0, 1) := by decide +kernel
theorem dX11_look_67 : decode cX11_look 67 = .ok (.getfield 7, 3) := by decide +kernel
theorem dX11_look_70 : decode cX11_look 70 = .ok (.iconst 2, 1) := by decide +kernel
theorem dX11_look_71 : decode cX11_look 71 = .ok (.iaload, 1) := by decide +kernel
theorem dX11_look_72 : decode cX11_look 72 = .ok (.ireturn, 1) := by decide +kernel
theorem dX11_look_73 : decode cX11_look 73 = .ok (.aload_n 0, 1) := by decide +kernel
theorem dX11_look_74 : decode cX11_look 74 = .ok (.getfield 7, 3) := by decide +kernel
theorem dX11_look_77 : decode cX11_look 77 = .ok (.iconst 3, 1) := by decide +kernel
theorem dX11_look_78 : decode cX11_look 78 = .ok (.iaload, 1) := by decide +kernel
theorem dX11_look_79 : decode cX11_look 79 = .ok (.ireturn, 1) := by decide +kernel
theorem dX11_look_80 : decode cX11_look 80 = .ok (.aload_n 0, 1) := by decide +kernel
theorem dX11_look_81 : decode cX11_look 81 = .ok (.getfield 7, 3) := by decide +kernel
theorem dX11_look_84 : decode cX11_look 84 = .ok (.iconst 4, 1) := by decide +kernel
theorem dX11_look_85 : decode cX11_look 85 = .ok (.iaload, 1) := by decide +kernel
theorem dX11_look_86 : decode cX11_look 86 = .ok (.ireturn, 1) := by decide +kernel
theorem dX11_look_87 : decode cX11_look 87 = .ok (.aload_n 0, 1) := by decide +kernel
theorem dX11_look_88 : decode cX11_look 88 = .ok (.getfield 7, 3) := by decide +kernel
theorem dX11_look_91 : decode cX11_look 91 = .ok (.iconst 5, 1) := by decide +kernel
theorem dX11_look_92 : decode cX11_look 92 = .ok (.iaload, 1) := by decide +kernel
theorem dX11_look_93 : decode cX11_look 93 = .ok (.ireturn, 1) := by decide +kernel
theorem dX11_look_94 : decode cX11_look 94 = .ok (.aload_n 0, 1) := by decide +kernel
theorem dX11_look_95 : decode cX11_look 95 = .ok (.getfield 7, 3) := by decide +kernel
theorem dX11_look_98 : decode cX11_look 98 = .ok (.sipush 810, 3) := by decide +kernel
theorem dX11_look_101 : decode cX11_look 101 = .ok (.iaload, 1) := by decide +kernel
theorem dX11_look_102 : decode cX11_look 102 = .ok (.ireturn, 1) := by decide +kernel
theorem dX11_look_103 : decode cX11_look 103 = .ok (.aload_n 0, 1) := by decide +kernel
theorem dX11_look_104 : decode cX11_look 104 = .ok (.getfield 7, 3) := by decide +kernel
theorem dX11_look_107 : decode cX11_look 107 = .ok (.bipush 6, 2) := by decide +kernel
theorem dX11_look_109 : decode cX11_look 109 = .ok (.iaload, 1) := by decide +kernel
theorem dX11_look_110 : decode cX11_look 110 = .ok (.ireturn, 1) := by decide +kernel
theorem dX11_look_111 : decode cX11_look 111 = .ok (.aload_n 0, 1) := by decide +kernel
theorem dX11_look_112 : decode cX11_look 112 = .ok (.getfield 7, 3) := by decide +kernel
theorem dX11_look_115 : decode cX11_look 115 = .ok (.bipush 7, 2) := by decide +kernel
theorem dX11_look_117 : decode cX11_look 117 = .ok (.iaload, 1) := by decide +kernel
theorem dX11_look_118 : decode cX11_look 118 = .ok (.ireturn, 1) := by decide +kernel
theorem dX11_look_119 : decode cX11_look 119 = .ok (.iload_n 1, 1) := by decide +kernel
theorem dX11_look_120 : decode cX11_look 120 = .ok (.bipush 10, 2) := by decide +kernel
theorem dX11_look_122 : decode cX11_look 122 = .ok (.bipush 9, 2) := by decide +kernel
theorem dX11_look_124 : decode cX11_look 124 = .ok (.aload_n 0, 1) := by decide +kernel
theorem dX11_look_125 : decode cX11_look 125 = .ok (.getfield 7, 3) := by decide +kernel
theorem dX11_look_128 : decode cX11_look 128 = .ok (.iconst 1, 1) := by decide +kernel
theorem dX11_look_129 : decode cX11_look 129 = .ok (.iaload, 1) := by decide +kernel
theorem dX11_look_130 : decode cX11_look 130 = .ok (.iadd, 1) := by decide +kernel
theorem dX11_look_131 : decode cX11_look 131 = .ok (.invokestatic 93, 3) := by decide +kernel
theorem dX11_look_134 : decode cX11_look 134 = .ok (.ifCond .eq 12, 3) := by decide +kernel
theorem dX11_look_137 : decode cX11_look 137 = .ok (.aload_n 0, 1) := by decide +kernel
theorem dX11_look_138 : decode cX11_look 138 = .ok (.iload_n 1, 1) := by decide +kernel
theorem dX11_look_139 : decode cX11_look 139 = .ok (.bipush 10, 2) := by decide +kernel
theorem dX11_look_141 : decode cX11_look 141 = .ok (.isub, 1) := by decide +kernel
theorem dX11_look_142 : decode cX11_look 142 = .ok (.invokevirtual 108, 3) := by decide +kernel
theorem dX11_look_145 : decode cX11_look 145 = .ok (.ireturn, 1) := by decide +kernel
theorem dX11_look_146 : decode cX11_look 146 = .ok (.iload_n 1, 1) := by decide +kernel
theorem dX11_look_147 : decode cX11_look 147 = .ok (.bipush 100, 2) := by decide +kernel
theorem dX11_look_149 : decode cX11_look 149 = .ok (.bipush 99, 2) := by decide +kernel
theorem dX11_look_151 : decode cX11_look 151 = .ok (.bipush 12, 2) := by decide +kernel
theorem dX11_look_153 : decode cX11_look 153 = .ok (.aload_n 0, 1) := by decide +kernel
theorem dX11_look_154 : decode cX11_look 154 = .ok (.getfield 7, 3) := by decide +kernel
theorem dX11_look_157 : decode cX11_look 157 = .ok (.iconst 1, 1) := by decide +kernel
theorem dX11_look_158 : decode cX11_look 158 = .ok (.iaload, 1) := by decide +kernel
theorem dX11_look_159 : decode cX11_look 159 = .ok (.imul, 1) := by decide +kernel
theorem dX11_look_160 : decode cX11_look 160 = .ok (.iadd, 1) := by decide +kernel
theorem dX11_look_161 : decode cX11_look 161 = .ok (.invokestatic 93, 3) := by decide +kernel
theorem dX11_look_164 : decode cX11_look 164 = .ok (.ifCond .eq 24, 3) := by decide +kernel
theorem dX11_look_167 : decode cX11_look 167 = .ok (.iload_n 1, 1) := by decide +kernel
theorem dX11_look_168 : decode cX11_look 168 = .ok (.bipush 100, 2) := by decide +kernel
theorem dX11_look_170 : decode cX11_look 170 = .ok (.isub, 1) := by decide +kernel
theorem dX11_look_171 : decode cX11_look 171 = .ok (.bipush 12, 2) := by decide +kernel
theorem dX11_look_173 : decode cX11_look 173 = .ok (.irem, 1) := by decide +kernel
theorem dX11_look_174 : decode cX11_look 174 = .ok (.aload_n 0, 1) := by decide +kernel
theorem dX11_look_175 : decode cX11_look 175 = .ok (.iload_n 1, 1) := by decide +kernel
theorem dX11_look_176 : decode cX11_look 176 = .ok (.bipush 100, 2) := by decide +kernel
theorem dX11_look_178 : decode cX11_look 178 = .ok (.isub, 1) := by decide +kernel
theorem dX11_look_179 : decode cX11_look 179 = .ok (.bipush 12, 2) := by decide +kernel
theorem dX11_look_181 : decode cX11_look 181 = .ok (.idiv, 1) := by decide +kernel
theorem dX11_look_182 : decode cX11_look 182 = .ok (.invokevirtual 108, 3) := by decide +kernel
theorem dX11_look_185 : decode cX11_look 185 = .ok (.if_icmp .lt 5, 3) := by decide +kernel
theorem dX11_look_188 : decode cX11_look 188 = .ok (.iconst (-1), 1) := by decide +kernel
theorem dX11_look_189 : decode cX11_look 189 = .ok (.ireturn, 1) := by decide +kernel
theorem dX11_look_190 : decode cX11_look 190 = .ok (.iload_n 1, 1) := by decide +kernel
theorem dX11_look_191 : decode cX11_look 191 = .ok (.bipush 100, 2) := by decide +kernel
theorem dX11_look_193 : decode cX11_look 193 = .ok (.isub, 1) := by decide +kernel
theorem dX11_look_194 : decode cX11_look 194 = .ok (.bipush 12, 2) := by decide +kernel
theorem dX11_look_196 : decode cX11_look 196 = .ok (.idiv, 1) := by decide +kernel
theorem dX11_look_197 : decode cX11_look 197 = .ok (.istore_n 2, 1) := by decide +kernel
theorem dX11_look_198 : decode cX11_look 198 = .ok (.aload_n 0, 1) := by decide +kernel
theorem dX11_look_199 : decode cX11_look 199 = .ok (.iload_n 2, 1) := by decide +kernel
theorem dX11_look_200 : decode cX11_look 200 = .ok (.iload_n 1, 1) := by decide +kernel
theorem dX11_look_201 : decode cX11_look 201 = .ok (.bipush 100, 2) := by decide +kernel
theorem dX11_look_203 : decode cX11_look 203 = .ok (.isub, 1) := by decide +kernel
theorem dX11_look_204 : decode cX11_look 204 = .ok (.bipush 12, 2) := by decide +kernel
theorem dX11_look_206 : decode cX11_look 206 = .ok (.irem, 1) := by decide +kernel
theorem dX11_look_207 : decode cX11_look 207 = .ok (.invokevirtual 256, 3) := by decide +kernel
theorem dX11_look_210 : decode cX11_look 210 = .ok (.aload_n 0, 1) := by decide +kernel
theorem dX11_look_211 : decode cX11_look 211 = .ok (.iload_n 2, 1) := by decide +kernel
theorem dX11_look_212 : decode cX11_look 212 = .ok (.iload_n 1, 1) := by decide +kernel
theorem dX11_look_213 : decode cX11_look 213 = .ok (.bipush 100, 2) := by decide +kernel
theorem dX11_look_215 : decode cX11_look 215 = .ok (.isub, 1) := by decide +kernel
theorem dX11_look_216 : decode cX11_look 216 = .ok (.bipush 12, 2) := by decide +kernel
theorem dX11_look_218 : decode cX11_look 218 = .ok (.irem, 1) := by decide +kernel
theorem dX11_look_219 : decode cX11_look 219 = .ok (.invokevirtual 259, 3) := by decide +kernel
theorem dX11_look_222 : decode cX11_look 222 = .ok (.ifCond .eq 8, 3) := by decide +kernel
theorem dX11_look_225 : decode cX11_look 225 = .ok (.bipush 100, 2) := by decide +kernel
theorem dX11_look_227 : decode cX11_look 227 = .ok (.goto 4, 3) := by decide +kernel
theorem dX11_look_230 : decode cX11_look 230 = .ok (.iconst 0, 1) := by decide +kernel
theorem dX11_look_231 : decode cX11_look 231 = .ok (.iadd, 1) := by decide +kernel
theorem dX11_look_232 : decode cX11_look 232 = .ok (.ireturn, 1) := by decide +kernel
