theorem dX11_blots_0 : decode cX11_blots 0 = .ok (.aload_n 0, 1) := by decide +kernel
theorem dX11_blots_1 : decode cX11_blots 1 = .ok (.getfield 20, 3) := by decide +kernel
theorem dX11_blots_4 : decode cX11_blots 4 = .ok (.iconst 3, 1) := by decide +kernel
theorem dX11_blots_5 : decode cX11_blots 5 = .ok (.iaload, 1) := by decide +kernel
theorem dX11_blots_6 : decode cX11_blots 6 = .ok (.bipush 8, 2) := by decide +kernel
theorem dX11_blots_8 : decode cX11_blots 8 = .ok (.if_icmp .ne 12, 3) := by decide +kernel
theorem dX11_blots_11 : decode cX11_blots 11 = .ok (.aload_n 0, 1) := by decide +kernel
theorem dX11_blots_12 : decode cX11_blots 12 = .ok (.iconst 3, 1) := by decide +kernel
theorem dX11_blots_13 : decode cX11_blots 13 = .ok (.aload_n 0, 1) := by decide +kernel
theorem dX11_blots_14 : decode cX11_blots 14 = .ok (.getfield 129, 3) := by decide +kernel
theorem dX11_blots_17 : decode cX11_blots 17 = .ok (.invokevirtual 149, 3) := by decide +kernel
theorem dX11_blots_20 : decode cX11_blots 20 = .ok (.aload_n 0, 1) := by decide +kernel
theorem dX11_blots_21 : decode cX11_blots 21 = .ok (.getfield 136, 3) := by decide +kernel
theorem dX11_blots_24 : decode cX11_blots 24 = .ok (.ifCond .eq 4, 3) := by decide +kernel
theorem dX11_blots_27 : decode cX11_blots 27 = .ok (.return_, 1) := by decide +kernel
theorem dX11_blots_28 : decode cX11_blots 28 = .ok (.aload_n 0, 1) := by decide +kernel
theorem dX11_blots_29 : decode cX11_blots 29 = .ok (.dup, 1) := by decide +kernel
theorem dX11_blots_30 : decode cX11_blots 30 = .ok (.getfield 129, 3) := by decide +kernel
theorem dX11_blots_33 : decode cX11_blots 33 = .ok (.iconst 1, 1) := by decide +kernel
theorem dX11_blots_34 : decode cX11_blots 34 = .ok (.iadd, 1) := by decide +kernel
theorem dX11_blots_35 : decode cX11_blots 35 = .ok (.putfield 129, 3) := by decide +kernel
theorem dX11_blots_38 : decode cX11_blots 38 = .ok (.aload_n 0, 1) := by decide +kernel
theorem dX11_blots_39 : decode cX11_blots 39 = .ok (.invokevirtual 142, 3) := by decide +kernel
theorem dX11_blots_42 : decode cX11_blots 42 = .ok (.aload_n 0, 1) := by decide +kernel
theorem dX11_blots_43 : decode cX11_blots 43 = .ok (.getfield 129, 3) := by decide +kernel
theorem dX11_blots_46 : decode cX11_blots 46 = .ok (.istore_n 3, 1) := by decide +kernel
theorem dX11_blots_47 : decode cX11_blots 47 = .ok (.aload_n 0, 1) := by decide +kernel
theorem dX11_blots_48 : decode cX11_blots 48 = .ok (.iconst 0, 1) := by decide +kernel
theorem dX11_blots_49 : decode cX11_blots 49 = .ok (.bipush 9, 2) := by decide +kernel
theorem dX11_blots_51 : decode cX11_blots 51 = .ok (.invokevirtual 195, 3) := by decide +kernel
theorem dX11_blots_54 : decode cX11_blots 54 = .ok (.istore 4, 2) := by decide +kernel
theorem dX11_blots_56 : decode cX11_blots 56 = .ok (.aload_n 0, 1) := by decide +kernel
theorem dX11_blots_57 : decode cX11_blots 57 = .ok (.getfield 20, 3) := by decide +kernel
theorem dX11_blots_60 : decode cX11_blots 60 = .ok (.iconst 3, 1) := by decide +kernel
theorem dX11_blots_61 : decode cX11_blots 61 = .ok (.iaload, 1) := by decide +kernel
theorem dX11_blots_62 : decode cX11_blots 62 = .ok (.istore 5, 2) := by decide +kernel
theorem dX11_blots_64 : decode cX11_blots 64 = .ok (.iconst 0, 1) := by decide +kernel
theorem dX11_blots_65 : decode cX11_blots 65 = .ok (.istore 6, 2) := by decide +kernel
theorem dX11_blots_67 : decode cX11_blots 67 = .ok (.aload_n 0, 1) := by decide +kernel
theorem dX11_blots_68 : decode cX11_blots 68 = .ok (.getfield 136, 3) := by decide +kernel
theorem dX11_blots_71 : decode cX11_blots 71 = .ok (.ifCond .eq 4, 3) := by decide +kernel
theorem dX11_blots_74 : decode cX11_blots 74 = .ok (.return_, 1) := by decide +kernel
theorem dX11_blots_75 : decode cX11_blots 75 = .ok (.aload_n 0, 1) := by decide +kernel
theorem dX11_blots_76 : decode cX11_blots 76 = .ok (.getfield 68, 3) := by decide +kernel
theorem dX11_blots_79 : decode cX11_blots 79 = .ok (.iload 5, 2) := by decide +kernel
theorem dX11_blots_81 : decode cX11_blots 81 = .ok (.aaload, 1) := by decide +kernel
theorem dX11_blots_82 : decode cX11_blots 82 = .ok (.astore 7, 2) := by decide +kernel
theorem dX11_blots_84 : decode cX11_blots 84 = .ok (.iload_n 1, 1) := by decide +kernel
theorem dX11_blots_85 : decode cX11_blots 85 = .ok (.ifCond .ne 57, 3) := by decide +kernel
theorem dX11_blots_88 : decode cX11_blots 88 = .ok (.iload 4, 2) := by decide +kernel
theorem dX11_blots_90 : decode cX11_blots 90 = .ok (.iconst 3, 1) := by decide +kernel
theorem dX11_blots_91 : decode cX11_blots 91 = .ok (.if_icmp .ge 51, 3) := by decide +kernel
theorem dX11_blots_94 : decode cX11_blots 94 = .ok (.iload 4, 2) := by decide +kernel
theorem dX11_blots_96 : decode cX11_blots 96 = .ok (.iconst 2, 1) := by decide +kernel
theorem dX11_blots_97 : decode cX11_blots 97 = .ok (.if_icmp .ne 8, 3) := by decide +kernel
theorem dX11_blots_100 : decode cX11_blots 100 = .ok (.bipush 10, 2) := by decide +kernel
theorem dX11_blots_102 : decode cX11_blots 102 = .ok (.goto 4, 3) := by decide +kernel
theorem dX11_blots_105 : decode cX11_blots 105 = .ok (.iconst 0, 1) := by decide +kernel
theorem dX11_blots_106 : decode cX11_blots 106 = .ok (.istore 8, 2) := by decide +kernel
theorem dX11_blots_108 : decode cX11_blots 108 = .ok (.iload 8, 2) := by decide +kernel
theorem dX11_blots_110 : decode cX11_blots 110 = .ok (.iload 4, 2) := by decide +kernel
theorem dX11_blots_112 : decode cX11_blots 112 = .ok (.iconst 1, 1) := by decide +kernel
theorem dX11_blots_113 : decode cX11_blots 113 = .ok (.if_icmp .ne 8, 3) := by decide +kernel
theorem dX11_blots_116 : decode cX11_blots 116 = .ok (.bipush 10, 2) := by decide +kernel
theorem dX11_blots_118 : decode cX11_blots 118 = .ok (.goto 5, 3) := by decide +kernel
theorem dX11_blots_121 : decode cX11_blots 121 = .ok (.bipush 100, 2) := by decide +kernel
theorem dX11_blots_123 : decode cX11_blots 123 = .ok (.if_icmp .ge 19, 3) := by decide +kernel
theorem dX11_blots_126 : decode cX11_blots 126 = .ok (.aload 7, 2) := by decide +kernel
theorem dX11_blots_128 : decode cX11_blots 128 = .ok (.iload 6, 2) := by decide +kernel
theorem dX11_blots_130 : decode cX11_blots 130 = .ok (.iload 8, 2) := by decide +kernel
theorem dX11_blots_132 : decode cX11_blots 132 = .ok (.iastore, 1) := by decide +kernel
theorem dX11_blots_133 : decode cX11_blots 133 = .ok (.iinc 6 1, 3) := by decide +kernel
theorem dX11_blots_136 : decode cX11_blots 136 = .ok (.iinc 8 1, 3) := by decide +kernel
theorem dX11_blots_139 : decode cX11_blots 139 = .ok (.goto (-31), 3) := by decide +kernel
theorem dX11_blots_142 : decode cX11_blots 142 = .ok (.iconst 0, 1) := by decide +kernel
theorem dX11_blots_143 : decode cX11_blots 143 = .ok (.istore 8, 2) := by decide +kernel
theorem dX11_blots_145 : decode cX11_blots 145 = .ok (.iload 8, 2) := by decide +kernel
theorem dX11_blots_147 : decode cX11_blots 147 = .ok (.aload_n 0, 1) := by decide +kernel
theorem dX11_blots_148 : decode cX11_blots 148 = .ok (.getfield 20, 3) := by decide +kernel
theorem dX11_blots_151 : decode cX11_blots 151 = .ok (.iconst 0, 1) := by decide +kernel
theorem dX11_blots_152 : decode cX11_blots 152 = .ok (.iaload, 1) := by decide +kernel
theorem dX11_blots_153 : decode cX11_blots 153 = .ok (.if_icmp .ge 44, 3) := by decide +kernel
theorem dX11_blots_156 : decode cX11_blots 156 = .ok (.iload_n 1, 1) := by decide +kernel
theorem dX11_blots_157 : decode cX11_blots 157 = .ok (.iconst 1, 1) := by decide +kernel
theorem dX11_blots_158 : decode cX11_blots 158 = .ok (.if_icmp .ne 39, 3) := by decide +kernel
theorem dX11_blots_161 : decode cX11_blots 161 = .ok (.iload 4, 2) := by decide +kernel
theorem dX11_blots_163 : decode cX11_blots 163 = .ok (.ifCond .eq 18, 3) := by decide +kernel
theorem dX11_blots_166 : decode cX11_blots 166 = .ok (.aload_n 0, 1) := by decide +kernel
theorem dX11_blots_167 : decode cX11_blots 167 = .ok (.getfield 26, 3) := by decide +kernel
theorem dX11_blots_170 : decode cX11_blots 170 = .ok (.iload 8, 2) := by decide +kernel
theorem dX11_blots_172 : decode cX11_blots 172 = .ok (.iaload, 1) := by decide +kernel
theorem dX11_blots_173 : decode cX11_blots 173 = .ok (.iload 4, 2) := by decide +kernel
theorem dX11_blots_175 : decode cX11_blots 175 = .ok (.if_icmp .eq 6, 3) := by decide +kernel
theorem dX11_blots_178 : decode cX11_blots 178 = .ok (.goto 13, 3) := by decide +kernel
theorem dX11_blots_181 : decode cX11_blots 181 = .ok (.aload 7, 2) := by decide +kernel
theorem dX11_blots_183 : decode cX11_blots 183 = .ok (.iload 6, 2) := by decide +kernel
theorem dX11_blots_185 : decode cX11_blots 185 = .ok (.iload 8, 2) := by decide +kernel
theorem dX11_blots_187 : decode cX11_blots 187 = .ok (.iastore, 1) := by decide +kernel
theorem dX11_blots_188 : decode cX11_blots 188 = .ok (.iinc 6 1, 3) := by decide +kernel
theorem dX11_blots_191 : decode cX11_blots 191 = .ok (.iinc 8 1, 3) := by decide +kernel
theorem dX11_blots_194 : decode cX11_blots 194 = .ok (.goto (-49), 3) := by decide +kernel
theorem dX11_blots_197 : decode cX11_blots 197 = .ok (.iconst 0, 1) := by decide +kernel
theorem dX11_blots_198 : decode cX11_blots 198 = .ok (.istore 8, 2) := by decide +kernel
theorem dX11_blots_200 : decode cX11_blots 200 = .ok (.iload 8, 2) := by decide +kernel
theorem dX11_blots_202 : decode cX11_blots 202 = .ok (.iconst 2, 1) := by decide +kernel
theorem dX11_blots_203 : decode cX11_blots 203 = .ok (.if_icmp .ge 41, 3) := by decide +kernel
theorem dX11_blots_206 : decode cX11_blots 206 = .ok (.iload_n 1, 1) := by decide +kernel
theorem dX11_blots_207 : decode cX11_blots 207 = .ok (.iconst 2, 1) := by decide +kernel
theorem dX11_blots_208 : decode cX11_blots 208 = .ok (.if_icmp .ne 36, 3) := by decide +kernel
theorem dX11_blots_211 : decode cX11_blots 211 = .ok (.iload 4, 2) := by decide +kernel
theorem dX11_blots_213 : decode cX11_blots 213 = .ok (.ifCond .eq 15, 3) := by decide +kernel
theorem dX11_blots_216 : decode cX11_blots 216 = .ok (.iload 4, 2) := by decide +kernel
theorem dX11_blots_218 : decode cX11_blots 218 = .ok (.iconst 2, 1) := by decide +kernel
theorem dX11_blots_219 : decode cX11_blots 219 = .ok (.iload 8, 2) := by decide +kernel
theorem dX11_blots_221 : decode cX11_blots 221 = .ok (.iadd, 1) := by decide +kernel
theorem dX11_blots_222 : decode cX11_blots 222 = .ok (.if_icmp .eq 6, 3) := by decide +kernel
theorem dX11_blots_225 : decode cX11_blots 225 = .ok (.goto 13, 3) := by decide +kernel
theorem dX11_blots_228 : decode cX11_blots 228 = .ok (.aload 7, 2) := by decide +kernel
theorem dX11_blots_230 : decode cX11_blots 230 = .ok (.iload 6, 2) := by decide +kernel
theorem dX11_blots_232 : decode cX11_blots 232 = .ok (.iload 8, 2) := by decide +kernel
theorem dX11_blots_234 : decode cX11_blots 234 = .ok (.iastore, 1) := by decide +kernel
theorem dX11_blots_235 : decode cX11_blots 235 = .ok (.iinc 6 1, 3) := by decide +kernel
theorem dX11_blots_238 : decode cX11_blots 238 = .ok (.iinc 8 1, 3) := by decide +kernel
theorem dX11_blots_241 : decode cX11_blots 241 = .ok (.goto (-41), 3) := by decide +kernel
theorem dX11_blots_244 : decode cX11_blots 244 = .ok (.iload 6, 2) := by decide +kernel
theorem dX11_blots_246 : decode cX11_blots 246 = .ok (.ifCond .ne 9, 3) := by decide +kernel
theorem dX11_blots_249 : decode cX11_blots 249 = .ok (.aload_n 0, 1) := by decide +kernel
theorem dX11_blots_250 : decode cX11_blots 250 = .ok (.iconst 2, 1) := by decide +kernel
theorem dX11_blots_251 : decode cX11_blots 251 = .ok (.iload_n 3, 1) := by decide +kernel
theorem dX11_blots_252 : decode cX11_blots 252 = .ok (.invokevirtual 149, 3) := by decide +kernel
theorem dX11_blots_255 : decode cX11_blots 255 = .ok (.aload_n 0, 1) := by decide +kernel
theorem dX11_blots_256 : decode cX11_blots 256 = .ok (.getfield 136, 3) := by decide +kernel
theorem dX11_blots_259 : decode cX11_blots 259 = .ok (.ifCond .eq 4, 3) := by decide +kernel
theorem dX11_blots_262 : decode cX11_blots 262 = .ok (.return_, 1) := by decide +kernel
theorem dX11_blots_263 : decode cX11_blots 263 = .ok (.aload_n 2, 1) := by decide +kernel
theorem dX11_blots_264 : decode cX11_blots 264 = .ok (.iconst 2, 1) := by decide +kernel
theorem dX11_blots_265 : decode cX11_blots 265 = .ok (.iload 5, 2) := by decide +kernel
theorem dX11_blots_267 : decode cX11_blots 267 = .ok (.iastore, 1) := by decide +kernel
theorem dX11_blots_268 : decode cX11_blots 268 = .ok (.aload_n 0, 1) := by decide +kernel
theorem dX11_blots_269 : decode cX11_blots 269 = .ok (.getfield 62, 3) := by decide +kernel
theorem dX11_blots_272 : decode cX11_blots 272 = .ok (.iload 5, 2) := by decide +kernel
theorem dX11_blots_274 : decode cX11_blots 274 = .ok (.aaload, 1) := by decide +kernel
theorem dX11_blots_275 : decode cX11_blots 275 = .ok (.iconst 0, 1) := by decide +kernel
theorem dX11_blots_276 : decode cX11_blots 276 = .ok (.iload_n 1, 1) := by decide +kernel
theorem dX11_blots_277 : decode cX11_blots 277 = .ok (.iastore, 1) := by decide +kernel
theorem dX11_blots_278 : decode cX11_blots 278 = .ok (.aload_n 0, 1) := by decide +kernel
theorem dX11_blots_279 : decode cX11_blots 279 = .ok (.getfield 62, 3) := by decide +kernel
theorem dX11_blots_282 : decode cX11_blots 282 = .ok (.iload 5, 2) := by decide +kernel
theorem dX11_blots_284 : decode cX11_blots 284 = .ok (.aaload, 1) := by decide +kernel
theorem dX11_blots_285 : decode cX11_blots 285 = .ok (.iconst 1, 1) := by decide +kernel
theorem dX11_blots_286 : decode cX11_blots 286 = .ok (.iload 4, 2) := by decide +kernel
theorem dX11_blots_288 : decode cX11_blots 288 = .ok (.iastore, 1) := by decide +kernel
theorem dX11_blots_289 : decode cX11_blots 289 = .ok (.aload_n 0, 1) := by decide +kernel
theorem dX11_blots_290 : decode cX11_blots 290 = .ok (.getfield 62, 3) := by decide +kernel
theorem dX11_blots_293 : decode cX11_blots 293 = .ok (.iload 5, 2) := by decide +kernel
theorem dX11_blots_295 : decode cX11_blots 295 = .ok (.aaload, 1) := by decide +kernel
theorem dX11_blots_296 : decode cX11_blots 296 = .ok (.iconst 2, 1) := by decide +kernel
theorem dX11_blots_297 : decode cX11_blots 297 = .ok (.iload 6, 2) := by decide +kernel
theorem dX11_blots_299 : decode cX11_blots 299 = .ok (.iastore, 1) := by decide +kernel
theorem dX11_blots_300 : decode cX11_blots 300 = .ok (.aload_n 0, 1) := by decide +kernel
theorem dX11_blots_301 : decode cX11_blots 301 = .ok (.getfield 62, 3) := by decide +kernel
theorem dX11_blots_304 : decode cX11_blots 304 = .ok (.iload 5, 2) := by decide +kernel
theorem dX11_blots_306 : decode cX11_blots 306 = .ok (.aaload, 1) := by decide +kernel
theorem dX11_blots_307 : decode cX11_blots 307 = .ok (.iconst 3, 1) := by decide +kernel
theorem dX11_blots_308 : decode cX11_blots 308 = .ok (.aload_n 0, 1) := by decide +kernel
theorem dX11_blots_309 : decode cX11_blots 309 = .ok (.getfield 20, 3) := by decide +kernel
theorem dX11_blots_312 : decode cX11_blots 312 = .ok (.iconst 2, 1) := by decide +kernel
theorem dX11_blots_313 : decode cX11_blots 313 = .ok (.iaload, 1) := by decide +kernel
theorem dX11_blots_314 : decode cX11_blots 314 = .ok (.iastore, 1) := by decide +kernel
theorem dX11_blots_315 : decode cX11_blots 315 = .ok (.aload_n 0, 1) := by decide +kernel
theorem dX11_blots_316 : decode cX11_blots 316 = .ok (.getfield 62, 3) := by decide +kernel
theorem dX11_blots_319 : decode cX11_blots 319 = .ok (.iload 5, 2) := by decide +kernel
theorem dX11_blots_321 : decode cX11_blots 321 = .ok (.aaload, 1) := by decide +kernel
theorem dX11_blots_322 : decode cX11_blots 322 = .ok (.iconst 4, 1) := by decide +kernel
theorem dX11_blots_323 : decode cX11_blots 323 = .ok (.aload_n 0, 1) := by decide +kernel
theorem dX11_blots_324 : decode cX11_blots 324 = .ok (.getfield 20, 3) := by decide +kernel
theorem dX11_blots_327 : decode cX11_blots 327 = .ok (.iconst 5, 1) := by decide +kernel
theorem dX11_blots_328 : decode cX11_blots 328 = .ok (.iaload, 1) := by decide +kernel
theorem dX11_blots_329 : decode cX11_blots 329 = .ok (.iastore, 1) := by decide +kernel
theorem dX11_blots_330 : decode cX11_blots 330 = .ok (.aload_n 0, 1) := by decide +kernel
theorem dX11_blots_331 : decode cX11_blots 331 = .ok (.getfield 20, 3) := by decide +kernel
theorem dX11_blots_334 : decode cX11_blots 334 = .ok (.iconst 3, 1) := by decide +kernel
theorem dX11_blots_335 : decode cX11_blots 335 = .ok (.dup2, 1) := by decide +kernel
theorem dX11_blots_336 : decode cX11_blots 336 = .ok (.iaload, 1) := by decide +kernel
theorem dX11_blots_337 : decode cX11_blots 337 = .ok (.iconst 1, 1) := by decide +kernel
theorem dX11_blots_338 : decode cX11_blots 338 = .ok (.iadd, 1) := by decide +kernel
theorem dX11_blots_339 : decode cX11_blots 339 = .ok (.iastore, 1) := by decide +kernel
theorem dX11_blots_340 : decode cX11_blots 340 = .ok (.return_, 1) := by decide +kernel
abbrev mX11_blots : MD := (cX11_blots, "BlottedDeedModel", 9, 4, 95, none, "blots", [])
def bX11_blots_0 (g : GE) (J : Nat → KT) : KT := i_aload 0 (i_getf 10 10 (i_push (.int 3) (i_iaload (i_push (.int 8) (i_icne (i_jmp [true, true, true, false, false, false, false, false, false] (J 1)) (i_aload 0 (i_push (.int 3) (i_aload 0 (i_getf 10 4 (i_cv fX11_wrong g 2 10 (i_jmp [true, true, true, false, false, false, false, false, false] (J 1))))))))))))
def bX11_blots_1 (g : GE) (J : Nat → KT) : KT := i_aload 0 (i_getf 10 5 (i_ifeq (i_aload 0 (i_dup (i_getf 10 4 (i_push (.int 1) (i_iadd (i_putf 10 4 .int (i_aload 0 (i_cv fX11_blanks g 0 10 (i_aload 0 (i_getf 10 4 (i_istore 3 (i_aload 0 (i_push (.int 0) (i_push (.int 9) (i_cv fX11_number g 2 10 (i_istore 4 (i_aload 0 (i_getf 10 10 (i_push (.int 3) (i_iaload (i_istore 5 (i_push (.int 0) (i_istore 6 (i_aload 0 (i_getf 10 5 (i_ifeq (i_aload 0 (i_getf 10 25 (i_iload 5 (i_aaload 4 (i_astore 7 (i_iload 1 (i_ifne (i_jmp [true, true, true, true, true, true, true, true, false] (J 5)) (i_iload 4 (i_push (.int 3) (i_icge (i_jmp [true, true, true, true, true, true, true, true, false] (J 5)) (i_iload 4 (i_push (.int 2) (i_icne (i_push (.int 0) (i_jmp [true, true, true, true, true, true, true, true, false] (J 2))) (i_push (.int 10) (i_jmp [true, true, true, true, true, true, true, true, false] (J 2)))))))))))))))) (i_return))))))))))))))))))))))))))) (i_return)))
def bX11_blots_2 (g : GE) (J : Nat → KT) : KT := i_istore 8 (i_jmp [true, true, true, true, true, true, true, true, true] (J 3))
def bX11_blots_3 (g : GE) (J : Nat → KT) : KT := i_iload 8 (i_iload 4 (i_push (.int 1) (i_icne (i_push (.int 100) (i_jmp [true, true, true, true, true, true, true, true, true] (J 4))) (i_push (.int 10) (i_jmp [true, true, true, true, true, true, true, true, true] (J 4))))))
def bX11_blots_4 (g : GE) (J : Nat → KT) : KT := i_icge (i_jmp [true, true, true, true, true, true, true, true, false] (J 5)) (i_aload 7 (i_iload 6 (i_iload 8 (i_iastore (i_iinc 6 1 (i_iinc 8 1 (i_jmp [true, true, true, true, true, true, true, true, true] (J 3))))))))
def bX11_blots_5 (g : GE) (J : Nat → KT) : KT := i_push (.int 0) (i_istore 8 (i_jmp [true, true, true, true, true, true, true, true, true] (J 6)))
def bX11_blots_6 (g : GE) (J : Nat → KT) : KT := i_iload 8 (i_aload 0 (i_getf 10 10 (i_push (.int 0) (i_iaload (i_icge (i_jmp [true, true, true, true, true, true, true, true, false] (J 9)) (i_iload 1 (i_push (.int 1) (i_icne (i_jmp [true, true, true, true, true, true, true, true, false] (J 9)) (i_iload 4 (i_ifeq (i_jmp [true, true, true, true, true, true, true, true, true] (J 7)) (i_aload 0 (i_getf 10 12 (i_iload 8 (i_iaload (i_iload 4 (i_iceq (i_jmp [true, true, true, true, true, true, true, true, true] (J 7)) (i_jmp [true, true, true, true, true, true, true, true, true] (J 8))))))))))))))))))
def bX11_blots_7 (g : GE) (J : Nat → KT) : KT := i_aload 7 (i_iload 6 (i_iload 8 (i_iastore (i_iinc 6 1 (i_jmp [true, true, true, true, true, true, true, true, true] (J 8))))))
def bX11_blots_8 (g : GE) (J : Nat → KT) : KT := i_iinc 8 1 (i_jmp [true, true, true, true, true, true, true, true, true] (J 6))
def bX11_blots_9 (g : GE) (J : Nat → KT) : KT := i_push (.int 0) (i_istore 8 (i_jmp [true, true, true, true, true, true, true, true, true] (J 10)))
def bX11_blots_10 (g : GE) (J : Nat → KT) : KT := i_iload 8 (i_push (.int 2) (i_icge (i_jmp [true, true, true, true, true, true, true, false, false] (J 13)) (i_iload 1 (i_push (.int 2) (i_icne (i_jmp [true, true, true, true, true, true, true, false, false] (J 13)) (i_iload 4 (i_ifeq (i_jmp [true, true, true, true, true, true, true, true, true] (J 11)) (i_iload 4 (i_push (.int 2) (i_iload 8 (i_iadd (i_iceq (i_jmp [true, true, true, true, true, true, true, true, true] (J 11)) (i_jmp [true, true, true, true, true, true, true, true, true] (J 12))))))))))))))
def bX11_blots_11 (g : GE) (J : Nat → KT) : KT := i_aload 7 (i_iload 6 (i_iload 8 (i_iastore (i_iinc 6 1 (i_jmp [true, true, true, true, true, true, true, true, true] (J 12))))))
def bX11_blots_12 (g : GE) (J : Nat → KT) : KT := i_iinc 8 1 (i_jmp [true, true, true, true, true, true, true, true, true] (J 10))
def bX11_blots_13 (g : GE) (J : Nat → KT) : KT := i_iload 6 (i_ifne (i_jmp [true, true, true, false, true, true, true, false, false] (J 14)) (i_aload 0 (i_push (.int 2) (i_iload 3 (i_cv fX11_wrong g 2 10 (i_jmp [true, true, true, false, true, true, true, false, false] (J 14)))))))
def bX11_blots_14 (g : GE) (J : Nat → KT) : KT := i_aload 0 (i_getf 10 5 (i_ifeq (i_aload 2 (i_push (.int 2) (i_iload 5 (i_iastore (i_aload 0 (i_getf 10 23 (i_iload 5 (i_aaload 4 (i_push (.int 0) (i_iload 1 (i_iastore (i_aload 0 (i_getf 10 23 (i_iload 5 (i_aaload 4 (i_push (.int 1) (i_iload 4 (i_iastore (i_aload 0 (i_getf 10 23 (i_iload 5 (i_aaload 4 (i_push (.int 2) (i_iload 6 (i_iastore (i_aload 0 (i_getf 10 23 (i_iload 5 (i_aaload 4 (i_push (.int 3) (i_aload 0 (i_getf 10 10 (i_push (.int 2) (i_iaload (i_iastore (i_aload 0 (i_getf 10 23 (i_iload 5 (i_aaload 4 (i_push (.int 4) (i_aload 0 (i_getf 10 10 (i_push (.int 5) (i_iaload (i_iastore (i_aload 0 (i_getf 10 10 (i_push (.int 3) (i_dup2 (i_iaload (i_push (.int 1) (i_iadd (i_iastore (i_return)))))))))))))))))))))))))))))))))))))))))))))))))))))) (i_return)))
theorem sbX11_blots_0 (g : GE) (J : Nat → KT) (h1 : Snd mX11_blots g 20 (J 1)) (h2 : Snd mX11_blots g 106 (J 2)) (h3 : Snd mX11_blots g 108 (J 3)) (h4 : Snd mX11_blots g 123 (J 4)) (h5 : Snd mX11_blots g 142 (J 5)) (h6 : Snd mX11_blots g 145 (J 6)) (h7 : Snd mX11_blots g 181 (J 7)) (h8 : Snd mX11_blots g 191 (J 8)) (h9 : Snd mX11_blots g 197 (J 9)) (h10 : Snd mX11_blots g 200 (J 10)) (h11 : Snd mX11_blots g 228 (J 11)) (h12 : Snd mX11_blots g 238 (J 12)) (h13 : Snd mX11_blots g 244 (J 13)) (h14 : Snd mX11_blots g 255 (J 14)) : Snd mX11_blots g 0 (bX11_blots_0 g J) := by
  unfold bX11_blots_0
  refine s_aload_n (pc := 0) (i := 0) ?_ dX11_blots_0 rfl
  refine s_getf (pc := 1) (ci := 10) (f := 10) (T := TX11) ?_ ginX11 rfl (by decide) wt_1403 dX11_blots_1
  refine s_iconst (pc := 4) (v := 3) ?_ dX11_blots_4 (by decide)
  refine s_iaload (pc := 5) ?_ dX11_blots_5
  refine s_bipush (pc := 6) (v := 8) ?_ dX11_blots_6 (by decide)
  refine s_icne (pc := 8) (tgt := 20) ?_ ?_ dX11_blots_8 (by decide)
  · skip
    exact s_fall (pc := 20) h1
  · skip
    refine s_aload_n (pc := 11) (i := 0) ?_ dX11_blots_11 rfl
    refine s_iconst (pc := 12) (v := 3) ?_ dX11_blots_12 (by decide)
    refine s_aload_n (pc := 13) (i := 0) ?_ dX11_blots_13 rfl
    refine s_getf (pc := 14) (ci := 10) (f := 4) (T := TX11) ?_ ginX11 rfl (by decide) wt_1397 dX11_blots_14
    refine s_cv (pc := 17) (n := 2) (ci := 10) ?_ tX11_wrong rfl rfl wt_1599 wt_1601 wp_57 wt_17 wt_1602 ⟨crX11_wrong, by decide, by decide⟩ dX11_blots_17
    exact s_fall (pc := 20) h1
theorem sbX11_blots_1 (g : GE) (J : Nat → KT) (h1 : Snd mX11_blots g 20 (J 1)) (h2 : Snd mX11_blots g 106 (J 2)) (h3 : Snd mX11_blots g 108 (J 3)) (h4 : Snd mX11_blots g 123 (J 4)) (h5 : Snd mX11_blots g 142 (J 5)) (h6 : Snd mX11_blots g 145 (J 6)) (h7 : Snd mX11_blots g 181 (J 7)) (h8 : Snd mX11_blots g 191 (J 8)) (h9 : Snd mX11_blots g 197 (J 9)) (h10 : Snd mX11_blots g 200 (J 10)) (h11 : Snd mX11_blots g 228 (J 11)) (h12 : Snd mX11_blots g 238 (J 12)) (h13 : Snd mX11_blots g 244 (J 13)) (h14 : Snd mX11_blots g 255 (J 14)) : Snd mX11_blots g 20 (bX11_blots_1 g J) := by
  unfold bX11_blots_1
  refine s_aload_n (pc := 20) (i := 0) ?_ dX11_blots_20 rfl
  refine s_getf (pc := 21) (ci := 10) (f := 5) (T := TX11) ?_ ginX11 rfl (by decide) wt_1398 dX11_blots_21
  refine s_ifeq (pc := 24) (tgt := 28) ?_ ?_ dX11_blots_24 (by decide)
  · skip
    refine s_aload_n (pc := 28) (i := 0) ?_ dX11_blots_28 rfl
    refine s_dup (pc := 29) ?_ dX11_blots_29
    refine s_getf (pc := 30) (ci := 10) (f := 4) (T := TX11) ?_ ginX11 rfl (by decide) wt_1397 dX11_blots_30
    refine s_iconst (pc := 33) (v := 1) ?_ dX11_blots_33 (by decide)
    refine s_iadd (pc := 34) ?_ dX11_blots_34
    refine s_putf (pc := 35) (ci := 10) (f := 4) (T := TX11) (ty0 := tyX11) ?_ ginX11 tyX11_ok nmX11 rfl (by decide) rfl rfl wt_1397 dX11_blots_35
    refine s_aload_n (pc := 38) (i := 0) ?_ dX11_blots_38 rfl
    refine s_cv (pc := 39) (n := 0) (ci := 10) ?_ tX11_blanks rfl rfl wt_1564 wt_1566 wp_50 wt_17 wt_1567 ⟨crX11_blanks, by decide, by decide⟩ dX11_blots_39
    refine s_aload_n (pc := 42) (i := 0) ?_ dX11_blots_42 rfl
    refine s_getf (pc := 43) (ci := 10) (f := 4) (T := TX11) ?_ ginX11 rfl (by decide) wt_1397 dX11_blots_43
    refine s_istore_n (pc := 46) (i := 3) ?_ dX11_blots_46 rfl (by decide)
    refine s_aload_n (pc := 47) (i := 0) ?_ dX11_blots_47 rfl
    refine s_iconst (pc := 48) (v := 0) ?_ dX11_blots_48 (by decide)
    refine s_bipush (pc := 49) (v := 9) ?_ dX11_blots_49 (by decide)
    refine s_cv (pc := 51) (n := 2) (ci := 10) ?_ tX11_number rfl rfl wt_1611 wt_1613 wp_60 wt_17 wt_1614 ⟨crX11_number, by decide, by decide⟩ dX11_blots_51
    refine s_istore (pc := 54) (i := 4) ?_ dX11_blots_54 (by decide)
    refine s_aload_n (pc := 56) (i := 0) ?_ dX11_blots_56 rfl
    refine s_getf (pc := 57) (ci := 10) (f := 10) (T := TX11) ?_ ginX11 rfl (by decide) wt_1403 dX11_blots_57
    refine s_iconst (pc := 60) (v := 3) ?_ dX11_blots_60 (by decide)
    refine s_iaload (pc := 61) ?_ dX11_blots_61
    refine s_istore (pc := 62) (i := 5) ?_ dX11_blots_62 (by decide)
    refine s_iconst (pc := 64) (v := 0) ?_ dX11_blots_64 (by decide)
    refine s_istore (pc := 65) (i := 6) ?_ dX11_blots_65 (by decide)
    refine s_aload_n (pc := 67) (i := 0) ?_ dX11_blots_67 rfl
    refine s_getf (pc := 68) (ci := 10) (f := 5) (T := TX11) ?_ ginX11 rfl (by decide) wt_1398 dX11_blots_68
    refine s_ifeq (pc := 71) (tgt := 75) ?_ ?_ dX11_blots_71 (by decide)
    · skip
      refine s_aload_n (pc := 75) (i := 0) ?_ dX11_blots_75 rfl
      refine s_getf (pc := 76) (ci := 10) (f := 25) (T := TX11) ?_ ginX11 rfl (by decide) wt_1418 dX11_blots_76
      refine s_iload (pc := 79) (i := 5) ?_ dX11_blots_79
      refine s_aaload (pc := 81) (t := 4) ?_ (by decide) rfl dX11_blots_81
      refine s_astore (pc := 82) (i := 7) ?_ dX11_blots_82 (by decide)
      refine s_iload_n (pc := 84) (i := 1) ?_ dX11_blots_84 rfl
      refine s_ifne (pc := 85) (tgt := 142) ?_ ?_ dX11_blots_85 (by decide)
      · skip
        exact s_fall (pc := 142) h5
      · skip
        refine s_iload (pc := 88) (i := 4) ?_ dX11_blots_88
        refine s_iconst (pc := 90) (v := 3) ?_ dX11_blots_90 (by decide)
        refine s_icge (pc := 91) (tgt := 142) ?_ ?_ dX11_blots_91 (by decide)
        · skip
          exact s_fall (pc := 142) h5
        · skip
          refine s_iload (pc := 94) (i := 4) ?_ dX11_blots_94
          refine s_iconst (pc := 96) (v := 2) ?_ dX11_blots_96 (by decide)
          refine s_icne (pc := 97) (tgt := 105) ?_ ?_ dX11_blots_97 (by decide)
          · skip
            refine s_iconst (pc := 105) (v := 0) ?_ dX11_blots_105 (by decide)
            exact s_fall (pc := 106) h2
          · skip
            refine s_bipush (pc := 100) (v := 10) ?_ dX11_blots_100 (by decide)
            exact s_goto (pc := 102) (tgt := 106) h2 dX11_blots_102 (by decide)
    · skip
      exact s_return (pc := 74) rfl dX11_blots_74
  · skip
    exact s_return (pc := 27) rfl dX11_blots_27
theorem sbX11_blots_2 (g : GE) (J : Nat → KT) (h1 : Snd mX11_blots g 20 (J 1)) (h2 : Snd mX11_blots g 106 (J 2)) (h3 : Snd mX11_blots g 108 (J 3)) (h4 : Snd mX11_blots g 123 (J 4)) (h5 : Snd mX11_blots g 142 (J 5)) (h6 : Snd mX11_blots g 145 (J 6)) (h7 : Snd mX11_blots g 181 (J 7)) (h8 : Snd mX11_blots g 191 (J 8)) (h9 : Snd mX11_blots g 197 (J 9)) (h10 : Snd mX11_blots g 200 (J 10)) (h11 : Snd mX11_blots g 228 (J 11)) (h12 : Snd mX11_blots g 238 (J 12)) (h13 : Snd mX11_blots g 244 (J 13)) (h14 : Snd mX11_blots g 255 (J 14)) : Snd mX11_blots g 106 (bX11_blots_2 g J) := by
  unfold bX11_blots_2
  refine s_istore (pc := 106) (i := 8) ?_ dX11_blots_106 (by decide)
  exact s_fall (pc := 108) h3
theorem sbX11_blots_3 (g : GE) (J : Nat → KT) (h1 : Snd mX11_blots g 20 (J 1)) (h2 : Snd mX11_blots g 106 (J 2)) (h3 : Snd mX11_blots g 108 (J 3)) (h4 : Snd mX11_blots g 123 (J 4)) (h5 : Snd mX11_blots g 142 (J 5)) (h6 : Snd mX11_blots g 145 (J 6)) (h7 : Snd mX11_blots g 181 (J 7)) (h8 : Snd mX11_blots g 191 (J 8)) (h9 : Snd mX11_blots g 197 (J 9)) (h10 : Snd mX11_blots g 200 (J 10)) (h11 : Snd mX11_blots g 228 (J 11)) (h12 : Snd mX11_blots g 238 (J 12)) (h13 : Snd mX11_blots g 244 (J 13)) (h14 : Snd mX11_blots g 255 (J 14)) : Snd mX11_blots g 108 (bX11_blots_3 g J) := by
  unfold bX11_blots_3
  refine s_iload (pc := 108) (i := 8) ?_ dX11_blots_108
  refine s_iload (pc := 110) (i := 4) ?_ dX11_blots_110
  refine s_iconst (pc := 112) (v := 1) ?_ dX11_blots_112 (by decide)
  refine s_icne (pc := 113) (tgt := 121) ?_ ?_ dX11_blots_113 (by decide)
  · skip
    refine s_bipush (pc := 121) (v := 100) ?_ dX11_blots_121 (by decide)
    exact s_fall (pc := 123) h4
  · skip
    refine s_bipush (pc := 116) (v := 10) ?_ dX11_blots_116 (by decide)
    exact s_goto (pc := 118) (tgt := 123) h4 dX11_blots_118 (by decide)
theorem sbX11_blots_4 (g : GE) (J : Nat → KT) (h1 : Snd mX11_blots g 20 (J 1)) (h2 : Snd mX11_blots g 106 (J 2)) (h3 : Snd mX11_blots g 108 (J 3)) (h4 : Snd mX11_blots g 123 (J 4)) (h5 : Snd mX11_blots g 142 (J 5)) (h6 : Snd mX11_blots g 145 (J 6)) (h7 : Snd mX11_blots g 181 (J 7)) (h8 : Snd mX11_blots g 191 (J 8)) (h9 : Snd mX11_blots g 197 (J 9)) (h10 : Snd mX11_blots g 200 (J 10)) (h11 : Snd mX11_blots g 228 (J 11)) (h12 : Snd mX11_blots g 238 (J 12)) (h13 : Snd mX11_blots g 244 (J 13)) (h14 : Snd mX11_blots g 255 (J 14)) : Snd mX11_blots g 123 (bX11_blots_4 g J) := by
  unfold bX11_blots_4
  refine s_icge (pc := 123) (tgt := 142) ?_ ?_ dX11_blots_123 (by decide)
  · skip
    exact s_fall (pc := 142) h5
  · skip
    refine s_aload (pc := 126) (i := 7) ?_ dX11_blots_126
    refine s_iload (pc := 128) (i := 6) ?_ dX11_blots_128
    refine s_iload (pc := 130) (i := 8) ?_ dX11_blots_130
    refine s_iastore (pc := 132) ?_ dX11_blots_132
    refine s_iinc (pc := 133) (i := 6) (v := 1) ?_ dX11_blots_133 (by decide) (by decide)
    refine s_iinc (pc := 136) (i := 8) (v := 1) ?_ dX11_blots_136 (by decide) (by decide)
    exact s_goto (pc := 139) (tgt := 108) h3 dX11_blots_139 (by decide)
theorem sbX11_blots_5 (g : GE) (J : Nat → KT) (h1 : Snd mX11_blots g 20 (J 1)) (h2 : Snd mX11_blots g 106 (J 2)) (h3 : Snd mX11_blots g 108 (J 3)) (h4 : Snd mX11_blots g 123 (J 4)) (h5 : Snd mX11_blots g 142 (J 5)) (h6 : Snd mX11_blots g 145 (J 6)) (h7 : Snd mX11_blots g 181 (J 7)) (h8 : Snd mX11_blots g 191 (J 8)) (h9 : Snd mX11_blots g 197 (J 9)) (h10 : Snd mX11_blots g 200 (J 10)) (h11 : Snd mX11_blots g 228 (J 11)) (h12 : Snd mX11_blots g 238 (J 12)) (h13 : Snd mX11_blots g 244 (J 13)) (h14 : Snd mX11_blots g 255 (J 14)) : Snd mX11_blots g 142 (bX11_blots_5 g J) := by
  unfold bX11_blots_5
  refine s_iconst (pc := 142) (v := 0) ?_ dX11_blots_142 (by decide)
  refine s_istore (pc := 143) (i := 8) ?_ dX11_blots_143 (by decide)
  exact s_fall (pc := 145) h6
theorem sbX11_blots_6 (g : GE) (J : Nat → KT) (h1 : Snd mX11_blots g 20 (J 1)) (h2 : Snd mX11_blots g 106 (J 2)) (h3 : Snd mX11_blots g 108 (J 3)) (h4 : Snd mX11_blots g 123 (J 4)) (h5 : Snd mX11_blots g 142 (J 5)) (h6 : Snd mX11_blots g 145 (J 6)) (h7 : Snd mX11_blots g 181 (J 7)) (h8 : Snd mX11_blots g 191 (J 8)) (h9 : Snd mX11_blots g 197 (J 9)) (h10 : Snd mX11_blots g 200 (J 10)) (h11 : Snd mX11_blots g 228 (J 11)) (h12 : Snd mX11_blots g 238 (J 12)) (h13 : Snd mX11_blots g 244 (J 13)) (h14 : Snd mX11_blots g 255 (J 14)) : Snd mX11_blots g 145 (bX11_blots_6 g J) := by
  unfold bX11_blots_6
  refine s_iload (pc := 145) (i := 8) ?_ dX11_blots_145
  refine s_aload_n (pc := 147) (i := 0) ?_ dX11_blots_147 rfl
  refine s_getf (pc := 148) (ci := 10) (f := 10) (T := TX11) ?_ ginX11 rfl (by decide) wt_1403 dX11_blots_148
  refine s_iconst (pc := 151) (v := 0) ?_ dX11_blots_151 (by decide)
  refine s_iaload (pc := 152) ?_ dX11_blots_152
  refine s_icge (pc := 153) (tgt := 197) ?_ ?_ dX11_blots_153 (by decide)
  · skip
    exact s_fall (pc := 197) h9
  · skip
    refine s_iload_n (pc := 156) (i := 1) ?_ dX11_blots_156 rfl
    refine s_iconst (pc := 157) (v := 1) ?_ dX11_blots_157 (by decide)
    refine s_icne (pc := 158) (tgt := 197) ?_ ?_ dX11_blots_158 (by decide)
    · skip
      exact s_fall (pc := 197) h9
    · skip
      refine s_iload (pc := 161) (i := 4) ?_ dX11_blots_161
      refine s_ifeq (pc := 163) (tgt := 181) ?_ ?_ dX11_blots_163 (by decide)
      · skip
        exact s_fall (pc := 181) h7
      · skip
        refine s_aload_n (pc := 166) (i := 0) ?_ dX11_blots_166 rfl
        refine s_getf (pc := 167) (ci := 10) (f := 12) (T := TX11) ?_ ginX11 rfl (by decide) wt_1405 dX11_blots_167
        refine s_iload (pc := 170) (i := 8) ?_ dX11_blots_170
        refine s_iaload (pc := 172) ?_ dX11_blots_172
        refine s_iload (pc := 173) (i := 4) ?_ dX11_blots_173
        refine s_iceq (pc := 175) (tgt := 181) ?_ ?_ dX11_blots_175 (by decide)
        · skip
          exact s_fall (pc := 181) h7
        · skip
          exact s_goto (pc := 178) (tgt := 191) h8 dX11_blots_178 (by decide)
theorem sbX11_blots_7 (g : GE) (J : Nat → KT) (h1 : Snd mX11_blots g 20 (J 1)) (h2 : Snd mX11_blots g 106 (J 2)) (h3 : Snd mX11_blots g 108 (J 3)) (h4 : Snd mX11_blots g 123 (J 4)) (h5 : Snd mX11_blots g 142 (J 5)) (h6 : Snd mX11_blots g 145 (J 6)) (h7 : Snd mX11_blots g 181 (J 7)) (h8 : Snd mX11_blots g 191 (J 8)) (h9 : Snd mX11_blots g 197 (J 9)) (h10 : Snd mX11_blots g 200 (J 10)) (h11 : Snd mX11_blots g 228 (J 11)) (h12 : Snd mX11_blots g 238 (J 12)) (h13 : Snd mX11_blots g 244 (J 13)) (h14 : Snd mX11_blots g 255 (J 14)) : Snd mX11_blots g 181 (bX11_blots_7 g J) := by
  unfold bX11_blots_7
  refine s_aload (pc := 181) (i := 7) ?_ dX11_blots_181
  refine s_iload (pc := 183) (i := 6) ?_ dX11_blots_183
  refine s_iload (pc := 185) (i := 8) ?_ dX11_blots_185
  refine s_iastore (pc := 187) ?_ dX11_blots_187
  refine s_iinc (pc := 188) (i := 6) (v := 1) ?_ dX11_blots_188 (by decide) (by decide)
  exact s_fall (pc := 191) h8
theorem sbX11_blots_8 (g : GE) (J : Nat → KT) (h1 : Snd mX11_blots g 20 (J 1)) (h2 : Snd mX11_blots g 106 (J 2)) (h3 : Snd mX11_blots g 108 (J 3)) (h4 : Snd mX11_blots g 123 (J 4)) (h5 : Snd mX11_blots g 142 (J 5)) (h6 : Snd mX11_blots g 145 (J 6)) (h7 : Snd mX11_blots g 181 (J 7)) (h8 : Snd mX11_blots g 191 (J 8)) (h9 : Snd mX11_blots g 197 (J 9)) (h10 : Snd mX11_blots g 200 (J 10)) (h11 : Snd mX11_blots g 228 (J 11)) (h12 : Snd mX11_blots g 238 (J 12)) (h13 : Snd mX11_blots g 244 (J 13)) (h14 : Snd mX11_blots g 255 (J 14)) : Snd mX11_blots g 191 (bX11_blots_8 g J) := by
  unfold bX11_blots_8
  refine s_iinc (pc := 191) (i := 8) (v := 1) ?_ dX11_blots_191 (by decide) (by decide)
  exact s_goto (pc := 194) (tgt := 145) h6 dX11_blots_194 (by decide)
theorem sbX11_blots_9 (g : GE) (J : Nat → KT) (h1 : Snd mX11_blots g 20 (J 1)) (h2 : Snd mX11_blots g 106 (J 2)) (h3 : Snd mX11_blots g 108 (J 3)) (h4 : Snd mX11_blots g 123 (J 4)) (h5 : Snd mX11_blots g 142 (J 5)) (h6 : Snd mX11_blots g 145 (J 6)) (h7 : Snd mX11_blots g 181 (J 7)) (h8 : Snd mX11_blots g 191 (J 8)) (h9 : Snd mX11_blots g 197 (J 9)) (h10 : Snd mX11_blots g 200 (J 10)) (h11 : Snd mX11_blots g 228 (J 11)) (h12 : Snd mX11_blots g 238 (J 12)) (h13 : Snd mX11_blots g 244 (J 13)) (h14 : Snd mX11_blots g 255 (J 14)) : Snd mX11_blots g 197 (bX11_blots_9 g J) := by
  unfold bX11_blots_9
  refine s_iconst (pc := 197) (v := 0) ?_ dX11_blots_197 (by decide)
  refine s_istore (pc := 198) (i := 8) ?_ dX11_blots_198 (by decide)
  exact s_fall (pc := 200) h10
theorem sbX11_blots_10 (g : GE) (J : Nat → KT) (h1 : Snd mX11_blots g 20 (J 1)) (h2 : Snd mX11_blots g 106 (J 2)) (h3 : Snd mX11_blots g 108 (J 3)) (h4 : Snd mX11_blots g 123 (J 4)) (h5 : Snd mX11_blots g 142 (J 5)) (h6 : Snd mX11_blots g 145 (J 6)) (h7 : Snd mX11_blots g 181 (J 7)) (h8 : Snd mX11_blots g 191 (J 8)) (h9 : Snd mX11_blots g 197 (J 9)) (h10 : Snd mX11_blots g 200 (J 10)) (h11 : Snd mX11_blots g 228 (J 11)) (h12 : Snd mX11_blots g 238 (J 12)) (h13 : Snd mX11_blots g 244 (J 13)) (h14 : Snd mX11_blots g 255 (J 14)) : Snd mX11_blots g 200 (bX11_blots_10 g J) := by
  unfold bX11_blots_10
  refine s_iload (pc := 200) (i := 8) ?_ dX11_blots_200
  refine s_iconst (pc := 202) (v := 2) ?_ dX11_blots_202 (by decide)
  refine s_icge (pc := 203) (tgt := 244) ?_ ?_ dX11_blots_203 (by decide)
  · skip
    exact s_fall (pc := 244) h13
  · skip
    refine s_iload_n (pc := 206) (i := 1) ?_ dX11_blots_206 rfl
    refine s_iconst (pc := 207) (v := 2) ?_ dX11_blots_207 (by decide)
    refine s_icne (pc := 208) (tgt := 244) ?_ ?_ dX11_blots_208 (by decide)
    · skip
      exact s_fall (pc := 244) h13
    · skip
      refine s_iload (pc := 211) (i := 4) ?_ dX11_blots_211
      refine s_ifeq (pc := 213) (tgt := 228) ?_ ?_ dX11_blots_213 (by decide)
      · skip
        exact s_fall (pc := 228) h11
      · skip
        refine s_iload (pc := 216) (i := 4) ?_ dX11_blots_216
        refine s_iconst (pc := 218) (v := 2) ?_ dX11_blots_218 (by decide)
        refine s_iload (pc := 219) (i := 8) ?_ dX11_blots_219
        refine s_iadd (pc := 221) ?_ dX11_blots_221
        refine s_iceq (pc := 222) (tgt := 228) ?_ ?_ dX11_blots_222 (by decide)
        · skip
          exact s_fall (pc := 228) h11
        · skip
          exact s_goto (pc := 225) (tgt := 238) h12 dX11_blots_225 (by decide)
theorem sbX11_blots_11 (g : GE) (J : Nat → KT) (h1 : Snd mX11_blots g 20 (J 1)) (h2 : Snd mX11_blots g 106 (J 2)) (h3 : Snd mX11_blots g 108 (J 3)) (h4 : Snd mX11_blots g 123 (J 4)) (h5 : Snd mX11_blots g 142 (J 5)) (h6 : Snd mX11_blots g 145 (J 6)) (h7 : Snd mX11_blots g 181 (J 7)) (h8 : Snd mX11_blots g 191 (J 8)) (h9 : Snd mX11_blots g 197 (J 9)) (h10 : Snd mX11_blots g 200 (J 10)) (h11 : Snd mX11_blots g 228 (J 11)) (h12 : Snd mX11_blots g 238 (J 12)) (h13 : Snd mX11_blots g 244 (J 13)) (h14 : Snd mX11_blots g 255 (J 14)) : Snd mX11_blots g 228 (bX11_blots_11 g J) := by
  unfold bX11_blots_11
  refine s_aload (pc := 228) (i := 7) ?_ dX11_blots_228
  refine s_iload (pc := 230) (i := 6) ?_ dX11_blots_230
  refine s_iload (pc := 232) (i := 8) ?_ dX11_blots_232
  refine s_iastore (pc := 234) ?_ dX11_blots_234
  refine s_iinc (pc := 235) (i := 6) (v := 1) ?_ dX11_blots_235 (by decide) (by decide)
  exact s_fall (pc := 238) h12
theorem sbX11_blots_12 (g : GE) (J : Nat → KT) (h1 : Snd mX11_blots g 20 (J 1)) (h2 : Snd mX11_blots g 106 (J 2)) (h3 : Snd mX11_blots g 108 (J 3)) (h4 : Snd mX11_blots g 123 (J 4)) (h5 : Snd mX11_blots g 142 (J 5)) (h6 : Snd mX11_blots g 145 (J 6)) (h7 : Snd mX11_blots g 181 (J 7)) (h8 : Snd mX11_blots g 191 (J 8)) (h9 : Snd mX11_blots g 197 (J 9)) (h10 : Snd mX11_blots g 200 (J 10)) (h11 : Snd mX11_blots g 228 (J 11)) (h12 : Snd mX11_blots g 238 (J 12)) (h13 : Snd mX11_blots g 244 (J 13)) (h14 : Snd mX11_blots g 255 (J 14)) : Snd mX11_blots g 238 (bX11_blots_12 g J) := by
  unfold bX11_blots_12
  refine s_iinc (pc := 238) (i := 8) (v := 1) ?_ dX11_blots_238 (by decide) (by decide)
  exact s_goto (pc := 241) (tgt := 200) h10 dX11_blots_241 (by decide)
theorem sbX11_blots_13 (g : GE) (J : Nat → KT) (h1 : Snd mX11_blots g 20 (J 1)) (h2 : Snd mX11_blots g 106 (J 2)) (h3 : Snd mX11_blots g 108 (J 3)) (h4 : Snd mX11_blots g 123 (J 4)) (h5 : Snd mX11_blots g 142 (J 5)) (h6 : Snd mX11_blots g 145 (J 6)) (h7 : Snd mX11_blots g 181 (J 7)) (h8 : Snd mX11_blots g 191 (J 8)) (h9 : Snd mX11_blots g 197 (J 9)) (h10 : Snd mX11_blots g 200 (J 10)) (h11 : Snd mX11_blots g 228 (J 11)) (h12 : Snd mX11_blots g 238 (J 12)) (h13 : Snd mX11_blots g 244 (J 13)) (h14 : Snd mX11_blots g 255 (J 14)) : Snd mX11_blots g 244 (bX11_blots_13 g J) := by
  unfold bX11_blots_13
  refine s_iload (pc := 244) (i := 6) ?_ dX11_blots_244
  refine s_ifne (pc := 246) (tgt := 255) ?_ ?_ dX11_blots_246 (by decide)
  · skip
    exact s_fall (pc := 255) h14
  · skip
    refine s_aload_n (pc := 249) (i := 0) ?_ dX11_blots_249 rfl
    refine s_iconst (pc := 250) (v := 2) ?_ dX11_blots_250 (by decide)
    refine s_iload_n (pc := 251) (i := 3) ?_ dX11_blots_251 rfl
    refine s_cv (pc := 252) (n := 2) (ci := 10) ?_ tX11_wrong rfl rfl wt_1599 wt_1601 wp_57 wt_17 wt_1602 ⟨crX11_wrong, by decide, by decide⟩ dX11_blots_252
    exact s_fall (pc := 255) h14
theorem sbX11_blots_14 (g : GE) (J : Nat → KT) (h1 : Snd mX11_blots g 20 (J 1)) (h2 : Snd mX11_blots g 106 (J 2)) (h3 : Snd mX11_blots g 108 (J 3)) (h4 : Snd mX11_blots g 123 (J 4)) (h5 : Snd mX11_blots g 142 (J 5)) (h6 : Snd mX11_blots g 145 (J 6)) (h7 : Snd mX11_blots g 181 (J 7)) (h8 : Snd mX11_blots g 191 (J 8)) (h9 : Snd mX11_blots g 197 (J 9)) (h10 : Snd mX11_blots g 200 (J 10)) (h11 : Snd mX11_blots g 228 (J 11)) (h12 : Snd mX11_blots g 238 (J 12)) (h13 : Snd mX11_blots g 244 (J 13)) (h14 : Snd mX11_blots g 255 (J 14)) : Snd mX11_blots g 255 (bX11_blots_14 g J) := by
  unfold bX11_blots_14
  refine s_aload_n (pc := 255) (i := 0) ?_ dX11_blots_255 rfl
  refine s_getf (pc := 256) (ci := 10) (f := 5) (T := TX11) ?_ ginX11 rfl (by decide) wt_1398 dX11_blots_256
  refine s_ifeq (pc := 259) (tgt := 263) ?_ ?_ dX11_blots_259 (by decide)
  · skip
    refine s_aload_n (pc := 263) (i := 2) ?_ dX11_blots_263 rfl
    refine s_iconst (pc := 264) (v := 2) ?_ dX11_blots_264 (by decide)
    refine s_iload (pc := 265) (i := 5) ?_ dX11_blots_265
    refine s_iastore (pc := 267) ?_ dX11_blots_267
    refine s_aload_n (pc := 268) (i := 0) ?_ dX11_blots_268 rfl
    refine s_getf (pc := 269) (ci := 10) (f := 23) (T := TX11) ?_ ginX11 rfl (by decide) wt_1416 dX11_blots_269
    refine s_iload (pc := 272) (i := 5) ?_ dX11_blots_272
    refine s_aaload (pc := 274) (t := 4) ?_ (by decide) rfl dX11_blots_274
    refine s_iconst (pc := 275) (v := 0) ?_ dX11_blots_275 (by decide)
    refine s_iload_n (pc := 276) (i := 1) ?_ dX11_blots_276 rfl
    refine s_iastore (pc := 277) ?_ dX11_blots_277
    refine s_aload_n (pc := 278) (i := 0) ?_ dX11_blots_278 rfl
    refine s_getf (pc := 279) (ci := 10) (f := 23) (T := TX11) ?_ ginX11 rfl (by decide) wt_1416 dX11_blots_279
    refine s_iload (pc := 282) (i := 5) ?_ dX11_blots_282
    refine s_aaload (pc := 284) (t := 4) ?_ (by decide) rfl dX11_blots_284
    refine s_iconst (pc := 285) (v := 1) ?_ dX11_blots_285 (by decide)
    refine s_iload (pc := 286) (i := 4) ?_ dX11_blots_286
    refine s_iastore (pc := 288) ?_ dX11_blots_288
    refine s_aload_n (pc := 289) (i := 0) ?_ dX11_blots_289 rfl
    refine s_getf (pc := 290) (ci := 10) (f := 23) (T := TX11) ?_ ginX11 rfl (by decide) wt_1416 dX11_blots_290
    refine s_iload (pc := 293) (i := 5) ?_ dX11_blots_293
    refine s_aaload (pc := 295) (t := 4) ?_ (by decide) rfl dX11_blots_295
    refine s_iconst (pc := 296) (v := 2) ?_ dX11_blots_296 (by decide)
    refine s_iload (pc := 297) (i := 6) ?_ dX11_blots_297
    refine s_iastore (pc := 299) ?_ dX11_blots_299
    refine s_aload_n (pc := 300) (i := 0) ?_ dX11_blots_300 rfl
    refine s_getf (pc := 301) (ci := 10) (f := 23) (T := TX11) ?_ ginX11 rfl (by decide) wt_1416 dX11_blots_301
    refine s_iload (pc := 304) (i := 5) ?_ dX11_blots_304
    refine s_aaload (pc := 306) (t := 4) ?_ (by decide) rfl dX11_blots_306
    refine s_iconst (pc := 307) (v := 3) ?_ dX11_blots_307 (by decide)
    refine s_aload_n (pc := 308) (i := 0) ?_ dX11_blots_308 rfl
    refine s_getf (pc := 309) (ci := 10) (f := 10) (T := TX11) ?_ ginX11 rfl (by decide) wt_1403 dX11_blots_309
    refine s_iconst (pc := 312) (v := 2) ?_ dX11_blots_312 (by decide)
    refine s_iaload (pc := 313) ?_ dX11_blots_313
    refine s_iastore (pc := 314) ?_ dX11_blots_314
    refine s_aload_n (pc := 315) (i := 0) ?_ dX11_blots_315 rfl
    refine s_getf (pc := 316) (ci := 10) (f := 23) (T := TX11) ?_ ginX11 rfl (by decide) wt_1416 dX11_blots_316
    refine s_iload (pc := 319) (i := 5) ?_ dX11_blots_319
    refine s_aaload (pc := 321) (t := 4) ?_ (by decide) rfl dX11_blots_321
    refine s_iconst (pc := 322) (v := 4) ?_ dX11_blots_322 (by decide)
    refine s_aload_n (pc := 323) (i := 0) ?_ dX11_blots_323 rfl
    refine s_getf (pc := 324) (ci := 10) (f := 10) (T := TX11) ?_ ginX11 rfl (by decide) wt_1403 dX11_blots_324
    refine s_iconst (pc := 327) (v := 5) ?_ dX11_blots_327 (by decide)
    refine s_iaload (pc := 328) ?_ dX11_blots_328
    refine s_iastore (pc := 329) ?_ dX11_blots_329
    refine s_aload_n (pc := 330) (i := 0) ?_ dX11_blots_330 rfl
    refine s_getf (pc := 331) (ci := 10) (f := 10) (T := TX11) ?_ ginX11 rfl (by decide) wt_1403 dX11_blots_331
    refine s_iconst (pc := 334) (v := 3) ?_ dX11_blots_334 (by decide)
    refine s_dup2 (pc := 335) ?_ dX11_blots_335
    refine s_iaload (pc := 336) ?_ dX11_blots_336
    refine s_iconst (pc := 337) (v := 1) ?_ dX11_blots_337 (by decide)
    refine s_iadd (pc := 338) ?_ dX11_blots_338
    refine s_iastore (pc := 339) ?_ dX11_blots_339
    exact s_return (pc := 340) rfl dX11_blots_340
  · skip
    exact s_return (pc := 262) rfl dX11_blots_262
def jX11_blots (g : GE) : Nat → Nat → KT
  | 0, _ => fun _ _ _ => none
  | n + 1, 0 => bX11_blots_0 g (jX11_blots g n)
  | n + 1, 1 => bX11_blots_1 g (jX11_blots g n)
  | n + 1, 2 => bX11_blots_2 g (jX11_blots g n)
  | n + 1, 3 => bX11_blots_3 g (jX11_blots g n)
  | n + 1, 4 => bX11_blots_4 g (jX11_blots g n)
  | n + 1, 5 => bX11_blots_5 g (jX11_blots g n)
  | n + 1, 6 => bX11_blots_6 g (jX11_blots g n)
  | n + 1, 7 => bX11_blots_7 g (jX11_blots g n)
  | n + 1, 8 => bX11_blots_8 g (jX11_blots g n)
  | n + 1, 9 => bX11_blots_9 g (jX11_blots g n)
  | n + 1, 10 => bX11_blots_10 g (jX11_blots g n)
  | n + 1, 11 => bX11_blots_11 g (jX11_blots g n)
  | n + 1, 12 => bX11_blots_12 g (jX11_blots g n)
  | n + 1, 13 => bX11_blots_13 g (jX11_blots g n)
  | n + 1, 14 => bX11_blots_14 g (jX11_blots g n)
  | _ + 1, _ + 15 => fun _ _ _ => none
theorem sjX11_blots (g : GE) : ∀ n, Snd mX11_blots g 0 (jX11_blots g n 0) ∧ Snd mX11_blots g 20 (jX11_blots g n 1) ∧ Snd mX11_blots g 106 (jX11_blots g n 2) ∧ Snd mX11_blots g 108 (jX11_blots g n 3) ∧ Snd mX11_blots g 123 (jX11_blots g n 4) ∧ Snd mX11_blots g 142 (jX11_blots g n 5) ∧ Snd mX11_blots g 145 (jX11_blots g n 6) ∧ Snd mX11_blots g 181 (jX11_blots g n 7) ∧ Snd mX11_blots g 191 (jX11_blots g n 8) ∧ Snd mX11_blots g 197 (jX11_blots g n 9) ∧ Snd mX11_blots g 200 (jX11_blots g n 10) ∧ Snd mX11_blots g 228 (jX11_blots g n 11) ∧ Snd mX11_blots g 238 (jX11_blots g n 12) ∧ Snd mX11_blots g 244 (jX11_blots g n 13) ∧ Snd mX11_blots g 255 (jX11_blots g n 14)
  | 0 => ⟨s_none, s_none, s_none, s_none, s_none, s_none, s_none, s_none, s_none, s_none, s_none, s_none, s_none, s_none, s_none⟩
  | n + 1 => by
    obtain ⟨-, h1, h2, h3, h4, h5, h6, h7, h8, h9, h10, h11, h12, h13, h14⟩ := sjX11_blots g n
    exact ⟨sbX11_blots_0 g _ h1 h2 h3 h4 h5 h6 h7 h8 h9 h10 h11 h12 h13 h14, sbX11_blots_1 g _ h1 h2 h3 h4 h5 h6 h7 h8 h9 h10 h11 h12 h13 h14, sbX11_blots_2 g _ h1 h2 h3 h4 h5 h6 h7 h8 h9 h10 h11 h12 h13 h14, sbX11_blots_3 g _ h1 h2 h3 h4 h5 h6 h7 h8 h9 h10 h11 h12 h13 h14, sbX11_blots_4 g _ h1 h2 h3 h4 h5 h6 h7 h8 h9 h10 h11 h12 h13 h14, sbX11_blots_5 g _ h1 h2 h3 h4 h5 h6 h7 h8 h9 h10 h11 h12 h13 h14, sbX11_blots_6 g _ h1 h2 h3 h4 h5 h6 h7 h8 h9 h10 h11 h12 h13 h14, sbX11_blots_7 g _ h1 h2 h3 h4 h5 h6 h7 h8 h9 h10 h11 h12 h13 h14, sbX11_blots_8 g _ h1 h2 h3 h4 h5 h6 h7 h8 h9 h10 h11 h12 h13 h14, sbX11_blots_9 g _ h1 h2 h3 h4 h5 h6 h7 h8 h9 h10 h11 h12 h13 h14, sbX11_blots_10 g _ h1 h2 h3 h4 h5 h6 h7 h8 h9 h10 h11 h12 h13 h14, sbX11_blots_11 g _ h1 h2 h3 h4 h5 h6 h7 h8 h9 h10 h11 h12 h13 h14, sbX11_blots_12 g _ h1 h2 h3 h4 h5 h6 h7 h8 h9 h10 h11 h12 h13 h14, sbX11_blots_13 g _ h1 h2 h3 h4 h5 h6 h7 h8 h9 h10 h11 h12 h13 h14, sbX11_blots_14 g _ h1 h2 h3 h4 h5 h6 h7 h8 h9 h10 h11 h12 h13 h14⟩
def kX11_blots (g : GE) : KT := jX11_blots g g.1 0
theorem sX11_blots (g : GE) : Snd mX11_blots g 0 (kX11_blots g) := (sjX11_blots g g.1).1
def fX11_blots : FT := fun g av w => if (ent av).length ≤ 9 then kX11_blots g [] (entp 9 av) w else none
theorem tX11_blots : Mt yX11_blots cX11_blots 9 none 4 95 fX11_blots := Mt.of (K := kX11_blots) (by decide +kernel) (fun _ _ _ => rfl) sX11_blots
theorem crX11_blots : yX11_blots.cls ≠ "java/lang/invoke/MethodHandle" ∧ yX11_blots.cls ≠ "java/lang/invoke/VarHandle" ∧ (parseMethodDescriptor yX11_blots.desc).map (fun d => d.parameters.length) = some 2 := by decide +kernel
theorem dX11_blotsAnew_0 : decode cX11_blotsAnew 0 = .ok (.aload_n 0, 1) := by decide +kernel
theorem dX11_blotsAnew_1 : decode cX11_blotsAnew 1 = .ok (.iconst 0, 1) := by decide +kernel
theorem dX11_blotsAnew_2 : decode cX11_blotsAnew 2 = .ok (.putfield 314, 3) := by decide +kernel
theorem dX11_blotsAnew_5 : decode cX11_blotsAnew 5 = .ok (.aload_n 0, 1) := by decide +kernel
theorem dX11_blotsAnew_6 : decode cX11_blotsAnew 6 = .ok (.iconst 0, 1) := by decide +kernel
theorem dX11_blotsAnew_7 : decode cX11_blotsAnew 7 = .ok (.putfield 317, 3) := by decide +kernel
theorem dX11_blotsAnew_10 : decode cX11_blotsAnew 10 = .ok (.aload_n 0, 1) := by decide +kernel
theorem dX11_blotsAnew_11 : decode cX11_blotsAnew 11 = .ok (.iconst 0, 1) := by decide +kernel
theorem dX11_blotsAnew_12 : decode cX11_blotsAnew 12 = .ok (.putfield 320, 3) := by decide +kernel
theorem dX11_blotsAnew_15 : decode cX11_blotsAnew 15 = .ok (.aload_n 0, 1) := by decide +kernel
theorem dX11_blotsAnew_16 : decode cX11_blotsAnew 16 = .ok (.aload_n 0, 1) := by decide +kernel
theorem dX11_blotsAnew_17 : decode cX11_blotsAnew 17 = .ok (.getfield 74, 3) := by decide +kernel
theorem dX11_blotsAnew_20 : decode cX11_blotsAnew 20 = .ok (.iconst 0, 1) := by decide +kernel
theorem dX11_blotsAnew_21 : decode cX11_blotsAnew 21 = .ok (.iaload, 1) := by decide +kernel
theorem dX11_blotsAnew_22 : decode cX11_blotsAnew 22 = .ok (.invokevirtual 247, 3) := by decide +kernel
theorem dX11_blotsAnew_25 : decode cX11_blotsAnew 25 = .ok (.aload_n 0, 1) := by decide +kernel
theorem dX11_blotsAnew_26 : decode cX11_blotsAnew 26 = .ok (.getfield 95, 3) := by decide +kernel
theorem dX11_blotsAnew_29 : decode cX11_blotsAnew 29 = .ok (.iload_n 1, 1) := by decide +kernel
theorem dX11_blotsAnew_30 : decode cX11_blotsAnew 30 = .ok (.iaload, 1) := by decide +kernel
theorem dX11_blotsAnew_31 : decode cX11_blotsAnew 31 = .ok (.istore_n 3, 1) := by decide +kernel
theorem dX11_blotsAnew_32 : decode cX11_blotsAnew 32 = .ok (.aload_n 0, 1) := by decide +kernel
theorem dX11_blotsAnew_33 : decode cX11_blotsAnew 33 = .ok (.aload_n 0, 1) := by decide +kernel
theorem dX11_blotsAnew_34 : decode cX11_blotsAnew 34 = .ok (.getfield 59, 3) := by decide +kernel
theorem dX11_blotsAnew_37 : decode cX11_blotsAnew 37 = .ok (.iload_n 1, 1) := by decide +kernel
theorem dX11_blotsAnew_38 : decode cX11_blotsAnew 38 = .ok (.aaload, 1) := by decide +kernel
theorem dX11_blotsAnew_39 : decode cX11_blotsAnew 39 = .ok (.iconst 0, 1) := by decide +kernel
theorem dX11_blotsAnew_40 : decode cX11_blotsAnew 40 = .ok (.iaload, 1) := by decide +kernel
theorem dX11_blotsAnew_41 : decode cX11_blotsAnew 41 = .ok (.iload_n 3, 1) := by decide +kernel
theorem dX11_blotsAnew_42 : decode cX11_blotsAnew 42 = .ok (.iconst (-1), 1) := by decide +kernel
theorem dX11_blotsAnew_43 : decode cX11_blotsAnew 43 = .ok (.invokevirtual 323, 3) := by decide +kernel
theorem dX11_blotsAnew_46 : decode cX11_blotsAnew 46 = .ok (.istore 4, 2) := by decide +kernel
theorem dX11_blotsAnew_48 : decode cX11_blotsAnew 48 = .ok (.iload 4, 2) := by decide +kernel
theorem dX11_blotsAnew_50 : decode cX11_blotsAnew 50 = .ok (.iconst (-1), 1) := by decide +kernel
theorem dX11_blotsAnew_51 : decode cX11_blotsAnew 51 = .ok (.if_icmp .eq 116, 3) := by decide +kernel
theorem dX11_blotsAnew_54 : decode cX11_blotsAnew 54 = .ok (.aload_n 0, 1) := by decide +kernel
theorem dX11_blotsAnew_55 : decode cX11_blotsAnew 55 = .ok (.getfield 95, 3) := by decide +kernel
theorem dX11_blotsAnew_58 : decode cX11_blotsAnew 58 = .ok (.iload_n 1, 1) := by decide +kernel
theorem dX11_blotsAnew_59 : decode cX11_blotsAnew 59 = .ok (.iload 4, 2) := by decide +kernel
theorem dX11_blotsAnew_61 : decode cX11_blotsAnew 61 = .ok (.iastore, 1) := by decide +kernel
theorem dX11_blotsAnew_62 : decode cX11_blotsAnew 62 = .ok (.aload_n 0, 1) := by decide +kernel
theorem dX11_blotsAnew_63 : decode cX11_blotsAnew 63 = .ok (.dup, 1) := by decide +kernel
theorem dX11_blotsAnew_64 : decode cX11_blotsAnew 64 = .ok (.getfield 314, 3) := by decide +kernel
theorem dX11_blotsAnew_67 : decode cX11_blotsAnew 67 = .ok (.iconst 1, 1) := by decide +kernel
theorem dX11_blotsAnew_68 : decode cX11_blotsAnew 68 = .ok (.iadd, 1) := by decide +kernel
theorem dX11_blotsAnew_69 : decode cX11_blotsAnew 69 = .ok (.putfield 314, 3) := by decide +kernel
theorem dX11_blotsAnew_72 : decode cX11_blotsAnew 72 = .ok (.aload_n 0, 1) := by decide +kernel
theorem dX11_blotsAnew_73 : decode cX11_blotsAnew 73 = .ok (.iconst (-1), 1) := by decide +kernel
theorem dX11_blotsAnew_74 : decode cX11_blotsAnew 74 = .ok (.invokevirtual 250, 3) := by decide +kernel
theorem dX11_blotsAnew_77 : decode cX11_blotsAnew 77 = .ok (.aload_n 0, 1) := by decide +kernel
theorem dX11_blotsAnew_78 : decode cX11_blotsAnew 78 = .ok (.aload_n 0, 1) := by decide +kernel
theorem dX11_blotsAnew_79 : decode cX11_blotsAnew 79 = .ok (.getfield 23, 3) := by decide +kernel
theorem dX11_blotsAnew_82 : decode cX11_blotsAnew 82 = .ok (.iconst 4, 1) := by decide +kernel
theorem dX11_blotsAnew_83 : decode cX11_blotsAnew 83 = .ok (.iaload, 1) := by decide +kernel
theorem dX11_blotsAnew_84 : decode cX11_blotsAnew 84 = .ok (.invokevirtual 253, 3) := by decide +kernel
theorem dX11_blotsAnew_87 : decode cX11_blotsAnew 87 = .ok (.ifCond .eq 6, 3) := by decide +kernel
theorem dX11_blotsAnew_90 : decode cX11_blotsAnew 90 = .ok (.goto 41, 3) := by decide +kernel
theorem dX11_blotsAnew_93 : decode cX11_blotsAnew 93 = .ok (.aload_n 0, 1) := by decide +kernel
theorem dX11_blotsAnew_94 : decode cX11_blotsAnew 94 = .ok (.dup, 1) := by decide +kernel
theorem dX11_blotsAnew_95 : decode cX11_blotsAnew 95 = .ok (.getfield 317, 3) := by decide +kernel
theorem dX11_blotsAnew_98 : decode cX11_blotsAnew 98 = .ok (.iconst 1, 1) := by decide +kernel
theorem dX11_blotsAnew_99 : decode cX11_blotsAnew 99 = .ok (.iadd, 1) := by decide +kernel
theorem dX11_blotsAnew_100 : decode cX11_blotsAnew 100 = .ok (.putfield 317, 3) := by decide +kernel
theorem dX11_blotsAnew_103 : decode cX11_blotsAnew 103 = .ok (.aload_n 0, 1) := by decide +kernel
theorem dX11_blotsAnew_104 : decode cX11_blotsAnew 104 = .ok (.dup, 1) := by decide +kernel
theorem dX11_blotsAnew_105 : decode cX11_blotsAnew 105 = .ok (.getfield 320, 3) := by decide +kernel
theorem dX11_blotsAnew_108 : decode cX11_blotsAnew 108 = .ok (.iload_n 2, 1) := by decide +kernel
theorem dX11_blotsAnew_109 : decode cX11_blotsAnew 109 = .ok (.iconst (-1), 1) := by decide +kernel
theorem dX11_blotsAnew_110 : decode cX11_blotsAnew 110 = .ok (.if_icmp .ne 7, 3) := by decide +kernel
theorem dX11_blotsAnew_113 : decode cX11_blotsAnew 113 = .ok (.iconst 0, 1) := by decide +kernel
theorem dX11_blotsAnew_114 : decode cX11_blotsAnew 114 = .ok (.goto 13, 3) := by decide +kernel
theorem dX11_blotsAnew_117 : decode cX11_blotsAnew 117 = .ok (.iconst 1, 1) := by decide +kernel
theorem dX11_blotsAnew_118 : decode cX11_blotsAnew 118 = .ok (.aload_n 0, 1) := by decide +kernel
theorem dX11_blotsAnew_119 : decode cX11_blotsAnew 119 = .ok (.getfield 101, 3) := by decide +kernel
theorem dX11_blotsAnew_122 : decode cX11_blotsAnew 122 = .ok (.iload_n 2, 1) := by decide +kernel
theorem dX11_blotsAnew_123 : decode cX11_blotsAnew 123 = .ok (.iaload, 1) := by decide +kernel
theorem dX11_blotsAnew_124 : decode cX11_blotsAnew 124 = .ok (.iconst 1, 1) := by decide +kernel
theorem dX11_blotsAnew_125 : decode cX11_blotsAnew 125 = .ok (.iadd, 1) := by decide +kernel
theorem dX11_blotsAnew_126 : decode cX11_blotsAnew 126 = .ok (.ishl, 1) := by decide +kernel
theorem dX11_blotsAnew_127 : decode cX11_blotsAnew 127 = .ok (.ior, 1) := by decide +kernel
theorem dX11_blotsAnew_128 : decode cX11_blotsAnew 128 = .ok (.putfield 320, 3) := by decide +kernel
theorem dX11_blotsAnew_131 : decode cX11_blotsAnew 131 = .ok (.aload_n 0, 1) := by decide +kernel
theorem dX11_blotsAnew_132 : decode cX11_blotsAnew 132 = .ok (.getfield 59, 3) := by decide +kernel
theorem dX11_blotsAnew_135 : decode cX11_blotsAnew 135 = .ok (.iload_n 1, 1) := by decide +kernel
theorem dX11_blotsAnew_136 : decode cX11_blotsAnew 136 = .ok (.aaload, 1) := by decide +kernel
theorem dX11_blotsAnew_137 : decode cX11_blotsAnew 137 = .ok (.iconst 0, 1) := by decide +kernel
theorem dX11_blotsAnew_138 : decode cX11_blotsAnew 138 = .ok (.iaload, 1) := by decide +kernel
theorem dX11_blotsAnew_139 : decode cX11_blotsAnew 139 = .ok (.iconst 2, 1) := by decide +kernel
theorem dX11_blotsAnew_140 : decode cX11_blotsAnew 140 = .ok (.if_icmp .ne 7, 3) := by decide +kernel
theorem dX11_blotsAnew_143 : decode cX11_blotsAnew 143 = .ok (.iconst (-1), 1) := by decide +kernel
theorem dX11_blotsAnew_144 : decode cX11_blotsAnew 144 = .ok (.goto 18, 3) := by decide +kernel
theorem dX11_blotsAnew_147 : decode cX11_blotsAnew 147 = .ok (.aload_n 0, 1) := by decide +kernel
theorem dX11_blotsAnew_148 : decode cX11_blotsAnew 148 = .ok (.aload_n 0, 1) := by decide +kernel
theorem dX11_blotsAnew_149 : decode cX11_blotsAnew 149 = .ok (.getfield 59, 3) := by decide +kernel
theorem dX11_blotsAnew_152 : decode cX11_blotsAnew 152 = .ok (.iload_n 1, 1) := by decide +kernel
theorem dX11_blotsAnew_153 : decode cX11_blotsAnew 153 = .ok (.aaload, 1) := by decide +kernel
theorem dX11_blotsAnew_154 : decode cX11_blotsAnew 154 = .ok (.iconst 0, 1) := by decide +kernel
theorem dX11_blotsAnew_155 : decode cX11_blotsAnew 155 = .ok (.iaload, 1) := by decide +kernel
theorem dX11_blotsAnew_156 : decode cX11_blotsAnew 156 = .ok (.iload_n 3, 1) := by decide +kernel
theorem dX11_blotsAnew_157 : decode cX11_blotsAnew 157 = .ok (.iload 4, 2) := by decide +kernel
theorem dX11_blotsAnew_159 : decode cX11_blotsAnew 159 = .ok (.invokevirtual 323, 3) := by decide +kernel
theorem dX11_blotsAnew_162 : decode cX11_blotsAnew 162 = .ok (.istore 4, 2) := by decide +kernel
theorem dX11_blotsAnew_164 : decode cX11_blotsAnew 164 = .ok (.goto (-116), 3) := by decide +kernel
theorem dX11_blotsAnew_167 : decode cX11_blotsAnew 167 = .ok (.return_, 1) := by decide +kernel
abbrev mX11_blotsAnew : MD := (cX11_blotsAnew, "BlottedDeedModel", 5, 3, 75, none, "blotsAnew", [])
def bX11_blotsAnew_0 (g : GE) (J : Nat → KT) : KT := i_aload 0 (i_push (.int 0) (i_putf 10 45 .int (i_aload 0 (i_push (.int 0) (i_putf 10 46 .int (i_aload 0 (i_push (.int 0) (i_putf 10 47 .int (i_aload 0 (i_aload 0 (i_getf 10 28 (i_push (.int 0) (i_iaload (i_cv fX11_fills g 1 10 (i_aload 0 (i_getf 10 39 (i_iload 1 (i_iaload (i_istore 3 (i_aload 0 (i_aload 0 (i_getf 10 22 (i_iload 1 (i_aaload 4 (i_push (.int 0) (i_iaload (i_iload 3 (i_push (.int (-1)) (i_cv fX11_behind g 3 10 (i_istore 4 (i_jmp [true, true, true, true, true] (J 1))))))))))))))))))))))))))))))))
def bX11_blotsAnew_1 (g : GE) (J : Nat → KT) : KT := i_iload 4 (i_push (.int (-1)) (i_iceq (i_return) (i_aload 0 (i_getf 10 39 (i_iload 1 (i_iload 4 (i_iastore (i_aload 0 (i_dup (i_getf 10 45 (i_push (.int 1) (i_iadd (i_putf 10 45 .int (i_aload 0 (i_push (.int (-1)) (i_cv fX11_asks g 1 10 (i_aload 0 (i_aload 0 (i_getf 10 11 (i_push (.int 4) (i_iaload (i_cv fX11_broken g 1 10 (i_ifeq (i_aload 0 (i_dup (i_getf 10 46 (i_push (.int 1) (i_iadd (i_putf 10 46 .int (i_aload 0 (i_dup (i_getf 10 47 (i_iload 2 (i_push (.int (-1)) (i_icne (i_push (.int 1) (i_aload 0 (i_getf 10 41 (i_iload 2 (i_iaload (i_push (.int 1) (i_iadd (i_ishl (i_jmp [true, true, true, true, true] (J 2)))))))))) (i_push (.int 0) (i_jmp [true, true, true, true, true] (J 2))))))))))))))) (i_jmp [true, true, true, true, true] (J 3)))))))))))))))))))))))))
def bX11_blotsAnew_2 (g : GE) (J : Nat → KT) : KT := i_ior (i_putf 10 47 .int (i_jmp [true, true, true, true, true] (J 3)))
def bX11_blotsAnew_3 (g : GE) (J : Nat → KT) : KT := i_aload 0 (i_getf 10 22 (i_iload 1 (i_aaload 4 (i_push (.int 0) (i_iaload (i_push (.int 2) (i_icne (i_aload 0 (i_aload 0 (i_getf 10 22 (i_iload 1 (i_aaload 4 (i_push (.int 0) (i_iaload (i_iload 3 (i_iload 4 (i_cv fX11_behind g 3 10 (i_jmp [true, true, true, true, false] (J 4)))))))))))) (i_push (.int (-1)) (i_jmp [true, true, true, true, false] (J 4))))))))))
def bX11_blotsAnew_4 (g : GE) (J : Nat → KT) : KT := i_istore 4 (i_jmp [true, true, true, true, true] (J 1))
theorem sbX11_blotsAnew_0 (g : GE) (J : Nat → KT) (h1 : Snd mX11_blotsAnew g 48 (J 1)) (h2 : Snd mX11_blotsAnew g 127 (J 2)) (h3 : Snd mX11_blotsAnew g 131 (J 3)) (h4 : Snd mX11_blotsAnew g 162 (J 4)) : Snd mX11_blotsAnew g 0 (bX11_blotsAnew_0 g J) := by
  unfold bX11_blotsAnew_0
  refine s_aload_n (pc := 0) (i := 0) ?_ dX11_blotsAnew_0 rfl
  refine s_iconst (pc := 1) (v := 0) ?_ dX11_blotsAnew_1 (by decide)
  refine s_putf (pc := 2) (ci := 10) (f := 45) (T := TX11) (ty0 := tyX11) ?_ ginX11 tyX11_ok nmX11 rfl (by decide) rfl rfl wt_1438 dX11_blotsAnew_2
  refine s_aload_n (pc := 5) (i := 0) ?_ dX11_blotsAnew_5 rfl
  refine s_iconst (pc := 6) (v := 0) ?_ dX11_blotsAnew_6 (by decide)
  refine s_putf (pc := 7) (ci := 10) (f := 46) (T := TX11) (ty0 := tyX11) ?_ ginX11 tyX11_ok nmX11 rfl (by decide) rfl rfl wt_1439 dX11_blotsAnew_7
  refine s_aload_n (pc := 10) (i := 0) ?_ dX11_blotsAnew_10 rfl
  refine s_iconst (pc := 11) (v := 0) ?_ dX11_blotsAnew_11 (by decide)
  refine s_putf (pc := 12) (ci := 10) (f := 47) (T := TX11) (ty0 := tyX11) ?_ ginX11 tyX11_ok nmX11 rfl (by decide) rfl rfl wt_1440 dX11_blotsAnew_12
  refine s_aload_n (pc := 15) (i := 0) ?_ dX11_blotsAnew_15 rfl
  refine s_aload_n (pc := 16) (i := 0) ?_ dX11_blotsAnew_16 rfl
  refine s_getf (pc := 17) (ci := 10) (f := 28) (T := TX11) ?_ ginX11 rfl (by decide) wt_1421 dX11_blotsAnew_17
  refine s_iconst (pc := 20) (v := 0) ?_ dX11_blotsAnew_20 (by decide)
  refine s_iaload (pc := 21) ?_ dX11_blotsAnew_21
  refine s_cv (pc := 22) (n := 1) (ci := 10) ?_ tX11_fills rfl rfl wt_1377 wt_1379 wp_45 wt_17 wt_1380 ⟨crX11_fills, by decide, by decide⟩ dX11_blotsAnew_22
  refine s_aload_n (pc := 25) (i := 0) ?_ dX11_blotsAnew_25 rfl
  refine s_getf (pc := 26) (ci := 10) (f := 39) (T := TX11) ?_ ginX11 rfl (by decide) wt_1432 dX11_blotsAnew_26
  refine s_iload_n (pc := 29) (i := 1) ?_ dX11_blotsAnew_29 rfl
  refine s_iaload (pc := 30) ?_ dX11_blotsAnew_30
  refine s_istore_n (pc := 31) (i := 3) ?_ dX11_blotsAnew_31 rfl (by decide)
  refine s_aload_n (pc := 32) (i := 0) ?_ dX11_blotsAnew_32 rfl
  refine s_aload_n (pc := 33) (i := 0) ?_ dX11_blotsAnew_33 rfl
  refine s_getf (pc := 34) (ci := 10) (f := 22) (T := TX11) ?_ ginX11 rfl (by decide) wt_1415 dX11_blotsAnew_34
  refine s_iload_n (pc := 37) (i := 1) ?_ dX11_blotsAnew_37 rfl
  refine s_aaload (pc := 38) (t := 4) ?_ (by decide) rfl dX11_blotsAnew_38
  refine s_iconst (pc := 39) (v := 0) ?_ dX11_blotsAnew_39 (by decide)
  refine s_iaload (pc := 40) ?_ dX11_blotsAnew_40
  refine s_iload_n (pc := 41) (i := 3) ?_ dX11_blotsAnew_41 rfl
  refine s_iconst (pc := 42) (v := (-1)) ?_ dX11_blotsAnew_42 (by decide)
  refine s_cv (pc := 43) (n := 3) (ci := 10) ?_ tX11_behind rfl rfl wt_1839 wt_1841 wp_86 wt_17 wt_1842 ⟨crX11_behind, by decide, by decide⟩ dX11_blotsAnew_43
  refine s_istore (pc := 46) (i := 4) ?_ dX11_blotsAnew_46 (by decide)
  exact s_fall (pc := 48) h1
theorem sbX11_blotsAnew_1 (g : GE) (J : Nat → KT) (h1 : Snd mX11_blotsAnew g 48 (J 1)) (h2 : Snd mX11_blotsAnew g 127 (J 2)) (h3 : Snd mX11_blotsAnew g 131 (J 3)) (h4 : Snd mX11_blotsAnew g 162 (J 4)) : Snd mX11_blotsAnew g 48 (bX11_blotsAnew_1 g J) := by
  unfold bX11_blotsAnew_1
  refine s_iload (pc := 48) (i := 4) ?_ dX11_blotsAnew_48
  refine s_iconst (pc := 50) (v := (-1)) ?_ dX11_blotsAnew_50 (by decide)
  refine s_iceq (pc := 51) (tgt := 167) ?_ ?_ dX11_blotsAnew_51 (by decide)
  · skip
    exact s_return (pc := 167) rfl dX11_blotsAnew_167
  · skip
    refine s_aload_n (pc := 54) (i := 0) ?_ dX11_blotsAnew_54 rfl
    refine s_getf (pc := 55) (ci := 10) (f := 39) (T := TX11) ?_ ginX11 rfl (by decide) wt_1432 dX11_blotsAnew_55
    refine s_iload_n (pc := 58) (i := 1) ?_ dX11_blotsAnew_58 rfl
    refine s_iload (pc := 59) (i := 4) ?_ dX11_blotsAnew_59
    refine s_iastore (pc := 61) ?_ dX11_blotsAnew_61
    refine s_aload_n (pc := 62) (i := 0) ?_ dX11_blotsAnew_62 rfl
    refine s_dup (pc := 63) ?_ dX11_blotsAnew_63
    refine s_getf (pc := 64) (ci := 10) (f := 45) (T := TX11) ?_ ginX11 rfl (by decide) wt_1438 dX11_blotsAnew_64
    refine s_iconst (pc := 67) (v := 1) ?_ dX11_blotsAnew_67 (by decide)
    refine s_iadd (pc := 68) ?_ dX11_blotsAnew_68
    refine s_putf (pc := 69) (ci := 10) (f := 45) (T := TX11) (ty0 := tyX11) ?_ ginX11 tyX11_ok nmX11 rfl (by decide) rfl rfl wt_1438 dX11_blotsAnew_69
    refine s_aload_n (pc := 72) (i := 0) ?_ dX11_blotsAnew_72 rfl
    refine s_iconst (pc := 73) (v := (-1)) ?_ dX11_blotsAnew_73 (by decide)
    refine s_cv (pc := 74) (n := 1) (ci := 10) ?_ tX11_asks rfl rfl wt_1381 wt_1383 wp_46 wt_17 wt_1384 ⟨crX11_asks, by decide, by decide⟩ dX11_blotsAnew_74
    refine s_aload_n (pc := 77) (i := 0) ?_ dX11_blotsAnew_77 rfl
    refine s_aload_n (pc := 78) (i := 0) ?_ dX11_blotsAnew_78 rfl
    refine s_getf (pc := 79) (ci := 10) (f := 11) (T := TX11) ?_ ginX11 rfl (by decide) wt_1404 dX11_blotsAnew_79
    refine s_iconst (pc := 82) (v := 4) ?_ dX11_blotsAnew_82 (by decide)
    refine s_iaload (pc := 83) ?_ dX11_blotsAnew_83
    refine s_cv (pc := 84) (n := 1) (ci := 10) ?_ tX11_broken rfl rfl wt_1385 wt_1387 wp_47 wt_17 wt_1388 ⟨crX11_broken, by decide, by decide⟩ dX11_blotsAnew_84
    refine s_ifeq (pc := 87) (tgt := 93) ?_ ?_ dX11_blotsAnew_87 (by decide)
    · skip
      refine s_aload_n (pc := 93) (i := 0) ?_ dX11_blotsAnew_93 rfl
      refine s_dup (pc := 94) ?_ dX11_blotsAnew_94
      refine s_getf (pc := 95) (ci := 10) (f := 46) (T := TX11) ?_ ginX11 rfl (by decide) wt_1439 dX11_blotsAnew_95
      refine s_iconst (pc := 98) (v := 1) ?_ dX11_blotsAnew_98 (by decide)
      refine s_iadd (pc := 99) ?_ dX11_blotsAnew_99
      refine s_putf (pc := 100) (ci := 10) (f := 46) (T := TX11) (ty0 := tyX11) ?_ ginX11 tyX11_ok nmX11 rfl (by decide) rfl rfl wt_1439 dX11_blotsAnew_100
      refine s_aload_n (pc := 103) (i := 0) ?_ dX11_blotsAnew_103 rfl
      refine s_dup (pc := 104) ?_ dX11_blotsAnew_104
      refine s_getf (pc := 105) (ci := 10) (f := 47) (T := TX11) ?_ ginX11 rfl (by decide) wt_1440 dX11_blotsAnew_105
      refine s_iload_n (pc := 108) (i := 2) ?_ dX11_blotsAnew_108 rfl
      refine s_iconst (pc := 109) (v := (-1)) ?_ dX11_blotsAnew_109 (by decide)
      refine s_icne (pc := 110) (tgt := 117) ?_ ?_ dX11_blotsAnew_110 (by decide)
      · skip
        refine s_iconst (pc := 117) (v := 1) ?_ dX11_blotsAnew_117 (by decide)
        refine s_aload_n (pc := 118) (i := 0) ?_ dX11_blotsAnew_118 rfl
        refine s_getf (pc := 119) (ci := 10) (f := 41) (T := TX11) ?_ ginX11 rfl (by decide) wt_1434 dX11_blotsAnew_119
        refine s_iload_n (pc := 122) (i := 2) ?_ dX11_blotsAnew_122 rfl
        refine s_iaload (pc := 123) ?_ dX11_blotsAnew_123
        refine s_iconst (pc := 124) (v := 1) ?_ dX11_blotsAnew_124 (by decide)
        refine s_iadd (pc := 125) ?_ dX11_blotsAnew_125
        refine s_ishl (pc := 126) ?_ dX11_blotsAnew_126
        exact s_fall (pc := 127) h2
      · skip
        refine s_iconst (pc := 113) (v := 0) ?_ dX11_blotsAnew_113 (by decide)
        exact s_goto (pc := 114) (tgt := 127) h2 dX11_blotsAnew_114 (by decide)
    · skip
      exact s_goto (pc := 90) (tgt := 131) h3 dX11_blotsAnew_90 (by decide)
theorem sbX11_blotsAnew_2 (g : GE) (J : Nat → KT) (h1 : Snd mX11_blotsAnew g 48 (J 1)) (h2 : Snd mX11_blotsAnew g 127 (J 2)) (h3 : Snd mX11_blotsAnew g 131 (J 3)) (h4 : Snd mX11_blotsAnew g 162 (J 4)) : Snd mX11_blotsAnew g 127 (bX11_blotsAnew_2 g J) := by
  unfold bX11_blotsAnew_2
  refine s_ior (pc := 127) ?_ dX11_blotsAnew_127
  refine s_putf (pc := 128) (ci := 10) (f := 47) (T := TX11) (ty0 := tyX11) ?_ ginX11 tyX11_ok nmX11 rfl (by decide) rfl rfl wt_1440 dX11_blotsAnew_128
  exact s_fall (pc := 131) h3
theorem sbX11_blotsAnew_3 (g : GE) (J : Nat → KT) (h1 : Snd mX11_blotsAnew g 48 (J 1)) (h2 : Snd mX11_blotsAnew g 127 (J 2)) (h3 : Snd mX11_blotsAnew g 131 (J 3)) (h4 : Snd mX11_blotsAnew g 162 (J 4)) : Snd mX11_blotsAnew g 131 (bX11_blotsAnew_3 g J) := by
  unfold bX11_blotsAnew_3
  refine s_aload_n (pc := 131) (i := 0) ?_ dX11_blotsAnew_131 rfl
  refine s_getf (pc := 132) (ci := 10) (f := 22) (T := TX11) ?_ ginX11 rfl (by decide) wt_1415 dX11_blotsAnew_132
  refine s_iload_n (pc := 135) (i := 1) ?_ dX11_blotsAnew_135 rfl
  refine s_aaload (pc := 136) (t := 4) ?_ (by decide) rfl dX11_blotsAnew_136
  refine s_iconst (pc := 137) (v := 0) ?_ dX11_blotsAnew_137 (by decide)
  refine s_iaload (pc := 138) ?_ dX11_blotsAnew_138
  refine s_iconst (pc := 139) (v := 2) ?_ dX11_blotsAnew_139 (by decide)
  refine s_icne (pc := 140) (tgt := 147) ?_ ?_ dX11_blotsAnew_140 (by decide)
  · skip
    refine s_aload_n (pc := 147) (i := 0) ?_ dX11_blotsAnew_147 rfl
    refine s_aload_n (pc := 148) (i := 0) ?_ dX11_blotsAnew_148 rfl
    refine s_getf (pc := 149) (ci := 10) (f := 22) (T := TX11) ?_ ginX11 rfl (by decide) wt_1415 dX11_blotsAnew_149
    refine s_iload_n (pc := 152) (i := 1) ?_ dX11_blotsAnew_152 rfl
    refine s_aaload (pc := 153) (t := 4) ?_ (by decide) rfl dX11_blotsAnew_153
    refine s_iconst (pc := 154) (v := 0) ?_ dX11_blotsAnew_154 (by decide)
    refine s_iaload (pc := 155) ?_ dX11_blotsAnew_155
    refine s_iload_n (pc := 156) (i := 3) ?_ dX11_blotsAnew_156 rfl
    refine s_iload (pc := 157) (i := 4) ?_ dX11_blotsAnew_157
    refine s_cv (pc := 159) (n := 3) (ci := 10) ?_ tX11_behind rfl rfl wt_1839 wt_1841 wp_86 wt_17 wt_1842 ⟨crX11_behind, by decide, by decide⟩ dX11_blotsAnew_159
    exact s_fall (pc := 162) h4
  · skip
    refine s_iconst (pc := 143) (v := (-1)) ?_ dX11_blotsAnew_143 (by decide)
    exact s_goto (pc := 144) (tgt := 162) h4 dX11_blotsAnew_144 (by decide)
theorem sbX11_blotsAnew_4 (g : GE) (J : Nat → KT) (h1 : Snd mX11_blotsAnew g 48 (J 1)) (h2 : Snd mX11_blotsAnew g 127 (J 2)) (h3 : Snd mX11_blotsAnew g 131 (J 3)) (h4 : Snd mX11_blotsAnew g 162 (J 4)) : Snd mX11_blotsAnew g 162 (bX11_blotsAnew_4 g J) := by
  unfold bX11_blotsAnew_4
  refine s_istore (pc := 162) (i := 4) ?_ dX11_blotsAnew_162 (by decide)
  exact s_goto (pc := 164) (tgt := 48) h1 dX11_blotsAnew_164 (by decide)
def jX11_blotsAnew (g : GE) : Nat → Nat → KT
  | 0, _ => fun _ _ _ => none
  | n + 1, 0 => bX11_blotsAnew_0 g (jX11_blotsAnew g n)
  | n + 1, 1 => bX11_blotsAnew_1 g (jX11_blotsAnew g n)
  | n + 1, 2 => bX11_blotsAnew_2 g (jX11_blotsAnew g n)
  | n + 1, 3 => bX11_blotsAnew_3 g (jX11_blotsAnew g n)
  | n + 1, 4 => bX11_blotsAnew_4 g (jX11_blotsAnew g n)
  | _ + 1, _ + 5 => fun _ _ _ => none
theorem sjX11_blotsAnew (g : GE) : ∀ n, Snd mX11_blotsAnew g 0 (jX11_blotsAnew g n 0) ∧ Snd mX11_blotsAnew g 48 (jX11_blotsAnew g n 1) ∧ Snd mX11_blotsAnew g 127 (jX11_blotsAnew g n 2) ∧ Snd mX11_blotsAnew g 131 (jX11_blotsAnew g n 3) ∧ Snd mX11_blotsAnew g 162 (jX11_blotsAnew g n 4)
  | 0 => ⟨s_none, s_none, s_none, s_none, s_none⟩
  | n + 1 => by
    obtain ⟨-, h1, h2, h3, h4⟩ := sjX11_blotsAnew g n
    exact ⟨sbX11_blotsAnew_0 g _ h1 h2 h3 h4, sbX11_blotsAnew_1 g _ h1 h2 h3 h4, sbX11_blotsAnew_2 g _ h1 h2 h3 h4, sbX11_blotsAnew_3 g _ h1 h2 h3 h4, sbX11_blotsAnew_4 g _ h1 h2 h3 h4⟩
def kX11_blotsAnew (g : GE) : KT := jX11_blotsAnew g g.1 0
theorem sX11_blotsAnew (g : GE) : Snd mX11_blotsAnew g 0 (kX11_blotsAnew g) := (sjX11_blotsAnew g g.1).1
def fX11_blotsAnew : FT := fun g av w => if (ent av).length ≤ 5 then kX11_blotsAnew g [] (entp 5 av) w else none
theorem tX11_blotsAnew : Mt yX11_blotsAnew cX11_blotsAnew 5 none 3 75 fX11_blotsAnew := Mt.of (K := kX11_blotsAnew) (by decide +kernel) (fun _ _ _ => rfl) sX11_blotsAnew
theorem crX11_blotsAnew : yX11_blotsAnew.cls ≠ "java/lang/invoke/MethodHandle" ∧ yX11_blotsAnew.cls ≠ "java/lang/invoke/VarHandle" ∧ (parseMethodDescriptor yX11_blotsAnew.desc).map (fun d => d.parameters.length) = some 2 := by decide +kernel
theorem dX11_candidate_0 : decode cX11_candidate 0 = .ok (.aload_n 0, 1) := by decide +kernel
theorem dX11_candidate_1 : decode cX11_candidate 1 = .ok (.iconst 0, 1) := by decide +kernel
theorem dX11_candidate_2 : decode cX11_candidate 2 = .ok (.putfield 120, 3) := by decide +kernel
theorem dX11_candidate_5 : decode cX11_candidate 5 = .ok (.aload_n 0, 1) := by decide +kernel
theorem dX11_candidate_6 : decode cX11_candidate 6 = .ok (.aload_n 0, 1) := by decide +kernel
theorem dX11_candidate_7 : decode cX11_candidate 7 = .ok (.iload_n 1, 1) := by decide +kernel
theorem dX11_candidate_8 : decode cX11_candidate 8 = .ok (.invokevirtual 234, 3) := by decide +kernel
theorem dX11_candidate_11 : decode cX11_candidate 11 = .ok (.ifCond .ne 7, 3) := by decide +kernel
theorem dX11_candidate_14 : decode cX11_candidate 14 = .ok (.iconst 1, 1) := by decide +kernel
theorem dX11_candidate_15 : decode cX11_candidate 15 = .ok (.goto 4, 3) := by decide +kernel
theorem dX11_candidate_18 : decode cX11_candidate 18 = .ok (.iconst 0, 1) := by decide +kernel
theorem dX11_candidate_19 : decode cX11_candidate 19 = .ok (.iconst 1, 1) := by decide +kernel
theorem dX11_candidate_20 : decode cX11_candidate 20 = .ok (.iconst 1, 1) := by decide +kernel
theorem dX11_candidate_21 : decode cX11_candidate 21 = .ok (.invokevirtual 215, 3) := by decide +kernel
theorem dX11_candidate_24 : decode cX11_candidate 24 = .ok (.ifCond .eq 5, 3) := by decide +kernel
theorem dX11_candidate_27 : decode cX11_candidate 27 = .ok (.iconst 0, 1) := by decide +kernel
theorem dX11_candidate_28 : decode cX11_candidate 28 = .ok (.ireturn, 1) := by decide +kernel
theorem dX11_candidate_29 : decode cX11_candidate 29 = .ok (.iload_n 2, 1) := by decide +kernel
theorem dX11_candidate_30 : decode cX11_candidate 30 = .ok (.iconst 0, 1) := by decide +kernel
theorem dX11_candidate_31 : decode cX11_candidate 31 = .ok (.aload_n 0, 1) := by decide +kernel
theorem dX11_candidate_32 : decode cX11_candidate 32 = .ok (.getfield 65, 3) := by decide +kernel
theorem dX11_candidate_35 : decode cX11_candidate 35 = .ok (.iload_n 1, 1) := by decide +kernel
theorem dX11_candidate_36 : decode cX11_candidate 36 = .ok (.aaload, 1) := by decide +kernel
theorem dX11_candidate_37 : decode cX11_candidate 37 = .ok (.iconst 2, 1) := by decide +kernel
theorem dX11_candidate_38 : decode cX11_candidate 38 = .ok (.iaload, 1) := by decide +kernel
theorem dX11_candidate_39 : decode cX11_candidate 39 = .ok (.iconst 1, 1) := by decide +kernel
theorem dX11_candidate_40 : decode cX11_candidate 40 = .ok (.isub, 1) := by decide +kernel
theorem dX11_candidate_41 : decode cX11_candidate 41 = .ok (.invokestatic 154, 3) := by decide +kernel
theorem dX11_candidate_44 : decode cX11_candidate 44 = .ok (.ifCond .eq 14, 3) := by decide +kernel
theorem dX11_candidate_47 : decode cX11_candidate 47 = .ok (.aload_n 0, 1) := by decide +kernel
theorem dX11_candidate_48 : decode cX11_candidate 48 = .ok (.getfield 71, 3) := by decide +kernel
theorem dX11_candidate_51 : decode cX11_candidate 51 = .ok (.iload_n 1, 1) := by decide +kernel
theorem dX11_candidate_52 : decode cX11_candidate 52 = .ok (.aaload, 1) := by decide +kernel
theorem dX11_candidate_53 : decode cX11_candidate 53 = .ok (.iload_n 2, 1) := by decide +kernel
theorem dX11_candidate_54 : decode cX11_candidate 54 = .ok (.iaload, 1) := by decide +kernel
theorem dX11_candidate_55 : decode cX11_candidate 55 = .ok (.goto 4, 3) := by decide +kernel
theorem dX11_candidate_58 : decode cX11_candidate 58 = .ok (.iconst (-1), 1) := by decide +kernel
theorem dX11_candidate_59 : decode cX11_candidate 59 = .ok (.ireturn, 1) := by decide +kernel
abbrev mX11_candidate : MD := (cX11_candidate, "BlottedDeedModel", 3, 3, 73, (some .int), "candidate", [])
def bX11_candidate_0 (g : GE) (J : Nat → KT) : KT := i_aload 0 (i_push (.int 0) (i_putf 10 0 .int (i_aload 0 (i_aload 0 (i_iload 1 (i_cv fX11_isBlot g 1 10 (i_ifne (i_push (.int 0) (i_jmp [true, true, true] (J 1))) (i_push (.int 1) (i_jmp [true, true, true] (J 1))))))))))
def bX11_candidate_1 (g : GE) (J : Nat → KT) : KT := i_push (.int 1) (i_push (.int 1) (i_cv fX11_bad g 3 10 (i_ifeq (i_iload 2 (i_push (.int 0) (i_aload 0 (i_getf 10 24 (i_iload 1 (i_aaload 4 (i_push (.int 2) (i_iaload (i_push (.int 1) (i_isub (i_cs fX11_in g 3 (i_ifeq (i_push (.int (-1)) (i_jmp [false, false, false] (J 2))) (i_aload 0 (i_getf 10 26 (i_iload 1 (i_aaload 4 (i_iload 2 (i_iaload (i_jmp [false, false, false] (J 2)))))))))))))))))))) (i_push (.int 0) (i_ireturn)))))
def bX11_candidate_2 (g : GE) (J : Nat → KT) : KT := i_ireturn
theorem sbX11_candidate_0 (g : GE) (J : Nat → KT) (h1 : Snd mX11_candidate g 19 (J 1)) (h2 : Snd mX11_candidate g 59 (J 2)) : Snd mX11_candidate g 0 (bX11_candidate_0 g J) := by
  unfold bX11_candidate_0
  refine s_aload_n (pc := 0) (i := 0) ?_ dX11_candidate_0 rfl
  refine s_iconst (pc := 1) (v := 0) ?_ dX11_candidate_1 (by decide)
  refine s_putf (pc := 2) (ci := 10) (f := 0) (T := TX11) (ty0 := tyX11) ?_ ginX11 tyX11_ok nmX11 rfl (by decide) rfl rfl wt_1393 dX11_candidate_2
  refine s_aload_n (pc := 5) (i := 0) ?_ dX11_candidate_5 rfl
  refine s_aload_n (pc := 6) (i := 0) ?_ dX11_candidate_6 rfl
  refine s_iload_n (pc := 7) (i := 1) ?_ dX11_candidate_7 rfl
  refine s_cv (pc := 8) (n := 1) (ci := 10) ?_ tX11_isBlot rfl rfl wt_1655 wt_1657 wp_67 wt_17 wt_1658 ⟨crX11_isBlot, by decide, by decide⟩ dX11_candidate_8
  refine s_ifne (pc := 11) (tgt := 18) ?_ ?_ dX11_candidate_11 (by decide)
  · skip
    refine s_iconst (pc := 18) (v := 0) ?_ dX11_candidate_18 (by decide)
    exact s_fall (pc := 19) h1
  · skip
    refine s_iconst (pc := 14) (v := 1) ?_ dX11_candidate_14 (by decide)
    exact s_goto (pc := 15) (tgt := 19) h1 dX11_candidate_15 (by decide)
theorem sbX11_candidate_1 (g : GE) (J : Nat → KT) (h1 : Snd mX11_candidate g 19 (J 1)) (h2 : Snd mX11_candidate g 59 (J 2)) : Snd mX11_candidate g 19 (bX11_candidate_1 g J) := by
  unfold bX11_candidate_1
  refine s_iconst (pc := 19) (v := 1) ?_ dX11_candidate_19 (by decide)
  refine s_iconst (pc := 20) (v := 1) ?_ dX11_candidate_20 (by decide)
  refine s_cv (pc := 21) (n := 3) (ci := 10) ?_ tX11_bad rfl rfl wt_1560 wt_1562 wp_49 wt_17 wt_1563 ⟨crX11_bad, by decide, by decide⟩ dX11_candidate_21
  refine s_ifeq (pc := 24) (tgt := 29) ?_ ?_ dX11_candidate_24 (by decide)
  · skip
    refine s_iload_n (pc := 29) (i := 2) ?_ dX11_candidate_29 rfl
    refine s_iconst (pc := 30) (v := 0) ?_ dX11_candidate_30 (by decide)
    refine s_aload_n (pc := 31) (i := 0) ?_ dX11_candidate_31 rfl
    refine s_getf (pc := 32) (ci := 10) (f := 24) (T := TX11) ?_ ginX11 rfl (by decide) wt_1417 dX11_candidate_32
    refine s_iload_n (pc := 35) (i := 1) ?_ dX11_candidate_35 rfl
    refine s_aaload (pc := 36) (t := 4) ?_ (by decide) rfl dX11_candidate_36
    refine s_iconst (pc := 37) (v := 2) ?_ dX11_candidate_37 (by decide)
    refine s_iaload (pc := 38) ?_ dX11_candidate_38
    refine s_iconst (pc := 39) (v := 1) ?_ dX11_candidate_39 (by decide)
    refine s_isub (pc := 40) ?_ dX11_candidate_40
    refine s_cs (pc := 41) (n := 3) ?_ tX11_in wt_1557 wt_1558 wt_17 wt_1559 ⟨crX11_in, by decide, by decide⟩ dX11_candidate_41
    refine s_ifeq (pc := 44) (tgt := 58) ?_ ?_ dX11_candidate_44 (by decide)
    · skip
      refine s_iconst (pc := 58) (v := (-1)) ?_ dX11_candidate_58 (by decide)
      exact s_fall (pc := 59) h2
    · skip
      refine s_aload_n (pc := 47) (i := 0) ?_ dX11_candidate_47 rfl
      refine s_getf (pc := 48) (ci := 10) (f := 26) (T := TX11) ?_ ginX11 rfl (by decide) wt_1419 dX11_candidate_48
      refine s_iload_n (pc := 51) (i := 1) ?_ dX11_candidate_51 rfl
      refine s_aaload (pc := 52) (t := 4) ?_ (by decide) rfl dX11_candidate_52
      refine s_iload_n (pc := 53) (i := 2) ?_ dX11_candidate_53 rfl
      refine s_iaload (pc := 54) ?_ dX11_candidate_54
      exact s_goto (pc := 55) (tgt := 59) h2 dX11_candidate_55 (by decide)
  · skip
    refine s_iconst (pc := 27) (v := 0) ?_ dX11_candidate_27 (by decide)
    exact s_ireturn (pc := 28) rfl dX11_candidate_28
theorem sbX11_candidate_2 (g : GE) (J : Nat → KT) (h1 : Snd mX11_candidate g 19 (J 1)) (h2 : Snd mX11_candidate g 59 (J 2)) : Snd mX11_candidate g 59 (bX11_candidate_2 g J) := by
  unfold bX11_candidate_2
  exact s_ireturn (pc := 59) rfl dX11_candidate_59
def jX11_candidate (g : GE) : Nat → Nat → KT
  | 0, _ => fun _ _ _ => none
  | n + 1, 0 => bX11_candidate_0 g (jX11_candidate g n)
  | n + 1, 1 => bX11_candidate_1 g (jX11_candidate g n)
  | n + 1, 2 => bX11_candidate_2 g (jX11_candidate g n)
  | _ + 1, _ + 3 => fun _ _ _ => none
theorem sjX11_candidate (g : GE) : ∀ n, Snd mX11_candidate g 0 (jX11_candidate g n 0) ∧ Snd mX11_candidate g 19 (jX11_candidate g n 1) ∧ Snd mX11_candidate g 59 (jX11_candidate g n 2)
  | 0 => ⟨s_none, s_none, s_none⟩
  | n + 1 => by
    obtain ⟨-, h1, h2⟩ := sjX11_candidate g n
    exact ⟨sbX11_candidate_0 g _ h1 h2, sbX11_candidate_1 g _ h1 h2, sbX11_candidate_2 g _ h1 h2⟩
def kX11_candidate (g : GE) : KT := jX11_candidate g g.1 0
theorem sX11_candidate (g : GE) : Snd mX11_candidate g 0 (kX11_candidate g) := (sjX11_candidate g g.1).1
def fX11_candidate : FT := fun g av w => if (ent av).length ≤ 3 then kX11_candidate g [] (entp 3 av) w else none
theorem tX11_candidate : Mt yX11_candidate cX11_candidate 3 (some .int) 3 73 fX11_candidate := Mt.of (K := kX11_candidate) (by decide +kernel) (fun _ _ _ => rfl) sX11_candidate
theorem crX11_candidate : yX11_candidate.cls ≠ "java/lang/invoke/MethodHandle" ∧ yX11_candidate.cls ≠ "java/lang/invoke/VarHandle" ∧ (parseMethodDescriptor yX11_candidate.desc).map (fun d => d.parameters.length) = some 2 := by decide +kernel
theorem dX11_lettersHere_0 : decode cX11_lettersHere 0 = .ok (.aload_n 0, 1) := by decide +kernel
theorem dX11_lettersHere_1 : decode cX11_lettersHere 1 = .ok (.invokevirtual 142, 3) := by decide +kernel
theorem dX11_lettersHere_4 : decode cX11_lettersHere 4 = .ok (.iconst 0, 1) := by decide +kernel
theorem dX11_lettersHere_5 : decode cX11_lettersHere 5 = .ok (.istore_n 1, 1) := by decide +kernel
theorem dX11_lettersHere_6 : decode cX11_lettersHere 6 = .ok (.aload_n 0, 1) := by decide +kernel
theorem dX11_lettersHere_7 : decode cX11_lettersHere 7 = .ok (.aload_n 0, 1) := by decide +kernel
theorem dX11_lettersHere_8 : decode cX11_lettersHere 8 = .ok (.getfield 129, 3) := by decide +kernel
theorem dX11_lettersHere_11 : decode cX11_lettersHere 11 = .ok (.iload_n 1, 1) := by decide +kernel
theorem dX11_lettersHere_12 : decode cX11_lettersHere 12 = .ok (.iadd, 1) := by decide +kernel
theorem dX11_lettersHere_13 : decode cX11_lettersHere 13 = .ok (.invokevirtual 132, 3) := by decide +kernel
theorem dX11_lettersHere_16 : decode cX11_lettersHere 16 = .ok (.bipush 97, 2) := by decide +kernel
theorem dX11_lettersHere_18 : decode cX11_lettersHere 18 = .ok (.if_icmp .lt 24, 3) := by decide +kernel
theorem dX11_lettersHere_21 : decode cX11_lettersHere 21 = .ok (.aload_n 0, 1) := by decide +kernel
theorem dX11_lettersHere_22 : decode cX11_lettersHere 22 = .ok (.aload_n 0, 1) := by decide +kernel
theorem dX11_lettersHere_23 : decode cX11_lettersHere 23 = .ok (.getfield 129, 3) := by decide +kernel
theorem dX11_lettersHere_26 : decode cX11_lettersHere 26 = .ok (.iload_n 1, 1) := by decide +kernel
theorem dX11_lettersHere_27 : decode cX11_lettersHere 27 = .ok (.iadd, 1) := by decide +kernel
theorem dX11_lettersHere_28 : decode cX11_lettersHere 28 = .ok (.invokevirtual 132, 3) := by decide +kernel
theorem dX11_lettersHere_31 : decode cX11_lettersHere 31 = .ok (.bipush 122, 2) := by decide +kernel
theorem dX11_lettersHere_33 : decode cX11_lettersHere 33 = .ok (.if_icmp .gt 9, 3) := by decide +kernel
theorem dX11_lettersHere_36 : decode cX11_lettersHere 36 = .ok (.iinc 1 1, 3) := by decide +kernel
theorem dX11_lettersHere_39 : decode cX11_lettersHere 39 = .ok (.goto (-33), 3) := by decide +kernel
theorem dX11_lettersHere_42 : decode cX11_lettersHere 42 = .ok (.iload_n 1, 1) := by decide +kernel
theorem dX11_lettersHere_43 : decode cX11_lettersHere 43 = .ok (.ireturn, 1) := by decide +kernel
abbrev mX11_lettersHere : MD := (cX11_lettersHere, "BlottedDeedModel", 2, 3, 71, (some .int), "lettersHere", [])
def bX11_lettersHere_0 (g : GE) (J : Nat → KT) : KT := i_aload 0 (i_cv fX11_blanks g 0 10 (i_push (.int 0) (i_istore 1 (i_jmp [true, true] (J 1)))))
def bX11_lettersHere_1 (g : GE) (J : Nat → KT) : KT := i_aload 0 (i_aload 0 (i_getf 10 4 (i_iload 1 (i_iadd (i_cv fX11_byteAt g 1 10 (i_push (.int 97) (i_iclt (i_jmp [false, true] (J 2)) (i_aload 0 (i_aload 0 (i_getf 10 4 (i_iload 1 (i_iadd (i_cv fX11_byteAt g 1 10 (i_push (.int 122) (i_icgt (i_jmp [false, true] (J 2)) (i_iinc 1 1 (i_jmp [true, true] (J 1))))))))))))))))))
def bX11_lettersHere_2 (g : GE) (J : Nat → KT) : KT := i_iload 1 (i_ireturn)
theorem sbX11_lettersHere_0 (g : GE) (J : Nat → KT) (h1 : Snd mX11_lettersHere g 6 (J 1)) (h2 : Snd mX11_lettersHere g 42 (J 2)) : Snd mX11_lettersHere g 0 (bX11_lettersHere_0 g J) := by
  unfold bX11_lettersHere_0
  refine s_aload_n (pc := 0) (i := 0) ?_ dX11_lettersHere_0 rfl
  refine s_cv (pc := 1) (n := 0) (ci := 10) ?_ tX11_blanks rfl rfl wt_1564 wt_1566 wp_50 wt_17 wt_1567 ⟨crX11_blanks, by decide, by decide⟩ dX11_lettersHere_1
  refine s_iconst (pc := 4) (v := 0) ?_ dX11_lettersHere_4 (by decide)
  refine s_istore_n (pc := 5) (i := 1) ?_ dX11_lettersHere_5 rfl (by decide)
  exact s_fall (pc := 6) h1
theorem sbX11_lettersHere_1 (g : GE) (J : Nat → KT) (h1 : Snd mX11_lettersHere g 6 (J 1)) (h2 : Snd mX11_lettersHere g 42 (J 2)) : Snd mX11_lettersHere g 6 (bX11_lettersHere_1 g J) := by
  unfold bX11_lettersHere_1
  refine s_aload_n (pc := 6) (i := 0) ?_ dX11_lettersHere_6 rfl
  refine s_aload_n (pc := 7) (i := 0) ?_ dX11_lettersHere_7 rfl
  refine s_getf (pc := 8) (ci := 10) (f := 4) (T := TX11) ?_ ginX11 rfl (by decide) wt_1397 dX11_lettersHere_8
  refine s_iload_n (pc := 11) (i := 1) ?_ dX11_lettersHere_11 rfl
  refine s_iadd (pc := 12) ?_ dX11_lettersHere_12
  refine s_cv (pc := 13) (n := 1) (ci := 10) ?_ tX11_byteAt rfl rfl wt_1568 wt_1570 wp_51 wt_17 wt_1571 ⟨crX11_byteAt, by decide, by decide⟩ dX11_lettersHere_13
  refine s_bipush (pc := 16) (v := 97) ?_ dX11_lettersHere_16 (by decide)
  refine s_iclt (pc := 18) (tgt := 42) ?_ ?_ dX11_lettersHere_18 (by decide)
  · skip
    exact s_fall (pc := 42) h2
  · skip
    refine s_aload_n (pc := 21) (i := 0) ?_ dX11_lettersHere_21 rfl
    refine s_aload_n (pc := 22) (i := 0) ?_ dX11_lettersHere_22 rfl
    refine s_getf (pc := 23) (ci := 10) (f := 4) (T := TX11) ?_ ginX11 rfl (by decide) wt_1397 dX11_lettersHere_23
    refine s_iload_n (pc := 26) (i := 1) ?_ dX11_lettersHere_26 rfl
    refine s_iadd (pc := 27) ?_ dX11_lettersHere_27
    refine s_cv (pc := 28) (n := 1) (ci := 10) ?_ tX11_byteAt rfl rfl wt_1568 wt_1570 wp_51 wt_17 wt_1571 ⟨crX11_byteAt, by decide, by decide⟩ dX11_lettersHere_28
    refine s_bipush (pc := 31) (v := 122) ?_ dX11_lettersHere_31 (by decide)
    refine s_icgt (pc := 33) (tgt := 42) ?_ ?_ dX11_lettersHere_33 (by decide)
    · skip
      exact s_fall (pc := 42) h2
    · skip
      refine s_iinc (pc := 36) (i := 1) (v := 1) ?_ dX11_lettersHere_36 (by decide) (by decide)
      exact s_goto (pc := 39) (tgt := 6) h1 dX11_lettersHere_39 (by decide)
theorem sbX11_lettersHere_2 (g : GE) (J : Nat → KT) (h1 : Snd mX11_lettersHere g 6 (J 1)) (h2 : Snd mX11_lettersHere g 42 (J 2)) : Snd mX11_lettersHere g 42 (bX11_lettersHere_2 g J) := by
  unfold bX11_lettersHere_2
  refine s_iload_n (pc := 42) (i := 1) ?_ dX11_lettersHere_42 rfl
  exact s_ireturn (pc := 43) rfl dX11_lettersHere_43
def jX11_lettersHere (g : GE) : Nat → Nat → KT
  | 0, _ => fun _ _ _ => none
  | n + 1, 0 => bX11_lettersHere_0 g (jX11_lettersHere g n)
  | n + 1, 1 => bX11_lettersHere_1 g (jX11_lettersHere g n)
  | n + 1, 2 => bX11_lettersHere_2 g (jX11_lettersHere g n)
  | _ + 1, _ + 3 => fun _ _ _ => none
theorem sjX11_lettersHere (g : GE) : ∀ n, Snd mX11_lettersHere g 0 (jX11_lettersHere g n 0) ∧ Snd mX11_lettersHere g 6 (jX11_lettersHere g n 1) ∧ Snd mX11_lettersHere g 42 (jX11_lettersHere g n 2)
  | 0 => ⟨s_none, s_none, s_none⟩
  | n + 1 => by
    obtain ⟨-, h1, h2⟩ := sjX11_lettersHere g n
    exact ⟨sbX11_lettersHere_0 g _ h1 h2, sbX11_lettersHere_1 g _ h1 h2, sbX11_lettersHere_2 g _ h1 h2⟩
def kX11_lettersHere (g : GE) : KT := jX11_lettersHere g g.1 0
theorem sX11_lettersHere (g : GE) : Snd mX11_lettersHere g 0 (kX11_lettersHere g) := (sjX11_lettersHere g g.1).1
def fX11_lettersHere : FT := fun g av w => if (ent av).length ≤ 2 then kX11_lettersHere g [] (entp 2 av) w else none
theorem tX11_lettersHere : Mt yX11_lettersHere cX11_lettersHere 2 (some .int) 3 71 fX11_lettersHere := Mt.of (K := kX11_lettersHere) (by decide +kernel) (fun _ _ _ => rfl) sX11_lettersHere
theorem crX11_lettersHere : yX11_lettersHere.cls ≠ "java/lang/invoke/MethodHandle" ∧ yX11_lettersHere.cls ≠ "java/lang/invoke/VarHandle" ∧ (parseMethodDescriptor yX11_lettersHere.desc).map (fun d => d.parameters.length) = some 0 := by decide +kernel
theorem dX11_wordHere_0 : decode cX11_wordHere 0 = .ok (.aload_n 0, 1) := by decide +kernel
theorem dX11_wordHere_1 : decode cX11_wordHere 1 = .ok (.invokevirtual 158, 3) := by decide +kernel
theorem dX11_wordHere_4 : decode cX11_wordHere 4 = .ok (.istore_n 1, 1) := by decide +kernel
theorem dX11_wordHere_5 : decode cX11_wordHere 5 = .ok (.lconst 0, 1) := by decide +kernel
theorem dX11_wordHere_6 : decode cX11_wordHere 6 = .ok (.lstore_n 2, 1) := by decide +kernel
theorem dX11_wordHere_7 : decode cX11_wordHere 7 = .ok (.iconst 0, 1) := by decide +kernel
theorem dX11_wordHere_8 : decode cX11_wordHere 8 = .ok (.istore 4, 2) := by decide +kernel
theorem dX11_wordHere_10 : decode cX11_wordHere 10 = .ok (.iload 4, 2) := by decide +kernel
theorem dX11_wordHere_12 : decode cX11_wordHere 12 = .ok (.iload_n 1, 1) := by decide +kernel
theorem dX11_wordHere_13 : decode cX11_wordHere 13 = .ok (.if_icmp .ge 41, 3) := by decide +kernel
theorem dX11_wordHere_16 : decode cX11_wordHere 16 = .ok (.iload 4, 2) := by decide +kernel
theorem dX11_wordHere_18 : decode cX11_wordHere 18 = .ok (.bipush 9, 2) := by decide +kernel
theorem dX11_wordHere_20 : decode cX11_wordHere 20 = .ok (.if_icmp .ge 34, 3) := by decide +kernel
theorem dX11_wordHere_23 : decode cX11_wordHere 23 = .ok (.ldc2_w 162, 3) := by decide +kernel
theorem dX11_wordHere_26 : decode cX11_wordHere 26 = .ok (.lload_n 2, 1) := by decide +kernel
theorem dX11_wordHere_27 : decode cX11_wordHere 27 = .ok (.lmul, 1) := by decide +kernel
theorem dX11_wordHere_28 : decode cX11_wordHere 28 = .ok (.aload_n 0, 1) := by decide +kernel
theorem dX11_wordHere_29 : decode cX11_wordHere 29 = .ok (.aload_n 0, 1) := by decide +kernel
theorem dX11_wordHere_30 : decode cX11_wordHere 30 = .ok (.getfield 129, 3) := by decide +kernel
theorem dX11_wordHere_33 : decode cX11_wordHere 33 = .ok (.iload 4, 2) := by decide +kernel
theorem dX11_wordHere_35 : decode cX11_wordHere 35 = .ok (.iadd, 1) := by decide +kernel
theorem dX11_wordHere_36 : decode cX11_wordHere 36 = .ok (.invokevirtual 132, 3) := by decide +kernel
theorem dX11_wordHere_39 : decode cX11_wordHere 39 = .ok (.i2l, 1) := by decide +kernel
theorem dX11_wordHere_40 : decode cX11_wordHere 40 = .ok (.ladd, 1) := by decide +kernel
theorem dX11_wordHere_41 : decode cX11_wordHere 41 = .ok (.ldc2_w 164, 3) := by decide +kernel
theorem dX11_wordHere_44 : decode cX11_wordHere 44 = .ok (.lsub, 1) := by decide +kernel
theorem dX11_wordHere_45 : decode cX11_wordHere 45 = .ok (.lconst 1, 1) := by decide +kernel
theorem dX11_wordHere_46 : decode cX11_wordHere 46 = .ok (.ladd, 1) := by decide +kernel
theorem dX11_wordHere_47 : decode cX11_wordHere 47 = .ok (.lstore_n 2, 1) := by decide +kernel
theorem dX11_wordHere_48 : decode cX11_wordHere 48 = .ok (.iinc 4 1, 3) := by decide +kernel
theorem dX11_wordHere_51 : decode cX11_wordHere 51 = .ok (.goto (-41), 3) := by decide +kernel
theorem dX11_wordHere_54 : decode cX11_wordHere 54 = .ok (.iload_n 1, 1) := by decide +kernel
theorem dX11_wordHere_55 : decode cX11_wordHere 55 = .ok (.bipush 9, 2) := by decide +kernel
theorem dX11_wordHere_57 : decode cX11_wordHere 57 = .ok (.if_icmp .le 9, 3) := by decide +kernel
theorem dX11_wordHere_60 : decode cX11_wordHere 60 = .ok (.ldc2_w 166, 3) := by decide +kernel
theorem dX11_wordHere_63 : decode cX11_wordHere 63 = .ok (.goto 4, 3) := by decide +kernel
theorem dX11_wordHere_66 : decode cX11_wordHere 66 = .ok (.lload_n 2, 1) := by decide +kernel
theorem dX11_wordHere_67 : decode cX11_wordHere 67 = .ok (.lreturn, 1) := by decide +kernel
abbrev mX11_wordHere : MD := (cX11_wordHere, "BlottedDeedModel", 5, 4, 92, (some .long), "wordHere", [])
def bX11_wordHere_0 (g : GE) (J : Nat → KT) : KT := i_aload 0 (i_cv fX11_lettersHere g 0 10 (i_istore 1 (i_push (.long 0) (i_lstore 2 (i_push (.int 0) (i_istore 4 (i_jmp [true, true, true, false, true] (J 1))))))))
def bX11_wordHere_1 (g : GE) (J : Nat → KT) : KT := i_iload 4 (i_iload 1 (i_icge (i_jmp [false, true, true, false, false] (J 2)) (i_iload 4 (i_push (.int 9) (i_icge (i_jmp [false, true, true, false, false] (J 2)) (i_push (.long 27) (i_lload 2 (i_lmul (i_aload 0 (i_aload 0 (i_getf 10 4 (i_iload 4 (i_iadd (i_cv fX11_byteAt g 1 10 (i_i2l (i_ladd (i_push (.long 97) (i_lsub (i_push (.long 1) (i_ladd (i_lstore 2 (i_iinc 4 1 (i_jmp [true, true, true, false, true] (J 1))))))))))))))))))))))))
def bX11_wordHere_2 (g : GE) (J : Nat → KT) : KT := i_iload 1 (i_push (.int 9) (i_icle (i_lload 2 (i_jmp [false, false, false, false, false] (J 3))) (i_push (.long (-1)) (i_jmp [false, false, false, false, false] (J 3)))))
def bX11_wordHere_3 (g : GE) (J : Nat → KT) : KT := i_lreturn
theorem sbX11_wordHere_0 (g : GE) (J : Nat → KT) (h1 : Snd mX11_wordHere g 10 (J 1)) (h2 : Snd mX11_wordHere g 54 (J 2)) (h3 : Snd mX11_wordHere g 67 (J 3)) : Snd mX11_wordHere g 0 (bX11_wordHere_0 g J) := by
  unfold bX11_wordHere_0
  refine s_aload_n (pc := 0) (i := 0) ?_ dX11_wordHere_0 rfl
  refine s_cv (pc := 1) (n := 0) (ci := 10) ?_ tX11_lettersHere rfl rfl wt_1588 wt_1590 wp_56 wt_17 wt_1591 ⟨crX11_lettersHere, by decide, by decide⟩ dX11_wordHere_1
  refine s_istore_n (pc := 4) (i := 1) ?_ dX11_wordHere_4 rfl (by decide)
  refine s_lconst (pc := 5) (v := 0) ?_ dX11_wordHere_5 (by decide)
  refine s_lstore_n (pc := 6) (i := 2) ?_ dX11_wordHere_6 rfl (by decide)
  refine s_iconst (pc := 7) (v := 0) ?_ dX11_wordHere_7 (by decide)
  refine s_istore (pc := 8) (i := 4) ?_ dX11_wordHere_8 (by decide)
  exact s_fall (pc := 10) h1
theorem sbX11_wordHere_1 (g : GE) (J : Nat → KT) (h1 : Snd mX11_wordHere g 10 (J 1)) (h2 : Snd mX11_wordHere g 54 (J 2)) (h3 : Snd mX11_wordHere g 67 (J 3)) : Snd mX11_wordHere g 10 (bX11_wordHere_1 g J) := by
  unfold bX11_wordHere_1
  refine s_iload (pc := 10) (i := 4) ?_ dX11_wordHere_10
  refine s_iload_n (pc := 12) (i := 1) ?_ dX11_wordHere_12 rfl
  refine s_icge (pc := 13) (tgt := 54) ?_ ?_ dX11_wordHere_13 (by decide)
  · skip
    exact s_fall (pc := 54) h2
  · skip
    refine s_iload (pc := 16) (i := 4) ?_ dX11_wordHere_16
    refine s_bipush (pc := 18) (v := 9) ?_ dX11_wordHere_18 (by decide)
    refine s_icge (pc := 20) (tgt := 54) ?_ ?_ dX11_wordHere_20 (by decide)
    · skip
      exact s_fall (pc := 54) h2
    · skip
      refine s_ldc2 (pc := 23) (v := 27) ?_ wt_1592 dX11_wordHere_23
      refine s_lload_n (pc := 26) (i := 2) ?_ dX11_wordHere_26 rfl
      refine s_lmul (pc := 27) ?_ dX11_wordHere_27
      refine s_aload_n (pc := 28) (i := 0) ?_ dX11_wordHere_28 rfl
      refine s_aload_n (pc := 29) (i := 0) ?_ dX11_wordHere_29 rfl
      refine s_getf (pc := 30) (ci := 10) (f := 4) (T := TX11) ?_ ginX11 rfl (by decide) wt_1397 dX11_wordHere_30
      refine s_iload (pc := 33) (i := 4) ?_ dX11_wordHere_33
      refine s_iadd (pc := 35) ?_ dX11_wordHere_35
      refine s_cv (pc := 36) (n := 1) (ci := 10) ?_ tX11_byteAt rfl rfl wt_1568 wt_1570 wp_51 wt_17 wt_1571 ⟨crX11_byteAt, by decide, by decide⟩ dX11_wordHere_36
      refine s_i2l (pc := 39) ?_ dX11_wordHere_39
      refine s_ladd (pc := 40) ?_ dX11_wordHere_40
      refine s_ldc2 (pc := 41) (v := 97) ?_ wt_1593 dX11_wordHere_41
      refine s_lsub (pc := 44) ?_ dX11_wordHere_44
      refine s_lconst (pc := 45) (v := 1) ?_ dX11_wordHere_45 (by decide)
      refine s_ladd (pc := 46) ?_ dX11_wordHere_46
      refine s_lstore_n (pc := 47) (i := 2) ?_ dX11_wordHere_47 rfl (by decide)
      refine s_iinc (pc := 48) (i := 4) (v := 1) ?_ dX11_wordHere_48 (by decide) (by decide)
      exact s_goto (pc := 51) (tgt := 10) h1 dX11_wordHere_51 (by decide)
theorem sbX11_wordHere_2 (g : GE) (J : Nat → KT) (h1 : Snd mX11_wordHere g 10 (J 1)) (h2 : Snd mX11_wordHere g 54 (J 2)) (h3 : Snd mX11_wordHere g 67 (J 3)) : Snd mX11_wordHere g 54 (bX11_wordHere_2 g J) := by
  unfold bX11_wordHere_2
  refine s_iload_n (pc := 54) (i := 1) ?_ dX11_wordHere_54 rfl
  refine s_bipush (pc := 55) (v := 9) ?_ dX11_wordHere_55 (by decide)
  refine s_icle (pc := 57) (tgt := 66) ?_ ?_ dX11_wordHere_57 (by decide)
  · skip
    refine s_lload_n (pc := 66) (i := 2) ?_ dX11_wordHere_66 rfl
    exact s_fall (pc := 67) h3
  · skip
    refine s_ldc2 (pc := 60) (v := (-1)) ?_ wt_1594 dX11_wordHere_60
    exact s_goto (pc := 63) (tgt := 67) h3 dX11_wordHere_63 (by decide)
theorem sbX11_wordHere_3 (g : GE) (J : Nat → KT) (h1 : Snd mX11_wordHere g 10 (J 1)) (h2 : Snd mX11_wordHere g 54 (J 2)) (h3 : Snd mX11_wordHere g 67 (J 3)) : Snd mX11_wordHere g 67 (bX11_wordHere_3 g J) := by
  unfold bX11_wordHere_3
  exact s_lreturn (pc := 67) rfl dX11_wordHere_67
def jX11_wordHere (g : GE) : Nat → Nat → KT
  | 0, _ => fun _ _ _ => none
  | n + 1, 0 => bX11_wordHere_0 g (jX11_wordHere g n)
  | n + 1, 1 => bX11_wordHere_1 g (jX11_wordHere g n)
  | n + 1, 2 => bX11_wordHere_2 g (jX11_wordHere g n)
  | n + 1, 3 => bX11_wordHere_3 g (jX11_wordHere g n)
  | _ + 1, _ + 4 => fun _ _ _ => none
theorem sjX11_wordHere (g : GE) : ∀ n, Snd mX11_wordHere g 0 (jX11_wordHere g n 0) ∧ Snd mX11_wordHere g 10 (jX11_wordHere g n 1) ∧ Snd mX11_wordHere g 54 (jX11_wordHere g n 2) ∧ Snd mX11_wordHere g 67 (jX11_wordHere g n 3)
  | 0 => ⟨s_none, s_none, s_none, s_none⟩
  | n + 1 => by
    obtain ⟨-, h1, h2, h3⟩ := sjX11_wordHere g n
    exact ⟨sbX11_wordHere_0 g _ h1 h2 h3, sbX11_wordHere_1 g _ h1 h2 h3, sbX11_wordHere_2 g _ h1 h2 h3, sbX11_wordHere_3 g _ h1 h2 h3⟩
def kX11_wordHere (g : GE) : KT := jX11_wordHere g g.1 0
theorem sX11_wordHere (g : GE) : Snd mX11_wordHere g 0 (kX11_wordHere g) := (sjX11_wordHere g g.1).1
def fX11_wordHere : FT := fun g av w => if (ent av).length ≤ 5 then kX11_wordHere g [] (entp 5 av) w else none
theorem tX11_wordHere : Mt yX11_wordHere cX11_wordHere 5 (some .long) 4 92 fX11_wordHere := Mt.of (K := kX11_wordHere) (by decide +kernel) (fun _ _ _ => rfl) sX11_wordHere
theorem crX11_wordHere : yX11_wordHere.cls ≠ "java/lang/invoke/MethodHandle" ∧ yX11_wordHere.cls ≠ "java/lang/invoke/VarHandle" ∧ (parseMethodDescriptor yX11_wordHere.desc).map (fun d => d.parameters.length) = some 0 := by decide +kernel
theorem dX11_six_0 : decode cX11_six 0 = .ok (.ldc2_w 162, 3) := by decide +kernel
theorem dX11_six_3 : decode cX11_six 3 = .ok (.iload_n 0, 1) := by decide +kernel
theorem dX11_six_4 : decode cX11_six 4 = .ok (.i2l, 1) := by decide +kernel
theorem dX11_six_5 : decode cX11_six 5 = .ok (.lmul, 1) := by decide +kernel
theorem dX11_six_6 : decode cX11_six 6 = .ok (.iload_n 1, 1) := by decide +kernel
theorem dX11_six_7 : decode cX11_six 7 = .ok (.i2l, 1) := by decide +kernel
theorem dX11_six_8 : decode cX11_six 8 = .ok (.ladd, 1) := by decide +kernel
theorem dX11_six_9 : decode cX11_six 9 = .ok (.lstore 6, 2) := by decide +kernel
theorem dX11_six_11 : decode cX11_six 11 = .ok (.iload_n 2, 1) := by decide +kernel
theorem dX11_six_12 : decode cX11_six 12 = .ok (.ifCond .ne 8, 3) := by decide +kernel
theorem dX11_six_15 : decode cX11_six 15 = .ok (.lload 6, 2) := by decide +kernel
theorem dX11_six_17 : decode cX11_six 17 = .ok (.goto 12, 3) := by decide +kernel
theorem dX11_six_20 : decode cX11_six 20 = .ok (.ldc2_w 162, 3) := by decide +kernel
theorem dX11_six_23 : decode cX11_six 23 = .ok (.lload 6, 2) := by decide +kernel
theorem dX11_six_25 : decode cX11_six 25 = .ok (.lmul, 1) := by decide +kernel
theorem dX11_six_26 : decode cX11_six 26 = .ok (.iload_n 2, 1) := by decide +kernel
theorem dX11_six_27 : decode cX11_six 27 = .ok (.i2l, 1) := by decide +kernel
theorem dX11_six_28 : decode cX11_six 28 = .ok (.ladd, 1) := by decide +kernel
theorem dX11_six_29 : decode cX11_six 29 = .ok (.lstore 6, 2) := by decide +kernel
theorem dX11_six_31 : decode cX11_six 31 = .ok (.iload_n 3, 1) := by decide +kernel
theorem dX11_six_32 : decode cX11_six 32 = .ok (.ifCond .ne 8, 3) := by decide +kernel
theorem dX11_six_35 : decode cX11_six 35 = .ok (.lload 6, 2) := by decide +kernel
theorem dX11_six_37 : decode cX11_six 37 = .ok (.goto 12, 3) := by decide +kernel
theorem dX11_six_40 : decode cX11_six 40 = .ok (.ldc2_w 162, 3) := by decide +kernel
theorem dX11_six_43 : decode cX11_six 43 = .ok (.lload 6, 2) := by decide +kernel
theorem dX11_six_45 : decode cX11_six 45 = .ok (.lmul, 1) := by decide +kernel
theorem dX11_six_46 : decode cX11_six 46 = .ok (.iload_n 3, 1) := by decide +kernel
theorem dX11_six_47 : decode cX11_six 47 = .ok (.i2l, 1) := by decide +kernel
theorem dX11_six_48 : decode cX11_six 48 = .ok (.ladd, 1) := by decide +kernel
theorem dX11_six_49 : decode cX11_six 49 = .ok (.lstore 6, 2) := by decide +kernel
theorem dX11_six_51 : decode cX11_six 51 = .ok (.iload 4, 2) := by decide +kernel
theorem dX11_six_53 : decode cX11_six 53 = .ok (.ifCond .ne 8, 3) := by decide +kernel
theorem dX11_six_56 : decode cX11_six 56 = .ok (.lload 6, 2) := by decide +kernel
theorem dX11_six_58 : decode cX11_six 58 = .ok (.goto 13, 3) := by decide +kernel
theorem dX11_six_61 : decode cX11_six 61 = .ok (.ldc2_w 162, 3) := by decide +kernel
theorem dX11_six_64 : decode cX11_six 64 = .ok (.lload 6, 2) := by decide +kernel
theorem dX11_six_66 : decode cX11_six 66 = .ok (.lmul, 1) := by decide +kernel
theorem dX11_six_67 : decode cX11_six 67 = .ok (.iload 4, 2) := by decide +kernel
theorem dX11_six_69 : decode cX11_six 69 = .ok (.i2l, 1) := by decide +kernel
theorem dX11_six_70 : decode cX11_six 70 = .ok (.ladd, 1) := by decide +kernel
theorem dX11_six_71 : decode cX11_six 71 = .ok (.lstore 6, 2) := by decide +kernel
theorem dX11_six_73 : decode cX11_six 73 = .ok (.iload 5, 2) := by decide +kernel
theorem dX11_six_75 : decode cX11_six 75 = .ok (.ifCond .ne 8, 3) := by decide +kernel
theorem dX11_six_78 : decode cX11_six 78 = .ok (.lload 6, 2) := by decide +kernel
theorem dX11_six_80 : decode cX11_six 80 = .ok (.goto 13, 3) := by decide +kernel
theorem dX11_six_83 : decode cX11_six 83 = .ok (.ldc2_w 162, 3) := by decide +kernel
theorem dX11_six_86 : decode cX11_six 86 = .ok (.lload 6, 2) := by decide +kernel
theorem dX11_six_88 : decode cX11_six 88 = .ok (.lmul, 1) := by decide +kernel
theorem dX11_six_89 : decode cX11_six 89 = .ok (.iload 5, 2) := by decide +kernel
theorem dX11_six_91 : decode cX11_six 91 = .ok (.i2l, 1) := by decide +kernel
theorem dX11_six_92 : decode cX11_six 92 = .ok (.ladd, 1) := by decide +kernel
theorem dX11_six_93 : decode cX11_six 93 = .ok (.lreturn, 1) := by decide +kernel
abbrev mX11_six : MD := (cX11_six, "BlottedDeedModel", 8, 1, 30, (some .long), "six", [])
def bX11_six_0 (g : GE) (J : Nat → KT) : KT := i_push (.long 27) (i_iload 0 (i_i2l (i_lmul (i_iload 1 (i_i2l (i_ladd (i_lstore 6 (i_iload 2 (i_ifne (i_push (.long 27) (i_lload 6 (i_lmul (i_iload 2 (i_i2l (i_ladd (i_jmp [false, false, false, true, true, true, false, false] (J 1)))))))) (i_lload 6 (i_jmp [false, false, false, true, true, true, false, false] (J 1))))))))))))
def bX11_six_1 (g : GE) (J : Nat → KT) : KT := i_lstore 6 (i_iload 3 (i_ifne (i_push (.long 27) (i_lload 6 (i_lmul (i_iload 3 (i_i2l (i_ladd (i_jmp [false, false, false, false, true, true, false, false] (J 2)))))))) (i_lload 6 (i_jmp [false, false, false, false, true, true, false, false] (J 2)))))
def bX11_six_2 (g : GE) (J : Nat → KT) : KT := i_lstore 6 (i_iload 4 (i_ifne (i_push (.long 27) (i_lload 6 (i_lmul (i_iload 4 (i_i2l (i_ladd (i_jmp [false, false, false, false, false, true, false, false] (J 3)))))))) (i_lload 6 (i_jmp [false, false, false, false, false, true, false, false] (J 3)))))
def bX11_six_3 (g : GE) (J : Nat → KT) : KT := i_lstore 6 (i_iload 5 (i_ifne (i_push (.long 27) (i_lload 6 (i_lmul (i_iload 5 (i_i2l (i_ladd (i_jmp [false, false, false, false, false, false, false, false] (J 4)))))))) (i_lload 6 (i_jmp [false, false, false, false, false, false, false, false] (J 4)))))
def bX11_six_4 (g : GE) (J : Nat → KT) : KT := i_lreturn
theorem sbX11_six_0 (g : GE) (J : Nat → KT) (h1 : Snd mX11_six g 29 (J 1)) (h2 : Snd mX11_six g 49 (J 2)) (h3 : Snd mX11_six g 71 (J 3)) (h4 : Snd mX11_six g 93 (J 4)) : Snd mX11_six g 0 (bX11_six_0 g J) := by
  unfold bX11_six_0
  refine s_ldc2 (pc := 0) (v := 27) ?_ wt_1592 dX11_six_0
  refine s_iload_n (pc := 3) (i := 0) ?_ dX11_six_3 rfl
  refine s_i2l (pc := 4) ?_ dX11_six_4
  refine s_lmul (pc := 5) ?_ dX11_six_5
  refine s_iload_n (pc := 6) (i := 1) ?_ dX11_six_6 rfl
  refine s_i2l (pc := 7) ?_ dX11_six_7
  refine s_ladd (pc := 8) ?_ dX11_six_8
  refine s_lstore (pc := 9) (i := 6) ?_ dX11_six_9 (by decide)
  refine s_iload_n (pc := 11) (i := 2) ?_ dX11_six_11 rfl
  refine s_ifne (pc := 12) (tgt := 20) ?_ ?_ dX11_six_12 (by decide)
  · skip
    refine s_ldc2 (pc := 20) (v := 27) ?_ wt_1592 dX11_six_20
    refine s_lload (pc := 23) (i := 6) ?_ dX11_six_23
    refine s_lmul (pc := 25) ?_ dX11_six_25
    refine s_iload_n (pc := 26) (i := 2) ?_ dX11_six_26 rfl
    refine s_i2l (pc := 27) ?_ dX11_six_27
    refine s_ladd (pc := 28) ?_ dX11_six_28
    exact s_fall (pc := 29) h1
  · skip
    refine s_lload (pc := 15) (i := 6) ?_ dX11_six_15
    exact s_goto (pc := 17) (tgt := 29) h1 dX11_six_17 (by decide)
theorem sbX11_six_1 (g : GE) (J : Nat → KT) (h1 : Snd mX11_six g 29 (J 1)) (h2 : Snd mX11_six g 49 (J 2)) (h3 : Snd mX11_six g 71 (J 3)) (h4 : Snd mX11_six g 93 (J 4)) : Snd mX11_six g 29 (bX11_six_1 g J) := by
  unfold bX11_six_1
  refine s_lstore (pc := 29) (i := 6) ?_ dX11_six_29 (by decide)
  refine s_iload_n (pc := 31) (i := 3) ?_ dX11_six_31 rfl
  refine s_ifne (pc := 32) (tgt := 40) ?_ ?_ dX11_six_32 (by decide)
  · skip
    refine s_ldc2 (pc := 40) (v := 27) ?_ wt_1592 dX11_six_40
    refine s_lload (pc := 43) (i := 6) ?_ dX11_six_43
    refine s_lmul (pc := 45) ?_ dX11_six_45
    refine s_iload_n (pc := 46) (i := 3) ?_ dX11_six_46 rfl
    refine s_i2l (pc := 47) ?_ dX11_six_47
    refine s_ladd (pc := 48) ?_ dX11_six_48
    exact s_fall (pc := 49) h2
  · skip
    refine s_lload (pc := 35) (i := 6) ?_ dX11_six_35
    exact s_goto (pc := 37) (tgt := 49) h2 dX11_six_37 (by decide)
theorem sbX11_six_2 (g : GE) (J : Nat → KT) (h1 : Snd mX11_six g 29 (J 1)) (h2 : Snd mX11_six g 49 (J 2)) (h3 : Snd mX11_six g 71 (J 3)) (h4 : Snd mX11_six g 93 (J 4)) : Snd mX11_six g 49 (bX11_six_2 g J) := by
  unfold bX11_six_2
  refine s_lstore (pc := 49) (i := 6) ?_ dX11_six_49 (by decide)
  refine s_iload (pc := 51) (i := 4) ?_ dX11_six_51
  refine s_ifne (pc := 53) (tgt := 61) ?_ ?_ dX11_six_53 (by decide)
  · skip
    refine s_ldc2 (pc := 61) (v := 27) ?_ wt_1592 dX11_six_61
    refine s_lload (pc := 64) (i := 6) ?_ dX11_six_64
    refine s_lmul (pc := 66) ?_ dX11_six_66
    refine s_iload (pc := 67) (i := 4) ?_ dX11_six_67
    refine s_i2l (pc := 69) ?_ dX11_six_69
    refine s_ladd (pc := 70) ?_ dX11_six_70
    exact s_fall (pc := 71) h3
  · skip
    refine s_lload (pc := 56) (i := 6) ?_ dX11_six_56
    exact s_goto (pc := 58) (tgt := 71) h3 dX11_six_58 (by decide)
theorem sbX11_six_3 (g : GE) (J : Nat → KT) (h1 : Snd mX11_six g 29 (J 1)) (h2 : Snd mX11_six g 49 (J 2)) (h3 : Snd mX11_six g 71 (J 3)) (h4 : Snd mX11_six g 93 (J 4)) : Snd mX11_six g 71 (bX11_six_3 g J) := by
  unfold bX11_six_3
  refine s_lstore (pc := 71) (i := 6) ?_ dX11_six_71 (by decide)
  refine s_iload (pc := 73) (i := 5) ?_ dX11_six_73
  refine s_ifne (pc := 75) (tgt := 83) ?_ ?_ dX11_six_75 (by decide)
  · skip
    refine s_ldc2 (pc := 83) (v := 27) ?_ wt_1592 dX11_six_83
    refine s_lload (pc := 86) (i := 6) ?_ dX11_six_86
    refine s_lmul (pc := 88) ?_ dX11_six_88
    refine s_iload (pc := 89) (i := 5) ?_ dX11_six_89
    refine s_i2l (pc := 91) ?_ dX11_six_91
    refine s_ladd (pc := 92) ?_ dX11_six_92
    exact s_fall (pc := 93) h4
  · skip
    refine s_lload (pc := 78) (i := 6) ?_ dX11_six_78
    exact s_goto (pc := 80) (tgt := 93) h4 dX11_six_80 (by decide)
theorem sbX11_six_4 (g : GE) (J : Nat → KT) (h1 : Snd mX11_six g 29 (J 1)) (h2 : Snd mX11_six g 49 (J 2)) (h3 : Snd mX11_six g 71 (J 3)) (h4 : Snd mX11_six g 93 (J 4)) : Snd mX11_six g 93 (bX11_six_4 g J) := by
  unfold bX11_six_4
  exact s_lreturn (pc := 93) rfl dX11_six_93
def jX11_six (g : GE) : Nat → Nat → KT
  | 0, _ => fun _ _ _ => none
  | n + 1, 0 => bX11_six_0 g (jX11_six g n)
  | n + 1, 1 => bX11_six_1 g (jX11_six g n)
  | n + 1, 2 => bX11_six_2 g (jX11_six g n)
  | n + 1, 3 => bX11_six_3 g (jX11_six g n)
  | n + 1, 4 => bX11_six_4 g (jX11_six g n)
  | _ + 1, _ + 5 => fun _ _ _ => none
theorem sjX11_six (g : GE) : ∀ n, Snd mX11_six g 0 (jX11_six g n 0) ∧ Snd mX11_six g 29 (jX11_six g n 1) ∧ Snd mX11_six g 49 (jX11_six g n 2) ∧ Snd mX11_six g 71 (jX11_six g n 3) ∧ Snd mX11_six g 93 (jX11_six g n 4)
  | 0 => ⟨s_none, s_none, s_none, s_none, s_none⟩
  | n + 1 => by
    obtain ⟨-, h1, h2, h3, h4⟩ := sjX11_six g n
    exact ⟨sbX11_six_0 g _ h1 h2 h3 h4, sbX11_six_1 g _ h1 h2 h3 h4, sbX11_six_2 g _ h1 h2 h3 h4, sbX11_six_3 g _ h1 h2 h3 h4, sbX11_six_4 g _ h1 h2 h3 h4⟩
def kX11_six (g : GE) : KT := jX11_six g g.1 0
theorem sX11_six (g : GE) : Snd mX11_six g 0 (kX11_six g) := (sjX11_six g g.1).1
def fX11_six : FT := fun g av w => if (ent av).length ≤ 8 then kX11_six g [] (entp 8 av) w else none
theorem tX11_six : Mt yX11_six cX11_six 8 (some .long) 1 30 fX11_six := Mt.of (K := kX11_six) (by decide +kernel) (fun _ _ _ => rfl) sX11_six
theorem crX11_six : yX11_six.cls ≠ "java/lang/invoke/MethodHandle" ∧ yX11_six.cls ≠ "java/lang/invoke/VarHandle" ∧ (parseMethodDescriptor yX11_six.desc).map (fun d => d.parameters.length) = some 6 := by decide +kernel
theorem dX11_isWord_0 : decode cX11_isWord 0 = .ok (.aload_n 0, 1) := by decide +kernel
theorem dX11_isWord_1 : decode cX11_isWord 1 = .ok (.getfield 136, 3) := by decide +kernel
theorem dX11_isWord_4 : decode cX11_isWord 4 = .ok (.ifCond .ne 27, 3) := by decide +kernel
theorem dX11_isWord_7 : decode cX11_isWord 7 = .ok (.aload_n 0, 1) := by decide +kernel
theorem dX11_isWord_8 : decode cX11_isWord 8 = .ok (.invokevirtual 168, 3) := by decide +kernel
theorem dX11_isWord_11 : decode cX11_isWord 11 = .ok (.iload_n 1, 1) := by decide +kernel
theorem dX11_isWord_12 : decode cX11_isWord 12 = .ok (.iload_n 2, 1) := by decide +kernel
theorem dX11_isWord_13 : decode cX11_isWord 13 = .ok (.iload_n 3, 1) := by decide +kernel
theorem dX11_isWord_14 : decode cX11_isWord 14 = .ok (.iload 4, 2) := by decide +kernel
theorem dX11_isWord_16 : decode cX11_isWord 16 = .ok (.iload 5, 2) := by decide +kernel
theorem dX11_isWord_18 : decode cX11_isWord 18 = .ok (.iload 6, 2) := by decide +kernel
theorem dX11_isWord_20 : decode cX11_isWord 20 = .ok (.invokestatic 172, 3) := by decide +kernel
theorem dX11_isWord_23 : decode cX11_isWord 23 = .ok (.lcmp, 1) := by decide +kernel
theorem dX11_isWord_24 : decode cX11_isWord 24 = .ok (.ifCond .ne 7, 3) := by decide +kernel
theorem dX11_isWord_27 : decode cX11_isWord 27 = .ok (.iconst 1, 1) := by decide +kernel
theorem dX11_isWord_28 : decode cX11_isWord 28 = .ok (.goto 4, 3) := by decide +kernel
theorem dX11_isWord_31 : decode cX11_isWord 31 = .ok (.iconst 0, 1) := by decide +kernel
theorem dX11_isWord_32 : decode cX11_isWord 32 = .ok (.ireturn, 1) := by decide +kernel
abbrev mX11_isWord : MD := (cX11_isWord, "BlottedDeedModel", 7, 5, 116, (some .boolean), "isWord", [])
def bX11_isWord_0 (g : GE) (J : Nat → KT) : KT := i_aload 0 (i_getf 10 5 (i_ifne (i_jmp [false, false, false, false, false, false, false] (J 1)) (i_aload 0 (i_cv fX11_wordHere g 0 10 (i_iload 1 (i_iload 2 (i_iload 3 (i_iload 4 (i_iload 5 (i_iload 6 (i_cs fX11_six g 6 (i_lcmp (i_ifne (i_jmp [false, false, false, false, false, false, false] (J 1)) (i_push (.int 1) (i_jmp [false, false, false, false, false, false, false] (J 2))))))))))))))))
def bX11_isWord_1 (g : GE) (J : Nat → KT) : KT := i_push (.int 0) (i_jmp [false, false, false, false, false, false, false] (J 2))
def bX11_isWord_2 (g : GE) (J : Nat → KT) : KT := i_zreturn
theorem sbX11_isWord_0 (g : GE) (J : Nat → KT) (h1 : Snd mX11_isWord g 31 (J 1)) (h2 : Snd mX11_isWord g 32 (J 2)) : Snd mX11_isWord g 0 (bX11_isWord_0 g J) := by
  unfold bX11_isWord_0
  refine s_aload_n (pc := 0) (i := 0) ?_ dX11_isWord_0 rfl
  refine s_getf (pc := 1) (ci := 10) (f := 5) (T := TX11) ?_ ginX11 rfl (by decide) wt_1398 dX11_isWord_1
  refine s_ifne (pc := 4) (tgt := 31) ?_ ?_ dX11_isWord_4 (by decide)
  · skip
    exact s_fall (pc := 31) h1
  · skip
    refine s_aload_n (pc := 7) (i := 0) ?_ dX11_isWord_7 rfl
    refine s_cv (pc := 8) (n := 0) (ci := 10) ?_ tX11_wordHere rfl rfl wt_1584 wt_1586 wp_55 wt_17 wt_1587 ⟨crX11_wordHere, by decide, by decide⟩ dX11_isWord_8
    refine s_iload_n (pc := 11) (i := 1) ?_ dX11_isWord_11 rfl
    refine s_iload_n (pc := 12) (i := 2) ?_ dX11_isWord_12 rfl
    refine s_iload_n (pc := 13) (i := 3) ?_ dX11_isWord_13 rfl
    refine s_iload (pc := 14) (i := 4) ?_ dX11_isWord_14
    refine s_iload (pc := 16) (i := 5) ?_ dX11_isWord_16
    refine s_iload (pc := 18) (i := 6) ?_ dX11_isWord_18
    refine s_cs (pc := 20) (n := 6) ?_ tX11_six wt_1595 wt_1596 wt_17 wt_1597 ⟨crX11_six, by decide, by decide⟩ dX11_isWord_20
    refine s_lcmp (pc := 23) ?_ dX11_isWord_23
    refine s_ifne (pc := 24) (tgt := 31) ?_ ?_ dX11_isWord_24 (by decide)
    · skip
      exact s_fall (pc := 31) h1
    · skip
      refine s_iconst (pc := 27) (v := 1) ?_ dX11_isWord_27 (by decide)
      exact s_goto (pc := 28) (tgt := 32) h2 dX11_isWord_28 (by decide)
theorem sbX11_isWord_1 (g : GE) (J : Nat → KT) (h1 : Snd mX11_isWord g 31 (J 1)) (h2 : Snd mX11_isWord g 32 (J 2)) : Snd mX11_isWord g 31 (bX11_isWord_1 g J) := by
  unfold bX11_isWord_1
  refine s_iconst (pc := 31) (v := 0) ?_ dX11_isWord_31 (by decide)
  exact s_fall (pc := 32) h2
theorem sbX11_isWord_2 (g : GE) (J : Nat → KT) (h1 : Snd mX11_isWord g 31 (J 1)) (h2 : Snd mX11_isWord g 32 (J 2)) : Snd mX11_isWord g 32 (bX11_isWord_2 g J) := by
  unfold bX11_isWord_2
  exact s_zreturn (pc := 32) rfl dX11_isWord_32
def jX11_isWord (g : GE) : Nat → Nat → KT
  | 0, _ => fun _ _ _ => none
  | n + 1, 0 => bX11_isWord_0 g (jX11_isWord g n)
  | n + 1, 1 => bX11_isWord_1 g (jX11_isWord g n)
  | n + 1, 2 => bX11_isWord_2 g (jX11_isWord g n)
  | _ + 1, _ + 3 => fun _ _ _ => none
theorem sjX11_isWord (g : GE) : ∀ n, Snd mX11_isWord g 0 (jX11_isWord g n 0) ∧ Snd mX11_isWord g 31 (jX11_isWord g n 1) ∧ Snd mX11_isWord g 32 (jX11_isWord g n 2)
  | 0 => ⟨s_none, s_none, s_none⟩
  | n + 1 => by
    obtain ⟨-, h1, h2⟩ := sjX11_isWord g n
    exact ⟨sbX11_isWord_0 g _ h1 h2, sbX11_isWord_1 g _ h1 h2, sbX11_isWord_2 g _ h1 h2⟩
def kX11_isWord (g : GE) : KT := jX11_isWord g g.1 0
theorem sX11_isWord (g : GE) : Snd mX11_isWord g 0 (kX11_isWord g) := (sjX11_isWord g g.1).1
def fX11_isWord : FT := fun g av w => if (ent av).length ≤ 7 then kX11_isWord g [] (entp 7 av) w else none
theorem tX11_isWord : Mt yX11_isWord cX11_isWord 7 (some .boolean) 5 116 fX11_isWord := Mt.of (K := kX11_isWord) (by decide +kernel) (fun _ _ _ => rfl) sX11_isWord
theorem crX11_isWord : yX11_isWord.cls ≠ "java/lang/invoke/MethodHandle" ∧ yX11_isWord.cls ≠ "java/lang/invoke/VarHandle" ∧ (parseMethodDescriptor yX11_isWord.desc).map (fun d => d.parameters.length) = some 6 := by decide +kernel
theorem dX11_kindHere_0 : decode cX11_kindHere 0 = .ok (.aload_n 0, 1) := by decide +kernel
theorem dX11_kindHere_1 : decode cX11_kindHere 1 = .ok (.bipush 8, 2) := by decide +kernel
theorem dX11_kindHere_3 : decode cX11_kindHere 3 = .ok (.iconst 5, 1) := by decide +kernel
theorem dX11_kindHere_4 : decode cX11_kindHere 4 = .ok (.bipush 9, 2) := by decide +kernel
theorem dX11_kindHere_6 : decode cX11_kindHere 6 = .ok (.bipush 18, 2) := by decide +kernel
theorem dX11_kindHere_8 : decode cX11_kindHere 8 = .ok (.iconst 0, 1) := by decide +kernel
theorem dX11_kindHere_9 : decode cX11_kindHere 9 = .ok (.iconst 0, 1) := by decide +kernel
theorem dX11_kindHere_10 : decode cX11_kindHere 10 = .ok (.invokevirtual 176, 3) := by decide +kernel
theorem dX11_kindHere_13 : decode cX11_kindHere 13 = .ok (.ifCond .eq 5, 3) := by decide +kernel
theorem dX11_kindHere_16 : decode cX11_kindHere 16 = .ok (.iconst 0, 1) := by decide +kernel
theorem dX11_kindHere_17 : decode cX11_kindHere 17 = .ok (.ireturn, 1) := by decide +kernel
theorem dX11_kindHere_18 : decode cX11_kindHere 18 = .ok (.aload_n 0, 1) := by decide +kernel
theorem dX11_kindHere_19 : decode cX11_kindHere 19 = .ok (.bipush 20, 2) := by decide +kernel
theorem dX11_kindHere_21 : decode cX11_kindHere 21 = .ok (.bipush 8, 2) := by decide +kernel
theorem dX11_kindHere_23 : decode cX11_kindHere 23 = .ok (.bipush 9, 2) := by decide +kernel
theorem dX11_kindHere_25 : decode cX11_kindHere 25 = .ok (.bipush 14, 2) := by decide +kernel
theorem dX11_kindHere_27 : decode cX11_kindHere 27 = .ok (.bipush 7, 2) := by decide +kernel
theorem dX11_kindHere_29 : decode cX11_kindHere 29 = .ok (.iconst 0, 1) := by decide +kernel
theorem dX11_kindHere_30 : decode cX11_kindHere 30 = .ok (.invokevirtual 176, 3) := by decide +kernel
theorem dX11_kindHere_33 : decode cX11_kindHere 33 = .ok (.ifCond .eq 5, 3) := by decide +kernel
theorem dX11_kindHere_36 : decode cX11_kindHere 36 = .ok (.iconst 1, 1) := by decide +kernel
theorem dX11_kindHere_37 : decode cX11_kindHere 37 = .ok (.ireturn, 1) := by decide +kernel
theorem dX11_kindHere_38 : decode cX11_kindHere 38 = .ok (.aload_n 0, 1) := by decide +kernel
theorem dX11_kindHere_39 : decode cX11_kindHere 39 = .ok (.getfield 136, 3) := by decide +kernel
theorem dX11_kindHere_42 : decode cX11_kindHere 42 = .ok (.ifCond .ne 33, 3) := by decide +kernel
theorem dX11_kindHere_45 : decode cX11_kindHere 45 = .ok (.aload_n 0, 1) := by decide +kernel
theorem dX11_kindHere_46 : decode cX11_kindHere 46 = .ok (.invokevirtual 168, 3) := by decide +kernel
theorem dX11_kindHere_49 : decode cX11_kindHere 49 = .ok (.ldc2_w 162, 3) := by decide +kernel
theorem dX11_kindHere_52 : decode cX11_kindHere 52 = .ok (.iconst 5, 1) := by decide +kernel
theorem dX11_kindHere_53 : decode cX11_kindHere 53 = .ok (.bipush 19, 2) := by decide +kernel
theorem dX11_kindHere_55 : decode cX11_kindHere 55 = .ok (.bipush 20, 2) := by decide +kernel
theorem dX11_kindHere_57 : decode cX11_kindHere 57 = .ok (.iconst 1, 1) := by decide +kernel
theorem dX11_kindHere_58 : decode cX11_kindHere 58 = .ok (.bipush 20, 2) := by decide +kernel
theorem dX11_kindHere_60 : decode cX11_kindHere 60 = .ok (.iconst 0, 1) := by decide +kernel
theorem dX11_kindHere_61 : decode cX11_kindHere 61 = .ok (.invokestatic 172, 3) := by decide +kernel
theorem dX11_kindHere_64 : decode cX11_kindHere 64 = .ok (.lmul, 1) := by decide +kernel
theorem dX11_kindHere_65 : decode cX11_kindHere 65 = .ok (.ldc2_w 180, 3) := by decide +kernel
theorem dX11_kindHere_68 : decode cX11_kindHere 68 = .ok (.ladd, 1) := by decide +kernel
theorem dX11_kindHere_69 : decode cX11_kindHere 69 = .ok (.lcmp, 1) := by decide +kernel
theorem dX11_kindHere_70 : decode cX11_kindHere 70 = .ok (.ifCond .ne 5, 3) := by decide +kernel
theorem dX11_kindHere_73 : decode cX11_kindHere 73 = .ok (.iconst 2, 1) := by decide +kernel
theorem dX11_kindHere_74 : decode cX11_kindHere 74 = .ok (.ireturn, 1) := by decide +kernel
theorem dX11_kindHere_75 : decode cX11_kindHere 75 = .ok (.aload_n 0, 1) := by decide +kernel
theorem dX11_kindHere_76 : decode cX11_kindHere 76 = .ok (.bipush 12, 2) := by decide +kernel
theorem dX11_kindHere_78 : decode cX11_kindHere 78 = .ok (.iconst 5, 1) := by decide +kernel
theorem dX11_kindHere_79 : decode cX11_kindHere 79 = .ok (.iconst 1, 1) := by decide +kernel
theorem dX11_kindHere_80 : decode cX11_kindHere 80 = .ok (.bipush 19, 2) := by decide +kernel
theorem dX11_kindHere_82 : decode cX11_kindHere 82 = .ok (.bipush 20, 2) := by decide +kernel
theorem dX11_kindHere_84 : decode cX11_kindHere 84 = .ok (.iconst 0, 1) := by decide +kernel
theorem dX11_kindHere_85 : decode cX11_kindHere 85 = .ok (.invokevirtual 176, 3) := by decide +kernel
theorem dX11_kindHere_88 : decode cX11_kindHere 88 = .ok (.ifCond .eq 5, 3) := by decide +kernel
theorem dX11_kindHere_91 : decode cX11_kindHere 91 = .ok (.iconst 3, 1) := by decide +kernel
theorem dX11_kindHere_92 : decode cX11_kindHere 92 = .ok (.ireturn, 1) := by decide +kernel
theorem dX11_kindHere_93 : decode cX11_kindHere 93 = .ok (.aload_n 0, 1) := by decide +kernel
theorem dX11_kindHere_94 : decode cX11_kindHere 94 = .ok (.iconst 3, 1) := by decide +kernel
theorem dX11_kindHere_95 : decode cX11_kindHere 95 = .ok (.bipush 15, 2) := by decide +kernel
theorem dX11_kindHere_97 : decode cX11_kindHere 97 = .ok (.bipush 9, 2) := by decide +kernel
theorem dX11_kindHere_99 : decode cX11_kindHere 99 = .ok (.bipush 14, 2) := by decide +kernel
theorem dX11_kindHere_101 : decode cX11_kindHere 101 = .ok (.iconst 0, 1) := by decide +kernel
theorem dX11_kindHere_102 : decode cX11_kindHere 102 = .ok (.iconst 0, 1) := by decide +kernel
theorem dX11_kindHere_103 : decode cX11_kindHere 103 = .ok (.invokevirtual 176, 3) := by decide +kernel
theorem dX11_kindHere_106 : decode cX11_kindHere 106 = .ok (.ifCond .eq 5, 3) := by decide +kernel
theorem dX11_kindHere_109 : decode cX11_kindHere 109 = .ok (.iconst 4, 1) := by decide +kernel
theorem dX11_kindHere_110 : decode cX11_kindHere 110 = .ok (.ireturn, 1) := by decide +kernel
theorem dX11_kindHere_111 : decode cX11_kindHere 111 = .ok (.aload_n 0, 1) := by decide +kernel
theorem dX11_kindHere_112 : decode cX11_kindHere 112 = .ok (.bipush 23, 2) := by decide +kernel
theorem dX11_kindHere_114 : decode cX11_kindHere 114 = .ok (.bipush 9, 2) := by decide +kernel
theorem dX11_kindHere_116 : decode cX11_kindHere 116 = .ok (.bipush 12, 2) := by decide +kernel
theorem dX11_kindHere_118 : decode cX11_kindHere 118 = .ok (.bipush 12, 2) := by decide +kernel
theorem dX11_kindHere_120 : decode cX11_kindHere 120 = .ok (.iconst 0, 1) := by decide +kernel
theorem dX11_kindHere_121 : decode cX11_kindHere 121 = .ok (.iconst 0, 1) := by decide +kernel
theorem dX11_kindHere_122 : decode cX11_kindHere 122 = .ok (.invokevirtual 176, 3) := by decide +kernel
theorem dX11_kindHere_125 : decode cX11_kindHere 125 = .ok (.ifCond .eq 5, 3) := by decide +kernel
theorem dX11_kindHere_128 : decode cX11_kindHere 128 = .ok (.iconst 5, 1) := by decide +kernel
theorem dX11_kindHere_129 : decode cX11_kindHere 129 = .ok (.ireturn, 1) := by decide +kernel
theorem dX11_kindHere_130 : decode cX11_kindHere 130 = .ok (.aload_n 0, 1) := by decide +kernel
theorem dX11_kindHere_131 : decode cX11_kindHere 131 = .ok (.bipush 23, 2) := by decide +kernel
theorem dX11_kindHere_133 : decode cX11_kindHere 133 = .ok (.bipush 8, 2) := by decide +kernel
theorem dX11_kindHere_135 : decode cX11_kindHere 135 = .ok (.iconst 5, 1) := by decide +kernel
theorem dX11_kindHere_136 : decode cX11_kindHere 136 = .ok (.bipush 14, 2) := by decide +kernel
theorem dX11_kindHere_138 : decode cX11_kindHere 138 = .ok (.iconst 0, 1) := by decide +kernel
theorem dX11_kindHere_139 : decode cX11_kindHere 139 = .ok (.iconst 0, 1) := by decide +kernel
theorem dX11_kindHere_140 : decode cX11_kindHere 140 = .ok (.invokevirtual 176, 3) := by decide +kernel
theorem dX11_kindHere_143 : decode cX11_kindHere 143 = .ok (.ifCond .eq 8, 3) := by decide +kernel
theorem dX11_kindHere_146 : decode cX11_kindHere 146 = .ok (.bipush 6, 2) := by decide +kernel
theorem dX11_kindHere_148 : decode cX11_kindHere 148 = .ok (.goto 4, 3) := by decide +kernel
theorem dX11_kindHere_151 : decode cX11_kindHere 151 = .ok (.iconst (-1), 1) := by decide +kernel
theorem dX11_kindHere_152 : decode cX11_kindHere 152 = .ok (.ireturn, 1) := by decide +kernel
abbrev mX11_kindHere : MD := (cX11_kindHere, "BlottedDeedModel", 1, 6, 142, (some .int), "kindHere", [])
def bX11_kindHere_0 (g : GE) (J : Nat → KT) : KT := i_aload 0 (i_push (.int 8) (i_push (.int 5) (i_push (.int 9) (i_push (.int 18) (i_push (.int 0) (i_push (.int 0) (i_cv fX11_isWord g 6 10 (i_ifeq (i_aload 0 (i_push (.int 20) (i_push (.int 8) (i_push (.int 9) (i_push (.int 14) (i_push (.int 7) (i_push (.int 0) (i_cv fX11_isWord g 6 10 (i_ifeq (i_aload 0 (i_getf 10 5 (i_ifne (i_jmp [true] (J 1)) (i_aload 0 (i_cv fX11_wordHere g 0 10 (i_push (.long 27) (i_push (.int 5) (i_push (.int 19) (i_push (.int 20) (i_push (.int 1) (i_push (.int 20) (i_push (.int 0) (i_cs fX11_six g 6 (i_lmul (i_push (.long 5) (i_ladd (i_lcmp (i_ifne (i_jmp [true] (J 1)) (i_push (.int 2) (i_ireturn)))))))))))))))))))) (i_push (.int 1) (i_ireturn))))))))))) (i_push (.int 0) (i_ireturn))))))))))
def bX11_kindHere_1 (g : GE) (J : Nat → KT) : KT := i_aload 0 (i_push (.int 12) (i_push (.int 5) (i_push (.int 1) (i_push (.int 19) (i_push (.int 20) (i_push (.int 0) (i_cv fX11_isWord g 6 10 (i_ifeq (i_aload 0 (i_push (.int 3) (i_push (.int 15) (i_push (.int 9) (i_push (.int 14) (i_push (.int 0) (i_push (.int 0) (i_cv fX11_isWord g 6 10 (i_ifeq (i_aload 0 (i_push (.int 23) (i_push (.int 9) (i_push (.int 12) (i_push (.int 12) (i_push (.int 0) (i_push (.int 0) (i_cv fX11_isWord g 6 10 (i_ifeq (i_aload 0 (i_push (.int 23) (i_push (.int 8) (i_push (.int 5) (i_push (.int 14) (i_push (.int 0) (i_push (.int 0) (i_cv fX11_isWord g 6 10 (i_ifeq (i_push (.int (-1)) (i_jmp [false] (J 2))) (i_push (.int 6) (i_jmp [false] (J 2)))))))))))) (i_push (.int 5) (i_ireturn))))))))))) (i_push (.int 4) (i_ireturn))))))))))) (i_push (.int 3) (i_ireturn))))))))))
def bX11_kindHere_2 (g : GE) (J : Nat → KT) : KT := i_ireturn
theorem sbX11_kindHere_0 (g : GE) (J : Nat → KT) (h1 : Snd mX11_kindHere g 75 (J 1)) (h2 : Snd mX11_kindHere g 152 (J 2)) : Snd mX11_kindHere g 0 (bX11_kindHere_0 g J) := by
  unfold bX11_kindHere_0
  refine s_aload_n (pc := 0) (i := 0) ?_ dX11_kindHere_0 rfl
  refine s_bipush (pc := 1) (v := 8) ?_ dX11_kindHere_1 (by decide)
  refine s_iconst (pc := 3) (v := 5) ?_ dX11_kindHere_3 (by decide)
  refine s_bipush (pc := 4) (v := 9) ?_ dX11_kindHere_4 (by decide)
  refine s_bipush (pc := 6) (v := 18) ?_ dX11_kindHere_6 (by decide)
  refine s_iconst (pc := 8) (v := 0) ?_ dX11_kindHere_8 (by decide)
  refine s_iconst (pc := 9) (v := 0) ?_ dX11_kindHere_9 (by decide)
  refine s_cv (pc := 10) (n := 6) (ci := 10) ?_ tX11_isWord rfl rfl wt_1580 wt_1582 wp_54 wt_17 wt_1583 ⟨crX11_isWord, by decide, by decide⟩ dX11_kindHere_10
  refine s_ifeq (pc := 13) (tgt := 18) ?_ ?_ dX11_kindHere_13 (by decide)
  · skip
    refine s_aload_n (pc := 18) (i := 0) ?_ dX11_kindHere_18 rfl
    refine s_bipush (pc := 19) (v := 20) ?_ dX11_kindHere_19 (by decide)
    refine s_bipush (pc := 21) (v := 8) ?_ dX11_kindHere_21 (by decide)
    refine s_bipush (pc := 23) (v := 9) ?_ dX11_kindHere_23 (by decide)
    refine s_bipush (pc := 25) (v := 14) ?_ dX11_kindHere_25 (by decide)
    refine s_bipush (pc := 27) (v := 7) ?_ dX11_kindHere_27 (by decide)
    refine s_iconst (pc := 29) (v := 0) ?_ dX11_kindHere_29 (by decide)
    refine s_cv (pc := 30) (n := 6) (ci := 10) ?_ tX11_isWord rfl rfl wt_1580 wt_1582 wp_54 wt_17 wt_1583 ⟨crX11_isWord, by decide, by decide⟩ dX11_kindHere_30
    refine s_ifeq (pc := 33) (tgt := 38) ?_ ?_ dX11_kindHere_33 (by decide)
    · skip
      refine s_aload_n (pc := 38) (i := 0) ?_ dX11_kindHere_38 rfl
      refine s_getf (pc := 39) (ci := 10) (f := 5) (T := TX11) ?_ ginX11 rfl (by decide) wt_1398 dX11_kindHere_39
      refine s_ifne (pc := 42) (tgt := 75) ?_ ?_ dX11_kindHere_42 (by decide)
      · skip
        exact s_fall (pc := 75) h1
      · skip
        refine s_aload_n (pc := 45) (i := 0) ?_ dX11_kindHere_45 rfl
        refine s_cv (pc := 46) (n := 0) (ci := 10) ?_ tX11_wordHere rfl rfl wt_1584 wt_1586 wp_55 wt_17 wt_1587 ⟨crX11_wordHere, by decide, by decide⟩ dX11_kindHere_46
        refine s_ldc2 (pc := 49) (v := 27) ?_ wt_1592 dX11_kindHere_49
        refine s_iconst (pc := 52) (v := 5) ?_ dX11_kindHere_52 (by decide)
        refine s_bipush (pc := 53) (v := 19) ?_ dX11_kindHere_53 (by decide)
        refine s_bipush (pc := 55) (v := 20) ?_ dX11_kindHere_55 (by decide)
        refine s_iconst (pc := 57) (v := 1) ?_ dX11_kindHere_57 (by decide)
        refine s_bipush (pc := 58) (v := 20) ?_ dX11_kindHere_58 (by decide)
        refine s_iconst (pc := 60) (v := 0) ?_ dX11_kindHere_60 (by decide)
        refine s_cs (pc := 61) (n := 6) ?_ tX11_six wt_1595 wt_1596 wt_17 wt_1597 ⟨crX11_six, by decide, by decide⟩ dX11_kindHere_61
        refine s_lmul (pc := 64) ?_ dX11_kindHere_64
        refine s_ldc2 (pc := 65) (v := 5) ?_ wt_1598 dX11_kindHere_65
        refine s_ladd (pc := 68) ?_ dX11_kindHere_68
        refine s_lcmp (pc := 69) ?_ dX11_kindHere_69
        refine s_ifne (pc := 70) (tgt := 75) ?_ ?_ dX11_kindHere_70 (by decide)
        · skip
          exact s_fall (pc := 75) h1
        · skip
          refine s_iconst (pc := 73) (v := 2) ?_ dX11_kindHere_73 (by decide)
          exact s_ireturn (pc := 74) rfl dX11_kindHere_74
    · skip
      refine s_iconst (pc := 36) (v := 1) ?_ dX11_kindHere_36 (by decide)
      exact s_ireturn (pc := 37) rfl dX11_kindHere_37
  · skip
    refine s_iconst (pc := 16) (v := 0) ?_ dX11_kindHere_16 (by decide)
    exact s_ireturn (pc := 17) rfl dX11_kindHere_17
theorem sbX11_kindHere_1 (g : GE) (J : Nat → KT) (h1 : Snd mX11_kindHere g 75 (J 1)) (h2 : Snd mX11_kindHere g 152 (J 2)) : Snd mX11_kindHere g 75 (bX11_kindHere_1 g J) := by
  unfold bX11_kindHere_1
  refine s_aload_n (pc := 75) (i := 0) ?_ dX11_kindHere_75 rfl
  refine s_bipush (pc := 76) (v := 12) ?_ dX11_kindHere_76 (by decide)
  refine s_iconst (pc := 78) (v := 5) ?_ dX11_kindHere_78 (by decide)
  refine s_iconst (pc := 79) (v := 1) ?_ dX11_kindHere_79 (by decide)
  refine s_bipush (pc := 80) (v := 19) ?_ dX11_kindHere_80 (by decide)
  refine s_bipush (pc := 82) (v := 20) ?_ dX11_kindHere_82 (by decide)
  refine s_iconst (pc := 84) (v := 0) ?_ dX11_kindHere_84 (by decide)
  refine s_cv (pc := 85) (n := 6) (ci := 10) ?_ tX11_isWord rfl rfl wt_1580 wt_1582 wp_54 wt_17 wt_1583 ⟨crX11_isWord, by decide, by decide⟩ dX11_kindHere_85
  refine s_ifeq (pc := 88) (tgt := 93) ?_ ?_ dX11_kindHere_88 (by decide)
  · skip
    refine s_aload_n (pc := 93) (i := 0) ?_ dX11_kindHere_93 rfl
    refine s_iconst (pc := 94) (v := 3) ?_ dX11_kindHere_94 (by decide)
    refine s_bipush (pc := 95) (v := 15) ?_ dX11_kindHere_95 (by decide)
    refine s_bipush (pc := 97) (v := 9) ?_ dX11_kindHere_97 (by decide)
    refine s_bipush (pc := 99) (v := 14) ?_ dX11_kindHere_99 (by decide)
    refine s_iconst (pc := 101) (v := 0) ?_ dX11_kindHere_101 (by decide)
    refine s_iconst (pc := 102) (v := 0) ?_ dX11_kindHere_102 (by decide)
    refine s_cv (pc := 103) (n := 6) (ci := 10) ?_ tX11_isWord rfl rfl wt_1580 wt_1582 wp_54 wt_17 wt_1583 ⟨crX11_isWord, by decide, by decide⟩ dX11_kindHere_103
    refine s_ifeq (pc := 106) (tgt := 111) ?_ ?_ dX11_kindHere_106 (by decide)
    · skip
      refine s_aload_n (pc := 111) (i := 0) ?_ dX11_kindHere_111 rfl
      refine s_bipush (pc := 112) (v := 23) ?_ dX11_kindHere_112 (by decide)
      refine s_bipush (pc := 114) (v := 9) ?_ dX11_kindHere_114 (by decide)
      refine s_bipush (pc := 116) (v := 12) ?_ dX11_kindHere_116 (by decide)
      refine s_bipush (pc := 118) (v := 12) ?_ dX11_kindHere_118 (by decide)
      refine s_iconst (pc := 120) (v := 0) ?_ dX11_kindHere_120 (by decide)
      refine s_iconst (pc := 121) (v := 0) ?_ dX11_kindHere_121 (by decide)
      refine s_cv (pc := 122) (n := 6) (ci := 10) ?_ tX11_isWord rfl rfl wt_1580 wt_1582 wp_54 wt_17 wt_1583 ⟨crX11_isWord, by decide, by decide⟩ dX11_kindHere_122
      refine s_ifeq (pc := 125) (tgt := 130) ?_ ?_ dX11_kindHere_125 (by decide)
      · skip
        refine s_aload_n (pc := 130) (i := 0) ?_ dX11_kindHere_130 rfl
        refine s_bipush (pc := 131) (v := 23) ?_ dX11_kindHere_131 (by decide)
        refine s_bipush (pc := 133) (v := 8) ?_ dX11_kindHere_133 (by decide)
        refine s_iconst (pc := 135) (v := 5) ?_ dX11_kindHere_135 (by decide)
        refine s_bipush (pc := 136) (v := 14) ?_ dX11_kindHere_136 (by decide)
        refine s_iconst (pc := 138) (v := 0) ?_ dX11_kindHere_138 (by decide)
        refine s_iconst (pc := 139) (v := 0) ?_ dX11_kindHere_139 (by decide)
        refine s_cv (pc := 140) (n := 6) (ci := 10) ?_ tX11_isWord rfl rfl wt_1580 wt_1582 wp_54 wt_17 wt_1583 ⟨crX11_isWord, by decide, by decide⟩ dX11_kindHere_140
        refine s_ifeq (pc := 143) (tgt := 151) ?_ ?_ dX11_kindHere_143 (by decide)
        · skip
          refine s_iconst (pc := 151) (v := (-1)) ?_ dX11_kindHere_151 (by decide)
          exact s_fall (pc := 152) h2
        · skip
          refine s_bipush (pc := 146) (v := 6) ?_ dX11_kindHere_146 (by decide)
          exact s_goto (pc := 148) (tgt := 152) h2 dX11_kindHere_148 (by decide)
      · skip
        refine s_iconst (pc := 128) (v := 5) ?_ dX11_kindHere_128 (by decide)
        exact s_ireturn (pc := 129) rfl dX11_kindHere_129
    · skip
      refine s_iconst (pc := 109) (v := 4) ?_ dX11_kindHere_109 (by decide)
      exact s_ireturn (pc := 110) rfl dX11_kindHere_110
  · skip
    refine s_iconst (pc := 91) (v := 3) ?_ dX11_kindHere_91 (by decide)
    exact s_ireturn (pc := 92) rfl dX11_kindHere_92
theorem sbX11_kindHere_2 (g : GE) (J : Nat → KT) (h1 : Snd mX11_kindHere g 75 (J 1)) (h2 : Snd mX11_kindHere g 152 (J 2)) : Snd mX11_kindHere g 152 (bX11_kindHere_2 g J) := by
  unfold bX11_kindHere_2
  exact s_ireturn (pc := 152) rfl dX11_kindHere_152
def jX11_kindHere (g : GE) : Nat → Nat → KT
  | 0, _ => fun _ _ _ => none
  | n + 1, 0 => bX11_kindHere_0 g (jX11_kindHere g n)
  | n + 1, 1 => bX11_kindHere_1 g (jX11_kindHere g n)
  | n + 1, 2 => bX11_kindHere_2 g (jX11_kindHere g n)
  | _ + 1, _ + 3 => fun _ _ _ => none
theorem sjX11_kindHere (g : GE) : ∀ n, Snd mX11_kindHere g 0 (jX11_kindHere g n 0) ∧ Snd mX11_kindHere g 75 (jX11_kindHere g n 1) ∧ Snd mX11_kindHere g 152 (jX11_kindHere g n 2)
  | 0 => ⟨s_none, s_none, s_none⟩
  | n + 1 => by
    obtain ⟨-, h1, h2⟩ := sjX11_kindHere g n
    exact ⟨sbX11_kindHere_0 g _ h1 h2, sbX11_kindHere_1 g _ h1 h2, sbX11_kindHere_2 g _ h1 h2⟩
def kX11_kindHere (g : GE) : KT := jX11_kindHere g g.1 0
theorem sX11_kindHere (g : GE) : Snd mX11_kindHere g 0 (kX11_kindHere g) := (sjX11_kindHere g g.1).1
def fX11_kindHere : FT := fun g av w => if (ent av).length ≤ 1 then kX11_kindHere g [] (entp 1 av) w else none
theorem tX11_kindHere : Mt yX11_kindHere cX11_kindHere 1 (some .int) 6 142 fX11_kindHere := Mt.of (K := kX11_kindHere) (by decide +kernel) (fun _ _ _ => rfl) sX11_kindHere
theorem crX11_kindHere : yX11_kindHere.cls ≠ "java/lang/invoke/MethodHandle" ∧ yX11_kindHere.cls ≠ "java/lang/invoke/VarHandle" ∧ (parseMethodDescriptor yX11_kindHere.desc).map (fun d => d.parameters.length) = some 0 := by decide +kernel
theorem dX11_isFull_0 : decode cX11_isFull 0 = .ok (.iload_n 1, 1) := by decide +kernel
theorem dX11_isFull_1 : decode cX11_isFull 1 = .ok (.ifCond .ne 21, 3) := by decide +kernel
theorem dX11_isFull_4 : decode cX11_isFull 4 = .ok (.aload_n 0, 1) := by decide +kernel
theorem dX11_isFull_5 : decode cX11_isFull 5 = .ok (.getfield 20, 3) := by decide +kernel
theorem dX11_isFull_8 : decode cX11_isFull 8 = .ok (.iconst 0, 1) := by decide +kernel
theorem dX11_isFull_9 : decode cX11_isFull 9 = .ok (.iaload, 1) := by decide +kernel
theorem dX11_isFull_10 : decode cX11_isFull 10 = .ok (.iconst 4, 1) := by decide +kernel
theorem dX11_isFull_11 : decode cX11_isFull 11 = .ok (.if_icmp .ne 7, 3) := by decide +kernel
theorem dX11_isFull_14 : decode cX11_isFull 14 = .ok (.iconst 1, 1) := by decide +kernel
theorem dX11_isFull_15 : decode cX11_isFull 15 = .ok (.goto 51, 3) := by decide +kernel
theorem dX11_isFull_18 : decode cX11_isFull 18 = .ok (.iconst 0, 1) := by decide +kernel
theorem dX11_isFull_19 : decode cX11_isFull 19 = .ok (.goto 47, 3) := by decide +kernel
theorem dX11_isFull_22 : decode cX11_isFull 22 = .ok (.iload_n 1, 1) := by decide +kernel
theorem dX11_isFull_23 : decode cX11_isFull 23 = .ok (.iconst 1, 1) := by decide +kernel
theorem dX11_isFull_24 : decode cX11_isFull 24 = .ok (.if_icmp .ne 21, 3) := by decide +kernel
theorem dX11_isFull_27 : decode cX11_isFull 27 = .ok (.aload_n 0, 1) := by decide +kernel
theorem dX11_isFull_28 : decode cX11_isFull 28 = .ok (.getfield 20, 3) := by decide +kernel
theorem dX11_isFull_31 : decode cX11_isFull 31 = .ok (.iconst 1, 1) := by decide +kernel
theorem dX11_isFull_32 : decode cX11_isFull 32 = .ok (.iaload, 1) := by decide +kernel
theorem dX11_isFull_33 : decode cX11_isFull 33 = .ok (.iconst 5, 1) := by decide +kernel
theorem dX11_isFull_34 : decode cX11_isFull 34 = .ok (.if_icmp .ne 7, 3) := by decide +kernel
theorem dX11_isFull_37 : decode cX11_isFull 37 = .ok (.iconst 1, 1) := by decide +kernel
theorem dX11_isFull_38 : decode cX11_isFull 38 = .ok (.goto 28, 3) := by decide +kernel
theorem dX11_isFull_41 : decode cX11_isFull 41 = .ok (.iconst 0, 1) := by decide +kernel
theorem dX11_isFull_42 : decode cX11_isFull 42 = .ok (.goto 24, 3) := by decide +kernel
theorem dX11_isFull_45 : decode cX11_isFull 45 = .ok (.iload_n 1, 1) := by decide +kernel
theorem dX11_isFull_46 : decode cX11_isFull 46 = .ok (.iconst 3, 1) := by decide +kernel
theorem dX11_isFull_47 : decode cX11_isFull 47 = .ok (.if_icmp .le 18, 3) := by decide +kernel
theorem dX11_isFull_50 : decode cX11_isFull 50 = .ok (.aload_n 0, 1) := by decide +kernel
theorem dX11_isFull_51 : decode cX11_isFull 51 = .ok (.getfield 20, 3) := by decide +kernel
theorem dX11_isFull_54 : decode cX11_isFull 54 = .ok (.iconst 2, 1) := by decide +kernel
theorem dX11_isFull_55 : decode cX11_isFull 55 = .ok (.iaload, 1) := by decide +kernel
theorem dX11_isFull_56 : decode cX11_isFull 56 = .ok (.bipush 9, 2) := by decide +kernel
theorem dX11_isFull_58 : decode cX11_isFull 58 = .ok (.if_icmp .ne 7, 3) := by decide +kernel
theorem dX11_isFull_61 : decode cX11_isFull 61 = .ok (.iconst 1, 1) := by decide +kernel
theorem dX11_isFull_62 : decode cX11_isFull 62 = .ok (.goto 4, 3) := by decide +kernel
theorem dX11_isFull_65 : decode cX11_isFull 65 = .ok (.iconst 0, 1) := by decide +kernel
theorem dX11_isFull_66 : decode cX11_isFull 66 = .ok (.ireturn, 1) := by decide +kernel
abbrev mX11_isFull : MD := (cX11_isFull, "BlottedDeedModel", 2, 1, 30, (some .boolean), "isFull", [])
def bX11_isFull_0 (g : GE) (J : Nat → KT) : KT := i_iload 1 (i_ifne (i_iload 1 (i_push (.int 1) (i_icne (i_iload 1 (i_push (.int 3) (i_icle (i_jmp [false, false] (J 1)) (i_aload 0 (i_getf 10 10 (i_push (.int 2) (i_iaload (i_push (.int 9) (i_icne (i_jmp [false, false] (J 1)) (i_push (.int 1) (i_jmp [false, false] (J 2)))))))))))) (i_aload 0 (i_getf 10 10 (i_push (.int 1) (i_iaload (i_push (.int 5) (i_icne (i_push (.int 0) (i_jmp [false, false] (J 2))) (i_push (.int 1) (i_jmp [false, false] (J 2)))))))))))) (i_aload 0 (i_getf 10 10 (i_push (.int 0) (i_iaload (i_push (.int 4) (i_icne (i_push (.int 0) (i_jmp [false, false] (J 2))) (i_push (.int 1) (i_jmp [false, false] (J 2))))))))))
def bX11_isFull_1 (g : GE) (J : Nat → KT) : KT := i_push (.int 0) (i_jmp [false, false] (J 2))
def bX11_isFull_2 (g : GE) (J : Nat → KT) : KT := i_zreturn
theorem sbX11_isFull_0 (g : GE) (J : Nat → KT) (h1 : Snd mX11_isFull g 65 (J 1)) (h2 : Snd mX11_isFull g 66 (J 2)) : Snd mX11_isFull g 0 (bX11_isFull_0 g J) := by
  unfold bX11_isFull_0
  refine s_iload_n (pc := 0) (i := 1) ?_ dX11_isFull_0 rfl
  refine s_ifne (pc := 1) (tgt := 22) ?_ ?_ dX11_isFull_1 (by decide)
  · skip
    refine s_iload_n (pc := 22) (i := 1) ?_ dX11_isFull_22 rfl
    refine s_iconst (pc := 23) (v := 1) ?_ dX11_isFull_23 (by decide)
    refine s_icne (pc := 24) (tgt := 45) ?_ ?_ dX11_isFull_24 (by decide)
    · skip
      refine s_iload_n (pc := 45) (i := 1) ?_ dX11_isFull_45 rfl
      refine s_iconst (pc := 46) (v := 3) ?_ dX11_isFull_46 (by decide)
      refine s_icle (pc := 47) (tgt := 65) ?_ ?_ dX11_isFull_47 (by decide)
      · skip
        exact s_fall (pc := 65) h1
      · skip
        refine s_aload_n (pc := 50) (i := 0) ?_ dX11_isFull_50 rfl
        refine s_getf (pc := 51) (ci := 10) (f := 10) (T := TX11) ?_ ginX11 rfl (by decide) wt_1403 dX11_isFull_51
        refine s_iconst (pc := 54) (v := 2) ?_ dX11_isFull_54 (by decide)
        refine s_iaload (pc := 55) ?_ dX11_isFull_55
        refine s_bipush (pc := 56) (v := 9) ?_ dX11_isFull_56 (by decide)
        refine s_icne (pc := 58) (tgt := 65) ?_ ?_ dX11_isFull_58 (by decide)
        · skip
          exact s_fall (pc := 65) h1
        · skip
          refine s_iconst (pc := 61) (v := 1) ?_ dX11_isFull_61 (by decide)
          exact s_goto (pc := 62) (tgt := 66) h2 dX11_isFull_62 (by decide)
    · skip
      refine s_aload_n (pc := 27) (i := 0) ?_ dX11_isFull_27 rfl
      refine s_getf (pc := 28) (ci := 10) (f := 10) (T := TX11) ?_ ginX11 rfl (by decide) wt_1403 dX11_isFull_28
      refine s_iconst (pc := 31) (v := 1) ?_ dX11_isFull_31 (by decide)
      refine s_iaload (pc := 32) ?_ dX11_isFull_32
      refine s_iconst (pc := 33) (v := 5) ?_ dX11_isFull_33 (by decide)
      refine s_icne (pc := 34) (tgt := 41) ?_ ?_ dX11_isFull_34 (by decide)
      · skip
        refine s_iconst (pc := 41) (v := 0) ?_ dX11_isFull_41 (by decide)
        exact s_goto (pc := 42) (tgt := 66) h2 dX11_isFull_42 (by decide)
      · skip
        refine s_iconst (pc := 37) (v := 1) ?_ dX11_isFull_37 (by decide)
        exact s_goto (pc := 38) (tgt := 66) h2 dX11_isFull_38 (by decide)
  · skip
    refine s_aload_n (pc := 4) (i := 0) ?_ dX11_isFull_4 rfl
    refine s_getf (pc := 5) (ci := 10) (f := 10) (T := TX11) ?_ ginX11 rfl (by decide) wt_1403 dX11_isFull_5
    refine s_iconst (pc := 8) (v := 0) ?_ dX11_isFull_8 (by decide)
    refine s_iaload (pc := 9) ?_ dX11_isFull_9
    refine s_iconst (pc := 10) (v := 4) ?_ dX11_isFull_10 (by decide)
    refine s_icne (pc := 11) (tgt := 18) ?_ ?_ dX11_isFull_11 (by decide)
    · skip
      refine s_iconst (pc := 18) (v := 0) ?_ dX11_isFull_18 (by decide)
      exact s_goto (pc := 19) (tgt := 66) h2 dX11_isFull_19 (by decide)
    · skip
      refine s_iconst (pc := 14) (v := 1) ?_ dX11_isFull_14 (by decide)
      exact s_goto (pc := 15) (tgt := 66) h2 dX11_isFull_15 (by decide)
theorem sbX11_isFull_1 (g : GE) (J : Nat → KT) (h1 : Snd mX11_isFull g 65 (J 1)) (h2 : Snd mX11_isFull g 66 (J 2)) : Snd mX11_isFull g 65 (bX11_isFull_1 g J) := by
  unfold bX11_isFull_1
  refine s_iconst (pc := 65) (v := 0) ?_ dX11_isFull_65 (by decide)
  exact s_fall (pc := 66) h2
theorem sbX11_isFull_2 (g : GE) (J : Nat → KT) (h1 : Snd mX11_isFull g 65 (J 1)) (h2 : Snd mX11_isFull g 66 (J 2)) : Snd mX11_isFull g 66 (bX11_isFull_2 g J) := by
  unfold bX11_isFull_2
  exact s_zreturn (pc := 66) rfl dX11_isFull_66
def jX11_isFull (g : GE) : Nat → Nat → KT
  | 0, _ => fun _ _ _ => none
  | n + 1, 0 => bX11_isFull_0 g (jX11_isFull g n)
  | n + 1, 1 => bX11_isFull_1 g (jX11_isFull g n)
  | n + 1, 2 => bX11_isFull_2 g (jX11_isFull g n)
  | _ + 1, _ + 3 => fun _ _ _ => none
theorem sjX11_isFull (g : GE) : ∀ n, Snd mX11_isFull g 0 (jX11_isFull g n 0) ∧ Snd mX11_isFull g 65 (jX11_isFull g n 1) ∧ Snd mX11_isFull g 66 (jX11_isFull g n 2)
  | 0 => ⟨s_none, s_none, s_none⟩
  | n + 1 => by
    obtain ⟨-, h1, h2⟩ := sjX11_isFull g n
    exact ⟨sbX11_isFull_0 g _ h1 h2, sbX11_isFull_1 g _ h1 h2, sbX11_isFull_2 g _ h1 h2⟩
def kX11_isFull (g : GE) : KT := jX11_isFull g g.1 0
theorem sX11_isFull (g : GE) : Snd mX11_isFull g 0 (kX11_isFull g) := (sjX11_isFull g g.1).1
def fX11_isFull : FT := fun g av w => if (ent av).length ≤ 2 then kX11_isFull g [] (entp 2 av) w else none
theorem tX11_isFull : Mt yX11_isFull cX11_isFull 2 (some .boolean) 1 30 fX11_isFull := Mt.of (K := kX11_isFull) (by decide +kernel) (fun _ _ _ => rfl) sX11_isFull
theorem crX11_isFull : yX11_isFull.cls ≠ "java/lang/invoke/MethodHandle" ∧ yX11_isFull.cls ≠ "java/lang/invoke/VarHandle" ∧ (parseMethodDescriptor yX11_isFull.desc).map (fun d => d.parameters.length) = some 1 := by decide +kernel
theorem dX11_names_0 : decode cX11_names 0 = .ok (.aload_n 0, 1) := by decide +kernel
theorem dX11_names_1 : decode cX11_names 1 = .ok (.invokevirtual 158, 3) := by decide +kernel
theorem dX11_names_4 : decode cX11_names 4 = .ok (.istore_n 2, 1) := by decide +kernel
theorem dX11_names_5 : decode cX11_names 5 = .ok (.aload_n 0, 1) := by decide +kernel
theorem dX11_names_6 : decode cX11_names 6 = .ok (.invokevirtual 168, 3) := by decide +kernel
theorem dX11_names_9 : decode cX11_names 9 = .ok (.lstore_n 3, 1) := by decide +kernel
theorem dX11_names_10 : decode cX11_names 10 = .ok (.iload_n 2, 1) := by decide +kernel
theorem dX11_names_11 : decode cX11_names 11 = .ok (.ifCond .ne 15, 3) := by decide +kernel
theorem dX11_names_14 : decode cX11_names 14 = .ok (.aload_n 0, 1) := by decide +kernel
theorem dX11_names_15 : decode cX11_names 15 = .ok (.iconst 1, 1) := by decide +kernel
theorem dX11_names_16 : decode cX11_names 16 = .ok (.aload_n 0, 1) := by decide +kernel
theorem dX11_names_17 : decode cX11_names 17 = .ok (.getfield 129, 3) := by decide +kernel
theorem dX11_names_20 : decode cX11_names 20 = .ok (.invokevirtual 149, 3) := by decide +kernel
theorem dX11_names_23 : decode cX11_names 23 = .ok (.goto 18, 3) := by decide +kernel
theorem dX11_names_26 : decode cX11_names 26 = .ok (.iload_n 2, 1) := by decide +kernel
theorem dX11_names_27 : decode cX11_names 27 = .ok (.bipush 9, 2) := by decide +kernel
theorem dX11_names_29 : decode cX11_names 29 = .ok (.if_icmp .le 12, 3) := by decide +kernel
theorem dX11_names_32 : decode cX11_names 32 = .ok (.aload_n 0, 1) := by decide +kernel
theorem dX11_names_33 : decode cX11_names 33 = .ok (.iconst 2, 1) := by decide +kernel
theorem dX11_names_34 : decode cX11_names 34 = .ok (.aload_n 0, 1) := by decide +kernel
theorem dX11_names_35 : decode cX11_names 35 = .ok (.getfield 129, 3) := by decide +kernel
theorem dX11_names_38 : decode cX11_names 38 = .ok (.invokevirtual 149, 3) := by decide +kernel
theorem dX11_names_41 : decode cX11_names 41 = .ok (.iconst 0, 1) := by decide +kernel
theorem dX11_names_42 : decode cX11_names 42 = .ok (.istore 5, 2) := by decide +kernel
theorem dX11_names_44 : decode cX11_names 44 = .ok (.iload 5, 2) := by decide +kernel
theorem dX11_names_46 : decode cX11_names 46 = .ok (.aload_n 0, 1) := by decide +kernel
theorem dX11_names_47 : decode cX11_names 47 = .ok (.getfield 20, 3) := by decide +kernel
theorem dX11_names_50 : decode cX11_names 50 = .ok (.iconst 0, 1) := by decide +kernel
theorem dX11_names_51 : decode cX11_names 51 = .ok (.iaload, 1) := by decide +kernel
theorem dX11_names_52 : decode cX11_names 52 = .ok (.if_icmp .ge 30, 3) := by decide +kernel
theorem dX11_names_55 : decode cX11_names 55 = .ok (.aload_n 0, 1) := by decide +kernel
theorem dX11_names_56 : decode cX11_names 56 = .ok (.getfield 44, 3) := by decide +kernel
theorem dX11_names_59 : decode cX11_names 59 = .ok (.iload 5, 2) := by decide +kernel
theorem dX11_names_61 : decode cX11_names 61 = .ok (.laload, 1) := by decide +kernel
theorem dX11_names_62 : decode cX11_names 62 = .ok (.lload_n 3, 1) := by decide +kernel
theorem dX11_names_63 : decode cX11_names 63 = .ok (.lcmp, 1) := by decide +kernel
theorem dX11_names_64 : decode cX11_names 64 = .ok (.ifCond .ne 12, 3) := by decide +kernel
theorem dX11_names_67 : decode cX11_names 67 = .ok (.aload_n 0, 1) := by decide +kernel
theorem dX11_names_68 : decode cX11_names 68 = .ok (.iconst 2, 1) := by decide +kernel
theorem dX11_names_69 : decode cX11_names 69 = .ok (.aload_n 0, 1) := by decide +kernel
theorem dX11_names_70 : decode cX11_names 70 = .ok (.getfield 129, 3) := by decide +kernel
theorem dX11_names_73 : decode cX11_names 73 = .ok (.invokevirtual 149, 3) := by decide +kernel
theorem dX11_names_76 : decode cX11_names 76 = .ok (.iinc 5 1, 3) := by decide +kernel
theorem dX11_names_79 : decode cX11_names 79 = .ok (.goto (-35), 3) := by decide +kernel
theorem dX11_names_82 : decode cX11_names 82 = .ok (.iconst 0, 1) := by decide +kernel
theorem dX11_names_83 : decode cX11_names 83 = .ok (.istore 5, 2) := by decide +kernel
theorem dX11_names_85 : decode cX11_names 85 = .ok (.iload 5, 2) := by decide +kernel
theorem dX11_names_87 : decode cX11_names 87 = .ok (.aload_n 0, 1) := by decide +kernel
theorem dX11_names_88 : decode cX11_names 88 = .ok (.getfield 20, 3) := by decide +kernel
theorem dX11_names_91 : decode cX11_names 91 = .ok (.iconst 1, 1) := by decide +kernel
theorem dX11_names_92 : decode cX11_names 92 = .ok (.iaload, 1) := by decide +kernel
theorem dX11_names_93 : decode cX11_names 93 = .ok (.if_icmp .ge 32, 3) := by decide +kernel
theorem dX11_names_96 : decode cX11_names 96 = .ok (.aload_n 0, 1) := by decide +kernel
theorem dX11_names_97 : decode cX11_names 97 = .ok (.getfield 44, 3) := by decide +kernel
theorem dX11_names_100 : decode cX11_names 100 = .ok (.iconst 4, 1) := by decide +kernel
theorem dX11_names_101 : decode cX11_names 101 = .ok (.iload 5, 2) := by decide +kernel
theorem dX11_names_103 : decode cX11_names 103 = .ok (.iadd, 1) := by decide +kernel
theorem dX11_names_104 : decode cX11_names 104 = .ok (.laload, 1) := by decide +kernel
theorem dX11_names_105 : decode cX11_names 105 = .ok (.lload_n 3, 1) := by decide +kernel
theorem dX11_names_106 : decode cX11_names 106 = .ok (.lcmp, 1) := by decide +kernel
theorem dX11_names_107 : decode cX11_names 107 = .ok (.ifCond .ne 12, 3) := by decide +kernel
theorem dX11_names_110 : decode cX11_names 110 = .ok (.aload_n 0, 1) := by decide +kernel
theorem dX11_names_111 : decode cX11_names 111 = .ok (.iconst 2, 1) := by decide +kernel
theorem dX11_names_112 : decode cX11_names 112 = .ok (.aload_n 0, 1) := by decide +kernel
theorem dX11_names_113 : decode cX11_names 113 = .ok (.getfield 129, 3) := by decide +kernel
theorem dX11_names_116 : decode cX11_names 116 = .ok (.invokevirtual 149, 3) := by decide +kernel
theorem dX11_names_119 : decode cX11_names 119 = .ok (.iinc 5 1, 3) := by decide +kernel
theorem dX11_names_122 : decode cX11_names 122 = .ok (.goto (-37), 3) := by decide +kernel
theorem dX11_names_125 : decode cX11_names 125 = .ok (.aload_n 0, 1) := by decide +kernel
theorem dX11_names_126 : decode cX11_names 126 = .ok (.getfield 136, 3) := by decide +kernel
theorem dX11_names_129 : decode cX11_names 129 = .ok (.ifCond .eq 4, 3) := by decide +kernel
theorem dX11_names_132 : decode cX11_names 132 = .ok (.return_, 1) := by decide +kernel
theorem dX11_names_133 : decode cX11_names 133 = .ok (.iload_n 1, 1) := by decide +kernel
theorem dX11_names_134 : decode cX11_names 134 = .ok (.ifCond .ne 12, 3) := by decide +kernel
theorem dX11_names_137 : decode cX11_names 137 = .ok (.aload_n 0, 1) := by decide +kernel
theorem dX11_names_138 : decode cX11_names 138 = .ok (.getfield 20, 3) := by decide +kernel
theorem dX11_names_141 : decode cX11_names 141 = .ok (.iconst 0, 1) := by decide +kernel
theorem dX11_names_142 : decode cX11_names 142 = .ok (.iaload, 1) := by decide +kernel
theorem dX11_names_143 : decode cX11_names 143 = .ok (.goto 11, 3) := by decide +kernel
theorem dX11_names_146 : decode cX11_names 146 = .ok (.iconst 4, 1) := by decide +kernel
theorem dX11_names_147 : decode cX11_names 147 = .ok (.aload_n 0, 1) := by decide +kernel
theorem dX11_names_148 : decode cX11_names 148 = .ok (.getfield 20, 3) := by decide +kernel
theorem dX11_names_151 : decode cX11_names 151 = .ok (.iconst 1, 1) := by decide +kernel
theorem dX11_names_152 : decode cX11_names 152 = .ok (.iaload, 1) := by decide +kernel
theorem dX11_names_153 : decode cX11_names 153 = .ok (.iadd, 1) := by decide +kernel
theorem dX11_names_154 : decode cX11_names 154 = .ok (.istore 5, 2) := by decide +kernel
theorem dX11_names_156 : decode cX11_names 156 = .ok (.aload_n 0, 1) := by decide +kernel
theorem dX11_names_157 : decode cX11_names 157 = .ok (.getfield 44, 3) := by decide +kernel
theorem dX11_names_160 : decode cX11_names 160 = .ok (.iload 5, 2) := by decide +kernel
theorem dX11_names_162 : decode cX11_names 162 = .ok (.lload_n 3, 1) := by decide +kernel
theorem dX11_names_163 : decode cX11_names 163 = .ok (.lastore, 1) := by decide +kernel
theorem dX11_names_164 : decode cX11_names 164 = .ok (.aload_n 0, 1) := by decide +kernel
theorem dX11_names_165 : decode cX11_names 165 = .ok (.getfield 26, 3) := by decide +kernel
theorem dX11_names_168 : decode cX11_names 168 = .ok (.iload 5, 2) := by decide +kernel
theorem dX11_names_170 : decode cX11_names 170 = .ok (.iload_n 2, 1) := by decide +kernel
theorem dX11_names_171 : decode cX11_names 171 = .ok (.iastore, 1) := by decide +kernel
theorem dX11_names_172 : decode cX11_names 172 = .ok (.aload_n 0, 1) := by decide +kernel
theorem dX11_names_173 : decode cX11_names 173 = .ok (.dup, 1) := by decide +kernel
theorem dX11_names_174 : decode cX11_names 174 = .ok (.getfield 129, 3) := by decide +kernel
theorem dX11_names_177 : decode cX11_names 177 = .ok (.iload_n 2, 1) := by decide +kernel
theorem dX11_names_178 : decode cX11_names 178 = .ok (.iadd, 1) := by decide +kernel
theorem dX11_names_179 : decode cX11_names 179 = .ok (.putfield 129, 3) := by decide +kernel
theorem dX11_names_182 : decode cX11_names 182 = .ok (.iload_n 1, 1) := by decide +kernel
theorem dX11_names_183 : decode cX11_names 183 = .ok (.iconst 1, 1) := by decide +kernel
theorem dX11_names_184 : decode cX11_names 184 = .ok (.if_icmp .ne 21, 3) := by decide +kernel
theorem dX11_names_187 : decode cX11_names 187 = .ok (.aload_n 0, 1) := by decide +kernel
theorem dX11_names_188 : decode cX11_names 188 = .ok (.getfield 32, 3) := by decide +kernel
theorem dX11_names_191 : decode cX11_names 191 = .ok (.aload_n 0, 1) := by decide +kernel
theorem dX11_names_192 : decode cX11_names 192 = .ok (.getfield 20, 3) := by decide +kernel
theorem dX11_names_195 : decode cX11_names 195 = .ok (.iconst 1, 1) := by decide +kernel
theorem dX11_names_196 : decode cX11_names 196 = .ok (.iaload, 1) := by decide +kernel
theorem dX11_names_197 : decode cX11_names 197 = .ok (.aload_n 0, 1) := by decide +kernel
theorem dX11_names_198 : decode cX11_names 198 = .ok (.iconst 0, 1) := by decide +kernel
theorem dX11_names_199 : decode cX11_names 199 = .ok (.bipush 99, 2) := by decide +kernel
theorem dX11_names_201 : decode cX11_names 201 = .ok (.invokevirtual 195, 3) := by decide +kernel
theorem dX11_names_204 : decode cX11_names 204 = .ok (.iastore, 1) := by decide +kernel
theorem dX11_names_205 : decode cX11_names 205 = .ok (.iload_n 1, 1) := by decide +kernel
theorem dX11_names_206 : decode cX11_names 206 = .ok (.ifCond .ne 15, 3) := by decide +kernel
theorem dX11_names_209 : decode cX11_names 209 = .ok (.aload_n 0, 1) := by decide +kernel
theorem dX11_names_210 : decode cX11_names 210 = .ok (.getfield 38, 3) := by decide +kernel
theorem dX11_names_213 : decode cX11_names 213 = .ok (.aload_n 0, 1) := by decide +kernel
theorem dX11_names_214 : decode cX11_names 214 = .ok (.getfield 20, 3) := by decide +kernel
theorem dX11_names_217 : decode cX11_names 217 = .ok (.iconst 0, 1) := by decide +kernel
theorem dX11_names_218 : decode cX11_names 218 = .ok (.iaload, 1) := by decide +kernel
theorem dX11_names_219 : decode cX11_names 219 = .ok (.iconst 0, 1) := by decide +kernel
theorem dX11_names_220 : decode cX11_names 220 = .ok (.iastore, 1) := by decide +kernel
theorem dX11_names_221 : decode cX11_names 221 = .ok (.aload_n 0, 1) := by decide +kernel
theorem dX11_names_222 : decode cX11_names 222 = .ok (.getfield 20, 3) := by decide +kernel
theorem dX11_names_225 : decode cX11_names 225 = .ok (.iload_n 1, 1) := by decide +kernel
theorem dX11_names_226 : decode cX11_names 226 = .ok (.dup2, 1) := by decide +kernel
theorem dX11_names_227 : decode cX11_names 227 = .ok (.iaload, 1) := by decide +kernel
theorem dX11_names_228 : decode cX11_names 228 = .ok (.iconst 1, 1) := by decide +kernel
theorem dX11_names_229 : decode cX11_names 229 = .ok (.iadd, 1) := by decide +kernel
theorem dX11_names_230 : decode cX11_names 230 = .ok (.iastore, 1) := by decide +kernel
theorem dX11_names_231 : decode cX11_names 231 = .ok (.return_, 1) := by decide +kernel
abbrev mX11_names : MD := (cX11_names, "BlottedDeedModel", 6, 5, 116, none, "names", [])
def bX11_names_0 (g : GE) (J : Nat → KT) : KT := i_aload 0 (i_cv fX11_lettersHere g 0 10 (i_istore 2 (i_aload 0 (i_cv fX11_wordHere g 0 10 (i_lstore 3 (i_iload 2 (i_ifne (i_iload 2 (i_push (.int 9) (i_icle (i_jmp [true, true, true, true, false, false] (J 1)) (i_aload 0 (i_push (.int 2) (i_aload 0 (i_getf 10 4 (i_cv fX11_wrong g 2 10 (i_jmp [true, true, true, true, false, false] (J 1)))))))))) (i_aload 0 (i_push (.int 1) (i_aload 0 (i_getf 10 4 (i_cv fX11_wrong g 2 10 (i_jmp [true, true, true, true, false, false] (J 1))))))))))))))
def bX11_names_1 (g : GE) (J : Nat → KT) : KT := i_push (.int 0) (i_istore 5 (i_jmp [true, true, true, true, false, true] (J 2)))
def bX11_names_2 (g : GE) (J : Nat → KT) : KT := i_iload 5 (i_aload 0 (i_getf 10 10 (i_push (.int 0) (i_iaload (i_icge (i_push (.int 0) (i_istore 5 (i_jmp [true, true, true, true, false, true] (J 4)))) (i_aload 0 (i_getf 10 18 (i_iload 5 (i_laload (i_lload 3 (i_lcmp (i_ifne (i_jmp [true, true, true, true, false, true] (J 3)) (i_aload 0 (i_push (.int 2) (i_aload 0 (i_getf 10 4 (i_cv fX11_wrong g 2 10 (i_jmp [true, true, true, true, false, true] (J 3)))))))))))))))))))
def bX11_names_3 (g : GE) (J : Nat → KT) : KT := i_iinc 5 1 (i_jmp [true, true, true, true, false, true] (J 2))
def bX11_names_4 (g : GE) (J : Nat → KT) : KT := i_iload 5 (i_aload 0 (i_getf 10 10 (i_push (.int 1) (i_iaload (i_icge (i_aload 0 (i_getf 10 5 (i_ifeq (i_iload 1 (i_ifne (i_push (.int 4) (i_aload 0 (i_getf 10 10 (i_push (.int 1) (i_iaload (i_iadd (i_jmp [true, true, true, true, false, false] (J 6)))))))) (i_aload 0 (i_getf 10 10 (i_push (.int 0) (i_iaload (i_jmp [true, true, true, true, false, false] (J 6)))))))) (i_return)))) (i_aload 0 (i_getf 10 18 (i_push (.int 4) (i_iload 5 (i_iadd (i_laload (i_lload 3 (i_lcmp (i_ifne (i_jmp [true, true, true, true, false, true] (J 5)) (i_aload 0 (i_push (.int 2) (i_aload 0 (i_getf 10 4 (i_cv fX11_wrong g 2 10 (i_jmp [true, true, true, true, false, true] (J 5)))))))))))))))))))))
def bX11_names_5 (g : GE) (J : Nat → KT) : KT := i_iinc 5 1 (i_jmp [true, true, true, true, false, true] (J 4))
def bX11_names_6 (g : GE) (J : Nat → KT) : KT := i_istore 5 (i_aload 0 (i_getf 10 18 (i_iload 5 (i_lload 3 (i_lastore (i_aload 0 (i_getf 10 12 (i_iload 5 (i_iload 2 (i_iastore (i_aload 0 (i_dup (i_getf 10 4 (i_iload 2 (i_iadd (i_putf 10 4 .int (i_iload 1 (i_push (.int 1) (i_icne (i_jmp [true, true, false, false, false, false] (J 7)) (i_aload 0 (i_getf 10 14 (i_aload 0 (i_getf 10 10 (i_push (.int 1) (i_iaload (i_aload 0 (i_push (.int 0) (i_push (.int 99) (i_cv fX11_number g 2 10 (i_iastore (i_jmp [true, true, false, false, false, false] (J 7))))))))))))))))))))))))))))))))
def bX11_names_7 (g : GE) (J : Nat → KT) : KT := i_iload 1 (i_ifne (i_jmp [true, true, false, false, false, false] (J 8)) (i_aload 0 (i_getf 10 16 (i_aload 0 (i_getf 10 10 (i_push (.int 0) (i_iaload (i_push (.int 0) (i_iastore (i_jmp [true, true, false, false, false, false] (J 8)))))))))))
def bX11_names_8 (g : GE) (J : Nat → KT) : KT := i_aload 0 (i_getf 10 10 (i_iload 1 (i_dup2 (i_iaload (i_push (.int 1) (i_iadd (i_iastore (i_return))))))))
theorem sbX11_names_0 (g : GE) (J : Nat → KT) (h1 : Snd mX11_names g 41 (J 1)) (h2 : Snd mX11_names g 44 (J 2)) (h3 : Snd mX11_names g 76 (J 3)) (h4 : Snd mX11_names g 85 (J 4)) (h5 : Snd mX11_names g 119 (J 5)) (h6 : Snd mX11_names g 154 (J 6)) (h7 : Snd mX11_names g 205 (J 7)) (h8 : Snd mX11_names g 221 (J 8)) : Snd mX11_names g 0 (bX11_names_0 g J) := by
  unfold bX11_names_0
  refine s_aload_n (pc := 0) (i := 0) ?_ dX11_names_0 rfl
  refine s_cv (pc := 1) (n := 0) (ci := 10) ?_ tX11_lettersHere rfl rfl wt_1588 wt_1590 wp_56 wt_17 wt_1591 ⟨crX11_lettersHere, by decide, by decide⟩ dX11_names_1
  refine s_istore_n (pc := 4) (i := 2) ?_ dX11_names_4 rfl (by decide)
  refine s_aload_n (pc := 5) (i := 0) ?_ dX11_names_5 rfl
  refine s_cv (pc := 6) (n := 0) (ci := 10) ?_ tX11_wordHere rfl rfl wt_1584 wt_1586 wp_55 wt_17 wt_1587 ⟨crX11_wordHere, by decide, by decide⟩ dX11_names_6
  refine s_lstore_n (pc := 9) (i := 3) ?_ dX11_names_9 rfl (by decide)
  refine s_iload_n (pc := 10) (i := 2) ?_ dX11_names_10 rfl
  refine s_ifne (pc := 11) (tgt := 26) ?_ ?_ dX11_names_11 (by decide)
  · skip
    refine s_iload_n (pc := 26) (i := 2) ?_ dX11_names_26 rfl
    refine s_bipush (pc := 27) (v := 9) ?_ dX11_names_27 (by decide)
    refine s_icle (pc := 29) (tgt := 41) ?_ ?_ dX11_names_29 (by decide)
    · skip
      exact s_fall (pc := 41) h1
    · skip
      refine s_aload_n (pc := 32) (i := 0) ?_ dX11_names_32 rfl
      refine s_iconst (pc := 33) (v := 2) ?_ dX11_names_33 (by decide)
      refine s_aload_n (pc := 34) (i := 0) ?_ dX11_names_34 rfl
      refine s_getf (pc := 35) (ci := 10) (f := 4) (T := TX11) ?_ ginX11 rfl (by decide) wt_1397 dX11_names_35
      refine s_cv (pc := 38) (n := 2) (ci := 10) ?_ tX11_wrong rfl rfl wt_1599 wt_1601 wp_57 wt_17 wt_1602 ⟨crX11_wrong, by decide, by decide⟩ dX11_names_38
      exact s_fall (pc := 41) h1
  · skip
    refine s_aload_n (pc := 14) (i := 0) ?_ dX11_names_14 rfl
    refine s_iconst (pc := 15) (v := 1) ?_ dX11_names_15 (by decide)
    refine s_aload_n (pc := 16) (i := 0) ?_ dX11_names_16 rfl
    refine s_getf (pc := 17) (ci := 10) (f := 4) (T := TX11) ?_ ginX11 rfl (by decide) wt_1397 dX11_names_17
    refine s_cv (pc := 20) (n := 2) (ci := 10) ?_ tX11_wrong rfl rfl wt_1599 wt_1601 wp_57 wt_17 wt_1602 ⟨crX11_wrong, by decide, by decide⟩ dX11_names_20
    exact s_goto (pc := 23) (tgt := 41) h1 dX11_names_23 (by decide)
theorem sbX11_names_1 (g : GE) (J : Nat → KT) (h1 : Snd mX11_names g 41 (J 1)) (h2 : Snd mX11_names g 44 (J 2)) (h3 : Snd mX11_names g 76 (J 3)) (h4 : Snd mX11_names g 85 (J 4)) (h5 : Snd mX11_names g 119 (J 5)) (h6 : Snd mX11_names g 154 (J 6)) (h7 : Snd mX11_names g 205 (J 7)) (h8 : Snd mX11_names g 221 (J 8)) : Snd mX11_names g 41 (bX11_names_1 g J) := by
  unfold bX11_names_1
  refine s_iconst (pc := 41) (v := 0) ?_ dX11_names_41 (by decide)
  refine s_istore (pc := 42) (i := 5) ?_ dX11_names_42 (by decide)
  exact s_fall (pc := 44) h2
theorem sbX11_names_2 (g : GE) (J : Nat → KT) (h1 : Snd mX11_names g 41 (J 1)) (h2 : Snd mX11_names g 44 (J 2)) (h3 : Snd mX11_names g 76 (J 3)) (h4 : Snd mX11_names g 85 (J 4)) (h5 : Snd mX11_names g 119 (J 5)) (h6 : Snd mX11_names g 154 (J 6)) (h7 : Snd mX11_names g 205 (J 7)) (h8 : Snd mX11_names g 221 (J 8)) : Snd mX11_names g 44 (bX11_names_2 g J) := by
  unfold bX11_names_2
  refine s_iload (pc := 44) (i := 5) ?_ dX11_names_44
  refine s_aload_n (pc := 46) (i := 0) ?_ dX11_names_46 rfl
  refine s_getf (pc := 47) (ci := 10) (f := 10) (T := TX11) ?_ ginX11 rfl (by decide) wt_1403 dX11_names_47
  refine s_iconst (pc := 50) (v := 0) ?_ dX11_names_50 (by decide)
  refine s_iaload (pc := 51) ?_ dX11_names_51
  refine s_icge (pc := 52) (tgt := 82) ?_ ?_ dX11_names_52 (by decide)
  · skip
    refine s_iconst (pc := 82) (v := 0) ?_ dX11_names_82 (by decide)
    refine s_istore (pc := 83) (i := 5) ?_ dX11_names_83 (by decide)
    exact s_fall (pc := 85) h4
  · skip
    refine s_aload_n (pc := 55) (i := 0) ?_ dX11_names_55 rfl
    refine s_getf (pc := 56) (ci := 10) (f := 18) (T := TX11) ?_ ginX11 rfl (by decide) wt_1411 dX11_names_56
    refine s_iload (pc := 59) (i := 5) ?_ dX11_names_59
    refine s_laload (pc := 61) ?_ dX11_names_61
    refine s_lload_n (pc := 62) (i := 3) ?_ dX11_names_62 rfl
    refine s_lcmp (pc := 63) ?_ dX11_names_63
    refine s_ifne (pc := 64) (tgt := 76) ?_ ?_ dX11_names_64 (by decide)
    · skip
      exact s_fall (pc := 76) h3
    · skip
      refine s_aload_n (pc := 67) (i := 0) ?_ dX11_names_67 rfl
      refine s_iconst (pc := 68) (v := 2) ?_ dX11_names_68 (by decide)
      refine s_aload_n (pc := 69) (i := 0) ?_ dX11_names_69 rfl
      refine s_getf (pc := 70) (ci := 10) (f := 4) (T := TX11) ?_ ginX11 rfl (by decide) wt_1397 dX11_names_70
      refine s_cv (pc := 73) (n := 2) (ci := 10) ?_ tX11_wrong rfl rfl wt_1599 wt_1601 wp_57 wt_17 wt_1602 ⟨crX11_wrong, by decide, by decide⟩ dX11_names_73
      exact s_fall (pc := 76) h3
theorem sbX11_names_3 (g : GE) (J : Nat → KT) (h1 : Snd mX11_names g 41 (J 1)) (h2 : Snd mX11_names g 44 (J 2)) (h3 : Snd mX11_names g 76 (J 3)) (h4 : Snd mX11_names g 85 (J 4)) (h5 : Snd mX11_names g 119 (J 5)) (h6 : Snd mX11_names g 154 (J 6)) (h7 : Snd mX11_names g 205 (J 7)) (h8 : Snd mX11_names g 221 (J 8)) : Snd mX11_names g 76 (bX11_names_3 g J) := by
  unfold bX11_names_3
  refine s_iinc (pc := 76) (i := 5) (v := 1) ?_ dX11_names_76 (by decide) (by decide)
  exact s_goto (pc := 79) (tgt := 44) h2 dX11_names_79 (by decide)
theorem sbX11_names_4 (g : GE) (J : Nat → KT) (h1 : Snd mX11_names g 41 (J 1)) (h2 : Snd mX11_names g 44 (J 2)) (h3 : Snd mX11_names g 76 (J 3)) (h4 : Snd mX11_names g 85 (J 4)) (h5 : Snd mX11_names g 119 (J 5)) (h6 : Snd mX11_names g 154 (J 6)) (h7 : Snd mX11_names g 205 (J 7)) (h8 : Snd mX11_names g 221 (J 8)) : Snd mX11_names g 85 (bX11_names_4 g J) := by
  unfold bX11_names_4
  refine s_iload (pc := 85) (i := 5) ?_ dX11_names_85
  refine s_aload_n (pc := 87) (i := 0) ?_ dX11_names_87 rfl
  refine s_getf (pc := 88) (ci := 10) (f := 10) (T := TX11) ?_ ginX11 rfl (by decide) wt_1403 dX11_names_88
  refine s_iconst (pc := 91) (v := 1) ?_ dX11_names_91 (by decide)
  refine s_iaload (pc := 92) ?_ dX11_names_92
  refine s_icge (pc := 93) (tgt := 125) ?_ ?_ dX11_names_93 (by decide)
  · skip
    refine s_aload_n (pc := 125) (i := 0) ?_ dX11_names_125 rfl
    refine s_getf (pc := 126) (ci := 10) (f := 5) (T := TX11) ?_ ginX11 rfl (by decide) wt_1398 dX11_names_126
    refine s_ifeq (pc := 129) (tgt := 133) ?_ ?_ dX11_names_129 (by decide)
    · skip
      refine s_iload_n (pc := 133) (i := 1) ?_ dX11_names_133 rfl
      refine s_ifne (pc := 134) (tgt := 146) ?_ ?_ dX11_names_134 (by decide)
      · skip
        refine s_iconst (pc := 146) (v := 4) ?_ dX11_names_146 (by decide)
        refine s_aload_n (pc := 147) (i := 0) ?_ dX11_names_147 rfl
        refine s_getf (pc := 148) (ci := 10) (f := 10) (T := TX11) ?_ ginX11 rfl (by decide) wt_1403 dX11_names_148
        refine s_iconst (pc := 151) (v := 1) ?_ dX11_names_151 (by decide)
        refine s_iaload (pc := 152) ?_ dX11_names_152
        refine s_iadd (pc := 153) ?_ dX11_names_153
        exact s_fall (pc := 154) h6
      · skip
        refine s_aload_n (pc := 137) (i := 0) ?_ dX11_names_137 rfl
        refine s_getf (pc := 138) (ci := 10) (f := 10) (T := TX11) ?_ ginX11 rfl (by decide) wt_1403 dX11_names_138
        refine s_iconst (pc := 141) (v := 0) ?_ dX11_names_141 (by decide)
        refine s_iaload (pc := 142) ?_ dX11_names_142
        exact s_goto (pc := 143) (tgt := 154) h6 dX11_names_143 (by decide)
    · skip
      exact s_return (pc := 132) rfl dX11_names_132
  · skip
    refine s_aload_n (pc := 96) (i := 0) ?_ dX11_names_96 rfl
    refine s_getf (pc := 97) (ci := 10) (f := 18) (T := TX11) ?_ ginX11 rfl (by decide) wt_1411 dX11_names_97
    refine s_iconst (pc := 100) (v := 4) ?_ dX11_names_100 (by decide)
    refine s_iload (pc := 101) (i := 5) ?_ dX11_names_101
    refine s_iadd (pc := 103) ?_ dX11_names_103
    refine s_laload (pc := 104) ?_ dX11_names_104
    refine s_lload_n (pc := 105) (i := 3) ?_ dX11_names_105 rfl
    refine s_lcmp (pc := 106) ?_ dX11_names_106
    refine s_ifne (pc := 107) (tgt := 119) ?_ ?_ dX11_names_107 (by decide)
    · skip
      exact s_fall (pc := 119) h5
    · skip
      refine s_aload_n (pc := 110) (i := 0) ?_ dX11_names_110 rfl
      refine s_iconst (pc := 111) (v := 2) ?_ dX11_names_111 (by decide)
      refine s_aload_n (pc := 112) (i := 0) ?_ dX11_names_112 rfl
      refine s_getf (pc := 113) (ci := 10) (f := 4) (T := TX11) ?_ ginX11 rfl (by decide) wt_1397 dX11_names_113
      refine s_cv (pc := 116) (n := 2) (ci := 10) ?_ tX11_wrong rfl rfl wt_1599 wt_1601 wp_57 wt_17 wt_1602 ⟨crX11_wrong, by decide, by decide⟩ dX11_names_116
      exact s_fall (pc := 119) h5
theorem sbX11_names_5 (g : GE) (J : Nat → KT) (h1 : Snd mX11_names g 41 (J 1)) (h2 : Snd mX11_names g 44 (J 2)) (h3 : Snd mX11_names g 76 (J 3)) (h4 : Snd mX11_names g 85 (J 4)) (h5 : Snd mX11_names g 119 (J 5)) (h6 : Snd mX11_names g 154 (J 6)) (h7 : Snd mX11_names g 205 (J 7)) (h8 : Snd mX11_names g 221 (J 8)) : Snd mX11_names g 119 (bX11_names_5 g J) := by
  unfold bX11_names_5
  refine s_iinc (pc := 119) (i := 5) (v := 1) ?_ dX11_names_119 (by decide) (by decide)
  exact s_goto (pc := 122) (tgt := 85) h4 dX11_names_122 (by decide)
theorem sbX11_names_6 (g : GE) (J : Nat → KT) (h1 : Snd mX11_names g 41 (J 1)) (h2 : Snd mX11_names g 44 (J 2)) (h3 : Snd mX11_names g 76 (J 3)) (h4 : Snd mX11_names g 85 (J 4)) (h5 : Snd mX11_names g 119 (J 5)) (h6 : Snd mX11_names g 154 (J 6)) (h7 : Snd mX11_names g 205 (J 7)) (h8 : Snd mX11_names g 221 (J 8)) : Snd mX11_names g 154 (bX11_names_6 g J) := by
  unfold bX11_names_6
  refine s_istore (pc := 154) (i := 5) ?_ dX11_names_154 (by decide)
  refine s_aload_n (pc := 156) (i := 0) ?_ dX11_names_156 rfl
  refine s_getf (pc := 157) (ci := 10) (f := 18) (T := TX11) ?_ ginX11 rfl (by decide) wt_1411 dX11_names_157
  refine s_iload (pc := 160) (i := 5) ?_ dX11_names_160
  refine s_lload_n (pc := 162) (i := 3) ?_ dX11_names_162 rfl
  refine s_lastore (pc := 163) ?_ dX11_names_163
  refine s_aload_n (pc := 164) (i := 0) ?_ dX11_names_164 rfl
  refine s_getf (pc := 165) (ci := 10) (f := 12) (T := TX11) ?_ ginX11 rfl (by decide) wt_1405 dX11_names_165
  refine s_iload (pc := 168) (i := 5) ?_ dX11_names_168
  refine s_iload_n (pc := 170) (i := 2) ?_ dX11_names_170 rfl
  refine s_iastore (pc := 171) ?_ dX11_names_171
  refine s_aload_n (pc := 172) (i := 0) ?_ dX11_names_172 rfl
  refine s_dup (pc := 173) ?_ dX11_names_173
  refine s_getf (pc := 174) (ci := 10) (f := 4) (T := TX11) ?_ ginX11 rfl (by decide) wt_1397 dX11_names_174
  refine s_iload_n (pc := 177) (i := 2) ?_ dX11_names_177 rfl
  refine s_iadd (pc := 178) ?_ dX11_names_178
  refine s_putf (pc := 179) (ci := 10) (f := 4) (T := TX11) (ty0 := tyX11) ?_ ginX11 tyX11_ok nmX11 rfl (by decide) rfl rfl wt_1397 dX11_names_179
  refine s_iload_n (pc := 182) (i := 1) ?_ dX11_names_182 rfl
  refine s_iconst (pc := 183) (v := 1) ?_ dX11_names_183 (by decide)
  refine s_icne (pc := 184) (tgt := 205) ?_ ?_ dX11_names_184 (by decide)
  · skip
    exact s_fall (pc := 205) h7
  · skip
    refine s_aload_n (pc := 187) (i := 0) ?_ dX11_names_187 rfl
    refine s_getf (pc := 188) (ci := 10) (f := 14) (T := TX11) ?_ ginX11 rfl (by decide) wt_1407 dX11_names_188
    refine s_aload_n (pc := 191) (i := 0) ?_ dX11_names_191 rfl
    refine s_getf (pc := 192) (ci := 10) (f := 10) (T := TX11) ?_ ginX11 rfl (by decide) wt_1403 dX11_names_192
    refine s_iconst (pc := 195) (v := 1) ?_ dX11_names_195 (by decide)
    refine s_iaload (pc := 196) ?_ dX11_names_196
    refine s_aload_n (pc := 197) (i := 0) ?_ dX11_names_197 rfl
    refine s_iconst (pc := 198) (v := 0) ?_ dX11_names_198 (by decide)
    refine s_bipush (pc := 199) (v := 99) ?_ dX11_names_199 (by decide)
    refine s_cv (pc := 201) (n := 2) (ci := 10) ?_ tX11_number rfl rfl wt_1611 wt_1613 wp_60 wt_17 wt_1614 ⟨crX11_number, by decide, by decide⟩ dX11_names_201
    refine s_iastore (pc := 204) ?_ dX11_names_204
    exact s_fall (pc := 205) h7
theorem sbX11_names_7 (g : GE) (J : Nat → KT) (h1 : Snd mX11_names g 41 (J 1)) (h2 : Snd mX11_names g 44 (J 2)) (h3 : Snd mX11_names g 76 (J 3)) (h4 : Snd mX11_names g 85 (J 4)) (h5 : Snd mX11_names g 119 (J 5)) (h6 : Snd mX11_names g 154 (J 6)) (h7 : Snd mX11_names g 205 (J 7)) (h8 : Snd mX11_names g 221 (J 8)) : Snd mX11_names g 205 (bX11_names_7 g J) := by
  unfold bX11_names_7
  refine s_iload_n (pc := 205) (i := 1) ?_ dX11_names_205 rfl
  refine s_ifne (pc := 206) (tgt := 221) ?_ ?_ dX11_names_206 (by decide)
  · skip
    exact s_fall (pc := 221) h8
  · skip
    refine s_aload_n (pc := 209) (i := 0) ?_ dX11_names_209 rfl
    refine s_getf (pc := 210) (ci := 10) (f := 16) (T := TX11) ?_ ginX11 rfl (by decide) wt_1409 dX11_names_210
    refine s_aload_n (pc := 213) (i := 0) ?_ dX11_names_213 rfl
    refine s_getf (pc := 214) (ci := 10) (f := 10) (T := TX11) ?_ ginX11 rfl (by decide) wt_1403 dX11_names_214
    refine s_iconst (pc := 217) (v := 0) ?_ dX11_names_217 (by decide)
    refine s_iaload (pc := 218) ?_ dX11_names_218
    refine s_iconst (pc := 219) (v := 0) ?_ dX11_names_219 (by decide)
    refine s_iastore (pc := 220) ?_ dX11_names_220
    exact s_fall (pc := 221) h8
theorem sbX11_names_8 (g : GE) (J : Nat → KT) (h1 : Snd mX11_names g 41 (J 1)) (h2 : Snd mX11_names g 44 (J 2)) (h3 : Snd mX11_names g 76 (J 3)) (h4 : Snd mX11_names g 85 (J 4)) (h5 : Snd mX11_names g 119 (J 5)) (h6 : Snd mX11_names g 154 (J 6)) (h7 : Snd mX11_names g 205 (J 7)) (h8 : Snd mX11_names g 221 (J 8)) : Snd mX11_names g 221 (bX11_names_8 g J) := by
  unfold bX11_names_8
  refine s_aload_n (pc := 221) (i := 0) ?_ dX11_names_221 rfl
  refine s_getf (pc := 222) (ci := 10) (f := 10) (T := TX11) ?_ ginX11 rfl (by decide) wt_1403 dX11_names_222
  refine s_iload_n (pc := 225) (i := 1) ?_ dX11_names_225 rfl
  refine s_dup2 (pc := 226) ?_ dX11_names_226
  refine s_iaload (pc := 227) ?_ dX11_names_227
  refine s_iconst (pc := 228) (v := 1) ?_ dX11_names_228 (by decide)
  refine s_iadd (pc := 229) ?_ dX11_names_229
  refine s_iastore (pc := 230) ?_ dX11_names_230
  exact s_return (pc := 231) rfl dX11_names_231
def jX11_names (g : GE) : Nat → Nat → KT
  | 0, _ => fun _ _ _ => none
  | n + 1, 0 => bX11_names_0 g (jX11_names g n)
  | n + 1, 1 => bX11_names_1 g (jX11_names g n)
  | n + 1, 2 => bX11_names_2 g (jX11_names g n)
  | n + 1, 3 => bX11_names_3 g (jX11_names g n)
  | n + 1, 4 => bX11_names_4 g (jX11_names g n)
  | n + 1, 5 => bX11_names_5 g (jX11_names g n)
  | n + 1, 6 => bX11_names_6 g (jX11_names g n)
  | n + 1, 7 => bX11_names_7 g (jX11_names g n)
  | n + 1, 8 => bX11_names_8 g (jX11_names g n)
  | _ + 1, _ + 9 => fun _ _ _ => none
theorem sjX11_names (g : GE) : ∀ n, Snd mX11_names g 0 (jX11_names g n 0) ∧ Snd mX11_names g 41 (jX11_names g n 1) ∧ Snd mX11_names g 44 (jX11_names g n 2) ∧ Snd mX11_names g 76 (jX11_names g n 3) ∧ Snd mX11_names g 85 (jX11_names g n 4) ∧ Snd mX11_names g 119 (jX11_names g n 5) ∧ Snd mX11_names g 154 (jX11_names g n 6) ∧ Snd mX11_names g 205 (jX11_names g n 7) ∧ Snd mX11_names g 221 (jX11_names g n 8)
  | 0 => ⟨s_none, s_none, s_none, s_none, s_none, s_none, s_none, s_none, s_none⟩
  | n + 1 => by
    obtain ⟨-, h1, h2, h3, h4, h5, h6, h7, h8⟩ := sjX11_names g n
    exact ⟨sbX11_names_0 g _ h1 h2 h3 h4 h5 h6 h7 h8, sbX11_names_1 g _ h1 h2 h3 h4 h5 h6 h7 h8, sbX11_names_2 g _ h1 h2 h3 h4 h5 h6 h7 h8, sbX11_names_3 g _ h1 h2 h3 h4 h5 h6 h7 h8, sbX11_names_4 g _ h1 h2 h3 h4 h5 h6 h7 h8, sbX11_names_5 g _ h1 h2 h3 h4 h5 h6 h7 h8, sbX11_names_6 g _ h1 h2 h3 h4 h5 h6 h7 h8, sbX11_names_7 g _ h1 h2 h3 h4 h5 h6 h7 h8, sbX11_names_8 g _ h1 h2 h3 h4 h5 h6 h7 h8⟩
def kX11_names (g : GE) : KT := jX11_names g g.1 0
theorem sX11_names (g : GE) : Snd mX11_names g 0 (kX11_names g) := (sjX11_names g g.1).1
def fX11_names : FT := fun g av w => if (ent av).length ≤ 6 then kX11_names g [] (entp 6 av) w else none
theorem tX11_names : Mt yX11_names cX11_names 6 none 5 116 fX11_names := Mt.of (K := kX11_names) (by decide +kernel) (fun _ _ _ => rfl) sX11_names
theorem crX11_names : yX11_names.cls ≠ "java/lang/invoke/MethodHandle" ∧ yX11_names.cls ≠ "java/lang/invoke/VarHandle" ∧ (parseMethodDescriptor yX11_names.desc).map (fun d => d.parameters.length) = some 1 := by decide +kernel
