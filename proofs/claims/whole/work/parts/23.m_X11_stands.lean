theorem dX11_stands_0 : decode cX11_stands 0 = .ok (.iconst 0, 1) := by decide +kernel
theorem dX11_stands_1 : decode cX11_stands 1 = .ok (.istore_n 1, 1) := by decide +kernel
theorem dX11_stands_2 : decode cX11_stands 2 = .ok (.iload_n 1, 1) := by decide +kernel
theorem dX11_stands_3 : decode cX11_stands 3 = .ok (.bipush 7, 2) := by decide +kernel
theorem dX11_stands_5 : decode cX11_stands 5 = .ok (.if_icmp .ge 21, 3) := by decide +kernel
theorem dX11_stands_8 : decode cX11_stands 8 = .ok (.aload_n 0, 1) := by decide +kernel
theorem dX11_stands_9 : decode cX11_stands 9 = .ok (.getfield 23, 3) := by decide +kernel
theorem dX11_stands_12 : decode cX11_stands 12 = .ok (.iload_n 1, 1) := by decide +kernel
theorem dX11_stands_13 : decode cX11_stands 13 = .ok (.aload_n 0, 1) := by decide +kernel
theorem dX11_stands_14 : decode cX11_stands 14 = .ok (.getfield 20, 3) := by decide +kernel
theorem dX11_stands_17 : decode cX11_stands 17 = .ok (.iload_n 1, 1) := by decide +kernel
theorem dX11_stands_18 : decode cX11_stands 18 = .ok (.iaload, 1) := by decide +kernel
theorem dX11_stands_19 : decode cX11_stands 19 = .ok (.iastore, 1) := by decide +kernel
theorem dX11_stands_20 : decode cX11_stands 20 = .ok (.iinc 1 1, 3) := by decide +kernel
theorem dX11_stands_23 : decode cX11_stands 23 = .ok (.goto (-21), 3) := by decide +kernel
theorem dX11_stands_26 : decode cX11_stands 26 = .ok (.iconst 0, 1) := by decide +kernel
theorem dX11_stands_27 : decode cX11_stands 27 = .ok (.istore_n 1, 1) := by decide +kernel
theorem dX11_stands_28 : decode cX11_stands 28 = .ok (.iload_n 1, 1) := by decide +kernel
theorem dX11_stands_29 : decode cX11_stands 29 = .ok (.iconst 4, 1) := by decide +kernel
theorem dX11_stands_30 : decode cX11_stands 30 = .ok (.if_icmp .ge 33, 3) := by decide +kernel
theorem dX11_stands_33 : decode cX11_stands 33 = .ok (.aload_n 0, 1) := by decide +kernel
theorem dX11_stands_34 : decode cX11_stands 34 = .ok (.getfield 29, 3) := by decide +kernel
theorem dX11_stands_37 : decode cX11_stands 37 = .ok (.iload_n 1, 1) := by decide +kernel
theorem dX11_stands_38 : decode cX11_stands 38 = .ok (.aload_n 0, 1) := by decide +kernel
theorem dX11_stands_39 : decode cX11_stands 39 = .ok (.getfield 26, 3) := by decide +kernel
theorem dX11_stands_42 : decode cX11_stands 42 = .ok (.iload_n 1, 1) := by decide +kernel
theorem dX11_stands_43 : decode cX11_stands 43 = .ok (.iaload, 1) := by decide +kernel
theorem dX11_stands_44 : decode cX11_stands 44 = .ok (.iastore, 1) := by decide +kernel
theorem dX11_stands_45 : decode cX11_stands 45 = .ok (.aload_n 0, 1) := by decide +kernel
theorem dX11_stands_46 : decode cX11_stands 46 = .ok (.getfield 41, 3) := by decide +kernel
theorem dX11_stands_49 : decode cX11_stands 49 = .ok (.iload_n 1, 1) := by decide +kernel
theorem dX11_stands_50 : decode cX11_stands 50 = .ok (.aload_n 0, 1) := by decide +kernel
theorem dX11_stands_51 : decode cX11_stands 51 = .ok (.getfield 38, 3) := by decide +kernel
theorem dX11_stands_54 : decode cX11_stands 54 = .ok (.iload_n 1, 1) := by decide +kernel
theorem dX11_stands_55 : decode cX11_stands 55 = .ok (.iaload, 1) := by decide +kernel
theorem dX11_stands_56 : decode cX11_stands 56 = .ok (.iastore, 1) := by decide +kernel
theorem dX11_stands_57 : decode cX11_stands 57 = .ok (.iinc 1 1, 3) := by decide +kernel
theorem dX11_stands_60 : decode cX11_stands 60 = .ok (.goto (-32), 3) := by decide +kernel
theorem dX11_stands_63 : decode cX11_stands 63 = .ok (.iconst 0, 1) := by decide +kernel
theorem dX11_stands_64 : decode cX11_stands 64 = .ok (.istore_n 1, 1) := by decide +kernel
theorem dX11_stands_65 : decode cX11_stands 65 = .ok (.iload_n 1, 1) := by decide +kernel
theorem dX11_stands_66 : decode cX11_stands 66 = .ok (.iconst 5, 1) := by decide +kernel
theorem dX11_stands_67 : decode cX11_stands 67 = .ok (.if_icmp .ge 21, 3) := by decide +kernel
theorem dX11_stands_70 : decode cX11_stands 70 = .ok (.aload_n 0, 1) := by decide +kernel
theorem dX11_stands_71 : decode cX11_stands 71 = .ok (.getfield 35, 3) := by decide +kernel
theorem dX11_stands_74 : decode cX11_stands 74 = .ok (.iload_n 1, 1) := by decide +kernel
theorem dX11_stands_75 : decode cX11_stands 75 = .ok (.aload_n 0, 1) := by decide +kernel
theorem dX11_stands_76 : decode cX11_stands 76 = .ok (.getfield 32, 3) := by decide +kernel
theorem dX11_stands_79 : decode cX11_stands 79 = .ok (.iload_n 1, 1) := by decide +kernel
theorem dX11_stands_80 : decode cX11_stands 80 = .ok (.iaload, 1) := by decide +kernel
theorem dX11_stands_81 : decode cX11_stands 81 = .ok (.iastore, 1) := by decide +kernel
theorem dX11_stands_82 : decode cX11_stands 82 = .ok (.iinc 1 1, 3) := by decide +kernel
theorem dX11_stands_85 : decode cX11_stands 85 = .ok (.goto (-20), 3) := by decide +kernel
theorem dX11_stands_88 : decode cX11_stands 88 = .ok (.iconst 0, 1) := by decide +kernel
theorem dX11_stands_89 : decode cX11_stands 89 = .ok (.istore_n 1, 1) := by decide +kernel
theorem dX11_stands_90 : decode cX11_stands 90 = .ok (.iload_n 1, 1) := by decide +kernel
theorem dX11_stands_91 : decode cX11_stands 91 = .ok (.aload_n 0, 1) := by decide +kernel
theorem dX11_stands_92 : decode cX11_stands 92 = .ok (.getfield 23, 3) := by decide +kernel
theorem dX11_stands_95 : decode cX11_stands 95 = .ok (.iconst 2, 1) := by decide +kernel
theorem dX11_stands_96 : decode cX11_stands 96 = .ok (.iaload, 1) := by decide +kernel
theorem dX11_stands_97 : decode cX11_stands 97 = .ok (.if_icmp .ge 38, 3) := by decide +kernel
theorem dX11_stands_100 : decode cX11_stands 100 = .ok (.iconst 0, 1) := by decide +kernel
theorem dX11_stands_101 : decode cX11_stands 101 = .ok (.istore_n 2, 1) := by decide +kernel
theorem dX11_stands_102 : decode cX11_stands 102 = .ok (.iload_n 2, 1) := by decide +kernel
theorem dX11_stands_103 : decode cX11_stands 103 = .ok (.iconst 3, 1) := by decide +kernel
theorem dX11_stands_104 : decode cX11_stands 104 = .ok (.if_icmp .ge 25, 3) := by decide +kernel
theorem dX11_stands_107 : decode cX11_stands 107 = .ok (.aload_n 0, 1) := by decide +kernel
theorem dX11_stands_108 : decode cX11_stands 108 = .ok (.getfield 53, 3) := by decide +kernel
theorem dX11_stands_111 : decode cX11_stands 111 = .ok (.iload_n 1, 1) := by decide +kernel
theorem dX11_stands_112 : decode cX11_stands 112 = .ok (.aaload, 1) := by decide +kernel
theorem dX11_stands_113 : decode cX11_stands 113 = .ok (.iload_n 2, 1) := by decide +kernel
theorem dX11_stands_114 : decode cX11_stands 114 = .ok (.aload_n 0, 1) := by decide +kernel
theorem dX11_stands_115 : decode cX11_stands 115 = .ok (.getfield 50, 3) := by decide +kernel
theorem dX11_stands_118 : decode cX11_stands 118 = .ok (.iload_n 1, 1) := by decide +kernel
theorem dX11_stands_119 : decode cX11_stands 119 = .ok (.aaload, 1) := by decide +kernel
theorem dX11_stands_120 : decode cX11_stands 120 = .ok (.iload_n 2, 1) := by decide +kernel
theorem dX11_stands_121 : decode cX11_stands 121 = .ok (.iaload, 1) := by decide +kernel
theorem dX11_stands_122 : decode cX11_stands 122 = .ok (.iastore, 1) := by decide +kernel
theorem dX11_stands_123 : decode cX11_stands 123 = .ok (.iinc 2 1, 3) := by decide +kernel
theorem dX11_stands_126 : decode cX11_stands 126 = .ok (.goto (-24), 3) := by decide +kernel
theorem dX11_stands_129 : decode cX11_stands 129 = .ok (.iinc 1 1, 3) := by decide +kernel
theorem dX11_stands_132 : decode cX11_stands 132 = .ok (.goto (-42), 3) := by decide +kernel
theorem dX11_stands_135 : decode cX11_stands 135 = .ok (.iconst 0, 1) := by decide +kernel
theorem dX11_stands_136 : decode cX11_stands 136 = .ok (.istore_n 1, 1) := by decide +kernel
theorem dX11_stands_137 : decode cX11_stands 137 = .ok (.iload_n 1, 1) := by decide +kernel
theorem dX11_stands_138 : decode cX11_stands 138 = .ok (.aload_n 0, 1) := by decide +kernel
theorem dX11_stands_139 : decode cX11_stands 139 = .ok (.getfield 23, 3) := by decide +kernel
theorem dX11_stands_142 : decode cX11_stands 142 = .ok (.iconst 5, 1) := by decide +kernel
theorem dX11_stands_143 : decode cX11_stands 143 = .ok (.iaload, 1) := by decide +kernel
theorem dX11_stands_144 : decode cX11_stands 144 = .ok (.if_icmp .ge 38, 3) := by decide +kernel
theorem dX11_stands_147 : decode cX11_stands 147 = .ok (.iconst 0, 1) := by decide +kernel
theorem dX11_stands_148 : decode cX11_stands 148 = .ok (.istore_n 2, 1) := by decide +kernel
theorem dX11_stands_149 : decode cX11_stands 149 = .ok (.iload_n 2, 1) := by decide +kernel
theorem dX11_stands_150 : decode cX11_stands 150 = .ok (.iconst 3, 1) := by decide +kernel
theorem dX11_stands_151 : decode cX11_stands 151 = .ok (.if_icmp .ge 25, 3) := by decide +kernel
theorem dX11_stands_154 : decode cX11_stands 154 = .ok (.aload_n 0, 1) := by decide +kernel
theorem dX11_stands_155 : decode cX11_stands 155 = .ok (.getfield 59, 3) := by decide +kernel
theorem dX11_stands_158 : decode cX11_stands 158 = .ok (.iload_n 1, 1) := by decide +kernel
theorem dX11_stands_159 : decode cX11_stands 159 = .ok (.aaload, 1) := by decide +kernel
theorem dX11_stands_160 : decode cX11_stands 160 = .ok (.iload_n 2, 1) := by decide +kernel
theorem dX11_stands_161 : decode cX11_stands 161 = .ok (.aload_n 0, 1) := by decide +kernel
theorem dX11_stands_162 : decode cX11_stands 162 = .ok (.getfield 56, 3) := by decide +kernel
theorem dX11_stands_165 : decode cX11_stands 165 = .ok (.iload_n 1, 1) := by decide +kernel
theorem dX11_stands_166 : decode cX11_stands 166 = .ok (.aaload, 1) := by decide +kernel
theorem dX11_stands_167 : decode cX11_stands 167 = .ok (.iload_n 2, 1) := by decide +kernel
theorem dX11_stands_168 : decode cX11_stands 168 = .ok (.iaload, 1) := by decide +kernel
theorem dX11_stands_169 : decode cX11_stands 169 = .ok (.iastore, 1) := by decide +kernel
theorem dX11_stands_170 : decode cX11_stands 170 = .ok (.iinc 2 1, 3) := by decide +kernel
theorem dX11_stands_173 : decode cX11_stands 173 = .ok (.goto (-24), 3) := by decide +kernel
theorem dX11_stands_176 : decode cX11_stands 176 = .ok (.iinc 1 1, 3) := by decide +kernel
theorem dX11_stands_179 : decode cX11_stands 179 = .ok (.goto (-42), 3) := by decide +kernel
theorem dX11_stands_182 : decode cX11_stands 182 = .ok (.iconst 0, 1) := by decide +kernel
theorem dX11_stands_183 : decode cX11_stands 183 = .ok (.istore_n 1, 1) := by decide +kernel
theorem dX11_stands_184 : decode cX11_stands 184 = .ok (.iload_n 1, 1) := by decide +kernel
theorem dX11_stands_185 : decode cX11_stands 185 = .ok (.aload_n 0, 1) := by decide +kernel
theorem dX11_stands_186 : decode cX11_stands 186 = .ok (.getfield 23, 3) := by decide +kernel
theorem dX11_stands_189 : decode cX11_stands 189 = .ok (.iconst 3, 1) := by decide +kernel
theorem dX11_stands_190 : decode cX11_stands 190 = .ok (.iaload, 1) := by decide +kernel
theorem dX11_stands_191 : decode cX11_stands 191 = .ok (.if_icmp .ge 68, 3) := by decide +kernel
theorem dX11_stands_194 : decode cX11_stands 194 = .ok (.iconst 0, 1) := by decide +kernel
theorem dX11_stands_195 : decode cX11_stands 195 = .ok (.istore_n 2, 1) := by decide +kernel
theorem dX11_stands_196 : decode cX11_stands 196 = .ok (.iload_n 2, 1) := by decide +kernel
theorem dX11_stands_197 : decode cX11_stands 197 = .ok (.iconst 5, 1) := by decide +kernel
theorem dX11_stands_198 : decode cX11_stands 198 = .ok (.if_icmp .ge 25, 3) := by decide +kernel
theorem dX11_stands_201 : decode cX11_stands 201 = .ok (.aload_n 0, 1) := by decide +kernel
theorem dX11_stands_202 : decode cX11_stands 202 = .ok (.getfield 65, 3) := by decide +kernel
theorem dX11_stands_205 : decode cX11_stands 205 = .ok (.iload_n 1, 1) := by decide +kernel
theorem dX11_stands_206 : decode cX11_stands 206 = .ok (.aaload, 1) := by decide +kernel
theorem dX11_stands_207 : decode cX11_stands 207 = .ok (.iload_n 2, 1) := by decide +kernel
theorem dX11_stands_208 : decode cX11_stands 208 = .ok (.aload_n 0, 1) := by decide +kernel
theorem dX11_stands_209 : decode cX11_stands 209 = .ok (.getfield 62, 3) := by decide +kernel
theorem dX11_stands_212 : decode cX11_stands 212 = .ok (.iload_n 1, 1) := by decide +kernel
theorem dX11_stands_213 : decode cX11_stands 213 = .ok (.aaload, 1) := by decide +kernel
theorem dX11_stands_214 : decode cX11_stands 214 = .ok (.iload_n 2, 1) := by decide +kernel
theorem dX11_stands_215 : decode cX11_stands 215 = .ok (.iaload, 1) := by decide +kernel
theorem dX11_stands_216 : decode cX11_stands 216 = .ok (.iastore, 1) := by decide +kernel
theorem dX11_stands_217 : decode cX11_stands 217 = .ok (.iinc 2 1, 3) := by decide +kernel
theorem dX11_stands_220 : decode cX11_stands 220 = .ok (.goto (-24), 3) := by decide +kernel
theorem dX11_stands_223 : decode cX11_stands 223 = .ok (.iconst 0, 1) := by decide +kernel
theorem dX11_stands_224 : decode cX11_stands 224 = .ok (.istore_n 2, 1) := by decide +kernel
theorem dX11_stands_225 : decode cX11_stands 225 = .ok (.iload_n 2, 1) := by decide +kernel
theorem dX11_stands_226 : decode cX11_stands 226 = .ok (.bipush 100, 2) := by decide +kernel
theorem dX11_stands_228 : decode cX11_stands 228 = .ok (.if_icmp .ge 25, 3) := by decide +kernel
theorem dX11_stands_231 : decode cX11_stands 231 = .ok (.aload_n 0, 1) := by decide +kernel
theorem dX11_stands_232 : decode cX11_stands 232 = .ok (.getfield 71, 3) := by decide +kernel
theorem dX11_stands_235 : decode cX11_stands 235 = .ok (.iload_n 1, 1) := by decide +kernel
theorem dX11_stands_236 : decode cX11_stands 236 = .ok (.aaload, 1) := by decide +kernel
theorem dX11_stands_237 : decode cX11_stands 237 = .ok (.iload_n 2, 1) := by decide +kernel
theorem dX11_stands_238 : decode cX11_stands 238 = .ok (.aload_n 0, 1) := by decide +kernel
theorem dX11_stands_239 : decode cX11_stands 239 = .ok (.getfield 68, 3) := by decide +kernel
theorem dX11_stands_242 : decode cX11_stands 242 = .ok (.iload_n 1, 1) := by decide +kernel
theorem dX11_stands_243 : decode cX11_stands 243 = .ok (.aaload, 1) := by decide +kernel
theorem dX11_stands_244 : decode cX11_stands 244 = .ok (.iload_n 2, 1) := by decide +kernel
theorem dX11_stands_245 : decode cX11_stands 245 = .ok (.iaload, 1) := by decide +kernel
theorem dX11_stands_246 : decode cX11_stands 246 = .ok (.iastore, 1) := by decide +kernel
theorem dX11_stands_247 : decode cX11_stands 247 = .ok (.iinc 2 1, 3) := by decide +kernel
theorem dX11_stands_250 : decode cX11_stands 250 = .ok (.goto (-25), 3) := by decide +kernel
theorem dX11_stands_253 : decode cX11_stands 253 = .ok (.iinc 1 1, 3) := by decide +kernel
theorem dX11_stands_256 : decode cX11_stands 256 = .ok (.goto (-72), 3) := by decide +kernel
theorem dX11_stands_259 : decode cX11_stands 259 = .ok (.aload_n 0, 1) := by decide +kernel
theorem dX11_stands_260 : decode cX11_stands 260 = .ok (.iconst 0, 1) := by decide +kernel
theorem dX11_stands_261 : decode cX11_stands 261 = .ok (.putfield 225, 3) := by decide +kernel
theorem dX11_stands_264 : decode cX11_stands 264 = .ok (.aload_n 0, 1) := by decide +kernel
theorem dX11_stands_265 : decode cX11_stands 265 = .ok (.iconst 0, 1) := by decide +kernel
theorem dX11_stands_266 : decode cX11_stands 266 = .ok (.putfield 228, 3) := by decide +kernel
theorem dX11_stands_269 : decode cX11_stands 269 = .ok (.aload_n 0, 1) := by decide +kernel
theorem dX11_stands_270 : decode cX11_stands 270 = .ok (.iconst 0, 1) := by decide +kernel
theorem dX11_stands_271 : decode cX11_stands 271 = .ok (.putfield 231, 3) := by decide +kernel
theorem dX11_stands_274 : decode cX11_stands 274 = .ok (.aload_n 0, 1) := by decide +kernel
theorem dX11_stands_275 : decode cX11_stands 275 = .ok (.invokevirtual 117, 3) := by decide +kernel
theorem dX11_stands_278 : decode cX11_stands 278 = .ok (.return_, 1) := by decide +kernel
abbrev mX11_stands : MD := (cX11_stands, "BlottedDeedModel", 3, 4, 97, none, "stands", [])
def bX11_stands_0 (g : GE) (J : Nat → KT) : KT := i_push (.int 0) (i_istore 1 (i_jmp [true, true, false] (J 1)))
def bX11_stands_1 (g : GE) (J : Nat → KT) : KT := i_iload 1 (i_push (.int 7) (i_icge (i_push (.int 0) (i_istore 1 (i_jmp [true, true, false] (J 2)))) (i_aload 0 (i_getf 10 11 (i_iload 1 (i_aload 0 (i_getf 10 10 (i_iload 1 (i_iaload (i_iastore (i_iinc 1 1 (i_jmp [true, true, false] (J 1)))))))))))))
def bX11_stands_2 (g : GE) (J : Nat → KT) : KT := i_iload 1 (i_push (.int 4) (i_icge (i_push (.int 0) (i_istore 1 (i_jmp [true, true, false] (J 3)))) (i_aload 0 (i_getf 10 13 (i_iload 1 (i_aload 0 (i_getf 10 12 (i_iload 1 (i_iaload (i_iastore (i_aload 0 (i_getf 10 17 (i_iload 1 (i_aload 0 (i_getf 10 16 (i_iload 1 (i_iaload (i_iastore (i_iinc 1 1 (i_jmp [true, true, false] (J 2)))))))))))))))))))))
def bX11_stands_3 (g : GE) (J : Nat → KT) : KT := i_iload 1 (i_push (.int 5) (i_icge (i_push (.int 0) (i_istore 1 (i_jmp [true, true, false] (J 4)))) (i_aload 0 (i_getf 10 15 (i_iload 1 (i_aload 0 (i_getf 10 14 (i_iload 1 (i_iaload (i_iastore (i_iinc 1 1 (i_jmp [true, true, false] (J 3)))))))))))))
def bX11_stands_4 (g : GE) (J : Nat → KT) : KT := i_iload 1 (i_aload 0 (i_getf 10 11 (i_push (.int 2) (i_iaload (i_icge (i_push (.int 0) (i_istore 1 (i_jmp [true, true, false] (J 6)))) (i_push (.int 0) (i_istore 2 (i_jmp [true, true, true] (J 5)))))))))
def bX11_stands_5 (g : GE) (J : Nat → KT) : KT := i_iload 2 (i_push (.int 3) (i_icge (i_iinc 1 1 (i_jmp [true, true, false] (J 4))) (i_aload 0 (i_getf 10 20 (i_iload 1 (i_aaload 4 (i_iload 2 (i_aload 0 (i_getf 10 19 (i_iload 1 (i_aaload 4 (i_iload 2 (i_iaload (i_iastore (i_iinc 2 1 (i_jmp [true, true, true] (J 5)))))))))))))))))
def bX11_stands_6 (g : GE) (J : Nat → KT) : KT := i_iload 1 (i_aload 0 (i_getf 10 11 (i_push (.int 5) (i_iaload (i_icge (i_push (.int 0) (i_istore 1 (i_jmp [true, true, false] (J 8)))) (i_push (.int 0) (i_istore 2 (i_jmp [true, true, true] (J 7)))))))))
def bX11_stands_7 (g : GE) (J : Nat → KT) : KT := i_iload 2 (i_push (.int 3) (i_icge (i_iinc 1 1 (i_jmp [true, true, false] (J 6))) (i_aload 0 (i_getf 10 22 (i_iload 1 (i_aaload 4 (i_iload 2 (i_aload 0 (i_getf 10 21 (i_iload 1 (i_aaload 4 (i_iload 2 (i_iaload (i_iastore (i_iinc 2 1 (i_jmp [true, true, true] (J 7)))))))))))))))))
def bX11_stands_8 (g : GE) (J : Nat → KT) : KT := i_iload 1 (i_aload 0 (i_getf 10 11 (i_push (.int 3) (i_iaload (i_icge (i_aload 0 (i_push (.int 0) (i_putf 10 32 .int (i_aload 0 (i_push (.int 0) (i_putf 10 33 .int (i_aload 0 (i_push (.int 0) (i_putf 10 34 .int (i_aload 0 (i_cv fX11_laysReadings g 0 10 (i_return)))))))))))) (i_push (.int 0) (i_istore 2 (i_jmp [true, true, true] (J 9)))))))))
def bX11_stands_9 (g : GE) (J : Nat → KT) : KT := i_iload 2 (i_push (.int 5) (i_icge (i_push (.int 0) (i_istore 2 (i_jmp [true, true, true] (J 10)))) (i_aload 0 (i_getf 10 24 (i_iload 1 (i_aaload 4 (i_iload 2 (i_aload 0 (i_getf 10 23 (i_iload 1 (i_aaload 4 (i_iload 2 (i_iaload (i_iastore (i_iinc 2 1 (i_jmp [true, true, true] (J 9)))))))))))))))))
def bX11_stands_10 (g : GE) (J : Nat → KT) : KT := i_iload 2 (i_push (.int 100) (i_icge (i_iinc 1 1 (i_jmp [true, true, false] (J 8))) (i_aload 0 (i_getf 10 26 (i_iload 1 (i_aaload 4 (i_iload 2 (i_aload 0 (i_getf 10 25 (i_iload 1 (i_aaload 4 (i_iload 2 (i_iaload (i_iastore (i_iinc 2 1 (i_jmp [true, true, true] (J 10)))))))))))))))))
theorem sbX11_stands_0 (g : GE) (J : Nat → KT) (h1 : Snd mX11_stands g 2 (J 1)) (h2 : Snd mX11_stands g 28 (J 2)) (h3 : Snd mX11_stands g 65 (J 3)) (h4 : Snd mX11_stands g 90 (J 4)) (h5 : Snd mX11_stands g 102 (J 5)) (h6 : Snd mX11_stands g 137 (J 6)) (h7 : Snd mX11_stands g 149 (J 7)) (h8 : Snd mX11_stands g 184 (J 8)) (h9 : Snd mX11_stands g 196 (J 9)) (h10 : Snd mX11_stands g 225 (J 10)) : Snd mX11_stands g 0 (bX11_stands_0 g J) := by
  unfold bX11_stands_0
  refine s_iconst (pc := 0) (v := 0) ?_ dX11_stands_0 (by decide)
  refine s_istore_n (pc := 1) (i := 1) ?_ dX11_stands_1 rfl (by decide)
  exact s_fall (pc := 2) h1
theorem sbX11_stands_1 (g : GE) (J : Nat → KT) (h1 : Snd mX11_stands g 2 (J 1)) (h2 : Snd mX11_stands g 28 (J 2)) (h3 : Snd mX11_stands g 65 (J 3)) (h4 : Snd mX11_stands g 90 (J 4)) (h5 : Snd mX11_stands g 102 (J 5)) (h6 : Snd mX11_stands g 137 (J 6)) (h7 : Snd mX11_stands g 149 (J 7)) (h8 : Snd mX11_stands g 184 (J 8)) (h9 : Snd mX11_stands g 196 (J 9)) (h10 : Snd mX11_stands g 225 (J 10)) : Snd mX11_stands g 2 (bX11_stands_1 g J) := by
  unfold bX11_stands_1
  refine s_iload_n (pc := 2) (i := 1) ?_ dX11_stands_2 rfl
  refine s_bipush (pc := 3) (v := 7) ?_ dX11_stands_3 (by decide)
  refine s_icge (pc := 5) (tgt := 26) ?_ ?_ dX11_stands_5 (by decide)
  · skip
    refine s_iconst (pc := 26) (v := 0) ?_ dX11_stands_26 (by decide)
    refine s_istore_n (pc := 27) (i := 1) ?_ dX11_stands_27 rfl (by decide)
    exact s_fall (pc := 28) h2
  · skip
    refine s_aload_n (pc := 8) (i := 0) ?_ dX11_stands_8 rfl
    refine s_getf (pc := 9) (ci := 10) (f := 11) (T := TX11) ?_ ginX11 rfl (by decide) wt_1404 dX11_stands_9
    refine s_iload_n (pc := 12) (i := 1) ?_ dX11_stands_12 rfl
    refine s_aload_n (pc := 13) (i := 0) ?_ dX11_stands_13 rfl
    refine s_getf (pc := 14) (ci := 10) (f := 10) (T := TX11) ?_ ginX11 rfl (by decide) wt_1403 dX11_stands_14
    refine s_iload_n (pc := 17) (i := 1) ?_ dX11_stands_17 rfl
    refine s_iaload (pc := 18) ?_ dX11_stands_18
    refine s_iastore (pc := 19) ?_ dX11_stands_19
    refine s_iinc (pc := 20) (i := 1) (v := 1) ?_ dX11_stands_20 (by decide) (by decide)
    exact s_goto (pc := 23) (tgt := 2) h1 dX11_stands_23 (by decide)
theorem sbX11_stands_2 (g : GE) (J : Nat → KT) (h1 : Snd mX11_stands g 2 (J 1)) (h2 : Snd mX11_stands g 28 (J 2)) (h3 : Snd mX11_stands g 65 (J 3)) (h4 : Snd mX11_stands g 90 (J 4)) (h5 : Snd mX11_stands g 102 (J 5)) (h6 : Snd mX11_stands g 137 (J 6)) (h7 : Snd mX11_stands g 149 (J 7)) (h8 : Snd mX11_stands g 184 (J 8)) (h9 : Snd mX11_stands g 196 (J 9)) (h10 : Snd mX11_stands g 225 (J 10)) : Snd mX11_stands g 28 (bX11_stands_2 g J) := by
  unfold bX11_stands_2
  refine s_iload_n (pc := 28) (i := 1) ?_ dX11_stands_28 rfl
  refine s_iconst (pc := 29) (v := 4) ?_ dX11_stands_29 (by decide)
  refine s_icge (pc := 30) (tgt := 63) ?_ ?_ dX11_stands_30 (by decide)
  · skip
    refine s_iconst (pc := 63) (v := 0) ?_ dX11_stands_63 (by decide)
    refine s_istore_n (pc := 64) (i := 1) ?_ dX11_stands_64 rfl (by decide)
    exact s_fall (pc := 65) h3
  · skip
    refine s_aload_n (pc := 33) (i := 0) ?_ dX11_stands_33 rfl
    refine s_getf (pc := 34) (ci := 10) (f := 13) (T := TX11) ?_ ginX11 rfl (by decide) wt_1406 dX11_stands_34
    refine s_iload_n (pc := 37) (i := 1) ?_ dX11_stands_37 rfl
    refine s_aload_n (pc := 38) (i := 0) ?_ dX11_stands_38 rfl
    refine s_getf (pc := 39) (ci := 10) (f := 12) (T := TX11) ?_ ginX11 rfl (by decide) wt_1405 dX11_stands_39
    refine s_iload_n (pc := 42) (i := 1) ?_ dX11_stands_42 rfl
    refine s_iaload (pc := 43) ?_ dX11_stands_43
    refine s_iastore (pc := 44) ?_ dX11_stands_44
    refine s_aload_n (pc := 45) (i := 0) ?_ dX11_stands_45 rfl
    refine s_getf (pc := 46) (ci := 10) (f := 17) (T := TX11) ?_ ginX11 rfl (by decide) wt_1410 dX11_stands_46
    refine s_iload_n (pc := 49) (i := 1) ?_ dX11_stands_49 rfl
    refine s_aload_n (pc := 50) (i := 0) ?_ dX11_stands_50 rfl
    refine s_getf (pc := 51) (ci := 10) (f := 16) (T := TX11) ?_ ginX11 rfl (by decide) wt_1409 dX11_stands_51
    refine s_iload_n (pc := 54) (i := 1) ?_ dX11_stands_54 rfl
    refine s_iaload (pc := 55) ?_ dX11_stands_55
    refine s_iastore (pc := 56) ?_ dX11_stands_56
    refine s_iinc (pc := 57) (i := 1) (v := 1) ?_ dX11_stands_57 (by decide) (by decide)
    exact s_goto (pc := 60) (tgt := 28) h2 dX11_stands_60 (by decide)
theorem sbX11_stands_3 (g : GE) (J : Nat → KT) (h1 : Snd mX11_stands g 2 (J 1)) (h2 : Snd mX11_stands g 28 (J 2)) (h3 : Snd mX11_stands g 65 (J 3)) (h4 : Snd mX11_stands g 90 (J 4)) (h5 : Snd mX11_stands g 102 (J 5)) (h6 : Snd mX11_stands g 137 (J 6)) (h7 : Snd mX11_stands g 149 (J 7)) (h8 : Snd mX11_stands g 184 (J 8)) (h9 : Snd mX11_stands g 196 (J 9)) (h10 : Snd mX11_stands g 225 (J 10)) : Snd mX11_stands g 65 (bX11_stands_3 g J) := by
  unfold bX11_stands_3
  refine s_iload_n (pc := 65) (i := 1) ?_ dX11_stands_65 rfl
  refine s_iconst (pc := 66) (v := 5) ?_ dX11_stands_66 (by decide)
  refine s_icge (pc := 67) (tgt := 88) ?_ ?_ dX11_stands_67 (by decide)
  · skip
    refine s_iconst (pc := 88) (v := 0) ?_ dX11_stands_88 (by decide)
    refine s_istore_n (pc := 89) (i := 1) ?_ dX11_stands_89 rfl (by decide)
    exact s_fall (pc := 90) h4
  · skip
    refine s_aload_n (pc := 70) (i := 0) ?_ dX11_stands_70 rfl
    refine s_getf (pc := 71) (ci := 10) (f := 15) (T := TX11) ?_ ginX11 rfl (by decide) wt_1408 dX11_stands_71
    refine s_iload_n (pc := 74) (i := 1) ?_ dX11_stands_74 rfl
    refine s_aload_n (pc := 75) (i := 0) ?_ dX11_stands_75 rfl
    refine s_getf (pc := 76) (ci := 10) (f := 14) (T := TX11) ?_ ginX11 rfl (by decide) wt_1407 dX11_stands_76
    refine s_iload_n (pc := 79) (i := 1) ?_ dX11_stands_79 rfl
    refine s_iaload (pc := 80) ?_ dX11_stands_80
    refine s_iastore (pc := 81) ?_ dX11_stands_81
    refine s_iinc (pc := 82) (i := 1) (v := 1) ?_ dX11_stands_82 (by decide) (by decide)
    exact s_goto (pc := 85) (tgt := 65) h3 dX11_stands_85 (by decide)
theorem sbX11_stands_4 (g : GE) (J : Nat → KT) (h1 : Snd mX11_stands g 2 (J 1)) (h2 : Snd mX11_stands g 28 (J 2)) (h3 : Snd mX11_stands g 65 (J 3)) (h4 : Snd mX11_stands g 90 (J 4)) (h5 : Snd mX11_stands g 102 (J 5)) (h6 : Snd mX11_stands g 137 (J 6)) (h7 : Snd mX11_stands g 149 (J 7)) (h8 : Snd mX11_stands g 184 (J 8)) (h9 : Snd mX11_stands g 196 (J 9)) (h10 : Snd mX11_stands g 225 (J 10)) : Snd mX11_stands g 90 (bX11_stands_4 g J) := by
  unfold bX11_stands_4
  refine s_iload_n (pc := 90) (i := 1) ?_ dX11_stands_90 rfl
  refine s_aload_n (pc := 91) (i := 0) ?_ dX11_stands_91 rfl
  refine s_getf (pc := 92) (ci := 10) (f := 11) (T := TX11) ?_ ginX11 rfl (by decide) wt_1404 dX11_stands_92
  refine s_iconst (pc := 95) (v := 2) ?_ dX11_stands_95 (by decide)
  refine s_iaload (pc := 96) ?_ dX11_stands_96
  refine s_icge (pc := 97) (tgt := 135) ?_ ?_ dX11_stands_97 (by decide)
  · skip
    refine s_iconst (pc := 135) (v := 0) ?_ dX11_stands_135 (by decide)
    refine s_istore_n (pc := 136) (i := 1) ?_ dX11_stands_136 rfl (by decide)
    exact s_fall (pc := 137) h6
  · skip
    refine s_iconst (pc := 100) (v := 0) ?_ dX11_stands_100 (by decide)
    refine s_istore_n (pc := 101) (i := 2) ?_ dX11_stands_101 rfl (by decide)
    exact s_fall (pc := 102) h5
theorem sbX11_stands_5 (g : GE) (J : Nat → KT) (h1 : Snd mX11_stands g 2 (J 1)) (h2 : Snd mX11_stands g 28 (J 2)) (h3 : Snd mX11_stands g 65 (J 3)) (h4 : Snd mX11_stands g 90 (J 4)) (h5 : Snd mX11_stands g 102 (J 5)) (h6 : Snd mX11_stands g 137 (J 6)) (h7 : Snd mX11_stands g 149 (J 7)) (h8 : Snd mX11_stands g 184 (J 8)) (h9 : Snd mX11_stands g 196 (J 9)) (h10 : Snd mX11_stands g 225 (J 10)) : Snd mX11_stands g 102 (bX11_stands_5 g J) := by
  unfold bX11_stands_5
  refine s_iload_n (pc := 102) (i := 2) ?_ dX11_stands_102 rfl
  refine s_iconst (pc := 103) (v := 3) ?_ dX11_stands_103 (by decide)
  refine s_icge (pc := 104) (tgt := 129) ?_ ?_ dX11_stands_104 (by decide)
  · skip
    refine s_iinc (pc := 129) (i := 1) (v := 1) ?_ dX11_stands_129 (by decide) (by decide)
    exact s_goto (pc := 132) (tgt := 90) h4 dX11_stands_132 (by decide)
  · skip
    refine s_aload_n (pc := 107) (i := 0) ?_ dX11_stands_107 rfl
    refine s_getf (pc := 108) (ci := 10) (f := 20) (T := TX11) ?_ ginX11 rfl (by decide) wt_1413 dX11_stands_108
    refine s_iload_n (pc := 111) (i := 1) ?_ dX11_stands_111 rfl
    refine s_aaload (pc := 112) (t := 4) ?_ (by decide) rfl dX11_stands_112
    refine s_iload_n (pc := 113) (i := 2) ?_ dX11_stands_113 rfl
    refine s_aload_n (pc := 114) (i := 0) ?_ dX11_stands_114 rfl
    refine s_getf (pc := 115) (ci := 10) (f := 19) (T := TX11) ?_ ginX11 rfl (by decide) wt_1412 dX11_stands_115
    refine s_iload_n (pc := 118) (i := 1) ?_ dX11_stands_118 rfl
    refine s_aaload (pc := 119) (t := 4) ?_ (by decide) rfl dX11_stands_119
    refine s_iload_n (pc := 120) (i := 2) ?_ dX11_stands_120 rfl
    refine s_iaload (pc := 121) ?_ dX11_stands_121
    refine s_iastore (pc := 122) ?_ dX11_stands_122
    refine s_iinc (pc := 123) (i := 2) (v := 1) ?_ dX11_stands_123 (by decide) (by decide)
    exact s_goto (pc := 126) (tgt := 102) h5 dX11_stands_126 (by decide)
theorem sbX11_stands_6 (g : GE) (J : Nat → KT) (h1 : Snd mX11_stands g 2 (J 1)) (h2 : Snd mX11_stands g 28 (J 2)) (h3 : Snd mX11_stands g 65 (J 3)) (h4 : Snd mX11_stands g 90 (J 4)) (h5 : Snd mX11_stands g 102 (J 5)) (h6 : Snd mX11_stands g 137 (J 6)) (h7 : Snd mX11_stands g 149 (J 7)) (h8 : Snd mX11_stands g 184 (J 8)) (h9 : Snd mX11_stands g 196 (J 9)) (h10 : Snd mX11_stands g 225 (J 10)) : Snd mX11_stands g 137 (bX11_stands_6 g J) := by
  unfold bX11_stands_6
  refine s_iload_n (pc := 137) (i := 1) ?_ dX11_stands_137 rfl
  refine s_aload_n (pc := 138) (i := 0) ?_ dX11_stands_138 rfl
  refine s_getf (pc := 139) (ci := 10) (f := 11) (T := TX11) ?_ ginX11 rfl (by decide) wt_1404 dX11_stands_139
  refine s_iconst (pc := 142) (v := 5) ?_ dX11_stands_142 (by decide)
  refine s_iaload (pc := 143) ?_ dX11_stands_143
  refine s_icge (pc := 144) (tgt := 182) ?_ ?_ dX11_stands_144 (by decide)
  · skip
    refine s_iconst (pc := 182) (v := 0) ?_ dX11_stands_182 (by decide)
    refine s_istore_n (pc := 183) (i := 1) ?_ dX11_stands_183 rfl (by decide)
    exact s_fall (pc := 184) h8
  · skip
    refine s_iconst (pc := 147) (v := 0) ?_ dX11_stands_147 (by decide)
    refine s_istore_n (pc := 148) (i := 2) ?_ dX11_stands_148 rfl (by decide)
    exact s_fall (pc := 149) h7
theorem sbX11_stands_7 (g : GE) (J : Nat → KT) (h1 : Snd mX11_stands g 2 (J 1)) (h2 : Snd mX11_stands g 28 (J 2)) (h3 : Snd mX11_stands g 65 (J 3)) (h4 : Snd mX11_stands g 90 (J 4)) (h5 : Snd mX11_stands g 102 (J 5)) (h6 : Snd mX11_stands g 137 (J 6)) (h7 : Snd mX11_stands g 149 (J 7)) (h8 : Snd mX11_stands g 184 (J 8)) (h9 : Snd mX11_stands g 196 (J 9)) (h10 : Snd mX11_stands g 225 (J 10)) : Snd mX11_stands g 149 (bX11_stands_7 g J) := by
  unfold bX11_stands_7
  refine s_iload_n (pc := 149) (i := 2) ?_ dX11_stands_149 rfl
  refine s_iconst (pc := 150) (v := 3) ?_ dX11_stands_150 (by decide)
  refine s_icge (pc := 151) (tgt := 176) ?_ ?_ dX11_stands_151 (by decide)
  · skip
    refine s_iinc (pc := 176) (i := 1) (v := 1) ?_ dX11_stands_176 (by decide) (by decide)
    exact s_goto (pc := 179) (tgt := 137) h6 dX11_stands_179 (by decide)
  · skip
    refine s_aload_n (pc := 154) (i := 0) ?_ dX11_stands_154 rfl
    refine s_getf (pc := 155) (ci := 10) (f := 22) (T := TX11) ?_ ginX11 rfl (by decide) wt_1415 dX11_stands_155
    refine s_iload_n (pc := 158) (i := 1) ?_ dX11_stands_158 rfl
    refine s_aaload (pc := 159) (t := 4) ?_ (by decide) rfl dX11_stands_159
    refine s_iload_n (pc := 160) (i := 2) ?_ dX11_stands_160 rfl
    refine s_aload_n (pc := 161) (i := 0) ?_ dX11_stands_161 rfl
    refine s_getf (pc := 162) (ci := 10) (f := 21) (T := TX11) ?_ ginX11 rfl (by decide) wt_1414 dX11_stands_162
    refine s_iload_n (pc := 165) (i := 1) ?_ dX11_stands_165 rfl
    refine s_aaload (pc := 166) (t := 4) ?_ (by decide) rfl dX11_stands_166
    refine s_iload_n (pc := 167) (i := 2) ?_ dX11_stands_167 rfl
    refine s_iaload (pc := 168) ?_ dX11_stands_168
    refine s_iastore (pc := 169) ?_ dX11_stands_169
    refine s_iinc (pc := 170) (i := 2) (v := 1) ?_ dX11_stands_170 (by decide) (by decide)
    exact s_goto (pc := 173) (tgt := 149) h7 dX11_stands_173 (by decide)
theorem sbX11_stands_8 (g : GE) (J : Nat → KT) (h1 : Snd mX11_stands g 2 (J 1)) (h2 : Snd mX11_stands g 28 (J 2)) (h3 : Snd mX11_stands g 65 (J 3)) (h4 : Snd mX11_stands g 90 (J 4)) (h5 : Snd mX11_stands g 102 (J 5)) (h6 : Snd mX11_stands g 137 (J 6)) (h7 : Snd mX11_stands g 149 (J 7)) (h8 : Snd mX11_stands g 184 (J 8)) (h9 : Snd mX11_stands g 196 (J 9)) (h10 : Snd mX11_stands g 225 (J 10)) : Snd mX11_stands g 184 (bX11_stands_8 g J) := by
  unfold bX11_stands_8
  refine s_iload_n (pc := 184) (i := 1) ?_ dX11_stands_184 rfl
  refine s_aload_n (pc := 185) (i := 0) ?_ dX11_stands_185 rfl
  refine s_getf (pc := 186) (ci := 10) (f := 11) (T := TX11) ?_ ginX11 rfl (by decide) wt_1404 dX11_stands_186
  refine s_iconst (pc := 189) (v := 3) ?_ dX11_stands_189 (by decide)
  refine s_iaload (pc := 190) ?_ dX11_stands_190
  refine s_icge (pc := 191) (tgt := 259) ?_ ?_ dX11_stands_191 (by decide)
  · skip
    refine s_aload_n (pc := 259) (i := 0) ?_ dX11_stands_259 rfl
    refine s_iconst (pc := 260) (v := 0) ?_ dX11_stands_260 (by decide)
    refine s_putf (pc := 261) (ci := 10) (f := 32) (T := TX11) (ty0 := tyX11) ?_ ginX11 tyX11_ok nmX11 rfl (by decide) rfl rfl wt_1425 dX11_stands_261
    refine s_aload_n (pc := 264) (i := 0) ?_ dX11_stands_264 rfl
    refine s_iconst (pc := 265) (v := 0) ?_ dX11_stands_265 (by decide)
    refine s_putf (pc := 266) (ci := 10) (f := 33) (T := TX11) (ty0 := tyX11) ?_ ginX11 tyX11_ok nmX11 rfl (by decide) rfl rfl wt_1426 dX11_stands_266
    refine s_aload_n (pc := 269) (i := 0) ?_ dX11_stands_269 rfl
    refine s_iconst (pc := 270) (v := 0) ?_ dX11_stands_270 (by decide)
    refine s_putf (pc := 271) (ci := 10) (f := 34) (T := TX11) (ty0 := tyX11) ?_ ginX11 tyX11_ok nmX11 rfl (by decide) rfl rfl wt_1427 dX11_stands_271
    refine s_aload_n (pc := 274) (i := 0) ?_ dX11_stands_274 rfl
    refine s_cv (pc := 275) (n := 0) (ci := 10) ?_ tX11_laysReadings rfl rfl wt_1373 wt_1375 wp_44 wt_17 wt_1376 ⟨crX11_laysReadings, by decide, by decide⟩ dX11_stands_275
    exact s_return (pc := 278) rfl dX11_stands_278
  · skip
    refine s_iconst (pc := 194) (v := 0) ?_ dX11_stands_194 (by decide)
    refine s_istore_n (pc := 195) (i := 2) ?_ dX11_stands_195 rfl (by decide)
    exact s_fall (pc := 196) h9
theorem sbX11_stands_9 (g : GE) (J : Nat → KT) (h1 : Snd mX11_stands g 2 (J 1)) (h2 : Snd mX11_stands g 28 (J 2)) (h3 : Snd mX11_stands g 65 (J 3)) (h4 : Snd mX11_stands g 90 (J 4)) (h5 : Snd mX11_stands g 102 (J 5)) (h6 : Snd mX11_stands g 137 (J 6)) (h7 : Snd mX11_stands g 149 (J 7)) (h8 : Snd mX11_stands g 184 (J 8)) (h9 : Snd mX11_stands g 196 (J 9)) (h10 : Snd mX11_stands g 225 (J 10)) : Snd mX11_stands g 196 (bX11_stands_9 g J) := by
  unfold bX11_stands_9
  refine s_iload_n (pc := 196) (i := 2) ?_ dX11_stands_196 rfl
  refine s_iconst (pc := 197) (v := 5) ?_ dX11_stands_197 (by decide)
  refine s_icge (pc := 198) (tgt := 223) ?_ ?_ dX11_stands_198 (by decide)
  · skip
    refine s_iconst (pc := 223) (v := 0) ?_ dX11_stands_223 (by decide)
    refine s_istore_n (pc := 224) (i := 2) ?_ dX11_stands_224 rfl (by decide)
    exact s_fall (pc := 225) h10
  · skip
    refine s_aload_n (pc := 201) (i := 0) ?_ dX11_stands_201 rfl
    refine s_getf (pc := 202) (ci := 10) (f := 24) (T := TX11) ?_ ginX11 rfl (by decide) wt_1417 dX11_stands_202
    refine s_iload_n (pc := 205) (i := 1) ?_ dX11_stands_205 rfl
    refine s_aaload (pc := 206) (t := 4) ?_ (by decide) rfl dX11_stands_206
    refine s_iload_n (pc := 207) (i := 2) ?_ dX11_stands_207 rfl
    refine s_aload_n (pc := 208) (i := 0) ?_ dX11_stands_208 rfl
    refine s_getf (pc := 209) (ci := 10) (f := 23) (T := TX11) ?_ ginX11 rfl (by decide) wt_1416 dX11_stands_209
    refine s_iload_n (pc := 212) (i := 1) ?_ dX11_stands_212 rfl
    refine s_aaload (pc := 213) (t := 4) ?_ (by decide) rfl dX11_stands_213
    refine s_iload_n (pc := 214) (i := 2) ?_ dX11_stands_214 rfl
    refine s_iaload (pc := 215) ?_ dX11_stands_215
    refine s_iastore (pc := 216) ?_ dX11_stands_216
    refine s_iinc (pc := 217) (i := 2) (v := 1) ?_ dX11_stands_217 (by decide) (by decide)
    exact s_goto (pc := 220) (tgt := 196) h9 dX11_stands_220 (by decide)
theorem sbX11_stands_10 (g : GE) (J : Nat → KT) (h1 : Snd mX11_stands g 2 (J 1)) (h2 : Snd mX11_stands g 28 (J 2)) (h3 : Snd mX11_stands g 65 (J 3)) (h4 : Snd mX11_stands g 90 (J 4)) (h5 : Snd mX11_stands g 102 (J 5)) (h6 : Snd mX11_stands g 137 (J 6)) (h7 : Snd mX11_stands g 149 (J 7)) (h8 : Snd mX11_stands g 184 (J 8)) (h9 : Snd mX11_stands g 196 (J 9)) (h10 : Snd mX11_stands g 225 (J 10)) : Snd mX11_stands g 225 (bX11_stands_10 g J) := by
  unfold bX11_stands_10
  refine s_iload_n (pc := 225) (i := 2) ?_ dX11_stands_225 rfl
  refine s_bipush (pc := 226) (v := 100) ?_ dX11_stands_226 (by decide)
  refine s_icge (pc := 228) (tgt := 253) ?_ ?_ dX11_stands_228 (by decide)
  · skip
    refine s_iinc (pc := 253) (i := 1) (v := 1) ?_ dX11_stands_253 (by decide) (by decide)
    exact s_goto (pc := 256) (tgt := 184) h8 dX11_stands_256 (by decide)
  · skip
    refine s_aload_n (pc := 231) (i := 0) ?_ dX11_stands_231 rfl
    refine s_getf (pc := 232) (ci := 10) (f := 26) (T := TX11) ?_ ginX11 rfl (by decide) wt_1419 dX11_stands_232
    refine s_iload_n (pc := 235) (i := 1) ?_ dX11_stands_235 rfl
    refine s_aaload (pc := 236) (t := 4) ?_ (by decide) rfl dX11_stands_236
    refine s_iload_n (pc := 237) (i := 2) ?_ dX11_stands_237 rfl
    refine s_aload_n (pc := 238) (i := 0) ?_ dX11_stands_238 rfl
    refine s_getf (pc := 239) (ci := 10) (f := 25) (T := TX11) ?_ ginX11 rfl (by decide) wt_1418 dX11_stands_239
    refine s_iload_n (pc := 242) (i := 1) ?_ dX11_stands_242 rfl
    refine s_aaload (pc := 243) (t := 4) ?_ (by decide) rfl dX11_stands_243
    refine s_iload_n (pc := 244) (i := 2) ?_ dX11_stands_244 rfl
    refine s_iaload (pc := 245) ?_ dX11_stands_245
    refine s_iastore (pc := 246) ?_ dX11_stands_246
    refine s_iinc (pc := 247) (i := 2) (v := 1) ?_ dX11_stands_247 (by decide) (by decide)
    exact s_goto (pc := 250) (tgt := 225) h10 dX11_stands_250 (by decide)
def jX11_stands (g : GE) : Nat → Nat → KT
  | 0, _ => fun _ _ _ => none
  | n + 1, 0 => bX11_stands_0 g (jX11_stands g n)
  | n + 1, 1 => bX11_stands_1 g (jX11_stands g n)
  | n + 1, 2 => bX11_stands_2 g (jX11_stands g n)
  | n + 1, 3 => bX11_stands_3 g (jX11_stands g n)
  | n + 1, 4 => bX11_stands_4 g (jX11_stands g n)
  | n + 1, 5 => bX11_stands_5 g (jX11_stands g n)
  | n + 1, 6 => bX11_stands_6 g (jX11_stands g n)
  | n + 1, 7 => bX11_stands_7 g (jX11_stands g n)
  | n + 1, 8 => bX11_stands_8 g (jX11_stands g n)
  | n + 1, 9 => bX11_stands_9 g (jX11_stands g n)
  | n + 1, 10 => bX11_stands_10 g (jX11_stands g n)
  | _ + 1, _ + 11 => fun _ _ _ => none
theorem sjX11_stands (g : GE) : ∀ n, Snd mX11_stands g 0 (jX11_stands g n 0) ∧ Snd mX11_stands g 2 (jX11_stands g n 1) ∧ Snd mX11_stands g 28 (jX11_stands g n 2) ∧ Snd mX11_stands g 65 (jX11_stands g n 3) ∧ Snd mX11_stands g 90 (jX11_stands g n 4) ∧ Snd mX11_stands g 102 (jX11_stands g n 5) ∧ Snd mX11_stands g 137 (jX11_stands g n 6) ∧ Snd mX11_stands g 149 (jX11_stands g n 7) ∧ Snd mX11_stands g 184 (jX11_stands g n 8) ∧ Snd mX11_stands g 196 (jX11_stands g n 9) ∧ Snd mX11_stands g 225 (jX11_stands g n 10)
  | 0 => ⟨s_none, s_none, s_none, s_none, s_none, s_none, s_none, s_none, s_none, s_none, s_none⟩
  | n + 1 => by
    obtain ⟨-, h1, h2, h3, h4, h5, h6, h7, h8, h9, h10⟩ := sjX11_stands g n
    exact ⟨sbX11_stands_0 g _ h1 h2 h3 h4 h5 h6 h7 h8 h9 h10, sbX11_stands_1 g _ h1 h2 h3 h4 h5 h6 h7 h8 h9 h10, sbX11_stands_2 g _ h1 h2 h3 h4 h5 h6 h7 h8 h9 h10, sbX11_stands_3 g _ h1 h2 h3 h4 h5 h6 h7 h8 h9 h10, sbX11_stands_4 g _ h1 h2 h3 h4 h5 h6 h7 h8 h9 h10, sbX11_stands_5 g _ h1 h2 h3 h4 h5 h6 h7 h8 h9 h10, sbX11_stands_6 g _ h1 h2 h3 h4 h5 h6 h7 h8 h9 h10, sbX11_stands_7 g _ h1 h2 h3 h4 h5 h6 h7 h8 h9 h10, sbX11_stands_8 g _ h1 h2 h3 h4 h5 h6 h7 h8 h9 h10, sbX11_stands_9 g _ h1 h2 h3 h4 h5 h6 h7 h8 h9 h10, sbX11_stands_10 g _ h1 h2 h3 h4 h5 h6 h7 h8 h9 h10⟩
def kX11_stands (g : GE) : KT := jX11_stands g g.1 0
theorem sX11_stands (g : GE) : Snd mX11_stands g 0 (kX11_stands g) := (sjX11_stands g g.1).1
def fX11_stands : FT := fun g av w => if (ent av).length ≤ 3 then kX11_stands g [] (entp 3 av) w else none
theorem tX11_stands : Mt yX11_stands cX11_stands 3 none 4 97 fX11_stands := Mt.of (K := kX11_stands) (by decide +kernel) (fun _ _ _ => rfl) sX11_stands
theorem crX11_stands : yX11_stands.cls ≠ "java/lang/invoke/MethodHandle" ∧ yX11_stands.cls ≠ "java/lang/invoke/VarHandle" ∧ (parseMethodDescriptor yX11_stands.desc).map (fun d => d.parameters.length) = some 0 := by decide +kernel
theorem dX11_deed_0 : decode cX11_deed 0 = .ok (.aload_n 0, 1) := by decide +kernel
theorem dX11_deed_1 : decode cX11_deed 1 = .ok (.iconst 0, 1) := by decide +kernel
theorem dX11_deed_2 : decode cX11_deed 2 = .ok (.putfield 120, 3) := by decide +kernel
theorem dX11_deed_5 : decode cX11_deed 5 = .ok (.aload_n 0, 1) := by decide +kernel
theorem dX11_deed_6 : decode cX11_deed 6 = .ok (.iload_n 1, 1) := by decide +kernel
theorem dX11_deed_7 : decode cX11_deed 7 = .ok (.iconst 0, 1) := by decide +kernel
theorem dX11_deed_8 : decode cX11_deed 8 = .ok (.aload_n 0, 1) := by decide +kernel
theorem dX11_deed_9 : decode cX11_deed 9 = .ok (.getfield 123, 3) := by decide +kernel
theorem dX11_deed_12 : decode cX11_deed 12 = .ok (.invokestatic 154, 3) := by decide +kernel
theorem dX11_deed_15 : decode cX11_deed 15 = .ok (.ifCond .ne 7, 3) := by decide +kernel
theorem dX11_deed_18 : decode cX11_deed 18 = .ok (.iconst 1, 1) := by decide +kernel
theorem dX11_deed_19 : decode cX11_deed 19 = .ok (.goto 4, 3) := by decide +kernel
theorem dX11_deed_22 : decode cX11_deed 22 = .ok (.iconst 0, 1) := by decide +kernel
theorem dX11_deed_23 : decode cX11_deed 23 = .ok (.iconst 1, 1) := by decide +kernel
theorem dX11_deed_24 : decode cX11_deed 24 = .ok (.iconst 2, 1) := by decide +kernel
theorem dX11_deed_25 : decode cX11_deed 25 = .ok (.invokevirtual 215, 3) := by decide +kernel
theorem dX11_deed_28 : decode cX11_deed 28 = .ok (.ifCond .eq 5, 3) := by decide +kernel
theorem dX11_deed_31 : decode cX11_deed 31 = .ok (.iconst 0, 1) := by decide +kernel
theorem dX11_deed_32 : decode cX11_deed 32 = .ok (.ireturn, 1) := by decide +kernel
theorem dX11_deed_33 : decode cX11_deed 33 = .ok (.aload_n 0, 1) := by decide +kernel
theorem dX11_deed_34 : decode cX11_deed 34 = .ok (.iconst 0, 1) := by decide +kernel
theorem dX11_deed_35 : decode cX11_deed 35 = .ok (.putfield 123, 3) := by decide +kernel
theorem dX11_deed_38 : decode cX11_deed 38 = .ok (.aload_n 0, 1) := by decide +kernel
theorem dX11_deed_39 : decode cX11_deed 39 = .ok (.iload_n 1, 1) := by decide +kernel
theorem dX11_deed_40 : decode cX11_deed 40 = .ok (.putfield 126, 3) := by decide +kernel
theorem dX11_deed_43 : decode cX11_deed 43 = .ok (.aload_n 0, 1) := by decide +kernel
theorem dX11_deed_44 : decode cX11_deed 44 = .ok (.iconst 0, 1) := by decide +kernel
theorem dX11_deed_45 : decode cX11_deed 45 = .ok (.putfield 129, 3) := by decide +kernel
theorem dX11_deed_48 : decode cX11_deed 48 = .ok (.aload_n 0, 1) := by decide +kernel
theorem dX11_deed_49 : decode cX11_deed 49 = .ok (.iconst 0, 1) := by decide +kernel
theorem dX11_deed_50 : decode cX11_deed 50 = .ok (.putfield 136, 3) := by decide +kernel
theorem dX11_deed_53 : decode cX11_deed 53 = .ok (.aload_n 0, 1) := by decide +kernel
theorem dX11_deed_54 : decode cX11_deed 54 = .ok (.iconst (-1), 1) := by decide +kernel
theorem dX11_deed_55 : decode cX11_deed 55 = .ok (.putfield 139, 3) := by decide +kernel
theorem dX11_deed_58 : decode cX11_deed 58 = .ok (.aload_n 0, 1) := by decide +kernel
theorem dX11_deed_59 : decode cX11_deed 59 = .ok (.iconst 0, 1) := by decide +kernel
theorem dX11_deed_60 : decode cX11_deed 60 = .ok (.putfield 185, 3) := by decide +kernel
theorem dX11_deed_63 : decode cX11_deed 63 = .ok (.iconst 0, 1) := by decide +kernel
theorem dX11_deed_64 : decode cX11_deed 64 = .ok (.istore_n 2, 1) := by decide +kernel
theorem dX11_deed_65 : decode cX11_deed 65 = .ok (.iload_n 2, 1) := by decide +kernel
theorem dX11_deed_66 : decode cX11_deed 66 = .ok (.bipush 7, 2) := by decide +kernel
theorem dX11_deed_68 : decode cX11_deed 68 = .ok (.if_icmp .ge 16, 3) := by decide +kernel
theorem dX11_deed_71 : decode cX11_deed 71 = .ok (.aload_n 0, 1) := by decide +kernel
theorem dX11_deed_72 : decode cX11_deed 72 = .ok (.getfield 20, 3) := by decide +kernel
theorem dX11_deed_75 : decode cX11_deed 75 = .ok (.iload_n 2, 1) := by decide +kernel
theorem dX11_deed_76 : decode cX11_deed 76 = .ok (.iconst 0, 1) := by decide +kernel
theorem dX11_deed_77 : decode cX11_deed 77 = .ok (.iastore, 1) := by decide +kernel
theorem dX11_deed_78 : decode cX11_deed 78 = .ok (.iinc 2 1, 3) := by decide +kernel
theorem dX11_deed_81 : decode cX11_deed 81 = .ok (.goto (-16), 3) := by decide +kernel
theorem dX11_deed_84 : decode cX11_deed 84 = .ok (.aload_n 0, 1) := by decide +kernel
theorem dX11_deed_85 : decode cX11_deed 85 = .ok (.invokevirtual 142, 3) := by decide +kernel
theorem dX11_deed_88 : decode cX11_deed 88 = .ok (.aload_n 0, 1) := by decide +kernel
theorem dX11_deed_89 : decode cX11_deed 89 = .ok (.getfield 136, 3) := by decide +kernel
theorem dX11_deed_92 : decode cX11_deed 92 = .ok (.ifCond .ne 25, 3) := by decide +kernel
theorem dX11_deed_95 : decode cX11_deed 95 = .ok (.aload_n 0, 1) := by decide +kernel
theorem dX11_deed_96 : decode cX11_deed 96 = .ok (.getfield 129, 3) := by decide +kernel
theorem dX11_deed_99 : decode cX11_deed 99 = .ok (.aload_n 0, 1) := by decide +kernel
theorem dX11_deed_100 : decode cX11_deed 100 = .ok (.getfield 126, 3) := by decide +kernel
theorem dX11_deed_103 : decode cX11_deed 103 = .ok (.if_icmp .ge 14, 3) := by decide +kernel
theorem dX11_deed_106 : decode cX11_deed 106 = .ok (.aload_n 0, 1) := by decide +kernel
theorem dX11_deed_107 : decode cX11_deed 107 = .ok (.invokevirtual 219, 3) := by decide +kernel
theorem dX11_deed_110 : decode cX11_deed 110 = .ok (.aload_n 0, 1) := by decide +kernel
theorem dX11_deed_111 : decode cX11_deed 111 = .ok (.invokevirtual 142, 3) := by decide +kernel
theorem dX11_deed_114 : decode cX11_deed 114 = .ok (.goto (-26), 3) := by decide +kernel
theorem dX11_deed_117 : decode cX11_deed 117 = .ok (.aload_n 0, 1) := by decide +kernel
theorem dX11_deed_118 : decode cX11_deed 118 = .ok (.getfield 20, 3) := by decide +kernel
theorem dX11_deed_121 : decode cX11_deed 121 = .ok (.bipush 6, 2) := by decide +kernel
theorem dX11_deed_123 : decode cX11_deed 123 = .ok (.iconst 1, 1) := by decide +kernel
theorem dX11_deed_124 : decode cX11_deed 124 = .ok (.iastore, 1) := by decide +kernel
theorem dX11_deed_125 : decode cX11_deed 125 = .ok (.iconst 0, 1) := by decide +kernel
theorem dX11_deed_126 : decode cX11_deed 126 = .ok (.istore_n 2, 1) := by decide +kernel
theorem dX11_deed_127 : decode cX11_deed 127 = .ok (.iload_n 2, 1) := by decide +kernel
theorem dX11_deed_128 : decode cX11_deed 128 = .ok (.aload_n 0, 1) := by decide +kernel
theorem dX11_deed_129 : decode cX11_deed 129 = .ok (.getfield 20, 3) := by decide +kernel
theorem dX11_deed_132 : decode cX11_deed 132 = .ok (.iconst 3, 1) := by decide +kernel
theorem dX11_deed_133 : decode cX11_deed 133 = .ok (.iaload, 1) := by decide +kernel
theorem dX11_deed_134 : decode cX11_deed 134 = .ok (.if_icmp .ge 62, 3) := by decide +kernel
theorem dX11_deed_137 : decode cX11_deed 137 = .ok (.aload_n 0, 1) := by decide +kernel
theorem dX11_deed_138 : decode cX11_deed 138 = .ok (.getfield 136, 3) := by decide +kernel
theorem dX11_deed_141 : decode cX11_deed 141 = .ok (.ifCond .ne 55, 3) := by decide +kernel
theorem dX11_deed_144 : decode cX11_deed 144 = .ok (.aload_n 0, 1) := by decide +kernel
theorem dX11_deed_145 : decode cX11_deed 145 = .ok (.getfield 20, 3) := by decide +kernel
theorem dX11_deed_148 : decode cX11_deed 148 = .ok (.bipush 6, 2) := by decide +kernel
theorem dX11_deed_150 : decode cX11_deed 150 = .ok (.aload_n 0, 1) := by decide +kernel
theorem dX11_deed_151 : decode cX11_deed 151 = .ok (.getfield 20, 3) := by decide +kernel
theorem dX11_deed_154 : decode cX11_deed 154 = .ok (.bipush 6, 2) := by decide +kernel
theorem dX11_deed_156 : decode cX11_deed 156 = .ok (.iaload, 1) := by decide +kernel
theorem dX11_deed_157 : decode cX11_deed 157 = .ok (.sipush 20000, 3) := by decide +kernel
theorem dX11_deed_160 : decode cX11_deed 160 = .ok (.if_icmp .le 13, 3) := by decide +kernel
theorem dX11_deed_163 : decode cX11_deed 163 = .ok (.aload_n 0, 1) := by decide +kernel
theorem dX11_deed_164 : decode cX11_deed 164 = .ok (.getfield 20, 3) := by decide +kernel
theorem dX11_deed_167 : decode cX11_deed 167 = .ok (.bipush 6, 2) := by decide +kernel
theorem dX11_deed_169 : decode cX11_deed 169 = .ok (.iaload, 1) := by decide +kernel
theorem dX11_deed_170 : decode cX11_deed 170 = .ok (.goto 19, 3) := by decide +kernel
theorem dX11_deed_173 : decode cX11_deed 173 = .ok (.aload_n 0, 1) := by decide +kernel
theorem dX11_deed_174 : decode cX11_deed 174 = .ok (.getfield 20, 3) := by decide +kernel
theorem dX11_deed_177 : decode cX11_deed 177 = .ok (.bipush 6, 2) := by decide +kernel
theorem dX11_deed_179 : decode cX11_deed 179 = .ok (.iaload, 1) := by decide +kernel
theorem dX11_deed_180 : decode cX11_deed 180 = .ok (.aload_n 0, 1) := by decide +kernel
theorem dX11_deed_181 : decode cX11_deed 181 = .ok (.getfield 62, 3) := by decide +kernel
theorem dX11_deed_184 : decode cX11_deed 184 = .ok (.iload_n 2, 1) := by decide +kernel
theorem dX11_deed_185 : decode cX11_deed 185 = .ok (.aaload, 1) := by decide +kernel
theorem dX11_deed_186 : decode cX11_deed 186 = .ok (.iconst 2, 1) := by decide +kernel
theorem dX11_deed_187 : decode cX11_deed 187 = .ok (.iaload, 1) := by decide +kernel
theorem dX11_deed_188 : decode cX11_deed 188 = .ok (.imul, 1) := by decide +kernel
theorem dX11_deed_189 : decode cX11_deed 189 = .ok (.iastore, 1) := by decide +kernel
theorem dX11_deed_190 : decode cX11_deed 190 = .ok (.iinc 2 1, 3) := by decide +kernel
theorem dX11_deed_193 : decode cX11_deed 193 = .ok (.goto (-66), 3) := by decide +kernel
theorem dX11_deed_196 : decode cX11_deed 196 = .ok (.aload_n 0, 1) := by decide +kernel
theorem dX11_deed_197 : decode cX11_deed 197 = .ok (.getfield 20, 3) := by decide +kernel
theorem dX11_deed_200 : decode cX11_deed 200 = .ok (.bipush 6, 2) := by decide +kernel
theorem dX11_deed_202 : decode cX11_deed 202 = .ok (.iaload, 1) := by decide +kernel
theorem dX11_deed_203 : decode cX11_deed 203 = .ok (.sipush 20000, 3) := by decide +kernel
theorem dX11_deed_206 : decode cX11_deed 206 = .ok (.if_icmp .le 12, 3) := by decide +kernel
theorem dX11_deed_209 : decode cX11_deed 209 = .ok (.aload_n 0, 1) := by decide +kernel
theorem dX11_deed_210 : decode cX11_deed 210 = .ok (.iconst 4, 1) := by decide +kernel
theorem dX11_deed_211 : decode cX11_deed 211 = .ok (.aload_n 0, 1) := by decide +kernel
theorem dX11_deed_212 : decode cX11_deed 212 = .ok (.getfield 126, 3) := by decide +kernel
theorem dX11_deed_215 : decode cX11_deed 215 = .ok (.invokevirtual 149, 3) := by decide +kernel
theorem dX11_deed_218 : decode cX11_deed 218 = .ok (.aload_n 0, 1) := by decide +kernel
theorem dX11_deed_219 : decode cX11_deed 219 = .ok (.aload_n 0, 1) := by decide +kernel
theorem dX11_deed_220 : decode cX11_deed 220 = .ok (.getfield 139, 3) := by decide +kernel
theorem dX11_deed_223 : decode cX11_deed 223 = .ok (.putfield 9, 3) := by decide +kernel
theorem dX11_deed_226 : decode cX11_deed 226 = .ok (.aload_n 0, 1) := by decide +kernel
theorem dX11_deed_227 : decode cX11_deed 227 = .ok (.getfield 136, 3) := by decide +kernel
theorem dX11_deed_230 : decode cX11_deed 230 = .ok (.ifCond .eq 11, 3) := by decide +kernel
theorem dX11_deed_233 : decode cX11_deed 233 = .ok (.aload_n 0, 1) := by decide +kernel
theorem dX11_deed_234 : decode cX11_deed 234 = .ok (.getfield 136, 3) := by decide +kernel
theorem dX11_deed_237 : decode cX11_deed 237 = .ok (.bipush 10, 2) := by decide +kernel
theorem dX11_deed_239 : decode cX11_deed 239 = .ok (.isub, 1) := by decide +kernel
theorem dX11_deed_240 : decode cX11_deed 240 = .ok (.ireturn, 1) := by decide +kernel
theorem dX11_deed_241 : decode cX11_deed 241 = .ok (.aload_n 0, 1) := by decide +kernel
theorem dX11_deed_242 : decode cX11_deed 242 = .ok (.invokevirtual 222, 3) := by decide +kernel
theorem dX11_deed_245 : decode cX11_deed 245 = .ok (.aload_n 0, 1) := by decide +kernel
theorem dX11_deed_246 : decode cX11_deed 246 = .ok (.getfield 23, 3) := by decide +kernel
theorem dX11_deed_249 : decode cX11_deed 249 = .ok (.iconst 3, 1) := by decide +kernel
theorem dX11_deed_250 : decode cX11_deed 250 = .ok (.iaload, 1) := by decide +kernel
theorem dX11_deed_251 : decode cX11_deed 251 = .ok (.ireturn, 1) := by decide +kernel
abbrev mX11_deed : MD := (cX11_deed, "BlottedDeedModel", 3, 10, 232, (some .int), "deed", [])
def bX11_deed_0 (g : GE) (J : Nat → KT) : KT := i_aload 0 (i_push (.int 0) (i_putf 10 0 .int (i_aload 0 (i_iload 1 (i_push (.int 0) (i_aload 0 (i_getf 10 1 (i_cs fX11_in g 3 (i_ifne (i_push (.int 0) (i_jmp [true, true, false] (J 1))) (i_push (.int 1) (i_jmp [true, true, false] (J 1))))))))))))
def bX11_deed_1 (g : GE) (J : Nat → KT) : KT := i_push (.int 1) (i_push (.int 2) (i_cv fX11_bad g 3 10 (i_ifeq (i_aload 0 (i_push (.int 0) (i_putf 10 1 .int (i_aload 0 (i_iload 1 (i_putf 10 2 .int (i_aload 0 (i_push (.int 0) (i_putf 10 4 .int (i_aload 0 (i_push (.int 0) (i_putf 10 5 .int (i_aload 0 (i_push (.int (-1)) (i_putf 10 6 .int (i_aload 0 (i_push (.int 0) (i_putf 10 7 .int (i_push (.int 0) (i_istore 2 (i_jmp [true, false, true] (J 2)))))))))))))))))))))) (i_push (.int 0) (i_ireturn)))))
def bX11_deed_2 (g : GE) (J : Nat → KT) : KT := i_iload 2 (i_push (.int 7) (i_icge (i_aload 0 (i_cv fX11_blanks g 0 10 (i_jmp [true, false, false] (J 3)))) (i_aload 0 (i_getf 10 10 (i_iload 2 (i_push (.int 0) (i_iastore (i_iinc 2 1 (i_jmp [true, false, true] (J 2))))))))))
def bX11_deed_3 (g : GE) (J : Nat → KT) : KT := i_aload 0 (i_getf 10 5 (i_ifne (i_jmp [true, false, false] (J 4)) (i_aload 0 (i_getf 10 4 (i_aload 0 (i_getf 10 2 (i_icge (i_jmp [true, false, false] (J 4)) (i_aload 0 (i_cv fX11_clause g 0 10 (i_aload 0 (i_cv fX11_blanks g 0 10 (i_jmp [true, false, false] (J 3)))))))))))))
def bX11_deed_4 (g : GE) (J : Nat → KT) : KT := i_aload 0 (i_getf 10 10 (i_push (.int 6) (i_push (.int 1) (i_iastore (i_push (.int 0) (i_istore 2 (i_jmp [true, false, true] (J 5))))))))
def bX11_deed_5 (g : GE) (J : Nat → KT) : KT := i_iload 2 (i_aload 0 (i_getf 10 10 (i_push (.int 3) (i_iaload (i_icge (i_jmp [true, false, false] (J 7)) (i_aload 0 (i_getf 10 5 (i_ifne (i_jmp [true, false, false] (J 7)) (i_aload 0 (i_getf 10 10 (i_push (.int 6) (i_aload 0 (i_getf 10 10 (i_push (.int 6) (i_iaload (i_push (.int 20000) (i_icle (i_aload 0 (i_getf 10 10 (i_push (.int 6) (i_iaload (i_aload 0 (i_getf 10 23 (i_iload 2 (i_aaload 4 (i_push (.int 2) (i_iaload (i_imul (i_jmp [true, false, true] (J 6))))))))))))) (i_aload 0 (i_getf 10 10 (i_push (.int 6) (i_iaload (i_jmp [true, false, true] (J 6)))))))))))))))))))))))
def bX11_deed_6 (g : GE) (J : Nat → KT) : KT := i_iastore (i_iinc 2 1 (i_jmp [true, false, true] (J 5)))
def bX11_deed_7 (g : GE) (J : Nat → KT) : KT := i_aload 0 (i_getf 10 10 (i_push (.int 6) (i_iaload (i_push (.int 20000) (i_icle (i_jmp [true, false, false] (J 8)) (i_aload 0 (i_push (.int 4) (i_aload 0 (i_getf 10 2 (i_cv fX11_wrong g 2 10 (i_jmp [true, false, false] (J 8))))))))))))
def bX11_deed_8 (g : GE) (J : Nat → KT) : KT := i_aload 0 (i_aload 0 (i_getf 10 6 (i_putf 10 3 .int (i_aload 0 (i_getf 10 5 (i_ifeq (i_aload 0 (i_cv fX11_stands g 0 10 (i_aload 0 (i_getf 10 11 (i_push (.int 3) (i_iaload (i_ireturn))))))) (i_aload 0 (i_getf 10 5 (i_push (.int 10) (i_isub (i_ireturn)))))))))))
theorem sbX11_deed_0 (g : GE) (J : Nat → KT) (h1 : Snd mX11_deed g 23 (J 1)) (h2 : Snd mX11_deed g 65 (J 2)) (h3 : Snd mX11_deed g 88 (J 3)) (h4 : Snd mX11_deed g 117 (J 4)) (h5 : Snd mX11_deed g 127 (J 5)) (h6 : Snd mX11_deed g 189 (J 6)) (h7 : Snd mX11_deed g 196 (J 7)) (h8 : Snd mX11_deed g 218 (J 8)) : Snd mX11_deed g 0 (bX11_deed_0 g J) := by
  unfold bX11_deed_0
  refine s_aload_n (pc := 0) (i := 0) ?_ dX11_deed_0 rfl
  refine s_iconst (pc := 1) (v := 0) ?_ dX11_deed_1 (by decide)
  refine s_putf (pc := 2) (ci := 10) (f := 0) (T := TX11) (ty0 := tyX11) ?_ ginX11 tyX11_ok nmX11 rfl (by decide) rfl rfl wt_1393 dX11_deed_2
  refine s_aload_n (pc := 5) (i := 0) ?_ dX11_deed_5 rfl
  refine s_iload_n (pc := 6) (i := 1) ?_ dX11_deed_6 rfl
  refine s_iconst (pc := 7) (v := 0) ?_ dX11_deed_7 (by decide)
  refine s_aload_n (pc := 8) (i := 0) ?_ dX11_deed_8 rfl
  refine s_getf (pc := 9) (ci := 10) (f := 1) (T := TX11) ?_ ginX11 rfl (by decide) wt_1394 dX11_deed_9
  refine s_cs (pc := 12) (n := 3) ?_ tX11_in wt_1557 wt_1558 wt_17 wt_1559 ⟨crX11_in, by decide, by decide⟩ dX11_deed_12
  refine s_ifne (pc := 15) (tgt := 22) ?_ ?_ dX11_deed_15 (by decide)
  · skip
    refine s_iconst (pc := 22) (v := 0) ?_ dX11_deed_22 (by decide)
    exact s_fall (pc := 23) h1
  · skip
    refine s_iconst (pc := 18) (v := 1) ?_ dX11_deed_18 (by decide)
    exact s_goto (pc := 19) (tgt := 23) h1 dX11_deed_19 (by decide)
theorem sbX11_deed_1 (g : GE) (J : Nat → KT) (h1 : Snd mX11_deed g 23 (J 1)) (h2 : Snd mX11_deed g 65 (J 2)) (h3 : Snd mX11_deed g 88 (J 3)) (h4 : Snd mX11_deed g 117 (J 4)) (h5 : Snd mX11_deed g 127 (J 5)) (h6 : Snd mX11_deed g 189 (J 6)) (h7 : Snd mX11_deed g 196 (J 7)) (h8 : Snd mX11_deed g 218 (J 8)) : Snd mX11_deed g 23 (bX11_deed_1 g J) := by
  unfold bX11_deed_1
  refine s_iconst (pc := 23) (v := 1) ?_ dX11_deed_23 (by decide)
  refine s_iconst (pc := 24) (v := 2) ?_ dX11_deed_24 (by decide)
  refine s_cv (pc := 25) (n := 3) (ci := 10) ?_ tX11_bad rfl rfl wt_1560 wt_1562 wp_49 wt_17 wt_1563 ⟨crX11_bad, by decide, by decide⟩ dX11_deed_25
  refine s_ifeq (pc := 28) (tgt := 33) ?_ ?_ dX11_deed_28 (by decide)
  · skip
    refine s_aload_n (pc := 33) (i := 0) ?_ dX11_deed_33 rfl
    refine s_iconst (pc := 34) (v := 0) ?_ dX11_deed_34 (by decide)
    refine s_putf (pc := 35) (ci := 10) (f := 1) (T := TX11) (ty0 := tyX11) ?_ ginX11 tyX11_ok nmX11 rfl (by decide) rfl rfl wt_1394 dX11_deed_35
    refine s_aload_n (pc := 38) (i := 0) ?_ dX11_deed_38 rfl
    refine s_iload_n (pc := 39) (i := 1) ?_ dX11_deed_39 rfl
    refine s_putf (pc := 40) (ci := 10) (f := 2) (T := TX11) (ty0 := tyX11) ?_ ginX11 tyX11_ok nmX11 rfl (by decide) rfl rfl wt_1395 dX11_deed_40
    refine s_aload_n (pc := 43) (i := 0) ?_ dX11_deed_43 rfl
    refine s_iconst (pc := 44) (v := 0) ?_ dX11_deed_44 (by decide)
    refine s_putf (pc := 45) (ci := 10) (f := 4) (T := TX11) (ty0 := tyX11) ?_ ginX11 tyX11_ok nmX11 rfl (by decide) rfl rfl wt_1397 dX11_deed_45
    refine s_aload_n (pc := 48) (i := 0) ?_ dX11_deed_48 rfl
    refine s_iconst (pc := 49) (v := 0) ?_ dX11_deed_49 (by decide)
    refine s_putf (pc := 50) (ci := 10) (f := 5) (T := TX11) (ty0 := tyX11) ?_ ginX11 tyX11_ok nmX11 rfl (by decide) rfl rfl wt_1398 dX11_deed_50
    refine s_aload_n (pc := 53) (i := 0) ?_ dX11_deed_53 rfl
    refine s_iconst (pc := 54) (v := (-1)) ?_ dX11_deed_54 (by decide)
    refine s_putf (pc := 55) (ci := 10) (f := 6) (T := TX11) (ty0 := tyX11) ?_ ginX11 tyX11_ok nmX11 rfl (by decide) rfl rfl wt_1399 dX11_deed_55
    refine s_aload_n (pc := 58) (i := 0) ?_ dX11_deed_58 rfl
    refine s_iconst (pc := 59) (v := 0) ?_ dX11_deed_59 (by decide)
    refine s_putf (pc := 60) (ci := 10) (f := 7) (T := TX11) (ty0 := tyX11) ?_ ginX11 tyX11_ok nmX11 rfl (by decide) rfl rfl wt_1400 dX11_deed_60
    refine s_iconst (pc := 63) (v := 0) ?_ dX11_deed_63 (by decide)
    refine s_istore_n (pc := 64) (i := 2) ?_ dX11_deed_64 rfl (by decide)
    exact s_fall (pc := 65) h2
  · skip
    refine s_iconst (pc := 31) (v := 0) ?_ dX11_deed_31 (by decide)
    exact s_ireturn (pc := 32) rfl dX11_deed_32
theorem sbX11_deed_2 (g : GE) (J : Nat → KT) (h1 : Snd mX11_deed g 23 (J 1)) (h2 : Snd mX11_deed g 65 (J 2)) (h3 : Snd mX11_deed g 88 (J 3)) (h4 : Snd mX11_deed g 117 (J 4)) (h5 : Snd mX11_deed g 127 (J 5)) (h6 : Snd mX11_deed g 189 (J 6)) (h7 : Snd mX11_deed g 196 (J 7)) (h8 : Snd mX11_deed g 218 (J 8)) : Snd mX11_deed g 65 (bX11_deed_2 g J) := by
  unfold bX11_deed_2
  refine s_iload_n (pc := 65) (i := 2) ?_ dX11_deed_65 rfl
  refine s_bipush (pc := 66) (v := 7) ?_ dX11_deed_66 (by decide)
  refine s_icge (pc := 68) (tgt := 84) ?_ ?_ dX11_deed_68 (by decide)
  · skip
    refine s_aload_n (pc := 84) (i := 0) ?_ dX11_deed_84 rfl
    refine s_cv (pc := 85) (n := 0) (ci := 10) ?_ tX11_blanks rfl rfl wt_1564 wt_1566 wp_50 wt_17 wt_1567 ⟨crX11_blanks, by decide, by decide⟩ dX11_deed_85
    exact s_fall (pc := 88) h3
  · skip
    refine s_aload_n (pc := 71) (i := 0) ?_ dX11_deed_71 rfl
    refine s_getf (pc := 72) (ci := 10) (f := 10) (T := TX11) ?_ ginX11 rfl (by decide) wt_1403 dX11_deed_72
    refine s_iload_n (pc := 75) (i := 2) ?_ dX11_deed_75 rfl
    refine s_iconst (pc := 76) (v := 0) ?_ dX11_deed_76 (by decide)
    refine s_iastore (pc := 77) ?_ dX11_deed_77
    refine s_iinc (pc := 78) (i := 2) (v := 1) ?_ dX11_deed_78 (by decide) (by decide)
    exact s_goto (pc := 81) (tgt := 65) h2 dX11_deed_81 (by decide)
theorem sbX11_deed_3 (g : GE) (J : Nat → KT) (h1 : Snd mX11_deed g 23 (J 1)) (h2 : Snd mX11_deed g 65 (J 2)) (h3 : Snd mX11_deed g 88 (J 3)) (h4 : Snd mX11_deed g 117 (J 4)) (h5 : Snd mX11_deed g 127 (J 5)) (h6 : Snd mX11_deed g 189 (J 6)) (h7 : Snd mX11_deed g 196 (J 7)) (h8 : Snd mX11_deed g 218 (J 8)) : Snd mX11_deed g 88 (bX11_deed_3 g J) := by
  unfold bX11_deed_3
  refine s_aload_n (pc := 88) (i := 0) ?_ dX11_deed_88 rfl
  refine s_getf (pc := 89) (ci := 10) (f := 5) (T := TX11) ?_ ginX11 rfl (by decide) wt_1398 dX11_deed_89
  refine s_ifne (pc := 92) (tgt := 117) ?_ ?_ dX11_deed_92 (by decide)
  · skip
    exact s_fall (pc := 117) h4
  · skip
    refine s_aload_n (pc := 95) (i := 0) ?_ dX11_deed_95 rfl
    refine s_getf (pc := 96) (ci := 10) (f := 4) (T := TX11) ?_ ginX11 rfl (by decide) wt_1397 dX11_deed_96
    refine s_aload_n (pc := 99) (i := 0) ?_ dX11_deed_99 rfl
    refine s_getf (pc := 100) (ci := 10) (f := 2) (T := TX11) ?_ ginX11 rfl (by decide) wt_1395 dX11_deed_100
    refine s_icge (pc := 103) (tgt := 117) ?_ ?_ dX11_deed_103 (by decide)
    · skip
      exact s_fall (pc := 117) h4
    · skip
      refine s_aload_n (pc := 106) (i := 0) ?_ dX11_deed_106 rfl
      refine s_cv (pc := 107) (n := 0) (ci := 10) ?_ tX11_clause rfl rfl wt_1572 wt_1574 wp_52 wt_17 wt_1575 ⟨crX11_clause, by decide, by decide⟩ dX11_deed_107
      refine s_aload_n (pc := 110) (i := 0) ?_ dX11_deed_110 rfl
      refine s_cv (pc := 111) (n := 0) (ci := 10) ?_ tX11_blanks rfl rfl wt_1564 wt_1566 wp_50 wt_17 wt_1567 ⟨crX11_blanks, by decide, by decide⟩ dX11_deed_111
      exact s_goto (pc := 114) (tgt := 88) h3 dX11_deed_114 (by decide)
theorem sbX11_deed_4 (g : GE) (J : Nat → KT) (h1 : Snd mX11_deed g 23 (J 1)) (h2 : Snd mX11_deed g 65 (J 2)) (h3 : Snd mX11_deed g 88 (J 3)) (h4 : Snd mX11_deed g 117 (J 4)) (h5 : Snd mX11_deed g 127 (J 5)) (h6 : Snd mX11_deed g 189 (J 6)) (h7 : Snd mX11_deed g 196 (J 7)) (h8 : Snd mX11_deed g 218 (J 8)) : Snd mX11_deed g 117 (bX11_deed_4 g J) := by
  unfold bX11_deed_4
  refine s_aload_n (pc := 117) (i := 0) ?_ dX11_deed_117 rfl
  refine s_getf (pc := 118) (ci := 10) (f := 10) (T := TX11) ?_ ginX11 rfl (by decide) wt_1403 dX11_deed_118
  refine s_bipush (pc := 121) (v := 6) ?_ dX11_deed_121 (by decide)
  refine s_iconst (pc := 123) (v := 1) ?_ dX11_deed_123 (by decide)
  refine s_iastore (pc := 124) ?_ dX11_deed_124
  refine s_iconst (pc := 125) (v := 0) ?_ dX11_deed_125 (by decide)
  refine s_istore_n (pc := 126) (i := 2) ?_ dX11_deed_126 rfl (by decide)
  exact s_fall (pc := 127) h5
theorem sbX11_deed_5 (g : GE) (J : Nat → KT) (h1 : Snd mX11_deed g 23 (J 1)) (h2 : Snd mX11_deed g 65 (J 2)) (h3 : Snd mX11_deed g 88 (J 3)) (h4 : Snd mX11_deed g 117 (J 4)) (h5 : Snd mX11_deed g 127 (J 5)) (h6 : Snd mX11_deed g 189 (J 6)) (h7 : Snd mX11_deed g 196 (J 7)) (h8 : Snd mX11_deed g 218 (J 8)) : Snd mX11_deed g 127 (bX11_deed_5 g J) := by
  unfold bX11_deed_5
  refine s_iload_n (pc := 127) (i := 2) ?_ dX11_deed_127 rfl
  refine s_aload_n (pc := 128) (i := 0) ?_ dX11_deed_128 rfl
  refine s_getf (pc := 129) (ci := 10) (f := 10) (T := TX11) ?_ ginX11 rfl (by decide) wt_1403 dX11_deed_129
  refine s_iconst (pc := 132) (v := 3) ?_ dX11_deed_132 (by decide)
  refine s_iaload (pc := 133) ?_ dX11_deed_133
  refine s_icge (pc := 134) (tgt := 196) ?_ ?_ dX11_deed_134 (by decide)
  · skip
    exact s_fall (pc := 196) h7
  · skip
    refine s_aload_n (pc := 137) (i := 0) ?_ dX11_deed_137 rfl
    refine s_getf (pc := 138) (ci := 10) (f := 5) (T := TX11) ?_ ginX11 rfl (by decide) wt_1398 dX11_deed_138
    refine s_ifne (pc := 141) (tgt := 196) ?_ ?_ dX11_deed_141 (by decide)
    · skip
      exact s_fall (pc := 196) h7
    · skip
      refine s_aload_n (pc := 144) (i := 0) ?_ dX11_deed_144 rfl
      refine s_getf (pc := 145) (ci := 10) (f := 10) (T := TX11) ?_ ginX11 rfl (by decide) wt_1403 dX11_deed_145
      refine s_bipush (pc := 148) (v := 6) ?_ dX11_deed_148 (by decide)
      refine s_aload_n (pc := 150) (i := 0) ?_ dX11_deed_150 rfl
      refine s_getf (pc := 151) (ci := 10) (f := 10) (T := TX11) ?_ ginX11 rfl (by decide) wt_1403 dX11_deed_151
      refine s_bipush (pc := 154) (v := 6) ?_ dX11_deed_154 (by decide)
      refine s_iaload (pc := 156) ?_ dX11_deed_156
      refine s_sipush (pc := 157) (v := 20000) ?_ dX11_deed_157 (by decide)
      refine s_icle (pc := 160) (tgt := 173) ?_ ?_ dX11_deed_160 (by decide)
      · skip
        refine s_aload_n (pc := 173) (i := 0) ?_ dX11_deed_173 rfl
        refine s_getf (pc := 174) (ci := 10) (f := 10) (T := TX11) ?_ ginX11 rfl (by decide) wt_1403 dX11_deed_174
        refine s_bipush (pc := 177) (v := 6) ?_ dX11_deed_177 (by decide)
        refine s_iaload (pc := 179) ?_ dX11_deed_179
        refine s_aload_n (pc := 180) (i := 0) ?_ dX11_deed_180 rfl
        refine s_getf (pc := 181) (ci := 10) (f := 23) (T := TX11) ?_ ginX11 rfl (by decide) wt_1416 dX11_deed_181
        refine s_iload_n (pc := 184) (i := 2) ?_ dX11_deed_184 rfl
        refine s_aaload (pc := 185) (t := 4) ?_ (by decide) rfl dX11_deed_185
        refine s_iconst (pc := 186) (v := 2) ?_ dX11_deed_186 (by decide)
        refine s_iaload (pc := 187) ?_ dX11_deed_187
        refine s_imul (pc := 188) ?_ dX11_deed_188
        exact s_fall (pc := 189) h6
      · skip
        refine s_aload_n (pc := 163) (i := 0) ?_ dX11_deed_163 rfl
        refine s_getf (pc := 164) (ci := 10) (f := 10) (T := TX11) ?_ ginX11 rfl (by decide) wt_1403 dX11_deed_164
        refine s_bipush (pc := 167) (v := 6) ?_ dX11_deed_167 (by decide)
        refine s_iaload (pc := 169) ?_ dX11_deed_169
        exact s_goto (pc := 170) (tgt := 189) h6 dX11_deed_170 (by decide)
theorem sbX11_deed_6 (g : GE) (J : Nat → KT) (h1 : Snd mX11_deed g 23 (J 1)) (h2 : Snd mX11_deed g 65 (J 2)) (h3 : Snd mX11_deed g 88 (J 3)) (h4 : Snd mX11_deed g 117 (J 4)) (h5 : Snd mX11_deed g 127 (J 5)) (h6 : Snd mX11_deed g 189 (J 6)) (h7 : Snd mX11_deed g 196 (J 7)) (h8 : Snd mX11_deed g 218 (J 8)) : Snd mX11_deed g 189 (bX11_deed_6 g J) := by
  unfold bX11_deed_6
  refine s_iastore (pc := 189) ?_ dX11_deed_189
  refine s_iinc (pc := 190) (i := 2) (v := 1) ?_ dX11_deed_190 (by decide) (by decide)
  exact s_goto (pc := 193) (tgt := 127) h5 dX11_deed_193 (by decide)
theorem sbX11_deed_7 (g : GE) (J : Nat → KT) (h1 : Snd mX11_deed g 23 (J 1)) (h2 : Snd mX11_deed g 65 (J 2)) (h3 : Snd mX11_deed g 88 (J 3)) (h4 : Snd mX11_deed g 117 (J 4)) (h5 : Snd mX11_deed g 127 (J 5)) (h6 : Snd mX11_deed g 189 (J 6)) (h7 : Snd mX11_deed g 196 (J 7)) (h8 : Snd mX11_deed g 218 (J 8)) : Snd mX11_deed g 196 (bX11_deed_7 g J) := by
  unfold bX11_deed_7
  refine s_aload_n (pc := 196) (i := 0) ?_ dX11_deed_196 rfl
  refine s_getf (pc := 197) (ci := 10) (f := 10) (T := TX11) ?_ ginX11 rfl (by decide) wt_1403 dX11_deed_197
  refine s_bipush (pc := 200) (v := 6) ?_ dX11_deed_200 (by decide)
  refine s_iaload (pc := 202) ?_ dX11_deed_202
  refine s_sipush (pc := 203) (v := 20000) ?_ dX11_deed_203 (by decide)
  refine s_icle (pc := 206) (tgt := 218) ?_ ?_ dX11_deed_206 (by decide)
  · skip
    exact s_fall (pc := 218) h8
  · skip
    refine s_aload_n (pc := 209) (i := 0) ?_ dX11_deed_209 rfl
    refine s_iconst (pc := 210) (v := 4) ?_ dX11_deed_210 (by decide)
    refine s_aload_n (pc := 211) (i := 0) ?_ dX11_deed_211 rfl
    refine s_getf (pc := 212) (ci := 10) (f := 2) (T := TX11) ?_ ginX11 rfl (by decide) wt_1395 dX11_deed_212
    refine s_cv (pc := 215) (n := 2) (ci := 10) ?_ tX11_wrong rfl rfl wt_1599 wt_1601 wp_57 wt_17 wt_1602 ⟨crX11_wrong, by decide, by decide⟩ dX11_deed_215
    exact s_fall (pc := 218) h8
theorem sbX11_deed_8 (g : GE) (J : Nat → KT) (h1 : Snd mX11_deed g 23 (J 1)) (h2 : Snd mX11_deed g 65 (J 2)) (h3 : Snd mX11_deed g 88 (J 3)) (h4 : Snd mX11_deed g 117 (J 4)) (h5 : Snd mX11_deed g 127 (J 5)) (h6 : Snd mX11_deed g 189 (J 6)) (h7 : Snd mX11_deed g 196 (J 7)) (h8 : Snd mX11_deed g 218 (J 8)) : Snd mX11_deed g 218 (bX11_deed_8 g J) := by
  unfold bX11_deed_8
  refine s_aload_n (pc := 218) (i := 0) ?_ dX11_deed_218 rfl
  refine s_aload_n (pc := 219) (i := 0) ?_ dX11_deed_219 rfl
  refine s_getf (pc := 220) (ci := 10) (f := 6) (T := TX11) ?_ ginX11 rfl (by decide) wt_1399 dX11_deed_220
  refine s_putf (pc := 223) (ci := 10) (f := 3) (T := TX11) (ty0 := tyX11) ?_ ginX11 tyX11_ok nmX11 rfl (by decide) rfl rfl wt_1396 dX11_deed_223
  refine s_aload_n (pc := 226) (i := 0) ?_ dX11_deed_226 rfl
  refine s_getf (pc := 227) (ci := 10) (f := 5) (T := TX11) ?_ ginX11 rfl (by decide) wt_1398 dX11_deed_227
  refine s_ifeq (pc := 230) (tgt := 241) ?_ ?_ dX11_deed_230 (by decide)
  · skip
    refine s_aload_n (pc := 241) (i := 0) ?_ dX11_deed_241 rfl
    refine s_cv (pc := 242) (n := 0) (ci := 10) ?_ tX11_stands rfl rfl wt_1639 wt_1641 wp_66 wt_17 wt_1642 ⟨crX11_stands, by decide, by decide⟩ dX11_deed_242
    refine s_aload_n (pc := 245) (i := 0) ?_ dX11_deed_245 rfl
    refine s_getf (pc := 246) (ci := 10) (f := 11) (T := TX11) ?_ ginX11 rfl (by decide) wt_1404 dX11_deed_246
    refine s_iconst (pc := 249) (v := 3) ?_ dX11_deed_249 (by decide)
    refine s_iaload (pc := 250) ?_ dX11_deed_250
    exact s_ireturn (pc := 251) rfl dX11_deed_251
  · skip
    refine s_aload_n (pc := 233) (i := 0) ?_ dX11_deed_233 rfl
    refine s_getf (pc := 234) (ci := 10) (f := 5) (T := TX11) ?_ ginX11 rfl (by decide) wt_1398 dX11_deed_234
    refine s_bipush (pc := 237) (v := 10) ?_ dX11_deed_237 (by decide)
    refine s_isub (pc := 239) ?_ dX11_deed_239
    exact s_ireturn (pc := 240) rfl dX11_deed_240
def jX11_deed (g : GE) : Nat → Nat → KT
  | 0, _ => fun _ _ _ => none
  | n + 1, 0 => bX11_deed_0 g (jX11_deed g n)
  | n + 1, 1 => bX11_deed_1 g (jX11_deed g n)
  | n + 1, 2 => bX11_deed_2 g (jX11_deed g n)
  | n + 1, 3 => bX11_deed_3 g (jX11_deed g n)
  | n + 1, 4 => bX11_deed_4 g (jX11_deed g n)
  | n + 1, 5 => bX11_deed_5 g (jX11_deed g n)
  | n + 1, 6 => bX11_deed_6 g (jX11_deed g n)
  | n + 1, 7 => bX11_deed_7 g (jX11_deed g n)
  | n + 1, 8 => bX11_deed_8 g (jX11_deed g n)
  | _ + 1, _ + 9 => fun _ _ _ => none
theorem sjX11_deed (g : GE) : ∀ n, Snd mX11_deed g 0 (jX11_deed g n 0) ∧ Snd mX11_deed g 23 (jX11_deed g n 1) ∧ Snd mX11_deed g 65 (jX11_deed g n 2) ∧ Snd mX11_deed g 88 (jX11_deed g n 3) ∧ Snd mX11_deed g 117 (jX11_deed g n 4) ∧ Snd mX11_deed g 127 (jX11_deed g n 5) ∧ Snd mX11_deed g 189 (jX11_deed g n 6) ∧ Snd mX11_deed g 196 (jX11_deed g n 7) ∧ Snd mX11_deed g 218 (jX11_deed g n 8)
  | 0 => ⟨s_none, s_none, s_none, s_none, s_none, s_none, s_none, s_none, s_none⟩
  | n + 1 => by
    obtain ⟨-, h1, h2, h3, h4, h5, h6, h7, h8⟩ := sjX11_deed g n
    exact ⟨sbX11_deed_0 g _ h1 h2 h3 h4 h5 h6 h7 h8, sbX11_deed_1 g _ h1 h2 h3 h4 h5 h6 h7 h8, sbX11_deed_2 g _ h1 h2 h3 h4 h5 h6 h7 h8, sbX11_deed_3 g _ h1 h2 h3 h4 h5 h6 h7 h8, sbX11_deed_4 g _ h1 h2 h3 h4 h5 h6 h7 h8, sbX11_deed_5 g _ h1 h2 h3 h4 h5 h6 h7 h8, sbX11_deed_6 g _ h1 h2 h3 h4 h5 h6 h7 h8, sbX11_deed_7 g _ h1 h2 h3 h4 h5 h6 h7 h8, sbX11_deed_8 g _ h1 h2 h3 h4 h5 h6 h7 h8⟩
def kX11_deed (g : GE) : KT := jX11_deed g g.1 0
theorem sX11_deed (g : GE) : Snd mX11_deed g 0 (kX11_deed g) := (sjX11_deed g g.1).1
def fX11_deed : FT := fun g av w => if (ent av).length ≤ 3 then kX11_deed g [] (entp 3 av) w else none
theorem tX11_deed : Mt yX11_deed cX11_deed 3 (some .int) 10 232 fX11_deed := Mt.of (K := kX11_deed) (by decide +kernel) (fun _ _ _ => rfl) sX11_deed
theorem crX11_deed : yX11_deed.cls ≠ "java/lang/invoke/MethodHandle" ∧ yX11_deed.cls ≠ "java/lang/invoke/VarHandle" ∧ (parseMethodDescriptor yX11_deed.desc).map (fun d => d.parameters.length) = some 1 := by decide +kernel
theorem dX11_fault_0 : decode cX11_fault 0 = .ok (.aload_n 0, 1) := by decide +kernel
theorem dX11_fault_1 : decode cX11_fault 1 = .ok (.iconst 0, 1) := by decide +kernel
theorem dX11_fault_2 : decode cX11_fault 2 = .ok (.putfield 120, 3) := by decide +kernel
theorem dX11_fault_5 : decode cX11_fault 5 = .ok (.aload_n 0, 1) := by decide +kernel
theorem dX11_fault_6 : decode cX11_fault 6 = .ok (.getfield 9, 3) := by decide +kernel
theorem dX11_fault_9 : decode cX11_fault 9 = .ok (.ireturn, 1) := by decide +kernel
abbrev mX11_fault : MD := (cX11_fault, "BlottedDeedModel", 1, 1, 30, (some .int), "fault", [])
def bX11_fault_0 (g : GE) (J : Nat → KT) : KT := i_aload 0 (i_push (.int 0) (i_putf 10 0 .int (i_aload 0 (i_getf 10 3 (i_ireturn)))))
theorem sbX11_fault_0 (g : GE) (J : Nat → KT)  : Snd mX11_fault g 0 (bX11_fault_0 g J) := by
  unfold bX11_fault_0
  refine s_aload_n (pc := 0) (i := 0) ?_ dX11_fault_0 rfl
  refine s_iconst (pc := 1) (v := 0) ?_ dX11_fault_1 (by decide)
  refine s_putf (pc := 2) (ci := 10) (f := 0) (T := TX11) (ty0 := tyX11) ?_ ginX11 tyX11_ok nmX11 rfl (by decide) rfl rfl wt_1393 dX11_fault_2
  refine s_aload_n (pc := 5) (i := 0) ?_ dX11_fault_5 rfl
  refine s_getf (pc := 6) (ci := 10) (f := 3) (T := TX11) ?_ ginX11 rfl (by decide) wt_1396 dX11_fault_6
  exact s_ireturn (pc := 9) rfl dX11_fault_9
def kX11_fault (g : GE) : KT := bX11_fault_0 g (fun _ _ _ _ => none)
theorem sX11_fault (g : GE) : Snd mX11_fault g 0 (kX11_fault g) := sbX11_fault_0 g _
def fX11_fault : FT := fun g av w => if (ent av).length ≤ 1 then kX11_fault g [] (entp 1 av) w else none
theorem tX11_fault : Mt yX11_fault cX11_fault 1 (some .int) 1 30 fX11_fault := Mt.of (K := kX11_fault) (by decide +kernel) (fun _ _ _ => rfl) sX11_fault
theorem crX11_fault : yX11_fault.cls ≠ "java/lang/invoke/MethodHandle" ∧ yX11_fault.cls ≠ "java/lang/invoke/VarHandle" ∧ (parseMethodDescriptor yX11_fault.desc).map (fun d => d.parameters.length) = some 0 := by decide +kernel
theorem dX11_feed_0 : decode cX11_feed 0 = .ok (.aload_n 0, 1) := by decide +kernel
theorem dX11_feed_1 : decode cX11_feed 1 = .ok (.iconst 0, 1) := by decide +kernel
theorem dX11_feed_2 : decode cX11_feed 2 = .ok (.putfield 120, 3) := by decide +kernel
theorem dX11_feed_5 : decode cX11_feed 5 = .ok (.aload_n 0, 1) := by decide +kernel
theorem dX11_feed_6 : decode cX11_feed 6 = .ok (.getfield 123, 3) := by decide +kernel
theorem dX11_feed_9 : decode cX11_feed 9 = .ok (.bipush 20, 2) := by decide +kernel
theorem dX11_feed_11 : decode cX11_feed 11 = .ok (.iadd, 1) := by decide +kernel
theorem dX11_feed_12 : decode cX11_feed 12 = .ok (.sipush 600, 3) := by decide +kernel
theorem dX11_feed_15 : decode cX11_feed 15 = .ok (.if_icmp .le 5, 3) := by decide +kernel
theorem dX11_feed_18 : decode cX11_feed 18 = .ok (.iconst (-1), 1) := by decide +kernel
theorem dX11_feed_19 : decode cX11_feed 19 = .ok (.ireturn, 1) := by decide +kernel
theorem dX11_feed_20 : decode cX11_feed 20 = .ok (.iconst 0, 1) := by decide +kernel
theorem dX11_feed_21 : decode cX11_feed 21 = .ok (.istore 6, 2) := by decide +kernel
theorem dX11_feed_23 : decode cX11_feed 23 = .ok (.iload 6, 2) := by decide +kernel
theorem dX11_feed_25 : decode cX11_feed 25 = .ok (.bipush 20, 2) := by decide +kernel
theorem dX11_feed_27 : decode cX11_feed 27 = .ok (.if_icmp .ge 93, 3) := by decide +kernel
theorem dX11_feed_30 : decode cX11_feed 30 = .ok (.iload 6, 2) := by decide +kernel
theorem dX11_feed_32 : decode cX11_feed 32 = .ok (.iconst 4, 1) := by decide +kernel
theorem dX11_feed_33 : decode cX11_feed 33 = .ok (.if_icmp .ge 7, 3) := by decide +kernel
theorem dX11_feed_36 : decode cX11_feed 36 = .ok (.iload_n 1, 1) := by decide +kernel
theorem dX11_feed_37 : decode cX11_feed 37 = .ok (.goto 39, 3) := by decide +kernel
theorem dX11_feed_40 : decode cX11_feed 40 = .ok (.iload 6, 2) := by decide +kernel
theorem dX11_feed_42 : decode cX11_feed 42 = .ok (.bipush 8, 2) := by decide +kernel
theorem dX11_feed_44 : decode cX11_feed 44 = .ok (.if_icmp .ge 7, 3) := by decide +kernel
theorem dX11_feed_47 : decode cX11_feed 47 = .ok (.iload_n 2, 1) := by decide +kernel
theorem dX11_feed_48 : decode cX11_feed 48 = .ok (.goto 28, 3) := by decide +kernel
theorem dX11_feed_51 : decode cX11_feed 51 = .ok (.iload 6, 2) := by decide +kernel
theorem dX11_feed_53 : decode cX11_feed 53 = .ok (.bipush 12, 2) := by decide +kernel
theorem dX11_feed_55 : decode cX11_feed 55 = .ok (.if_icmp .ge 7, 3) := by decide +kernel
theorem dX11_feed_58 : decode cX11_feed 58 = .ok (.iload_n 3, 1) := by decide +kernel
theorem dX11_feed_59 : decode cX11_feed 59 = .ok (.goto 17, 3) := by decide +kernel
theorem dX11_feed_62 : decode cX11_feed 62 = .ok (.iload 6, 2) := by decide +kernel
theorem dX11_feed_64 : decode cX11_feed 64 = .ok (.bipush 16, 2) := by decide +kernel
theorem dX11_feed_66 : decode cX11_feed 66 = .ok (.if_icmp .ge 8, 3) := by decide +kernel
theorem dX11_feed_69 : decode cX11_feed 69 = .ok (.iload 4, 2) := by decide +kernel
theorem dX11_feed_71 : decode cX11_feed 71 = .ok (.goto 5, 3) := by decide +kernel
theorem dX11_feed_74 : decode cX11_feed 74 = .ok (.iload 5, 2) := by decide +kernel
theorem dX11_feed_76 : decode cX11_feed 76 = .ok (.istore 7, 2) := by decide +kernel
theorem dX11_feed_78 : decode cX11_feed 78 = .ok (.aload_n 0, 1) := by decide +kernel
theorem dX11_feed_79 : decode cX11_feed 79 = .ok (.getfield 13, 3) := by decide +kernel
theorem dX11_feed_82 : decode cX11_feed 82 = .ok (.aload_n 0, 1) := by decide +kernel
theorem dX11_feed_83 : decode cX11_feed 83 = .ok (.getfield 123, 3) := by decide +kernel
theorem dX11_feed_86 : decode cX11_feed 86 = .ok (.iload 7, 2) := by decide +kernel
theorem dX11_feed_88 : decode cX11_feed 88 = .ok (.bipush 24, 2) := by decide +kernel
theorem dX11_feed_90 : decode cX11_feed 90 = .ok (.bipush 8, 2) := by decide +kernel
theorem dX11_feed_92 : decode cX11_feed 92 = .ok (.iload 6, 2) := by decide +kernel
theorem dX11_feed_94 : decode cX11_feed 94 = .ok (.iconst 4, 1) := by decide +kernel
theorem dX11_feed_95 : decode cX11_feed 95 = .ok (.irem, 1) := by decide +kernel
theorem dX11_feed_96 : decode cX11_feed 96 = .ok (.imul, 1) := by decide +kernel
theorem dX11_feed_97 : decode cX11_feed 97 = .ok (.isub, 1) := by decide +kernel
theorem dX11_feed_98 : decode cX11_feed 98 = .ok (.ishr, 1) := by decide +kernel
theorem dX11_feed_99 : decode cX11_feed 99 = .ok (.sipush 255, 3) := by decide +kernel
theorem dX11_feed_102 : decode cX11_feed 102 = .ok (.iand, 1) := by decide +kernel
theorem dX11_feed_103 : decode cX11_feed 103 = .ok (.iastore, 1) := by decide +kernel
theorem dX11_feed_104 : decode cX11_feed 104 = .ok (.aload_n 0, 1) := by decide +kernel
theorem dX11_feed_105 : decode cX11_feed 105 = .ok (.dup, 1) := by decide +kernel
theorem dX11_feed_106 : decode cX11_feed 106 = .ok (.getfield 123, 3) := by decide +kernel
theorem dX11_feed_109 : decode cX11_feed 109 = .ok (.iconst 1, 1) := by decide +kernel
theorem dX11_feed_110 : decode cX11_feed 110 = .ok (.iadd, 1) := by decide +kernel
theorem dX11_feed_111 : decode cX11_feed 111 = .ok (.putfield 123, 3) := by decide +kernel
theorem dX11_feed_114 : decode cX11_feed 114 = .ok (.iinc 6 1, 3) := by decide +kernel
theorem dX11_feed_117 : decode cX11_feed 117 = .ok (.goto (-94), 3) := by decide +kernel
theorem dX11_feed_120 : decode cX11_feed 120 = .ok (.aload_n 0, 1) := by decide +kernel
theorem dX11_feed_121 : decode cX11_feed 121 = .ok (.getfield 123, 3) := by decide +kernel
theorem dX11_feed_124 : decode cX11_feed 124 = .ok (.ireturn, 1) := by decide +kernel
abbrev mX11_feed : MD := (cX11_feed, "BlottedDeedModel", 8, 1, 30, (some .int), "feed", [])
def bX11_feed_0 (g : GE) (J : Nat → KT) : KT := i_aload 0 (i_push (.int 0) (i_putf 10 0 .int (i_aload 0 (i_getf 10 1 (i_push (.int 20) (i_iadd (i_push (.int 600) (i_icle (i_push (.int 0) (i_istore 6 (i_jmp [true, true, true, true, true, true, true, false] (J 1)))) (i_push (.int (-1)) (i_ireturn))))))))))
def bX11_feed_1 (g : GE) (J : Nat → KT) : KT := i_iload 6 (i_push (.int 20) (i_icge (i_aload 0 (i_getf 10 1 (i_ireturn))) (i_iload 6 (i_push (.int 4) (i_icge (i_iload 6 (i_push (.int 8) (i_icge (i_iload 6 (i_push (.int 12) (i_icge (i_iload 6 (i_push (.int 16) (i_icge (i_iload 5 (i_jmp [true, true, true, true, true, true, true, false] (J 2))) (i_iload 4 (i_jmp [true, true, true, true, true, true, true, false] (J 2)))))) (i_iload 3 (i_jmp [true, true, true, true, true, true, true, false] (J 2)))))) (i_iload 2 (i_jmp [true, true, true, true, true, true, true, false] (J 2)))))) (i_iload 1 (i_jmp [true, true, true, true, true, true, true, false] (J 2))))))))
def bX11_feed_2 (g : GE) (J : Nat → KT) : KT := i_istore 7 (i_aload 0 (i_getf 10 8 (i_aload 0 (i_getf 10 1 (i_iload 7 (i_push (.int 24) (i_push (.int 8) (i_iload 6 (i_push (.int 4) (i_irem (i_imul (i_isub (i_ishr (i_push (.int 255) (i_iand (i_iastore (i_aload 0 (i_dup (i_getf 10 1 (i_push (.int 1) (i_iadd (i_putf 10 1 .int (i_iinc 6 1 (i_jmp [true, true, true, true, true, true, true, false] (J 1)))))))))))))))))))))))))
theorem sbX11_feed_0 (g : GE) (J : Nat → KT) (h1 : Snd mX11_feed g 23 (J 1)) (h2 : Snd mX11_feed g 76 (J 2)) : Snd mX11_feed g 0 (bX11_feed_0 g J) := by
  unfold bX11_feed_0
  refine s_aload_n (pc := 0) (i := 0) ?_ dX11_feed_0 rfl
  refine s_iconst (pc := 1) (v := 0) ?_ dX11_feed_1 (by decide)
  refine s_putf (pc := 2) (ci := 10) (f := 0) (T := TX11) (ty0 := tyX11) ?_ ginX11 tyX11_ok nmX11 rfl (by decide) rfl rfl wt_1393 dX11_feed_2
  refine s_aload_n (pc := 5) (i := 0) ?_ dX11_feed_5 rfl
  refine s_getf (pc := 6) (ci := 10) (f := 1) (T := TX11) ?_ ginX11 rfl (by decide) wt_1394 dX11_feed_6
  refine s_bipush (pc := 9) (v := 20) ?_ dX11_feed_9 (by decide)
  refine s_iadd (pc := 11) ?_ dX11_feed_11
  refine s_sipush (pc := 12) (v := 600) ?_ dX11_feed_12 (by decide)
  refine s_icle (pc := 15) (tgt := 20) ?_ ?_ dX11_feed_15 (by decide)
  · skip
    refine s_iconst (pc := 20) (v := 0) ?_ dX11_feed_20 (by decide)
    refine s_istore (pc := 21) (i := 6) ?_ dX11_feed_21 (by decide)
    exact s_fall (pc := 23) h1
  · skip
    refine s_iconst (pc := 18) (v := (-1)) ?_ dX11_feed_18 (by decide)
    exact s_ireturn (pc := 19) rfl dX11_feed_19
theorem sbX11_feed_1 (g : GE) (J : Nat → KT) (h1 : Snd mX11_feed g 23 (J 1)) (h2 : Snd mX11_feed g 76 (J 2)) : Snd mX11_feed g 23 (bX11_feed_1 g J) := by
  unfold bX11_feed_1
  refine s_iload (pc := 23) (i := 6) ?_ dX11_feed_23
  refine s_bipush (pc := 25) (v := 20) ?_ dX11_feed_25 (by decide)
  refine s_icge (pc := 27) (tgt := 120) ?_ ?_ dX11_feed_27 (by decide)
  · skip
    refine s_aload_n (pc := 120) (i := 0) ?_ dX11_feed_120 rfl
    refine s_getf (pc := 121) (ci := 10) (f := 1) (T := TX11) ?_ ginX11 rfl (by decide) wt_1394 dX11_feed_121
    exact s_ireturn (pc := 124) rfl dX11_feed_124
  · skip
    refine s_iload (pc := 30) (i := 6) ?_ dX11_feed_30
    refine s_iconst (pc := 32) (v := 4) ?_ dX11_feed_32 (by decide)
    refine s_icge (pc := 33) (tgt := 40) ?_ ?_ dX11_feed_33 (by decide)
    · skip
      refine s_iload (pc := 40) (i := 6) ?_ dX11_feed_40
      refine s_bipush (pc := 42) (v := 8) ?_ dX11_feed_42 (by decide)
      refine s_icge (pc := 44) (tgt := 51) ?_ ?_ dX11_feed_44 (by decide)
      · skip
        refine s_iload (pc := 51) (i := 6) ?_ dX11_feed_51
        refine s_bipush (pc := 53) (v := 12) ?_ dX11_feed_53 (by decide)
        refine s_icge (pc := 55) (tgt := 62) ?_ ?_ dX11_feed_55 (by decide)
        · skip
          refine s_iload (pc := 62) (i := 6) ?_ dX11_feed_62
          refine s_bipush (pc := 64) (v := 16) ?_ dX11_feed_64 (by decide)
          refine s_icge (pc := 66) (tgt := 74) ?_ ?_ dX11_feed_66 (by decide)
          · skip
            refine s_iload (pc := 74) (i := 5) ?_ dX11_feed_74
            exact s_fall (pc := 76) h2
          · skip
            refine s_iload (pc := 69) (i := 4) ?_ dX11_feed_69
            exact s_goto (pc := 71) (tgt := 76) h2 dX11_feed_71 (by decide)
        · skip
          refine s_iload_n (pc := 58) (i := 3) ?_ dX11_feed_58 rfl
          exact s_goto (pc := 59) (tgt := 76) h2 dX11_feed_59 (by decide)
      · skip
        refine s_iload_n (pc := 47) (i := 2) ?_ dX11_feed_47 rfl
        exact s_goto (pc := 48) (tgt := 76) h2 dX11_feed_48 (by decide)
    · skip
      refine s_iload_n (pc := 36) (i := 1) ?_ dX11_feed_36 rfl
      exact s_goto (pc := 37) (tgt := 76) h2 dX11_feed_37 (by decide)
theorem sbX11_feed_2 (g : GE) (J : Nat → KT) (h1 : Snd mX11_feed g 23 (J 1)) (h2 : Snd mX11_feed g 76 (J 2)) : Snd mX11_feed g 76 (bX11_feed_2 g J) := by
  unfold bX11_feed_2
  refine s_istore (pc := 76) (i := 7) ?_ dX11_feed_76 (by decide)
  refine s_aload_n (pc := 78) (i := 0) ?_ dX11_feed_78 rfl
  refine s_getf (pc := 79) (ci := 10) (f := 8) (T := TX11) ?_ ginX11 rfl (by decide) wt_1401 dX11_feed_79
  refine s_aload_n (pc := 82) (i := 0) ?_ dX11_feed_82 rfl
  refine s_getf (pc := 83) (ci := 10) (f := 1) (T := TX11) ?_ ginX11 rfl (by decide) wt_1394 dX11_feed_83
  refine s_iload (pc := 86) (i := 7) ?_ dX11_feed_86
  refine s_bipush (pc := 88) (v := 24) ?_ dX11_feed_88 (by decide)
  refine s_bipush (pc := 90) (v := 8) ?_ dX11_feed_90 (by decide)
  refine s_iload (pc := 92) (i := 6) ?_ dX11_feed_92
  refine s_iconst (pc := 94) (v := 4) ?_ dX11_feed_94 (by decide)
  refine s_irem (pc := 95) ?_ dX11_feed_95
  refine s_imul (pc := 96) ?_ dX11_feed_96
  refine s_isub (pc := 97) ?_ dX11_feed_97
  refine s_ishr (pc := 98) ?_ dX11_feed_98
  refine s_sipush (pc := 99) (v := 255) ?_ dX11_feed_99 (by decide)
  refine s_iand (pc := 102) ?_ dX11_feed_102
  refine s_iastore (pc := 103) ?_ dX11_feed_103
  refine s_aload_n (pc := 104) (i := 0) ?_ dX11_feed_104 rfl
  refine s_dup (pc := 105) ?_ dX11_feed_105
  refine s_getf (pc := 106) (ci := 10) (f := 1) (T := TX11) ?_ ginX11 rfl (by decide) wt_1394 dX11_feed_106
  refine s_iconst (pc := 109) (v := 1) ?_ dX11_feed_109 (by decide)
  refine s_iadd (pc := 110) ?_ dX11_feed_110
  refine s_putf (pc := 111) (ci := 10) (f := 1) (T := TX11) (ty0 := tyX11) ?_ ginX11 tyX11_ok nmX11 rfl (by decide) rfl rfl wt_1394 dX11_feed_111
  refine s_iinc (pc := 114) (i := 6) (v := 1) ?_ dX11_feed_114 (by decide) (by decide)
  exact s_goto (pc := 117) (tgt := 23) h1 dX11_feed_117 (by decide)
def jX11_feed (g : GE) : Nat → Nat → KT
  | 0, _ => fun _ _ _ => none
  | n + 1, 0 => bX11_feed_0 g (jX11_feed g n)
  | n + 1, 1 => bX11_feed_1 g (jX11_feed g n)
  | n + 1, 2 => bX11_feed_2 g (jX11_feed g n)
  | _ + 1, _ + 3 => fun _ _ _ => none
theorem sjX11_feed (g : GE) : ∀ n, Snd mX11_feed g 0 (jX11_feed g n 0) ∧ Snd mX11_feed g 23 (jX11_feed g n 1) ∧ Snd mX11_feed g 76 (jX11_feed g n 2)
  | 0 => ⟨s_none, s_none, s_none⟩
  | n + 1 => by
    obtain ⟨-, h1, h2⟩ := sjX11_feed g n
    exact ⟨sbX11_feed_0 g _ h1 h2, sbX11_feed_1 g _ h1 h2, sbX11_feed_2 g _ h1 h2⟩
def kX11_feed (g : GE) : KT := jX11_feed g g.1 0
theorem sX11_feed (g : GE) : Snd mX11_feed g 0 (kX11_feed g) := (sjX11_feed g g.1).1
def fX11_feed : FT := fun g av w => if (ent av).length ≤ 8 then kX11_feed g [] (entp 8 av) w else none
theorem tX11_feed : Mt yX11_feed cX11_feed 8 (some .int) 1 30 fX11_feed := Mt.of (K := kX11_feed) (by decide +kernel) (fun _ _ _ => rfl) sX11_feed
theorem crX11_feed : yX11_feed.cls ≠ "java/lang/invoke/MethodHandle" ∧ yX11_feed.cls ≠ "java/lang/invoke/VarHandle" ∧ (parseMethodDescriptor yX11_feed.desc).map (fun d => d.parameters.length) = some 5 := by decide +kernel
theorem dX11_isThing_0 : decode cX11_isThing 0 = .ok (.iload_n 1, 1) := by decide +kernel
theorem dX11_isThing_1 : decode cX11_isThing 1 = .ok (.iconst 0, 1) := by decide +kernel
theorem dX11_isThing_2 : decode cX11_isThing 2 = .ok (.aload_n 0, 1) := by decide +kernel
theorem dX11_isThing_3 : decode cX11_isThing 3 = .ok (.getfield 23, 3) := by decide +kernel
theorem dX11_isThing_6 : decode cX11_isThing 6 = .ok (.iconst 1, 1) := by decide +kernel
theorem dX11_isThing_7 : decode cX11_isThing 7 = .ok (.iaload, 1) := by decide +kernel
theorem dX11_isThing_8 : decode cX11_isThing 8 = .ok (.iconst 1, 1) := by decide +kernel
theorem dX11_isThing_9 : decode cX11_isThing 9 = .ok (.isub, 1) := by decide +kernel
theorem dX11_isThing_10 : decode cX11_isThing 10 = .ok (.invokestatic 154, 3) := by decide +kernel
theorem dX11_isThing_13 : decode cX11_isThing 13 = .ok (.ireturn, 1) := by decide +kernel
abbrev mX11_isThing : MD := (cX11_isThing, "BlottedDeedModel", 2, 2, 52, (some .boolean), "isThing", [])
def bX11_isThing_0 (g : GE) (J : Nat → KT) : KT := i_iload 1 (i_push (.int 0) (i_aload 0 (i_getf 10 11 (i_push (.int 1) (i_iaload (i_push (.int 1) (i_isub (i_cs fX11_in g 3 (i_zreturn)))))))))
theorem sbX11_isThing_0 (g : GE) (J : Nat → KT)  : Snd mX11_isThing g 0 (bX11_isThing_0 g J) := by
  unfold bX11_isThing_0
  refine s_iload_n (pc := 0) (i := 1) ?_ dX11_isThing_0 rfl
  refine s_iconst (pc := 1) (v := 0) ?_ dX11_isThing_1 (by decide)
  refine s_aload_n (pc := 2) (i := 0) ?_ dX11_isThing_2 rfl
  refine s_getf (pc := 3) (ci := 10) (f := 11) (T := TX11) ?_ ginX11 rfl (by decide) wt_1404 dX11_isThing_3
  refine s_iconst (pc := 6) (v := 1) ?_ dX11_isThing_6 (by decide)
  refine s_iaload (pc := 7) ?_ dX11_isThing_7
  refine s_iconst (pc := 8) (v := 1) ?_ dX11_isThing_8 (by decide)
  refine s_isub (pc := 9) ?_ dX11_isThing_9
  refine s_cs (pc := 10) (n := 3) ?_ tX11_in wt_1557 wt_1558 wt_17 wt_1559 ⟨crX11_in, by decide, by decide⟩ dX11_isThing_10
  exact s_zreturn (pc := 13) rfl dX11_isThing_13
def kX11_isThing (g : GE) : KT := bX11_isThing_0 g (fun _ _ _ _ => none)
theorem sX11_isThing (g : GE) : Snd mX11_isThing g 0 (kX11_isThing g) := sbX11_isThing_0 g _
def fX11_isThing : FT := fun g av w => if (ent av).length ≤ 2 then kX11_isThing g [] (entp 2 av) w else none
theorem tX11_isThing : Mt yX11_isThing cX11_isThing 2 (some .boolean) 2 52 fX11_isThing := Mt.of (K := kX11_isThing) (by decide +kernel) (fun _ _ _ => rfl) sX11_isThing
theorem crX11_isThing : yX11_isThing.cls ≠ "java/lang/invoke/MethodHandle" ∧ yX11_isThing.cls ≠ "java/lang/invoke/VarHandle" ∧ (parseMethodDescriptor yX11_isThing.desc).map (fun d => d.parameters.length) = some 1 := by decide +kernel
theorem dX11_ones_0 : decode cX11_ones 0 = .ok (.iconst 0, 1) := by decide +kernel
theorem dX11_ones_1 : decode cX11_ones 1 = .ok (.istore_n 1, 1) := by decide +kernel
theorem dX11_ones_2 : decode cX11_ones 2 = .ok (.iconst 0, 1) := by decide +kernel
theorem dX11_ones_3 : decode cX11_ones 3 = .ok (.istore_n 2, 1) := by decide +kernel
theorem dX11_ones_4 : decode cX11_ones 4 = .ok (.iload_n 2, 1) := by decide +kernel
theorem dX11_ones_5 : decode cX11_ones 5 = .ok (.bipush 8, 2) := by decide +kernel
theorem dX11_ones_7 : decode cX11_ones 7 = .ok (.if_icmp .ge 17, 3) := by decide +kernel
theorem dX11_ones_10 : decode cX11_ones 10 = .ok (.iload_n 1, 1) := by decide +kernel
theorem dX11_ones_11 : decode cX11_ones 11 = .ok (.iload_n 0, 1) := by decide +kernel
theorem dX11_ones_12 : decode cX11_ones 12 = .ok (.iload_n 2, 1) := by decide +kernel
theorem dX11_ones_13 : decode cX11_ones 13 = .ok (.ishr, 1) := by decide +kernel
theorem dX11_ones_14 : decode cX11_ones 14 = .ok (.iconst 1, 1) := by decide +kernel
theorem dX11_ones_15 : decode cX11_ones 15 = .ok (.iand, 1) := by decide +kernel
theorem dX11_ones_16 : decode cX11_ones 16 = .ok (.iadd, 1) := by decide +kernel
theorem dX11_ones_17 : decode cX11_ones 17 = .ok (.istore_n 1, 1) := by decide +kernel
theorem dX11_ones_18 : decode cX11_ones 18 = .ok (.iinc 2 1, 3) := by decide +kernel
theorem dX11_ones_21 : decode cX11_ones 21 = .ok (.goto (-17), 3) := by decide +kernel
theorem dX11_ones_24 : decode cX11_ones 24 = .ok (.iload_n 1, 1) := by decide +kernel
theorem dX11_ones_25 : decode cX11_ones 25 = .ok (.ireturn, 1) := by decide +kernel
abbrev mX11_ones : MD := (cX11_ones, "BlottedDeedModel", 3, 1, 30, (some .int), "ones", [])
def bX11_ones_0 (g : GE) (J : Nat → KT) : KT := i_push (.int 0) (i_istore 1 (i_push (.int 0) (i_istore 2 (i_jmp [true, true, true] (J 1)))))
def bX11_ones_1 (g : GE) (J : Nat → KT) : KT := i_iload 2 (i_push (.int 8) (i_icge (i_iload 1 (i_ireturn)) (i_iload 1 (i_iload 0 (i_iload 2 (i_ishr (i_push (.int 1) (i_iand (i_iadd (i_istore 1 (i_iinc 2 1 (i_jmp [true, true, true] (J 1)))))))))))))
theorem sbX11_ones_0 (g : GE) (J : Nat → KT) (h1 : Snd mX11_ones g 4 (J 1)) : Snd mX11_ones g 0 (bX11_ones_0 g J) := by
  unfold bX11_ones_0
  refine s_iconst (pc := 0) (v := 0) ?_ dX11_ones_0 (by decide)
  refine s_istore_n (pc := 1) (i := 1) ?_ dX11_ones_1 rfl (by decide)
  refine s_iconst (pc := 2) (v := 0) ?_ dX11_ones_2 (by decide)
  refine s_istore_n (pc := 3) (i := 2) ?_ dX11_ones_3 rfl (by decide)
  exact s_fall (pc := 4) h1
theorem sbX11_ones_1 (g : GE) (J : Nat → KT) (h1 : Snd mX11_ones g 4 (J 1)) : Snd mX11_ones g 4 (bX11_ones_1 g J) := by
  unfold bX11_ones_1
  refine s_iload_n (pc := 4) (i := 2) ?_ dX11_ones_4 rfl
  refine s_bipush (pc := 5) (v := 8) ?_ dX11_ones_5 (by decide)
  refine s_icge (pc := 7) (tgt := 24) ?_ ?_ dX11_ones_7 (by decide)
  · skip
    refine s_iload_n (pc := 24) (i := 1) ?_ dX11_ones_24 rfl
    exact s_ireturn (pc := 25) rfl dX11_ones_25
  · skip
    refine s_iload_n (pc := 10) (i := 1) ?_ dX11_ones_10 rfl
    refine s_iload_n (pc := 11) (i := 0) ?_ dX11_ones_11 rfl
    refine s_iload_n (pc := 12) (i := 2) ?_ dX11_ones_12 rfl
    refine s_ishr (pc := 13) ?_ dX11_ones_13
    refine s_iconst (pc := 14) (v := 1) ?_ dX11_ones_14 (by decide)
    refine s_iand (pc := 15) ?_ dX11_ones_15
    refine s_iadd (pc := 16) ?_ dX11_ones_16
    refine s_istore_n (pc := 17) (i := 1) ?_ dX11_ones_17 rfl (by decide)
    refine s_iinc (pc := 18) (i := 2) (v := 1) ?_ dX11_ones_18 (by decide) (by decide)
    exact s_goto (pc := 21) (tgt := 4) h1 dX11_ones_21 (by decide)
def jX11_ones (g : GE) : Nat → Nat → KT
  | 0, _ => fun _ _ _ => none
  | n + 1, 0 => bX11_ones_0 g (jX11_ones g n)
  | n + 1, 1 => bX11_ones_1 g (jX11_ones g n)
  | _ + 1, _ + 2 => fun _ _ _ => none
theorem sjX11_ones (g : GE) : ∀ n, Snd mX11_ones g 0 (jX11_ones g n 0) ∧ Snd mX11_ones g 4 (jX11_ones g n 1)
  | 0 => ⟨s_none, s_none⟩
  | n + 1 => by
    obtain ⟨-, h1⟩ := sjX11_ones g n
    exact ⟨sbX11_ones_0 g _ h1, sbX11_ones_1 g _ h1⟩
def kX11_ones (g : GE) : KT := jX11_ones g g.1 0
theorem sX11_ones (g : GE) : Snd mX11_ones g 0 (kX11_ones g) := (sjX11_ones g g.1).1
def fX11_ones : FT := fun g av w => if (ent av).length ≤ 3 then kX11_ones g [] (entp 3 av) w else none
theorem tX11_ones : Mt yX11_ones cX11_ones 3 (some .int) 1 30 fX11_ones := Mt.of (K := kX11_ones) (by decide +kernel) (fun _ _ _ => rfl) sX11_ones
theorem crX11_ones : yX11_ones.cls ≠ "java/lang/invoke/MethodHandle" ∧ yX11_ones.cls ≠ "java/lang/invoke/VarHandle" ∧ (parseMethodDescriptor yX11_ones.desc).map (fun d => d.parameters.length) = some 1 := by decide +kernel
theorem dX11_tells_0 : decode cX11_tells 0 = .ok (.iconst 1, 1) := by decide +kernel
theorem dX11_tells_1 : decode cX11_tells 1 = .ok (.istore_n 3, 1) := by decide +kernel
theorem dX11_tells_2 : decode cX11_tells 2 = .ok (.iconst 0, 1) := by decide +kernel
theorem dX11_tells_3 : decode cX11_tells 3 = .ok (.istore 4, 2) := by decide +kernel
theorem dX11_tells_5 : decode cX11_tells 5 = .ok (.iload 4, 2) := by decide +kernel
theorem dX11_tells_7 : decode cX11_tells 7 = .ok (.aload_n 0, 1) := by decide +kernel
theorem dX11_tells_8 : decode cX11_tells 8 = .ok (.getfield 23, 3) := by decide +kernel
theorem dX11_tells_11 : decode cX11_tells 11 = .ok (.iconst 3, 1) := by decide +kernel
theorem dX11_tells_12 : decode cX11_tells 12 = .ok (.iaload, 1) := by decide +kernel
theorem dX11_tells_13 : decode cX11_tells 13 = .ok (.if_icmp .ge 35, 3) := by decide +kernel
theorem dX11_tells_16 : decode cX11_tells 16 = .ok (.iload_n 3, 1) := by decide +kernel
theorem dX11_tells_17 : decode cX11_tells 17 = .ok (.iload_n 1, 1) := by decide +kernel
theorem dX11_tells_18 : decode cX11_tells 18 = .ok (.iload 4, 2) := by decide +kernel
theorem dX11_tells_20 : decode cX11_tells 20 = .ok (.ishr, 1) := by decide +kernel
theorem dX11_tells_21 : decode cX11_tells 21 = .ok (.iconst 1, 1) := by decide +kernel
theorem dX11_tells_22 : decode cX11_tells 22 = .ok (.iand, 1) := by decide +kernel
theorem dX11_tells_23 : decode cX11_tells 23 = .ok (.iconst 1, 1) := by decide +kernel
theorem dX11_tells_24 : decode cX11_tells 24 = .ok (.if_icmp .ne 15, 3) := by decide +kernel
theorem dX11_tells_27 : decode cX11_tells 27 = .ok (.aload_n 0, 1) := by decide +kernel
theorem dX11_tells_28 : decode cX11_tells 28 = .ok (.getfield 65, 3) := by decide +kernel
theorem dX11_tells_31 : decode cX11_tells 31 = .ok (.iload 4, 2) := by decide +kernel
theorem dX11_tells_33 : decode cX11_tells 33 = .ok (.aaload, 1) := by decide +kernel
theorem dX11_tells_34 : decode cX11_tells 34 = .ok (.iconst 2, 1) := by decide +kernel
theorem dX11_tells_35 : decode cX11_tells 35 = .ok (.iaload, 1) := by decide +kernel
theorem dX11_tells_36 : decode cX11_tells 36 = .ok (.goto 4, 3) := by decide +kernel
theorem dX11_tells_39 : decode cX11_tells 39 = .ok (.iconst 1, 1) := by decide +kernel
theorem dX11_tells_40 : decode cX11_tells 40 = .ok (.imul, 1) := by decide +kernel
theorem dX11_tells_41 : decode cX11_tells 41 = .ok (.istore_n 3, 1) := by decide +kernel
theorem dX11_tells_42 : decode cX11_tells 42 = .ok (.iinc 4 1, 3) := by decide +kernel
theorem dX11_tells_45 : decode cX11_tells 45 = .ok (.goto (-40), 3) := by decide +kernel
theorem dX11_tells_48 : decode cX11_tells 48 = .ok (.iconst 0, 1) := by decide +kernel
theorem dX11_tells_49 : decode cX11_tells 49 = .ok (.istore 4, 2) := by decide +kernel
theorem dX11_tells_51 : decode cX11_tells 51 = .ok (.iload 4, 2) := by decide +kernel
theorem dX11_tells_53 : decode cX11_tells 53 = .ok (.iload_n 3, 1) := by decide +kernel
theorem dX11_tells_54 : decode cX11_tells 54 = .ok (.if_icmp .ge 17, 3) := by decide +kernel
theorem dX11_tells_57 : decode cX11_tells 57 = .ok (.aload_n 0, 1) := by decide +kernel
theorem dX11_tells_58 : decode cX11_tells 58 = .ok (.getfield 107, 3) := by decide +kernel
theorem dX11_tells_61 : decode cX11_tells 61 = .ok (.iload 4, 2) := by decide +kernel
theorem dX11_tells_63 : decode cX11_tells 63 = .ok (.iconst (-1), 1) := by decide +kernel
theorem dX11_tells_64 : decode cX11_tells 64 = .ok (.iastore, 1) := by decide +kernel
theorem dX11_tells_65 : decode cX11_tells 65 = .ok (.iinc 4 1, 3) := by decide +kernel
theorem dX11_tells_68 : decode cX11_tells 68 = .ok (.goto (-17), 3) := by decide +kernel
theorem dX11_tells_71 : decode cX11_tells 71 = .ok (.iconst 0, 1) := by decide +kernel
theorem dX11_tells_72 : decode cX11_tells 72 = .ok (.istore 4, 2) := by decide +kernel
theorem dX11_tells_74 : decode cX11_tells 74 = .ok (.iload 4, 2) := by decide +kernel
theorem dX11_tells_76 : decode cX11_tells 76 = .ok (.aload_n 0, 1) := by decide +kernel
theorem dX11_tells_77 : decode cX11_tells 77 = .ok (.getfield 244, 3) := by decide +kernel
theorem dX11_tells_80 : decode cX11_tells 80 = .ok (.if_icmp .ge 120, 3) := by decide +kernel
theorem dX11_tells_83 : decode cX11_tells 83 = .ok (.iconst 0, 1) := by decide +kernel
theorem dX11_tells_84 : decode cX11_tells 84 = .ok (.istore 5, 2) := by decide +kernel
theorem dX11_tells_86 : decode cX11_tells 86 = .ok (.iconst 0, 1) := by decide +kernel
theorem dX11_tells_87 : decode cX11_tells 87 = .ok (.istore 6, 2) := by decide +kernel
theorem dX11_tells_89 : decode cX11_tells 89 = .ok (.iload 6, 2) := by decide +kernel
theorem dX11_tells_91 : decode cX11_tells 91 = .ok (.aload_n 0, 1) := by decide +kernel
theorem dX11_tells_92 : decode cX11_tells 92 = .ok (.getfield 23, 3) := by decide +kernel
theorem dX11_tells_95 : decode cX11_tells 95 = .ok (.iconst 3, 1) := by decide +kernel
theorem dX11_tells_96 : decode cX11_tells 96 = .ok (.iaload, 1) := by decide +kernel
theorem dX11_tells_97 : decode cX11_tells 97 = .ok (.if_icmp .ge 52, 3) := by decide +kernel
theorem dX11_tells_100 : decode cX11_tells 100 = .ok (.iload_n 1, 1) := by decide +kernel
theorem dX11_tells_101 : decode cX11_tells 101 = .ok (.iload 6, 2) := by decide +kernel
theorem dX11_tells_103 : decode cX11_tells 103 = .ok (.ishr, 1) := by decide +kernel
theorem dX11_tells_104 : decode cX11_tells 104 = .ok (.iconst 1, 1) := by decide +kernel
theorem dX11_tells_105 : decode cX11_tells 105 = .ok (.iand, 1) := by decide +kernel
theorem dX11_tells_106 : decode cX11_tells 106 = .ok (.iconst 1, 1) := by decide +kernel
theorem dX11_tells_107 : decode cX11_tells 107 = .ok (.if_icmp .ne 32, 3) := by decide +kernel
theorem dX11_tells_110 : decode cX11_tells 110 = .ok (.iload 5, 2) := by decide +kernel
theorem dX11_tells_112 : decode cX11_tells 112 = .ok (.aload_n 0, 1) := by decide +kernel
theorem dX11_tells_113 : decode cX11_tells 113 = .ok (.getfield 65, 3) := by decide +kernel
theorem dX11_tells_116 : decode cX11_tells 116 = .ok (.iload 6, 2) := by decide +kernel
theorem dX11_tells_118 : decode cX11_tells 118 = .ok (.aaload, 1) := by decide +kernel
theorem dX11_tells_119 : decode cX11_tells 119 = .ok (.iconst 2, 1) := by decide +kernel
theorem dX11_tells_120 : decode cX11_tells 120 = .ok (.iaload, 1) := by decide +kernel
theorem dX11_tells_121 : decode cX11_tells 121 = .ok (.imul, 1) := by decide +kernel
theorem dX11_tells_122 : decode cX11_tells 122 = .ok (.aload_n 0, 1) := by decide +kernel
theorem dX11_tells_123 : decode cX11_tells 123 = .ok (.aload_n 0, 1) := by decide +kernel
theorem dX11_tells_124 : decode cX11_tells 124 = .ok (.getfield 74, 3) := by decide +kernel
theorem dX11_tells_127 : decode cX11_tells 127 = .ok (.iload 4, 2) := by decide +kernel
theorem dX11_tells_129 : decode cX11_tells 129 = .ok (.iaload, 1) := by decide +kernel
theorem dX11_tells_130 : decode cX11_tells 130 = .ok (.iload 6, 2) := by decide +kernel
theorem dX11_tells_132 : decode cX11_tells 132 = .ok (.invokevirtual 256, 3) := by decide +kernel
theorem dX11_tells_135 : decode cX11_tells 135 = .ok (.iadd, 1) := by decide +kernel
theorem dX11_tells_136 : decode cX11_tells 136 = .ok (.goto 5, 3) := by decide +kernel
theorem dX11_tells_139 : decode cX11_tells 139 = .ok (.iload 5, 2) := by decide +kernel
theorem dX11_tells_141 : decode cX11_tells 141 = .ok (.istore 5, 2) := by decide +kernel
theorem dX11_tells_143 : decode cX11_tells 143 = .ok (.iinc 6 1, 3) := by decide +kernel
theorem dX11_tells_146 : decode cX11_tells 146 = .ok (.goto (-57), 3) := by decide +kernel
theorem dX11_tells_149 : decode cX11_tells 149 = .ok (.iconst 1, 1) := by decide +kernel
theorem dX11_tells_150 : decode cX11_tells 150 = .ok (.aload_n 0, 1) := by decide +kernel
theorem dX11_tells_151 : decode cX11_tells 151 = .ok (.iload 4, 2) := by decide +kernel
theorem dX11_tells_153 : decode cX11_tells 153 = .ok (.iload_n 2, 1) := by decide +kernel
theorem dX11_tells_154 : decode cX11_tells 154 = .ok (.invokevirtual 264, 3) := by decide +kernel
theorem dX11_tells_157 : decode cX11_tells 157 = .ok (.iadd, 1) := by decide +kernel
theorem dX11_tells_158 : decode cX11_tells 158 = .ok (.istore 6, 2) := by decide +kernel
theorem dX11_tells_160 : decode cX11_tells 160 = .ok (.aload_n 0, 1) := by decide +kernel
theorem dX11_tells_161 : decode cX11_tells 161 = .ok (.getfield 107, 3) := by decide +kernel
theorem dX11_tells_164 : decode cX11_tells 164 = .ok (.iload 5, 2) := by decide +kernel
theorem dX11_tells_166 : decode cX11_tells 166 = .ok (.iaload, 1) := by decide +kernel
theorem dX11_tells_167 : decode cX11_tells 167 = .ok (.iconst (-1), 1) := by decide +kernel
theorem dX11_tells_168 : decode cX11_tells 168 = .ok (.if_icmp .eq 17, 3) := by decide +kernel
theorem dX11_tells_171 : decode cX11_tells 171 = .ok (.aload_n 0, 1) := by decide +kernel
theorem dX11_tells_172 : decode cX11_tells 172 = .ok (.getfield 107, 3) := by decide +kernel
theorem dX11_tells_175 : decode cX11_tells 175 = .ok (.iload 5, 2) := by decide +kernel
theorem dX11_tells_177 : decode cX11_tells 177 = .ok (.iaload, 1) := by decide +kernel
theorem dX11_tells_178 : decode cX11_tells 178 = .ok (.iload 6, 2) := by decide +kernel
theorem dX11_tells_180 : decode cX11_tells 180 = .ok (.if_icmp .eq 5, 3) := by decide +kernel
theorem dX11_tells_183 : decode cX11_tells 183 = .ok (.iconst 0, 1) := by decide +kernel
theorem dX11_tells_184 : decode cX11_tells 184 = .ok (.ireturn, 1) := by decide +kernel
theorem dX11_tells_185 : decode cX11_tells 185 = .ok (.aload_n 0, 1) := by decide +kernel
theorem dX11_tells_186 : decode cX11_tells 186 = .ok (.getfield 107, 3) := by decide +kernel
theorem dX11_tells_189 : decode cX11_tells 189 = .ok (.iload 5, 2) := by decide +kernel
theorem dX11_tells_191 : decode cX11_tells 191 = .ok (.iload 6, 2) := by decide +kernel
theorem dX11_tells_193 : decode cX11_tells 193 = .ok (.iastore, 1) := by decide +kernel
theorem dX11_tells_194 : decode cX11_tells 194 = .ok (.iinc 4 1, 3) := by decide +kernel
theorem dX11_tells_197 : decode cX11_tells 197 = .ok (.goto (-123), 3) := by decide +kernel
theorem dX11_tells_200 : decode cX11_tells 200 = .ok (.iconst 1, 1) := by decide +kernel
theorem dX11_tells_201 : decode cX11_tells 201 = .ok (.ireturn, 1) := by decide +kernel
abbrev mX11_tells : MD := (cX11_tells, "BlottedDeedModel", 7, 2, 54, (some .boolean), "tells", [])
def bX11_tells_0 (g : GE) (J : Nat → KT) : KT := i_push (.int 1) (i_istore 3 (i_push (.int 0) (i_istore 4 (i_jmp [true, true, true, true, true, false, false] (J 1)))))
def bX11_tells_1 (g : GE) (J : Nat → KT) : KT := i_iload 4 (i_aload 0 (i_getf 10 11 (i_push (.int 3) (i_iaload (i_icge (i_push (.int 0) (i_istore 4 (i_jmp [true, true, true, true, true, false, false] (J 3)))) (i_iload 3 (i_iload 1 (i_iload 4 (i_ishr (i_push (.int 1) (i_iand (i_push (.int 1) (i_icne (i_push (.int 1) (i_jmp [true, true, true, false, true, false, false] (J 2))) (i_aload 0 (i_getf 10 24 (i_iload 4 (i_aaload 4 (i_push (.int 2) (i_iaload (i_jmp [true, true, true, false, true, false, false] (J 2)))))))))))))))))))))
def bX11_tells_2 (g : GE) (J : Nat → KT) : KT := i_imul (i_istore 3 (i_iinc 4 1 (i_jmp [true, true, true, true, true, false, false] (J 1))))
def bX11_tells_3 (g : GE) (J : Nat → KT) : KT := i_iload 4 (i_iload 3 (i_icge (i_push (.int 0) (i_istore 4 (i_jmp [true, true, true, false, true, false, false] (J 4)))) (i_aload 0 (i_getf 10 44 (i_iload 4 (i_push (.int (-1)) (i_iastore (i_iinc 4 1 (i_jmp [true, true, true, true, true, false, false] (J 3))))))))))
def bX11_tells_4 (g : GE) (J : Nat → KT) : KT := i_iload 4 (i_aload 0 (i_getf 10 27 (i_icge (i_push (.int 1) (i_zreturn)) (i_push (.int 0) (i_istore 5 (i_push (.int 0) (i_istore 6 (i_jmp [true, true, true, false, true, true, true] (J 5)))))))))
def bX11_tells_5 (g : GE) (J : Nat → KT) : KT := i_iload 6 (i_aload 0 (i_getf 10 11 (i_push (.int 3) (i_iaload (i_icge (i_push (.int 1) (i_aload 0 (i_iload 4 (i_iload 2 (i_cv fX11_goesBy g 2 10 (i_iadd (i_istore 6 (i_aload 0 (i_getf 10 44 (i_iload 5 (i_iaload (i_push (.int (-1)) (i_iceq (i_jmp [true, true, true, false, true, true, true] (J 7)) (i_aload 0 (i_getf 10 44 (i_iload 5 (i_iaload (i_iload 6 (i_iceq (i_jmp [true, true, true, false, true, true, true] (J 7)) (i_push (.int 0) (i_zreturn))))))))))))))))))))) (i_iload 1 (i_iload 6 (i_ishr (i_push (.int 1) (i_iand (i_push (.int 1) (i_icne (i_iload 5 (i_jmp [true, true, true, false, true, false, true] (J 6))) (i_iload 5 (i_aload 0 (i_getf 10 24 (i_iload 6 (i_aaload 4 (i_push (.int 2) (i_iaload (i_imul (i_aload 0 (i_aload 0 (i_getf 10 28 (i_iload 4 (i_iaload (i_iload 6 (i_cv fX11_digit g 2 10 (i_iadd (i_jmp [true, true, true, false, true, false, true] (J 6))))))))))))))))))))))))))))))
def bX11_tells_6 (g : GE) (J : Nat → KT) : KT := i_istore 5 (i_iinc 6 1 (i_jmp [true, true, true, false, true, true, true] (J 5)))
def bX11_tells_7 (g : GE) (J : Nat → KT) : KT := i_aload 0 (i_getf 10 44 (i_iload 5 (i_iload 6 (i_iastore (i_iinc 4 1 (i_jmp [true, true, true, false, true, false, false] (J 4)))))))
theorem sbX11_tells_0 (g : GE) (J : Nat → KT) (h1 : Snd mX11_tells g 5 (J 1)) (h2 : Snd mX11_tells g 40 (J 2)) (h3 : Snd mX11_tells g 51 (J 3)) (h4 : Snd mX11_tells g 74 (J 4)) (h5 : Snd mX11_tells g 89 (J 5)) (h6 : Snd mX11_tells g 141 (J 6)) (h7 : Snd mX11_tells g 185 (J 7)) : Snd mX11_tells g 0 (bX11_tells_0 g J) := by
  unfold bX11_tells_0
  refine s_iconst (pc := 0) (v := 1) ?_ dX11_tells_0 (by decide)
  refine s_istore_n (pc := 1) (i := 3) ?_ dX11_tells_1 rfl (by decide)
  refine s_iconst (pc := 2) (v := 0) ?_ dX11_tells_2 (by decide)
  refine s_istore (pc := 3) (i := 4) ?_ dX11_tells_3 (by decide)
  exact s_fall (pc := 5) h1
theorem sbX11_tells_1 (g : GE) (J : Nat → KT) (h1 : Snd mX11_tells g 5 (J 1)) (h2 : Snd mX11_tells g 40 (J 2)) (h3 : Snd mX11_tells g 51 (J 3)) (h4 : Snd mX11_tells g 74 (J 4)) (h5 : Snd mX11_tells g 89 (J 5)) (h6 : Snd mX11_tells g 141 (J 6)) (h7 : Snd mX11_tells g 185 (J 7)) : Snd mX11_tells g 5 (bX11_tells_1 g J) := by
  unfold bX11_tells_1
  refine s_iload (pc := 5) (i := 4) ?_ dX11_tells_5
  refine s_aload_n (pc := 7) (i := 0) ?_ dX11_tells_7 rfl
  refine s_getf (pc := 8) (ci := 10) (f := 11) (T := TX11) ?_ ginX11 rfl (by decide) wt_1404 dX11_tells_8
  refine s_iconst (pc := 11) (v := 3) ?_ dX11_tells_11 (by decide)
  refine s_iaload (pc := 12) ?_ dX11_tells_12
  refine s_icge (pc := 13) (tgt := 48) ?_ ?_ dX11_tells_13 (by decide)
  · skip
    refine s_iconst (pc := 48) (v := 0) ?_ dX11_tells_48 (by decide)
    refine s_istore (pc := 49) (i := 4) ?_ dX11_tells_49 (by decide)
    exact s_fall (pc := 51) h3
  · skip
    refine s_iload_n (pc := 16) (i := 3) ?_ dX11_tells_16 rfl
    refine s_iload_n (pc := 17) (i := 1) ?_ dX11_tells_17 rfl
    refine s_iload (pc := 18) (i := 4) ?_ dX11_tells_18
    refine s_ishr (pc := 20) ?_ dX11_tells_20
    refine s_iconst (pc := 21) (v := 1) ?_ dX11_tells_21 (by decide)
    refine s_iand (pc := 22) ?_ dX11_tells_22
    refine s_iconst (pc := 23) (v := 1) ?_ dX11_tells_23 (by decide)
    refine s_icne (pc := 24) (tgt := 39) ?_ ?_ dX11_tells_24 (by decide)
    · skip
      refine s_iconst (pc := 39) (v := 1) ?_ dX11_tells_39 (by decide)
      exact s_fall (pc := 40) h2
    · skip
      refine s_aload_n (pc := 27) (i := 0) ?_ dX11_tells_27 rfl
      refine s_getf (pc := 28) (ci := 10) (f := 24) (T := TX11) ?_ ginX11 rfl (by decide) wt_1417 dX11_tells_28
      refine s_iload (pc := 31) (i := 4) ?_ dX11_tells_31
      refine s_aaload (pc := 33) (t := 4) ?_ (by decide) rfl dX11_tells_33
      refine s_iconst (pc := 34) (v := 2) ?_ dX11_tells_34 (by decide)
      refine s_iaload (pc := 35) ?_ dX11_tells_35
      exact s_goto (pc := 36) (tgt := 40) h2 dX11_tells_36 (by decide)
theorem sbX11_tells_2 (g : GE) (J : Nat → KT) (h1 : Snd mX11_tells g 5 (J 1)) (h2 : Snd mX11_tells g 40 (J 2)) (h3 : Snd mX11_tells g 51 (J 3)) (h4 : Snd mX11_tells g 74 (J 4)) (h5 : Snd mX11_tells g 89 (J 5)) (h6 : Snd mX11_tells g 141 (J 6)) (h7 : Snd mX11_tells g 185 (J 7)) : Snd mX11_tells g 40 (bX11_tells_2 g J) := by
  unfold bX11_tells_2
  refine s_imul (pc := 40) ?_ dX11_tells_40
  refine s_istore_n (pc := 41) (i := 3) ?_ dX11_tells_41 rfl (by decide)
  refine s_iinc (pc := 42) (i := 4) (v := 1) ?_ dX11_tells_42 (by decide) (by decide)
  exact s_goto (pc := 45) (tgt := 5) h1 dX11_tells_45 (by decide)
theorem sbX11_tells_3 (g : GE) (J : Nat → KT) (h1 : Snd mX11_tells g 5 (J 1)) (h2 : Snd mX11_tells g 40 (J 2)) (h3 : Snd mX11_tells g 51 (J 3)) (h4 : Snd mX11_tells g 74 (J 4)) (h5 : Snd mX11_tells g 89 (J 5)) (h6 : Snd mX11_tells g 141 (J 6)) (h7 : Snd mX11_tells g 185 (J 7)) : Snd mX11_tells g 51 (bX11_tells_3 g J) := by
  unfold bX11_tells_3
  refine s_iload (pc := 51) (i := 4) ?_ dX11_tells_51
  refine s_iload_n (pc := 53) (i := 3) ?_ dX11_tells_53 rfl
  refine s_icge (pc := 54) (tgt := 71) ?_ ?_ dX11_tells_54 (by decide)
  · skip
    refine s_iconst (pc := 71) (v := 0) ?_ dX11_tells_71 (by decide)
    refine s_istore (pc := 72) (i := 4) ?_ dX11_tells_72 (by decide)
    exact s_fall (pc := 74) h4
  · skip
    refine s_aload_n (pc := 57) (i := 0) ?_ dX11_tells_57 rfl
    refine s_getf (pc := 58) (ci := 10) (f := 44) (T := TX11) ?_ ginX11 rfl (by decide) wt_1437 dX11_tells_58
    refine s_iload (pc := 61) (i := 4) ?_ dX11_tells_61
    refine s_iconst (pc := 63) (v := (-1)) ?_ dX11_tells_63 (by decide)
    refine s_iastore (pc := 64) ?_ dX11_tells_64
    refine s_iinc (pc := 65) (i := 4) (v := 1) ?_ dX11_tells_65 (by decide) (by decide)
    exact s_goto (pc := 68) (tgt := 51) h3 dX11_tells_68 (by decide)
theorem sbX11_tells_4 (g : GE) (J : Nat → KT) (h1 : Snd mX11_tells g 5 (J 1)) (h2 : Snd mX11_tells g 40 (J 2)) (h3 : Snd mX11_tells g 51 (J 3)) (h4 : Snd mX11_tells g 74 (J 4)) (h5 : Snd mX11_tells g 89 (J 5)) (h6 : Snd mX11_tells g 141 (J 6)) (h7 : Snd mX11_tells g 185 (J 7)) : Snd mX11_tells g 74 (bX11_tells_4 g J) := by
  unfold bX11_tells_4
  refine s_iload (pc := 74) (i := 4) ?_ dX11_tells_74
  refine s_aload_n (pc := 76) (i := 0) ?_ dX11_tells_76 rfl
  refine s_getf (pc := 77) (ci := 10) (f := 27) (T := TX11) ?_ ginX11 rfl (by decide) wt_1420 dX11_tells_77
  refine s_icge (pc := 80) (tgt := 200) ?_ ?_ dX11_tells_80 (by decide)
  · skip
    refine s_iconst (pc := 200) (v := 1) ?_ dX11_tells_200 (by decide)
    exact s_zreturn (pc := 201) rfl dX11_tells_201
  · skip
    refine s_iconst (pc := 83) (v := 0) ?_ dX11_tells_83 (by decide)
    refine s_istore (pc := 84) (i := 5) ?_ dX11_tells_84 (by decide)
    refine s_iconst (pc := 86) (v := 0) ?_ dX11_tells_86 (by decide)
    refine s_istore (pc := 87) (i := 6) ?_ dX11_tells_87 (by decide)
    exact s_fall (pc := 89) h5
theorem sbX11_tells_5 (g : GE) (J : Nat → KT) (h1 : Snd mX11_tells g 5 (J 1)) (h2 : Snd mX11_tells g 40 (J 2)) (h3 : Snd mX11_tells g 51 (J 3)) (h4 : Snd mX11_tells g 74 (J 4)) (h5 : Snd mX11_tells g 89 (J 5)) (h6 : Snd mX11_tells g 141 (J 6)) (h7 : Snd mX11_tells g 185 (J 7)) : Snd mX11_tells g 89 (bX11_tells_5 g J) := by
  unfold bX11_tells_5
  refine s_iload (pc := 89) (i := 6) ?_ dX11_tells_89
  refine s_aload_n (pc := 91) (i := 0) ?_ dX11_tells_91 rfl
  refine s_getf (pc := 92) (ci := 10) (f := 11) (T := TX11) ?_ ginX11 rfl (by decide) wt_1404 dX11_tells_92
  refine s_iconst (pc := 95) (v := 3) ?_ dX11_tells_95 (by decide)
  refine s_iaload (pc := 96) ?_ dX11_tells_96
  refine s_icge (pc := 97) (tgt := 149) ?_ ?_ dX11_tells_97 (by decide)
  · skip
    refine s_iconst (pc := 149) (v := 1) ?_ dX11_tells_149 (by decide)
    refine s_aload_n (pc := 150) (i := 0) ?_ dX11_tells_150 rfl
    refine s_iload (pc := 151) (i := 4) ?_ dX11_tells_151
    refine s_iload_n (pc := 153) (i := 2) ?_ dX11_tells_153 rfl
    refine s_cv (pc := 154) (n := 2) (ci := 10) ?_ tX11_goesBy rfl rfl wt_1716 wt_1718 wp_75 wt_17 wt_1719 ⟨crX11_goesBy, by decide, by decide⟩ dX11_tells_154
    refine s_iadd (pc := 157) ?_ dX11_tells_157
    refine s_istore (pc := 158) (i := 6) ?_ dX11_tells_158 (by decide)
    refine s_aload_n (pc := 160) (i := 0) ?_ dX11_tells_160 rfl
    refine s_getf (pc := 161) (ci := 10) (f := 44) (T := TX11) ?_ ginX11 rfl (by decide) wt_1437 dX11_tells_161
    refine s_iload (pc := 164) (i := 5) ?_ dX11_tells_164
    refine s_iaload (pc := 166) ?_ dX11_tells_166
    refine s_iconst (pc := 167) (v := (-1)) ?_ dX11_tells_167 (by decide)
    refine s_iceq (pc := 168) (tgt := 185) ?_ ?_ dX11_tells_168 (by decide)
    · skip
      exact s_fall (pc := 185) h7
    · skip
      refine s_aload_n (pc := 171) (i := 0) ?_ dX11_tells_171 rfl
      refine s_getf (pc := 172) (ci := 10) (f := 44) (T := TX11) ?_ ginX11 rfl (by decide) wt_1437 dX11_tells_172
      refine s_iload (pc := 175) (i := 5) ?_ dX11_tells_175
      refine s_iaload (pc := 177) ?_ dX11_tells_177
      refine s_iload (pc := 178) (i := 6) ?_ dX11_tells_178
      refine s_iceq (pc := 180) (tgt := 185) ?_ ?_ dX11_tells_180 (by decide)
      · skip
        exact s_fall (pc := 185) h7
      · skip
        refine s_iconst (pc := 183) (v := 0) ?_ dX11_tells_183 (by decide)
        exact s_zreturn (pc := 184) rfl dX11_tells_184
  · skip
    refine s_iload_n (pc := 100) (i := 1) ?_ dX11_tells_100 rfl
    refine s_iload (pc := 101) (i := 6) ?_ dX11_tells_101
    refine s_ishr (pc := 103) ?_ dX11_tells_103
    refine s_iconst (pc := 104) (v := 1) ?_ dX11_tells_104 (by decide)
    refine s_iand (pc := 105) ?_ dX11_tells_105
    refine s_iconst (pc := 106) (v := 1) ?_ dX11_tells_106 (by decide)
    refine s_icne (pc := 107) (tgt := 139) ?_ ?_ dX11_tells_107 (by decide)
    · skip
      refine s_iload (pc := 139) (i := 5) ?_ dX11_tells_139
      exact s_fall (pc := 141) h6
    · skip
      refine s_iload (pc := 110) (i := 5) ?_ dX11_tells_110
      refine s_aload_n (pc := 112) (i := 0) ?_ dX11_tells_112 rfl
      refine s_getf (pc := 113) (ci := 10) (f := 24) (T := TX11) ?_ ginX11 rfl (by decide) wt_1417 dX11_tells_113
      refine s_iload (pc := 116) (i := 6) ?_ dX11_tells_116
      refine s_aaload (pc := 118) (t := 4) ?_ (by decide) rfl dX11_tells_118
      refine s_iconst (pc := 119) (v := 2) ?_ dX11_tells_119 (by decide)
      refine s_iaload (pc := 120) ?_ dX11_tells_120
      refine s_imul (pc := 121) ?_ dX11_tells_121
      refine s_aload_n (pc := 122) (i := 0) ?_ dX11_tells_122 rfl
      refine s_aload_n (pc := 123) (i := 0) ?_ dX11_tells_123 rfl
      refine s_getf (pc := 124) (ci := 10) (f := 28) (T := TX11) ?_ ginX11 rfl (by decide) wt_1421 dX11_tells_124
      refine s_iload (pc := 127) (i := 4) ?_ dX11_tells_127
      refine s_iaload (pc := 129) ?_ dX11_tells_129
      refine s_iload (pc := 130) (i := 6) ?_ dX11_tells_130
      refine s_cv (pc := 132) (n := 2) (ci := 10) ?_ tX11_digit rfl rfl wt_1679 wt_1681 wp_70 wt_17 wt_1682 ⟨crX11_digit, by decide, by decide⟩ dX11_tells_132
      refine s_iadd (pc := 135) ?_ dX11_tells_135
      exact s_goto (pc := 136) (tgt := 141) h6 dX11_tells_136 (by decide)
theorem sbX11_tells_6 (g : GE) (J : Nat → KT) (h1 : Snd mX11_tells g 5 (J 1)) (h2 : Snd mX11_tells g 40 (J 2)) (h3 : Snd mX11_tells g 51 (J 3)) (h4 : Snd mX11_tells g 74 (J 4)) (h5 : Snd mX11_tells g 89 (J 5)) (h6 : Snd mX11_tells g 141 (J 6)) (h7 : Snd mX11_tells g 185 (J 7)) : Snd mX11_tells g 141 (bX11_tells_6 g J) := by
  unfold bX11_tells_6
  refine s_istore (pc := 141) (i := 5) ?_ dX11_tells_141 (by decide)
  refine s_iinc (pc := 143) (i := 6) (v := 1) ?_ dX11_tells_143 (by decide) (by decide)
  exact s_goto (pc := 146) (tgt := 89) h5 dX11_tells_146 (by decide)
theorem sbX11_tells_7 (g : GE) (J : Nat → KT) (h1 : Snd mX11_tells g 5 (J 1)) (h2 : Snd mX11_tells g 40 (J 2)) (h3 : Snd mX11_tells g 51 (J 3)) (h4 : Snd mX11_tells g 74 (J 4)) (h5 : Snd mX11_tells g 89 (J 5)) (h6 : Snd mX11_tells g 141 (J 6)) (h7 : Snd mX11_tells g 185 (J 7)) : Snd mX11_tells g 185 (bX11_tells_7 g J) := by
  unfold bX11_tells_7
  refine s_aload_n (pc := 185) (i := 0) ?_ dX11_tells_185 rfl
  refine s_getf (pc := 186) (ci := 10) (f := 44) (T := TX11) ?_ ginX11 rfl (by decide) wt_1437 dX11_tells_186
  refine s_iload (pc := 189) (i := 5) ?_ dX11_tells_189
  refine s_iload (pc := 191) (i := 6) ?_ dX11_tells_191
  refine s_iastore (pc := 193) ?_ dX11_tells_193
  refine s_iinc (pc := 194) (i := 4) (v := 1) ?_ dX11_tells_194 (by decide) (by decide)
  exact s_goto (pc := 197) (tgt := 74) h4 dX11_tells_197 (by decide)
def jX11_tells (g : GE) : Nat → Nat → KT
  | 0, _ => fun _ _ _ => none
  | n + 1, 0 => bX11_tells_0 g (jX11_tells g n)
  | n + 1, 1 => bX11_tells_1 g (jX11_tells g n)
  | n + 1, 2 => bX11_tells_2 g (jX11_tells g n)
  | n + 1, 3 => bX11_tells_3 g (jX11_tells g n)
  | n + 1, 4 => bX11_tells_4 g (jX11_tells g n)
  | n + 1, 5 => bX11_tells_5 g (jX11_tells g n)
  | n + 1, 6 => bX11_tells_6 g (jX11_tells g n)
  | n + 1, 7 => bX11_tells_7 g (jX11_tells g n)
  | _ + 1, _ + 8 => fun _ _ _ => none
theorem sjX11_tells (g : GE) : ∀ n, Snd mX11_tells g 0 (jX11_tells g n 0) ∧ Snd mX11_tells g 5 (jX11_tells g n 1) ∧ Snd mX11_tells g 40 (jX11_tells g n 2) ∧ Snd mX11_tells g 51 (jX11_tells g n 3) ∧ Snd mX11_tells g 74 (jX11_tells g n 4) ∧ Snd mX11_tells g 89 (jX11_tells g n 5) ∧ Snd mX11_tells g 141 (jX11_tells g n 6) ∧ Snd mX11_tells g 185 (jX11_tells g n 7)
  | 0 => ⟨s_none, s_none, s_none, s_none, s_none, s_none, s_none, s_none⟩
  | n + 1 => by
    obtain ⟨-, h1, h2, h3, h4, h5, h6, h7⟩ := sjX11_tells g n
    exact ⟨sbX11_tells_0 g _ h1 h2 h3 h4 h5 h6 h7, sbX11_tells_1 g _ h1 h2 h3 h4 h5 h6 h7, sbX11_tells_2 g _ h1 h2 h3 h4 h5 h6 h7, sbX11_tells_3 g _ h1 h2 h3 h4 h5 h6 h7, sbX11_tells_4 g _ h1 h2 h3 h4 h5 h6 h7, sbX11_tells_5 g _ h1 h2 h3 h4 h5 h6 h7, sbX11_tells_6 g _ h1 h2 h3 h4 h5 h6 h7, sbX11_tells_7 g _ h1 h2 h3 h4 h5 h6 h7⟩
def kX11_tells (g : GE) : KT := jX11_tells g g.1 0
theorem sX11_tells (g : GE) : Snd mX11_tells g 0 (kX11_tells g) := (sjX11_tells g g.1).1
def fX11_tells : FT := fun g av w => if (ent av).length ≤ 7 then kX11_tells g [] (entp 7 av) w else none
theorem tX11_tells : Mt yX11_tells cX11_tells 7 (some .boolean) 2 54 fX11_tells := Mt.of (K := kX11_tells) (by decide +kernel) (fun _ _ _ => rfl) sX11_tells
theorem crX11_tells : yX11_tells.cls ≠ "java/lang/invoke/MethodHandle" ∧ yX11_tells.cls ≠ "java/lang/invoke/VarHandle" ∧ (parseMethodDescriptor yX11_tells.desc).map (fun d => d.parameters.length) = some 2 := by decide +kernel
theorem dX11_fewest_0 : decode cX11_fewest 0 = .ok (.aload_n 0, 1) := by decide +kernel
theorem dX11_fewest_1 : decode cX11_fewest 1 = .ok (.iconst 0, 1) := by decide +kernel
theorem dX11_fewest_2 : decode cX11_fewest 2 = .ok (.putfield 120, 3) := by decide +kernel
theorem dX11_fewest_5 : decode cX11_fewest 5 = .ok (.aload_n 0, 1) := by decide +kernel
theorem dX11_fewest_6 : decode cX11_fewest 6 = .ok (.aload_n 0, 1) := by decide +kernel
theorem dX11_fewest_7 : decode cX11_fewest 7 = .ok (.iload_n 1, 1) := by decide +kernel
theorem dX11_fewest_8 : decode cX11_fewest 8 = .ok (.invokevirtual 282, 3) := by decide +kernel
theorem dX11_fewest_11 : decode cX11_fewest 11 = .ok (.ifCond .ne 7, 3) := by decide +kernel
theorem dX11_fewest_14 : decode cX11_fewest 14 = .ok (.iconst 1, 1) := by decide +kernel
theorem dX11_fewest_15 : decode cX11_fewest 15 = .ok (.goto 4, 3) := by decide +kernel
theorem dX11_fewest_18 : decode cX11_fewest 18 = .ok (.iconst 0, 1) := by decide +kernel
theorem dX11_fewest_19 : decode cX11_fewest 19 = .ok (.iconst 1, 1) := by decide +kernel
theorem dX11_fewest_20 : decode cX11_fewest 20 = .ok (.iconst 0, 1) := by decide +kernel
theorem dX11_fewest_21 : decode cX11_fewest 21 = .ok (.invokevirtual 215, 3) := by decide +kernel
theorem dX11_fewest_24 : decode cX11_fewest 24 = .ok (.ifCond .ne 26, 3) := by decide +kernel
theorem dX11_fewest_27 : decode cX11_fewest 27 = .ok (.aload_n 0, 1) := by decide +kernel
theorem dX11_fewest_28 : decode cX11_fewest 28 = .ok (.iload_n 2, 1) := by decide +kernel
theorem dX11_fewest_29 : decode cX11_fewest 29 = .ok (.iconst 0, 1) := by decide +kernel
theorem dX11_fewest_30 : decode cX11_fewest 30 = .ok (.iconst 1, 1) := by decide +kernel
theorem dX11_fewest_31 : decode cX11_fewest 31 = .ok (.invokestatic 154, 3) := by decide +kernel
theorem dX11_fewest_34 : decode cX11_fewest 34 = .ok (.ifCond .ne 7, 3) := by decide +kernel
theorem dX11_fewest_37 : decode cX11_fewest 37 = .ok (.iconst 1, 1) := by decide +kernel
theorem dX11_fewest_38 : decode cX11_fewest 38 = .ok (.goto 4, 3) := by decide +kernel
theorem dX11_fewest_41 : decode cX11_fewest 41 = .ok (.iconst 0, 1) := by decide +kernel
theorem dX11_fewest_42 : decode cX11_fewest 42 = .ok (.iconst 2, 1) := by decide +kernel
theorem dX11_fewest_43 : decode cX11_fewest 43 = .ok (.iconst 2, 1) := by decide +kernel
theorem dX11_fewest_44 : decode cX11_fewest 44 = .ok (.invokevirtual 215, 3) := by decide +kernel
theorem dX11_fewest_47 : decode cX11_fewest 47 = .ok (.ifCond .eq 5, 3) := by decide +kernel
theorem dX11_fewest_50 : decode cX11_fewest 50 = .ok (.iconst 0, 1) := by decide +kernel
theorem dX11_fewest_51 : decode cX11_fewest 51 = .ok (.ireturn, 1) := by decide +kernel
theorem dX11_fewest_52 : decode cX11_fewest 52 = .ok (.iconst 1, 1) := by decide +kernel
theorem dX11_fewest_53 : decode cX11_fewest 53 = .ok (.aload_n 0, 1) := by decide +kernel
theorem dX11_fewest_54 : decode cX11_fewest 54 = .ok (.getfield 23, 3) := by decide +kernel
theorem dX11_fewest_57 : decode cX11_fewest 57 = .ok (.iconst 3, 1) := by decide +kernel
theorem dX11_fewest_58 : decode cX11_fewest 58 = .ok (.iaload, 1) := by decide +kernel
theorem dX11_fewest_59 : decode cX11_fewest 59 = .ok (.ishl, 1) := by decide +kernel
theorem dX11_fewest_60 : decode cX11_fewest 60 = .ok (.iconst 1, 1) := by decide +kernel
theorem dX11_fewest_61 : decode cX11_fewest 61 = .ok (.isub, 1) := by decide +kernel
theorem dX11_fewest_62 : decode cX11_fewest 62 = .ok (.istore_n 3, 1) := by decide +kernel
theorem dX11_fewest_63 : decode cX11_fewest 63 = .ok (.iconst 0, 1) := by decide +kernel
theorem dX11_fewest_64 : decode cX11_fewest 64 = .ok (.istore 4, 2) := by decide +kernel
theorem dX11_fewest_66 : decode cX11_fewest 66 = .ok (.iload 4, 2) := by decide +kernel
theorem dX11_fewest_68 : decode cX11_fewest 68 = .ok (.iconst 1, 1) := by decide +kernel
theorem dX11_fewest_69 : decode cX11_fewest 69 = .ok (.aload_n 0, 1) := by decide +kernel
theorem dX11_fewest_70 : decode cX11_fewest 70 = .ok (.getfield 23, 3) := by decide +kernel
theorem dX11_fewest_73 : decode cX11_fewest 73 = .ok (.iconst 3, 1) := by decide +kernel
theorem dX11_fewest_74 : decode cX11_fewest 74 = .ok (.iaload, 1) := by decide +kernel
theorem dX11_fewest_75 : decode cX11_fewest 75 = .ok (.ishl, 1) := by decide +kernel
theorem dX11_fewest_76 : decode cX11_fewest 76 = .ok (.if_icmp .ge 52, 3) := by decide +kernel
theorem dX11_fewest_79 : decode cX11_fewest 79 = .ok (.iload 4, 2) := by decide +kernel
theorem dX11_fewest_81 : decode cX11_fewest 81 = .ok (.invokestatic 294, 3) := by decide +kernel
theorem dX11_fewest_84 : decode cX11_fewest 84 = .ok (.iload_n 3, 1) := by decide +kernel
theorem dX11_fewest_85 : decode cX11_fewest 85 = .ok (.invokestatic 294, 3) := by decide +kernel
theorem dX11_fewest_88 : decode cX11_fewest 88 = .ok (.if_icmp .lt 21, 3) := by decide +kernel
theorem dX11_fewest_91 : decode cX11_fewest 91 = .ok (.iload 4, 2) := by decide +kernel
theorem dX11_fewest_93 : decode cX11_fewest 93 = .ok (.invokestatic 294, 3) := by decide +kernel
theorem dX11_fewest_96 : decode cX11_fewest 96 = .ok (.iload_n 3, 1) := by decide +kernel
theorem dX11_fewest_97 : decode cX11_fewest 97 = .ok (.invokestatic 294, 3) := by decide +kernel
theorem dX11_fewest_100 : decode cX11_fewest 100 = .ok (.if_icmp .ne 22, 3) := by decide +kernel
theorem dX11_fewest_103 : decode cX11_fewest 103 = .ok (.iload 4, 2) := by decide +kernel
theorem dX11_fewest_105 : decode cX11_fewest 105 = .ok (.iload_n 3, 1) := by decide +kernel
theorem dX11_fewest_106 : decode cX11_fewest 106 = .ok (.if_icmp .ge 16, 3) := by decide +kernel
theorem dX11_fewest_109 : decode cX11_fewest 109 = .ok (.aload_n 0, 1) := by decide +kernel
theorem dX11_fewest_110 : decode cX11_fewest 110 = .ok (.iload 4, 2) := by decide +kernel
theorem dX11_fewest_112 : decode cX11_fewest 112 = .ok (.iload_n 1, 1) := by decide +kernel
theorem dX11_fewest_113 : decode cX11_fewest 113 = .ok (.invokevirtual 297, 3) := by decide +kernel
theorem dX11_fewest_116 : decode cX11_fewest 116 = .ok (.ifCond .eq 6, 3) := by decide +kernel
theorem dX11_fewest_119 : decode cX11_fewest 119 = .ok (.iload 4, 2) := by decide +kernel
theorem dX11_fewest_121 : decode cX11_fewest 121 = .ok (.istore_n 3, 1) := by decide +kernel
theorem dX11_fewest_122 : decode cX11_fewest 122 = .ok (.iinc 4 1, 3) := by decide +kernel
theorem dX11_fewest_125 : decode cX11_fewest 125 = .ok (.goto (-59), 3) := by decide +kernel
theorem dX11_fewest_128 : decode cX11_fewest 128 = .ok (.iload_n 2, 1) := by decide +kernel
theorem dX11_fewest_129 : decode cX11_fewest 129 = .ok (.ifCond .ne 10, 3) := by decide +kernel
theorem dX11_fewest_132 : decode cX11_fewest 132 = .ok (.iload_n 3, 1) := by decide +kernel
theorem dX11_fewest_133 : decode cX11_fewest 133 = .ok (.invokestatic 294, 3) := by decide +kernel
theorem dX11_fewest_136 : decode cX11_fewest 136 = .ok (.goto 4, 3) := by decide +kernel
theorem dX11_fewest_139 : decode cX11_fewest 139 = .ok (.iload_n 3, 1) := by decide +kernel
theorem dX11_fewest_140 : decode cX11_fewest 140 = .ok (.ireturn, 1) := by decide +kernel
abbrev mX11_fewest : MD := (cX11_fewest, "BlottedDeedModel", 5, 3, 80, (some .int), "fewest", [])
def bX11_fewest_0 (g : GE) (J : Nat → KT) : KT := i_aload 0 (i_push (.int 0) (i_putf 10 0 .int (i_aload 0 (i_aload 0 (i_iload 1 (i_cv fX11_isThing g 1 10 (i_ifne (i_push (.int 0) (i_jmp [true, true, true, false, false] (J 1))) (i_push (.int 1) (i_jmp [true, true, true, false, false] (J 1))))))))))
def bX11_fewest_1 (g : GE) (J : Nat → KT) : KT := i_push (.int 1) (i_push (.int 0) (i_cv fX11_bad g 3 10 (i_ifne (i_jmp [false, false, false, false, false] (J 3)) (i_aload 0 (i_iload 2 (i_push (.int 0) (i_push (.int 1) (i_cs fX11_in g 3 (i_ifne (i_push (.int 0) (i_jmp [true, true, true, false, false] (J 2))) (i_push (.int 1) (i_jmp [true, true, true, false, false] (J 2))))))))))))
def bX11_fewest_2 (g : GE) (J : Nat → KT) : KT := i_push (.int 2) (i_push (.int 2) (i_cv fX11_bad g 3 10 (i_ifeq (i_push (.int 1) (i_aload 0 (i_getf 10 11 (i_push (.int 3) (i_iaload (i_ishl (i_push (.int 1) (i_isub (i_istore 3 (i_push (.int 0) (i_istore 4 (i_jmp [true, true, true, true, true] (J 4))))))))))))) (i_jmp [false, false, false, false, false] (J 3)))))
def bX11_fewest_3 (g : GE) (J : Nat → KT) : KT := i_push (.int 0) (i_ireturn)
def bX11_fewest_4 (g : GE) (J : Nat → KT) : KT := i_iload 4 (i_push (.int 1) (i_aload 0 (i_getf 10 11 (i_push (.int 3) (i_iaload (i_ishl (i_icge (i_iload 2 (i_ifne (i_iload 3 (i_jmp [false, false, false, false, false] (J 7))) (i_iload 3 (i_cs fX11_ones g 1 (i_jmp [false, false, false, false, false] (J 7)))))) (i_iload 4 (i_cs fX11_ones g 1 (i_iload 3 (i_cs fX11_ones g 1 (i_iclt (i_jmp [true, true, true, true, true] (J 5)) (i_iload 4 (i_cs fX11_ones g 1 (i_iload 3 (i_cs fX11_ones g 1 (i_icne (i_jmp [true, true, true, true, true] (J 6)) (i_iload 4 (i_iload 3 (i_icge (i_jmp [true, true, true, true, true] (J 6)) (i_jmp [true, true, true, true, true] (J 5))))))))))))))))))))))
def bX11_fewest_5 (g : GE) (J : Nat → KT) : KT := i_aload 0 (i_iload 4 (i_iload 1 (i_cv fX11_tells g 2 10 (i_ifeq (i_jmp [true, true, true, true, true] (J 6)) (i_iload 4 (i_istore 3 (i_jmp [true, true, true, true, true] (J 6))))))))
def bX11_fewest_6 (g : GE) (J : Nat → KT) : KT := i_iinc 4 1 (i_jmp [true, true, true, true, true] (J 4))
def bX11_fewest_7 (g : GE) (J : Nat → KT) : KT := i_ireturn
theorem sbX11_fewest_0 (g : GE) (J : Nat → KT) (h1 : Snd mX11_fewest g 19 (J 1)) (h2 : Snd mX11_fewest g 42 (J 2)) (h3 : Snd mX11_fewest g 50 (J 3)) (h4 : Snd mX11_fewest g 66 (J 4)) (h5 : Snd mX11_fewest g 109 (J 5)) (h6 : Snd mX11_fewest g 122 (J 6)) (h7 : Snd mX11_fewest g 140 (J 7)) : Snd mX11_fewest g 0 (bX11_fewest_0 g J) := by
  unfold bX11_fewest_0
  refine s_aload_n (pc := 0) (i := 0) ?_ dX11_fewest_0 rfl
  refine s_iconst (pc := 1) (v := 0) ?_ dX11_fewest_1 (by decide)
  refine s_putf (pc := 2) (ci := 10) (f := 0) (T := TX11) (ty0 := tyX11) ?_ ginX11 tyX11_ok nmX11 rfl (by decide) rfl rfl wt_1393 dX11_fewest_2
  refine s_aload_n (pc := 5) (i := 0) ?_ dX11_fewest_5 rfl
  refine s_aload_n (pc := 6) (i := 0) ?_ dX11_fewest_6 rfl
  refine s_iload_n (pc := 7) (i := 1) ?_ dX11_fewest_7 rfl
  refine s_cv (pc := 8) (n := 1) (ci := 10) ?_ tX11_isThing rfl rfl wt_1724 wt_1726 wp_76 wt_17 wt_1727 ⟨crX11_isThing, by decide, by decide⟩ dX11_fewest_8
  refine s_ifne (pc := 11) (tgt := 18) ?_ ?_ dX11_fewest_11 (by decide)
  · skip
    refine s_iconst (pc := 18) (v := 0) ?_ dX11_fewest_18 (by decide)
    exact s_fall (pc := 19) h1
  · skip
    refine s_iconst (pc := 14) (v := 1) ?_ dX11_fewest_14 (by decide)
    exact s_goto (pc := 15) (tgt := 19) h1 dX11_fewest_15 (by decide)
theorem sbX11_fewest_1 (g : GE) (J : Nat → KT) (h1 : Snd mX11_fewest g 19 (J 1)) (h2 : Snd mX11_fewest g 42 (J 2)) (h3 : Snd mX11_fewest g 50 (J 3)) (h4 : Snd mX11_fewest g 66 (J 4)) (h5 : Snd mX11_fewest g 109 (J 5)) (h6 : Snd mX11_fewest g 122 (J 6)) (h7 : Snd mX11_fewest g 140 (J 7)) : Snd mX11_fewest g 19 (bX11_fewest_1 g J) := by
  unfold bX11_fewest_1
  refine s_iconst (pc := 19) (v := 1) ?_ dX11_fewest_19 (by decide)
  refine s_iconst (pc := 20) (v := 0) ?_ dX11_fewest_20 (by decide)
  refine s_cv (pc := 21) (n := 3) (ci := 10) ?_ tX11_bad rfl rfl wt_1560 wt_1562 wp_49 wt_17 wt_1563 ⟨crX11_bad, by decide, by decide⟩ dX11_fewest_21
  refine s_ifne (pc := 24) (tgt := 50) ?_ ?_ dX11_fewest_24 (by decide)
  · skip
    exact s_fall (pc := 50) h3
  · skip
    refine s_aload_n (pc := 27) (i := 0) ?_ dX11_fewest_27 rfl
    refine s_iload_n (pc := 28) (i := 2) ?_ dX11_fewest_28 rfl
    refine s_iconst (pc := 29) (v := 0) ?_ dX11_fewest_29 (by decide)
    refine s_iconst (pc := 30) (v := 1) ?_ dX11_fewest_30 (by decide)
    refine s_cs (pc := 31) (n := 3) ?_ tX11_in wt_1557 wt_1558 wt_17 wt_1559 ⟨crX11_in, by decide, by decide⟩ dX11_fewest_31
    refine s_ifne (pc := 34) (tgt := 41) ?_ ?_ dX11_fewest_34 (by decide)
    · skip
      refine s_iconst (pc := 41) (v := 0) ?_ dX11_fewest_41 (by decide)
      exact s_fall (pc := 42) h2
    · skip
      refine s_iconst (pc := 37) (v := 1) ?_ dX11_fewest_37 (by decide)
      exact s_goto (pc := 38) (tgt := 42) h2 dX11_fewest_38 (by decide)
theorem sbX11_fewest_2 (g : GE) (J : Nat → KT) (h1 : Snd mX11_fewest g 19 (J 1)) (h2 : Snd mX11_fewest g 42 (J 2)) (h3 : Snd mX11_fewest g 50 (J 3)) (h4 : Snd mX11_fewest g 66 (J 4)) (h5 : Snd mX11_fewest g 109 (J 5)) (h6 : Snd mX11_fewest g 122 (J 6)) (h7 : Snd mX11_fewest g 140 (J 7)) : Snd mX11_fewest g 42 (bX11_fewest_2 g J) := by
  unfold bX11_fewest_2
  refine s_iconst (pc := 42) (v := 2) ?_ dX11_fewest_42 (by decide)
  refine s_iconst (pc := 43) (v := 2) ?_ dX11_fewest_43 (by decide)
  refine s_cv (pc := 44) (n := 3) (ci := 10) ?_ tX11_bad rfl rfl wt_1560 wt_1562 wp_49 wt_17 wt_1563 ⟨crX11_bad, by decide, by decide⟩ dX11_fewest_44
  refine s_ifeq (pc := 47) (tgt := 52) ?_ ?_ dX11_fewest_47 (by decide)
  · skip
    refine s_iconst (pc := 52) (v := 1) ?_ dX11_fewest_52 (by decide)
    refine s_aload_n (pc := 53) (i := 0) ?_ dX11_fewest_53 rfl
    refine s_getf (pc := 54) (ci := 10) (f := 11) (T := TX11) ?_ ginX11 rfl (by decide) wt_1404 dX11_fewest_54
    refine s_iconst (pc := 57) (v := 3) ?_ dX11_fewest_57 (by decide)
    refine s_iaload (pc := 58) ?_ dX11_fewest_58
    refine s_ishl (pc := 59) ?_ dX11_fewest_59
    refine s_iconst (pc := 60) (v := 1) ?_ dX11_fewest_60 (by decide)
    refine s_isub (pc := 61) ?_ dX11_fewest_61
    refine s_istore_n (pc := 62) (i := 3) ?_ dX11_fewest_62 rfl (by decide)
    refine s_iconst (pc := 63) (v := 0) ?_ dX11_fewest_63 (by decide)
    refine s_istore (pc := 64) (i := 4) ?_ dX11_fewest_64 (by decide)
    exact s_fall (pc := 66) h4
  · skip
    exact s_fall (pc := 50) h3
theorem sbX11_fewest_3 (g : GE) (J : Nat → KT) (h1 : Snd mX11_fewest g 19 (J 1)) (h2 : Snd mX11_fewest g 42 (J 2)) (h3 : Snd mX11_fewest g 50 (J 3)) (h4 : Snd mX11_fewest g 66 (J 4)) (h5 : Snd mX11_fewest g 109 (J 5)) (h6 : Snd mX11_fewest g 122 (J 6)) (h7 : Snd mX11_fewest g 140 (J 7)) : Snd mX11_fewest g 50 (bX11_fewest_3 g J) := by
  unfold bX11_fewest_3
  refine s_iconst (pc := 50) (v := 0) ?_ dX11_fewest_50 (by decide)
  exact s_ireturn (pc := 51) rfl dX11_fewest_51
theorem sbX11_fewest_4 (g : GE) (J : Nat → KT) (h1 : Snd mX11_fewest g 19 (J 1)) (h2 : Snd mX11_fewest g 42 (J 2)) (h3 : Snd mX11_fewest g 50 (J 3)) (h4 : Snd mX11_fewest g 66 (J 4)) (h5 : Snd mX11_fewest g 109 (J 5)) (h6 : Snd mX11_fewest g 122 (J 6)) (h7 : Snd mX11_fewest g 140 (J 7)) : Snd mX11_fewest g 66 (bX11_fewest_4 g J) := by
  unfold bX11_fewest_4
  refine s_iload (pc := 66) (i := 4) ?_ dX11_fewest_66
  refine s_iconst (pc := 68) (v := 1) ?_ dX11_fewest_68 (by decide)
  refine s_aload_n (pc := 69) (i := 0) ?_ dX11_fewest_69 rfl
  refine s_getf (pc := 70) (ci := 10) (f := 11) (T := TX11) ?_ ginX11 rfl (by decide) wt_1404 dX11_fewest_70
  refine s_iconst (pc := 73) (v := 3) ?_ dX11_fewest_73 (by decide)
  refine s_iaload (pc := 74) ?_ dX11_fewest_74
  refine s_ishl (pc := 75) ?_ dX11_fewest_75
  refine s_icge (pc := 76) (tgt := 128) ?_ ?_ dX11_fewest_76 (by decide)
  · skip
    refine s_iload_n (pc := 128) (i := 2) ?_ dX11_fewest_128 rfl
    refine s_ifne (pc := 129) (tgt := 139) ?_ ?_ dX11_fewest_129 (by decide)
    · skip
      refine s_iload_n (pc := 139) (i := 3) ?_ dX11_fewest_139 rfl
      exact s_fall (pc := 140) h7
    · skip
      refine s_iload_n (pc := 132) (i := 3) ?_ dX11_fewest_132 rfl
      refine s_cs (pc := 133) (n := 1) ?_ tX11_ones wt_1768 wt_1769 wt_17 wt_1770 ⟨crX11_ones, by decide, by decide⟩ dX11_fewest_133
      exact s_goto (pc := 136) (tgt := 140) h7 dX11_fewest_136 (by decide)
  · skip
    refine s_iload (pc := 79) (i := 4) ?_ dX11_fewest_79
    refine s_cs (pc := 81) (n := 1) ?_ tX11_ones wt_1768 wt_1769 wt_17 wt_1770 ⟨crX11_ones, by decide, by decide⟩ dX11_fewest_81
    refine s_iload_n (pc := 84) (i := 3) ?_ dX11_fewest_84 rfl
    refine s_cs (pc := 85) (n := 1) ?_ tX11_ones wt_1768 wt_1769 wt_17 wt_1770 ⟨crX11_ones, by decide, by decide⟩ dX11_fewest_85
    refine s_iclt (pc := 88) (tgt := 109) ?_ ?_ dX11_fewest_88 (by decide)
    · skip
      exact s_fall (pc := 109) h5
    · skip
      refine s_iload (pc := 91) (i := 4) ?_ dX11_fewest_91
      refine s_cs (pc := 93) (n := 1) ?_ tX11_ones wt_1768 wt_1769 wt_17 wt_1770 ⟨crX11_ones, by decide, by decide⟩ dX11_fewest_93
      refine s_iload_n (pc := 96) (i := 3) ?_ dX11_fewest_96 rfl
      refine s_cs (pc := 97) (n := 1) ?_ tX11_ones wt_1768 wt_1769 wt_17 wt_1770 ⟨crX11_ones, by decide, by decide⟩ dX11_fewest_97
      refine s_icne (pc := 100) (tgt := 122) ?_ ?_ dX11_fewest_100 (by decide)
      · skip
        exact s_fall (pc := 122) h6
      · skip
        refine s_iload (pc := 103) (i := 4) ?_ dX11_fewest_103
        refine s_iload_n (pc := 105) (i := 3) ?_ dX11_fewest_105 rfl
        refine s_icge (pc := 106) (tgt := 122) ?_ ?_ dX11_fewest_106 (by decide)
        · skip
          exact s_fall (pc := 122) h6
        · skip
          exact s_fall (pc := 109) h5
theorem sbX11_fewest_5 (g : GE) (J : Nat → KT) (h1 : Snd mX11_fewest g 19 (J 1)) (h2 : Snd mX11_fewest g 42 (J 2)) (h3 : Snd mX11_fewest g 50 (J 3)) (h4 : Snd mX11_fewest g 66 (J 4)) (h5 : Snd mX11_fewest g 109 (J 5)) (h6 : Snd mX11_fewest g 122 (J 6)) (h7 : Snd mX11_fewest g 140 (J 7)) : Snd mX11_fewest g 109 (bX11_fewest_5 g J) := by
  unfold bX11_fewest_5
  refine s_aload_n (pc := 109) (i := 0) ?_ dX11_fewest_109 rfl
  refine s_iload (pc := 110) (i := 4) ?_ dX11_fewest_110
  refine s_iload_n (pc := 112) (i := 1) ?_ dX11_fewest_112 rfl
  refine s_cv (pc := 113) (n := 2) (ci := 10) ?_ tX11_tells rfl rfl wt_1771 wt_1773 wp_80 wt_17 wt_1774 ⟨crX11_tells, by decide, by decide⟩ dX11_fewest_113
  refine s_ifeq (pc := 116) (tgt := 122) ?_ ?_ dX11_fewest_116 (by decide)
  · skip
    exact s_fall (pc := 122) h6
  · skip
    refine s_iload (pc := 119) (i := 4) ?_ dX11_fewest_119
    refine s_istore_n (pc := 121) (i := 3) ?_ dX11_fewest_121 rfl (by decide)
    exact s_fall (pc := 122) h6
theorem sbX11_fewest_6 (g : GE) (J : Nat → KT) (h1 : Snd mX11_fewest g 19 (J 1)) (h2 : Snd mX11_fewest g 42 (J 2)) (h3 : Snd mX11_fewest g 50 (J 3)) (h4 : Snd mX11_fewest g 66 (J 4)) (h5 : Snd mX11_fewest g 109 (J 5)) (h6 : Snd mX11_fewest g 122 (J 6)) (h7 : Snd mX11_fewest g 140 (J 7)) : Snd mX11_fewest g 122 (bX11_fewest_6 g J) := by
  unfold bX11_fewest_6
  refine s_iinc (pc := 122) (i := 4) (v := 1) ?_ dX11_fewest_122 (by decide) (by decide)
  exact s_goto (pc := 125) (tgt := 66) h4 dX11_fewest_125 (by decide)
theorem sbX11_fewest_7 (g : GE) (J : Nat → KT) (h1 : Snd mX11_fewest g 19 (J 1)) (h2 : Snd mX11_fewest g 42 (J 2)) (h3 : Snd mX11_fewest g 50 (J 3)) (h4 : Snd mX11_fewest g 66 (J 4)) (h5 : Snd mX11_fewest g 109 (J 5)) (h6 : Snd mX11_fewest g 122 (J 6)) (h7 : Snd mX11_fewest g 140 (J 7)) : Snd mX11_fewest g 140 (bX11_fewest_7 g J) := by
  unfold bX11_fewest_7
  exact s_ireturn (pc := 140) rfl dX11_fewest_140
def jX11_fewest (g : GE) : Nat → Nat → KT
  | 0, _ => fun _ _ _ => none
  | n + 1, 0 => bX11_fewest_0 g (jX11_fewest g n)
  | n + 1, 1 => bX11_fewest_1 g (jX11_fewest g n)
  | n + 1, 2 => bX11_fewest_2 g (jX11_fewest g n)
  | n + 1, 3 => bX11_fewest_3 g (jX11_fewest g n)
  | n + 1, 4 => bX11_fewest_4 g (jX11_fewest g n)
  | n + 1, 5 => bX11_fewest_5 g (jX11_fewest g n)
  | n + 1, 6 => bX11_fewest_6 g (jX11_fewest g n)
  | n + 1, 7 => bX11_fewest_7 g (jX11_fewest g n)
  | _ + 1, _ + 8 => fun _ _ _ => none
theorem sjX11_fewest (g : GE) : ∀ n, Snd mX11_fewest g 0 (jX11_fewest g n 0) ∧ Snd mX11_fewest g 19 (jX11_fewest g n 1) ∧ Snd mX11_fewest g 42 (jX11_fewest g n 2) ∧ Snd mX11_fewest g 50 (jX11_fewest g n 3) ∧ Snd mX11_fewest g 66 (jX11_fewest g n 4) ∧ Snd mX11_fewest g 109 (jX11_fewest g n 5) ∧ Snd mX11_fewest g 122 (jX11_fewest g n 6) ∧ Snd mX11_fewest g 140 (jX11_fewest g n 7)
  | 0 => ⟨s_none, s_none, s_none, s_none, s_none, s_none, s_none, s_none⟩
  | n + 1 => by
    obtain ⟨-, h1, h2, h3, h4, h5, h6, h7⟩ := sjX11_fewest g n
    exact ⟨sbX11_fewest_0 g _ h1 h2 h3 h4 h5 h6 h7, sbX11_fewest_1 g _ h1 h2 h3 h4 h5 h6 h7, sbX11_fewest_2 g _ h1 h2 h3 h4 h5 h6 h7, sbX11_fewest_3 g _ h1 h2 h3 h4 h5 h6 h7, sbX11_fewest_4 g _ h1 h2 h3 h4 h5 h6 h7, sbX11_fewest_5 g _ h1 h2 h3 h4 h5 h6 h7, sbX11_fewest_6 g _ h1 h2 h3 h4 h5 h6 h7, sbX11_fewest_7 g _ h1 h2 h3 h4 h5 h6 h7⟩
def kX11_fewest (g : GE) : KT := jX11_fewest g g.1 0
theorem sX11_fewest (g : GE) : Snd mX11_fewest g 0 (kX11_fewest g) := (sjX11_fewest g g.1).1
def fX11_fewest : FT := fun g av w => if (ent av).length ≤ 5 then kX11_fewest g [] (entp 5 av) w else none
theorem tX11_fewest : Mt yX11_fewest cX11_fewest 5 (some .int) 3 80 fX11_fewest := Mt.of (K := kX11_fewest) (by decide +kernel) (fun _ _ _ => rfl) sX11_fewest
theorem crX11_fewest : yX11_fewest.cls ≠ "java/lang/invoke/MethodHandle" ∧ yX11_fewest.cls ≠ "java/lang/invoke/VarHandle" ∧ (parseMethodDescriptor yX11_fewest.desc).map (fun d => d.parameters.length) = some 2 := by decide +kernel
theorem dX11_forget_0 : decode cX11_forget 0 = .ok (.aload_n 0, 1) := by decide +kernel
theorem dX11_forget_1 : decode cX11_forget 1 = .ok (.iconst 0, 1) := by decide +kernel
theorem dX11_forget_2 : decode cX11_forget 2 = .ok (.putfield 120, 3) := by decide +kernel
theorem dX11_forget_5 : decode cX11_forget 5 = .ok (.aload_n 0, 1) := by decide +kernel
theorem dX11_forget_6 : decode cX11_forget 6 = .ok (.getfield 225, 3) := by decide +kernel
theorem dX11_forget_9 : decode cX11_forget 9 = .ok (.aload_n 0, 1) := by decide +kernel
theorem dX11_forget_10 : decode cX11_forget 10 = .ok (.getfield 228, 3) := by decide +kernel
theorem dX11_forget_13 : decode cX11_forget 13 = .ok (.iadd, 1) := by decide +kernel
theorem dX11_forget_14 : decode cX11_forget 14 = .ok (.istore_n 1, 1) := by decide +kernel
theorem dX11_forget_15 : decode cX11_forget 15 = .ok (.aload_n 0, 1) := by decide +kernel
theorem dX11_forget_16 : decode cX11_forget 16 = .ok (.iconst 0, 1) := by decide +kernel
theorem dX11_forget_17 : decode cX11_forget 17 = .ok (.putfield 225, 3) := by decide +kernel
theorem dX11_forget_20 : decode cX11_forget 20 = .ok (.aload_n 0, 1) := by decide +kernel
theorem dX11_forget_21 : decode cX11_forget 21 = .ok (.iconst 0, 1) := by decide +kernel
theorem dX11_forget_22 : decode cX11_forget 22 = .ok (.putfield 228, 3) := by decide +kernel
theorem dX11_forget_25 : decode cX11_forget 25 = .ok (.iload_n 1, 1) := by decide +kernel
theorem dX11_forget_26 : decode cX11_forget 26 = .ok (.ireturn, 1) := by decide +kernel
abbrev mX11_forget : MD := (cX11_forget, "BlottedDeedModel", 2, 1, 30, (some .int), "forget", [])
def bX11_forget_0 (g : GE) (J : Nat → KT) : KT := i_aload 0 (i_push (.int 0) (i_putf 10 0 .int (i_aload 0 (i_getf 10 32 (i_aload 0 (i_getf 10 33 (i_iadd (i_istore 1 (i_aload 0 (i_push (.int 0) (i_putf 10 32 .int (i_aload 0 (i_push (.int 0) (i_putf 10 33 .int (i_iload 1 (i_ireturn))))))))))))))))
theorem sbX11_forget_0 (g : GE) (J : Nat → KT)  : Snd mX11_forget g 0 (bX11_forget_0 g J) := by
  unfold bX11_forget_0
  refine s_aload_n (pc := 0) (i := 0) ?_ dX11_forget_0 rfl
  refine s_iconst (pc := 1) (v := 0) ?_ dX11_forget_1 (by decide)
  refine s_putf (pc := 2) (ci := 10) (f := 0) (T := TX11) (ty0 := tyX11) ?_ ginX11 tyX11_ok nmX11 rfl (by decide) rfl rfl wt_1393 dX11_forget_2
  refine s_aload_n (pc := 5) (i := 0) ?_ dX11_forget_5 rfl
  refine s_getf (pc := 6) (ci := 10) (f := 32) (T := TX11) ?_ ginX11 rfl (by decide) wt_1425 dX11_forget_6
  refine s_aload_n (pc := 9) (i := 0) ?_ dX11_forget_9 rfl
  refine s_getf (pc := 10) (ci := 10) (f := 33) (T := TX11) ?_ ginX11 rfl (by decide) wt_1426 dX11_forget_10
  refine s_iadd (pc := 13) ?_ dX11_forget_13
  refine s_istore_n (pc := 14) (i := 1) ?_ dX11_forget_14 rfl (by decide)
  refine s_aload_n (pc := 15) (i := 0) ?_ dX11_forget_15 rfl
  refine s_iconst (pc := 16) (v := 0) ?_ dX11_forget_16 (by decide)
  refine s_putf (pc := 17) (ci := 10) (f := 32) (T := TX11) (ty0 := tyX11) ?_ ginX11 tyX11_ok nmX11 rfl (by decide) rfl rfl wt_1425 dX11_forget_17
  refine s_aload_n (pc := 20) (i := 0) ?_ dX11_forget_20 rfl
  refine s_iconst (pc := 21) (v := 0) ?_ dX11_forget_21 (by decide)
  refine s_putf (pc := 22) (ci := 10) (f := 33) (T := TX11) (ty0 := tyX11) ?_ ginX11 tyX11_ok nmX11 rfl (by decide) rfl rfl wt_1426 dX11_forget_22
  refine s_iload_n (pc := 25) (i := 1) ?_ dX11_forget_25 rfl
  exact s_ireturn (pc := 26) rfl dX11_forget_26
def kX11_forget (g : GE) : KT := bX11_forget_0 g (fun _ _ _ _ => none)
theorem sX11_forget (g : GE) : Snd mX11_forget g 0 (kX11_forget g) := sbX11_forget_0 g _
def fX11_forget : FT := fun g av w => if (ent av).length ≤ 2 then kX11_forget g [] (entp 2 av) w else none
theorem tX11_forget : Mt yX11_forget cX11_forget 2 (some .int) 1 30 fX11_forget := Mt.of (K := kX11_forget) (by decide +kernel) (fun _ _ _ => rfl) sX11_forget
theorem crX11_forget : yX11_forget.cls ≠ "java/lang/invoke/MethodHandle" ∧ yX11_forget.cls ≠ "java/lang/invoke/VarHandle" ∧ (parseMethodDescriptor yX11_forget.desc).map (fun d => d.parameters.length) = some 0 := by decide +kernel
theorem dX11_worthBy_0 : decode cX11_worthBy 0 = .ok (.aload_n 0, 1) := by decide +kernel
theorem dX11_worthBy_1 : decode cX11_worthBy 1 = .ok (.iload_n 1, 1) := by decide +kernel
theorem dX11_worthBy_2 : decode cX11_worthBy 2 = .ok (.iload_n 2, 1) := by decide +kernel
theorem dX11_worthBy_3 : decode cX11_worthBy 3 = .ok (.invokevirtual 261, 3) := by decide +kernel
theorem dX11_worthBy_6 : decode cX11_worthBy 6 = .ok (.istore_n 3, 1) := by decide +kernel
theorem dX11_worthBy_7 : decode cX11_worthBy 7 = .ok (.iconst 0, 1) := by decide +kernel
theorem dX11_worthBy_8 : decode cX11_worthBy 8 = .ok (.istore 4, 2) := by decide +kernel
theorem dX11_worthBy_10 : decode cX11_worthBy 10 = .ok (.iload 4, 2) := by decide +kernel
theorem dX11_worthBy_12 : decode cX11_worthBy 12 = .ok (.aload_n 0, 1) := by decide +kernel
theorem dX11_worthBy_13 : decode cX11_worthBy 13 = .ok (.getfield 23, 3) := by decide +kernel
theorem dX11_worthBy_16 : decode cX11_worthBy 16 = .ok (.iconst 1, 1) := by decide +kernel
theorem dX11_worthBy_17 : decode cX11_worthBy 17 = .ok (.iaload, 1) := by decide +kernel
theorem dX11_worthBy_18 : decode cX11_worthBy 18 = .ok (.if_icmp .ge 34, 3) := by decide +kernel
theorem dX11_worthBy_21 : decode cX11_worthBy 21 = .ok (.iload_n 3, 1) := by decide +kernel
theorem dX11_worthBy_22 : decode cX11_worthBy 22 = .ok (.aload_n 0, 1) := by decide +kernel
theorem dX11_worthBy_23 : decode cX11_worthBy 23 = .ok (.iload_n 1, 1) := by decide +kernel
theorem dX11_worthBy_24 : decode cX11_worthBy 24 = .ok (.iload 4, 2) := by decide +kernel
theorem dX11_worthBy_26 : decode cX11_worthBy 26 = .ok (.invokevirtual 264, 3) := by decide +kernel
theorem dX11_worthBy_29 : decode cX11_worthBy 29 = .ok (.iload_n 2, 1) := by decide +kernel
theorem dX11_worthBy_30 : decode cX11_worthBy 30 = .ok (.if_icmp .ne 13, 3) := by decide +kernel
theorem dX11_worthBy_33 : decode cX11_worthBy 33 = .ok (.aload_n 0, 1) := by decide +kernel
theorem dX11_worthBy_34 : decode cX11_worthBy 34 = .ok (.getfield 35, 3) := by decide +kernel
theorem dX11_worthBy_37 : decode cX11_worthBy 37 = .ok (.iload 4, 2) := by decide +kernel
theorem dX11_worthBy_39 : decode cX11_worthBy 39 = .ok (.iaload, 1) := by decide +kernel
theorem dX11_worthBy_40 : decode cX11_worthBy 40 = .ok (.goto 4, 3) := by decide +kernel
theorem dX11_worthBy_43 : decode cX11_worthBy 43 = .ok (.iconst 0, 1) := by decide +kernel
theorem dX11_worthBy_44 : decode cX11_worthBy 44 = .ok (.iadd, 1) := by decide +kernel
theorem dX11_worthBy_45 : decode cX11_worthBy 45 = .ok (.istore_n 3, 1) := by decide +kernel
theorem dX11_worthBy_46 : decode cX11_worthBy 46 = .ok (.iinc 4 1, 3) := by decide +kernel
theorem dX11_worthBy_49 : decode cX11_worthBy 49 = .ok (.goto (-39), 3) := by decide +kernel
theorem dX11_worthBy_52 : decode cX11_worthBy 52 = .ok (.iload_n 3, 1) := by decide +kernel
theorem dX11_worthBy_53 : decode cX11_worthBy 53 = .ok (.ireturn, 1) := by decide +kernel
abbrev mX11_worthBy : MD := (cX11_worthBy, "BlottedDeedModel", 5, 2, 52, (some .int), "worthBy", [])
def bX11_worthBy_0 (g : GE) (J : Nat → KT) : KT := i_aload 0 (i_iload 1 (i_iload 2 (i_cv fX11_coinBy g 2 10 (i_istore 3 (i_push (.int 0) (i_istore 4 (i_jmp [true, true, true, true, true] (J 1))))))))
def bX11_worthBy_1 (g : GE) (J : Nat → KT) : KT := i_iload 4 (i_aload 0 (i_getf 10 11 (i_push (.int 1) (i_iaload (i_icge (i_iload 3 (i_ireturn)) (i_iload 3 (i_aload 0 (i_iload 1 (i_iload 4 (i_cv fX11_goesBy g 2 10 (i_iload 2 (i_icne (i_push (.int 0) (i_jmp [true, true, true, false, true] (J 2))) (i_aload 0 (i_getf 10 15 (i_iload 4 (i_iaload (i_jmp [true, true, true, false, true] (J 2))))))))))))))))))
def bX11_worthBy_2 (g : GE) (J : Nat → KT) : KT := i_iadd (i_istore 3 (i_iinc 4 1 (i_jmp [true, true, true, true, true] (J 1))))
theorem sbX11_worthBy_0 (g : GE) (J : Nat → KT) (h1 : Snd mX11_worthBy g 10 (J 1)) (h2 : Snd mX11_worthBy g 44 (J 2)) : Snd mX11_worthBy g 0 (bX11_worthBy_0 g J) := by
  unfold bX11_worthBy_0
  refine s_aload_n (pc := 0) (i := 0) ?_ dX11_worthBy_0 rfl
  refine s_iload_n (pc := 1) (i := 1) ?_ dX11_worthBy_1 rfl
  refine s_iload_n (pc := 2) (i := 2) ?_ dX11_worthBy_2 rfl
  refine s_cv (pc := 3) (n := 2) (ci := 10) ?_ tX11_coinBy rfl rfl wt_1707 wt_1709 wp_73 wt_17 wt_1710 ⟨crX11_coinBy, by decide, by decide⟩ dX11_worthBy_3
  refine s_istore_n (pc := 6) (i := 3) ?_ dX11_worthBy_6 rfl (by decide)
  refine s_iconst (pc := 7) (v := 0) ?_ dX11_worthBy_7 (by decide)
  refine s_istore (pc := 8) (i := 4) ?_ dX11_worthBy_8 (by decide)
  exact s_fall (pc := 10) h1
theorem sbX11_worthBy_1 (g : GE) (J : Nat → KT) (h1 : Snd mX11_worthBy g 10 (J 1)) (h2 : Snd mX11_worthBy g 44 (J 2)) : Snd mX11_worthBy g 10 (bX11_worthBy_1 g J) := by
  unfold bX11_worthBy_1
  refine s_iload (pc := 10) (i := 4) ?_ dX11_worthBy_10
  refine s_aload_n (pc := 12) (i := 0) ?_ dX11_worthBy_12 rfl
  refine s_getf (pc := 13) (ci := 10) (f := 11) (T := TX11) ?_ ginX11 rfl (by decide) wt_1404 dX11_worthBy_13
  refine s_iconst (pc := 16) (v := 1) ?_ dX11_worthBy_16 (by decide)
  refine s_iaload (pc := 17) ?_ dX11_worthBy_17
  refine s_icge (pc := 18) (tgt := 52) ?_ ?_ dX11_worthBy_18 (by decide)
  · skip
    refine s_iload_n (pc := 52) (i := 3) ?_ dX11_worthBy_52 rfl
    exact s_ireturn (pc := 53) rfl dX11_worthBy_53
  · skip
    refine s_iload_n (pc := 21) (i := 3) ?_ dX11_worthBy_21 rfl
    refine s_aload_n (pc := 22) (i := 0) ?_ dX11_worthBy_22 rfl
    refine s_iload_n (pc := 23) (i := 1) ?_ dX11_worthBy_23 rfl
    refine s_iload (pc := 24) (i := 4) ?_ dX11_worthBy_24
    refine s_cv (pc := 26) (n := 2) (ci := 10) ?_ tX11_goesBy rfl rfl wt_1716 wt_1718 wp_75 wt_17 wt_1719 ⟨crX11_goesBy, by decide, by decide⟩ dX11_worthBy_26
    refine s_iload_n (pc := 29) (i := 2) ?_ dX11_worthBy_29 rfl
    refine s_icne (pc := 30) (tgt := 43) ?_ ?_ dX11_worthBy_30 (by decide)
    · skip
      refine s_iconst (pc := 43) (v := 0) ?_ dX11_worthBy_43 (by decide)
      exact s_fall (pc := 44) h2
    · skip
      refine s_aload_n (pc := 33) (i := 0) ?_ dX11_worthBy_33 rfl
      refine s_getf (pc := 34) (ci := 10) (f := 15) (T := TX11) ?_ ginX11 rfl (by decide) wt_1408 dX11_worthBy_34
      refine s_iload (pc := 37) (i := 4) ?_ dX11_worthBy_37
      refine s_iaload (pc := 39) ?_ dX11_worthBy_39
      exact s_goto (pc := 40) (tgt := 44) h2 dX11_worthBy_40 (by decide)
theorem sbX11_worthBy_2 (g : GE) (J : Nat → KT) (h1 : Snd mX11_worthBy g 10 (J 1)) (h2 : Snd mX11_worthBy g 44 (J 2)) : Snd mX11_worthBy g 44 (bX11_worthBy_2 g J) := by
  unfold bX11_worthBy_2
  refine s_iadd (pc := 44) ?_ dX11_worthBy_44
  refine s_istore_n (pc := 45) (i := 3) ?_ dX11_worthBy_45 rfl (by decide)
  refine s_iinc (pc := 46) (i := 4) (v := 1) ?_ dX11_worthBy_46 (by decide) (by decide)
  exact s_goto (pc := 49) (tgt := 10) h1 dX11_worthBy_49 (by decide)
def jX11_worthBy (g : GE) : Nat → Nat → KT
  | 0, _ => fun _ _ _ => none
  | n + 1, 0 => bX11_worthBy_0 g (jX11_worthBy g n)
  | n + 1, 1 => bX11_worthBy_1 g (jX11_worthBy g n)
  | n + 1, 2 => bX11_worthBy_2 g (jX11_worthBy g n)
  | _ + 1, _ + 3 => fun _ _ _ => none
theorem sjX11_worthBy (g : GE) : ∀ n, Snd mX11_worthBy g 0 (jX11_worthBy g n 0) ∧ Snd mX11_worthBy g 10 (jX11_worthBy g n 1) ∧ Snd mX11_worthBy g 44 (jX11_worthBy g n 2)
  | 0 => ⟨s_none, s_none, s_none⟩
  | n + 1 => by
    obtain ⟨-, h1, h2⟩ := sjX11_worthBy g n
    exact ⟨sbX11_worthBy_0 g _ h1 h2, sbX11_worthBy_1 g _ h1 h2, sbX11_worthBy_2 g _ h1 h2⟩
def kX11_worthBy (g : GE) : KT := jX11_worthBy g g.1 0
theorem sX11_worthBy (g : GE) : Snd mX11_worthBy g 0 (kX11_worthBy g) := (sjX11_worthBy g g.1).1
def fX11_worthBy : FT := fun g av w => if (ent av).length ≤ 5 then kX11_worthBy g [] (entp 5 av) w else none
theorem tX11_worthBy : Mt yX11_worthBy cX11_worthBy 5 (some .int) 2 52 fX11_worthBy := Mt.of (K := kX11_worthBy) (by decide +kernel) (fun _ _ _ => rfl) sX11_worthBy
theorem crX11_worthBy : yX11_worthBy.cls ≠ "java/lang/invoke/MethodHandle" ∧ yX11_worthBy.cls ≠ "java/lang/invoke/VarHandle" ∧ (parseMethodDescriptor yX11_worthBy.desc).map (fun d => d.parameters.length) = some 2 := by decide +kernel
theorem dX11_worthAt_0 : decode cX11_worthAt 0 = .ok (.iconst (-1), 1) := by decide +kernel
theorem dX11_worthAt_1 : decode cX11_worthAt 1 = .ok (.istore_n 3, 1) := by decide +kernel
theorem dX11_worthAt_2 : decode cX11_worthAt 2 = .ok (.iconst 0, 1) := by decide +kernel
theorem dX11_worthAt_3 : decode cX11_worthAt 3 = .ok (.istore 4, 2) := by decide +kernel
theorem dX11_worthAt_5 : decode cX11_worthAt 5 = .ok (.iload 4, 2) := by decide +kernel
theorem dX11_worthAt_7 : decode cX11_worthAt 7 = .ok (.aload_n 0, 1) := by decide +kernel
theorem dX11_worthAt_8 : decode cX11_worthAt 8 = .ok (.getfield 244, 3) := by decide +kernel
theorem dX11_worthAt_11 : decode cX11_worthAt 11 = .ok (.if_icmp .ge 56, 3) := by decide +kernel
theorem dX11_worthAt_14 : decode cX11_worthAt 14 = .ok (.iload_n 3, 1) := by decide +kernel
theorem dX11_worthAt_15 : decode cX11_worthAt 15 = .ok (.iconst (-1), 1) := by decide +kernel
theorem dX11_worthAt_16 : decode cX11_worthAt 16 = .ok (.if_icmp .eq 42, 3) := by decide +kernel
theorem dX11_worthAt_19 : decode cX11_worthAt 19 = .ok (.iload_n 2, 1) := by decide +kernel
theorem dX11_worthAt_20 : decode cX11_worthAt 20 = .ok (.ifCond .ne 22, 3) := by decide +kernel
theorem dX11_worthAt_23 : decode cX11_worthAt 23 = .ok (.aload_n 0, 1) := by decide +kernel
theorem dX11_worthAt_24 : decode cX11_worthAt 24 = .ok (.iload 4, 2) := by decide +kernel
theorem dX11_worthAt_26 : decode cX11_worthAt 26 = .ok (.iload_n 1, 1) := by decide +kernel
theorem dX11_worthAt_27 : decode cX11_worthAt 27 = .ok (.invokevirtual 279, 3) := by decide +kernel
theorem dX11_worthAt_30 : decode cX11_worthAt 30 = .ok (.aload_n 0, 1) := by decide +kernel
theorem dX11_worthAt_31 : decode cX11_worthAt 31 = .ok (.iload_n 3, 1) := by decide +kernel
theorem dX11_worthAt_32 : decode cX11_worthAt 32 = .ok (.iload_n 1, 1) := by decide +kernel
theorem dX11_worthAt_33 : decode cX11_worthAt 33 = .ok (.invokevirtual 279, 3) := by decide +kernel
theorem dX11_worthAt_36 : decode cX11_worthAt 36 = .ok (.if_icmp .le 25, 3) := by decide +kernel
theorem dX11_worthAt_39 : decode cX11_worthAt 39 = .ok (.goto 19, 3) := by decide +kernel
theorem dX11_worthAt_42 : decode cX11_worthAt 42 = .ok (.aload_n 0, 1) := by decide +kernel
theorem dX11_worthAt_43 : decode cX11_worthAt 43 = .ok (.iload 4, 2) := by decide +kernel
theorem dX11_worthAt_45 : decode cX11_worthAt 45 = .ok (.iload_n 1, 1) := by decide +kernel
theorem dX11_worthAt_46 : decode cX11_worthAt 46 = .ok (.invokevirtual 279, 3) := by decide +kernel
theorem dX11_worthAt_49 : decode cX11_worthAt 49 = .ok (.aload_n 0, 1) := by decide +kernel
theorem dX11_worthAt_50 : decode cX11_worthAt 50 = .ok (.iload_n 3, 1) := by decide +kernel
theorem dX11_worthAt_51 : decode cX11_worthAt 51 = .ok (.iload_n 1, 1) := by decide +kernel
theorem dX11_worthAt_52 : decode cX11_worthAt 52 = .ok (.invokevirtual 279, 3) := by decide +kernel
theorem dX11_worthAt_55 : decode cX11_worthAt 55 = .ok (.if_icmp .ge 6, 3) := by decide +kernel
theorem dX11_worthAt_58 : decode cX11_worthAt 58 = .ok (.iload 4, 2) := by decide +kernel
theorem dX11_worthAt_60 : decode cX11_worthAt 60 = .ok (.istore_n 3, 1) := by decide +kernel
theorem dX11_worthAt_61 : decode cX11_worthAt 61 = .ok (.iinc 4 1, 3) := by decide +kernel
theorem dX11_worthAt_64 : decode cX11_worthAt 64 = .ok (.goto (-59), 3) := by decide +kernel
theorem dX11_worthAt_67 : decode cX11_worthAt 67 = .ok (.iload_n 3, 1) := by decide +kernel
theorem dX11_worthAt_68 : decode cX11_worthAt 68 = .ok (.ireturn, 1) := by decide +kernel
abbrev mX11_worthAt : MD := (cX11_worthAt, "BlottedDeedModel", 5, 3, 76, (some .int), "worthAt", [])
def bX11_worthAt_0 (g : GE) (J : Nat → KT) : KT := i_push (.int (-1)) (i_istore 3 (i_push (.int 0) (i_istore 4 (i_jmp [true, true, true, true, true] (J 1)))))
def bX11_worthAt_1 (g : GE) (J : Nat → KT) : KT := i_iload 4 (i_aload 0 (i_getf 10 27 (i_icge (i_iload 3 (i_ireturn)) (i_iload 3 (i_push (.int (-1)) (i_iceq (i_jmp [true, true, true, false, true] (J 2)) (i_iload 2 (i_ifne (i_aload 0 (i_iload 4 (i_iload 1 (i_cv fX11_worthBy g 2 10 (i_aload 0 (i_iload 3 (i_iload 1 (i_cv fX11_worthBy g 2 10 (i_icge (i_jmp [true, true, true, true, true] (J 3)) (i_jmp [true, true, true, false, true] (J 2))))))))))) (i_aload 0 (i_iload 4 (i_iload 1 (i_cv fX11_worthBy g 2 10 (i_aload 0 (i_iload 3 (i_iload 1 (i_cv fX11_worthBy g 2 10 (i_icle (i_jmp [true, true, true, true, true] (J 3)) (i_jmp [true, true, true, false, true] (J 2)))))))))))))))))))
def bX11_worthAt_2 (g : GE) (J : Nat → KT) : KT := i_iload 4 (i_istore 3 (i_jmp [true, true, true, true, true] (J 3)))
def bX11_worthAt_3 (g : GE) (J : Nat → KT) : KT := i_iinc 4 1 (i_jmp [true, true, true, true, true] (J 1))
theorem sbX11_worthAt_0 (g : GE) (J : Nat → KT) (h1 : Snd mX11_worthAt g 5 (J 1)) (h2 : Snd mX11_worthAt g 58 (J 2)) (h3 : Snd mX11_worthAt g 61 (J 3)) : Snd mX11_worthAt g 0 (bX11_worthAt_0 g J) := by
  unfold bX11_worthAt_0
  refine s_iconst (pc := 0) (v := (-1)) ?_ dX11_worthAt_0 (by decide)
  refine s_istore_n (pc := 1) (i := 3) ?_ dX11_worthAt_1 rfl (by decide)
  refine s_iconst (pc := 2) (v := 0) ?_ dX11_worthAt_2 (by decide)
  refine s_istore (pc := 3) (i := 4) ?_ dX11_worthAt_3 (by decide)
  exact s_fall (pc := 5) h1
theorem sbX11_worthAt_1 (g : GE) (J : Nat → KT) (h1 : Snd mX11_worthAt g 5 (J 1)) (h2 : Snd mX11_worthAt g 58 (J 2)) (h3 : Snd mX11_worthAt g 61 (J 3)) : Snd mX11_worthAt g 5 (bX11_worthAt_1 g J) := by
  unfold bX11_worthAt_1
  refine s_iload (pc := 5) (i := 4) ?_ dX11_worthAt_5
  refine s_aload_n (pc := 7) (i := 0) ?_ dX11_worthAt_7 rfl
  refine s_getf (pc := 8) (ci := 10) (f := 27) (T := TX11) ?_ ginX11 rfl (by decide) wt_1420 dX11_worthAt_8
  refine s_icge (pc := 11) (tgt := 67) ?_ ?_ dX11_worthAt_11 (by decide)
  · skip
    refine s_iload_n (pc := 67) (i := 3) ?_ dX11_worthAt_67 rfl
    exact s_ireturn (pc := 68) rfl dX11_worthAt_68
  · skip
    refine s_iload_n (pc := 14) (i := 3) ?_ dX11_worthAt_14 rfl
    refine s_iconst (pc := 15) (v := (-1)) ?_ dX11_worthAt_15 (by decide)
    refine s_iceq (pc := 16) (tgt := 58) ?_ ?_ dX11_worthAt_16 (by decide)
    · skip
      exact s_fall (pc := 58) h2
    · skip
      refine s_iload_n (pc := 19) (i := 2) ?_ dX11_worthAt_19 rfl
      refine s_ifne (pc := 20) (tgt := 42) ?_ ?_ dX11_worthAt_20 (by decide)
      · skip
        refine s_aload_n (pc := 42) (i := 0) ?_ dX11_worthAt_42 rfl
        refine s_iload (pc := 43) (i := 4) ?_ dX11_worthAt_43
        refine s_iload_n (pc := 45) (i := 1) ?_ dX11_worthAt_45 rfl
        refine s_cv (pc := 46) (n := 2) (ci := 10) ?_ tX11_worthBy rfl rfl wt_1712 wt_1714 wp_74 wt_17 wt_1715 ⟨crX11_worthBy, by decide, by decide⟩ dX11_worthAt_46
        refine s_aload_n (pc := 49) (i := 0) ?_ dX11_worthAt_49 rfl
        refine s_iload_n (pc := 50) (i := 3) ?_ dX11_worthAt_50 rfl
        refine s_iload_n (pc := 51) (i := 1) ?_ dX11_worthAt_51 rfl
        refine s_cv (pc := 52) (n := 2) (ci := 10) ?_ tX11_worthBy rfl rfl wt_1712 wt_1714 wp_74 wt_17 wt_1715 ⟨crX11_worthBy, by decide, by decide⟩ dX11_worthAt_52
        refine s_icge (pc := 55) (tgt := 61) ?_ ?_ dX11_worthAt_55 (by decide)
        · skip
          exact s_fall (pc := 61) h3
        · skip
          exact s_fall (pc := 58) h2
      · skip
        refine s_aload_n (pc := 23) (i := 0) ?_ dX11_worthAt_23 rfl
        refine s_iload (pc := 24) (i := 4) ?_ dX11_worthAt_24
        refine s_iload_n (pc := 26) (i := 1) ?_ dX11_worthAt_26 rfl
        refine s_cv (pc := 27) (n := 2) (ci := 10) ?_ tX11_worthBy rfl rfl wt_1712 wt_1714 wp_74 wt_17 wt_1715 ⟨crX11_worthBy, by decide, by decide⟩ dX11_worthAt_27
        refine s_aload_n (pc := 30) (i := 0) ?_ dX11_worthAt_30 rfl
        refine s_iload_n (pc := 31) (i := 3) ?_ dX11_worthAt_31 rfl
        refine s_iload_n (pc := 32) (i := 1) ?_ dX11_worthAt_32 rfl
        refine s_cv (pc := 33) (n := 2) (ci := 10) ?_ tX11_worthBy rfl rfl wt_1712 wt_1714 wp_74 wt_17 wt_1715 ⟨crX11_worthBy, by decide, by decide⟩ dX11_worthAt_33
        refine s_icle (pc := 36) (tgt := 61) ?_ ?_ dX11_worthAt_36 (by decide)
        · skip
          exact s_fall (pc := 61) h3
        · skip
          exact s_goto (pc := 39) (tgt := 58) h2 dX11_worthAt_39 (by decide)
theorem sbX11_worthAt_2 (g : GE) (J : Nat → KT) (h1 : Snd mX11_worthAt g 5 (J 1)) (h2 : Snd mX11_worthAt g 58 (J 2)) (h3 : Snd mX11_worthAt g 61 (J 3)) : Snd mX11_worthAt g 58 (bX11_worthAt_2 g J) := by
  unfold bX11_worthAt_2
  refine s_iload (pc := 58) (i := 4) ?_ dX11_worthAt_58
  refine s_istore_n (pc := 60) (i := 3) ?_ dX11_worthAt_60 rfl (by decide)
  exact s_fall (pc := 61) h3
theorem sbX11_worthAt_3 (g : GE) (J : Nat → KT) (h1 : Snd mX11_worthAt g 5 (J 1)) (h2 : Snd mX11_worthAt g 58 (J 2)) (h3 : Snd mX11_worthAt g 61 (J 3)) : Snd mX11_worthAt g 61 (bX11_worthAt_3 g J) := by
  unfold bX11_worthAt_3
  refine s_iinc (pc := 61) (i := 4) (v := 1) ?_ dX11_worthAt_61 (by decide) (by decide)
  exact s_goto (pc := 64) (tgt := 5) h1 dX11_worthAt_64 (by decide)
def jX11_worthAt (g : GE) : Nat → Nat → KT
  | 0, _ => fun _ _ _ => none
  | n + 1, 0 => bX11_worthAt_0 g (jX11_worthAt g n)
  | n + 1, 1 => bX11_worthAt_1 g (jX11_worthAt g n)
  | n + 1, 2 => bX11_worthAt_2 g (jX11_worthAt g n)
  | n + 1, 3 => bX11_worthAt_3 g (jX11_worthAt g n)
  | _ + 1, _ + 4 => fun _ _ _ => none
theorem sjX11_worthAt (g : GE) : ∀ n, Snd mX11_worthAt g 0 (jX11_worthAt g n 0) ∧ Snd mX11_worthAt g 5 (jX11_worthAt g n 1) ∧ Snd mX11_worthAt g 58 (jX11_worthAt g n 2) ∧ Snd mX11_worthAt g 61 (jX11_worthAt g n 3)
  | 0 => ⟨s_none, s_none, s_none, s_none⟩
  | n + 1 => by
    obtain ⟨-, h1, h2, h3⟩ := sjX11_worthAt g n
    exact ⟨sbX11_worthAt_0 g _ h1 h2 h3, sbX11_worthAt_1 g _ h1 h2 h3, sbX11_worthAt_2 g _ h1 h2 h3, sbX11_worthAt_3 g _ h1 h2 h3⟩
def kX11_worthAt (g : GE) : KT := jX11_worthAt g g.1 0
theorem sX11_worthAt (g : GE) : Snd mX11_worthAt g 0 (kX11_worthAt g) := (sjX11_worthAt g g.1).1
def fX11_worthAt : FT := fun g av w => if (ent av).length ≤ 5 then kX11_worthAt g [] (entp 5 av) w else none
theorem tX11_worthAt : Mt yX11_worthAt cX11_worthAt 5 (some .int) 3 76 fX11_worthAt := Mt.of (K := kX11_worthAt) (by decide +kernel) (fun _ _ _ => rfl) sX11_worthAt
theorem crX11_worthAt : yX11_worthAt.cls ≠ "java/lang/invoke/MethodHandle" ∧ yX11_worthAt.cls ≠ "java/lang/invoke/VarHandle" ∧ (parseMethodDescriptor yX11_worthAt.desc).map (fun d => d.parameters.length) = some 2 := by decide +kernel
theorem dX11_gains_0 : decode cX11_gains 0 = .ok (.aload_n 0, 1) := by decide +kernel
theorem dX11_gains_1 : decode cX11_gains 1 = .ok (.iconst 0, 1) := by decide +kernel
theorem dX11_gains_2 : decode cX11_gains 2 = .ok (.putfield 120, 3) := by decide +kernel
theorem dX11_gains_5 : decode cX11_gains 5 = .ok (.aload_n 0, 1) := by decide +kernel
theorem dX11_gains_6 : decode cX11_gains 6 = .ok (.aload_n 0, 1) := by decide +kernel
theorem dX11_gains_7 : decode cX11_gains 7 = .ok (.iload_n 1, 1) := by decide +kernel
theorem dX11_gains_8 : decode cX11_gains 8 = .ok (.invokevirtual 234, 3) := by decide +kernel
theorem dX11_gains_11 : decode cX11_gains 11 = .ok (.ifCond .ne 7, 3) := by decide +kernel
theorem dX11_gains_14 : decode cX11_gains 14 = .ok (.iconst 1, 1) := by decide +kernel
theorem dX11_gains_15 : decode cX11_gains 15 = .ok (.goto 4, 3) := by decide +kernel
theorem dX11_gains_18 : decode cX11_gains 18 = .ok (.iconst 0, 1) := by decide +kernel
theorem dX11_gains_19 : decode cX11_gains 19 = .ok (.iconst 1, 1) := by decide +kernel
theorem dX11_gains_20 : decode cX11_gains 20 = .ok (.iconst 1, 1) := by decide +kernel
theorem dX11_gains_21 : decode cX11_gains 21 = .ok (.invokevirtual 215, 3) := by decide +kernel
theorem dX11_gains_24 : decode cX11_gains 24 = .ok (.ifCond .eq 5, 3) := by decide +kernel
theorem dX11_gains_27 : decode cX11_gains 27 = .ok (.iconst 0, 1) := by decide +kernel
theorem dX11_gains_28 : decode cX11_gains 28 = .ok (.ireturn, 1) := by decide +kernel
theorem dX11_gains_29 : decode cX11_gains 29 = .ok (.iconst 0, 1) := by decide +kernel
theorem dX11_gains_30 : decode cX11_gains 30 = .ok (.istore_n 2, 1) := by decide +kernel
theorem dX11_gains_31 : decode cX11_gains 31 = .ok (.iconst 0, 1) := by decide +kernel
theorem dX11_gains_32 : decode cX11_gains 32 = .ok (.istore_n 3, 1) := by decide +kernel
theorem dX11_gains_33 : decode cX11_gains 33 = .ok (.iload_n 3, 1) := by decide +kernel
theorem dX11_gains_34 : decode cX11_gains 34 = .ok (.aload_n 0, 1) := by decide +kernel
theorem dX11_gains_35 : decode cX11_gains 35 = .ok (.getfield 23, 3) := by decide +kernel
theorem dX11_gains_38 : decode cX11_gains 38 = .ok (.iconst 0, 1) := by decide +kernel
theorem dX11_gains_39 : decode cX11_gains 39 = .ok (.iaload, 1) := by decide +kernel
theorem dX11_gains_40 : decode cX11_gains 40 = .ok (.if_icmp .ge 180, 3) := by decide +kernel
theorem dX11_gains_43 : decode cX11_gains 43 = .ok (.aload_n 0, 1) := by decide +kernel
theorem dX11_gains_44 : decode cX11_gains 44 = .ok (.getfield 244, 3) := by decide +kernel
theorem dX11_gains_47 : decode cX11_gains 47 = .ok (.ifCond .le 173, 3) := by decide +kernel
theorem dX11_gains_50 : decode cX11_gains 50 = .ok (.aload_n 0, 1) := by decide +kernel
theorem dX11_gains_51 : decode cX11_gains 51 = .ok (.aload_n 0, 1) := by decide +kernel
theorem dX11_gains_52 : decode cX11_gains 52 = .ok (.iload_n 3, 1) := by decide +kernel
theorem dX11_gains_53 : decode cX11_gains 53 = .ok (.iconst 0, 1) := by decide +kernel
theorem dX11_gains_54 : decode cX11_gains 54 = .ok (.invokevirtual 288, 3) := by decide +kernel
theorem dX11_gains_57 : decode cX11_gains 57 = .ok (.iload_n 3, 1) := by decide +kernel
theorem dX11_gains_58 : decode cX11_gains 58 = .ok (.invokevirtual 279, 3) := by decide +kernel
theorem dX11_gains_61 : decode cX11_gains 61 = .ok (.istore 4, 2) := by decide +kernel
theorem dX11_gains_63 : decode cX11_gains 63 = .ok (.iconst 0, 1) := by decide +kernel
theorem dX11_gains_64 : decode cX11_gains 64 = .ok (.istore 5, 2) := by decide +kernel
theorem dX11_gains_66 : decode cX11_gains 66 = .ok (.iload 5, 2) := by decide +kernel
theorem dX11_gains_68 : decode cX11_gains 68 = .ok (.bipush 100, 2) := by decide +kernel
theorem dX11_gains_70 : decode cX11_gains 70 = .ok (.if_icmp .ge 17, 3) := by decide +kernel
theorem dX11_gains_73 : decode cX11_gains 73 = .ok (.aload_n 0, 1) := by decide +kernel
theorem dX11_gains_74 : decode cX11_gains 74 = .ok (.getfield 104, 3) := by decide +kernel
theorem dX11_gains_77 : decode cX11_gains 77 = .ok (.iload 5, 2) := by decide +kernel
theorem dX11_gains_79 : decode cX11_gains 79 = .ok (.iconst (-1), 1) := by decide +kernel
theorem dX11_gains_80 : decode cX11_gains 80 = .ok (.iastore, 1) := by decide +kernel
theorem dX11_gains_81 : decode cX11_gains 81 = .ok (.iinc 5 1, 3) := by decide +kernel
theorem dX11_gains_84 : decode cX11_gains 84 = .ok (.goto (-18), 3) := by decide +kernel
theorem dX11_gains_87 : decode cX11_gains 87 = .ok (.iconst 0, 1) := by decide +kernel
theorem dX11_gains_88 : decode cX11_gains 88 = .ok (.istore 5, 2) := by decide +kernel
theorem dX11_gains_90 : decode cX11_gains 90 = .ok (.iload 5, 2) := by decide +kernel
theorem dX11_gains_92 : decode cX11_gains 92 = .ok (.aload_n 0, 1) := by decide +kernel
theorem dX11_gains_93 : decode cX11_gains 93 = .ok (.getfield 244, 3) := by decide +kernel
theorem dX11_gains_96 : decode cX11_gains 96 = .ok (.if_icmp .ge 63, 3) := by decide +kernel
theorem dX11_gains_99 : decode cX11_gains 99 = .ok (.aload_n 0, 1) := by decide +kernel
theorem dX11_gains_100 : decode cX11_gains 100 = .ok (.aload_n 0, 1) := by decide +kernel
theorem dX11_gains_101 : decode cX11_gains 101 = .ok (.getfield 74, 3) := by decide +kernel
theorem dX11_gains_104 : decode cX11_gains 104 = .ok (.iload 5, 2) := by decide +kernel
theorem dX11_gains_106 : decode cX11_gains 106 = .ok (.iaload, 1) := by decide +kernel
theorem dX11_gains_107 : decode cX11_gains 107 = .ok (.iload_n 1, 1) := by decide +kernel
theorem dX11_gains_108 : decode cX11_gains 108 = .ok (.invokevirtual 256, 3) := by decide +kernel
theorem dX11_gains_111 : decode cX11_gains 111 = .ok (.istore 6, 2) := by decide +kernel
theorem dX11_gains_113 : decode cX11_gains 113 = .ok (.aload_n 0, 1) := by decide +kernel
theorem dX11_gains_114 : decode cX11_gains 114 = .ok (.iload 5, 2) := by decide +kernel
theorem dX11_gains_116 : decode cX11_gains 116 = .ok (.iload_n 3, 1) := by decide +kernel
theorem dX11_gains_117 : decode cX11_gains 117 = .ok (.invokevirtual 279, 3) := by decide +kernel
theorem dX11_gains_120 : decode cX11_gains 120 = .ok (.istore 7, 2) := by decide +kernel
theorem dX11_gains_122 : decode cX11_gains 122 = .ok (.aload_n 0, 1) := by decide +kernel
theorem dX11_gains_123 : decode cX11_gains 123 = .ok (.getfield 104, 3) := by decide +kernel
theorem dX11_gains_126 : decode cX11_gains 126 = .ok (.iload 6, 2) := by decide +kernel
theorem dX11_gains_128 : decode cX11_gains 128 = .ok (.iload 7, 2) := by decide +kernel
theorem dX11_gains_130 : decode cX11_gains 130 = .ok (.aload_n 0, 1) := by decide +kernel
theorem dX11_gains_131 : decode cX11_gains 131 = .ok (.getfield 104, 3) := by decide +kernel
theorem dX11_gains_134 : decode cX11_gains 134 = .ok (.iload 6, 2) := by decide +kernel
theorem dX11_gains_136 : decode cX11_gains 136 = .ok (.iaload, 1) := by decide +kernel
theorem dX11_gains_137 : decode cX11_gains 137 = .ok (.if_icmp .le 8, 3) := by decide +kernel
theorem dX11_gains_140 : decode cX11_gains 140 = .ok (.iload 7, 2) := by decide +kernel
theorem dX11_gains_142 : decode cX11_gains 142 = .ok (.goto 10, 3) := by decide +kernel
theorem dX11_gains_145 : decode cX11_gains 145 = .ok (.aload_n 0, 1) := by decide +kernel
theorem dX11_gains_146 : decode cX11_gains 146 = .ok (.getfield 104, 3) := by decide +kernel
theorem dX11_gains_149 : decode cX11_gains 149 = .ok (.iload 6, 2) := by decide +kernel
theorem dX11_gains_151 : decode cX11_gains 151 = .ok (.iaload, 1) := by decide +kernel
theorem dX11_gains_152 : decode cX11_gains 152 = .ok (.iastore, 1) := by decide +kernel
theorem dX11_gains_153 : decode cX11_gains 153 = .ok (.iinc 5 1, 3) := by decide +kernel
theorem dX11_gains_156 : decode cX11_gains 156 = .ok (.goto (-66), 3) := by decide +kernel
theorem dX11_gains_159 : decode cX11_gains 159 = .ok (.iconst 0, 1) := by decide +kernel
theorem dX11_gains_160 : decode cX11_gains 160 = .ok (.istore 5, 2) := by decide +kernel
theorem dX11_gains_162 : decode cX11_gains 162 = .ok (.iload 5, 2) := by decide +kernel
theorem dX11_gains_164 : decode cX11_gains 164 = .ok (.aload_n 0, 1) := by decide +kernel
theorem dX11_gains_165 : decode cX11_gains 165 = .ok (.getfield 65, 3) := by decide +kernel
theorem dX11_gains_168 : decode cX11_gains 168 = .ok (.iload_n 1, 1) := by decide +kernel
theorem dX11_gains_169 : decode cX11_gains 169 = .ok (.aaload, 1) := by decide +kernel
theorem dX11_gains_170 : decode cX11_gains 170 = .ok (.iconst 2, 1) := by decide +kernel
theorem dX11_gains_171 : decode cX11_gains 171 = .ok (.iaload, 1) := by decide +kernel
theorem dX11_gains_172 : decode cX11_gains 172 = .ok (.if_icmp .ge 42, 3) := by decide +kernel
theorem dX11_gains_175 : decode cX11_gains 175 = .ok (.iload_n 2, 1) := by decide +kernel
theorem dX11_gains_176 : decode cX11_gains 176 = .ok (.aload_n 0, 1) := by decide +kernel
theorem dX11_gains_177 : decode cX11_gains 177 = .ok (.getfield 104, 3) := by decide +kernel
theorem dX11_gains_180 : decode cX11_gains 180 = .ok (.iload 5, 2) := by decide +kernel
theorem dX11_gains_182 : decode cX11_gains 182 = .ok (.iaload, 1) := by decide +kernel
theorem dX11_gains_183 : decode cX11_gains 183 = .ok (.iconst (-1), 1) := by decide +kernel
theorem dX11_gains_184 : decode cX11_gains 184 = .ok (.if_icmp .eq 21, 3) := by decide +kernel
theorem dX11_gains_187 : decode cX11_gains 187 = .ok (.aload_n 0, 1) := by decide +kernel
theorem dX11_gains_188 : decode cX11_gains 188 = .ok (.getfield 104, 3) := by decide +kernel
theorem dX11_gains_191 : decode cX11_gains 191 = .ok (.iload 5, 2) := by decide +kernel
theorem dX11_gains_193 : decode cX11_gains 193 = .ok (.iaload, 1) := by decide +kernel
theorem dX11_gains_194 : decode cX11_gains 194 = .ok (.iload 4, 2) := by decide +kernel
theorem dX11_gains_196 : decode cX11_gains 196 = .ok (.if_icmp .ge 9, 3) := by decide +kernel
theorem dX11_gains_199 : decode cX11_gains 199 = .ok (.iconst 1, 1) := by decide +kernel
theorem dX11_gains_200 : decode cX11_gains 200 = .ok (.iload_n 3, 1) := by decide +kernel
theorem dX11_gains_201 : decode cX11_gains 201 = .ok (.ishl, 1) := by decide +kernel
theorem dX11_gains_202 : decode cX11_gains 202 = .ok (.goto 4, 3) := by decide +kernel
theorem dX11_gains_205 : decode cX11_gains 205 = .ok (.iconst 0, 1) := by decide +kernel
theorem dX11_gains_206 : decode cX11_gains 206 = .ok (.ior, 1) := by decide +kernel
theorem dX11_gains_207 : decode cX11_gains 207 = .ok (.istore_n 2, 1) := by decide +kernel
theorem dX11_gains_208 : decode cX11_gains 208 = .ok (.iinc 5 1, 3) := by decide +kernel
theorem dX11_gains_211 : decode cX11_gains 211 = .ok (.goto (-49), 3) := by decide +kernel
theorem dX11_gains_214 : decode cX11_gains 214 = .ok (.iinc 3 1, 3) := by decide +kernel
theorem dX11_gains_217 : decode cX11_gains 217 = .ok (.goto (-184), 3) := by decide +kernel
theorem dX11_gains_220 : decode cX11_gains 220 = .ok (.iload_n 2, 1) := by decide +kernel
theorem dX11_gains_221 : decode cX11_gains 221 = .ok (.ireturn, 1) := by decide +kernel
abbrev mX11_gains : MD := (cX11_gains, "BlottedDeedModel", 8, 4, 100, (some .int), "gains", [])
def bX11_gains_0 (g : GE) (J : Nat → KT) : KT := i_aload 0 (i_push (.int 0) (i_putf 10 0 .int (i_aload 0 (i_aload 0 (i_iload 1 (i_cv fX11_isBlot g 1 10 (i_ifne (i_push (.int 0) (i_jmp [true, true, false, false, false, false, false, false] (J 1))) (i_push (.int 1) (i_jmp [true, true, false, false, false, false, false, false] (J 1))))))))))
def bX11_gains_1 (g : GE) (J : Nat → KT) : KT := i_push (.int 1) (i_push (.int 1) (i_cv fX11_bad g 3 10 (i_ifeq (i_push (.int 0) (i_istore 2 (i_push (.int 0) (i_istore 3 (i_jmp [true, true, true, true, false, false, false, false] (J 2)))))) (i_push (.int 0) (i_ireturn)))))
def bX11_gains_2 (g : GE) (J : Nat → KT) : KT := i_iload 3 (i_aload 0 (i_getf 10 11 (i_push (.int 0) (i_iaload (i_icge (i_jmp [false, false, true, false, false, false, false, false] (J 9)) (i_aload 0 (i_getf 10 27 (i_ifle (i_jmp [false, false, true, false, false, false, false, false] (J 9)) (i_aload 0 (i_aload 0 (i_iload 3 (i_push (.int 0) (i_cv fX11_worthAt g 2 10 (i_iload 3 (i_cv fX11_worthBy g 2 10 (i_istore 4 (i_push (.int 0) (i_istore 5 (i_jmp [true, true, true, true, true, true, false, false] (J 3))))))))))))))))))))
def bX11_gains_3 (g : GE) (J : Nat → KT) : KT := i_iload 5 (i_push (.int 100) (i_icge (i_push (.int 0) (i_istore 5 (i_jmp [true, true, true, true, true, true, false, false] (J 4)))) (i_aload 0 (i_getf 10 43 (i_iload 5 (i_push (.int (-1)) (i_iastore (i_iinc 5 1 (i_jmp [true, true, true, true, true, true, false, false] (J 3))))))))))
def bX11_gains_4 (g : GE) (J : Nat → KT) : KT := i_iload 5 (i_aload 0 (i_getf 10 27 (i_icge (i_push (.int 0) (i_istore 5 (i_jmp [true, true, true, true, true, true, false, false] (J 6)))) (i_aload 0 (i_aload 0 (i_getf 10 28 (i_iload 5 (i_iaload (i_iload 1 (i_cv fX11_digit g 2 10 (i_istore 6 (i_aload 0 (i_iload 5 (i_iload 3 (i_cv fX11_worthBy g 2 10 (i_istore 7 (i_aload 0 (i_getf 10 43 (i_iload 6 (i_iload 7 (i_aload 0 (i_getf 10 43 (i_iload 6 (i_iaload (i_icle (i_aload 0 (i_getf 10 43 (i_iload 6 (i_iaload (i_jmp [true, true, true, true, true, true, false, false] (J 5)))))) (i_iload 7 (i_jmp [true, true, true, true, true, true, false, false] (J 5))))))))))))))))))))))))))))
def bX11_gains_5 (g : GE) (J : Nat → KT) : KT := i_iastore (i_iinc 5 1 (i_jmp [true, true, true, true, true, true, false, false] (J 4)))
def bX11_gains_6 (g : GE) (J : Nat → KT) : KT := i_iload 5 (i_aload 0 (i_getf 10 24 (i_iload 1 (i_aaload 4 (i_push (.int 2) (i_iaload (i_icge (i_iinc 3 1 (i_jmp [true, true, true, true, false, false, false, false] (J 2))) (i_iload 2 (i_aload 0 (i_getf 10 43 (i_iload 5 (i_iaload (i_push (.int (-1)) (i_iceq (i_jmp [true, true, false, true, true, true, false, false] (J 7)) (i_aload 0 (i_getf 10 43 (i_iload 5 (i_iaload (i_iload 4 (i_icge (i_jmp [true, true, false, true, true, true, false, false] (J 7)) (i_push (.int 1) (i_iload 3 (i_ishl (i_jmp [true, true, false, true, true, true, false, false] (J 8)))))))))))))))))))))))))
def bX11_gains_7 (g : GE) (J : Nat → KT) : KT := i_push (.int 0) (i_jmp [true, true, false, true, true, true, false, false] (J 8))
def bX11_gains_8 (g : GE) (J : Nat → KT) : KT := i_ior (i_istore 2 (i_iinc 5 1 (i_jmp [true, true, true, true, true, true, false, false] (J 6))))
def bX11_gains_9 (g : GE) (J : Nat → KT) : KT := i_iload 2 (i_ireturn)
theorem sbX11_gains_0 (g : GE) (J : Nat → KT) (h1 : Snd mX11_gains g 19 (J 1)) (h2 : Snd mX11_gains g 33 (J 2)) (h3 : Snd mX11_gains g 66 (J 3)) (h4 : Snd mX11_gains g 90 (J 4)) (h5 : Snd mX11_gains g 152 (J 5)) (h6 : Snd mX11_gains g 162 (J 6)) (h7 : Snd mX11_gains g 205 (J 7)) (h8 : Snd mX11_gains g 206 (J 8)) (h9 : Snd mX11_gains g 220 (J 9)) : Snd mX11_gains g 0 (bX11_gains_0 g J) := by
  unfold bX11_gains_0
  refine s_aload_n (pc := 0) (i := 0) ?_ dX11_gains_0 rfl
  refine s_iconst (pc := 1) (v := 0) ?_ dX11_gains_1 (by decide)
  refine s_putf (pc := 2) (ci := 10) (f := 0) (T := TX11) (ty0 := tyX11) ?_ ginX11 tyX11_ok nmX11 rfl (by decide) rfl rfl wt_1393 dX11_gains_2
  refine s_aload_n (pc := 5) (i := 0) ?_ dX11_gains_5 rfl
  refine s_aload_n (pc := 6) (i := 0) ?_ dX11_gains_6 rfl
  refine s_iload_n (pc := 7) (i := 1) ?_ dX11_gains_7 rfl
  refine s_cv (pc := 8) (n := 1) (ci := 10) ?_ tX11_isBlot rfl rfl wt_1655 wt_1657 wp_67 wt_17 wt_1658 ⟨crX11_isBlot, by decide, by decide⟩ dX11_gains_8
  refine s_ifne (pc := 11) (tgt := 18) ?_ ?_ dX11_gains_11 (by decide)
  · skip
    refine s_iconst (pc := 18) (v := 0) ?_ dX11_gains_18 (by decide)
    exact s_fall (pc := 19) h1
  · skip
    refine s_iconst (pc := 14) (v := 1) ?_ dX11_gains_14 (by decide)
    exact s_goto (pc := 15) (tgt := 19) h1 dX11_gains_15 (by decide)
theorem sbX11_gains_1 (g : GE) (J : Nat → KT) (h1 : Snd mX11_gains g 19 (J 1)) (h2 : Snd mX11_gains g 33 (J 2)) (h3 : Snd mX11_gains g 66 (J 3)) (h4 : Snd mX11_gains g 90 (J 4)) (h5 : Snd mX11_gains g 152 (J 5)) (h6 : Snd mX11_gains g 162 (J 6)) (h7 : Snd mX11_gains g 205 (J 7)) (h8 : Snd mX11_gains g 206 (J 8)) (h9 : Snd mX11_gains g 220 (J 9)) : Snd mX11_gains g 19 (bX11_gains_1 g J) := by
  unfold bX11_gains_1
  refine s_iconst (pc := 19) (v := 1) ?_ dX11_gains_19 (by decide)
  refine s_iconst (pc := 20) (v := 1) ?_ dX11_gains_20 (by decide)
  refine s_cv (pc := 21) (n := 3) (ci := 10) ?_ tX11_bad rfl rfl wt_1560 wt_1562 wp_49 wt_17 wt_1563 ⟨crX11_bad, by decide, by decide⟩ dX11_gains_21
  refine s_ifeq (pc := 24) (tgt := 29) ?_ ?_ dX11_gains_24 (by decide)
  · skip
    refine s_iconst (pc := 29) (v := 0) ?_ dX11_gains_29 (by decide)
    refine s_istore_n (pc := 30) (i := 2) ?_ dX11_gains_30 rfl (by decide)
    refine s_iconst (pc := 31) (v := 0) ?_ dX11_gains_31 (by decide)
    refine s_istore_n (pc := 32) (i := 3) ?_ dX11_gains_32 rfl (by decide)
    exact s_fall (pc := 33) h2
  · skip
    refine s_iconst (pc := 27) (v := 0) ?_ dX11_gains_27 (by decide)
    exact s_ireturn (pc := 28) rfl dX11_gains_28
theorem sbX11_gains_2 (g : GE) (J : Nat → KT) (h1 : Snd mX11_gains g 19 (J 1)) (h2 : Snd mX11_gains g 33 (J 2)) (h3 : Snd mX11_gains g 66 (J 3)) (h4 : Snd mX11_gains g 90 (J 4)) (h5 : Snd mX11_gains g 152 (J 5)) (h6 : Snd mX11_gains g 162 (J 6)) (h7 : Snd mX11_gains g 205 (J 7)) (h8 : Snd mX11_gains g 206 (J 8)) (h9 : Snd mX11_gains g 220 (J 9)) : Snd mX11_gains g 33 (bX11_gains_2 g J) := by
  unfold bX11_gains_2
  refine s_iload_n (pc := 33) (i := 3) ?_ dX11_gains_33 rfl
  refine s_aload_n (pc := 34) (i := 0) ?_ dX11_gains_34 rfl
  refine s_getf (pc := 35) (ci := 10) (f := 11) (T := TX11) ?_ ginX11 rfl (by decide) wt_1404 dX11_gains_35
  refine s_iconst (pc := 38) (v := 0) ?_ dX11_gains_38 (by decide)
  refine s_iaload (pc := 39) ?_ dX11_gains_39
  refine s_icge (pc := 40) (tgt := 220) ?_ ?_ dX11_gains_40 (by decide)
  · skip
    exact s_fall (pc := 220) h9
  · skip
    refine s_aload_n (pc := 43) (i := 0) ?_ dX11_gains_43 rfl
    refine s_getf (pc := 44) (ci := 10) (f := 27) (T := TX11) ?_ ginX11 rfl (by decide) wt_1420 dX11_gains_44
    refine s_ifle (pc := 47) (tgt := 220) ?_ ?_ dX11_gains_47 (by decide)
    · skip
      exact s_fall (pc := 220) h9
    · skip
      refine s_aload_n (pc := 50) (i := 0) ?_ dX11_gains_50 rfl
      refine s_aload_n (pc := 51) (i := 0) ?_ dX11_gains_51 rfl
      refine s_iload_n (pc := 52) (i := 3) ?_ dX11_gains_52 rfl
      refine s_iconst (pc := 53) (v := 0) ?_ dX11_gains_53 (by decide)
      refine s_cv (pc := 54) (n := 2) (ci := 10) ?_ tX11_worthAt rfl rfl wt_1748 wt_1750 wp_78 wt_17 wt_1751 ⟨crX11_worthAt, by decide, by decide⟩ dX11_gains_54
      refine s_iload_n (pc := 57) (i := 3) ?_ dX11_gains_57 rfl
      refine s_cv (pc := 58) (n := 2) (ci := 10) ?_ tX11_worthBy rfl rfl wt_1712 wt_1714 wp_74 wt_17 wt_1715 ⟨crX11_worthBy, by decide, by decide⟩ dX11_gains_58
      refine s_istore (pc := 61) (i := 4) ?_ dX11_gains_61 (by decide)
      refine s_iconst (pc := 63) (v := 0) ?_ dX11_gains_63 (by decide)
      refine s_istore (pc := 64) (i := 5) ?_ dX11_gains_64 (by decide)
      exact s_fall (pc := 66) h3
theorem sbX11_gains_3 (g : GE) (J : Nat → KT) (h1 : Snd mX11_gains g 19 (J 1)) (h2 : Snd mX11_gains g 33 (J 2)) (h3 : Snd mX11_gains g 66 (J 3)) (h4 : Snd mX11_gains g 90 (J 4)) (h5 : Snd mX11_gains g 152 (J 5)) (h6 : Snd mX11_gains g 162 (J 6)) (h7 : Snd mX11_gains g 205 (J 7)) (h8 : Snd mX11_gains g 206 (J 8)) (h9 : Snd mX11_gains g 220 (J 9)) : Snd mX11_gains g 66 (bX11_gains_3 g J) := by
  unfold bX11_gains_3
  refine s_iload (pc := 66) (i := 5) ?_ dX11_gains_66
  refine s_bipush (pc := 68) (v := 100) ?_ dX11_gains_68 (by decide)
  refine s_icge (pc := 70) (tgt := 87) ?_ ?_ dX11_gains_70 (by decide)
  · skip
    refine s_iconst (pc := 87) (v := 0) ?_ dX11_gains_87 (by decide)
    refine s_istore (pc := 88) (i := 5) ?_ dX11_gains_88 (by decide)
    exact s_fall (pc := 90) h4
  · skip
    refine s_aload_n (pc := 73) (i := 0) ?_ dX11_gains_73 rfl
    refine s_getf (pc := 74) (ci := 10) (f := 43) (T := TX11) ?_ ginX11 rfl (by decide) wt_1436 dX11_gains_74
    refine s_iload (pc := 77) (i := 5) ?_ dX11_gains_77
    refine s_iconst (pc := 79) (v := (-1)) ?_ dX11_gains_79 (by decide)
    refine s_iastore (pc := 80) ?_ dX11_gains_80
    refine s_iinc (pc := 81) (i := 5) (v := 1) ?_ dX11_gains_81 (by decide) (by decide)
    exact s_goto (pc := 84) (tgt := 66) h3 dX11_gains_84 (by decide)
theorem sbX11_gains_4 (g : GE) (J : Nat → KT) (h1 : Snd mX11_gains g 19 (J 1)) (h2 : Snd mX11_gains g 33 (J 2)) (h3 : Snd mX11_gains g 66 (J 3)) (h4 : Snd mX11_gains g 90 (J 4)) (h5 : Snd mX11_gains g 152 (J 5)) (h6 : Snd mX11_gains g 162 (J 6)) (h7 : Snd mX11_gains g 205 (J 7)) (h8 : Snd mX11_gains g 206 (J 8)) (h9 : Snd mX11_gains g 220 (J 9)) : Snd mX11_gains g 90 (bX11_gains_4 g J) := by
  unfold bX11_gains_4
  refine s_iload (pc := 90) (i := 5) ?_ dX11_gains_90
  refine s_aload_n (pc := 92) (i := 0) ?_ dX11_gains_92 rfl
  refine s_getf (pc := 93) (ci := 10) (f := 27) (T := TX11) ?_ ginX11 rfl (by decide) wt_1420 dX11_gains_93
  refine s_icge (pc := 96) (tgt := 159) ?_ ?_ dX11_gains_96 (by decide)
  · skip
    refine s_iconst (pc := 159) (v := 0) ?_ dX11_gains_159 (by decide)
    refine s_istore (pc := 160) (i := 5) ?_ dX11_gains_160 (by decide)
    exact s_fall (pc := 162) h6
  · skip
    refine s_aload_n (pc := 99) (i := 0) ?_ dX11_gains_99 rfl
    refine s_aload_n (pc := 100) (i := 0) ?_ dX11_gains_100 rfl
    refine s_getf (pc := 101) (ci := 10) (f := 28) (T := TX11) ?_ ginX11 rfl (by decide) wt_1421 dX11_gains_101
    refine s_iload (pc := 104) (i := 5) ?_ dX11_gains_104
    refine s_iaload (pc := 106) ?_ dX11_gains_106
    refine s_iload_n (pc := 107) (i := 1) ?_ dX11_gains_107 rfl
    refine s_cv (pc := 108) (n := 2) (ci := 10) ?_ tX11_digit rfl rfl wt_1679 wt_1681 wp_70 wt_17 wt_1682 ⟨crX11_digit, by decide, by decide⟩ dX11_gains_108
    refine s_istore (pc := 111) (i := 6) ?_ dX11_gains_111 (by decide)
    refine s_aload_n (pc := 113) (i := 0) ?_ dX11_gains_113 rfl
    refine s_iload (pc := 114) (i := 5) ?_ dX11_gains_114
    refine s_iload_n (pc := 116) (i := 3) ?_ dX11_gains_116 rfl
    refine s_cv (pc := 117) (n := 2) (ci := 10) ?_ tX11_worthBy rfl rfl wt_1712 wt_1714 wp_74 wt_17 wt_1715 ⟨crX11_worthBy, by decide, by decide⟩ dX11_gains_117
    refine s_istore (pc := 120) (i := 7) ?_ dX11_gains_120 (by decide)
    refine s_aload_n (pc := 122) (i := 0) ?_ dX11_gains_122 rfl
    refine s_getf (pc := 123) (ci := 10) (f := 43) (T := TX11) ?_ ginX11 rfl (by decide) wt_1436 dX11_gains_123
    refine s_iload (pc := 126) (i := 6) ?_ dX11_gains_126
    refine s_iload (pc := 128) (i := 7) ?_ dX11_gains_128
    refine s_aload_n (pc := 130) (i := 0) ?_ dX11_gains_130 rfl
    refine s_getf (pc := 131) (ci := 10) (f := 43) (T := TX11) ?_ ginX11 rfl (by decide) wt_1436 dX11_gains_131
    refine s_iload (pc := 134) (i := 6) ?_ dX11_gains_134
    refine s_iaload (pc := 136) ?_ dX11_gains_136
    refine s_icle (pc := 137) (tgt := 145) ?_ ?_ dX11_gains_137 (by decide)
    · skip
      refine s_aload_n (pc := 145) (i := 0) ?_ dX11_gains_145 rfl
      refine s_getf (pc := 146) (ci := 10) (f := 43) (T := TX11) ?_ ginX11 rfl (by decide) wt_1436 dX11_gains_146
      refine s_iload (pc := 149) (i := 6) ?_ dX11_gains_149
      refine s_iaload (pc := 151) ?_ dX11_gains_151
      exact s_fall (pc := 152) h5
    · skip
      refine s_iload (pc := 140) (i := 7) ?_ dX11_gains_140
      exact s_goto (pc := 142) (tgt := 152) h5 dX11_gains_142 (by decide)
theorem sbX11_gains_5 (g : GE) (J : Nat → KT) (h1 : Snd mX11_gains g 19 (J 1)) (h2 : Snd mX11_gains g 33 (J 2)) (h3 : Snd mX11_gains g 66 (J 3)) (h4 : Snd mX11_gains g 90 (J 4)) (h5 : Snd mX11_gains g 152 (J 5)) (h6 : Snd mX11_gains g 162 (J 6)) (h7 : Snd mX11_gains g 205 (J 7)) (h8 : Snd mX11_gains g 206 (J 8)) (h9 : Snd mX11_gains g 220 (J 9)) : Snd mX11_gains g 152 (bX11_gains_5 g J) := by
  unfold bX11_gains_5
  refine s_iastore (pc := 152) ?_ dX11_gains_152
  refine s_iinc (pc := 153) (i := 5) (v := 1) ?_ dX11_gains_153 (by decide) (by decide)
  exact s_goto (pc := 156) (tgt := 90) h4 dX11_gains_156 (by decide)
theorem sbX11_gains_6 (g : GE) (J : Nat → KT) (h1 : Snd mX11_gains g 19 (J 1)) (h2 : Snd mX11_gains g 33 (J 2)) (h3 : Snd mX11_gains g 66 (J 3)) (h4 : Snd mX11_gains g 90 (J 4)) (h5 : Snd mX11_gains g 152 (J 5)) (h6 : Snd mX11_gains g 162 (J 6)) (h7 : Snd mX11_gains g 205 (J 7)) (h8 : Snd mX11_gains g 206 (J 8)) (h9 : Snd mX11_gains g 220 (J 9)) : Snd mX11_gains g 162 (bX11_gains_6 g J) := by
  unfold bX11_gains_6
  refine s_iload (pc := 162) (i := 5) ?_ dX11_gains_162
  refine s_aload_n (pc := 164) (i := 0) ?_ dX11_gains_164 rfl
  refine s_getf (pc := 165) (ci := 10) (f := 24) (T := TX11) ?_ ginX11 rfl (by decide) wt_1417 dX11_gains_165
  refine s_iload_n (pc := 168) (i := 1) ?_ dX11_gains_168 rfl
  refine s_aaload (pc := 169) (t := 4) ?_ (by decide) rfl dX11_gains_169
  refine s_iconst (pc := 170) (v := 2) ?_ dX11_gains_170 (by decide)
  refine s_iaload (pc := 171) ?_ dX11_gains_171
  refine s_icge (pc := 172) (tgt := 214) ?_ ?_ dX11_gains_172 (by decide)
  · skip
    refine s_iinc (pc := 214) (i := 3) (v := 1) ?_ dX11_gains_214 (by decide) (by decide)
    exact s_goto (pc := 217) (tgt := 33) h2 dX11_gains_217 (by decide)
  · skip
    refine s_iload_n (pc := 175) (i := 2) ?_ dX11_gains_175 rfl
    refine s_aload_n (pc := 176) (i := 0) ?_ dX11_gains_176 rfl
    refine s_getf (pc := 177) (ci := 10) (f := 43) (T := TX11) ?_ ginX11 rfl (by decide) wt_1436 dX11_gains_177
    refine s_iload (pc := 180) (i := 5) ?_ dX11_gains_180
    refine s_iaload (pc := 182) ?_ dX11_gains_182
    refine s_iconst (pc := 183) (v := (-1)) ?_ dX11_gains_183 (by decide)
    refine s_iceq (pc := 184) (tgt := 205) ?_ ?_ dX11_gains_184 (by decide)
    · skip
      exact s_fall (pc := 205) h7
    · skip
      refine s_aload_n (pc := 187) (i := 0) ?_ dX11_gains_187 rfl
      refine s_getf (pc := 188) (ci := 10) (f := 43) (T := TX11) ?_ ginX11 rfl (by decide) wt_1436 dX11_gains_188
      refine s_iload (pc := 191) (i := 5) ?_ dX11_gains_191
      refine s_iaload (pc := 193) ?_ dX11_gains_193
      refine s_iload (pc := 194) (i := 4) ?_ dX11_gains_194
      refine s_icge (pc := 196) (tgt := 205) ?_ ?_ dX11_gains_196 (by decide)
      · skip
        exact s_fall (pc := 205) h7
      · skip
        refine s_iconst (pc := 199) (v := 1) ?_ dX11_gains_199 (by decide)
        refine s_iload_n (pc := 200) (i := 3) ?_ dX11_gains_200 rfl
        refine s_ishl (pc := 201) ?_ dX11_gains_201
        exact s_goto (pc := 202) (tgt := 206) h8 dX11_gains_202 (by decide)
theorem sbX11_gains_7 (g : GE) (J : Nat → KT) (h1 : Snd mX11_gains g 19 (J 1)) (h2 : Snd mX11_gains g 33 (J 2)) (h3 : Snd mX11_gains g 66 (J 3)) (h4 : Snd mX11_gains g 90 (J 4)) (h5 : Snd mX11_gains g 152 (J 5)) (h6 : Snd mX11_gains g 162 (J 6)) (h7 : Snd mX11_gains g 205 (J 7)) (h8 : Snd mX11_gains g 206 (J 8)) (h9 : Snd mX11_gains g 220 (J 9)) : Snd mX11_gains g 205 (bX11_gains_7 g J) := by
  unfold bX11_gains_7
  refine s_iconst (pc := 205) (v := 0) ?_ dX11_gains_205 (by decide)
  exact s_fall (pc := 206) h8
theorem sbX11_gains_8 (g : GE) (J : Nat → KT) (h1 : Snd mX11_gains g 19 (J 1)) (h2 : Snd mX11_gains g 33 (J 2)) (h3 : Snd mX11_gains g 66 (J 3)) (h4 : Snd mX11_gains g 90 (J 4)) (h5 : Snd mX11_gains g 152 (J 5)) (h6 : Snd mX11_gains g 162 (J 6)) (h7 : Snd mX11_gains g 205 (J 7)) (h8 : Snd mX11_gains g 206 (J 8)) (h9 : Snd mX11_gains g 220 (J 9)) : Snd mX11_gains g 206 (bX11_gains_8 g J) := by
  unfold bX11_gains_8
  refine s_ior (pc := 206) ?_ dX11_gains_206
  refine s_istore_n (pc := 207) (i := 2) ?_ dX11_gains_207 rfl (by decide)
  refine s_iinc (pc := 208) (i := 5) (v := 1) ?_ dX11_gains_208 (by decide) (by decide)
  exact s_goto (pc := 211) (tgt := 162) h6 dX11_gains_211 (by decide)
theorem sbX11_gains_9 (g : GE) (J : Nat → KT) (h1 : Snd mX11_gains g 19 (J 1)) (h2 : Snd mX11_gains g 33 (J 2)) (h3 : Snd mX11_gains g 66 (J 3)) (h4 : Snd mX11_gains g 90 (J 4)) (h5 : Snd mX11_gains g 152 (J 5)) (h6 : Snd mX11_gains g 162 (J 6)) (h7 : Snd mX11_gains g 205 (J 7)) (h8 : Snd mX11_gains g 206 (J 8)) (h9 : Snd mX11_gains g 220 (J 9)) : Snd mX11_gains g 220 (bX11_gains_9 g J) := by
  unfold bX11_gains_9
  refine s_iload_n (pc := 220) (i := 2) ?_ dX11_gains_220 rfl
  exact s_ireturn (pc := 221) rfl dX11_gains_221
def jX11_gains (g : GE) : Nat → Nat → KT
  | 0, _ => fun _ _ _ => none
  | n + 1, 0 => bX11_gains_0 g (jX11_gains g n)
  | n + 1, 1 => bX11_gains_1 g (jX11_gains g n)
  | n + 1, 2 => bX11_gains_2 g (jX11_gains g n)
  | n + 1, 3 => bX11_gains_3 g (jX11_gains g n)
  | n + 1, 4 => bX11_gains_4 g (jX11_gains g n)
  | n + 1, 5 => bX11_gains_5 g (jX11_gains g n)
  | n + 1, 6 => bX11_gains_6 g (jX11_gains g n)
  | n + 1, 7 => bX11_gains_7 g (jX11_gains g n)
  | n + 1, 8 => bX11_gains_8 g (jX11_gains g n)
  | n + 1, 9 => bX11_gains_9 g (jX11_gains g n)
  | _ + 1, _ + 10 => fun _ _ _ => none
theorem sjX11_gains (g : GE) : ∀ n, Snd mX11_gains g 0 (jX11_gains g n 0) ∧ Snd mX11_gains g 19 (jX11_gains g n 1) ∧ Snd mX11_gains g 33 (jX11_gains g n 2) ∧ Snd mX11_gains g 66 (jX11_gains g n 3) ∧ Snd mX11_gains g 90 (jX11_gains g n 4) ∧ Snd mX11_gains g 152 (jX11_gains g n 5) ∧ Snd mX11_gains g 162 (jX11_gains g n 6) ∧ Snd mX11_gains g 205 (jX11_gains g n 7) ∧ Snd mX11_gains g 206 (jX11_gains g n 8) ∧ Snd mX11_gains g 220 (jX11_gains g n 9)
  | 0 => ⟨s_none, s_none, s_none, s_none, s_none, s_none, s_none, s_none, s_none, s_none⟩
  | n + 1 => by
    obtain ⟨-, h1, h2, h3, h4, h5, h6, h7, h8, h9⟩ := sjX11_gains g n
    exact ⟨sbX11_gains_0 g _ h1 h2 h3 h4 h5 h6 h7 h8 h9, sbX11_gains_1 g _ h1 h2 h3 h4 h5 h6 h7 h8 h9, sbX11_gains_2 g _ h1 h2 h3 h4 h5 h6 h7 h8 h9, sbX11_gains_3 g _ h1 h2 h3 h4 h5 h6 h7 h8 h9, sbX11_gains_4 g _ h1 h2 h3 h4 h5 h6 h7 h8 h9, sbX11_gains_5 g _ h1 h2 h3 h4 h5 h6 h7 h8 h9, sbX11_gains_6 g _ h1 h2 h3 h4 h5 h6 h7 h8 h9, sbX11_gains_7 g _ h1 h2 h3 h4 h5 h6 h7 h8 h9, sbX11_gains_8 g _ h1 h2 h3 h4 h5 h6 h7 h8 h9, sbX11_gains_9 g _ h1 h2 h3 h4 h5 h6 h7 h8 h9⟩
def kX11_gains (g : GE) : KT := jX11_gains g g.1 0
theorem sX11_gains (g : GE) : Snd mX11_gains g 0 (kX11_gains g) := (sjX11_gains g g.1).1
def fX11_gains : FT := fun g av w => if (ent av).length ≤ 8 then kX11_gains g [] (entp 8 av) w else none
theorem tX11_gains : Mt yX11_gains cX11_gains 8 (some .int) 4 100 fX11_gains := Mt.of (K := kX11_gains) (by decide +kernel) (fun _ _ _ => rfl) sX11_gains
theorem crX11_gains : yX11_gains.cls ≠ "java/lang/invoke/MethodHandle" ∧ yX11_gains.cls ≠ "java/lang/invoke/VarHandle" ∧ (parseMethodDescriptor yX11_gains.desc).map (fun d => d.parameters.length) = some 1 := by decide +kernel
