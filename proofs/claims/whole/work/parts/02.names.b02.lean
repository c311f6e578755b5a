theorem dX8_nextToken_115 : decode cX8_nextToken 115 = .ok (.aload_n 0, 1) := by decide +kernel
theorem dX8_nextToken_116 : decode cX8_nextToken 116 = .ok (.getfield 9, 3) := by decide +kernel
theorem dX8_nextToken_119 : decode cX8_nextToken 119 = .ok (.aload_n 0, 1) := by decide +kernel
theorem dX8_nextToken_120 : decode cX8_nextToken 120 = .ok (.getfield 48, 3) := by decide +kernel
theorem dX8_nextToken_123 : decode cX8_nextToken 123 = .ok (.baload, 1) := by decide +kernel
theorem dX8_nextToken_124 : decode cX8_nextToken 124 = .ok (.invokestatic 107, 3) := by decide +kernel
theorem dX8_nextToken_127 : decode cX8_nextToken 127 = .ok (.iconst 1, 1) := by decide +kernel
theorem dX8_nextToken_128 : decode cX8_nextToken 128 = .ok (.if_icmp .ne 38, 3) := by decide +kernel
theorem dX8_nextToken_131 : decode cX8_nextToken 131 = .ok (.aload_n 0, 1) := by decide +kernel
theorem dX8_nextToken_132 : decode cX8_nextToken 132 = .ok (.aload_n 0, 1) := by decide +kernel
theorem dX8_nextToken_133 : decode cX8_nextToken 133 = .ok (.getfield 80, 3) := by decide +kernel
theorem dX8_nextToken_136 : decode cX8_nextToken 136 = .ok (.bipush 8, 2) := by decide +kernel
theorem dX8_nextToken_138 : decode cX8_nextToken 138 = .ok (.lshl, 1) := by decide +kernel
theorem dX8_nextToken_139 : decode cX8_nextToken 139 = .ok (.aload_n 0, 1) := by decide +kernel
theorem dX8_nextToken_140 : decode cX8_nextToken 140 = .ok (.getfield 9, 3) := by decide +kernel
theorem dX8_nextToken_143 : decode cX8_nextToken 143 = .ok (.aload_n 0, 1) := by decide +kernel
theorem dX8_nextToken_144 : decode cX8_nextToken 144 = .ok (.getfield 48, 3) := by decide +kernel
theorem dX8_nextToken_147 : decode cX8_nextToken 147 = .ok (.baload, 1) := by decide +kernel
theorem dX8_nextToken_148 : decode cX8_nextToken 148 = .ok (.i2l, 1) := by decide +kernel
theorem dX8_nextToken_149 : decode cX8_nextToken 149 = .ok (.ladd, 1) := by decide +kernel
theorem dX8_nextToken_150 : decode cX8_nextToken 150 = .ok (.putfield 80, 3) := by decide +kernel
theorem dX8_nextToken_153 : decode cX8_nextToken 153 = .ok (.aload_n 0, 1) := by decide +kernel
theorem dX8_nextToken_154 : decode cX8_nextToken 154 = .ok (.dup, 1) := by decide +kernel
theorem dX8_nextToken_155 : decode cX8_nextToken 155 = .ok (.getfield 48, 3) := by decide +kernel
theorem dX8_nextToken_158 : decode cX8_nextToken 158 = .ok (.iconst 1, 1) := by decide +kernel
theorem dX8_nextToken_159 : decode cX8_nextToken 159 = .ok (.iadd, 1) := by decide +kernel
theorem dX8_nextToken_160 : decode cX8_nextToken 160 = .ok (.putfield 48, 3) := by decide +kernel
theorem dX8_nextToken_163 : decode cX8_nextToken 163 = .ok (.goto (-59), 3) := by decide +kernel
theorem dX8_nextToken_166 : decode cX8_nextToken 166 = .ok (.aload_n 0, 1) := by decide +kernel
theorem dX8_nextToken_167 : decode cX8_nextToken 167 = .ok (.aload_n 0, 1) := by decide +kernel
theorem dX8_nextToken_168 : decode cX8_nextToken 168 = .ok (.getfield 48, 3) := by decide +kernel
theorem dX8_nextToken_171 : decode cX8_nextToken 171 = .ok (.aload_n 0, 1) := by decide +kernel
theorem dX8_nextToken_172 : decode cX8_nextToken 172 = .ok (.getfield 104, 3) := by decide +kernel
theorem dX8_nextToken_175 : decode cX8_nextToken 175 = .ok (.isub, 1) := by decide +kernel
theorem dX8_nextToken_176 : decode cX8_nextToken 176 = .ok (.bipush 6, 2) := by decide +kernel
theorem dX8_nextToken_178 : decode cX8_nextToken 178 = .ok (.if_icmp .gt 7, 3) := by decide +kernel
theorem dX8_nextToken_181 : decode cX8_nextToken 181 = .ok (.iconst 1, 1) := by decide +kernel
theorem dX8_nextToken_182 : decode cX8_nextToken 182 = .ok (.goto 5, 3) := by decide +kernel
theorem dX8_nextToken_185 : decode cX8_nextToken 185 = .ok (.bipush 6, 2) := by decide +kernel
theorem dX8_nextToken_187 : decode cX8_nextToken 187 = .ok (.putfield 57, 3) := by decide +kernel
theorem dX8_nextToken_190 : decode cX8_nextToken 190 = .ok (.goto 121, 3) := by decide +kernel
theorem dX8_nextToken_193 : decode cX8_nextToken 193 = .ok (.aload_n 0, 1) := by decide +kernel
theorem dX8_nextToken_194 : decode cX8_nextToken 194 = .ok (.getfield 57, 3) := by decide +kernel
theorem dX8_nextToken_197 : decode cX8_nextToken 197 = .ok (.iconst 2, 1) := by decide +kernel
theorem dX8_nextToken_198 : decode cX8_nextToken 198 = .ok (.if_icmp .ne 96, 3) := by decide +kernel
theorem dX8_nextToken_201 : decode cX8_nextToken 201 = .ok (.aload_n 0, 1) := by decide +kernel
theorem dX8_nextToken_202 : decode cX8_nextToken 202 = .ok (.getfield 48, 3) := by decide +kernel
theorem dX8_nextToken_205 : decode cX8_nextToken 205 = .ok (.aload_n 0, 1) := by decide +kernel
theorem dX8_nextToken_206 : decode cX8_nextToken 206 = .ok (.getfield 45, 3) := by decide +kernel
theorem dX8_nextToken_209 : decode cX8_nextToken 209 = .ok (.if_icmp .ge 59, 3) := by decide +kernel
theorem dX8_nextToken_212 : decode cX8_nextToken 212 = .ok (.aload_n 0, 1) := by decide +kernel
theorem dX8_nextToken_213 : decode cX8_nextToken 213 = .ok (.getfield 9, 3) := by decide +kernel
theorem dX8_nextToken_216 : decode cX8_nextToken 216 = .ok (.aload_n 0, 1) := by decide +kernel
theorem dX8_nextToken_217 : decode cX8_nextToken 217 = .ok (.getfield 48, 3) := by decide +kernel
theorem dX8_nextToken_220 : decode cX8_nextToken 220 = .ok (.baload, 1) := by decide +kernel
theorem dX8_nextToken_221 : decode cX8_nextToken 221 = .ok (.invokestatic 107, 3) := by decide +kernel
theorem dX8_nextToken_224 : decode cX8_nextToken 224 = .ok (.iconst 2, 1) := by decide +kernel
theorem dX8_nextToken_225 : decode cX8_nextToken 225 = .ok (.if_icmp .ne 43, 3) := by decide +kernel
theorem dX8_nextToken_228 : decode cX8_nextToken 228 = .ok (.aload_n 0, 1) := by decide +kernel
theorem dX8_nextToken_229 : decode cX8_nextToken 229 = .ok (.ldc2_w 111, 3) := by decide +kernel
theorem dX8_nextToken_232 : decode cX8_nextToken 232 = .ok (.aload_n 0, 1) := by decide +kernel
theorem dX8_nextToken_233 : decode cX8_nextToken 233 = .ok (.getfield 80, 3) := by decide +kernel
theorem dX8_nextToken_236 : decode cX8_nextToken 236 = .ok (.lmul, 1) := by decide +kernel
theorem dX8_nextToken_237 : decode cX8_nextToken 237 = .ok (.aload_n 0, 1) := by decide +kernel
theorem dX8_nextToken_238 : decode cX8_nextToken 238 = .ok (.getfield 9, 3) := by decide +kernel
theorem dX8_nextToken_241 : decode cX8_nextToken 241 = .ok (.aload_n 0, 1) := by decide +kernel
theorem dX8_nextToken_242 : decode cX8_nextToken 242 = .ok (.getfield 48, 3) := by decide +kernel
theorem dX8_nextToken_245 : decode cX8_nextToken 245 = .ok (.baload, 1) := by decide +kernel
theorem dX8_nextToken_246 : decode cX8_nextToken 246 = .ok (.i2l, 1) := by decide +kernel
theorem dX8_nextToken_247 : decode cX8_nextToken 247 = .ok (.ladd, 1) := by decide +kernel
theorem dX8_nextToken_248 : decode cX8_nextToken 248 = .ok (.ldc2_w 113, 3) := by decide +kernel
theorem dX8_nextToken_251 : decode cX8_nextToken 251 = .ok (.lsub, 1) := by decide +kernel
theorem dX8_nextToken_252 : decode cX8_nextToken 252 = .ok (.putfield 80, 3) := by decide +kernel
theorem dX8_nextToken_255 : decode cX8_nextToken 255 = .ok (.aload_n 0, 1) := by decide +kernel
theorem dX8_nextToken_256 : decode cX8_nextToken 256 = .ok (.dup, 1) := by decide +kernel
theorem dX8_nextToken_257 : decode cX8_nextToken 257 = .ok (.getfield 48, 3) := by decide +kernel
theorem dX8_nextToken_260 : decode cX8_nextToken 260 = .ok (.iconst 1, 1) := by decide +kernel
theorem dX8_nextToken_261 : decode cX8_nextToken 261 = .ok (.iadd, 1) := by decide +kernel
theorem dX8_nextToken_262 : decode cX8_nextToken 262 = .ok (.putfield 48, 3) := by decide +kernel
theorem dX8_nextToken_265 : decode cX8_nextToken 265 = .ok (.goto (-64), 3) := by decide +kernel
theorem dX8_nextToken_268 : decode cX8_nextToken 268 = .ok (.aload_n 0, 1) := by decide +kernel
theorem dX8_nextToken_269 : decode cX8_nextToken 269 = .ok (.aload_n 0, 1) := by decide +kernel
theorem dX8_nextToken_270 : decode cX8_nextToken 270 = .ok (.getfield 48, 3) := by decide +kernel
theorem dX8_nextToken_273 : decode cX8_nextToken 273 = .ok (.aload_n 0, 1) := by decide +kernel
theorem dX8_nextToken_274 : decode cX8_nextToken 274 = .ok (.getfield 104, 3) := by decide +kernel
theorem dX8_nextToken_277 : decode cX8_nextToken 277 = .ok (.isub, 1) := by decide +kernel
theorem dX8_nextToken_278 : decode cX8_nextToken 278 = .ok (.iconst 4, 1) := by decide +kernel
theorem dX8_nextToken_279 : decode cX8_nextToken 279 = .ok (.if_icmp .gt 7, 3) := by decide +kernel
theorem dX8_nextToken_282 : decode cX8_nextToken 282 = .ok (.iconst 2, 1) := by decide +kernel
theorem dX8_nextToken_283 : decode cX8_nextToken 283 = .ok (.goto 5, 3) := by decide +kernel
theorem dX8_nextToken_286 : decode cX8_nextToken 286 = .ok (.bipush 6, 2) := by decide +kernel
theorem dX8_nextToken_288 : decode cX8_nextToken 288 = .ok (.putfield 57, 3) := by decide +kernel
theorem dX8_nextToken_291 : decode cX8_nextToken 291 = .ok (.goto 20, 3) := by decide +kernel
theorem dX8_nextToken_294 : decode cX8_nextToken 294 = .ok (.aload_n 0, 1) := by decide +kernel
theorem dX8_nextToken_295 : decode cX8_nextToken 295 = .ok (.getfield 57, 3) := by decide +kernel
theorem dX8_nextToken_298 : decode cX8_nextToken 298 = .ok (.ifCond .eq 13, 3) := by decide +kernel
theorem dX8_nextToken_301 : decode cX8_nextToken 301 = .ok (.aload_n 0, 1) := by decide +kernel
theorem dX8_nextToken_302 : decode cX8_nextToken 302 = .ok (.dup, 1) := by decide +kernel
theorem dX8_nextToken_303 : decode cX8_nextToken 303 = .ok (.getfield 48, 3) := by decide +kernel
theorem dX8_nextToken_306 : decode cX8_nextToken 306 = .ok (.iconst 1, 1) := by decide +kernel
theorem dX8_nextToken_307 : decode cX8_nextToken 307 = .ok (.iadd, 1) := by decide +kernel
theorem dX8_nextToken_308 : decode cX8_nextToken 308 = .ok (.putfield 48, 3) := by decide +kernel
theorem dX8_nextToken_311 : decode cX8_nextToken 311 = .ok (.return_, 1) := by decide +kernel
theorem dX8_tokenBegunBy_0 : decode cX8_tokenBegunBy 0 = .ok (.iload_n 0, 1) := by decide +kernel
theorem dX8_tokenBegunBy_1 : decode cX8_tokenBegunBy 1 = .ok (.bipush 97, 2) := by decide +kernel
theorem dX8_tokenBegunBy_3 : decode cX8_tokenBegunBy 3 = .ok (.if_icmp .lt 11, 3) := by decide +kernel
theorem dX8_tokenBegunBy_6 : decode cX8_tokenBegunBy 6 = .ok (.iload_n 0, 1) := by decide +kernel
theorem dX8_tokenBegunBy_7 : decode cX8_tokenBegunBy 7 = .ok (.bipush 122, 2) := by decide +kernel
theorem dX8_tokenBegunBy_9 : decode cX8_tokenBegunBy 9 = .ok (.if_icmp .gt 5, 3) := by decide +kernel
theorem dX8_tokenBegunBy_12 : decode cX8_tokenBegunBy 12 = .ok (.iconst 1, 1) := by decide +kernel
theorem dX8_tokenBegunBy_13 : decode cX8_tokenBegunBy 13 = .ok (.ireturn, 1) := by decide +kernel
theorem dX8_tokenBegunBy_14 : decode cX8_tokenBegunBy 14 = .ok (.iload_n 0, 1) := by decide +kernel
theorem dX8_tokenBegunBy_15 : decode cX8_tokenBegunBy 15 = .ok (.bipush 48, 2) := by decide +kernel
theorem dX8_tokenBegunBy_17 : decode cX8_tokenBegunBy 17 = .ok (.if_icmp .lt 11, 3) := by decide +kernel
theorem dX8_tokenBegunBy_20 : decode cX8_tokenBegunBy 20 = .ok (.iload_n 0, 1) := by decide +kernel
theorem dX8_tokenBegunBy_21 : decode cX8_tokenBegunBy 21 = .ok (.bipush 57, 2) := by decide +kernel
theorem dX8_tokenBegunBy_23 : decode cX8_tokenBegunBy 23 = .ok (.if_icmp .gt 5, 3) := by decide +kernel
theorem dX8_tokenBegunBy_26 : decode cX8_tokenBegunBy 26 = .ok (.iconst 2, 1) := by decide +kernel
theorem dX8_tokenBegunBy_27 : decode cX8_tokenBegunBy 27 = .ok (.ireturn, 1) := by decide +kernel
theorem dX8_tokenBegunBy_28 : decode cX8_tokenBegunBy 28 = .ok (.iload_n 0, 1) := by decide +kernel
theorem dX8_tokenBegunBy_29 : decode cX8_tokenBegunBy 29 = .ok (.lookupswitch 41 #[(40, 35), (41, 37), (59, 39)], 35) := by decide +kernel
theorem dX8_tokenBegunBy_64 : decode cX8_tokenBegunBy 64 = .ok (.iconst 3, 1) := by decide +kernel
theorem dX8_tokenBegunBy_65 : decode cX8_tokenBegunBy 65 = .ok (.ireturn, 1) := by decide +kernel
theorem dX8_tokenBegunBy_66 : decode cX8_tokenBegunBy 66 = .ok (.iconst 4, 1) := by decide +kernel
theorem dX8_tokenBegunBy_67 : decode cX8_tokenBegunBy 67 = .ok (.ireturn, 1) := by decide +kernel
theorem dX8_tokenBegunBy_68 : decode cX8_tokenBegunBy 68 = .ok (.iconst 5, 1) := by decide +kernel
theorem dX8_tokenBegunBy_69 : decode cX8_tokenBegunBy 69 = .ok (.ireturn, 1) := by decide +kernel
theorem dX8_tokenBegunBy_70 : decode cX8_tokenBegunBy 70 = .ok (.bipush 6, 2) := by decide +kernel
theorem dX8_tokenBegunBy_72 : decode cX8_tokenBegunBy 72 = .ok (.ireturn, 1) := by decide +kernel
theorem dX9_init_0 : decode cX9_init 0 = .ok (.aload_n 0, 1) := by decide +kernel
theorem dX9_init_1 : decode cX9_init 1 = .ok (.invokespecial 3, 3) := by decide +kernel
theorem dX9_init_4 : decode cX9_init 4 = .ok (.aload_n 0, 1) := by decide +kernel
theorem dX9_init_5 : decode cX9_init 5 = .ok (.bipush 12, 2) := by decide +kernel
theorem dX9_init_7 : decode cX9_init 7 = .ok (.anewarray 9, 3) := by decide +kernel
theorem dX9_init_10 : decode cX9_init 10 = .ok (.putfield 11, 3) := by decide +kernel
theorem dX9_init_13 : decode cX9_init 13 = .ok (.return_, 1) := by decide +kernel
theorem dX9_clear_0 : decode cX9_clear 0 = .ok (.aload_n 0, 1) := by decide +kernel
theorem dX9_clear_1 : decode cX9_clear 1 = .ok (.iconst 0, 1) := by decide +kernel
theorem dX9_clear_2 : decode cX9_clear 2 = .ok (.putfield 17, 3) := by decide +kernel
theorem dX9_clear_5 : decode cX9_clear 5 = .ok (.aload_n 0, 1) := by decide +kernel
theorem dX9_clear_6 : decode cX9_clear 6 = .ok (.iconst 0, 1) := by decide +kernel
theorem dX9_clear_7 : decode cX9_clear 7 = .ok (.putfield 21, 3) := by decide +kernel
theorem dX9_clear_10 : decode cX9_clear 10 = .ok (.return_, 1) := by decide +kernel
theorem dX9_put_0 : decode cX9_put 0 = .ok (.aload_n 0, 1) := by decide +kernel
theorem dX9_put_1 : decode cX9_put 1 = .ok (.getfield 17, 3) := by decide +kernel
theorem dX9_put_4 : decode cX9_put 4 = .ok (.bipush 12, 2) := by decide +kernel
theorem dX9_put_6 : decode cX9_put 6 = .ok (.if_icmp .ge 23, 3) := by decide +kernel
theorem dX9_put_9 : decode cX9_put 9 = .ok (.aload_n 0, 1) := by decide +kernel
theorem dX9_put_10 : decode cX9_put 10 = .ok (.getfield 11, 3) := by decide +kernel
theorem dX9_put_13 : decode cX9_put 13 = .ok (.aload_n 0, 1) := by decide +kernel
theorem dX9_put_14 : decode cX9_put 14 = .ok (.getfield 17, 3) := by decide +kernel
theorem dX9_put_17 : decode cX9_put 17 = .ok (.aload_n 1, 1) := by decide +kernel
theorem dX9_put_18 : decode cX9_put 18 = .ok (.aastore, 1) := by decide +kernel
theorem dX9_put_19 : decode cX9_put 19 = .ok (.aload_n 0, 1) := by decide +kernel
theorem dX9_put_20 : decode cX9_put 20 = .ok (.dup, 1) := by decide +kernel
theorem dX9_put_21 : decode cX9_put 21 = .ok (.getfield 17, 3) := by decide +kernel
theorem dX9_put_24 : decode cX9_put 24 = .ok (.iconst 1, 1) := by decide +kernel
theorem dX9_put_25 : decode cX9_put 25 = .ok (.iadd, 1) := by decide +kernel
theorem dX9_put_26 : decode cX9_put 26 = .ok (.putfield 17, 3) := by decide +kernel
theorem dX9_put_29 : decode cX9_put 29 = .ok (.return_, 1) := by decide +kernel
theorem dX9_dropLast_0 : decode cX9_dropLast 0 = .ok (.aload_n 0, 1) := by decide +kernel
theorem dX9_dropLast_1 : decode cX9_dropLast 1 = .ok (.getfield 17, 3) := by decide +kernel
theorem dX9_dropLast_4 : decode cX9_dropLast 4 = .ok (.ifCond .le 13, 3) := by decide +kernel
theorem dX9_dropLast_7 : decode cX9_dropLast 7 = .ok (.aload_n 0, 1) := by decide +kernel
theorem dX9_dropLast_8 : decode cX9_dropLast 8 = .ok (.dup, 1) := by decide +kernel
theorem dX9_dropLast_9 : decode cX9_dropLast 9 = .ok (.getfield 17, 3) := by decide +kernel
theorem dX9_dropLast_12 : decode cX9_dropLast 12 = .ok (.iconst 1, 1) := by decide +kernel
theorem dX9_dropLast_13 : decode cX9_dropLast 13 = .ok (.isub, 1) := by decide +kernel
theorem dX9_dropLast_14 : decode cX9_dropLast 14 = .ok (.putfield 17, 3) := by decide +kernel
theorem dX9_dropLast_17 : decode cX9_dropLast 17 = .ok (.return_, 1) := by decide +kernel
theorem dX9_copyFrom_0 : decode cX9_copyFrom 0 = .ok (.aload_n 0, 1) := by decide +kernel
theorem dX9_copyFrom_1 : decode cX9_copyFrom 1 = .ok (.aload_n 1, 1) := by decide +kernel
theorem dX9_copyFrom_2 : decode cX9_copyFrom 2 = .ok (.getfield 17, 3) := by decide +kernel
theorem dX9_copyFrom_5 : decode cX9_copyFrom 5 = .ok (.putfield 17, 3) := by decide +kernel
theorem dX9_copyFrom_8 : decode cX9_copyFrom 8 = .ok (.aload_n 0, 1) := by decide +kernel
theorem dX9_copyFrom_9 : decode cX9_copyFrom 9 = .ok (.iconst 1, 1) := by decide +kernel
theorem dX9_copyFrom_10 : decode cX9_copyFrom 10 = .ok (.putfield 21, 3) := by decide +kernel
theorem dX9_copyFrom_13 : decode cX9_copyFrom 13 = .ok (.iconst 0, 1) := by decide +kernel
theorem dX9_copyFrom_14 : decode cX9_copyFrom 14 = .ok (.istore_n 2, 1) := by decide +kernel
theorem dX9_copyFrom_15 : decode cX9_copyFrom 15 = .ok (.iload_n 2, 1) := by decide +kernel
theorem dX9_copyFrom_16 : decode cX9_copyFrom 16 = .ok (.aload_n 0, 1) := by decide +kernel
theorem dX9_copyFrom_17 : decode cX9_copyFrom 17 = .ok (.getfield 17, 3) := by decide +kernel
theorem dX9_copyFrom_20 : decode cX9_copyFrom 20 = .ok (.if_icmp .ge 21, 3) := by decide +kernel
theorem dX9_copyFrom_23 : decode cX9_copyFrom 23 = .ok (.aload_n 0, 1) := by decide +kernel
theorem dX9_copyFrom_24 : decode cX9_copyFrom 24 = .ok (.getfield 11, 3) := by decide +kernel
theorem dX9_copyFrom_27 : decode cX9_copyFrom 27 = .ok (.iload_n 2, 1) := by decide +kernel
theorem dX9_copyFrom_28 : decode cX9_copyFrom 28 = .ok (.aload_n 1, 1) := by decide +kernel
theorem dX9_copyFrom_29 : decode cX9_copyFrom 29 = .ok (.getfield 11, 3) := by decide +kernel
theorem dX9_copyFrom_32 : decode cX9_copyFrom 32 = .ok (.iload_n 2, 1) := by decide +kernel
theorem dX9_copyFrom_33 : decode cX9_copyFrom 33 = .ok (.aaload, 1) := by decide +kernel
theorem dX9_copyFrom_34 : decode cX9_copyFrom 34 = .ok (.aastore, 1) := by decide +kernel
theorem dX9_copyFrom_35 : decode cX9_copyFrom 35 = .ok (.iinc 2 1, 3) := by decide +kernel
theorem dX9_copyFrom_38 : decode cX9_copyFrom 38 = .ok (.goto (-23), 3) := by decide +kernel
theorem dX9_copyFrom_41 : decode cX9_copyFrom 41 = .ok (.return_, 1) := by decide +kernel
theorem dX9_find_0 : decode cX9_find 0 = .ok (.iload_n 1, 1) := by decide +kernel
theorem dX9_find_1 : decode cX9_find 1 = .ok (.ifCond .lt 11, 3) := by decide +kernel
theorem dX9_find_4 : decode cX9_find 4 = .ok (.iload_n 1, 1) := by decide +kernel
theorem dX9_find_5 : decode cX9_find 5 = .ok (.aload_n 0, 1) := by decide +kernel
theorem dX9_find_6 : decode cX9_find 6 = .ok (.getfield 17, 3) := by decide +kernel
theorem dX9_find_9 : decode cX9_find 9 = .ok (.if_icmp .lt 7, 3) := by decide +kernel
theorem dX9_find_12 : decode cX9_find 12 = .ok (.aconst_null, 1) := by decide +kernel
theorem dX9_find_13 : decode cX9_find 13 = .ok (.goto 9, 3) := by decide +kernel
theorem dX9_find_16 : decode cX9_find 16 = .ok (.aload_n 0, 1) := by decide +kernel
theorem dX9_find_17 : decode cX9_find 17 = .ok (.getfield 11, 3) := by decide +kernel
theorem dX9_find_20 : decode cX9_find 20 = .ok (.iload_n 1, 1) := by decide +kernel
theorem dX9_find_21 : decode cX9_find 21 = .ok (.aaload, 1) := by decide +kernel
theorem dX9_find_22 : decode cX9_find 22 = .ok (.areturn, 1) := by decide +kernel
theorem dX9_failing_0 : decode cX9_failing 0 = .ok (.iconst 0, 1) := by decide +kernel
theorem dX9_failing_1 : decode cX9_failing 1 = .ok (.istore_n 1, 1) := by decide +kernel
theorem dX9_failing_2 : decode cX9_failing 2 = .ok (.iconst 0, 1) := by decide +kernel
theorem dX9_failing_3 : decode cX9_failing 3 = .ok (.istore_n 2, 1) := by decide +kernel
theorem dX9_failing_4 : decode cX9_failing 4 = .ok (.iload_n 2, 1) := by decide +kernel
theorem dX9_failing_5 : decode cX9_failing 5 = .ok (.aload_n 0, 1) := by decide +kernel
theorem dX9_failing_6 : decode cX9_failing 6 = .ok (.getfield 17, 3) := by decide +kernel
theorem dX9_failing_9 : decode cX9_failing 9 = .ok (.if_icmp .ge 35, 3) := by decide +kernel
theorem dX9_failing_12 : decode cX9_failing 12 = .ok (.aload_n 0, 1) := by decide +kernel
theorem dX9_failing_13 : decode cX9_failing 13 = .ok (.getfield 11, 3) := by decide +kernel
theorem dX9_failing_16 : decode cX9_failing 16 = .ok (.iload_n 2, 1) := by decide +kernel
theorem dX9_failing_17 : decode cX9_failing 17 = .ok (.aaload, 1) := by decide +kernel
theorem dX9_failing_18 : decode cX9_failing 18 = .ok (.astore_n 3, 1) := by decide +kernel
theorem dX9_failing_19 : decode cX9_failing 19 = .ok (.iload_n 1, 1) := by decide +kernel
theorem dX9_failing_20 : decode cX9_failing 20 = .ok (.aload_n 3, 1) := by decide +kernel
theorem dX9_failing_21 : decode cX9_failing 21 = .ok (.ifnull 14, 3) := by decide +kernel
theorem dX9_failing_24 : decode cX9_failing 24 = .ok (.aload_n 3, 1) := by decide +kernel
theorem dX9_failing_25 : decode cX9_failing 25 = .ok (.getfield 25, 3) := by decide +kernel
theorem dX9_failing_28 : decode cX9_failing 28 = .ok (.ifCond .eq 7, 3) := by decide +kernel
theorem dX9_failing_31 : decode cX9_failing 31 = .ok (.iconst 1, 1) := by decide +kernel
theorem dX9_failing_32 : decode cX9_failing 32 = .ok (.goto 4, 3) := by decide +kernel
theorem dX9_failing_35 : decode cX9_failing 35 = .ok (.iconst 0, 1) := by decide +kernel
theorem dX9_failing_36 : decode cX9_failing 36 = .ok (.iadd, 1) := by decide +kernel
theorem dX9_failing_37 : decode cX9_failing 37 = .ok (.istore_n 1, 1) := by decide +kernel
theorem dX9_failing_38 : decode cX9_failing 38 = .ok (.iinc 2 1, 3) := by decide +kernel
theorem dX9_failing_41 : decode cX9_failing 41 = .ok (.goto (-37), 3) := by decide +kernel
theorem dX9_failing_44 : decode cX9_failing 44 = .ok (.iload_n 1, 1) := by decide +kernel
theorem dX9_failing_45 : decode cX9_failing 45 = .ok (.ireturn, 1) := by decide +kernel
theorem dX9_perfectOnes_0 : decode cX9_perfectOnes 0 = .ok (.iconst 0, 1) := by decide +kernel
theorem dX9_perfectOnes_1 : decode cX9_perfectOnes 1 = .ok (.istore_n 1, 1) := by decide +kernel
theorem dX9_perfectOnes_2 : decode cX9_perfectOnes 2 = .ok (.iconst 0, 1) := by decide +kernel
theorem dX9_perfectOnes_3 : decode cX9_perfectOnes 3 = .ok (.istore_n 2, 1) := by decide +kernel
theorem dX9_perfectOnes_4 : decode cX9_perfectOnes 4 = .ok (.iload_n 2, 1) := by decide +kernel
theorem dX9_perfectOnes_5 : decode cX9_perfectOnes 5 = .ok (.aload_n 0, 1) := by decide +kernel
theorem dX9_perfectOnes_6 : decode cX9_perfectOnes 6 = .ok (.getfield 17, 3) := by decide +kernel
theorem dX9_perfectOnes_9 : decode cX9_perfectOnes 9 = .ok (.if_icmp .ge 35, 3) := by decide +kernel
theorem dX9_perfectOnes_12 : decode cX9_perfectOnes 12 = .ok (.aload_n 0, 1) := by decide +kernel
theorem dX9_perfectOnes_13 : decode cX9_perfectOnes 13 = .ok (.getfield 11, 3) := by decide +kernel
theorem dX9_perfectOnes_16 : decode cX9_perfectOnes 16 = .ok (.iload_n 2, 1) := by decide +kernel
theorem dX9_perfectOnes_17 : decode cX9_perfectOnes 17 = .ok (.aaload, 1) := by decide +kernel
theorem dX9_perfectOnes_18 : decode cX9_perfectOnes 18 = .ok (.astore_n 3, 1) := by decide +kernel
theorem dX9_perfectOnes_19 : decode cX9_perfectOnes 19 = .ok (.iload_n 1, 1) := by decide +kernel
theorem dX9_perfectOnes_20 : decode cX9_perfectOnes 20 = .ok (.aload_n 3, 1) := by decide +kernel
theorem dX9_perfectOnes_21 : decode cX9_perfectOnes 21 = .ok (.ifnull 14, 3) := by decide +kernel
theorem dX9_perfectOnes_24 : decode cX9_perfectOnes 24 = .ok (.aload_n 3, 1) := by decide +kernel
theorem dX9_perfectOnes_25 : decode cX9_perfectOnes 25 = .ok (.invokevirtual 28, 3) := by decide +kernel
theorem dX9_perfectOnes_28 : decode cX9_perfectOnes 28 = .ok (.ifCond .eq 7, 3) := by decide +kernel
theorem dX9_perfectOnes_31 : decode cX9_perfectOnes 31 = .ok (.iconst 1, 1) := by decide +kernel
theorem dX9_perfectOnes_32 : decode cX9_perfectOnes 32 = .ok (.goto 4, 3) := by decide +kernel
theorem dX9_perfectOnes_35 : decode cX9_perfectOnes 35 = .ok (.iconst 0, 1) := by decide +kernel
theorem dX9_perfectOnes_36 : decode cX9_perfectOnes 36 = .ok (.iadd, 1) := by decide +kernel
theorem dX9_perfectOnes_37 : decode cX9_perfectOnes 37 = .ok (.istore_n 1, 1) := by decide +kernel
theorem dX9_perfectOnes_38 : decode cX9_perfectOnes 38 = .ok (.iinc 2 1, 3) := by decide +kernel
theorem dX9_perfectOnes_41 : decode cX9_perfectOnes 41 = .ok (.goto (-37), 3) := by decide +kernel
theorem dX9_perfectOnes_44 : decode cX9_perfectOnes 44 = .ok (.iload_n 1, 1) := by decide +kernel
theorem dX9_perfectOnes_45 : decode cX9_perfectOnes 45 = .ok (.ireturn, 1) := by decide +kernel
theorem dX10_init_0 : decode cX10_init 0 = .ok (.aload_n 0, 1) := by decide +kernel
theorem dX10_init_1 : decode cX10_init 1 = .ok (.invokespecial 1, 3) := by decide +kernel
theorem dX10_init_4 : decode cX10_init 4 = .ok (.aload_n 0, 1) := by decide +kernel
theorem dX10_init_5 : decode cX10_init 5 = .ok (.iconst (-1), 1) := by decide +kernel
theorem dX10_init_6 : decode cX10_init 6 = .ok (.putfield 9, 3) := by decide +kernel
theorem dX10_init_9 : decode cX10_init 9 = .ok (.aload_n 0, 1) := by decide +kernel
theorem dX10_init_10 : decode cX10_init 10 = .ok (.iload_n 1, 1) := by decide +kernel
theorem dX10_init_11 : decode cX10_init 11 = .ok (.putfield 13, 3) := by decide +kernel
theorem dX10_init_14 : decode cX10_init 14 = .ok (.aload_n 0, 1) := by decide +kernel
theorem dX10_init_15 : decode cX10_init 15 = .ok (.iload_n 3, 1) := by decide +kernel
theorem dX10_init_16 : decode cX10_init 16 = .ok (.putfield 16, 3) := by decide +kernel
theorem dX10_init_19 : decode cX10_init 19 = .ok (.aload_n 0, 1) := by decide +kernel
theorem dX10_init_20 : decode cX10_init 20 = .ok (.aload 4, 2) := by decide +kernel
theorem dX10_init_22 : decode cX10_init 22 = .ok (.putfield 19, 3) := by decide +kernel
theorem dX10_init_25 : decode cX10_init 25 = .ok (.aload_n 0, 1) := by decide +kernel
theorem dX10_init_26 : decode cX10_init 26 = .ok (.aload_n 2, 1) := by decide +kernel
theorem dX10_init_27 : decode cX10_init 27 = .ok (.ifnonnull 7, 3) := by decide +kernel
theorem dX10_init_30 : decode cX10_init 30 = .ok (.iconst 1, 1) := by decide +kernel
theorem dX10_init_31 : decode cX10_init 31 = .ok (.goto 4, 3) := by decide +kernel
theorem dX10_init_34 : decode cX10_init 34 = .ok (.iconst 0, 1) := by decide +kernel
theorem dX10_init_35 : decode cX10_init 35 = .ok (.putfield 23, 3) := by decide +kernel
theorem dX10_init_38 : decode cX10_init 38 = .ok (.aload_n 0, 1) := by decide +kernel
theorem dX10_init_39 : decode cX10_init 39 = .ok (.aload_n 2, 1) := by decide +kernel
theorem dX10_init_40 : decode cX10_init 40 = .ok (.ifnonnull 7, 3) := by decide +kernel
theorem dX10_init_43 : decode cX10_init 43 = .ok (.iconst 0, 1) := by decide +kernel
theorem dX10_init_44 : decode cX10_init 44 = .ok (.goto 7, 3) := by decide +kernel
theorem dX10_init_47 : decode cX10_init 47 = .ok (.aload_n 2, 1) := by decide +kernel
theorem dX10_init_48 : decode cX10_init 48 = .ok (.getfield 27, 3) := by decide +kernel
theorem dX10_init_51 : decode cX10_init 51 = .ok (.putfield 32, 3) := by decide +kernel
theorem dX10_init_54 : decode cX10_init 54 = .ok (.aload_n 0, 1) := by decide +kernel
theorem dX10_init_55 : decode cX10_init 55 = .ok (.aload_n 2, 1) := by decide +kernel
theorem dX10_init_56 : decode cX10_init 56 = .ok (.ifnonnull 7, 3) := by decide +kernel
theorem dX10_init_59 : decode cX10_init 59 = .ok (.iconst 0, 1) := by decide +kernel
theorem dX10_init_60 : decode cX10_init 60 = .ok (.goto 7, 3) := by decide +kernel
theorem dX10_init_63 : decode cX10_init 63 = .ok (.aload_n 2, 1) := by decide +kernel
theorem dX10_init_64 : decode cX10_init 64 = .ok (.getfield 33, 3) := by decide +kernel
theorem dX10_init_67 : decode cX10_init 67 = .ok (.putfield 36, 3) := by decide +kernel
theorem dX10_init_70 : decode cX10_init 70 = .ok (.aload_n 0, 1) := by decide +kernel
theorem dX10_init_71 : decode cX10_init 71 = .ok (.aload_n 2, 1) := by decide +kernel
theorem dX10_init_72 : decode cX10_init 72 = .ok (.ifnonnull 7, 3) := by decide +kernel
theorem dX10_init_75 : decode cX10_init 75 = .ok (.iconst 0, 1) := by decide +kernel
theorem dX10_init_76 : decode cX10_init 76 = .ok (.goto 7, 3) := by decide +kernel
theorem dX10_init_79 : decode cX10_init 79 = .ok (.aload_n 2, 1) := by decide +kernel
theorem dX10_init_80 : decode cX10_init 80 = .ok (.getfield 37, 3) := by decide +kernel
theorem dX10_init_83 : decode cX10_init 83 = .ok (.putfield 40, 3) := by decide +kernel
theorem dX10_init_86 : decode cX10_init 86 = .ok (.aload_n 0, 1) := by decide +kernel
theorem dX10_init_87 : decode cX10_init 87 = .ok (.aload_n 0, 1) := by decide +kernel
theorem dX10_init_88 : decode cX10_init 88 = .ok (.getfield 32, 3) := by decide +kernel
theorem dX10_init_91 : decode cX10_init 91 = .ok (.newarray .int, 2) := by decide +kernel
theorem dX10_init_93 : decode cX10_init 93 = .ok (.putfield 41, 3) := by decide +kernel
theorem dX10_init_96 : decode cX10_init 96 = .ok (.aload_n 0, 1) := by decide +kernel
theorem dX10_init_97 : decode cX10_init 97 = .ok (.aload_n 0, 1) := by decide +kernel
theorem dX10_init_98 : decode cX10_init 98 = .ok (.getfield 32, 3) := by decide +kernel
theorem dX10_init_101 : decode cX10_init 101 = .ok (.newarray .int, 2) := by decide +kernel
theorem dX10_init_103 : decode cX10_init 103 = .ok (.putfield 45, 3) := by decide +kernel
theorem dX10_init_106 : decode cX10_init 106 = .ok (.aload_n 0, 1) := by decide +kernel
theorem dX10_init_107 : decode cX10_init 107 = .ok (.aload_n 0, 1) := by decide +kernel
theorem dX10_init_108 : decode cX10_init 108 = .ok (.getfield 32, 3) := by decide +kernel
theorem dX10_init_111 : decode cX10_init 111 = .ok (.newarray .int, 2) := by decide +kernel
theorem dX10_init_113 : decode cX10_init 113 = .ok (.putfield 48, 3) := by decide +kernel
theorem dX10_init_116 : decode cX10_init 116 = .ok (.iconst 0, 1) := by decide +kernel
theorem dX10_init_117 : decode cX10_init 117 = .ok (.istore 5, 2) := by decide +kernel
theorem dX10_init_119 : decode cX10_init 119 = .ok (.iload 5, 2) := by decide +kernel
theorem dX10_init_121 : decode cX10_init 121 = .ok (.aload_n 0, 1) := by decide +kernel
theorem dX10_init_122 : decode cX10_init 122 = .ok (.getfield 32, 3) := by decide +kernel
theorem dX10_init_125 : decode cX10_init 125 = .ok (.if_icmp .ge 55, 3) := by decide +kernel
theorem dX10_init_128 : decode cX10_init 128 = .ok (.aload_n 2, 1) := by decide +kernel
theorem dX10_init_129 : decode cX10_init 129 = .ok (.ifnull 51, 3) := by decide +kernel
theorem dX10_init_132 : decode cX10_init 132 = .ok (.aload_n 0, 1) := by decide +kernel
theorem dX10_init_133 : decode cX10_init 133 = .ok (.getfield 41, 3) := by decide +kernel
theorem dX10_init_136 : decode cX10_init 136 = .ok (.iload 5, 2) := by decide +kernel
theorem dX10_init_138 : decode cX10_init 138 = .ok (.aload_n 2, 1) := by decide +kernel
theorem dX10_init_139 : decode cX10_init 139 = .ok (.getfield 51, 3) := by decide +kernel
theorem dX10_init_142 : decode cX10_init 142 = .ok (.iload 5, 2) := by decide +kernel
theorem dX10_init_144 : decode cX10_init 144 = .ok (.iaload, 1) := by decide +kernel
theorem dX10_init_145 : decode cX10_init 145 = .ok (.iastore, 1) := by decide +kernel
theorem dX10_init_146 : decode cX10_init 146 = .ok (.aload_n 0, 1) := by decide +kernel
theorem dX10_init_147 : decode cX10_init 147 = .ok (.getfield 45, 3) := by decide +kernel
theorem dX10_init_150 : decode cX10_init 150 = .ok (.iload 5, 2) := by decide +kernel
theorem dX10_init_152 : decode cX10_init 152 = .ok (.aload_n 2, 1) := by decide +kernel
theorem dX10_init_153 : decode cX10_init 153 = .ok (.getfield 52, 3) := by decide +kernel
theorem dX10_init_156 : decode cX10_init 156 = .ok (.iload 5, 2) := by decide +kernel
theorem dX10_init_158 : decode cX10_init 158 = .ok (.iaload, 1) := by decide +kernel
theorem dX10_init_159 : decode cX10_init 159 = .ok (.iastore, 1) := by decide +kernel
theorem dX10_init_160 : decode cX10_init 160 = .ok (.aload_n 0, 1) := by decide +kernel
theorem dX10_init_161 : decode cX10_init 161 = .ok (.getfield 48, 3) := by decide +kernel
theorem dX10_init_164 : decode cX10_init 164 = .ok (.iload 5, 2) := by decide +kernel
theorem dX10_init_166 : decode cX10_init 166 = .ok (.aload_n 2, 1) := by decide +kernel
theorem dX10_init_167 : decode cX10_init 167 = .ok (.getfield 53, 3) := by decide +kernel
theorem dX10_init_170 : decode cX10_init 170 = .ok (.iload 5, 2) := by decide +kernel
theorem dX10_init_172 : decode cX10_init 172 = .ok (.iaload, 1) := by decide +kernel
theorem dX10_init_173 : decode cX10_init 173 = .ok (.iastore, 1) := by decide +kernel
theorem dX10_init_174 : decode cX10_init 174 = .ok (.iinc 5 1, 3) := by decide +kernel
theorem dX10_init_177 : decode cX10_init 177 = .ok (.goto (-58), 3) := by decide +kernel
theorem dX10_init_180 : decode cX10_init 180 = .ok (.return_, 1) := by decide +kernel
theorem dX10_right_0 : decode cX10_right 0 = .ok (.aload_n 0, 1) := by decide +kernel
theorem dX10_right_1 : decode cX10_right 1 = .ok (.getfield 41, 3) := by decide +kernel
theorem dX10_right_4 : decode cX10_right 4 = .ok (.iload_n 1, 1) := by decide +kernel
theorem dX10_right_5 : decode cX10_right 5 = .ok (.iaload, 1) := by decide +kernel
theorem dX10_right_6 : decode cX10_right 6 = .ok (.aload_n 0, 1) := by decide +kernel
theorem dX10_right_7 : decode cX10_right 7 = .ok (.getfield 48, 3) := by decide +kernel
theorem dX10_right_10 : decode cX10_right 10 = .ok (.iload_n 1, 1) := by decide +kernel
theorem dX10_right_11 : decode cX10_right 11 = .ok (.iaload, 1) := by decide +kernel
theorem dX10_right_12 : decode cX10_right 12 = .ok (.iadd, 1) := by decide +kernel
theorem dX10_right_13 : decode cX10_right 13 = .ok (.ireturn, 1) := by decide +kernel
theorem dX10_bottom_0 : decode cX10_bottom 0 = .ok (.aload_n 0, 1) := by decide +kernel
theorem dX10_bottom_1 : decode cX10_bottom 1 = .ok (.getfield 45, 3) := by decide +kernel
theorem dX10_bottom_4 : decode cX10_bottom 4 = .ok (.iload_n 1, 1) := by decide +kernel
theorem dX10_bottom_5 : decode cX10_bottom 5 = .ok (.iaload, 1) := by decide +kernel
theorem dX10_bottom_6 : decode cX10_bottom 6 = .ok (.aload_n 0, 1) := by decide +kernel
theorem dX10_bottom_7 : decode cX10_bottom 7 = .ok (.getfield 48, 3) := by decide +kernel
theorem dX10_bottom_10 : decode cX10_bottom 10 = .ok (.iload_n 1, 1) := by decide +kernel
theorem dX10_bottom_11 : decode cX10_bottom 11 = .ok (.iaload, 1) := by decide +kernel
theorem dX10_bottom_12 : decode cX10_bottom 12 = .ok (.iadd, 1) := by decide +kernel
theorem dX10_bottom_13 : decode cX10_bottom 13 = .ok (.ireturn, 1) := by decide +kernel
theorem dX10_isPerfect_0 : decode cX10_isPerfect 0 = .ok (.iconst 0, 1) := by decide +kernel
theorem dX10_isPerfect_1 : decode cX10_isPerfect 1 = .ok (.istore_n 1, 1) := by decide +kernel
theorem dX10_isPerfect_2 : decode cX10_isPerfect 2 = .ok (.iload_n 1, 1) := by decide +kernel
theorem dX10_isPerfect_3 : decode cX10_isPerfect 3 = .ok (.aload_n 0, 1) := by decide +kernel
theorem dX10_isPerfect_4 : decode cX10_isPerfect 4 = .ok (.getfield 32, 3) := by decide +kernel
theorem dX10_isPerfect_7 : decode cX10_isPerfect 7 = .ok (.if_icmp .ge 44, 3) := by decide +kernel
theorem dX10_isPerfect_10 : decode cX10_isPerfect 10 = .ok (.iload_n 1, 1) := by decide +kernel
theorem dX10_isPerfect_11 : decode cX10_isPerfect 11 = .ok (.iconst 1, 1) := by decide +kernel
theorem dX10_isPerfect_12 : decode cX10_isPerfect 12 = .ok (.iadd, 1) := by decide +kernel
theorem dX10_isPerfect_13 : decode cX10_isPerfect 13 = .ok (.istore_n 2, 1) := by decide +kernel
theorem dX10_isPerfect_14 : decode cX10_isPerfect 14 = .ok (.iload_n 2, 1) := by decide +kernel
theorem dX10_isPerfect_15 : decode cX10_isPerfect 15 = .ok (.aload_n 0, 1) := by decide +kernel
theorem dX10_isPerfect_16 : decode cX10_isPerfect 16 = .ok (.getfield 32, 3) := by decide +kernel
theorem dX10_isPerfect_19 : decode cX10_isPerfect 19 = .ok (.if_icmp .ge 26, 3) := by decide +kernel
theorem dX10_isPerfect_22 : decode cX10_isPerfect 22 = .ok (.aload_n 0, 1) := by decide +kernel
theorem dX10_isPerfect_23 : decode cX10_isPerfect 23 = .ok (.getfield 48, 3) := by decide +kernel
theorem dX10_isPerfect_26 : decode cX10_isPerfect 26 = .ok (.iload_n 1, 1) := by decide +kernel
theorem dX10_isPerfect_27 : decode cX10_isPerfect 27 = .ok (.iaload, 1) := by decide +kernel
theorem dX10_isPerfect_28 : decode cX10_isPerfect 28 = .ok (.aload_n 0, 1) := by decide +kernel
theorem dX10_isPerfect_29 : decode cX10_isPerfect 29 = .ok (.getfield 48, 3) := by decide +kernel
theorem dX10_isPerfect_32 : decode cX10_isPerfect 32 = .ok (.iload_n 2, 1) := by decide +kernel
theorem dX10_isPerfect_33 : decode cX10_isPerfect 33 = .ok (.iaload, 1) := by decide +kernel
theorem dX10_isPerfect_34 : decode cX10_isPerfect 34 = .ok (.if_icmp .ne 5, 3) := by decide +kernel
theorem dX10_isPerfect_37 : decode cX10_isPerfect 37 = .ok (.iconst 0, 1) := by decide +kernel
theorem dX10_isPerfect_38 : decode cX10_isPerfect 38 = .ok (.ireturn, 1) := by decide +kernel
theorem dX10_isPerfect_39 : decode cX10_isPerfect 39 = .ok (.iinc 2 1, 3) := by decide +kernel
theorem dX10_isPerfect_42 : decode cX10_isPerfect 42 = .ok (.goto (-28), 3) := by decide +kernel
theorem dX10_isPerfect_45 : decode cX10_isPerfect 45 = .ok (.iinc 1 1, 3) := by decide +kernel
theorem dX10_isPerfect_48 : decode cX10_isPerfect 48 = .ok (.goto (-46), 3) := by decide +kernel
theorem dX10_isPerfect_51 : decode cX10_isPerfect 51 = .ok (.aload_n 0, 1) := by decide +kernel
theorem dX10_isPerfect_52 : decode cX10_isPerfect 52 = .ok (.getfield 32, 3) := by decide +kernel
theorem dX10_isPerfect_55 : decode cX10_isPerfect 55 = .ok (.iconst 2, 1) := by decide +kernel
theorem dX10_isPerfect_56 : decode cX10_isPerfect 56 = .ok (.if_icmp .lt 7, 3) := by decide +kernel
theorem dX10_isPerfect_59 : decode cX10_isPerfect 59 = .ok (.iconst 1, 1) := by decide +kernel
theorem dX10_isPerfect_60 : decode cX10_isPerfect 60 = .ok (.goto 4, 3) := by decide +kernel
theorem dX10_isPerfect_63 : decode cX10_isPerfect 63 = .ok (.iconst 0, 1) := by decide +kernel
theorem dX10_isPerfect_64 : decode cX10_isPerfect 64 = .ok (.ireturn, 1) := by decide +kernel
theorem dX10_firstSmallest_0 : decode cX10_firstSmallest 0 = .ok (.iconst 0, 1) := by decide +kernel
theorem dX10_firstSmallest_1 : decode cX10_firstSmallest 1 = .ok (.istore_n 1, 1) := by decide +kernel
theorem dX10_firstSmallest_2 : decode cX10_firstSmallest 2 = .ok (.iconst 1, 1) := by decide +kernel
theorem dX10_firstSmallest_3 : decode cX10_firstSmallest 3 = .ok (.istore_n 2, 1) := by decide +kernel
theorem dX10_firstSmallest_4 : decode cX10_firstSmallest 4 = .ok (.iload_n 2, 1) := by decide +kernel
theorem dX10_firstSmallest_5 : decode cX10_firstSmallest 5 = .ok (.aload_n 0, 1) := by decide +kernel
theorem dX10_firstSmallest_6 : decode cX10_firstSmallest 6 = .ok (.getfield 32, 3) := by decide +kernel
theorem dX10_firstSmallest_9 : decode cX10_firstSmallest 9 = .ok (.if_icmp .ge 26, 3) := by decide +kernel
theorem dX10_firstSmallest_12 : decode cX10_firstSmallest 12 = .ok (.aload_n 0, 1) := by decide +kernel
theorem dX10_firstSmallest_13 : decode cX10_firstSmallest 13 = .ok (.getfield 48, 3) := by decide +kernel
theorem dX10_firstSmallest_16 : decode cX10_firstSmallest 16 = .ok (.iload_n 2, 1) := by decide +kernel
theorem dX10_firstSmallest_17 : decode cX10_firstSmallest 17 = .ok (.iaload, 1) := by decide +kernel
theorem dX10_firstSmallest_18 : decode cX10_firstSmallest 18 = .ok (.aload_n 0, 1) := by decide +kernel
theorem dX10_firstSmallest_19 : decode cX10_firstSmallest 19 = .ok (.getfield 48, 3) := by decide +kernel
theorem dX10_firstSmallest_22 : decode cX10_firstSmallest 22 = .ok (.iload_n 1, 1) := by decide +kernel
theorem dX10_firstSmallest_23 : decode cX10_firstSmallest 23 = .ok (.iaload, 1) := by decide +kernel
theorem dX10_firstSmallest_24 : decode cX10_firstSmallest 24 = .ok (.if_icmp .ge 5, 3) := by decide +kernel
theorem dX10_firstSmallest_27 : decode cX10_firstSmallest 27 = .ok (.iload_n 2, 1) := by decide +kernel
theorem dX10_firstSmallest_28 : decode cX10_firstSmallest 28 = .ok (.istore_n 1, 1) := by decide +kernel
theorem dX10_firstSmallest_29 : decode cX10_firstSmallest 29 = .ok (.iinc 2 1, 3) := by decide +kernel
theorem dX10_firstSmallest_32 : decode cX10_firstSmallest 32 = .ok (.goto (-28), 3) := by decide +kernel
theorem dX10_firstSmallest_35 : decode cX10_firstSmallest 35 = .ok (.iload_n 1, 1) := by decide +kernel
theorem dX10_firstSmallest_36 : decode cX10_firstSmallest 36 = .ok (.ireturn, 1) := by decide +kernel
theorem dX10_commonDivisor_0 : decode cX10_commonDivisor 0 = .ok (.iconst 0, 1) := by decide +kernel
theorem dX10_commonDivisor_1 : decode cX10_commonDivisor 1 = .ok (.istore_n 1, 1) := by decide +kernel
theorem dX10_commonDivisor_2 : decode cX10_commonDivisor 2 = .ok (.iconst 0, 1) := by decide +kernel
theorem dX10_commonDivisor_3 : decode cX10_commonDivisor 3 = .ok (.istore_n 2, 1) := by decide +kernel
theorem dX10_commonDivisor_4 : decode cX10_commonDivisor 4 = .ok (.iload_n 2, 1) := by decide +kernel
theorem dX10_commonDivisor_5 : decode cX10_commonDivisor 5 = .ok (.aload_n 0, 1) := by decide +kernel
theorem dX10_commonDivisor_6 : decode cX10_commonDivisor 6 = .ok (.getfield 32, 3) := by decide +kernel
theorem dX10_commonDivisor_9 : decode cX10_commonDivisor 9 = .ok (.if_icmp .ge 20, 3) := by decide +kernel
theorem dX10_commonDivisor_12 : decode cX10_commonDivisor 12 = .ok (.iload_n 1, 1) := by decide +kernel
theorem dX10_commonDivisor_13 : decode cX10_commonDivisor 13 = .ok (.aload_n 0, 1) := by decide +kernel
theorem dX10_commonDivisor_14 : decode cX10_commonDivisor 14 = .ok (.getfield 48, 3) := by decide +kernel
theorem dX10_commonDivisor_17 : decode cX10_commonDivisor 17 = .ok (.iload_n 2, 1) := by decide +kernel
theorem dX10_commonDivisor_18 : decode cX10_commonDivisor 18 = .ok (.iaload, 1) := by decide +kernel
theorem dX10_commonDivisor_19 : decode cX10_commonDivisor 19 = .ok (.invokestatic 54, 3) := by decide +kernel
theorem dX10_commonDivisor_22 : decode cX10_commonDivisor 22 = .ok (.istore_n 1, 1) := by decide +kernel
theorem dX10_commonDivisor_23 : decode cX10_commonDivisor 23 = .ok (.iinc 2 1, 3) := by decide +kernel
theorem dX10_commonDivisor_26 : decode cX10_commonDivisor 26 = .ok (.goto (-22), 3) := by decide +kernel
theorem dX10_commonDivisor_29 : decode cX10_commonDivisor 29 = .ok (.iload_n 1, 1) := by decide +kernel
theorem dX10_commonDivisor_30 : decode cX10_commonDivisor 30 = .ok (.ireturn, 1) := by decide +kernel
theorem dX10_startsGroup_0 : decode cX10_startsGroup 0 = .ok (.iload_n 1, 1) := by decide +kernel
theorem dX10_startsGroup_1 : decode cX10_startsGroup 1 = .ok (.ifCond .eq 36, 3) := by decide +kernel
theorem dX10_startsGroup_4 : decode cX10_startsGroup 4 = .ok (.aload_n 0, 1) := by decide +kernel
theorem dX10_startsGroup_5 : decode cX10_startsGroup 5 = .ok (.getfield 45, 3) := by decide +kernel
theorem dX10_startsGroup_8 : decode cX10_startsGroup 8 = .ok (.iload_n 1, 1) := by decide +kernel
theorem dX10_startsGroup_9 : decode cX10_startsGroup 9 = .ok (.iaload, 1) := by decide +kernel
theorem dX10_startsGroup_10 : decode cX10_startsGroup 10 = .ok (.aload_n 0, 1) := by decide +kernel
theorem dX10_startsGroup_11 : decode cX10_startsGroup 11 = .ok (.getfield 45, 3) := by decide +kernel
theorem dX10_startsGroup_14 : decode cX10_startsGroup 14 = .ok (.iload_n 1, 1) := by decide +kernel
theorem dX10_startsGroup_15 : decode cX10_startsGroup 15 = .ok (.iconst 1, 1) := by decide +kernel
theorem dX10_startsGroup_16 : decode cX10_startsGroup 16 = .ok (.isub, 1) := by decide +kernel
theorem dX10_startsGroup_17 : decode cX10_startsGroup 17 = .ok (.iaload, 1) := by decide +kernel
theorem dX10_startsGroup_18 : decode cX10_startsGroup 18 = .ok (.if_icmp .ne 19, 3) := by decide +kernel
theorem dX10_startsGroup_21 : decode cX10_startsGroup 21 = .ok (.aload_n 0, 1) := by decide +kernel
theorem dX10_startsGroup_22 : decode cX10_startsGroup 22 = .ok (.getfield 41, 3) := by decide +kernel
theorem dX10_startsGroup_25 : decode cX10_startsGroup 25 = .ok (.iload_n 1, 1) := by decide +kernel
theorem dX10_startsGroup_26 : decode cX10_startsGroup 26 = .ok (.iaload, 1) := by decide +kernel
theorem dX10_startsGroup_27 : decode cX10_startsGroup 27 = .ok (.aload_n 0, 1) := by decide +kernel
theorem dX10_startsGroup_28 : decode cX10_startsGroup 28 = .ok (.iload_n 1, 1) := by decide +kernel
theorem dX10_startsGroup_29 : decode cX10_startsGroup 29 = .ok (.iconst 1, 1) := by decide +kernel
theorem dX10_startsGroup_30 : decode cX10_startsGroup 30 = .ok (.isub, 1) := by decide +kernel
theorem dX10_startsGroup_31 : decode cX10_startsGroup 31 = .ok (.invokevirtual 60, 3) := by decide +kernel
theorem dX10_startsGroup_34 : decode cX10_startsGroup 34 = .ok (.if_icmp .eq 7, 3) := by decide +kernel
theorem dX10_startsGroup_37 : decode cX10_startsGroup 37 = .ok (.iconst 1, 1) := by decide +kernel
theorem dX10_startsGroup_38 : decode cX10_startsGroup 38 = .ok (.goto 4, 3) := by decide +kernel
theorem dX10_startsGroup_41 : decode cX10_startsGroup 41 = .ok (.iconst 0, 1) := by decide +kernel
theorem dX10_startsGroup_42 : decode cX10_startsGroup 42 = .ok (.ireturn, 1) := by decide +kernel
theorem dX10_codeGroups_0 : decode cX10_codeGroups 0 = .ok (.iconst 0, 1) := by decide +kernel
theorem dX10_codeGroups_1 : decode cX10_codeGroups 1 = .ok (.istore_n 1, 1) := by decide +kernel
theorem dX10_codeGroups_2 : decode cX10_codeGroups 2 = .ok (.iconst 0, 1) := by decide +kernel
theorem dX10_codeGroups_3 : decode cX10_codeGroups 3 = .ok (.istore_n 2, 1) := by decide +kernel
theorem dX10_codeGroups_4 : decode cX10_codeGroups 4 = .ok (.iload_n 2, 1) := by decide +kernel
theorem dX10_codeGroups_5 : decode cX10_codeGroups 5 = .ok (.aload_n 0, 1) := by decide +kernel
theorem dX10_codeGroups_6 : decode cX10_codeGroups 6 = .ok (.getfield 32, 3) := by decide +kernel
theorem dX10_codeGroups_9 : decode cX10_codeGroups 9 = .ok (.if_icmp .ge 25, 3) := by decide +kernel
theorem dX10_codeGroups_12 : decode cX10_codeGroups 12 = .ok (.iload_n 1, 1) := by decide +kernel
theorem dX10_codeGroups_13 : decode cX10_codeGroups 13 = .ok (.aload_n 0, 1) := by decide +kernel
theorem dX10_codeGroups_14 : decode cX10_codeGroups 14 = .ok (.iload_n 2, 1) := by decide +kernel
theorem dX10_codeGroups_15 : decode cX10_codeGroups 15 = .ok (.invokevirtual 64, 3) := by decide +kernel
theorem dX10_codeGroups_18 : decode cX10_codeGroups 18 = .ok (.ifCond .eq 7, 3) := by decide +kernel
theorem dX10_codeGroups_21 : decode cX10_codeGroups 21 = .ok (.iconst 1, 1) := by decide +kernel
theorem dX10_codeGroups_22 : decode cX10_codeGroups 22 = .ok (.goto 4, 3) := by decide +kernel
theorem dX10_codeGroups_25 : decode cX10_codeGroups 25 = .ok (.iconst 0, 1) := by decide +kernel
theorem dX10_codeGroups_26 : decode cX10_codeGroups 26 = .ok (.iadd, 1) := by decide +kernel
theorem dX10_codeGroups_27 : decode cX10_codeGroups 27 = .ok (.istore_n 1, 1) := by decide +kernel
theorem dX10_codeGroups_28 : decode cX10_codeGroups 28 = .ok (.iinc 2 1, 3) := by decide +kernel
theorem dX10_codeGroups_31 : decode cX10_codeGroups 31 = .ok (.goto (-27), 3) := by decide +kernel
theorem dX10_codeGroups_34 : decode cX10_codeGroups 34 = .ok (.iload_n 1, 1) := by decide +kernel
theorem dX10_codeGroups_35 : decode cX10_codeGroups 35 = .ok (.ireturn, 1) := by decide +kernel
theorem dX10_parts_0 : decode cX10_parts 0 = .ok (.aload_n 0, 1) := by decide +kernel
theorem dX10_parts_1 : decode cX10_parts 1 = .ok (.getfield 9, 3) := by decide +kernel
theorem dX10_parts_4 : decode cX10_parts 4 = .ok (.iconst (-1), 1) := by decide +kernel
theorem dX10_parts_5 : decode cX10_parts 5 = .ok (.if_icmp .ne 64, 3) := by decide +kernel
theorem dX10_parts_8 : decode cX10_parts 8 = .ok (.iconst 0, 1) := by decide +kernel
theorem dX10_parts_9 : decode cX10_parts 9 = .ok (.istore_n 1, 1) := by decide +kernel
theorem dX10_parts_10 : decode cX10_parts 10 = .ok (.iconst 0, 1) := by decide +kernel
theorem dX10_parts_11 : decode cX10_parts 11 = .ok (.istore_n 2, 1) := by decide +kernel
theorem dX10_parts_12 : decode cX10_parts 12 = .ok (.iload_n 2, 1) := by decide +kernel
theorem dX10_parts_13 : decode cX10_parts 13 = .ok (.aload_n 0, 1) := by decide +kernel
theorem dX10_parts_14 : decode cX10_parts 14 = .ok (.getfield 32, 3) := by decide +kernel
theorem dX10_parts_17 : decode cX10_parts 17 = .ok (.if_icmp .ge 47, 3) := by decide +kernel
theorem dX10_parts_20 : decode cX10_parts 20 = .ok (.iconst 0, 1) := by decide +kernel
theorem dX10_parts_21 : decode cX10_parts 21 = .ok (.istore_n 3, 1) := by decide +kernel
theorem dX10_parts_22 : decode cX10_parts 22 = .ok (.iload_n 3, 1) := by decide +kernel
theorem dX10_parts_23 : decode cX10_parts 23 = .ok (.aload_n 0, 1) := by decide +kernel
theorem dX10_parts_24 : decode cX10_parts 24 = .ok (.getfield 32, 3) := by decide +kernel
theorem dX10_parts_27 : decode cX10_parts 27 = .ok (.if_icmp .ge 31, 3) := by decide +kernel
theorem dX10_parts_30 : decode cX10_parts 30 = .ok (.iload_n 1, 1) := by decide +kernel
theorem dX10_parts_31 : decode cX10_parts 31 = .ok (.iload_n 2, 1) := by decide +kernel
theorem dX10_parts_32 : decode cX10_parts 32 = .ok (.iload_n 3, 1) := by decide +kernel
theorem dX10_parts_33 : decode cX10_parts 33 = .ok (.if_icmp .eq 16, 3) := by decide +kernel
theorem dX10_parts_36 : decode cX10_parts 36 = .ok (.aload_n 0, 1) := by decide +kernel
theorem dX10_parts_37 : decode cX10_parts 37 = .ok (.iload_n 2, 1) := by decide +kernel
theorem dX10_parts_38 : decode cX10_parts 38 = .ok (.iload_n 3, 1) := by decide +kernel
theorem dX10_parts_39 : decode cX10_parts 39 = .ok (.invokevirtual 68, 3) := by decide +kernel
theorem dX10_parts_42 : decode cX10_parts 42 = .ok (.ifCond .eq 7, 3) := by decide +kernel
theorem dX10_parts_45 : decode cX10_parts 45 = .ok (.iconst 1, 1) := by decide +kernel
theorem dX10_parts_46 : decode cX10_parts 46 = .ok (.goto 4, 3) := by decide +kernel
theorem dX10_parts_49 : decode cX10_parts 49 = .ok (.iconst 0, 1) := by decide +kernel
theorem dX10_parts_50 : decode cX10_parts 50 = .ok (.iadd, 1) := by decide +kernel
theorem dX10_parts_51 : decode cX10_parts 51 = .ok (.istore_n 1, 1) := by decide +kernel
theorem dX10_parts_52 : decode cX10_parts 52 = .ok (.iinc 3 1, 3) := by decide +kernel
theorem dX10_parts_55 : decode cX10_parts 55 = .ok (.goto (-33), 3) := by decide +kernel
theorem dX10_parts_58 : decode cX10_parts 58 = .ok (.iinc 2 1, 3) := by decide +kernel
theorem dX10_parts_61 : decode cX10_parts 61 = .ok (.goto (-49), 3) := by decide +kernel
theorem dX10_parts_64 : decode cX10_parts 64 = .ok (.aload_n 0, 1) := by decide +kernel
theorem dX10_parts_65 : decode cX10_parts 65 = .ok (.iload_n 1, 1) := by decide +kernel
theorem dX10_parts_66 : decode cX10_parts 66 = .ok (.putfield 9, 3) := by decide +kernel
theorem dX10_parts_69 : decode cX10_parts 69 = .ok (.aload_n 0, 1) := by decide +kernel
theorem dX10_parts_70 : decode cX10_parts 70 = .ok (.getfield 9, 3) := by decide +kernel
theorem dX10_parts_73 : decode cX10_parts 73 = .ok (.ireturn, 1) := by decide +kernel
theorem dX10_isPart_0 : decode cX10_isPart 0 = .ok (.aload_n 0, 1) := by decide +kernel
theorem dX10_isPart_1 : decode cX10_isPart 1 = .ok (.getfield 41, 3) := by decide +kernel
theorem dX10_isPart_4 : decode cX10_isPart 4 = .ok (.iload_n 1, 1) := by decide +kernel
theorem dX10_isPart_5 : decode cX10_isPart 5 = .ok (.iaload, 1) := by decide +kernel
theorem dX10_isPart_6 : decode cX10_isPart 6 = .ok (.istore_n 3, 1) := by decide +kernel
theorem dX10_isPart_7 : decode cX10_isPart 7 = .ok (.aload_n 0, 1) := by decide +kernel
theorem dX10_isPart_8 : decode cX10_isPart 8 = .ok (.getfield 45, 3) := by decide +kernel
theorem dX10_isPart_11 : decode cX10_isPart 11 = .ok (.iload_n 1, 1) := by decide +kernel
theorem dX10_isPart_12 : decode cX10_isPart 12 = .ok (.iaload, 1) := by decide +kernel
theorem dX10_isPart_13 : decode cX10_isPart 13 = .ok (.istore 4, 2) := by decide +kernel
theorem dX10_isPart_15 : decode cX10_isPart 15 = .ok (.aload_n 0, 1) := by decide +kernel
theorem dX10_isPart_16 : decode cX10_isPart 16 = .ok (.iload_n 2, 1) := by decide +kernel
theorem dX10_isPart_17 : decode cX10_isPart 17 = .ok (.invokevirtual 60, 3) := by decide +kernel
theorem dX10_isPart_20 : decode cX10_isPart 20 = .ok (.istore 5, 2) := by decide +kernel
theorem dX10_isPart_22 : decode cX10_isPart 22 = .ok (.aload_n 0, 1) := by decide +kernel
theorem dX10_isPart_23 : decode cX10_isPart 23 = .ok (.iload_n 2, 1) := by decide +kernel
theorem dX10_isPart_24 : decode cX10_isPart 24 = .ok (.invokevirtual 72, 3) := by decide +kernel
theorem dX10_isPart_27 : decode cX10_isPart 27 = .ok (.istore 6, 2) := by decide +kernel
theorem dX10_isPart_29 : decode cX10_isPart 29 = .ok (.aload_n 0, 1) := by decide +kernel
theorem dX10_isPart_30 : decode cX10_isPart 30 = .ok (.iload_n 1, 1) := by decide +kernel
theorem dX10_isPart_31 : decode cX10_isPart 31 = .ok (.invokevirtual 60, 3) := by decide +kernel
theorem dX10_isPart_34 : decode cX10_isPart 34 = .ok (.iload 5, 2) := by decide +kernel
theorem dX10_isPart_36 : decode cX10_isPart 36 = .ok (.if_icmp .gt 34, 3) := by decide +kernel
theorem dX10_isPart_39 : decode cX10_isPart 39 = .ok (.aload_n 0, 1) := by decide +kernel
theorem dX10_isPart_40 : decode cX10_isPart 40 = .ok (.iload_n 1, 1) := by decide +kernel
theorem dX10_isPart_41 : decode cX10_isPart 41 = .ok (.invokevirtual 72, 3) := by decide +kernel
theorem dX10_isPart_44 : decode cX10_isPart 44 = .ok (.iload 6, 2) := by decide +kernel
theorem dX10_isPart_46 : decode cX10_isPart 46 = .ok (.if_icmp .gt 24, 3) := by decide +kernel
theorem dX10_isPart_49 : decode cX10_isPart 49 = .ok (.aload_n 0, 1) := by decide +kernel
theorem dX10_isPart_50 : decode cX10_isPart 50 = .ok (.getfield 41, 3) := by decide +kernel
theorem dX10_isPart_53 : decode cX10_isPart 53 = .ok (.iload_n 2, 1) := by decide +kernel
theorem dX10_isPart_54 : decode cX10_isPart 54 = .ok (.iaload, 1) := by decide +kernel
theorem dX10_isPart_55 : decode cX10_isPart 55 = .ok (.iload_n 3, 1) := by decide +kernel
theorem dX10_isPart_56 : decode cX10_isPart 56 = .ok (.if_icmp .lt 14, 3) := by decide +kernel
theorem dX10_isPart_59 : decode cX10_isPart 59 = .ok (.aload_n 0, 1) := by decide +kernel
theorem dX10_isPart_60 : decode cX10_isPart 60 = .ok (.getfield 45, 3) := by decide +kernel
theorem dX10_isPart_63 : decode cX10_isPart 63 = .ok (.iload_n 2, 1) := by decide +kernel
theorem dX10_isPart_64 : decode cX10_isPart 64 = .ok (.iaload, 1) := by decide +kernel
theorem dX10_isPart_65 : decode cX10_isPart 65 = .ok (.iload 4, 2) := by decide +kernel
theorem dX10_isPart_67 : decode cX10_isPart 67 = .ok (.if_icmp .ge 5, 3) := by decide +kernel
theorem dX10_isPart_70 : decode cX10_isPart 70 = .ok (.iconst 0, 1) := by decide +kernel
theorem dX10_isPart_71 : decode cX10_isPart 71 = .ok (.ireturn, 1) := by decide +kernel
theorem dX10_isPart_72 : decode cX10_isPart 72 = .ok (.iconst 0, 1) := by decide +kernel
theorem dX10_isPart_73 : decode cX10_isPart 73 = .ok (.istore 7, 2) := by decide +kernel
theorem dX10_isPart_75 : decode cX10_isPart 75 = .ok (.iconst 0, 1) := by decide +kernel
theorem dX10_isPart_76 : decode cX10_isPart 76 = .ok (.istore 8, 2) := by decide +kernel
theorem dX10_isPart_78 : decode cX10_isPart 78 = .ok (.iload 8, 2) := by decide +kernel
theorem dX10_isPart_80 : decode cX10_isPart 80 = .ok (.aload_n 0, 1) := by decide +kernel
theorem dX10_isPart_81 : decode cX10_isPart 81 = .ok (.getfield 32, 3) := by decide +kernel
theorem dX10_isPart_84 : decode cX10_isPart 84 = .ok (.if_icmp .ge 128, 3) := by decide +kernel
theorem dX10_isPart_87 : decode cX10_isPart 87 = .ok (.aload_n 0, 1) := by decide +kernel
theorem dX10_isPart_88 : decode cX10_isPart 88 = .ok (.getfield 41, 3) := by decide +kernel
theorem dX10_isPart_91 : decode cX10_isPart 91 = .ok (.iload 8, 2) := by decide +kernel
theorem dX10_isPart_93 : decode cX10_isPart 93 = .ok (.iaload, 1) := by decide +kernel
theorem dX10_isPart_94 : decode cX10_isPart 94 = .ok (.iload 5, 2) := by decide +kernel
theorem dX10_isPart_96 : decode cX10_isPart 96 = .ok (.if_icmp .ge 40, 3) := by decide +kernel
theorem dX10_isPart_99 : decode cX10_isPart 99 = .ok (.aload_n 0, 1) := by decide +kernel
theorem dX10_isPart_100 : decode cX10_isPart 100 = .ok (.iload 8, 2) := by decide +kernel
theorem dX10_isPart_102 : decode cX10_isPart 102 = .ok (.invokevirtual 60, 3) := by decide +kernel
theorem dX10_isPart_105 : decode cX10_isPart 105 = .ok (.iload_n 3, 1) := by decide +kernel
theorem dX10_isPart_106 : decode cX10_isPart 106 = .ok (.if_icmp .le 30, 3) := by decide +kernel
theorem dX10_isPart_109 : decode cX10_isPart 109 = .ok (.aload_n 0, 1) := by decide +kernel
theorem dX10_isPart_110 : decode cX10_isPart 110 = .ok (.getfield 45, 3) := by decide +kernel
theorem dX10_isPart_113 : decode cX10_isPart 113 = .ok (.iload 8, 2) := by decide +kernel
theorem dX10_isPart_115 : decode cX10_isPart 115 = .ok (.iaload, 1) := by decide +kernel
theorem dX10_isPart_116 : decode cX10_isPart 116 = .ok (.iload 6, 2) := by decide +kernel
theorem dX10_isPart_118 : decode cX10_isPart 118 = .ok (.if_icmp .ge 18, 3) := by decide +kernel
theorem dX10_isPart_121 : decode cX10_isPart 121 = .ok (.aload_n 0, 1) := by decide +kernel
theorem dX10_isPart_122 : decode cX10_isPart 122 = .ok (.iload 8, 2) := by decide +kernel
theorem dX10_isPart_124 : decode cX10_isPart 124 = .ok (.invokevirtual 72, 3) := by decide +kernel
theorem dX10_isPart_127 : decode cX10_isPart 127 = .ok (.iload 4, 2) := by decide +kernel
theorem dX10_isPart_129 : decode cX10_isPart 129 = .ok (.if_icmp .le 7, 3) := by decide +kernel
theorem dX10_isPart_132 : decode cX10_isPart 132 = .ok (.iconst 1, 1) := by decide +kernel
theorem dX10_isPart_133 : decode cX10_isPart 133 = .ok (.goto 4, 3) := by decide +kernel
theorem dX10_isPart_136 : decode cX10_isPart 136 = .ok (.iconst 0, 1) := by decide +kernel
theorem dX10_isPart_137 : decode cX10_isPart 137 = .ok (.istore 9, 2) := by decide +kernel
theorem dX10_isPart_139 : decode cX10_isPart 139 = .ok (.iload 9, 2) := by decide +kernel
theorem dX10_isPart_141 : decode cX10_isPart 141 = .ok (.ifCond .eq 50, 3) := by decide +kernel
theorem dX10_isPart_144 : decode cX10_isPart 144 = .ok (.aload_n 0, 1) := by decide +kernel
theorem dX10_isPart_145 : decode cX10_isPart 145 = .ok (.getfield 41, 3) := by decide +kernel
theorem dX10_isPart_148 : decode cX10_isPart 148 = .ok (.iload 8, 2) := by decide +kernel
theorem dX10_isPart_150 : decode cX10_isPart 150 = .ok (.iaload, 1) := by decide +kernel
theorem dX10_isPart_151 : decode cX10_isPart 151 = .ok (.iload_n 3, 1) := by decide +kernel
theorem dX10_isPart_152 : decode cX10_isPart 152 = .ok (.if_icmp .lt 37, 3) := by decide +kernel
theorem dX10_isPart_155 : decode cX10_isPart 155 = .ok (.aload_n 0, 1) := by decide +kernel
theorem dX10_isPart_156 : decode cX10_isPart 156 = .ok (.iload 8, 2) := by decide +kernel
theorem dX10_isPart_158 : decode cX10_isPart 158 = .ok (.invokevirtual 60, 3) := by decide +kernel
theorem dX10_isPart_161 : decode cX10_isPart 161 = .ok (.iload 5, 2) := by decide +kernel
theorem dX10_isPart_163 : decode cX10_isPart 163 = .ok (.if_icmp .gt 26, 3) := by decide +kernel
theorem dX10_isPart_166 : decode cX10_isPart 166 = .ok (.aload_n 0, 1) := by decide +kernel
theorem dX10_isPart_167 : decode cX10_isPart 167 = .ok (.getfield 45, 3) := by decide +kernel
theorem dX10_isPart_170 : decode cX10_isPart 170 = .ok (.iload 8, 2) := by decide +kernel
theorem dX10_isPart_172 : decode cX10_isPart 172 = .ok (.iaload, 1) := by decide +kernel
theorem dX10_isPart_173 : decode cX10_isPart 173 = .ok (.iload 4, 2) := by decide +kernel
theorem dX10_isPart_175 : decode cX10_isPart 175 = .ok (.if_icmp .lt 14, 3) := by decide +kernel
theorem dX10_isPart_178 : decode cX10_isPart 178 = .ok (.aload_n 0, 1) := by decide +kernel
theorem dX10_isPart_179 : decode cX10_isPart 179 = .ok (.iload 8, 2) := by decide +kernel
theorem dX10_isPart_181 : decode cX10_isPart 181 = .ok (.invokevirtual 72, 3) := by decide +kernel
theorem dX10_isPart_184 : decode cX10_isPart 184 = .ok (.iload 6, 2) := by decide +kernel
theorem dX10_isPart_186 : decode cX10_isPart 186 = .ok (.if_icmp .le 5, 3) := by decide +kernel
theorem dX10_isPart_189 : decode cX10_isPart 189 = .ok (.iconst 0, 1) := by decide +kernel
theorem dX10_isPart_190 : decode cX10_isPart 190 = .ok (.ireturn, 1) := by decide +kernel
theorem dX10_isPart_191 : decode cX10_isPart 191 = .ok (.iload 7, 2) := by decide +kernel
theorem dX10_isPart_193 : decode cX10_isPart 193 = .ok (.iload 9, 2) := by decide +kernel
theorem dX10_isPart_195 : decode cX10_isPart 195 = .ok (.ifCond .eq 7, 3) := by decide +kernel
theorem dX10_isPart_198 : decode cX10_isPart 198 = .ok (.iconst 1, 1) := by decide +kernel
theorem dX10_isPart_199 : decode cX10_isPart 199 = .ok (.goto 4, 3) := by decide +kernel
theorem dX10_isPart_202 : decode cX10_isPart 202 = .ok (.iconst 0, 1) := by decide +kernel
theorem dX10_isPart_203 : decode cX10_isPart 203 = .ok (.iadd, 1) := by decide +kernel
theorem dX10_isPart_204 : decode cX10_isPart 204 = .ok (.istore 7, 2) := by decide +kernel
theorem dX10_isPart_206 : decode cX10_isPart 206 = .ok (.iinc 8 1, 3) := by decide +kernel
theorem dX10_isPart_209 : decode cX10_isPart 209 = .ok (.goto (-131), 3) := by decide +kernel
theorem dX10_isPart_212 : decode cX10_isPart 212 = .ok (.iload 7, 2) := by decide +kernel
theorem dX10_isPart_214 : decode cX10_isPart 214 = .ok (.aload_n 0, 1) := by decide +kernel
theorem dX10_isPart_215 : decode cX10_isPart 215 = .ok (.getfield 32, 3) := by decide +kernel
theorem dX10_isPart_218 : decode cX10_isPart 218 = .ok (.if_icmp .ge 7, 3) := by decide +kernel
theorem dX10_isPart_221 : decode cX10_isPart 221 = .ok (.iconst 1, 1) := by decide +kernel
theorem dX10_isPart_222 : decode cX10_isPart 222 = .ok (.goto 4, 3) := by decide +kernel
theorem dX10_isPart_225 : decode cX10_isPart 225 = .ok (.iconst 0, 1) := by decide +kernel
theorem dX10_isPart_226 : decode cX10_isPart 226 = .ok (.ireturn, 1) := by decide +kernel
theorem dX10_crosses_0 : decode cX10_crosses 0 = .ok (.iconst 0, 1) := by decide +kernel
theorem dX10_crosses_1 : decode cX10_crosses 1 = .ok (.istore_n 1, 1) := by decide +kernel
theorem dX10_crosses_2 : decode cX10_crosses 2 = .ok (.iconst 0, 1) := by decide +kernel
theorem dX10_crosses_3 : decode cX10_crosses 3 = .ok (.istore_n 2, 1) := by decide +kernel
theorem dX10_crosses_4 : decode cX10_crosses 4 = .ok (.iload_n 2, 1) := by decide +kernel
theorem dX10_crosses_5 : decode cX10_crosses 5 = .ok (.aload_n 0, 1) := by decide +kernel
theorem dX10_crosses_6 : decode cX10_crosses 6 = .ok (.getfield 32, 3) := by decide +kernel
theorem dX10_crosses_9 : decode cX10_crosses 9 = .ok (.if_icmp .ge 37, 3) := by decide +kernel
theorem dX10_crosses_12 : decode cX10_crosses 12 = .ok (.iload_n 1, 1) := by decide +kernel
theorem dX10_crosses_13 : decode cX10_crosses 13 = .ok (.aload_n 0, 1) := by decide +kernel
theorem dX10_crosses_14 : decode cX10_crosses 14 = .ok (.aload_n 0, 1) := by decide +kernel
theorem dX10_crosses_15 : decode cX10_crosses 15 = .ok (.getfield 41, 3) := by decide +kernel
theorem dX10_crosses_18 : decode cX10_crosses 18 = .ok (.iload_n 2, 1) := by decide +kernel
theorem dX10_crosses_19 : decode cX10_crosses 19 = .ok (.iaload, 1) := by decide +kernel
theorem dX10_crosses_20 : decode cX10_crosses 20 = .ok (.aload_n 0, 1) := by decide +kernel
theorem dX10_crosses_21 : decode cX10_crosses 21 = .ok (.getfield 45, 3) := by decide +kernel
theorem dX10_crosses_24 : decode cX10_crosses 24 = .ok (.iload_n 2, 1) := by decide +kernel
theorem dX10_crosses_25 : decode cX10_crosses 25 = .ok (.iaload, 1) := by decide +kernel
theorem dX10_crosses_26 : decode cX10_crosses 26 = .ok (.invokevirtual 75, 3) := by decide +kernel
theorem dX10_crosses_29 : decode cX10_crosses 29 = .ok (.iconst 4, 1) := by decide +kernel
theorem dX10_crosses_30 : decode cX10_crosses 30 = .ok (.if_icmp .ne 7, 3) := by decide +kernel
theorem dX10_crosses_33 : decode cX10_crosses 33 = .ok (.iconst 1, 1) := by decide +kernel
theorem dX10_crosses_34 : decode cX10_crosses 34 = .ok (.goto 4, 3) := by decide +kernel
theorem dX10_crosses_37 : decode cX10_crosses 37 = .ok (.iconst 0, 1) := by decide +kernel
theorem dX10_crosses_38 : decode cX10_crosses 38 = .ok (.iadd, 1) := by decide +kernel
theorem dX10_crosses_39 : decode cX10_crosses 39 = .ok (.istore_n 1, 1) := by decide +kernel
theorem dX10_crosses_40 : decode cX10_crosses 40 = .ok (.iinc 2 1, 3) := by decide +kernel
theorem dX10_crosses_43 : decode cX10_crosses 43 = .ok (.goto (-39), 3) := by decide +kernel
theorem dX10_crosses_46 : decode cX10_crosses 46 = .ok (.iload_n 1, 1) := by decide +kernel
theorem dX10_crosses_47 : decode cX10_crosses 47 = .ok (.ireturn, 1) := by decide +kernel
theorem dX10_cornersAt_0 : decode cX10_cornersAt 0 = .ok (.iconst 0, 1) := by decide +kernel
theorem dX10_cornersAt_1 : decode cX10_cornersAt 1 = .ok (.istore_n 3, 1) := by decide +kernel
theorem dX10_cornersAt_2 : decode cX10_cornersAt 2 = .ok (.iconst 0, 1) := by decide +kernel
theorem dX10_cornersAt_3 : decode cX10_cornersAt 3 = .ok (.istore 4, 2) := by decide +kernel
theorem dX10_cornersAt_5 : decode cX10_cornersAt 5 = .ok (.iload 4, 2) := by decide +kernel
theorem dX10_cornersAt_7 : decode cX10_cornersAt 7 = .ok (.aload_n 0, 1) := by decide +kernel
theorem dX10_cornersAt_8 : decode cX10_cornersAt 8 = .ok (.getfield 32, 3) := by decide +kernel
theorem dX10_cornersAt_11 : decode cX10_cornersAt 11 = .ok (.if_icmp .ge 83, 3) := by decide +kernel
theorem dX10_cornersAt_14 : decode cX10_cornersAt 14 = .ok (.aload_n 0, 1) := by decide +kernel
theorem dX10_cornersAt_15 : decode cX10_cornersAt 15 = .ok (.getfield 41, 3) := by decide +kernel
theorem dX10_cornersAt_18 : decode cX10_cornersAt 18 = .ok (.iload 4, 2) := by decide +kernel
theorem dX10_cornersAt_20 : decode cX10_cornersAt 20 = .ok (.iaload, 1) := by decide +kernel
theorem dX10_cornersAt_21 : decode cX10_cornersAt 21 = .ok (.iload_n 1, 1) := by decide +kernel
theorem dX10_cornersAt_22 : decode cX10_cornersAt 22 = .ok (.if_icmp .eq 13, 3) := by decide +kernel
theorem dX10_cornersAt_25 : decode cX10_cornersAt 25 = .ok (.aload_n 0, 1) := by decide +kernel
theorem dX10_cornersAt_26 : decode cX10_cornersAt 26 = .ok (.iload 4, 2) := by decide +kernel
theorem dX10_cornersAt_28 : decode cX10_cornersAt 28 = .ok (.invokevirtual 60, 3) := by decide +kernel
theorem dX10_cornersAt_31 : decode cX10_cornersAt 31 = .ok (.iload_n 1, 1) := by decide +kernel
theorem dX10_cornersAt_32 : decode cX10_cornersAt 32 = .ok (.if_icmp .ne 7, 3) := by decide +kernel
theorem dX10_cornersAt_35 : decode cX10_cornersAt 35 = .ok (.iconst 1, 1) := by decide +kernel
theorem dX10_cornersAt_36 : decode cX10_cornersAt 36 = .ok (.goto 4, 3) := by decide +kernel
theorem dX10_cornersAt_39 : decode cX10_cornersAt 39 = .ok (.iconst 0, 1) := by decide +kernel
theorem dX10_cornersAt_40 : decode cX10_cornersAt 40 = .ok (.istore 5, 2) := by decide +kernel
theorem dX10_cornersAt_42 : decode cX10_cornersAt 42 = .ok (.aload_n 0, 1) := by decide +kernel
theorem dX10_cornersAt_43 : decode cX10_cornersAt 43 = .ok (.getfield 45, 3) := by decide +kernel
theorem dX10_cornersAt_46 : decode cX10_cornersAt 46 = .ok (.iload 4, 2) := by decide +kernel
theorem dX10_cornersAt_48 : decode cX10_cornersAt 48 = .ok (.iaload, 1) := by decide +kernel
theorem dX10_cornersAt_49 : decode cX10_cornersAt 49 = .ok (.iload_n 2, 1) := by decide +kernel
theorem dX10_cornersAt_50 : decode cX10_cornersAt 50 = .ok (.if_icmp .eq 13, 3) := by decide +kernel
theorem dX10_cornersAt_53 : decode cX10_cornersAt 53 = .ok (.aload_n 0, 1) := by decide +kernel
theorem dX10_cornersAt_54 : decode cX10_cornersAt 54 = .ok (.iload 4, 2) := by decide +kernel
theorem dX10_cornersAt_56 : decode cX10_cornersAt 56 = .ok (.invokevirtual 72, 3) := by decide +kernel
theorem dX10_cornersAt_59 : decode cX10_cornersAt 59 = .ok (.iload_n 2, 1) := by decide +kernel
theorem dX10_cornersAt_60 : decode cX10_cornersAt 60 = .ok (.if_icmp .ne 7, 3) := by decide +kernel
theorem dX10_cornersAt_63 : decode cX10_cornersAt 63 = .ok (.iconst 1, 1) := by decide +kernel
theorem dX10_cornersAt_64 : decode cX10_cornersAt 64 = .ok (.goto 4, 3) := by decide +kernel
theorem dX10_cornersAt_67 : decode cX10_cornersAt 67 = .ok (.iconst 0, 1) := by decide +kernel
theorem dX10_cornersAt_68 : decode cX10_cornersAt 68 = .ok (.istore 6, 2) := by decide +kernel
theorem dX10_cornersAt_70 : decode cX10_cornersAt 70 = .ok (.iload_n 3, 1) := by decide +kernel
theorem dX10_cornersAt_71 : decode cX10_cornersAt 71 = .ok (.iload 5, 2) := by decide +kernel
theorem dX10_cornersAt_73 : decode cX10_cornersAt 73 = .ok (.ifCond .eq 12, 3) := by decide +kernel
theorem dX10_cornersAt_76 : decode cX10_cornersAt 76 = .ok (.iload 6, 2) := by decide +kernel
theorem dX10_cornersAt_78 : decode cX10_cornersAt 78 = .ok (.ifCond .eq 7, 3) := by decide +kernel
theorem dX10_cornersAt_81 : decode cX10_cornersAt 81 = .ok (.iconst 1, 1) := by decide +kernel
theorem dX10_cornersAt_82 : decode cX10_cornersAt 82 = .ok (.goto 4, 3) := by decide +kernel
theorem dX10_cornersAt_85 : decode cX10_cornersAt 85 = .ok (.iconst 0, 1) := by decide +kernel
theorem dX10_cornersAt_86 : decode cX10_cornersAt 86 = .ok (.iadd, 1) := by decide +kernel
theorem dX10_cornersAt_87 : decode cX10_cornersAt 87 = .ok (.istore_n 3, 1) := by decide +kernel
theorem dX10_cornersAt_88 : decode cX10_cornersAt 88 = .ok (.iinc 4 1, 3) := by decide +kernel
theorem dX10_cornersAt_91 : decode cX10_cornersAt 91 = .ok (.goto (-86), 3) := by decide +kernel
theorem dX10_cornersAt_94 : decode cX10_cornersAt 94 = .ok (.iload_n 3, 1) := by decide +kernel
theorem dX10_cornersAt_95 : decode cX10_cornersAt 95 = .ok (.ireturn, 1) := by decide +kernel
theorem dX11_init_0 : decode cX11_init 0 = .ok (.aload_n 0, 1) := by decide +kernel
theorem dX11_init_1 : decode cX11_init 1 = .ok (.invokespecial 3, 3) := by decide +kernel
theorem dX11_init_4 : decode cX11_init 4 = .ok (.aload_n 0, 1) := by decide +kernel
theorem dX11_init_5 : decode cX11_init 5 = .ok (.new 9, 3) := by decide +kernel
theorem dX11_init_8 : decode cX11_init 8 = .ok (.dup, 1) := by decide +kernel
theorem dX11_init_9 : decode cX11_init 9 = .ok (.invokespecial 11, 3) := by decide +kernel
theorem dX11_init_12 : decode cX11_init 12 = .ok (.putfield 12, 3) := by decide +kernel
theorem dX11_init_15 : decode cX11_init 15 = .ok (.aload_n 0, 1) := by decide +kernel
theorem dX11_init_16 : decode cX11_init 16 = .ok (.new 18, 3) := by decide +kernel
theorem dX11_init_19 : decode cX11_init 19 = .ok (.dup, 1) := by decide +kernel
theorem dX11_init_20 : decode cX11_init 20 = .ok (.invokespecial 20, 3) := by decide +kernel
theorem dX11_init_23 : decode cX11_init 23 = .ok (.putfield 21, 3) := by decide +kernel
theorem dX11_init_26 : decode cX11_init 26 = .ok (.aload_n 0, 1) := by decide +kernel
theorem dX11_init_27 : decode cX11_init 27 = .ok (.new 25, 3) := by decide +kernel
theorem dX11_init_30 : decode cX11_init 30 = .ok (.dup, 1) := by decide +kernel
theorem dX11_init_31 : decode cX11_init 31 = .ok (.invokespecial 27, 3) := by decide +kernel
theorem dX11_init_34 : decode cX11_init 34 = .ok (.putfield 28, 3) := by decide +kernel
theorem dX11_init_37 : decode cX11_init 37 = .ok (.aload_n 0, 1) := by decide +kernel
theorem dX11_init_38 : decode cX11_init 38 = .ok (.new 32, 3) := by decide +kernel
theorem dX11_init_41 : decode cX11_init 41 = .ok (.dup, 1) := by decide +kernel
theorem dX11_init_42 : decode cX11_init 42 = .ok (.invokespecial 34, 3) := by decide +kernel
theorem dX11_init_45 : decode cX11_init 45 = .ok (.putfield 35, 3) := by decide +kernel
theorem dX11_init_48 : decode cX11_init 48 = .ok (.aload_n 0, 1) := by decide +kernel
theorem dX11_init_49 : decode cX11_init 49 = .ok (.new 39, 3) := by decide +kernel
theorem dX11_init_52 : decode cX11_init 52 = .ok (.dup, 1) := by decide +kernel
theorem dX11_init_53 : decode cX11_init 53 = .ok (.invokespecial 41, 3) := by decide +kernel
theorem dX11_init_56 : decode cX11_init 56 = .ok (.putfield 42, 3) := by decide +kernel
theorem dX11_init_59 : decode cX11_init 59 = .ok (.aload_n 0, 1) := by decide +kernel
theorem dX11_init_60 : decode cX11_init 60 = .ok (.new 39, 3) := by decide +kernel
theorem dX11_init_63 : decode cX11_init 63 = .ok (.dup, 1) := by decide +kernel
theorem dX11_init_64 : decode cX11_init 64 = .ok (.invokespecial 41, 3) := by decide +kernel
theorem dX11_init_67 : decode cX11_init 67 = .ok (.putfield 46, 3) := by decide +kernel
theorem dX11_init_70 : decode cX11_init 70 = .ok (.aload_n 0, 1) := by decide +kernel
theorem dX11_init_71 : decode cX11_init 71 = .ok (.new 49, 3) := by decide +kernel
theorem dX11_init_74 : decode cX11_init 74 = .ok (.dup, 1) := by decide +kernel
theorem dX11_init_75 : decode cX11_init 75 = .ok (.invokespecial 51, 3) := by decide +kernel
theorem dX11_init_78 : decode cX11_init 78 = .ok (.putfield 52, 3) := by decide +kernel
theorem dX11_init_81 : decode cX11_init 81 = .ok (.aload_n 0, 1) := by decide +kernel
theorem dX11_init_82 : decode cX11_init 82 = .ok (.new 56, 3) := by decide +kernel
theorem dX11_init_85 : decode cX11_init 85 = .ok (.dup, 1) := by decide +kernel
theorem dX11_init_86 : decode cX11_init 86 = .ok (.invokespecial 58, 3) := by decide +kernel
theorem dX11_init_89 : decode cX11_init 89 = .ok (.putfield 59, 3) := by decide +kernel
theorem dX11_init_92 : decode cX11_init 92 = .ok (.aload_n 0, 1) := by decide +kernel
theorem dX11_init_93 : decode cX11_init 93 = .ok (.new 63, 3) := by decide +kernel
theorem dX11_init_96 : decode cX11_init 96 = .ok (.dup, 1) := by decide +kernel
theorem dX11_init_97 : decode cX11_init 97 = .ok (.invokespecial 65, 3) := by decide +kernel
theorem dX11_init_100 : decode cX11_init 100 = .ok (.putfield 66, 3) := by decide +kernel
theorem dX11_init_103 : decode cX11_init 103 = .ok (.aload_n 0, 1) := by decide +kernel
theorem dX11_init_104 : decode cX11_init 104 = .ok (.new 63, 3) := by decide +kernel
theorem dX11_init_107 : decode cX11_init 107 = .ok (.dup, 1) := by decide +kernel
theorem dX11_init_108 : decode cX11_init 108 = .ok (.invokespecial 65, 3) := by decide +kernel
theorem dX11_init_111 : decode cX11_init 111 = .ok (.putfield 70, 3) := by decide +kernel
theorem dX11_init_114 : decode cX11_init 114 = .ok (.aload_n 0, 1) := by decide +kernel
theorem dX11_init_115 : decode cX11_init 115 = .ok (.new 63, 3) := by decide +kernel
theorem dX11_init_118 : decode cX11_init 118 = .ok (.dup, 1) := by decide +kernel
theorem dX11_init_119 : decode cX11_init 119 = .ok (.invokespecial 65, 3) := by decide +kernel
theorem dX11_init_122 : decode cX11_init 122 = .ok (.putfield 73, 3) := by decide +kernel
theorem dX11_init_125 : decode cX11_init 125 = .ok (.return_, 1) := by decide +kernel
theorem dX11_feed_0 : decode cX11_feed 0 = .ok (.aload_n 0, 1) := by decide +kernel
theorem dX11_feed_1 : decode cX11_feed 1 = .ok (.getfield 12, 3) := by decide +kernel
theorem dX11_feed_4 : decode cX11_feed 4 = .ok (.getfield 76, 3) := by decide +kernel
theorem dX11_feed_7 : decode cX11_feed 7 = .ok (.bipush 20, 2) := by decide +kernel
theorem dX11_feed_9 : decode cX11_feed 9 = .ok (.iadd, 1) := by decide +kernel
theorem dX11_feed_10 : decode cX11_feed 10 = .ok (.sipush 600, 3) := by decide +kernel
theorem dX11_feed_13 : decode cX11_feed 13 = .ok (.if_icmp .le 5, 3) := by decide +kernel
theorem dX11_feed_16 : decode cX11_feed 16 = .ok (.iconst (-1), 1) := by decide +kernel
theorem dX11_feed_17 : decode cX11_feed 17 = .ok (.ireturn, 1) := by decide +kernel
theorem dX11_feed_18 : decode cX11_feed 18 = .ok (.aload_n 0, 1) := by decide +kernel
theorem dX11_feed_19 : decode cX11_feed 19 = .ok (.getfield 12, 3) := by decide +kernel
theorem dX11_feed_22 : decode cX11_feed 22 = .ok (.iload_n 1, 1) := by decide +kernel
theorem dX11_feed_23 : decode cX11_feed 23 = .ok (.invokevirtual 80, 3) := by decide +kernel
theorem dX11_feed_26 : decode cX11_feed 26 = .ok (.aload_n 0, 1) := by decide +kernel
theorem dX11_feed_27 : decode cX11_feed 27 = .ok (.getfield 12, 3) := by decide +kernel
theorem dX11_feed_30 : decode cX11_feed 30 = .ok (.iload_n 2, 1) := by decide +kernel
theorem dX11_feed_31 : decode cX11_feed 31 = .ok (.invokevirtual 80, 3) := by decide +kernel
theorem dX11_feed_34 : decode cX11_feed 34 = .ok (.aload_n 0, 1) := by decide +kernel
theorem dX11_feed_35 : decode cX11_feed 35 = .ok (.getfield 12, 3) := by decide +kernel
theorem dX11_feed_38 : decode cX11_feed 38 = .ok (.iload_n 3, 1) := by decide +kernel
theorem dX11_feed_39 : decode cX11_feed 39 = .ok (.invokevirtual 80, 3) := by decide +kernel
theorem dX11_feed_42 : decode cX11_feed 42 = .ok (.aload_n 0, 1) := by decide +kernel
theorem dX11_feed_43 : decode cX11_feed 43 = .ok (.getfield 12, 3) := by decide +kernel
theorem dX11_feed_46 : decode cX11_feed 46 = .ok (.iload 4, 2) := by decide +kernel
theorem dX11_feed_48 : decode cX11_feed 48 = .ok (.invokevirtual 80, 3) := by decide +kernel
theorem dX11_feed_51 : decode cX11_feed 51 = .ok (.aload_n 0, 1) := by decide +kernel
theorem dX11_feed_52 : decode cX11_feed 52 = .ok (.getfield 12, 3) := by decide +kernel
theorem dX11_feed_55 : decode cX11_feed 55 = .ok (.iload 5, 2) := by decide +kernel
theorem dX11_feed_57 : decode cX11_feed 57 = .ok (.invokevirtual 80, 3) := by decide +kernel
theorem dX11_feed_60 : decode cX11_feed 60 = .ok (.aload_n 0, 1) := by decide +kernel
theorem dX11_feed_61 : decode cX11_feed 61 = .ok (.getfield 12, 3) := by decide +kernel
theorem dX11_feed_64 : decode cX11_feed 64 = .ok (.getfield 76, 3) := by decide +kernel
theorem dX11_feed_67 : decode cX11_feed 67 = .ok (.ireturn, 1) := by decide +kernel
theorem dX11_text_0 : decode cX11_text 0 = .ok (.iload_n 1, 1) := by decide +kernel
theorem dX11_text_1 : decode cX11_text 1 = .ok (.ifCond .lt 14, 3) := by decide +kernel
theorem dX11_text_4 : decode cX11_text 4 = .ok (.iload_n 1, 1) := by decide +kernel
theorem dX11_text_5 : decode cX11_text 5 = .ok (.aload_n 0, 1) := by decide +kernel
theorem dX11_text_6 : decode cX11_text 6 = .ok (.getfield 12, 3) := by decide +kernel
theorem dX11_text_9 : decode cX11_text 9 = .ok (.getfield 76, 3) := by decide +kernel
theorem dX11_text_12 : decode cX11_text 12 = .ok (.if_icmp .le 5, 3) := by decide +kernel
theorem dX11_text_15 : decode cX11_text 15 = .ok (.iconst (-1), 1) := by decide +kernel
theorem dX11_text_16 : decode cX11_text 16 = .ok (.ireturn, 1) := by decide +kernel
theorem dX11_text_17 : decode cX11_text 17 = .ok (.aload_n 0, 1) := by decide +kernel
theorem dX11_text_18 : decode cX11_text 18 = .ok (.getfield 12, 3) := by decide +kernel
theorem dX11_text_21 : decode cX11_text 21 = .ok (.iload_n 1, 1) := by decide +kernel
theorem dX11_text_22 : decode cX11_text 22 = .ok (.invokevirtual 84, 3) := by decide +kernel
theorem dX11_text_25 : decode cX11_text 25 = .ok (.istore_n 2, 1) := by decide +kernel
theorem dX11_text_26 : decode cX11_text 26 = .ok (.iload_n 2, 1) := by decide +kernel
theorem dX11_text_27 : decode cX11_text 27 = .ok (.ifCond .eq 8, 3) := by decide +kernel
theorem dX11_text_30 : decode cX11_text 30 = .ok (.bipush (-2), 2) := by decide +kernel
theorem dX11_text_32 : decode cX11_text 32 = .ok (.iload_n 2, 1) := by decide +kernel
theorem dX11_text_33 : decode cX11_text 33 = .ok (.isub, 1) := by decide +kernel
theorem dX11_text_34 : decode cX11_text 34 = .ok (.ireturn, 1) := by decide +kernel
theorem dX11_text_35 : decode cX11_text 35 = .ok (.aload_n 0, 1) := by decide +kernel
theorem dX11_text_36 : decode cX11_text 36 = .ok (.getfield 66, 3) := by decide +kernel
theorem dX11_text_39 : decode cX11_text 39 = .ok (.invokevirtual 88, 3) := by decide +kernel
theorem dX11_text_42 : decode cX11_text 42 = .ok (.aload_n 0, 1) := by decide +kernel
theorem dX11_text_43 : decode cX11_text 43 = .ok (.getfield 70, 3) := by decide +kernel
theorem dX11_text_46 : decode cX11_text 46 = .ok (.invokevirtual 88, 3) := by decide +kernel
theorem dX11_text_49 : decode cX11_text 49 = .ok (.aload_n 0, 1) := by decide +kernel
theorem dX11_text_50 : decode cX11_text 50 = .ok (.getfield 73, 3) := by decide +kernel
theorem dX11_text_53 : decode cX11_text 53 = .ok (.invokevirtual 88, 3) := by decide +kernel
theorem dX11_text_56 : decode cX11_text 56 = .ok (.aload_n 0, 1) := by decide +kernel
theorem dX11_text_57 : decode cX11_text 57 = .ok (.iconst 0, 1) := by decide +kernel
theorem dX11_text_58 : decode cX11_text 58 = .ok (.putfield 91, 3) := by decide +kernel
theorem dX11_text_61 : decode cX11_text 61 = .ok (.iconst 0, 1) := by decide +kernel
theorem dX11_text_62 : decode cX11_text 62 = .ok (.istore_n 3, 1) := by decide +kernel
theorem dX11_text_63 : decode cX11_text 63 = .ok (.iload_n 3, 1) := by decide +kernel
theorem dX11_text_64 : decode cX11_text 64 = .ok (.aload_n 0, 1) := by decide +kernel
theorem dX11_text_65 : decode cX11_text 65 = .ok (.getfield 12, 3) := by decide +kernel
theorem dX11_text_68 : decode cX11_text 68 = .ok (.getfield 94, 3) := by decide +kernel
theorem dX11_text_71 : decode cX11_text 71 = .ok (.if_icmp .ge 41, 3) := by decide +kernel
theorem dX11_text_74 : decode cX11_text 74 = .ok (.aload_n 0, 1) := by decide +kernel
theorem dX11_text_75 : decode cX11_text 75 = .ok (.getfield 66, 3) := by decide +kernel
theorem dX11_text_78 : decode cX11_text 78 = .ok (.aload_n 0, 1) := by decide +kernel
theorem dX11_text_79 : decode cX11_text 79 = .ok (.getfield 12, 3) := by decide +kernel
theorem dX11_text_82 : decode cX11_text 82 = .ok (.getfield 97, 3) := by decide +kernel
theorem dX11_text_85 : decode cX11_text 85 = .ok (.iload_n 3, 1) := by decide +kernel
theorem dX11_text_86 : decode cX11_text 86 = .ok (.baload, 1) := by decide +kernel
theorem dX11_text_87 : decode cX11_text 87 = .ok (.ifCond .eq 11, 3) := by decide +kernel
theorem dX11_text_90 : decode cX11_text 90 = .ok (.aload_n 0, 1) := by decide +kernel
theorem dX11_text_91 : decode cX11_text 91 = .ok (.iload_n 3, 1) := by decide +kernel
theorem dX11_text_92 : decode cX11_text 92 = .ok (.invokevirtual 101, 3) := by decide +kernel
theorem dX11_text_95 : decode cX11_text 95 = .ok (.goto 8, 3) := by decide +kernel
theorem dX11_text_98 : decode cX11_text 98 = .ok (.aload_n 0, 1) := by decide +kernel
theorem dX11_text_99 : decode cX11_text 99 = .ok (.iload_n 3, 1) := by decide +kernel
theorem dX11_text_100 : decode cX11_text 100 = .ok (.invokevirtual 105, 3) := by decide +kernel
theorem dX11_text_103 : decode cX11_text 103 = .ok (.invokevirtual 108, 3) := by decide +kernel
theorem dX11_text_106 : decode cX11_text 106 = .ok (.iinc 3 1, 3) := by decide +kernel
theorem dX11_text_109 : decode cX11_text 109 = .ok (.goto (-46), 3) := by decide +kernel
theorem dX11_text_112 : decode cX11_text 112 = .ok (.aload_n 0, 1) := by decide +kernel
theorem dX11_text_113 : decode cX11_text 113 = .ok (.getfield 66, 3) := by decide +kernel
theorem dX11_text_116 : decode cX11_text 116 = .ok (.getfield 112, 3) := by decide +kernel
theorem dX11_text_119 : decode cX11_text 119 = .ok (.ireturn, 1) := by decide +kernel
theorem dX11_rect_0 : decode cX11_rect 0 = .ok (.aload_n 0, 1) := by decide +kernel
theorem dX11_rect_1 : decode cX11_rect 1 = .ok (.getfield 66, 3) := by decide +kernel
theorem dX11_rect_4 : decode cX11_rect 4 = .ok (.iload_n 1, 1) := by decide +kernel
theorem dX11_rect_5 : decode cX11_rect 5 = .ok (.invokevirtual 115, 3) := by decide +kernel
theorem dX11_rect_8 : decode cX11_rect 8 = .ok (.astore_n 3, 1) := by decide +kernel
theorem dX11_rect_9 : decode cX11_rect 9 = .ok (.aload_n 3, 1) := by decide +kernel
theorem dX11_rect_10 : decode cX11_rect 10 = .ok (.ifnull 13, 3) := by decide +kernel
theorem dX11_rect_13 : decode cX11_rect 13 = .ok (.iload_n 2, 1) := by decide +kernel
theorem dX11_rect_14 : decode cX11_rect 14 = .ok (.ifCond .lt 9, 3) := by decide +kernel
theorem dX11_rect_17 : decode cX11_rect 17 = .ok (.iload_n 2, 1) := by decide +kernel
theorem dX11_rect_18 : decode cX11_rect 18 = .ok (.bipush 7, 2) := by decide +kernel
theorem dX11_rect_20 : decode cX11_rect 20 = .ok (.if_icmp .le 5, 3) := by decide +kernel
theorem dX11_rect_23 : decode cX11_rect 23 = .ok (.iconst (-1), 1) := by decide +kernel
theorem dX11_rect_24 : decode cX11_rect 24 = .ok (.ireturn, 1) := by decide +kernel
theorem dX11_rect_25 : decode cX11_rect 25 = .ok (.iload_n 2, 1) := by decide +kernel
theorem dX11_rect_26 : decode cX11_rect 26 = .ok (.bipush 7, 2) := by decide +kernel
theorem dX11_rect_28 : decode cX11_rect 28 = .ok (.if_icmp .ne 8, 3) := by decide +kernel
theorem dX11_rect_31 : decode cX11_rect 31 = .ok (.aload_n 3, 1) := by decide +kernel
theorem dX11_rect_32 : decode cX11_rect 32 = .ok (.getfield 118, 3) := by decide +kernel
theorem dX11_rect_35 : decode cX11_rect 35 = .ok (.ireturn, 1) := by decide +kernel
theorem dX11_rect_36 : decode cX11_rect 36 = .ok (.aload_n 3, 1) := by decide +kernel
theorem dX11_rect_37 : decode cX11_rect 37 = .ok (.getfield 123, 3) := by decide +kernel
theorem dX11_rect_40 : decode cX11_rect 40 = .ok (.ifCond .eq 6, 3) := by decide +kernel
theorem dX11_rect_43 : decode cX11_rect 43 = .ok (.bipush (-2), 2) := by decide +kernel
theorem dX11_rect_45 : decode cX11_rect 45 = .ok (.ireturn, 1) := by decide +kernel
theorem dX11_rect_46 : decode cX11_rect 46 = .ok (.iload_n 2, 1) := by decide +kernel
theorem dX11_rect_47 : decode cX11_rect 47 = .ok (.tableswitch 83 0 5 #[37, 42, 47, 52, 65, 78], 37) := by decide +kernel
theorem dX11_rect_84 : decode cX11_rect 84 = .ok (.aload_n 3, 1) := by decide +kernel
theorem dX11_rect_85 : decode cX11_rect 85 = .ok (.getfield 127, 3) := by decide +kernel
theorem dX11_rect_88 : decode cX11_rect 88 = .ok (.ireturn, 1) := by decide +kernel
theorem dX11_rect_89 : decode cX11_rect 89 = .ok (.aload_n 3, 1) := by decide +kernel
theorem dX11_rect_90 : decode cX11_rect 90 = .ok (.getfield 130, 3) := by decide +kernel
theorem dX11_rect_93 : decode cX11_rect 93 = .ok (.ireturn, 1) := by decide +kernel
theorem dX11_rect_94 : decode cX11_rect 94 = .ok (.aload_n 3, 1) := by decide +kernel
theorem dX11_rect_95 : decode cX11_rect 95 = .ok (.getfield 133, 3) := by decide +kernel
theorem dX11_rect_98 : decode cX11_rect 98 = .ok (.ireturn, 1) := by decide +kernel
theorem dX11_rect_99 : decode cX11_rect 99 = .ok (.aload_n 3, 1) := by decide +kernel
theorem dX11_rect_100 : decode cX11_rect 100 = .ok (.invokevirtual 136, 3) := by decide +kernel
theorem dX11_rect_103 : decode cX11_rect 103 = .ok (.ifCond .eq 7, 3) := by decide +kernel
theorem dX11_rect_106 : decode cX11_rect 106 = .ok (.iconst 1, 1) := by decide +kernel
theorem dX11_rect_107 : decode cX11_rect 107 = .ok (.goto 4, 3) := by decide +kernel
theorem dX11_rect_110 : decode cX11_rect 110 = .ok (.iconst 0, 1) := by decide +kernel
theorem dX11_rect_111 : decode cX11_rect 111 = .ok (.ireturn, 1) := by decide +kernel
theorem dX11_rect_112 : decode cX11_rect 112 = .ok (.aload_n 3, 1) := by decide +kernel
theorem dX11_rect_113 : decode cX11_rect 113 = .ok (.invokevirtual 140, 3) := by decide +kernel
theorem dX11_rect_116 : decode cX11_rect 116 = .ok (.ifCond .ne 7, 3) := by decide +kernel
theorem dX11_rect_119 : decode cX11_rect 119 = .ok (.iconst 1, 1) := by decide +kernel
theorem dX11_rect_120 : decode cX11_rect 120 = .ok (.goto 4, 3) := by decide +kernel
theorem dX11_rect_123 : decode cX11_rect 123 = .ok (.iconst 0, 1) := by decide +kernel
theorem dX11_rect_124 : decode cX11_rect 124 = .ok (.ireturn, 1) := by decide +kernel
theorem dX11_rect_125 : decode cX11_rect 125 = .ok (.aload_n 3, 1) := by decide +kernel
theorem dX11_rect_126 : decode cX11_rect 126 = .ok (.invokevirtual 140, 3) := by decide +kernel
theorem dX11_rect_129 : decode cX11_rect 129 = .ok (.ireturn, 1) := by decide +kernel
theorem dX11_rect_130 : decode cX11_rect 130 = .ok (.aload_n 3, 1) := by decide +kernel
theorem dX11_rect_131 : decode cX11_rect 131 = .ok (.invokevirtual 144, 3) := by decide +kernel
theorem dX11_rect_134 : decode cX11_rect 134 = .ok (.ireturn, 1) := by decide +kernel
theorem dX11_square_0 : decode cX11_square 0 = .ok (.aload_n 0, 1) := by decide +kernel
theorem dX11_square_1 : decode cX11_square 1 = .ok (.getfield 66, 3) := by decide +kernel
theorem dX11_square_4 : decode cX11_square 4 = .ok (.iload_n 1, 1) := by decide +kernel
theorem dX11_square_5 : decode cX11_square 5 = .ok (.invokevirtual 115, 3) := by decide +kernel
theorem dX11_square_8 : decode cX11_square 8 = .ok (.astore 4, 2) := by decide +kernel
theorem dX11_square_10 : decode cX11_square 10 = .ok (.aload 4, 2) := by decide +kernel
theorem dX11_square_12 : decode cX11_square 12 = .ok (.ifnull 16, 3) := by decide +kernel
theorem dX11_square_15 : decode cX11_square 15 = .ok (.iload_n 2, 1) := by decide +kernel
theorem dX11_square_16 : decode cX11_square 16 = .ok (.ifCond .lt 12, 3) := by decide +kernel
theorem dX11_square_19 : decode cX11_square 19 = .ok (.iload_n 2, 1) := by decide +kernel
theorem dX11_square_20 : decode cX11_square 20 = .ok (.aload 4, 2) := by decide +kernel
theorem dX11_square_22 : decode cX11_square 22 = .ok (.getfield 127, 3) := by decide +kernel
theorem dX11_square_25 : decode cX11_square 25 = .ok (.if_icmp .lt 13, 3) := by decide +kernel
theorem dX11_square_28 : decode cX11_square 28 = .ok (.new 147, 3) := by decide +kernel
theorem dX11_square_31 : decode cX11_square 31 = .ok (.dup, 1) := by decide +kernel
theorem dX11_square_32 : decode cX11_square 32 = .ok (.ldc 149, 2) := by decide +kernel
theorem dX11_square_34 : decode cX11_square 34 = .ok (.invokespecial 151, 3) := by decide +kernel
theorem dX11_square_37 : decode cX11_square 37 = .ok (.athrow, 1) := by decide +kernel
theorem dX11_square_38 : decode cX11_square 38 = .ok (.iload_n 3, 1) := by decide +kernel
theorem dX11_square_39 : decode cX11_square 39 = .ok (.tableswitch 49 0 2 #[25, 33, 41], 25) := by decide +kernel
theorem dX11_square_64 : decode cX11_square 64 = .ok (.aload 4, 2) := by decide +kernel
theorem dX11_square_66 : decode cX11_square 66 = .ok (.getfield 154, 3) := by decide +kernel
theorem dX11_square_69 : decode cX11_square 69 = .ok (.iload_n 2, 1) := by decide +kernel
theorem dX11_square_70 : decode cX11_square 70 = .ok (.iaload, 1) := by decide +kernel
theorem dX11_square_71 : decode cX11_square 71 = .ok (.ireturn, 1) := by decide +kernel
theorem dX11_square_72 : decode cX11_square 72 = .ok (.aload 4, 2) := by decide +kernel
theorem dX11_square_74 : decode cX11_square 74 = .ok (.getfield 158, 3) := by decide +kernel
theorem dX11_square_77 : decode cX11_square 77 = .ok (.iload_n 2, 1) := by decide +kernel
theorem dX11_square_78 : decode cX11_square 78 = .ok (.iaload, 1) := by decide +kernel
theorem dX11_square_79 : decode cX11_square 79 = .ok (.ireturn, 1) := by decide +kernel
theorem dX11_square_80 : decode cX11_square 80 = .ok (.aload 4, 2) := by decide +kernel
theorem dX11_square_82 : decode cX11_square 82 = .ok (.getfield 161, 3) := by decide +kernel
theorem dX11_square_85 : decode cX11_square 85 = .ok (.iload_n 2, 1) := by decide +kernel
theorem dX11_square_86 : decode cX11_square 86 = .ok (.iaload, 1) := by decide +kernel
theorem dX11_square_87 : decode cX11_square 87 = .ok (.ireturn, 1) := by decide +kernel
theorem dX11_square_88 : decode cX11_square 88 = .ok (.new 147, 3) := by decide +kernel
theorem dX11_square_91 : decode cX11_square 91 = .ok (.dup, 1) := by decide +kernel
theorem dX11_square_92 : decode cX11_square 92 = .ok (.ldc 164, 2) := by decide +kernel
theorem dX11_square_94 : decode cX11_square 94 = .ok (.invokespecial 151, 3) := by decide +kernel
theorem dX11_square_97 : decode cX11_square 97 = .ok (.athrow, 1) := by decide +kernel
theorem dX11_laid_0 : decode cX11_laid 0 = .ok (.aload_n 0, 1) := by decide +kernel
theorem dX11_laid_1 : decode cX11_laid 1 = .ok (.getfield 66, 3) := by decide +kernel
theorem dX11_laid_4 : decode cX11_laid 4 = .ok (.iload_n 1, 1) := by decide +kernel
theorem dX11_laid_5 : decode cX11_laid 5 = .ok (.invokevirtual 115, 3) := by decide +kernel
theorem dX11_laid_8 : decode cX11_laid 8 = .ok (.astore_n 2, 1) := by decide +kernel
theorem dX11_laid_9 : decode cX11_laid 9 = .ok (.aload_n 2, 1) := by decide +kernel
theorem dX11_laid_10 : decode cX11_laid 10 = .ok (.ifnonnull 5, 3) := by decide +kernel
theorem dX11_laid_13 : decode cX11_laid 13 = .ok (.iconst (-1), 1) := by decide +kernel
theorem dX11_laid_14 : decode cX11_laid 14 = .ok (.ireturn, 1) := by decide +kernel
theorem dX11_laid_15 : decode cX11_laid 15 = .ok (.aload_n 2, 1) := by decide +kernel
theorem dX11_laid_16 : decode cX11_laid 16 = .ok (.getfield 118, 3) := by decide +kernel
theorem dX11_laid_19 : decode cX11_laid 19 = .ok (.ifCond .ne 10, 3) := by decide +kernel
theorem dX11_laid_22 : decode cX11_laid 22 = .ok (.aload_n 2, 1) := by decide +kernel
theorem dX11_laid_23 : decode cX11_laid 23 = .ok (.getfield 166, 3) := by decide +kernel
theorem dX11_laid_26 : decode cX11_laid 26 = .ok (.goto 5, 3) := by decide +kernel
theorem dX11_laid_29 : decode cX11_laid 29 = .ok (.bipush (-2), 2) := by decide +kernel
theorem dX11_laid_31 : decode cX11_laid 31 = .ok (.ireturn, 1) := by decide +kernel
theorem dX11_area_0 : decode cX11_area 0 = .ok (.aload_n 0, 1) := by decide +kernel
theorem dX11_area_1 : decode cX11_area 1 = .ok (.getfield 66, 3) := by decide +kernel
theorem dX11_area_4 : decode cX11_area 4 = .ok (.iload_n 1, 1) := by decide +kernel
theorem dX11_area_5 : decode cX11_area 5 = .ok (.invokevirtual 115, 3) := by decide +kernel
theorem dX11_area_8 : decode cX11_area 8 = .ok (.astore_n 2, 1) := by decide +kernel
theorem dX11_area_9 : decode cX11_area 9 = .ok (.aload_n 2, 1) := by decide +kernel
theorem dX11_area_10 : decode cX11_area 10 = .ok (.ifnull 10, 3) := by decide +kernel
theorem dX11_area_13 : decode cX11_area 13 = .ok (.aload_n 2, 1) := by decide +kernel
theorem dX11_area_14 : decode cX11_area 14 = .ok (.getfield 123, 3) := by decide +kernel
theorem dX11_area_17 : decode cX11_area 17 = .ok (.ifCond .eq 9, 3) := by decide +kernel
theorem dX11_area_20 : decode cX11_area 20 = .ok (.aload_n 2, 1) := by decide +kernel
theorem dX11_area_21 : decode cX11_area 21 = .ok (.invokestatic 169, 3) := by decide +kernel
theorem dX11_area_24 : decode cX11_area 24 = .ok (.i2l, 1) := by decide +kernel
theorem dX11_area_25 : decode cX11_area 25 = .ok (.lreturn, 1) := by decide +kernel
theorem dX11_area_26 : decode cX11_area 26 = .ok (.aload_n 2, 1) := by decide +kernel
theorem dX11_area_27 : decode cX11_area 27 = .ok (.getfield 130, 3) := by decide +kernel
theorem dX11_area_30 : decode cX11_area 30 = .ok (.i2l, 1) := by decide +kernel
theorem dX11_area_31 : decode cX11_area 31 = .ok (.aload_n 2, 1) := by decide +kernel
theorem dX11_area_32 : decode cX11_area 32 = .ok (.getfield 133, 3) := by decide +kernel
theorem dX11_area_35 : decode cX11_area 35 = .ok (.i2l, 1) := by decide +kernel
theorem dX11_area_36 : decode cX11_area 36 = .ok (.lmul, 1) := by decide +kernel
theorem dX11_area_37 : decode cX11_area 37 = .ok (.lreturn, 1) := by decide +kernel
theorem dX11_least_0 : decode cX11_least 0 = .ok (.aload_n 0, 1) := by decide +kernel
theorem dX11_least_1 : decode cX11_least 1 = .ok (.getfield 66, 3) := by decide +kernel
theorem dX11_least_4 : decode cX11_least 4 = .ok (.iload_n 1, 1) := by decide +kernel
theorem dX11_least_5 : decode cX11_least 5 = .ok (.invokevirtual 115, 3) := by decide +kernel
theorem dX11_least_8 : decode cX11_least 8 = .ok (.astore_n 2, 1) := by decide +kernel
theorem dX11_least_9 : decode cX11_least 9 = .ok (.aload_n 2, 1) := by decide +kernel
theorem dX11_least_10 : decode cX11_least 10 = .ok (.ifnull 10, 3) := by decide +kernel
theorem dX11_least_13 : decode cX11_least 13 = .ok (.aload_n 2, 1) := by decide +kernel
theorem dX11_least_14 : decode cX11_least 14 = .ok (.getfield 123, 3) := by decide +kernel
theorem dX11_least_17 : decode cX11_least 17 = .ok (.ifCond .eq 8, 3) := by decide +kernel
theorem dX11_least_20 : decode cX11_least 20 = .ok (.aload_n 2, 1) := by decide +kernel
theorem dX11_least_21 : decode cX11_least 21 = .ok (.invokestatic 169, 3) := by decide +kernel
theorem dX11_least_24 : decode cX11_least 24 = .ok (.ireturn, 1) := by decide +kernel
theorem dX11_least_25 : decode cX11_least 25 = .ok (.aload_n 2, 1) := by decide +kernel
theorem dX11_least_26 : decode cX11_least 26 = .ok (.invokevirtual 173, 3) := by decide +kernel
theorem dX11_least_29 : decode cX11_least 29 = .ok (.ireturn, 1) := by decide +kernel
theorem dX11_print_0 : decode cX11_print 0 = .ok (.aload_n 0, 1) := by decide +kernel
theorem dX11_print_1 : decode cX11_print 1 = .ok (.getfield 66, 3) := by decide +kernel
theorem dX11_print_4 : decode cX11_print 4 = .ok (.iload_n 1, 1) := by decide +kernel
theorem dX11_print_5 : decode cX11_print 5 = .ok (.invokevirtual 115, 3) := by decide +kernel
theorem dX11_print_8 : decode cX11_print 8 = .ok (.astore_n 2, 1) := by decide +kernel
theorem dX11_print_9 : decode cX11_print 9 = .ok (.aload_n 2, 1) := by decide +kernel
theorem dX11_print_10 : decode cX11_print 10 = .ok (.ifnull 10, 3) := by decide +kernel
theorem dX11_print_13 : decode cX11_print 13 = .ok (.aload_n 2, 1) := by decide +kernel
theorem dX11_print_14 : decode cX11_print 14 = .ok (.getfield 123, 3) := by decide +kernel
theorem dX11_print_17 : decode cX11_print 17 = .ok (.ifCond .eq 8, 3) := by decide +kernel
theorem dX11_print_20 : decode cX11_print 20 = .ok (.aload_n 2, 1) := by decide +kernel
theorem dX11_print_21 : decode cX11_print 21 = .ok (.invokestatic 169, 3) := by decide +kernel
theorem dX11_print_24 : decode cX11_print 24 = .ok (.ireturn, 1) := by decide +kernel
theorem dX11_print_25 : decode cX11_print 25 = .ok (.aload_n 0, 1) := by decide +kernel
theorem dX11_print_26 : decode cX11_print 26 = .ok (.getfield 59, 3) := by decide +kernel
theorem dX11_print_29 : decode cX11_print 29 = .ok (.aload_n 2, 1) := by decide +kernel
theorem dX11_print_30 : decode cX11_print 30 = .ok (.invokevirtual 176, 3) := by decide +kernel
theorem dX11_print_33 : decode cX11_print 33 = .ok (.aload_n 0, 1) := by decide +kernel
theorem dX11_print_34 : decode cX11_print 34 = .ok (.getfield 59, 3) := by decide +kernel
theorem dX11_print_37 : decode cX11_print 37 = .ok (.getfield 179, 3) := by decide +kernel
theorem dX11_print_40 : decode cX11_print 40 = .ok (.ireturn, 1) := by decide +kernel
theorem dX11_at_0 : decode cX11_at 0 = .ok (.iload_n 1, 1) := by decide +kernel
theorem dX11_at_1 : decode cX11_at 1 = .ok (.ifCond .lt 14, 3) := by decide +kernel
theorem dX11_at_4 : decode cX11_at 4 = .ok (.iload_n 1, 1) := by decide +kernel
theorem dX11_at_5 : decode cX11_at 5 = .ok (.aload_n 0, 1) := by decide +kernel
theorem dX11_at_6 : decode cX11_at 6 = .ok (.getfield 59, 3) := by decide +kernel
theorem dX11_at_9 : decode cX11_at 9 = .ok (.getfield 179, 3) := by decide +kernel
theorem dX11_at_12 : decode cX11_at 12 = .ok (.if_icmp .lt 7, 3) := by decide +kernel
theorem dX11_at_15 : decode cX11_at 15 = .ok (.iconst (-1), 1) := by decide +kernel
theorem dX11_at_16 : decode cX11_at 16 = .ok (.goto 12, 3) := by decide +kernel
theorem dX11_at_19 : decode cX11_at 19 = .ok (.aload_n 0, 1) := by decide +kernel
theorem dX11_at_20 : decode cX11_at 20 = .ok (.getfield 59, 3) := by decide +kernel
theorem dX11_at_23 : decode cX11_at 23 = .ok (.getfield 182, 3) := by decide +kernel
theorem dX11_at_26 : decode cX11_at 26 = .ok (.iload_n 1, 1) := by decide +kernel
theorem dX11_at_27 : decode cX11_at 27 = .ok (.baload, 1) := by decide +kernel
theorem dX11_at_28 : decode cX11_at 28 = .ok (.ireturn, 1) := by decide +kernel
theorem dX11_groups_0 : decode cX11_groups 0 = .ok (.aload_n 0, 1) := by decide +kernel
theorem dX11_groups_1 : decode cX11_groups 1 = .ok (.getfield 66, 3) := by decide +kernel
theorem dX11_groups_4 : decode cX11_groups 4 = .ok (.iload_n 1, 1) := by decide +kernel
theorem dX11_groups_5 : decode cX11_groups 5 = .ok (.invokevirtual 115, 3) := by decide +kernel
theorem dX11_groups_8 : decode cX11_groups 8 = .ok (.astore_n 2, 1) := by decide +kernel
theorem dX11_groups_9 : decode cX11_groups 9 = .ok (.aload_n 2, 1) := by decide +kernel
theorem dX11_groups_10 : decode cX11_groups 10 = .ok (.ifnull 10, 3) := by decide +kernel
theorem dX11_groups_13 : decode cX11_groups 13 = .ok (.aload_n 2, 1) := by decide +kernel
theorem dX11_groups_14 : decode cX11_groups 14 = .ok (.getfield 123, 3) := by decide +kernel
theorem dX11_groups_17 : decode cX11_groups 17 = .ok (.ifCond .eq 8, 3) := by decide +kernel
theorem dX11_groups_20 : decode cX11_groups 20 = .ok (.aload_n 2, 1) := by decide +kernel
theorem dX11_groups_21 : decode cX11_groups 21 = .ok (.invokestatic 169, 3) := by decide +kernel
theorem dX11_groups_24 : decode cX11_groups 24 = .ok (.ireturn, 1) := by decide +kernel
theorem dX11_groups_25 : decode cX11_groups 25 = .ok (.aload_n 2, 1) := by decide +kernel
theorem dX11_groups_26 : decode cX11_groups 26 = .ok (.invokevirtual 186, 3) := by decide +kernel
theorem dX11_groups_29 : decode cX11_groups 29 = .ok (.ireturn, 1) := by decide +kernel
theorem dX11_trees_0 : decode cX11_trees 0 = .ok (.aload_n 0, 1) := by decide +kernel
theorem dX11_trees_1 : decode cX11_trees 1 = .ok (.getfield 66, 3) := by decide +kernel
theorem dX11_trees_4 : decode cX11_trees 4 = .ok (.iload_n 1, 1) := by decide +kernel
theorem dX11_trees_5 : decode cX11_trees 5 = .ok (.invokevirtual 115, 3) := by decide +kernel
theorem dX11_trees_8 : decode cX11_trees 8 = .ok (.astore_n 2, 1) := by decide +kernel
theorem dX11_trees_9 : decode cX11_trees 9 = .ok (.aload_n 2, 1) := by decide +kernel
theorem dX11_trees_10 : decode cX11_trees 10 = .ok (.ifnonnull 7, 3) := by decide +kernel
theorem dX11_trees_13 : decode cX11_trees 13 = .ok (.ldc2_w 189, 3) := by decide +kernel
theorem dX11_trees_16 : decode cX11_trees 16 = .ok (.lreturn, 1) := by decide +kernel
theorem dX11_trees_17 : decode cX11_trees 17 = .ok (.aload_n 2, 1) := by decide +kernel
theorem dX11_trees_18 : decode cX11_trees 18 = .ok (.getfield 191, 3) := by decide +kernel
theorem dX11_trees_21 : decode cX11_trees 21 = .ok (.ifnonnull 9, 3) := by decide +kernel
theorem dX11_trees_24 : decode cX11_trees 24 = .ok (.ldc2_w 195, 3) := by decide +kernel
theorem dX11_trees_27 : decode cX11_trees 27 = .ok (.goto 10, 3) := by decide +kernel
theorem dX11_trees_30 : decode cX11_trees 30 = .ok (.aload_n 2, 1) := by decide +kernel
theorem dX11_trees_31 : decode cX11_trees 31 = .ok (.getfield 191, 3) := by decide +kernel
theorem dX11_trees_34 : decode cX11_trees 34 = .ok (.getfield 197, 3) := by decide +kernel
theorem dX11_trees_37 : decode cX11_trees 37 = .ok (.lreturn, 1) := by decide +kernel
theorem dX11_current_0 : decode cX11_current 0 = .ok (.aload_n 0, 1) := by decide +kernel
theorem dX11_current_1 : decode cX11_current 1 = .ok (.iload_n 1, 1) := by decide +kernel
theorem dX11_current_2 : decode cX11_current 2 = .ok (.invokevirtual 203, 3) := by decide +kernel
theorem dX11_current_5 : decode cX11_current 5 = .ok (.astore_n 3, 1) := by decide +kernel
theorem dX11_current_6 : decode cX11_current 6 = .ok (.aload_n 3, 1) := by decide +kernel
theorem dX11_current_7 : decode cX11_current 7 = .ok (.ifnull 15, 3) := by decide +kernel
theorem dX11_current_10 : decode cX11_current 10 = .ok (.iload_n 2, 1) := by decide +kernel
theorem dX11_current_11 : decode cX11_current 11 = .ok (.ifCond .lt 11, 3) := by decide +kernel
theorem dX11_current_14 : decode cX11_current 14 = .ok (.iload_n 2, 1) := by decide +kernel
theorem dX11_current_15 : decode cX11_current 15 = .ok (.aload_n 3, 1) := by decide +kernel
theorem dX11_current_16 : decode cX11_current 16 = .ok (.getfield 207, 3) := by decide +kernel
theorem dX11_current_19 : decode cX11_current 19 = .ok (.if_icmp .lt 8, 3) := by decide +kernel
theorem dX11_current_22 : decode cX11_current 22 = .ok (.ldc 210, 2) := by decide +kernel
theorem dX11_current_24 : decode cX11_current 24 = .ok (.goto 9, 3) := by decide +kernel
theorem dX11_current_27 : decode cX11_current 27 = .ok (.aload_n 3, 1) := by decide +kernel
theorem dX11_current_28 : decode cX11_current 28 = .ok (.getfield 211, 3) := by decide +kernel
theorem dX11_current_31 : decode cX11_current 31 = .ok (.iload_n 2, 1) := by decide +kernel
theorem dX11_current_32 : decode cX11_current 32 = .ok (.iaload, 1) := by decide +kernel
theorem dX11_current_33 : decode cX11_current 33 = .ok (.ireturn, 1) := by decide +kernel
theorem dX11_level_0 : decode cX11_level 0 = .ok (.aload_n 0, 1) := by decide +kernel
theorem dX11_level_1 : decode cX11_level 1 = .ok (.iload_n 1, 1) := by decide +kernel
theorem dX11_level_2 : decode cX11_level 2 = .ok (.invokevirtual 203, 3) := by decide +kernel
theorem dX11_level_5 : decode cX11_level 5 = .ok (.astore_n 3, 1) := by decide +kernel
theorem dX11_level_6 : decode cX11_level 6 = .ok (.aload_n 3, 1) := by decide +kernel
theorem dX11_level_7 : decode cX11_level 7 = .ok (.ifnull 15, 3) := by decide +kernel
theorem dX11_level_10 : decode cX11_level 10 = .ok (.iload_n 2, 1) := by decide +kernel
theorem dX11_level_11 : decode cX11_level 11 = .ok (.ifCond .lt 11, 3) := by decide +kernel
theorem dX11_level_14 : decode cX11_level 14 = .ok (.iload_n 2, 1) := by decide +kernel
theorem dX11_level_15 : decode cX11_level 15 = .ok (.aload_n 3, 1) := by decide +kernel
theorem dX11_level_16 : decode cX11_level 16 = .ok (.getfield 214, 3) := by decide +kernel
theorem dX11_level_19 : decode cX11_level 19 = .ok (.if_icmp .lt 8, 3) := by decide +kernel
theorem dX11_level_22 : decode cX11_level 22 = .ok (.ldc 210, 2) := by decide +kernel
theorem dX11_level_24 : decode cX11_level 24 = .ok (.goto 9, 3) := by decide +kernel
theorem dX11_level_27 : decode cX11_level 27 = .ok (.aload_n 3, 1) := by decide +kernel
theorem dX11_level_28 : decode cX11_level 28 = .ok (.getfield 217, 3) := by decide +kernel
theorem dX11_level_31 : decode cX11_level 31 = .ok (.iload_n 2, 1) := by decide +kernel
theorem dX11_level_32 : decode cX11_level 32 = .ok (.iaload, 1) := by decide +kernel
theorem dX11_level_33 : decode cX11_level 33 = .ok (.ireturn, 1) := by decide +kernel
theorem dX11_layings_0 : decode cX11_layings 0 = .ok (.aload_n 0, 1) := by decide +kernel
theorem dX11_layings_1 : decode cX11_layings 1 = .ok (.getfield 66, 3) := by decide +kernel
theorem dX11_layings_4 : decode cX11_layings 4 = .ok (.iload_n 1, 1) := by decide +kernel
theorem dX11_layings_5 : decode cX11_layings 5 = .ok (.invokevirtual 115, 3) := by decide +kernel
theorem dX11_layings_8 : decode cX11_layings 8 = .ok (.astore_n 2, 1) := by decide +kernel
theorem dX11_layings_9 : decode cX11_layings 9 = .ok (.aload_n 2, 1) := by decide +kernel
theorem dX11_layings_10 : decode cX11_layings 10 = .ok (.ifnonnull 5, 3) := by decide +kernel
theorem dX11_layings_13 : decode cX11_layings 13 = .ok (.iconst (-1), 1) := by decide +kernel
theorem dX11_layings_14 : decode cX11_layings 14 = .ok (.ireturn, 1) := by decide +kernel
theorem dX11_layings_15 : decode cX11_layings 15 = .ok (.aload_n 2, 1) := by decide +kernel
theorem dX11_layings_16 : decode cX11_layings 16 = .ok (.getfield 191, 3) := by decide +kernel
theorem dX11_layings_19 : decode cX11_layings 19 = .ok (.ifnonnull 8, 3) := by decide +kernel
theorem dX11_layings_22 : decode cX11_layings 22 = .ok (.bipush (-2), 2) := by decide +kernel
theorem dX11_layings_24 : decode cX11_layings 24 = .ok (.goto 10, 3) := by decide +kernel
theorem dX11_layings_27 : decode cX11_layings 27 = .ok (.aload_n 2, 1) := by decide +kernel
theorem dX11_layings_28 : decode cX11_layings 28 = .ok (.getfield 191, 3) := by decide +kernel
theorem dX11_layings_31 : decode cX11_layings 31 = .ok (.getfield 220, 3) := by decide +kernel
theorem dX11_layings_34 : decode cX11_layings 34 = .ok (.ireturn, 1) := by decide +kernel
theorem dX11_lines_0 : decode cX11_lines 0 = .ok (.aload_n 0, 1) := by decide +kernel
theorem dX11_lines_1 : decode cX11_lines 1 = .ok (.getfield 66, 3) := by decide +kernel
theorem dX11_lines_4 : decode cX11_lines 4 = .ok (.iload_n 1, 1) := by decide +kernel
theorem dX11_lines_5 : decode cX11_lines 5 = .ok (.invokevirtual 115, 3) := by decide +kernel
theorem dX11_lines_8 : decode cX11_lines 8 = .ok (.astore_n 2, 1) := by decide +kernel
theorem dX11_lines_9 : decode cX11_lines 9 = .ok (.aload_n 2, 1) := by decide +kernel
theorem dX11_lines_10 : decode cX11_lines 10 = .ok (.ifnull 10, 3) := by decide +kernel
theorem dX11_lines_13 : decode cX11_lines 13 = .ok (.aload_n 2, 1) := by decide +kernel
theorem dX11_lines_14 : decode cX11_lines 14 = .ok (.getfield 123, 3) := by decide +kernel
theorem dX11_lines_17 : decode cX11_lines 17 = .ok (.ifCond .eq 8, 3) := by decide +kernel
theorem dX11_lines_20 : decode cX11_lines 20 = .ok (.aload_n 2, 1) := by decide +kernel
theorem dX11_lines_21 : decode cX11_lines 21 = .ok (.invokestatic 169, 3) := by decide +kernel
theorem dX11_lines_24 : decode cX11_lines 24 = .ok (.ireturn, 1) := by decide +kernel
theorem dX11_lines_25 : decode cX11_lines 25 = .ok (.aload_n 0, 1) := by decide +kernel
theorem dX11_lines_26 : decode cX11_lines 26 = .ok (.getfield 52, 3) := by decide +kernel
theorem dX11_lines_29 : decode cX11_lines 29 = .ok (.aload_n 2, 1) := by decide +kernel
theorem dX11_lines_30 : decode cX11_lines 30 = .ok (.invokevirtual 223, 3) := by decide +kernel
theorem dX11_lines_33 : decode cX11_lines 33 = .ok (.aload_n 0, 1) := by decide +kernel
theorem dX11_lines_34 : decode cX11_lines 34 = .ok (.getfield 52, 3) := by decide +kernel
theorem dX11_lines_37 : decode cX11_lines 37 = .ok (.getfield 226, 3) := by decide +kernel
theorem dX11_lines_40 : decode cX11_lines 40 = .ok (.ireturn, 1) := by decide +kernel
theorem dX11_line_0 : decode cX11_line 0 = .ok (.aload_n 0, 1) := by decide +kernel
theorem dX11_line_1 : decode cX11_line 1 = .ok (.getfield 66, 3) := by decide +kernel
theorem dX11_line_4 : decode cX11_line 4 = .ok (.iload_n 1, 1) := by decide +kernel
theorem dX11_line_5 : decode cX11_line 5 = .ok (.invokevirtual 115, 3) := by decide +kernel
theorem dX11_line_8 : decode cX11_line 8 = .ok (.astore 4, 2) := by decide +kernel
theorem dX11_line_10 : decode cX11_line 10 = .ok (.aload 4, 2) := by decide +kernel
theorem dX11_line_12 : decode cX11_line 12 = .ok (.ifnull 11, 3) := by decide +kernel
theorem dX11_line_15 : decode cX11_line 15 = .ok (.aload 4, 2) := by decide +kernel
theorem dX11_line_17 : decode cX11_line 17 = .ok (.getfield 123, 3) := by decide +kernel
theorem dX11_line_20 : decode cX11_line 20 = .ok (.ifCond .eq 13, 3) := by decide +kernel
theorem dX11_line_23 : decode cX11_line 23 = .ok (.new 147, 3) := by decide +kernel
theorem dX11_line_26 : decode cX11_line 26 = .ok (.dup, 1) := by decide +kernel
theorem dX11_line_27 : decode cX11_line 27 = .ok (.ldc 229, 2) := by decide +kernel
theorem dX11_line_29 : decode cX11_line 29 = .ok (.invokespecial 151, 3) := by decide +kernel
theorem dX11_line_32 : decode cX11_line 32 = .ok (.athrow, 1) := by decide +kernel
theorem dX11_line_33 : decode cX11_line 33 = .ok (.aload_n 0, 1) := by decide +kernel
theorem dX11_line_34 : decode cX11_line 34 = .ok (.getfield 52, 3) := by decide +kernel
theorem dX11_line_37 : decode cX11_line 37 = .ok (.aload 4, 2) := by decide +kernel
theorem dX11_line_39 : decode cX11_line 39 = .ok (.invokevirtual 223, 3) := by decide +kernel
theorem dX11_line_42 : decode cX11_line 42 = .ok (.iload_n 2, 1) := by decide +kernel
theorem dX11_line_43 : decode cX11_line 43 = .ok (.ifCond .lt 14, 3) := by decide +kernel
theorem dX11_line_46 : decode cX11_line 46 = .ok (.iload_n 2, 1) := by decide +kernel
theorem dX11_line_47 : decode cX11_line 47 = .ok (.aload_n 0, 1) := by decide +kernel
theorem dX11_line_48 : decode cX11_line 48 = .ok (.getfield 52, 3) := by decide +kernel
theorem dX11_line_51 : decode cX11_line 51 = .ok (.getfield 226, 3) := by decide +kernel
theorem dX11_line_54 : decode cX11_line 54 = .ok (.if_icmp .lt 13, 3) := by decide +kernel
theorem dX11_line_57 : decode cX11_line 57 = .ok (.new 147, 3) := by decide +kernel
theorem dX11_line_60 : decode cX11_line 60 = .ok (.dup, 1) := by decide +kernel
theorem dX11_line_61 : decode cX11_line 61 = .ok (.ldc 231, 2) := by decide +kernel
theorem dX11_line_63 : decode cX11_line 63 = .ok (.invokespecial 151, 3) := by decide +kernel
theorem dX11_line_66 : decode cX11_line 66 = .ok (.athrow, 1) := by decide +kernel
theorem dX11_line_67 : decode cX11_line 67 = .ok (.iload_n 3, 1) := by decide +kernel
theorem dX11_line_68 : decode cX11_line 68 = .ok (.tableswitch 72 0 3 #[32, 42, 52, 62], 32) := by decide +kernel
theorem dX11_line_100 : decode cX11_line 100 = .ok (.aload_n 0, 1) := by decide +kernel
theorem dX11_line_101 : decode cX11_line 101 = .ok (.getfield 52, 3) := by decide +kernel
theorem dX11_line_104 : decode cX11_line 104 = .ok (.getfield 233, 3) := by decide +kernel
theorem dX11_line_107 : decode cX11_line 107 = .ok (.iload_n 2, 1) := by decide +kernel
theorem dX11_line_108 : decode cX11_line 108 = .ok (.iaload, 1) := by decide +kernel
theorem dX11_line_109 : decode cX11_line 109 = .ok (.ireturn, 1) := by decide +kernel
theorem dX11_line_110 : decode cX11_line 110 = .ok (.aload_n 0, 1) := by decide +kernel
theorem dX11_line_111 : decode cX11_line 111 = .ok (.getfield 52, 3) := by decide +kernel
theorem dX11_line_114 : decode cX11_line 114 = .ok (.getfield 236, 3) := by decide +kernel
theorem dX11_line_117 : decode cX11_line 117 = .ok (.iload_n 2, 1) := by decide +kernel
theorem dX11_line_118 : decode cX11_line 118 = .ok (.iaload, 1) := by decide +kernel
theorem dX11_line_119 : decode cX11_line 119 = .ok (.ireturn, 1) := by decide +kernel
theorem dX11_line_120 : decode cX11_line 120 = .ok (.aload_n 0, 1) := by decide +kernel
theorem dX11_line_121 : decode cX11_line 121 = .ok (.getfield 52, 3) := by decide +kernel
theorem dX11_line_124 : decode cX11_line 124 = .ok (.getfield 237, 3) := by decide +kernel
theorem dX11_line_127 : decode cX11_line 127 = .ok (.iload_n 2, 1) := by decide +kernel
theorem dX11_line_128 : decode cX11_line 128 = .ok (.iaload, 1) := by decide +kernel
theorem dX11_line_129 : decode cX11_line 129 = .ok (.ireturn, 1) := by decide +kernel
theorem dX11_line_130 : decode cX11_line 130 = .ok (.aload_n 0, 1) := by decide +kernel
theorem dX11_line_131 : decode cX11_line 131 = .ok (.getfield 52, 3) := by decide +kernel
theorem dX11_line_134 : decode cX11_line 134 = .ok (.getfield 240, 3) := by decide +kernel
theorem dX11_line_137 : decode cX11_line 137 = .ok (.iload_n 2, 1) := by decide +kernel
theorem dX11_line_138 : decode cX11_line 138 = .ok (.iaload, 1) := by decide +kernel
theorem dX11_line_139 : decode cX11_line 139 = .ok (.ireturn, 1) := by decide +kernel
theorem dX11_line_140 : decode cX11_line 140 = .ok (.new 147, 3) := by decide +kernel
theorem dX11_line_143 : decode cX11_line 143 = .ok (.dup, 1) := by decide +kernel
theorem dX11_line_144 : decode cX11_line 144 = .ok (.ldc 243, 2) := by decide +kernel
theorem dX11_line_146 : decode cX11_line 146 = .ok (.invokespecial 151, 3) := by decide +kernel
theorem dX11_line_149 : decode cX11_line 149 = .ok (.athrow, 1) := by decide +kernel
theorem dX11_side_0 : decode cX11_side 0 = .ok (.aload_n 0, 1) := by decide +kernel
theorem dX11_side_1 : decode cX11_side 1 = .ok (.getfield 66, 3) := by decide +kernel
theorem dX11_side_4 : decode cX11_side 4 = .ok (.iload_n 1, 1) := by decide +kernel
theorem dX11_side_5 : decode cX11_side 5 = .ok (.invokevirtual 115, 3) := by decide +kernel
theorem dX11_side_8 : decode cX11_side 8 = .ok (.astore 4, 2) := by decide +kernel
theorem dX11_side_10 : decode cX11_side 10 = .ok (.aload 4, 2) := by decide +kernel
theorem dX11_side_12 : decode cX11_side 12 = .ok (.ifnull 16, 3) := by decide +kernel
theorem dX11_side_15 : decode cX11_side 15 = .ok (.iload_n 2, 1) := by decide +kernel
theorem dX11_side_16 : decode cX11_side 16 = .ok (.ifCond .lt 12, 3) := by decide +kernel
theorem dX11_side_19 : decode cX11_side 19 = .ok (.iload_n 2, 1) := by decide +kernel
theorem dX11_side_20 : decode cX11_side 20 = .ok (.aload 4, 2) := by decide +kernel
theorem dX11_side_22 : decode cX11_side 22 = .ok (.getfield 127, 3) := by decide +kernel
theorem dX11_side_25 : decode cX11_side 25 = .ok (.if_icmp .lt 5, 3) := by decide +kernel
theorem dX11_side_28 : decode cX11_side 28 = .ok (.iconst (-1), 1) := by decide +kernel
theorem dX11_side_29 : decode cX11_side 29 = .ok (.ireturn, 1) := by decide +kernel
theorem dX11_side_30 : decode cX11_side 30 = .ok (.aload_n 0, 1) := by decide +kernel
theorem dX11_side_31 : decode cX11_side 31 = .ok (.getfield 52, 3) := by decide +kernel
theorem dX11_side_34 : decode cX11_side 34 = .ok (.aload 4, 2) := by decide +kernel
theorem dX11_side_36 : decode cX11_side 36 = .ok (.invokevirtual 223, 3) := by decide +kernel
theorem dX11_side_39 : decode cX11_side 39 = .ok (.aload_n 0, 1) := by decide +kernel
theorem dX11_side_40 : decode cX11_side 40 = .ok (.getfield 52, 3) := by decide +kernel
theorem dX11_side_43 : decode cX11_side 43 = .ok (.iload_n 3, 1) := by decide +kernel
theorem dX11_side_44 : decode cX11_side 44 = .ok (.ifCond .eq 12, 3) := by decide +kernel
theorem dX11_side_47 : decode cX11_side 47 = .ok (.aload 4, 2) := by decide +kernel
theorem dX11_side_49 : decode cX11_side 49 = .ok (.iload_n 2, 1) := by decide +kernel
theorem dX11_side_50 : decode cX11_side 50 = .ok (.invokevirtual 245, 3) := by decide +kernel
theorem dX11_side_53 : decode cX11_side 53 = .ok (.goto 10, 3) := by decide +kernel
theorem dX11_side_56 : decode cX11_side 56 = .ok (.aload 4, 2) := by decide +kernel
theorem dX11_side_58 : decode cX11_side 58 = .ok (.getfield 158, 3) := by decide +kernel
theorem dX11_side_61 : decode cX11_side 61 = .ok (.iload_n 2, 1) := by decide +kernel
theorem dX11_side_62 : decode cX11_side 62 = .ok (.iaload, 1) := by decide +kernel
theorem dX11_side_63 : decode cX11_side 63 = .ok (.aload 4, 2) := by decide +kernel
theorem dX11_side_65 : decode cX11_side 65 = .ok (.getfield 154, 3) := by decide +kernel
theorem dX11_side_68 : decode cX11_side 68 = .ok (.iload_n 2, 1) := by decide +kernel
theorem dX11_side_69 : decode cX11_side 69 = .ok (.iaload, 1) := by decide +kernel
theorem dX11_side_70 : decode cX11_side 70 = .ok (.invokevirtual 248, 3) := by decide +kernel
theorem dX11_side_73 : decode cX11_side 73 = .ok (.ireturn, 1) := by decide +kernel
theorem dX11_alike_0 : decode cX11_alike 0 = .ok (.aload_n 0, 1) := by decide +kernel
theorem dX11_alike_1 : decode cX11_alike 1 = .ok (.getfield 66, 3) := by decide +kernel
theorem dX11_alike_4 : decode cX11_alike 4 = .ok (.iload_n 1, 1) := by decide +kernel
theorem dX11_alike_5 : decode cX11_alike 5 = .ok (.invokevirtual 115, 3) := by decide +kernel
theorem dX11_alike_8 : decode cX11_alike 8 = .ok (.astore_n 3, 1) := by decide +kernel
theorem dX11_alike_9 : decode cX11_alike 9 = .ok (.aload_n 0, 1) := by decide +kernel
theorem dX11_alike_10 : decode cX11_alike 10 = .ok (.getfield 66, 3) := by decide +kernel
theorem dX11_alike_13 : decode cX11_alike 13 = .ok (.iload_n 2, 1) := by decide +kernel
theorem dX11_alike_14 : decode cX11_alike 14 = .ok (.invokevirtual 115, 3) := by decide +kernel
theorem dX11_alike_17 : decode cX11_alike 17 = .ok (.astore 4, 2) := by decide +kernel
theorem dX11_alike_19 : decode cX11_alike 19 = .ok (.aload_n 3, 1) := by decide +kernel
theorem dX11_alike_20 : decode cX11_alike 20 = .ok (.ifnull 8, 3) := by decide +kernel
theorem dX11_alike_23 : decode cX11_alike 23 = .ok (.aload 4, 2) := by decide +kernel
theorem dX11_alike_25 : decode cX11_alike 25 = .ok (.ifnonnull 5, 3) := by decide +kernel
theorem dX11_alike_28 : decode cX11_alike 28 = .ok (.iconst (-1), 1) := by decide +kernel
theorem dX11_alike_29 : decode cX11_alike 29 = .ok (.ireturn, 1) := by decide +kernel
theorem dX11_alike_30 : decode cX11_alike 30 = .ok (.aload_n 3, 1) := by decide +kernel
theorem dX11_alike_31 : decode cX11_alike 31 = .ok (.getfield 123, 3) := by decide +kernel
theorem dX11_alike_34 : decode cX11_alike 34 = .ok (.ifCond .ne 23, 3) := by decide +kernel
theorem dX11_alike_37 : decode cX11_alike 37 = .ok (.aload 4, 2) := by decide +kernel
theorem dX11_alike_39 : decode cX11_alike 39 = .ok (.getfield 123, 3) := by decide +kernel
theorem dX11_alike_42 : decode cX11_alike 42 = .ok (.ifCond .ne 15, 3) := by decide +kernel
theorem dX11_alike_45 : decode cX11_alike 45 = .ok (.aload_n 3, 1) := by decide +kernel
theorem dX11_alike_46 : decode cX11_alike 46 = .ok (.getfield 127, 3) := by decide +kernel
theorem dX11_alike_49 : decode cX11_alike 49 = .ok (.aload 4, 2) := by decide +kernel
theorem dX11_alike_51 : decode cX11_alike 51 = .ok (.getfield 127, 3) := by decide +kernel
theorem dX11_alike_54 : decode cX11_alike 54 = .ok (.if_icmp .eq 5, 3) := by decide +kernel
theorem dX11_alike_57 : decode cX11_alike 57 = .ok (.iconst 0, 1) := by decide +kernel
theorem dX11_alike_58 : decode cX11_alike 58 = .ok (.ireturn, 1) := by decide +kernel
theorem dX11_alike_59 : decode cX11_alike 59 = .ok (.aload_n 3, 1) := by decide +kernel
theorem dX11_alike_60 : decode cX11_alike 60 = .ok (.invokevirtual 252, 3) := by decide +kernel
theorem dX11_alike_63 : decode cX11_alike 63 = .ok (.istore 5, 2) := by decide +kernel
theorem dX11_alike_65 : decode cX11_alike 65 = .ok (.aload 4, 2) := by decide +kernel
theorem dX11_alike_67 : decode cX11_alike 67 = .ok (.invokevirtual 252, 3) := by decide +kernel
theorem dX11_alike_70 : decode cX11_alike 70 = .ok (.istore 6, 2) := by decide +kernel
theorem dX11_alike_72 : decode cX11_alike 72 = .ok (.aload_n 0, 1) := by decide +kernel
theorem dX11_alike_73 : decode cX11_alike 73 = .ok (.getfield 42, 3) := by decide +kernel
theorem dX11_alike_76 : decode cX11_alike 76 = .ok (.aload_n 3, 1) := by decide +kernel
theorem dX11_alike_77 : decode cX11_alike 77 = .ok (.iconst 0, 1) := by decide +kernel
theorem dX11_alike_78 : decode cX11_alike 78 = .ok (.iload 5, 2) := by decide +kernel
theorem dX11_alike_80 : decode cX11_alike 80 = .ok (.invokevirtual 255, 3) := by decide +kernel
theorem dX11_alike_83 : decode cX11_alike 83 = .ok (.iconst 0, 1) := by decide +kernel
theorem dX11_alike_84 : decode cX11_alike 84 = .ok (.istore 7, 2) := by decide +kernel
theorem dX11_alike_86 : decode cX11_alike 86 = .ok (.iload 7, 2) := by decide +kernel
theorem dX11_alike_88 : decode cX11_alike 88 = .ok (.bipush 8, 2) := by decide +kernel
theorem dX11_alike_90 : decode cX11_alike 90 = .ok (.if_icmp .ge 38, 3) := by decide +kernel
theorem dX11_alike_93 : decode cX11_alike 93 = .ok (.aload_n 0, 1) := by decide +kernel
theorem dX11_alike_94 : decode cX11_alike 94 = .ok (.getfield 46, 3) := by decide +kernel
theorem dX11_alike_97 : decode cX11_alike 97 = .ok (.aload 4, 2) := by decide +kernel
theorem dX11_alike_99 : decode cX11_alike 99 = .ok (.iload 7, 2) := by decide +kernel
theorem dX11_alike_101 : decode cX11_alike 101 = .ok (.iload 6, 2) := by decide +kernel
theorem dX11_alike_103 : decode cX11_alike 103 = .ok (.invokevirtual 255, 3) := by decide +kernel
theorem dX11_alike_106 : decode cX11_alike 106 = .ok (.aload_n 0, 1) := by decide +kernel
theorem dX11_alike_107 : decode cX11_alike 107 = .ok (.getfield 42, 3) := by decide +kernel
theorem dX11_alike_110 : decode cX11_alike 110 = .ok (.aload_n 0, 1) := by decide +kernel
theorem dX11_alike_111 : decode cX11_alike 111 = .ok (.getfield 46, 3) := by decide +kernel
theorem dX11_alike_114 : decode cX11_alike 114 = .ok (.invokevirtual 259, 3) := by decide +kernel
theorem dX11_alike_117 : decode cX11_alike 117 = .ok (.ifCond .eq 5, 3) := by decide +kernel
theorem dX11_alike_120 : decode cX11_alike 120 = .ok (.iconst 1, 1) := by decide +kernel
theorem dX11_alike_121 : decode cX11_alike 121 = .ok (.ireturn, 1) := by decide +kernel
theorem dX11_alike_122 : decode cX11_alike 122 = .ok (.iinc 7 1, 3) := by decide +kernel
theorem dX11_alike_125 : decode cX11_alike 125 = .ok (.goto (-39), 3) := by decide +kernel
theorem dX11_alike_128 : decode cX11_alike 128 = .ok (.iconst 0, 1) := by decide +kernel
theorem dX11_alike_129 : decode cX11_alike 129 = .ok (.ireturn, 1) := by decide +kernel
theorem dX11_join_0 : decode cX11_join 0 = .ok (.aload_n 0, 1) := by decide +kernel
theorem dX11_join_1 : decode cX11_join 1 = .ok (.iload_n 1, 1) := by decide +kernel
theorem dX11_join_2 : decode cX11_join 2 = .ok (.invokevirtual 263, 3) := by decide +kernel
theorem dX11_join_5 : decode cX11_join 5 = .ok (.astore 4, 2) := by decide +kernel
theorem dX11_join_7 : decode cX11_join 7 = .ok (.aload_n 0, 1) := by decide +kernel
theorem dX11_join_8 : decode cX11_join 8 = .ok (.iload_n 2, 1) := by decide +kernel
theorem dX11_join_9 : decode cX11_join 9 = .ok (.invokevirtual 263, 3) := by decide +kernel
theorem dX11_join_12 : decode cX11_join 12 = .ok (.astore 5, 2) := by decide +kernel
theorem dX11_join_14 : decode cX11_join 14 = .ok (.aload 4, 2) := by decide +kernel
theorem dX11_join_16 : decode cX11_join 16 = .ok (.ifnull 24, 3) := by decide +kernel
theorem dX11_join_19 : decode cX11_join 19 = .ok (.aload 5, 2) := by decide +kernel
theorem dX11_join_21 : decode cX11_join 21 = .ok (.ifnull 19, 3) := by decide +kernel
theorem dX11_join_24 : decode cX11_join 24 = .ok (.aload 4, 2) := by decide +kernel
theorem dX11_join_26 : decode cX11_join 26 = .ok (.getfield 127, 3) := by decide +kernel
theorem dX11_join_29 : decode cX11_join 29 = .ok (.aload 5, 2) := by decide +kernel
theorem dX11_join_31 : decode cX11_join 31 = .ok (.getfield 127, 3) := by decide +kernel
theorem dX11_join_34 : decode cX11_join 34 = .ok (.iadd, 1) := by decide +kernel
theorem dX11_join_35 : decode cX11_join 35 = .ok (.bipush 40, 2) := by decide +kernel
theorem dX11_join_37 : decode cX11_join 37 = .ok (.if_icmp .le 5, 3) := by decide +kernel
theorem dX11_join_40 : decode cX11_join 40 = .ok (.iconst (-1), 1) := by decide +kernel
theorem dX11_join_41 : decode cX11_join 41 = .ok (.ireturn, 1) := by decide +kernel
theorem dX11_join_42 : decode cX11_join 42 = .ok (.iload_n 3, 1) := by decide +kernel
theorem dX11_join_43 : decode cX11_join 43 = .ok (.ifCond .eq 11, 3) := by decide +kernel
theorem dX11_join_46 : decode cX11_join 46 = .ok (.aload 4, 2) := by decide +kernel
theorem dX11_join_48 : decode cX11_join 48 = .ok (.getfield 130, 3) := by decide +kernel
theorem dX11_join_51 : decode cX11_join 51 = .ok (.goto 8, 3) := by decide +kernel
theorem dX11_join_54 : decode cX11_join 54 = .ok (.aload 4, 2) := by decide +kernel
theorem dX11_join_56 : decode cX11_join 56 = .ok (.getfield 133, 3) := by decide +kernel
theorem dX11_join_59 : decode cX11_join 59 = .ok (.istore 6, 2) := by decide +kernel
theorem dX11_join_61 : decode cX11_join 61 = .ok (.iload_n 3, 1) := by decide +kernel
theorem dX11_join_62 : decode cX11_join 62 = .ok (.ifCond .eq 11, 3) := by decide +kernel
theorem dX11_join_65 : decode cX11_join 65 = .ok (.aload 5, 2) := by decide +kernel
theorem dX11_join_67 : decode cX11_join 67 = .ok (.getfield 130, 3) := by decide +kernel
theorem dX11_join_70 : decode cX11_join 70 = .ok (.goto 8, 3) := by decide +kernel
theorem dX11_join_73 : decode cX11_join 73 = .ok (.aload 5, 2) := by decide +kernel
theorem dX11_join_75 : decode cX11_join 75 = .ok (.getfield 133, 3) := by decide +kernel
theorem dX11_join_78 : decode cX11_join 78 = .ok (.istore 7, 2) := by decide +kernel
theorem dX11_join_80 : decode cX11_join 80 = .ok (.iload 6, 2) := by decide +kernel
theorem dX11_join_82 : decode cX11_join 82 = .ok (.iload 7, 2) := by decide +kernel
theorem dX11_join_84 : decode cX11_join 84 = .ok (.invokestatic 266, 3) := by decide +kernel
theorem dX11_join_87 : decode cX11_join 87 = .ok (.istore 8, 2) := by decide +kernel
theorem dX11_join_89 : decode cX11_join 89 = .ok (.iload 8, 2) := by decide +kernel
theorem dX11_join_91 : decode cX11_join 91 = .ok (.ifCond .ne 5, 3) := by decide +kernel
theorem dX11_join_94 : decode cX11_join 94 = .ok (.iconst (-1), 1) := by decide +kernel
theorem dX11_join_95 : decode cX11_join 95 = .ok (.ireturn, 1) := by decide +kernel
theorem dX11_join_96 : decode cX11_join 96 = .ok (.iload 7, 2) := by decide +kernel
theorem dX11_join_98 : decode cX11_join 98 = .ok (.iload 8, 2) := by decide +kernel
theorem dX11_join_100 : decode cX11_join 100 = .ok (.idiv, 1) := by decide +kernel
theorem dX11_join_101 : decode cX11_join 101 = .ok (.istore 9, 2) := by decide +kernel
theorem dX11_join_103 : decode cX11_join 103 = .ok (.iload 6, 2) := by decide +kernel
theorem dX11_join_105 : decode cX11_join 105 = .ok (.iload 8, 2) := by decide +kernel
theorem dX11_join_107 : decode cX11_join 107 = .ok (.idiv, 1) := by decide +kernel
theorem dX11_join_108 : decode cX11_join 108 = .ok (.istore 10, 2) := by decide +kernel
theorem dX11_join_110 : decode cX11_join 110 = .ok (.aload 4, 2) := by decide +kernel
theorem dX11_join_112 : decode cX11_join 112 = .ok (.getfield 130, 3) := by decide +kernel
theorem dX11_join_115 : decode cX11_join 115 = .ok (.i2l, 1) := by decide +kernel
theorem dX11_join_116 : decode cX11_join 116 = .ok (.iload 9, 2) := by decide +kernel
theorem dX11_join_118 : decode cX11_join 118 = .ok (.i2l, 1) := by decide +kernel
theorem dX11_join_119 : decode cX11_join 119 = .ok (.lmul, 1) := by decide +kernel
theorem dX11_join_120 : decode cX11_join 120 = .ok (.lstore 11, 2) := by decide +kernel
theorem dX11_join_122 : decode cX11_join 122 = .ok (.aload 4, 2) := by decide +kernel
theorem dX11_join_124 : decode cX11_join 124 = .ok (.getfield 133, 3) := by decide +kernel
theorem dX11_join_127 : decode cX11_join 127 = .ok (.i2l, 1) := by decide +kernel
theorem dX11_join_128 : decode cX11_join 128 = .ok (.iload 9, 2) := by decide +kernel
theorem dX11_join_130 : decode cX11_join 130 = .ok (.i2l, 1) := by decide +kernel
theorem dX11_join_131 : decode cX11_join 131 = .ok (.lmul, 1) := by decide +kernel
theorem dX11_join_132 : decode cX11_join 132 = .ok (.lstore 13, 2) := by decide +kernel
theorem dX11_join_134 : decode cX11_join 134 = .ok (.iload_n 3, 1) := by decide +kernel
theorem dX11_join_135 : decode cX11_join 135 = .ok (.ifCond .eq 8, 3) := by decide +kernel
theorem dX11_join_138 : decode cX11_join 138 = .ok (.lload 11, 2) := by decide +kernel
theorem dX11_join_140 : decode cX11_join 140 = .ok (.goto 16, 3) := by decide +kernel
theorem dX11_join_143 : decode cX11_join 143 = .ok (.lload 11, 2) := by decide +kernel
theorem dX11_join_145 : decode cX11_join 145 = .ok (.aload 5, 2) := by decide +kernel
theorem dX11_join_147 : decode cX11_join 147 = .ok (.getfield 130, 3) := by decide +kernel
theorem dX11_join_150 : decode cX11_join 150 = .ok (.i2l, 1) := by decide +kernel
theorem dX11_join_151 : decode cX11_join 151 = .ok (.iload 10, 2) := by decide +kernel
theorem dX11_join_153 : decode cX11_join 153 = .ok (.i2l, 1) := by decide +kernel
theorem dX11_join_154 : decode cX11_join 154 = .ok (.lmul, 1) := by decide +kernel
theorem dX11_join_155 : decode cX11_join 155 = .ok (.ladd, 1) := by decide +kernel
theorem dX11_join_156 : decode cX11_join 156 = .ok (.lstore 15, 2) := by decide +kernel
theorem dX11_join_158 : decode cX11_join 158 = .ok (.iload_n 3, 1) := by decide +kernel
theorem dX11_join_159 : decode cX11_join 159 = .ok (.ifCond .eq 19, 3) := by decide +kernel
theorem dX11_join_162 : decode cX11_join 162 = .ok (.lload 13, 2) := by decide +kernel
theorem dX11_join_164 : decode cX11_join 164 = .ok (.aload 5, 2) := by decide +kernel
theorem dX11_join_166 : decode cX11_join 166 = .ok (.getfield 133, 3) := by decide +kernel
theorem dX11_join_169 : decode cX11_join 169 = .ok (.i2l, 1) := by decide +kernel
theorem dX11_join_170 : decode cX11_join 170 = .ok (.iload 10, 2) := by decide +kernel
theorem dX11_join_172 : decode cX11_join 172 = .ok (.i2l, 1) := by decide +kernel
theorem dX11_join_173 : decode cX11_join 173 = .ok (.lmul, 1) := by decide +kernel
theorem dX11_join_174 : decode cX11_join 174 = .ok (.ladd, 1) := by decide +kernel
theorem dX11_join_175 : decode cX11_join 175 = .ok (.goto 5, 3) := by decide +kernel
theorem dX11_join_178 : decode cX11_join 178 = .ok (.lload 13, 2) := by decide +kernel
