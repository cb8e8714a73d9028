theorem dX12_takesE_97 : decode cX12_takesE 97 = .ok (.aload_n 0, 1) := by decide +kernel
theorem dX12_takesE_98 : decode cX12_takesE 98 = .ok (.getfield 195, 3) := by decide +kernel
theorem dX12_takesE_101 : decode cX12_takesE 101 = .ok (.iconst 3, 1) := by decide +kernel
theorem dX12_takesE_102 : decode cX12_takesE 102 = .ok (.if_icmp .ne 56, 3) := by decide +kernel
theorem dX12_takesE_105 : decode cX12_takesE 105 = .ok (.aload_n 0, 1) := by decide +kernel
theorem dX12_takesE_106 : decode cX12_takesE 106 = .ok (.getfield 201, 3) := by decide +kernel
theorem dX12_takesE_109 : decode cX12_takesE 109 = .ok (.bipush 40, 2) := by decide +kernel
theorem dX12_takesE_111 : decode cX12_takesE 111 = .ok (.if_icmp .ne 47, 3) := by decide +kernel
theorem dX12_takesE_114 : decode cX12_takesE 114 = .ok (.iload_n 1, 1) := by decide +kernel
theorem dX12_takesE_115 : decode cX12_takesE 115 = .ok (.bipush 8, 2) := by decide +kernel
theorem dX12_takesE_117 : decode cX12_takesE 117 = .ok (.if_icmp .ge 41, 3) := by decide +kernel
theorem dX12_takesE_120 : decode cX12_takesE 120 = .ok (.aload_n 0, 1) := by decide +kernel
theorem dX12_takesE_121 : decode cX12_takesE 121 = .ok (.getfield 35, 3) := by decide +kernel
theorem dX12_takesE_124 : decode cX12_takesE 124 = .ok (.aload_n 0, 1) := by decide +kernel
theorem dX12_takesE_125 : decode cX12_takesE 125 = .ok (.getfield 213, 3) := by decide +kernel
theorem dX12_takesE_128 : decode cX12_takesE 128 = .ok (.bipush (-11), 2) := by decide +kernel
theorem dX12_takesE_130 : decode cX12_takesE 130 = .ok (.iastore, 1) := by decide +kernel
theorem dX12_takesE_131 : decode cX12_takesE 131 = .ok (.aload_n 0, 1) := by decide +kernel
theorem dX12_takesE_132 : decode cX12_takesE 132 = .ok (.dup, 1) := by decide +kernel
theorem dX12_takesE_133 : decode cX12_takesE 133 = .ok (.getfield 213, 3) := by decide +kernel
theorem dX12_takesE_136 : decode cX12_takesE 136 = .ok (.iconst 1, 1) := by decide +kernel
theorem dX12_takesE_137 : decode cX12_takesE 137 = .ok (.iadd, 1) := by decide +kernel
theorem dX12_takesE_138 : decode cX12_takesE 138 = .ok (.putfield 213, 3) := by decide +kernel
theorem dX12_takesE_141 : decode cX12_takesE 141 = .ok (.iinc 1 1, 3) := by decide +kernel
theorem dX12_takesE_144 : decode cX12_takesE 144 = .ok (.aload_n 0, 1) := by decide +kernel
theorem dX12_takesE_145 : decode cX12_takesE 145 = .ok (.getfield 38, 3) := by decide +kernel
theorem dX12_takesE_148 : decode cX12_takesE 148 = .ok (.iload_n 1, 1) := by decide +kernel
theorem dX12_takesE_149 : decode cX12_takesE 149 = .ok (.iconst 0, 1) := by decide +kernel
theorem dX12_takesE_150 : decode cX12_takesE 150 = .ok (.bastore, 1) := by decide +kernel
theorem dX12_takesE_151 : decode cX12_takesE 151 = .ok (.aload_n 0, 1) := by decide +kernel
theorem dX12_takesE_152 : decode cX12_takesE 152 = .ok (.invokevirtual 210, 3) := by decide +kernel
theorem dX12_takesE_155 : decode cX12_takesE 155 = .ok (.goto 17, 3) := by decide +kernel
theorem dX12_takesE_158 : decode cX12_takesE 158 = .ok (.aload_n 0, 1) := by decide +kernel
theorem dX12_takesE_159 : decode cX12_takesE 159 = .ok (.invokevirtual 232, 3) := by decide +kernel
theorem dX12_takesE_162 : decode cX12_takesE 162 = .ok (.ifCond .eq 8, 3) := by decide +kernel
theorem dX12_takesE_165 : decode cX12_takesE 165 = .ok (.iconst 0, 1) := by decide +kernel
theorem dX12_takesE_166 : decode cX12_takesE 166 = .ok (.istore_n 3, 1) := by decide +kernel
theorem dX12_takesE_167 : decode cX12_takesE 167 = .ok (.goto 5, 3) := by decide +kernel
theorem dX12_takesE_170 : decode cX12_takesE 170 = .ok (.iconst 0, 1) := by decide +kernel
theorem dX12_takesE_171 : decode cX12_takesE 171 = .ok (.ireturn, 1) := by decide +kernel
theorem dX12_takesE_172 : decode cX12_takesE 172 = .ok (.aload_n 0, 1) := by decide +kernel
theorem dX12_takesE_173 : decode cX12_takesE 173 = .ok (.invokevirtual 236, 3) := by decide +kernel
theorem dX12_takesE_176 : decode cX12_takesE 176 = .ok (.istore_n 2, 1) := by decide +kernel
theorem dX12_takesE_177 : decode cX12_takesE 177 = .ok (.goto (-149), 3) := by decide +kernel
theorem dX12_takesE_180 : decode cX12_takesE 180 = .ok (.aload_n 0, 1) := by decide +kernel
theorem dX12_takesE_181 : decode cX12_takesE 181 = .ok (.getfield 195, 3) := by decide +kernel
theorem dX12_takesE_184 : decode cX12_takesE 184 = .ok (.iconst 3, 1) := by decide +kernel
theorem dX12_takesE_185 : decode cX12_takesE 185 = .ok (.if_icmp .ne 52, 3) := by decide +kernel
theorem dX12_takesE_188 : decode cX12_takesE 188 = .ok (.aload_n 0, 1) := by decide +kernel
theorem dX12_takesE_189 : decode cX12_takesE 189 = .ok (.getfield 201, 3) := by decide +kernel
theorem dX12_takesE_192 : decode cX12_takesE 192 = .ok (.bipush 41, 2) := by decide +kernel
theorem dX12_takesE_194 : decode cX12_takesE 194 = .ok (.if_icmp .ne 43, 3) := by decide +kernel
theorem dX12_takesE_197 : decode cX12_takesE 197 = .ok (.iload_n 1, 1) := by decide +kernel
theorem dX12_takesE_198 : decode cX12_takesE 198 = .ok (.ifCond .le 39, 3) := by decide +kernel
theorem dX12_takesE_201 : decode cX12_takesE 201 = .ok (.aload_n 0, 1) := by decide +kernel
theorem dX12_takesE_202 : decode cX12_takesE 202 = .ok (.iconst 0, 1) := by decide +kernel
theorem dX12_takesE_203 : decode cX12_takesE 203 = .ok (.invokevirtual 228, 3) := by decide +kernel
theorem dX12_takesE_206 : decode cX12_takesE 206 = .ok (.aload_n 0, 1) := by decide +kernel
theorem dX12_takesE_207 : decode cX12_takesE 207 = .ok (.dup, 1) := by decide +kernel
theorem dX12_takesE_208 : decode cX12_takesE 208 = .ok (.getfield 213, 3) := by decide +kernel
theorem dX12_takesE_211 : decode cX12_takesE 211 = .ok (.iconst 1, 1) := by decide +kernel
theorem dX12_takesE_212 : decode cX12_takesE 212 = .ok (.isub, 1) := by decide +kernel
theorem dX12_takesE_213 : decode cX12_takesE 213 = .ok (.putfield 213, 3) := by decide +kernel
theorem dX12_takesE_216 : decode cX12_takesE 216 = .ok (.iinc 1 (-1), 3) := by decide +kernel
theorem dX12_takesE_219 : decode cX12_takesE 219 = .ok (.aload_n 0, 1) := by decide +kernel
theorem dX12_takesE_220 : decode cX12_takesE 220 = .ok (.bipush 6, 2) := by decide +kernel
theorem dX12_takesE_222 : decode cX12_takesE 222 = .ok (.invokevirtual 228, 3) := by decide +kernel
theorem dX12_takesE_225 : decode cX12_takesE 225 = .ok (.aload_n 0, 1) := by decide +kernel
theorem dX12_takesE_226 : decode cX12_takesE 226 = .ok (.invokevirtual 236, 3) := by decide +kernel
theorem dX12_takesE_229 : decode cX12_takesE 229 = .ok (.istore_n 2, 1) := by decide +kernel
theorem dX12_takesE_230 : decode cX12_takesE 230 = .ok (.aload_n 0, 1) := by decide +kernel
theorem dX12_takesE_231 : decode cX12_takesE 231 = .ok (.invokevirtual 210, 3) := by decide +kernel
theorem dX12_takesE_234 : decode cX12_takesE 234 = .ok (.goto (-206), 3) := by decide +kernel
theorem dX12_takesE_237 : decode cX12_takesE 237 = .ok (.aload_n 0, 1) := by decide +kernel
theorem dX12_takesE_238 : decode cX12_takesE 238 = .ok (.invokevirtual 240, 3) := by decide +kernel
theorem dX12_takesE_241 : decode cX12_takesE 241 = .ok (.istore 4, 2) := by decide +kernel
theorem dX12_takesE_243 : decode cX12_takesE 243 = .ok (.iload 4, 2) := by decide +kernel
theorem dX12_takesE_245 : decode cX12_takesE 245 = .ok (.ifCond .eq 21, 3) := by decide +kernel
theorem dX12_takesE_248 : decode cX12_takesE 248 = .ok (.iload 4, 2) := by decide +kernel
theorem dX12_takesE_250 : decode cX12_takesE 250 = .ok (.invokestatic 216, 3) := by decide +kernel
theorem dX12_takesE_253 : decode cX12_takesE 253 = .ok (.iconst 3, 1) := by decide +kernel
theorem dX12_takesE_254 : decode cX12_takesE 254 = .ok (.if_icmp .ne 14, 3) := by decide +kernel
theorem dX12_takesE_257 : decode cX12_takesE 257 = .ok (.aload_n 0, 1) := by decide +kernel
theorem dX12_takesE_258 : decode cX12_takesE 258 = .ok (.getfield 38, 3) := by decide +kernel
theorem dX12_takesE_261 : decode cX12_takesE 261 = .ok (.iload_n 1, 1) := by decide +kernel
theorem dX12_takesE_262 : decode cX12_takesE 262 = .ok (.baload, 1) := by decide +kernel
theorem dX12_takesE_263 : decode cX12_takesE 263 = .ok (.ifCond .eq 5, 3) := by decide +kernel
theorem dX12_takesE_266 : decode cX12_takesE 266 = .ok (.iconst 0, 1) := by decide +kernel
theorem dX12_takesE_267 : decode cX12_takesE 267 = .ok (.ireturn, 1) := by decide +kernel
theorem dX12_takesE_268 : decode cX12_takesE 268 = .ok (.aload_n 0, 1) := by decide +kernel
theorem dX12_takesE_269 : decode cX12_takesE 269 = .ok (.getfield 38, 3) := by decide +kernel
theorem dX12_takesE_272 : decode cX12_takesE 272 = .ok (.iload_n 1, 1) := by decide +kernel
theorem dX12_takesE_273 : decode cX12_takesE 273 = .ok (.iload 4, 2) := by decide +kernel
theorem dX12_takesE_275 : decode cX12_takesE 275 = .ok (.invokestatic 216, 3) := by decide +kernel
theorem dX12_takesE_278 : decode cX12_takesE 278 = .ok (.iconst 3, 1) := by decide +kernel
theorem dX12_takesE_279 : decode cX12_takesE 279 = .ok (.if_icmp .eq 21, 3) := by decide +kernel
theorem dX12_takesE_282 : decode cX12_takesE 282 = .ok (.iload 4, 2) := by decide +kernel
theorem dX12_takesE_284 : decode cX12_takesE 284 = .ok (.invokestatic 216, 3) := by decide +kernel
theorem dX12_takesE_287 : decode cX12_takesE 287 = .ok (.iconst 3, 1) := by decide +kernel
theorem dX12_takesE_288 : decode cX12_takesE 288 = .ok (.if_icmp .le 16, 3) := by decide +kernel
theorem dX12_takesE_291 : decode cX12_takesE 291 = .ok (.aload_n 0, 1) := by decide +kernel
theorem dX12_takesE_292 : decode cX12_takesE 292 = .ok (.getfield 38, 3) := by decide +kernel
theorem dX12_takesE_295 : decode cX12_takesE 295 = .ok (.iload_n 1, 1) := by decide +kernel
theorem dX12_takesE_296 : decode cX12_takesE 296 = .ok (.baload, 1) := by decide +kernel
theorem dX12_takesE_297 : decode cX12_takesE 297 = .ok (.ifCond .eq 7, 3) := by decide +kernel
theorem dX12_takesE_300 : decode cX12_takesE 300 = .ok (.iconst 1, 1) := by decide +kernel
theorem dX12_takesE_301 : decode cX12_takesE 301 = .ok (.goto 4, 3) := by decide +kernel
theorem dX12_takesE_304 : decode cX12_takesE 304 = .ok (.iconst 0, 1) := by decide +kernel
theorem dX12_takesE_305 : decode cX12_takesE 305 = .ok (.bastore, 1) := by decide +kernel
theorem dX12_takesE_306 : decode cX12_takesE 306 = .ok (.aload_n 0, 1) := by decide +kernel
theorem dX12_takesE_307 : decode cX12_takesE 307 = .ok (.iload 4, 2) := by decide +kernel
theorem dX12_takesE_309 : decode cX12_takesE 309 = .ok (.invokestatic 216, 3) := by decide +kernel
theorem dX12_takesE_312 : decode cX12_takesE 312 = .ok (.invokevirtual 228, 3) := by decide +kernel
theorem dX12_takesE_315 : decode cX12_takesE 315 = .ok (.aload_n 0, 1) := by decide +kernel
theorem dX12_takesE_316 : decode cX12_takesE 316 = .ok (.getfield 35, 3) := by decide +kernel
theorem dX12_takesE_319 : decode cX12_takesE 319 = .ok (.aload_n 0, 1) := by decide +kernel
theorem dX12_takesE_320 : decode cX12_takesE 320 = .ok (.getfield 213, 3) := by decide +kernel
theorem dX12_takesE_323 : decode cX12_takesE 323 = .ok (.iload 4, 2) := by decide +kernel
theorem dX12_takesE_325 : decode cX12_takesE 325 = .ok (.iastore, 1) := by decide +kernel
theorem dX12_takesE_326 : decode cX12_takesE 326 = .ok (.aload_n 0, 1) := by decide +kernel
theorem dX12_takesE_327 : decode cX12_takesE 327 = .ok (.dup, 1) := by decide +kernel
theorem dX12_takesE_328 : decode cX12_takesE 328 = .ok (.getfield 213, 3) := by decide +kernel
theorem dX12_takesE_331 : decode cX12_takesE 331 = .ok (.iconst 1, 1) := by decide +kernel
theorem dX12_takesE_332 : decode cX12_takesE 332 = .ok (.iadd, 1) := by decide +kernel
theorem dX12_takesE_333 : decode cX12_takesE 333 = .ok (.putfield 213, 3) := by decide +kernel
theorem dX12_takesE_336 : decode cX12_takesE 336 = .ok (.iconst 1, 1) := by decide +kernel
theorem dX12_takesE_337 : decode cX12_takesE 337 = .ok (.istore_n 3, 1) := by decide +kernel
theorem dX12_takesE_338 : decode cX12_takesE 338 = .ok (.aload_n 0, 1) := by decide +kernel
theorem dX12_takesE_339 : decode cX12_takesE 339 = .ok (.invokevirtual 210, 3) := by decide +kernel
theorem dX12_takesE_342 : decode cX12_takesE 342 = .ok (.goto (-314), 3) := by decide +kernel
theorem dX12_takesE_345 : decode cX12_takesE 345 = .ok (.aload_n 0, 1) := by decide +kernel
theorem dX12_takesE_346 : decode cX12_takesE 346 = .ok (.iconst 0, 1) := by decide +kernel
theorem dX12_takesE_347 : decode cX12_takesE 347 = .ok (.invokevirtual 228, 3) := by decide +kernel
theorem dX12_takesE_350 : decode cX12_takesE 350 = .ok (.iload_n 1, 1) := by decide +kernel
theorem dX12_takesE_351 : decode cX12_takesE 351 = .ok (.ifCond .ne 7, 3) := by decide +kernel
theorem dX12_takesE_354 : decode cX12_takesE 354 = .ok (.iconst 1, 1) := by decide +kernel
theorem dX12_takesE_355 : decode cX12_takesE 355 = .ok (.goto 4, 3) := by decide +kernel
theorem dX12_takesE_358 : decode cX12_takesE 358 = .ok (.iconst 0, 1) := by decide +kernel
theorem dX12_takesE_359 : decode cX12_takesE 359 = .ok (.ireturn, 1) := by decide +kernel
theorem dX12_notsOpen_0 : decode cX12_notsOpen 0 = .ok (.iconst 0, 1) := by decide +kernel
theorem dX12_notsOpen_1 : decode cX12_notsOpen 1 = .ok (.istore_n 1, 1) := by decide +kernel
theorem dX12_notsOpen_2 : decode cX12_notsOpen 2 = .ok (.iconst 0, 1) := by decide +kernel
theorem dX12_notsOpen_3 : decode cX12_notsOpen 3 = .ok (.istore_n 2, 1) := by decide +kernel
theorem dX12_notsOpen_4 : decode cX12_notsOpen 4 = .ok (.iload_n 2, 1) := by decide +kernel
theorem dX12_notsOpen_5 : decode cX12_notsOpen 5 = .ok (.aload_n 0, 1) := by decide +kernel
theorem dX12_notsOpen_6 : decode cX12_notsOpen 6 = .ok (.getfield 213, 3) := by decide +kernel
theorem dX12_notsOpen_9 : decode cX12_notsOpen 9 = .ok (.if_icmp .ge 28, 3) := by decide +kernel
theorem dX12_notsOpen_12 : decode cX12_notsOpen 12 = .ok (.iload_n 1, 1) := by decide +kernel
theorem dX12_notsOpen_13 : decode cX12_notsOpen 13 = .ok (.aload_n 0, 1) := by decide +kernel
theorem dX12_notsOpen_14 : decode cX12_notsOpen 14 = .ok (.getfield 35, 3) := by decide +kernel
theorem dX12_notsOpen_17 : decode cX12_notsOpen 17 = .ok (.iload_n 2, 1) := by decide +kernel
theorem dX12_notsOpen_18 : decode cX12_notsOpen 18 = .ok (.iaload, 1) := by decide +kernel
theorem dX12_notsOpen_19 : decode cX12_notsOpen 19 = .ok (.bipush (-10), 2) := by decide +kernel
theorem dX12_notsOpen_21 : decode cX12_notsOpen 21 = .ok (.if_icmp .ne 7, 3) := by decide +kernel
theorem dX12_notsOpen_24 : decode cX12_notsOpen 24 = .ok (.iconst 1, 1) := by decide +kernel
theorem dX12_notsOpen_25 : decode cX12_notsOpen 25 = .ok (.goto 4, 3) := by decide +kernel
theorem dX12_notsOpen_28 : decode cX12_notsOpen 28 = .ok (.iconst 0, 1) := by decide +kernel
theorem dX12_notsOpen_29 : decode cX12_notsOpen 29 = .ok (.iadd, 1) := by decide +kernel
theorem dX12_notsOpen_30 : decode cX12_notsOpen 30 = .ok (.istore_n 1, 1) := by decide +kernel
theorem dX12_notsOpen_31 : decode cX12_notsOpen 31 = .ok (.iinc 2 1, 3) := by decide +kernel
theorem dX12_notsOpen_34 : decode cX12_notsOpen 34 = .ok (.goto (-30), 3) := by decide +kernel
theorem dX12_notsOpen_37 : decode cX12_notsOpen 37 = .ok (.iload_n 1, 1) := by decide +kernel
theorem dX12_notsOpen_38 : decode cX12_notsOpen 38 = .ok (.ireturn, 1) := by decide +kernel
theorem dX12_text_0 : decode cX12_text 0 = .ok (.aload_n 0, 1) := by decide +kernel
theorem dX12_text_1 : decode cX12_text 1 = .ok (.iconst 0, 1) := by decide +kernel
theorem dX12_text_2 : decode cX12_text 2 = .ok (.putfield 186, 3) := by decide +kernel
theorem dX12_text_5 : decode cX12_text 5 = .ok (.aload_n 0, 1) := by decide +kernel
theorem dX12_text_6 : decode cX12_text 6 = .ok (.iconst (-1), 1) := by decide +kernel
theorem dX12_text_7 : decode cX12_text 7 = .ok (.putfield 192, 3) := by decide +kernel
theorem dX12_text_10 : decode cX12_text 10 = .ok (.aload_n 0, 1) := by decide +kernel
theorem dX12_text_11 : decode cX12_text 11 = .ok (.invokevirtual 210, 3) := by decide +kernel
theorem dX12_text_14 : decode cX12_text 14 = .ok (.aload_n 0, 1) := by decide +kernel
theorem dX12_text_15 : decode cX12_text 15 = .ok (.invokevirtual 243, 3) := by decide +kernel
theorem dX12_text_18 : decode cX12_text 18 = .ok (.ifCond .eq 14, 3) := by decide +kernel
theorem dX12_text_21 : decode cX12_text 21 = .ok (.aload_n 0, 1) := by decide +kernel
theorem dX12_text_22 : decode cX12_text 22 = .ok (.invokevirtual 246, 3) := by decide +kernel
theorem dX12_text_25 : decode cX12_text 25 = .ok (.ifCond .eq 7, 3) := by decide +kernel
theorem dX12_text_28 : decode cX12_text 28 = .ok (.iconst 1, 1) := by decide +kernel
theorem dX12_text_29 : decode cX12_text 29 = .ok (.goto 4, 3) := by decide +kernel
theorem dX12_text_32 : decode cX12_text 32 = .ok (.iconst 0, 1) := by decide +kernel
theorem dX12_text_33 : decode cX12_text 33 = .ok (.istore_n 1, 1) := by decide +kernel
theorem dX12_text_34 : decode cX12_text 34 = .ok (.aload_n 0, 1) := by decide +kernel
theorem dX12_text_35 : decode cX12_text 35 = .ok (.iconst 0, 1) := by decide +kernel
theorem dX12_text_36 : decode cX12_text 36 = .ok (.putfield 183, 3) := by decide +kernel
theorem dX12_text_39 : decode cX12_text 39 = .ok (.iload_n 1, 1) := by decide +kernel
theorem dX12_text_40 : decode cX12_text 40 = .ok (.ifCond .ne 11, 3) := by decide +kernel
theorem dX12_text_43 : decode cX12_text 43 = .ok (.bipush (-100), 2) := by decide +kernel
theorem dX12_text_45 : decode cX12_text 45 = .ok (.aload_n 0, 1) := by decide +kernel
theorem dX12_text_46 : decode cX12_text 46 = .ok (.getfield 189, 3) := by decide +kernel
theorem dX12_text_49 : decode cX12_text 49 = .ok (.isub, 1) := by decide +kernel
theorem dX12_text_50 : decode cX12_text 50 = .ok (.ireturn, 1) := by decide +kernel
theorem dX12_text_51 : decode cX12_text 51 = .ok (.aload_n 0, 1) := by decide +kernel
theorem dX12_text_52 : decode cX12_text 52 = .ok (.getfield 9, 3) := by decide +kernel
theorem dX12_text_55 : decode cX12_text 55 = .ok (.bipush 8, 2) := by decide +kernel
theorem dX12_text_57 : decode cX12_text 57 = .ok (.iaload, 1) := by decide +kernel
theorem dX12_text_58 : decode cX12_text 58 = .ok (.bipush 14, 2) := by decide +kernel
theorem dX12_text_60 : decode cX12_text 60 = .ok (.if_icmp .ne 6, 3) := by decide +kernel
theorem dX12_text_63 : decode cX12_text 63 = .ok (.ldc 106, 2) := by decide +kernel
theorem dX12_text_65 : decode cX12_text 65 = .ok (.ireturn, 1) := by decide +kernel
theorem dX12_text_66 : decode cX12_text 66 = .ok (.aload_n 0, 1) := by decide +kernel
theorem dX12_text_67 : decode cX12_text 67 = .ok (.getfield 9, 3) := by decide +kernel
theorem dX12_text_70 : decode cX12_text 70 = .ok (.bipush 8, 2) := by decide +kernel
theorem dX12_text_72 : decode cX12_text 72 = .ok (.iaload, 1) := by decide +kernel
theorem dX12_text_73 : decode cX12_text 73 = .ok (.istore_n 2, 1) := by decide +kernel
theorem dX12_text_74 : decode cX12_text 74 = .ok (.aload_n 0, 1) := by decide +kernel
theorem dX12_text_75 : decode cX12_text 75 = .ok (.getfield 9, 3) := by decide +kernel
theorem dX12_text_78 : decode cX12_text 78 = .ok (.sipush 393, 3) := by decide +kernel
theorem dX12_text_81 : decode cX12_text 81 = .ok (.iconst 2, 1) := by decide +kernel
theorem dX12_text_82 : decode cX12_text 82 = .ok (.iload_n 2, 1) := by decide +kernel
theorem dX12_text_83 : decode cX12_text 83 = .ok (.imul, 1) := by decide +kernel
theorem dX12_text_84 : decode cX12_text 84 = .ok (.iadd, 1) := by decide +kernel
theorem dX12_text_85 : decode cX12_text 85 = .ok (.sipush 1000, 3) := by decide +kernel
theorem dX12_text_88 : decode cX12_text 88 = .ok (.aload_n 0, 1) := by decide +kernel
theorem dX12_text_89 : decode cX12_text 89 = .ok (.getfield 207, 3) := by decide +kernel
theorem dX12_text_92 : decode cX12_text 92 = .ok (.imul, 1) := by decide +kernel
theorem dX12_text_93 : decode cX12_text 93 = .ok (.aload_n 0, 1) := by decide +kernel
theorem dX12_text_94 : decode cX12_text 94 = .ok (.getfield 219, 3) := by decide +kernel
theorem dX12_text_97 : decode cX12_text 97 = .ok (.iadd, 1) := by decide +kernel
theorem dX12_text_98 : decode cX12_text 98 = .ok (.iastore, 1) := by decide +kernel
theorem dX12_text_99 : decode cX12_text 99 = .ok (.aload_n 0, 1) := by decide +kernel
theorem dX12_text_100 : decode cX12_text 100 = .ok (.getfield 9, 3) := by decide +kernel
theorem dX12_text_103 : decode cX12_text 103 = .ok (.sipush 393, 3) := by decide +kernel
theorem dX12_text_106 : decode cX12_text 106 = .ok (.iconst 2, 1) := by decide +kernel
theorem dX12_text_107 : decode cX12_text 107 = .ok (.iload_n 2, 1) := by decide +kernel
theorem dX12_text_108 : decode cX12_text 108 = .ok (.imul, 1) := by decide +kernel
theorem dX12_text_109 : decode cX12_text 109 = .ok (.iadd, 1) := by decide +kernel
theorem dX12_text_110 : decode cX12_text 110 = .ok (.iconst 1, 1) := by decide +kernel
theorem dX12_text_111 : decode cX12_text 111 = .ok (.iadd, 1) := by decide +kernel
theorem dX12_text_112 : decode cX12_text 112 = .ok (.aload_n 0, 1) := by decide +kernel
theorem dX12_text_113 : decode cX12_text 113 = .ok (.getfield 225, 3) := by decide +kernel
theorem dX12_text_116 : decode cX12_text 116 = .ok (.iastore, 1) := by decide +kernel
theorem dX12_text_117 : decode cX12_text 117 = .ok (.iconst 0, 1) := by decide +kernel
theorem dX12_text_118 : decode cX12_text 118 = .ok (.istore_n 3, 1) := by decide +kernel
theorem dX12_text_119 : decode cX12_text 119 = .ok (.iload_n 3, 1) := by decide +kernel
theorem dX12_text_120 : decode cX12_text 120 = .ok (.aload_n 0, 1) := by decide +kernel
theorem dX12_text_121 : decode cX12_text 121 = .ok (.getfield 219, 3) := by decide +kernel
theorem dX12_text_124 : decode cX12_text 124 = .ok (.if_icmp .ge 30, 3) := by decide +kernel
theorem dX12_text_127 : decode cX12_text 127 = .ok (.aload_n 0, 1) := by decide +kernel
theorem dX12_text_128 : decode cX12_text 128 = .ok (.getfield 9, 3) := by decide +kernel
theorem dX12_text_131 : decode cX12_text 131 = .ok (.sipush 421, 3) := by decide +kernel
theorem dX12_text_134 : decode cX12_text 134 = .ok (.bipush 96, 2) := by decide +kernel
theorem dX12_text_136 : decode cX12_text 136 = .ok (.iload_n 2, 1) := by decide +kernel
theorem dX12_text_137 : decode cX12_text 137 = .ok (.imul, 1) := by decide +kernel
theorem dX12_text_138 : decode cX12_text 138 = .ok (.iadd, 1) := by decide +kernel
theorem dX12_text_139 : decode cX12_text 139 = .ok (.iload_n 3, 1) := by decide +kernel
theorem dX12_text_140 : decode cX12_text 140 = .ok (.iadd, 1) := by decide +kernel
theorem dX12_text_141 : decode cX12_text 141 = .ok (.aload_n 0, 1) := by decide +kernel
theorem dX12_text_142 : decode cX12_text 142 = .ok (.getfield 32, 3) := by decide +kernel
theorem dX12_text_145 : decode cX12_text 145 = .ok (.iload_n 3, 1) := by decide +kernel
theorem dX12_text_146 : decode cX12_text 146 = .ok (.iaload, 1) := by decide +kernel
theorem dX12_text_147 : decode cX12_text 147 = .ok (.iastore, 1) := by decide +kernel
theorem dX12_text_148 : decode cX12_text 148 = .ok (.iinc 3 1, 3) := by decide +kernel
theorem dX12_text_151 : decode cX12_text 151 = .ok (.goto (-32), 3) := by decide +kernel
theorem dX12_text_154 : decode cX12_text 154 = .ok (.aload_n 0, 1) := by decide +kernel
theorem dX12_text_155 : decode cX12_text 155 = .ok (.getfield 9, 3) := by decide +kernel
theorem dX12_text_158 : decode cX12_text 158 = .ok (.bipush 8, 2) := by decide +kernel
theorem dX12_text_160 : decode cX12_text 160 = .ok (.dup2, 1) := by decide +kernel
theorem dX12_text_161 : decode cX12_text 161 = .ok (.iaload, 1) := by decide +kernel
theorem dX12_text_162 : decode cX12_text 162 = .ok (.iconst 1, 1) := by decide +kernel
theorem dX12_text_163 : decode cX12_text 163 = .ok (.iadd, 1) := by decide +kernel
theorem dX12_text_164 : decode cX12_text 164 = .ok (.iastore, 1) := by decide +kernel
theorem dX12_text_165 : decode cX12_text 165 = .ok (.iload_n 2, 1) := by decide +kernel
theorem dX12_text_166 : decode cX12_text 166 = .ok (.ireturn, 1) := by decide +kernel
theorem dX12_textTold_0 : decode cX12_textTold 0 = .ok (.iload_n 1, 1) := by decide +kernel
theorem dX12_textTold_1 : decode cX12_textTold 1 = .ok (.iconst 0, 1) := by decide +kernel
theorem dX12_textTold_2 : decode cX12_textTold 2 = .ok (.aload_n 0, 1) := by decide +kernel
theorem dX12_textTold_3 : decode cX12_textTold 3 = .ok (.getfield 9, 3) := by decide +kernel
theorem dX12_textTold_6 : decode cX12_textTold 6 = .ok (.bipush 8, 2) := by decide +kernel
theorem dX12_textTold_8 : decode cX12_textTold 8 = .ok (.iaload, 1) := by decide +kernel
theorem dX12_textTold_9 : decode cX12_textTold 9 = .ok (.iconst 1, 1) := by decide +kernel
theorem dX12_textTold_10 : decode cX12_textTold 10 = .ok (.isub, 1) := by decide +kernel
theorem dX12_textTold_11 : decode cX12_textTold 11 = .ok (.invokestatic 102, 3) := by decide +kernel
theorem dX12_textTold_14 : decode cX12_textTold 14 = .ok (.ifCond .eq 12, 3) := by decide +kernel
theorem dX12_textTold_17 : decode cX12_textTold 17 = .ok (.iload_n 2, 1) := by decide +kernel
theorem dX12_textTold_18 : decode cX12_textTold 18 = .ok (.iconst 0, 1) := by decide +kernel
theorem dX12_textTold_19 : decode cX12_textTold 19 = .ok (.iconst 1, 1) := by decide +kernel
theorem dX12_textTold_20 : decode cX12_textTold 20 = .ok (.invokestatic 102, 3) := by decide +kernel
theorem dX12_textTold_23 : decode cX12_textTold 23 = .ok (.ifCond .ne 6, 3) := by decide +kernel
theorem dX12_textTold_26 : decode cX12_textTold 26 = .ok (.ldc 111, 2) := by decide +kernel
theorem dX12_textTold_28 : decode cX12_textTold 28 = .ok (.ireturn, 1) := by decide +kernel
theorem dX12_textTold_29 : decode cX12_textTold 29 = .ok (.iload_n 2, 1) := by decide +kernel
theorem dX12_textTold_30 : decode cX12_textTold 30 = .ok (.ifCond .ne 22, 3) := by decide +kernel
theorem dX12_textTold_33 : decode cX12_textTold 33 = .ok (.aload_n 0, 1) := by decide +kernel
theorem dX12_textTold_34 : decode cX12_textTold 34 = .ok (.getfield 9, 3) := by decide +kernel
theorem dX12_textTold_37 : decode cX12_textTold 37 = .ok (.sipush 393, 3) := by decide +kernel
theorem dX12_textTold_40 : decode cX12_textTold 40 = .ok (.iconst 2, 1) := by decide +kernel
theorem dX12_textTold_41 : decode cX12_textTold 41 = .ok (.iload_n 1, 1) := by decide +kernel
theorem dX12_textTold_42 : decode cX12_textTold 42 = .ok (.imul, 1) := by decide +kernel
theorem dX12_textTold_43 : decode cX12_textTold 43 = .ok (.iadd, 1) := by decide +kernel
theorem dX12_textTold_44 : decode cX12_textTold 44 = .ok (.iaload, 1) := by decide +kernel
theorem dX12_textTold_45 : decode cX12_textTold 45 = .ok (.sipush 1000, 3) := by decide +kernel
theorem dX12_textTold_48 : decode cX12_textTold 48 = .ok (.idiv, 1) := by decide +kernel
theorem dX12_textTold_49 : decode cX12_textTold 49 = .ok (.goto 17, 3) := by decide +kernel
theorem dX12_textTold_52 : decode cX12_textTold 52 = .ok (.aload_n 0, 1) := by decide +kernel
theorem dX12_textTold_53 : decode cX12_textTold 53 = .ok (.getfield 9, 3) := by decide +kernel
theorem dX12_textTold_56 : decode cX12_textTold 56 = .ok (.sipush 393, 3) := by decide +kernel
theorem dX12_textTold_59 : decode cX12_textTold 59 = .ok (.iconst 2, 1) := by decide +kernel
theorem dX12_textTold_60 : decode cX12_textTold 60 = .ok (.iload_n 1, 1) := by decide +kernel
theorem dX12_textTold_61 : decode cX12_textTold 61 = .ok (.imul, 1) := by decide +kernel
theorem dX12_textTold_62 : decode cX12_textTold 62 = .ok (.iadd, 1) := by decide +kernel
theorem dX12_textTold_63 : decode cX12_textTold 63 = .ok (.iconst 1, 1) := by decide +kernel
theorem dX12_textTold_64 : decode cX12_textTold 64 = .ok (.iadd, 1) := by decide +kernel
theorem dX12_textTold_65 : decode cX12_textTold 65 = .ok (.iaload, 1) := by decide +kernel
theorem dX12_textTold_66 : decode cX12_textTold 66 = .ok (.ireturn, 1) := by decide +kernel
theorem dX12_counts_0 : decode cX12_counts 0 = .ok (.aload_n 0, 1) := by decide +kernel
theorem dX12_counts_1 : decode cX12_counts 1 = .ok (.getfield 9, 3) := by decide +kernel
theorem dX12_counts_4 : decode cX12_counts 4 = .ok (.bipush 8, 2) := by decide +kernel
theorem dX12_counts_6 : decode cX12_counts 6 = .ok (.iaload, 1) := by decide +kernel
theorem dX12_counts_7 : decode cX12_counts 7 = .ok (.iconst 1, 1) := by decide +kernel
theorem dX12_counts_8 : decode cX12_counts 8 = .ok (.isub, 1) := by decide +kernel
theorem dX12_counts_9 : decode cX12_counts 9 = .ok (.istore_n 2, 1) := by decide +kernel
theorem dX12_counts_10 : decode cX12_counts 10 = .ok (.iload_n 2, 1) := by decide +kernel
theorem dX12_counts_11 : decode cX12_counts 11 = .ok (.ifCond .lt 31, 3) := by decide +kernel
theorem dX12_counts_14 : decode cX12_counts 14 = .ok (.aload_n 0, 1) := by decide +kernel
theorem dX12_counts_15 : decode cX12_counts 15 = .ok (.getfield 9, 3) := by decide +kernel
theorem dX12_counts_18 : decode cX12_counts 18 = .ok (.sipush 393, 3) := by decide +kernel
theorem dX12_counts_21 : decode cX12_counts 21 = .ok (.iconst 2, 1) := by decide +kernel
theorem dX12_counts_22 : decode cX12_counts 22 = .ok (.iload_n 2, 1) := by decide +kernel
theorem dX12_counts_23 : decode cX12_counts 23 = .ok (.imul, 1) := by decide +kernel
theorem dX12_counts_24 : decode cX12_counts 24 = .ok (.iadd, 1) := by decide +kernel
theorem dX12_counts_25 : decode cX12_counts 25 = .ok (.iaload, 1) := by decide +kernel
theorem dX12_counts_26 : decode cX12_counts 26 = .ok (.sipush 1000, 3) := by decide +kernel
theorem dX12_counts_29 : decode cX12_counts 29 = .ok (.idiv, 1) := by decide +kernel
theorem dX12_counts_30 : decode cX12_counts 30 = .ok (.iload_n 1, 1) := by decide +kernel
theorem dX12_counts_31 : decode cX12_counts 31 = .ok (.if_icmp .ne 5, 3) := by decide +kernel
theorem dX12_counts_34 : decode cX12_counts 34 = .ok (.iload_n 2, 1) := by decide +kernel
theorem dX12_counts_35 : decode cX12_counts 35 = .ok (.ireturn, 1) := by decide +kernel
theorem dX12_counts_36 : decode cX12_counts 36 = .ok (.iinc 2 (-1), 3) := by decide +kernel
theorem dX12_counts_39 : decode cX12_counts 39 = .ok (.goto (-29), 3) := by decide +kernel
theorem dX12_counts_42 : decode cX12_counts 42 = .ok (.iconst (-1), 1) := by decide +kernel
theorem dX12_counts_43 : decode cX12_counts 43 = .ok (.ireturn, 1) := by decide +kernel
theorem dX12_why_0 : decode cX12_why 0 = .ok (.iload_n 1, 1) := by decide +kernel
theorem dX12_why_1 : decode cX12_why 1 = .ok (.iconst 0, 1) := by decide +kernel
theorem dX12_why_2 : decode cX12_why 2 = .ok (.iconst 2, 1) := by decide +kernel
theorem dX12_why_3 : decode cX12_why 3 = .ok (.invokestatic 102, 3) := by decide +kernel
theorem dX12_why_6 : decode cX12_why 6 = .ok (.ifCond .ne 6, 3) := by decide +kernel
theorem dX12_why_9 : decode cX12_why 9 = .ok (.ldc 111, 2) := by decide +kernel
theorem dX12_why_11 : decode cX12_why 11 = .ok (.ireturn, 1) := by decide +kernel
theorem dX12_why_12 : decode cX12_why 12 = .ok (.aload_n 0, 1) := by decide +kernel
theorem dX12_why_13 : decode cX12_why 13 = .ok (.iload_n 1, 1) := by decide +kernel
theorem dX12_why_14 : decode cX12_why 14 = .ok (.invokevirtual 117, 3) := by decide +kernel
theorem dX12_why_17 : decode cX12_why 17 = .ok (.istore_n 2, 1) := by decide +kernel
theorem dX12_why_18 : decode cX12_why 18 = .ok (.iload_n 2, 1) := by decide +kernel
theorem dX12_why_19 : decode cX12_why 19 = .ok (.ifCond .ge 8, 3) := by decide +kernel
theorem dX12_why_22 : decode cX12_why 22 = .ok (.ldc 137, 2) := by decide +kernel
theorem dX12_why_24 : decode cX12_why 24 = .ok (.goto 4, 3) := by decide +kernel
theorem dX12_why_27 : decode cX12_why 27 = .ok (.iload_n 2, 1) := by decide +kernel
theorem dX12_why_28 : decode cX12_why 28 = .ok (.ireturn, 1) := by decide +kernel
theorem dX12_two_0 : decode cX12_two 0 = .ok (.iload_n 0, 1) := by decide +kernel
theorem dX12_two_1 : decode cX12_two 1 = .ok (.tableswitch 120 (-8) (-1) #[116, 112, 108, 97, 86, 75, 61, 47], 47) := by decide +kernel
theorem dX12_two_48 : decode cX12_two 48 = .ok (.iload_n 1, 1) := by decide +kernel
theorem dX12_two_49 : decode cX12_two 49 = .ok (.ifCond .ne 7, 3) := by decide +kernel
theorem dX12_two_52 : decode cX12_two 52 = .ok (.iload_n 2, 1) := by decide +kernel
theorem dX12_two_53 : decode cX12_two 53 = .ok (.ifCond .eq 7, 3) := by decide +kernel
theorem dX12_two_56 : decode cX12_two 56 = .ok (.iconst 1, 1) := by decide +kernel
theorem dX12_two_57 : decode cX12_two 57 = .ok (.goto 4, 3) := by decide +kernel
theorem dX12_two_60 : decode cX12_two 60 = .ok (.iconst 0, 1) := by decide +kernel
theorem dX12_two_61 : decode cX12_two 61 = .ok (.ireturn, 1) := by decide +kernel
theorem dX12_two_62 : decode cX12_two 62 = .ok (.iload_n 1, 1) := by decide +kernel
theorem dX12_two_63 : decode cX12_two 63 = .ok (.ifCond .eq 11, 3) := by decide +kernel
theorem dX12_two_66 : decode cX12_two 66 = .ok (.iload_n 2, 1) := by decide +kernel
theorem dX12_two_67 : decode cX12_two 67 = .ok (.ifCond .eq 7, 3) := by decide +kernel
theorem dX12_two_70 : decode cX12_two 70 = .ok (.iconst 1, 1) := by decide +kernel
theorem dX12_two_71 : decode cX12_two 71 = .ok (.goto 4, 3) := by decide +kernel
theorem dX12_two_74 : decode cX12_two 74 = .ok (.iconst 0, 1) := by decide +kernel
theorem dX12_two_75 : decode cX12_two 75 = .ok (.ireturn, 1) := by decide +kernel
theorem dX12_two_76 : decode cX12_two 76 = .ok (.iload_n 1, 1) := by decide +kernel
theorem dX12_two_77 : decode cX12_two 77 = .ok (.iload_n 2, 1) := by decide +kernel
theorem dX12_two_78 : decode cX12_two 78 = .ok (.if_icmp .ge 7, 3) := by decide +kernel
theorem dX12_two_81 : decode cX12_two 81 = .ok (.iconst 1, 1) := by decide +kernel
theorem dX12_two_82 : decode cX12_two 82 = .ok (.goto 4, 3) := by decide +kernel
theorem dX12_two_85 : decode cX12_two 85 = .ok (.iconst 0, 1) := by decide +kernel
theorem dX12_two_86 : decode cX12_two 86 = .ok (.ireturn, 1) := by decide +kernel
theorem dX12_two_87 : decode cX12_two 87 = .ok (.iload_n 1, 1) := by decide +kernel
theorem dX12_two_88 : decode cX12_two 88 = .ok (.iload_n 2, 1) := by decide +kernel
theorem dX12_two_89 : decode cX12_two 89 = .ok (.if_icmp .ne 7, 3) := by decide +kernel
theorem dX12_two_92 : decode cX12_two 92 = .ok (.iconst 1, 1) := by decide +kernel
theorem dX12_two_93 : decode cX12_two 93 = .ok (.goto 4, 3) := by decide +kernel
theorem dX12_two_96 : decode cX12_two 96 = .ok (.iconst 0, 1) := by decide +kernel
theorem dX12_two_97 : decode cX12_two 97 = .ok (.ireturn, 1) := by decide +kernel
theorem dX12_two_98 : decode cX12_two 98 = .ok (.iload_n 1, 1) := by decide +kernel
theorem dX12_two_99 : decode cX12_two 99 = .ok (.iload_n 2, 1) := by decide +kernel
theorem dX12_two_100 : decode cX12_two 100 = .ok (.if_icmp .le 7, 3) := by decide +kernel
theorem dX12_two_103 : decode cX12_two 103 = .ok (.iconst 1, 1) := by decide +kernel
theorem dX12_two_104 : decode cX12_two 104 = .ok (.goto 4, 3) := by decide +kernel
theorem dX12_two_107 : decode cX12_two 107 = .ok (.iconst 0, 1) := by decide +kernel
theorem dX12_two_108 : decode cX12_two 108 = .ok (.ireturn, 1) := by decide +kernel
theorem dX12_two_109 : decode cX12_two 109 = .ok (.iload_n 1, 1) := by decide +kernel
theorem dX12_two_110 : decode cX12_two 110 = .ok (.iload_n 2, 1) := by decide +kernel
theorem dX12_two_111 : decode cX12_two 111 = .ok (.iadd, 1) := by decide +kernel
theorem dX12_two_112 : decode cX12_two 112 = .ok (.ireturn, 1) := by decide +kernel
theorem dX12_two_113 : decode cX12_two 113 = .ok (.iload_n 1, 1) := by decide +kernel
theorem dX12_two_114 : decode cX12_two 114 = .ok (.iload_n 2, 1) := by decide +kernel
theorem dX12_two_115 : decode cX12_two 115 = .ok (.isub, 1) := by decide +kernel
theorem dX12_two_116 : decode cX12_two 116 = .ok (.ireturn, 1) := by decide +kernel
theorem dX12_two_117 : decode cX12_two 117 = .ok (.iload_n 1, 1) := by decide +kernel
theorem dX12_two_118 : decode cX12_two 118 = .ok (.iload_n 2, 1) := by decide +kernel
theorem dX12_two_119 : decode cX12_two 119 = .ok (.imul, 1) := by decide +kernel
theorem dX12_two_120 : decode cX12_two 120 = .ok (.ireturn, 1) := by decide +kernel
theorem dX12_two_121 : decode cX12_two 121 = .ok (.iload_n 2, 1) := by decide +kernel
theorem dX12_two_122 : decode cX12_two 122 = .ok (.ifCond .ne 7, 3) := by decide +kernel
theorem dX12_two_125 : decode cX12_two 125 = .ok (.iconst 0, 1) := by decide +kernel
theorem dX12_two_126 : decode cX12_two 126 = .ok (.goto 6, 3) := by decide +kernel
theorem dX12_two_129 : decode cX12_two 129 = .ok (.iload_n 1, 1) := by decide +kernel
theorem dX12_two_130 : decode cX12_two 130 = .ok (.iload_n 2, 1) := by decide +kernel
theorem dX12_two_131 : decode cX12_two 131 = .ok (.idiv, 1) := by decide +kernel
theorem dX12_two_132 : decode cX12_two 132 = .ok (.ireturn, 1) := by decide +kernel
theorem dX12_worksOut_0 : decode cX12_worksOut 0 = .ok (.iconst 0, 1) := by decide +kernel
theorem dX12_worksOut_1 : decode cX12_worksOut 1 = .ok (.istore_n 2, 1) := by decide +kernel
theorem dX12_worksOut_2 : decode cX12_worksOut 2 = .ok (.aload_n 0, 1) := by decide +kernel
theorem dX12_worksOut_3 : decode cX12_worksOut 3 = .ok (.getfield 9, 3) := by decide +kernel
theorem dX12_worksOut_6 : decode cX12_worksOut 6 = .ok (.sipush 393, 3) := by decide +kernel
theorem dX12_worksOut_9 : decode cX12_worksOut 9 = .ok (.iconst 2, 1) := by decide +kernel
theorem dX12_worksOut_10 : decode cX12_worksOut 10 = .ok (.iload_n 1, 1) := by decide +kernel
theorem dX12_worksOut_11 : decode cX12_worksOut 11 = .ok (.imul, 1) := by decide +kernel
theorem dX12_worksOut_12 : decode cX12_worksOut 12 = .ok (.iadd, 1) := by decide +kernel
theorem dX12_worksOut_13 : decode cX12_worksOut 13 = .ok (.iaload, 1) := by decide +kernel
theorem dX12_worksOut_14 : decode cX12_worksOut 14 = .ok (.sipush 1000, 3) := by decide +kernel
theorem dX12_worksOut_17 : decode cX12_worksOut 17 = .ok (.irem, 1) := by decide +kernel
theorem dX12_worksOut_18 : decode cX12_worksOut 18 = .ok (.istore_n 3, 1) := by decide +kernel
theorem dX12_worksOut_19 : decode cX12_worksOut 19 = .ok (.iconst 0, 1) := by decide +kernel
theorem dX12_worksOut_20 : decode cX12_worksOut 20 = .ok (.istore 4, 2) := by decide +kernel
theorem dX12_worksOut_22 : decode cX12_worksOut 22 = .ok (.iload 4, 2) := by decide +kernel
theorem dX12_worksOut_24 : decode cX12_worksOut 24 = .ok (.iload_n 3, 1) := by decide +kernel
theorem dX12_worksOut_25 : decode cX12_worksOut 25 = .ok (.if_icmp .ge 132, 3) := by decide +kernel
theorem dX12_worksOut_28 : decode cX12_worksOut 28 = .ok (.aload_n 0, 1) := by decide +kernel
theorem dX12_worksOut_29 : decode cX12_worksOut 29 = .ok (.getfield 9, 3) := by decide +kernel
theorem dX12_worksOut_32 : decode cX12_worksOut 32 = .ok (.sipush 421, 3) := by decide +kernel
theorem dX12_worksOut_35 : decode cX12_worksOut 35 = .ok (.bipush 96, 2) := by decide +kernel
theorem dX12_worksOut_37 : decode cX12_worksOut 37 = .ok (.iload_n 1, 1) := by decide +kernel
theorem dX12_worksOut_38 : decode cX12_worksOut 38 = .ok (.imul, 1) := by decide +kernel
theorem dX12_worksOut_39 : decode cX12_worksOut 39 = .ok (.iadd, 1) := by decide +kernel
theorem dX12_worksOut_40 : decode cX12_worksOut 40 = .ok (.iload 4, 2) := by decide +kernel
theorem dX12_worksOut_42 : decode cX12_worksOut 42 = .ok (.iadd, 1) := by decide +kernel
theorem dX12_worksOut_43 : decode cX12_worksOut 43 = .ok (.iaload, 1) := by decide +kernel
theorem dX12_worksOut_44 : decode cX12_worksOut 44 = .ok (.istore 5, 2) := by decide +kernel
theorem dX12_worksOut_46 : decode cX12_worksOut 46 = .ok (.iload 5, 2) := by decide +kernel
theorem dX12_worksOut_48 : decode cX12_worksOut 48 = .ok (.ifCond .lt 39, 3) := by decide +kernel
theorem dX12_worksOut_51 : decode cX12_worksOut 51 = .ok (.aload_n 0, 1) := by decide +kernel
theorem dX12_worksOut_52 : decode cX12_worksOut 52 = .ok (.getfield 42, 3) := by decide +kernel
theorem dX12_worksOut_55 : decode cX12_worksOut 55 = .ok (.iload_n 2, 1) := by decide +kernel
theorem dX12_worksOut_56 : decode cX12_worksOut 56 = .ok (.iload 5, 2) := by decide +kernel
theorem dX12_worksOut_58 : decode cX12_worksOut 58 = .ok (.sipush 10000, 3) := by decide +kernel
theorem dX12_worksOut_61 : decode cX12_worksOut 61 = .ok (.if_icmp .ge 8, 3) := by decide +kernel
theorem dX12_worksOut_64 : decode cX12_worksOut 64 = .ok (.iload 5, 2) := by decide +kernel
theorem dX12_worksOut_66 : decode cX12_worksOut 66 = .ok (.goto 14, 3) := by decide +kernel
theorem dX12_worksOut_69 : decode cX12_worksOut 69 = .ok (.aload_n 0, 1) := by decide +kernel
theorem dX12_worksOut_70 : decode cX12_worksOut 70 = .ok (.getfield 45, 3) := by decide +kernel
theorem dX12_worksOut_73 : decode cX12_worksOut 73 = .ok (.iload 5, 2) := by decide +kernel
theorem dX12_worksOut_75 : decode cX12_worksOut 75 = .ok (.sipush 10000, 3) := by decide +kernel
theorem dX12_worksOut_78 : decode cX12_worksOut 78 = .ok (.isub, 1) := by decide +kernel
theorem dX12_worksOut_79 : decode cX12_worksOut 79 = .ok (.iaload, 1) := by decide +kernel
theorem dX12_worksOut_80 : decode cX12_worksOut 80 = .ok (.iastore, 1) := by decide +kernel
theorem dX12_worksOut_81 : decode cX12_worksOut 81 = .ok (.iinc 2 1, 3) := by decide +kernel
theorem dX12_worksOut_84 : decode cX12_worksOut 84 = .ok (.goto 67, 3) := by decide +kernel
theorem dX12_worksOut_87 : decode cX12_worksOut 87 = .ok (.iload 5, 2) := by decide +kernel
theorem dX12_worksOut_89 : decode cX12_worksOut 89 = .ok (.bipush (-10), 2) := by decide +kernel
theorem dX12_worksOut_91 : decode cX12_worksOut 91 = .ok (.if_icmp .ne 30, 3) := by decide +kernel
theorem dX12_worksOut_94 : decode cX12_worksOut 94 = .ok (.aload_n 0, 1) := by decide +kernel
theorem dX12_worksOut_95 : decode cX12_worksOut 95 = .ok (.getfield 42, 3) := by decide +kernel
theorem dX12_worksOut_98 : decode cX12_worksOut 98 = .ok (.iload_n 2, 1) := by decide +kernel
theorem dX12_worksOut_99 : decode cX12_worksOut 99 = .ok (.iconst 1, 1) := by decide +kernel
theorem dX12_worksOut_100 : decode cX12_worksOut 100 = .ok (.isub, 1) := by decide +kernel
theorem dX12_worksOut_101 : decode cX12_worksOut 101 = .ok (.aload_n 0, 1) := by decide +kernel
theorem dX12_worksOut_102 : decode cX12_worksOut 102 = .ok (.getfield 42, 3) := by decide +kernel
theorem dX12_worksOut_105 : decode cX12_worksOut 105 = .ok (.iload_n 2, 1) := by decide +kernel
theorem dX12_worksOut_106 : decode cX12_worksOut 106 = .ok (.iconst 1, 1) := by decide +kernel
theorem dX12_worksOut_107 : decode cX12_worksOut 107 = .ok (.isub, 1) := by decide +kernel
theorem dX12_worksOut_108 : decode cX12_worksOut 108 = .ok (.iaload, 1) := by decide +kernel
theorem dX12_worksOut_109 : decode cX12_worksOut 109 = .ok (.ifCond .ne 7, 3) := by decide +kernel
theorem dX12_worksOut_112 : decode cX12_worksOut 112 = .ok (.iconst 1, 1) := by decide +kernel
theorem dX12_worksOut_113 : decode cX12_worksOut 113 = .ok (.goto 4, 3) := by decide +kernel
theorem dX12_worksOut_116 : decode cX12_worksOut 116 = .ok (.iconst 0, 1) := by decide +kernel
theorem dX12_worksOut_117 : decode cX12_worksOut 117 = .ok (.iastore, 1) := by decide +kernel
theorem dX12_worksOut_118 : decode cX12_worksOut 118 = .ok (.goto 33, 3) := by decide +kernel
theorem dX12_worksOut_121 : decode cX12_worksOut 121 = .ok (.iinc 2 (-1), 3) := by decide +kernel
theorem dX12_worksOut_124 : decode cX12_worksOut 124 = .ok (.aload_n 0, 1) := by decide +kernel
theorem dX12_worksOut_125 : decode cX12_worksOut 125 = .ok (.getfield 42, 3) := by decide +kernel
theorem dX12_worksOut_128 : decode cX12_worksOut 128 = .ok (.iload_n 2, 1) := by decide +kernel
theorem dX12_worksOut_129 : decode cX12_worksOut 129 = .ok (.iconst 1, 1) := by decide +kernel
theorem dX12_worksOut_130 : decode cX12_worksOut 130 = .ok (.isub, 1) := by decide +kernel
theorem dX12_worksOut_131 : decode cX12_worksOut 131 = .ok (.iload 5, 2) := by decide +kernel
theorem dX12_worksOut_133 : decode cX12_worksOut 133 = .ok (.aload_n 0, 1) := by decide +kernel
theorem dX12_worksOut_134 : decode cX12_worksOut 134 = .ok (.getfield 42, 3) := by decide +kernel
theorem dX12_worksOut_137 : decode cX12_worksOut 137 = .ok (.iload_n 2, 1) := by decide +kernel
theorem dX12_worksOut_138 : decode cX12_worksOut 138 = .ok (.iconst 1, 1) := by decide +kernel
theorem dX12_worksOut_139 : decode cX12_worksOut 139 = .ok (.isub, 1) := by decide +kernel
theorem dX12_worksOut_140 : decode cX12_worksOut 140 = .ok (.iaload, 1) := by decide +kernel
theorem dX12_worksOut_141 : decode cX12_worksOut 141 = .ok (.aload_n 0, 1) := by decide +kernel
theorem dX12_worksOut_142 : decode cX12_worksOut 142 = .ok (.getfield 42, 3) := by decide +kernel
theorem dX12_worksOut_145 : decode cX12_worksOut 145 = .ok (.iload_n 2, 1) := by decide +kernel
theorem dX12_worksOut_146 : decode cX12_worksOut 146 = .ok (.iaload, 1) := by decide +kernel
theorem dX12_worksOut_147 : decode cX12_worksOut 147 = .ok (.invokestatic 249, 3) := by decide +kernel
theorem dX12_worksOut_150 : decode cX12_worksOut 150 = .ok (.iastore, 1) := by decide +kernel
theorem dX12_worksOut_151 : decode cX12_worksOut 151 = .ok (.iinc 4 1, 3) := by decide +kernel
theorem dX12_worksOut_154 : decode cX12_worksOut 154 = .ok (.goto (-132), 3) := by decide +kernel
theorem dX12_worksOut_157 : decode cX12_worksOut 157 = .ok (.aload_n 0, 1) := by decide +kernel
theorem dX12_worksOut_158 : decode cX12_worksOut 158 = .ok (.getfield 42, 3) := by decide +kernel
theorem dX12_worksOut_161 : decode cX12_worksOut 161 = .ok (.iconst 0, 1) := by decide +kernel
theorem dX12_worksOut_162 : decode cX12_worksOut 162 = .ok (.iaload, 1) := by decide +kernel
theorem dX12_worksOut_163 : decode cX12_worksOut 163 = .ok (.ireturn, 1) := by decide +kernel
theorem dX12_looks_0 : decode cX12_looks 0 = .ok (.iconst 0, 1) := by decide +kernel
theorem dX12_looks_1 : decode cX12_looks 1 = .ok (.istore_n 2, 1) := by decide +kernel
theorem dX12_looks_2 : decode cX12_looks 2 = .ok (.iload_n 2, 1) := by decide +kernel
theorem dX12_looks_3 : decode cX12_looks 3 = .ok (.aload_n 0, 1) := by decide +kernel
theorem dX12_looks_4 : decode cX12_looks 4 = .ok (.getfield 9, 3) := by decide +kernel
theorem dX12_looks_7 : decode cX12_looks 7 = .ok (.iconst 4, 1) := by decide +kernel
theorem dX12_looks_8 : decode cX12_looks 8 = .ok (.iaload, 1) := by decide +kernel
theorem dX12_looks_9 : decode cX12_looks 9 = .ok (.if_icmp .ge 21, 3) := by decide +kernel
theorem dX12_looks_12 : decode cX12_looks 12 = .ok (.aload_n 0, 1) := by decide +kernel
theorem dX12_looks_13 : decode cX12_looks 13 = .ok (.getfield 48, 3) := by decide +kernel
theorem dX12_looks_16 : decode cX12_looks 16 = .ok (.iload_n 2, 1) := by decide +kernel
theorem dX12_looks_17 : decode cX12_looks 17 = .ok (.aload_n 0, 1) := by decide +kernel
theorem dX12_looks_18 : decode cX12_looks 18 = .ok (.iload_n 2, 1) := by decide +kernel
theorem dX12_looks_19 : decode cX12_looks 19 = .ok (.iload_n 1, 1) := by decide +kernel
theorem dX12_looks_20 : decode cX12_looks 20 = .ok (.invokevirtual 124, 3) := by decide +kernel
theorem dX12_looks_23 : decode cX12_looks 23 = .ok (.bastore, 1) := by decide +kernel
theorem dX12_looks_24 : decode cX12_looks 24 = .ok (.iinc 2 1, 3) := by decide +kernel
theorem dX12_looks_27 : decode cX12_looks 27 = .ok (.goto (-25), 3) := by decide +kernel
theorem dX12_looks_30 : decode cX12_looks 30 = .ok (.iconst 0, 1) := by decide +kernel
theorem dX12_looks_31 : decode cX12_looks 31 = .ok (.istore_n 2, 1) := by decide +kernel
theorem dX12_looks_32 : decode cX12_looks 32 = .ok (.iload_n 2, 1) := by decide +kernel
theorem dX12_looks_33 : decode cX12_looks 33 = .ok (.aload_n 0, 1) := by decide +kernel
theorem dX12_looks_34 : decode cX12_looks 34 = .ok (.getfield 9, 3) := by decide +kernel
theorem dX12_looks_37 : decode cX12_looks 37 = .ok (.bipush 6, 2) := by decide +kernel
theorem dX12_looks_39 : decode cX12_looks 39 = .ok (.iaload, 1) := by decide +kernel
theorem dX12_looks_40 : decode cX12_looks 40 = .ok (.if_icmp .ge 37, 3) := by decide +kernel
theorem dX12_looks_43 : decode cX12_looks 43 = .ok (.aload_n 0, 1) := by decide +kernel
theorem dX12_looks_44 : decode cX12_looks 44 = .ok (.getfield 51, 3) := by decide +kernel
theorem dX12_looks_47 : decode cX12_looks 47 = .ok (.iload_n 2, 1) := by decide +kernel
theorem dX12_looks_48 : decode cX12_looks 48 = .ok (.aload_n 0, 1) := by decide +kernel
theorem dX12_looks_49 : decode cX12_looks 49 = .ok (.iload_n 2, 1) := by decide +kernel
theorem dX12_looks_50 : decode cX12_looks 50 = .ok (.invokevirtual 160, 3) := by decide +kernel
theorem dX12_looks_53 : decode cX12_looks 53 = .ok (.ifCond .eq 16, 3) := by decide +kernel
theorem dX12_looks_56 : decode cX12_looks 56 = .ok (.aload_n 0, 1) := by decide +kernel
theorem dX12_looks_57 : decode cX12_looks 57 = .ok (.iload_n 2, 1) := by decide +kernel
theorem dX12_looks_58 : decode cX12_looks 58 = .ok (.iload_n 1, 1) := by decide +kernel
theorem dX12_looks_59 : decode cX12_looks 59 = .ok (.invokevirtual 163, 3) := by decide +kernel
theorem dX12_looks_62 : decode cX12_looks 62 = .ok (.ifCond .eq 7, 3) := by decide +kernel
theorem dX12_looks_65 : decode cX12_looks 65 = .ok (.iconst 1, 1) := by decide +kernel
theorem dX12_looks_66 : decode cX12_looks 66 = .ok (.goto 4, 3) := by decide +kernel
theorem dX12_looks_69 : decode cX12_looks 69 = .ok (.iconst 0, 1) := by decide +kernel
theorem dX12_looks_70 : decode cX12_looks 70 = .ok (.bastore, 1) := by decide +kernel
theorem dX12_looks_71 : decode cX12_looks 71 = .ok (.iinc 2 1, 3) := by decide +kernel
theorem dX12_looks_74 : decode cX12_looks 74 = .ok (.goto (-42), 3) := by decide +kernel
theorem dX12_looks_77 : decode cX12_looks 77 = .ok (.return_, 1) := by decide +kernel
theorem dX12_otherEnd_0 : decode cX12_otherEnd 0 = .ok (.bipush 15, 2) := by decide +kernel
theorem dX12_otherEnd_2 : decode cX12_otherEnd 2 = .ok (.bipush 6, 2) := by decide +kernel
theorem dX12_otherEnd_4 : decode cX12_otherEnd 4 = .ok (.iload_n 1, 1) := by decide +kernel
theorem dX12_otherEnd_5 : decode cX12_otherEnd 5 = .ok (.imul, 1) := by decide +kernel
theorem dX12_otherEnd_6 : decode cX12_otherEnd 6 = .ok (.iadd, 1) := by decide +kernel
theorem dX12_otherEnd_7 : decode cX12_otherEnd 7 = .ok (.istore_n 3, 1) := by decide +kernel
theorem dX12_otherEnd_8 : decode cX12_otherEnd 8 = .ok (.aload_n 0, 1) := by decide +kernel
theorem dX12_otherEnd_9 : decode cX12_otherEnd 9 = .ok (.getfield 9, 3) := by decide +kernel
theorem dX12_otherEnd_12 : decode cX12_otherEnd 12 = .ok (.iload_n 3, 1) := by decide +kernel
theorem dX12_otherEnd_13 : decode cX12_otherEnd 13 = .ok (.iaload, 1) := by decide +kernel
theorem dX12_otherEnd_14 : decode cX12_otherEnd 14 = .ok (.iload_n 2, 1) := by decide +kernel
theorem dX12_otherEnd_15 : decode cX12_otherEnd 15 = .ok (.if_icmp .ne 14, 3) := by decide +kernel
theorem dX12_otherEnd_18 : decode cX12_otherEnd 18 = .ok (.aload_n 0, 1) := by decide +kernel
theorem dX12_otherEnd_19 : decode cX12_otherEnd 19 = .ok (.getfield 9, 3) := by decide +kernel
theorem dX12_otherEnd_22 : decode cX12_otherEnd 22 = .ok (.iload_n 3, 1) := by decide +kernel
theorem dX12_otherEnd_23 : decode cX12_otherEnd 23 = .ok (.iconst 1, 1) := by decide +kernel
theorem dX12_otherEnd_24 : decode cX12_otherEnd 24 = .ok (.iadd, 1) := by decide +kernel
theorem dX12_otherEnd_25 : decode cX12_otherEnd 25 = .ok (.iaload, 1) := by decide +kernel
theorem dX12_otherEnd_26 : decode cX12_otherEnd 26 = .ok (.goto 9, 3) := by decide +kernel
theorem dX12_otherEnd_29 : decode cX12_otherEnd 29 = .ok (.aload_n 0, 1) := by decide +kernel
theorem dX12_otherEnd_30 : decode cX12_otherEnd 30 = .ok (.getfield 9, 3) := by decide +kernel
theorem dX12_otherEnd_33 : decode cX12_otherEnd 33 = .ok (.iload_n 3, 1) := by decide +kernel
theorem dX12_otherEnd_34 : decode cX12_otherEnd 34 = .ok (.iaload, 1) := by decide +kernel
theorem dX12_otherEnd_35 : decode cX12_otherEnd 35 = .ok (.ireturn, 1) := by decide +kernel
theorem dX12_passFrom_0 : decode cX12_passFrom 0 = .ok (.aload_n 0, 1) := by decide +kernel
theorem dX12_passFrom_1 : decode cX12_passFrom 1 = .ok (.iload_n 1, 1) := by decide +kernel
theorem dX12_passFrom_2 : decode cX12_passFrom 2 = .ok (.iload_n 2, 1) := by decide +kernel
theorem dX12_passFrom_3 : decode cX12_passFrom 3 = .ok (.invokevirtual 112, 3) := by decide +kernel
theorem dX12_passFrom_6 : decode cX12_passFrom 6 = .ok (.istore_n 3, 1) := by decide +kernel
theorem dX12_passFrom_7 : decode cX12_passFrom 7 = .ok (.iload_n 3, 1) := by decide +kernel
theorem dX12_passFrom_8 : decode cX12_passFrom 8 = .ok (.ifCond .lt 16, 3) := by decide +kernel
theorem dX12_passFrom_11 : decode cX12_passFrom 11 = .ok (.aload_n 0, 1) := by decide +kernel
theorem dX12_passFrom_12 : decode cX12_passFrom 12 = .ok (.getfield 48, 3) := by decide +kernel
theorem dX12_passFrom_15 : decode cX12_passFrom 15 = .ok (.iload_n 3, 1) := by decide +kernel
theorem dX12_passFrom_16 : decode cX12_passFrom 16 = .ok (.baload, 1) := by decide +kernel
theorem dX12_passFrom_17 : decode cX12_passFrom 17 = .ok (.ifCond .eq 7, 3) := by decide +kernel
theorem dX12_passFrom_20 : decode cX12_passFrom 20 = .ok (.iload_n 3, 1) := by decide +kernel
theorem dX12_passFrom_21 : decode cX12_passFrom 21 = .ok (.goto 4, 3) := by decide +kernel
theorem dX12_passFrom_24 : decode cX12_passFrom 24 = .ok (.iconst (-1), 1) := by decide +kernel
theorem dX12_passFrom_25 : decode cX12_passFrom 25 = .ok (.ireturn, 1) := by decide +kernel
theorem dX12_findAway_0 : decode cX12_findAway 0 = .ok (.iconst 0, 1) := by decide +kernel
theorem dX12_findAway_1 : decode cX12_findAway 1 = .ok (.istore_n 2, 1) := by decide +kernel
theorem dX12_findAway_2 : decode cX12_findAway 2 = .ok (.iload_n 2, 1) := by decide +kernel
theorem dX12_findAway_3 : decode cX12_findAway 3 = .ok (.bipush 12, 2) := by decide +kernel
theorem dX12_findAway_5 : decode cX12_findAway 5 = .ok (.if_icmp .ge 30, 3) := by decide +kernel
theorem dX12_findAway_8 : decode cX12_findAway 8 = .ok (.aload_n 0, 1) := by decide +kernel
theorem dX12_findAway_9 : decode cX12_findAway 9 = .ok (.getfield 54, 3) := by decide +kernel
theorem dX12_findAway_12 : decode cX12_findAway 12 = .ok (.iload_n 2, 1) := by decide +kernel
theorem dX12_findAway_13 : decode cX12_findAway 13 = .ok (.iload_n 2, 1) := by decide +kernel
theorem dX12_findAway_14 : decode cX12_findAway 14 = .ok (.aload_n 0, 1) := by decide +kernel
theorem dX12_findAway_15 : decode cX12_findAway 15 = .ok (.iload_n 1, 1) := by decide +kernel
theorem dX12_findAway_16 : decode cX12_findAway 16 = .ok (.invokevirtual 131, 3) := by decide +kernel
theorem dX12_findAway_19 : decode cX12_findAway 19 = .ok (.if_icmp .ne 7, 3) := by decide +kernel
theorem dX12_findAway_22 : decode cX12_findAway 22 = .ok (.iconst 0, 1) := by decide +kernel
theorem dX12_findAway_23 : decode cX12_findAway 23 = .ok (.goto 5, 3) := by decide +kernel
theorem dX12_findAway_26 : decode cX12_findAway 26 = .ok (.ldc 253, 2) := by decide +kernel
theorem dX12_findAway_28 : decode cX12_findAway 28 = .ok (.iastore, 1) := by decide +kernel
theorem dX12_findAway_29 : decode cX12_findAway 29 = .ok (.iinc 2 1, 3) := by decide +kernel
theorem dX12_findAway_32 : decode cX12_findAway 32 = .ok (.goto (-30), 3) := by decide +kernel
theorem dX12_findAway_35 : decode cX12_findAway 35 = .ok (.iconst 1, 1) := by decide +kernel
theorem dX12_findAway_36 : decode cX12_findAway 36 = .ok (.istore_n 2, 1) := by decide +kernel
theorem dX12_findAway_37 : decode cX12_findAway 37 = .ok (.iload_n 2, 1) := by decide +kernel
theorem dX12_findAway_38 : decode cX12_findAway 38 = .ok (.ifCond .eq 162, 3) := by decide +kernel
theorem dX12_findAway_41 : decode cX12_findAway 41 = .ok (.iconst 0, 1) := by decide +kernel
theorem dX12_findAway_42 : decode cX12_findAway 42 = .ok (.istore_n 2, 1) := by decide +kernel
theorem dX12_findAway_43 : decode cX12_findAway 43 = .ok (.iconst 0, 1) := by decide +kernel
theorem dX12_findAway_44 : decode cX12_findAway 44 = .ok (.istore_n 3, 1) := by decide +kernel
theorem dX12_findAway_45 : decode cX12_findAway 45 = .ok (.iload_n 3, 1) := by decide +kernel
theorem dX12_findAway_46 : decode cX12_findAway 46 = .ok (.aload_n 0, 1) := by decide +kernel
theorem dX12_findAway_47 : decode cX12_findAway 47 = .ok (.getfield 9, 3) := by decide +kernel
theorem dX12_findAway_50 : decode cX12_findAway 50 = .ok (.iconst 4, 1) := by decide +kernel
theorem dX12_findAway_51 : decode cX12_findAway 51 = .ok (.iaload, 1) := by decide +kernel
theorem dX12_findAway_52 : decode cX12_findAway 52 = .ok (.if_icmp .ge 145, 3) := by decide +kernel
theorem dX12_findAway_55 : decode cX12_findAway 55 = .ok (.bipush 15, 2) := by decide +kernel
theorem dX12_findAway_57 : decode cX12_findAway 57 = .ok (.bipush 6, 2) := by decide +kernel
theorem dX12_findAway_59 : decode cX12_findAway 59 = .ok (.iload_n 3, 1) := by decide +kernel
theorem dX12_findAway_60 : decode cX12_findAway 60 = .ok (.imul, 1) := by decide +kernel
theorem dX12_findAway_61 : decode cX12_findAway 61 = .ok (.iadd, 1) := by decide +kernel
theorem dX12_findAway_62 : decode cX12_findAway 62 = .ok (.istore 4, 2) := by decide +kernel
theorem dX12_findAway_64 : decode cX12_findAway 64 = .ok (.aload_n 0, 1) := by decide +kernel
theorem dX12_findAway_65 : decode cX12_findAway 65 = .ok (.getfield 9, 3) := by decide +kernel
theorem dX12_findAway_68 : decode cX12_findAway 68 = .ok (.iload 4, 2) := by decide +kernel
theorem dX12_findAway_70 : decode cX12_findAway 70 = .ok (.iaload, 1) := by decide +kernel
theorem dX12_findAway_71 : decode cX12_findAway 71 = .ok (.istore 5, 2) := by decide +kernel
theorem dX12_findAway_73 : decode cX12_findAway 73 = .ok (.aload_n 0, 1) := by decide +kernel
theorem dX12_findAway_74 : decode cX12_findAway 74 = .ok (.getfield 9, 3) := by decide +kernel
theorem dX12_findAway_77 : decode cX12_findAway 77 = .ok (.iload 4, 2) := by decide +kernel
theorem dX12_findAway_79 : decode cX12_findAway 79 = .ok (.iconst 1, 1) := by decide +kernel
theorem dX12_findAway_80 : decode cX12_findAway 80 = .ok (.iadd, 1) := by decide +kernel
theorem dX12_findAway_81 : decode cX12_findAway 81 = .ok (.iaload, 1) := by decide +kernel
theorem dX12_findAway_82 : decode cX12_findAway 82 = .ok (.istore 6, 2) := by decide +kernel
theorem dX12_findAway_84 : decode cX12_findAway 84 = .ok (.aload_n 0, 1) := by decide +kernel
theorem dX12_findAway_85 : decode cX12_findAway 85 = .ok (.getfield 9, 3) := by decide +kernel
theorem dX12_findAway_88 : decode cX12_findAway 88 = .ok (.iload 4, 2) := by decide +kernel
theorem dX12_findAway_90 : decode cX12_findAway 90 = .ok (.iconst 4, 1) := by decide +kernel
theorem dX12_findAway_91 : decode cX12_findAway 91 = .ok (.iadd, 1) := by decide +kernel
theorem dX12_findAway_92 : decode cX12_findAway 92 = .ok (.iaload, 1) := by decide +kernel
theorem dX12_findAway_93 : decode cX12_findAway 93 = .ok (.istore 7, 2) := by decide +kernel
theorem dX12_findAway_95 : decode cX12_findAway 95 = .ok (.aload_n 0, 1) := by decide +kernel
theorem dX12_findAway_96 : decode cX12_findAway 96 = .ok (.getfield 48, 3) := by decide +kernel
theorem dX12_findAway_99 : decode cX12_findAway 99 = .ok (.iload_n 3, 1) := by decide +kernel
theorem dX12_findAway_100 : decode cX12_findAway 100 = .ok (.baload, 1) := by decide +kernel
theorem dX12_findAway_101 : decode cX12_findAway 101 = .ok (.ifCond .eq 42, 3) := by decide +kernel
theorem dX12_findAway_104 : decode cX12_findAway 104 = .ok (.aload_n 0, 1) := by decide +kernel
theorem dX12_findAway_105 : decode cX12_findAway 105 = .ok (.getfield 54, 3) := by decide +kernel
theorem dX12_findAway_108 : decode cX12_findAway 108 = .ok (.iload 6, 2) := by decide +kernel
theorem dX12_findAway_110 : decode cX12_findAway 110 = .ok (.iaload, 1) := by decide +kernel
theorem dX12_findAway_111 : decode cX12_findAway 111 = .ok (.iload 7, 2) := by decide +kernel
theorem dX12_findAway_113 : decode cX12_findAway 113 = .ok (.iadd, 1) := by decide +kernel
theorem dX12_findAway_114 : decode cX12_findAway 114 = .ok (.aload_n 0, 1) := by decide +kernel
theorem dX12_findAway_115 : decode cX12_findAway 115 = .ok (.getfield 54, 3) := by decide +kernel
theorem dX12_findAway_118 : decode cX12_findAway 118 = .ok (.iload 5, 2) := by decide +kernel
theorem dX12_findAway_120 : decode cX12_findAway 120 = .ok (.iaload, 1) := by decide +kernel
theorem dX12_findAway_121 : decode cX12_findAway 121 = .ok (.if_icmp .ge 22, 3) := by decide +kernel
theorem dX12_findAway_124 : decode cX12_findAway 124 = .ok (.aload_n 0, 1) := by decide +kernel
theorem dX12_findAway_125 : decode cX12_findAway 125 = .ok (.getfield 54, 3) := by decide +kernel
theorem dX12_findAway_128 : decode cX12_findAway 128 = .ok (.iload 5, 2) := by decide +kernel
theorem dX12_findAway_130 : decode cX12_findAway 130 = .ok (.aload_n 0, 1) := by decide +kernel
theorem dX12_findAway_131 : decode cX12_findAway 131 = .ok (.getfield 54, 3) := by decide +kernel
theorem dX12_findAway_134 : decode cX12_findAway 134 = .ok (.iload 6, 2) := by decide +kernel
theorem dX12_findAway_136 : decode cX12_findAway 136 = .ok (.iaload, 1) := by decide +kernel
theorem dX12_findAway_137 : decode cX12_findAway 137 = .ok (.iload 7, 2) := by decide +kernel
theorem dX12_findAway_139 : decode cX12_findAway 139 = .ok (.iadd, 1) := by decide +kernel
theorem dX12_findAway_140 : decode cX12_findAway 140 = .ok (.iastore, 1) := by decide +kernel
theorem dX12_findAway_141 : decode cX12_findAway 141 = .ok (.iconst 1, 1) := by decide +kernel
theorem dX12_findAway_142 : decode cX12_findAway 142 = .ok (.istore_n 2, 1) := by decide +kernel
theorem dX12_findAway_143 : decode cX12_findAway 143 = .ok (.aload_n 0, 1) := by decide +kernel
theorem dX12_findAway_144 : decode cX12_findAway 144 = .ok (.getfield 48, 3) := by decide +kernel
theorem dX12_findAway_147 : decode cX12_findAway 147 = .ok (.iload_n 3, 1) := by decide +kernel
theorem dX12_findAway_148 : decode cX12_findAway 148 = .ok (.baload, 1) := by decide +kernel
theorem dX12_findAway_149 : decode cX12_findAway 149 = .ok (.ifCond .eq 42, 3) := by decide +kernel
theorem dX12_findAway_152 : decode cX12_findAway 152 = .ok (.aload_n 0, 1) := by decide +kernel
theorem dX12_findAway_153 : decode cX12_findAway 153 = .ok (.getfield 54, 3) := by decide +kernel
theorem dX12_findAway_156 : decode cX12_findAway 156 = .ok (.iload 5, 2) := by decide +kernel
theorem dX12_findAway_158 : decode cX12_findAway 158 = .ok (.iaload, 1) := by decide +kernel
theorem dX12_findAway_159 : decode cX12_findAway 159 = .ok (.iload 7, 2) := by decide +kernel
theorem dX12_findAway_161 : decode cX12_findAway 161 = .ok (.iadd, 1) := by decide +kernel
theorem dX12_findAway_162 : decode cX12_findAway 162 = .ok (.aload_n 0, 1) := by decide +kernel
theorem dX12_findAway_163 : decode cX12_findAway 163 = .ok (.getfield 54, 3) := by decide +kernel
theorem dX12_findAway_166 : decode cX12_findAway 166 = .ok (.iload 6, 2) := by decide +kernel
theorem dX12_findAway_168 : decode cX12_findAway 168 = .ok (.iaload, 1) := by decide +kernel
theorem dX12_findAway_169 : decode cX12_findAway 169 = .ok (.if_icmp .ge 22, 3) := by decide +kernel
theorem dX12_findAway_172 : decode cX12_findAway 172 = .ok (.aload_n 0, 1) := by decide +kernel
theorem dX12_findAway_173 : decode cX12_findAway 173 = .ok (.getfield 54, 3) := by decide +kernel
theorem dX12_findAway_176 : decode cX12_findAway 176 = .ok (.iload 6, 2) := by decide +kernel
theorem dX12_findAway_178 : decode cX12_findAway 178 = .ok (.aload_n 0, 1) := by decide +kernel
theorem dX12_findAway_179 : decode cX12_findAway 179 = .ok (.getfield 54, 3) := by decide +kernel
theorem dX12_findAway_182 : decode cX12_findAway 182 = .ok (.iload 5, 2) := by decide +kernel
theorem dX12_findAway_184 : decode cX12_findAway 184 = .ok (.iaload, 1) := by decide +kernel
theorem dX12_findAway_185 : decode cX12_findAway 185 = .ok (.iload 7, 2) := by decide +kernel
theorem dX12_findAway_187 : decode cX12_findAway 187 = .ok (.iadd, 1) := by decide +kernel
theorem dX12_findAway_188 : decode cX12_findAway 188 = .ok (.iastore, 1) := by decide +kernel
theorem dX12_findAway_189 : decode cX12_findAway 189 = .ok (.iconst 1, 1) := by decide +kernel
theorem dX12_findAway_190 : decode cX12_findAway 190 = .ok (.istore_n 2, 1) := by decide +kernel
theorem dX12_findAway_191 : decode cX12_findAway 191 = .ok (.iinc 3 1, 3) := by decide +kernel
theorem dX12_findAway_194 : decode cX12_findAway 194 = .ok (.goto (-149), 3) := by decide +kernel
theorem dX12_findAway_197 : decode cX12_findAway 197 = .ok (.goto (-160), 3) := by decide +kernel
theorem dX12_findAway_200 : decode cX12_findAway 200 = .ok (.return_, 1) := by decide +kernel
theorem dX12_nextFrom_0 : decode cX12_nextFrom 0 = .ok (.aload_n 0, 1) := by decide +kernel
theorem dX12_nextFrom_1 : decode cX12_nextFrom 1 = .ok (.getfield 54, 3) := by decide +kernel
theorem dX12_nextFrom_4 : decode cX12_nextFrom 4 = .ok (.iload_n 1, 1) := by decide +kernel
theorem dX12_nextFrom_5 : decode cX12_nextFrom 5 = .ok (.iaload, 1) := by decide +kernel
theorem dX12_nextFrom_6 : decode cX12_nextFrom 6 = .ok (.ifCond .eq 14, 3) := by decide +kernel
theorem dX12_nextFrom_9 : decode cX12_nextFrom 9 = .ok (.aload_n 0, 1) := by decide +kernel
theorem dX12_nextFrom_10 : decode cX12_nextFrom 10 = .ok (.getfield 54, 3) := by decide +kernel
theorem dX12_nextFrom_13 : decode cX12_nextFrom 13 = .ok (.iload_n 1, 1) := by decide +kernel
theorem dX12_nextFrom_14 : decode cX12_nextFrom 14 = .ok (.iaload, 1) := by decide +kernel
theorem dX12_nextFrom_15 : decode cX12_nextFrom 15 = .ok (.ldc 253, 2) := by decide +kernel
theorem dX12_nextFrom_17 : decode cX12_nextFrom 17 = .ok (.if_icmp .lt 5, 3) := by decide +kernel
theorem dX12_nextFrom_20 : decode cX12_nextFrom 20 = .ok (.iconst (-1), 1) := by decide +kernel
theorem dX12_nextFrom_21 : decode cX12_nextFrom 21 = .ok (.ireturn, 1) := by decide +kernel
theorem dX12_nextFrom_22 : decode cX12_nextFrom 22 = .ok (.iconst 0, 1) := by decide +kernel
theorem dX12_nextFrom_23 : decode cX12_nextFrom 23 = .ok (.istore_n 2, 1) := by decide +kernel
theorem dX12_nextFrom_24 : decode cX12_nextFrom 24 = .ok (.iload_n 2, 1) := by decide +kernel
theorem dX12_nextFrom_25 : decode cX12_nextFrom 25 = .ok (.bipush 8, 2) := by decide +kernel
theorem dX12_nextFrom_27 : decode cX12_nextFrom 27 = .ok (.if_icmp .ge 57, 3) := by decide +kernel
theorem dX12_nextFrom_30 : decode cX12_nextFrom 30 = .ok (.aload_n 0, 1) := by decide +kernel
theorem dX12_nextFrom_31 : decode cX12_nextFrom 31 = .ok (.iload_n 1, 1) := by decide +kernel
theorem dX12_nextFrom_32 : decode cX12_nextFrom 32 = .ok (.iload_n 2, 1) := by decide +kernel
theorem dX12_nextFrom_33 : decode cX12_nextFrom 33 = .ok (.invokevirtual 254, 3) := by decide +kernel
theorem dX12_nextFrom_36 : decode cX12_nextFrom 36 = .ok (.istore_n 3, 1) := by decide +kernel
theorem dX12_nextFrom_37 : decode cX12_nextFrom 37 = .ok (.iload_n 3, 1) := by decide +kernel
theorem dX12_nextFrom_38 : decode cX12_nextFrom 38 = .ok (.ifCond .lt 40, 3) := by decide +kernel
theorem dX12_nextFrom_41 : decode cX12_nextFrom 41 = .ok (.aload_n 0, 1) := by decide +kernel
theorem dX12_nextFrom_42 : decode cX12_nextFrom 42 = .ok (.getfield 54, 3) := by decide +kernel
theorem dX12_nextFrom_45 : decode cX12_nextFrom 45 = .ok (.aload_n 0, 1) := by decide +kernel
theorem dX12_nextFrom_46 : decode cX12_nextFrom 46 = .ok (.iload_n 3, 1) := by decide +kernel
theorem dX12_nextFrom_47 : decode cX12_nextFrom 47 = .ok (.iload_n 1, 1) := by decide +kernel
theorem dX12_nextFrom_48 : decode cX12_nextFrom 48 = .ok (.invokevirtual 257, 3) := by decide +kernel
theorem dX12_nextFrom_51 : decode cX12_nextFrom 51 = .ok (.iaload, 1) := by decide +kernel
theorem dX12_nextFrom_52 : decode cX12_nextFrom 52 = .ok (.aload_n 0, 1) := by decide +kernel
theorem dX12_nextFrom_53 : decode cX12_nextFrom 53 = .ok (.getfield 9, 3) := by decide +kernel
theorem dX12_nextFrom_56 : decode cX12_nextFrom 56 = .ok (.bipush 15, 2) := by decide +kernel
theorem dX12_nextFrom_58 : decode cX12_nextFrom 58 = .ok (.bipush 6, 2) := by decide +kernel
theorem dX12_nextFrom_60 : decode cX12_nextFrom 60 = .ok (.iload_n 3, 1) := by decide +kernel
theorem dX12_nextFrom_61 : decode cX12_nextFrom 61 = .ok (.imul, 1) := by decide +kernel
theorem dX12_nextFrom_62 : decode cX12_nextFrom 62 = .ok (.iadd, 1) := by decide +kernel
theorem dX12_nextFrom_63 : decode cX12_nextFrom 63 = .ok (.iconst 4, 1) := by decide +kernel
theorem dX12_nextFrom_64 : decode cX12_nextFrom 64 = .ok (.iadd, 1) := by decide +kernel
theorem dX12_nextFrom_65 : decode cX12_nextFrom 65 = .ok (.iaload, 1) := by decide +kernel
theorem dX12_nextFrom_66 : decode cX12_nextFrom 66 = .ok (.iadd, 1) := by decide +kernel
theorem dX12_nextFrom_67 : decode cX12_nextFrom 67 = .ok (.aload_n 0, 1) := by decide +kernel
theorem dX12_nextFrom_68 : decode cX12_nextFrom 68 = .ok (.getfield 54, 3) := by decide +kernel
theorem dX12_nextFrom_71 : decode cX12_nextFrom 71 = .ok (.iload_n 1, 1) := by decide +kernel
theorem dX12_nextFrom_72 : decode cX12_nextFrom 72 = .ok (.iaload, 1) := by decide +kernel
theorem dX12_nextFrom_73 : decode cX12_nextFrom 73 = .ok (.if_icmp .ne 5, 3) := by decide +kernel
theorem dX12_nextFrom_76 : decode cX12_nextFrom 76 = .ok (.iload_n 2, 1) := by decide +kernel
theorem dX12_nextFrom_77 : decode cX12_nextFrom 77 = .ok (.ireturn, 1) := by decide +kernel
theorem dX12_nextFrom_78 : decode cX12_nextFrom 78 = .ok (.iinc 2 1, 3) := by decide +kernel
theorem dX12_nextFrom_81 : decode cX12_nextFrom 81 = .ok (.goto (-57), 3) := by decide +kernel
theorem dX12_nextFrom_84 : decode cX12_nextFrom 84 = .ok (.iconst (-1), 1) := by decide +kernel
theorem dX12_nextFrom_85 : decode cX12_nextFrom 85 = .ok (.ireturn, 1) := by decide +kernel
theorem dX12_areWheels_0 : decode cX12_areWheels 0 = .ok (.iload_n 0, 1) := by decide +kernel
theorem dX12_areWheels_1 : decode cX12_areWheels 1 = .ok (.iconst 0, 1) := by decide +kernel
theorem dX12_areWheels_2 : decode cX12_areWheels 2 = .ok (.iconst 1, 1) := by decide +kernel
theorem dX12_areWheels_3 : decode cX12_areWheels 3 = .ok (.invokestatic 102, 3) := by decide +kernel
theorem dX12_areWheels_6 : decode cX12_areWheels 6 = .ok (.ireturn, 1) := by decide +kernel
theorem dX12_far_0 : decode cX12_far 0 = .ok (.aload_n 0, 1) := by decide +kernel
theorem dX12_far_1 : decode cX12_far 1 = .ok (.iload_n 1, 1) := by decide +kernel
theorem dX12_far_2 : decode cX12_far 2 = .ok (.invokevirtual 107, 3) := by decide +kernel
theorem dX12_far_5 : decode cX12_far 5 = .ok (.ifCond .eq 18, 3) := by decide +kernel
theorem dX12_far_8 : decode cX12_far 8 = .ok (.aload_n 0, 1) := by decide +kernel
theorem dX12_far_9 : decode cX12_far 9 = .ok (.iload_n 2, 1) := by decide +kernel
theorem dX12_far_10 : decode cX12_far 10 = .ok (.invokevirtual 128, 3) := by decide +kernel
theorem dX12_far_13 : decode cX12_far 13 = .ok (.ifCond .eq 10, 3) := by decide +kernel
theorem dX12_far_16 : decode cX12_far 16 = .ok (.iload_n 3, 1) := by decide +kernel
theorem dX12_far_17 : decode cX12_far 17 = .ok (.invokestatic 260, 3) := by decide +kernel
theorem dX12_far_20 : decode cX12_far 20 = .ok (.ifCond .ne 6, 3) := by decide +kernel
theorem dX12_far_23 : decode cX12_far 23 = .ok (.ldc 111, 2) := by decide +kernel
theorem dX12_far_25 : decode cX12_far 25 = .ok (.ireturn, 1) := by decide +kernel
theorem dX12_far_26 : decode cX12_far 26 = .ok (.aload_n 0, 1) := by decide +kernel
theorem dX12_far_27 : decode cX12_far 27 = .ok (.iload_n 3, 1) := by decide +kernel
theorem dX12_far_28 : decode cX12_far 28 = .ok (.invokevirtual 263, 3) := by decide +kernel
theorem dX12_far_31 : decode cX12_far 31 = .ok (.aload_n 0, 1) := by decide +kernel
theorem dX12_far_32 : decode cX12_far 32 = .ok (.iload_n 2, 1) := by decide +kernel
theorem dX12_far_33 : decode cX12_far 33 = .ok (.invokevirtual 266, 3) := by decide +kernel
theorem dX12_far_36 : decode cX12_far 36 = .ok (.aload_n 0, 1) := by decide +kernel
theorem dX12_far_37 : decode cX12_far 37 = .ok (.getfield 54, 3) := by decide +kernel
theorem dX12_far_40 : decode cX12_far 40 = .ok (.iload_n 1, 1) := by decide +kernel
theorem dX12_far_41 : decode cX12_far 41 = .ok (.iaload, 1) := by decide +kernel
theorem dX12_far_42 : decode cX12_far 42 = .ok (.ldc 253, 2) := by decide +kernel
theorem dX12_far_44 : decode cX12_far 44 = .ok (.if_icmp .lt 8, 3) := by decide +kernel
theorem dX12_far_47 : decode cX12_far 47 = .ok (.ldc 137, 2) := by decide +kernel
theorem dX12_far_49 : decode cX12_far 49 = .ok (.goto 9, 3) := by decide +kernel
theorem dX12_far_52 : decode cX12_far 52 = .ok (.aload_n 0, 1) := by decide +kernel
theorem dX12_far_53 : decode cX12_far 53 = .ok (.getfield 54, 3) := by decide +kernel
theorem dX12_far_56 : decode cX12_far 56 = .ok (.iload_n 1, 1) := by decide +kernel
theorem dX12_far_57 : decode cX12_far 57 = .ok (.iaload, 1) := by decide +kernel
theorem dX12_far_58 : decode cX12_far 58 = .ok (.ireturn, 1) := by decide +kernel
theorem dX12_next_0 : decode cX12_next 0 = .ok (.aload_n 0, 1) := by decide +kernel
theorem dX12_next_1 : decode cX12_next 1 = .ok (.iload_n 1, 1) := by decide +kernel
theorem dX12_next_2 : decode cX12_next 2 = .ok (.invokevirtual 107, 3) := by decide +kernel
theorem dX12_next_5 : decode cX12_next 5 = .ok (.ifCond .eq 18, 3) := by decide +kernel
theorem dX12_next_8 : decode cX12_next 8 = .ok (.aload_n 0, 1) := by decide +kernel
theorem dX12_next_9 : decode cX12_next 9 = .ok (.iload_n 2, 1) := by decide +kernel
theorem dX12_next_10 : decode cX12_next 10 = .ok (.invokevirtual 128, 3) := by decide +kernel
theorem dX12_next_13 : decode cX12_next 13 = .ok (.ifCond .eq 10, 3) := by decide +kernel
theorem dX12_next_16 : decode cX12_next 16 = .ok (.iload_n 3, 1) := by decide +kernel
theorem dX12_next_17 : decode cX12_next 17 = .ok (.invokestatic 260, 3) := by decide +kernel
theorem dX12_next_20 : decode cX12_next 20 = .ok (.ifCond .ne 6, 3) := by decide +kernel
theorem dX12_next_23 : decode cX12_next 23 = .ok (.ldc 111, 2) := by decide +kernel
theorem dX12_next_25 : decode cX12_next 25 = .ok (.ireturn, 1) := by decide +kernel
theorem dX12_next_26 : decode cX12_next 26 = .ok (.aload_n 0, 1) := by decide +kernel
theorem dX12_next_27 : decode cX12_next 27 = .ok (.iload_n 3, 1) := by decide +kernel
theorem dX12_next_28 : decode cX12_next 28 = .ok (.invokevirtual 263, 3) := by decide +kernel
theorem dX12_next_31 : decode cX12_next 31 = .ok (.aload_n 0, 1) := by decide +kernel
theorem dX12_next_32 : decode cX12_next 32 = .ok (.iload_n 2, 1) := by decide +kernel
theorem dX12_next_33 : decode cX12_next 33 = .ok (.invokevirtual 266, 3) := by decide +kernel
theorem dX12_next_36 : decode cX12_next 36 = .ok (.aload_n 0, 1) := by decide +kernel
theorem dX12_next_37 : decode cX12_next 37 = .ok (.iload_n 1, 1) := by decide +kernel
theorem dX12_next_38 : decode cX12_next 38 = .ok (.invokevirtual 269, 3) := by decide +kernel
theorem dX12_next_41 : decode cX12_next 41 = .ok (.istore 4, 2) := by decide +kernel
theorem dX12_next_43 : decode cX12_next 43 = .ok (.iload 4, 2) := by decide +kernel
theorem dX12_next_45 : decode cX12_next 45 = .ok (.ifCond .ge 8, 3) := by decide +kernel
theorem dX12_next_48 : decode cX12_next 48 = .ok (.ldc 137, 2) := by decide +kernel
theorem dX12_next_50 : decode cX12_next 50 = .ok (.goto 5, 3) := by decide +kernel
theorem dX12_next_53 : decode cX12_next 53 = .ok (.iload 4, 2) := by decide +kernel
theorem dX12_next_55 : decode cX12_next 55 = .ok (.ireturn, 1) := by decide +kernel
theorem dX12_rowOf_0 : decode cX12_rowOf 0 = .ok (.iconst 0, 1) := by decide +kernel
theorem dX12_rowOf_1 : decode cX12_rowOf 1 = .ok (.istore_n 3, 1) := by decide +kernel
theorem dX12_rowOf_2 : decode cX12_rowOf 2 = .ok (.iload_n 3, 1) := by decide +kernel
theorem dX12_rowOf_3 : decode cX12_rowOf 3 = .ok (.aload_n 0, 1) := by decide +kernel
theorem dX12_rowOf_4 : decode cX12_rowOf 4 = .ok (.iload_n 1, 1) := by decide +kernel
theorem dX12_rowOf_5 : decode cX12_rowOf 5 = .ok (.invokevirtual 141, 3) := by decide +kernel
theorem dX12_rowOf_8 : decode cX12_rowOf 8 = .ok (.if_icmp .ge 21, 3) := by decide +kernel
theorem dX12_rowOf_11 : decode cX12_rowOf 11 = .ok (.aload_n 0, 1) := by decide +kernel
theorem dX12_rowOf_12 : decode cX12_rowOf 12 = .ok (.iload_n 1, 1) := by decide +kernel
theorem dX12_rowOf_13 : decode cX12_rowOf 13 = .ok (.iload_n 3, 1) := by decide +kernel
theorem dX12_rowOf_14 : decode cX12_rowOf 14 = .ok (.invokevirtual 177, 3) := by decide +kernel
theorem dX12_rowOf_17 : decode cX12_rowOf 17 = .ok (.iload_n 2, 1) := by decide +kernel
theorem dX12_rowOf_18 : decode cX12_rowOf 18 = .ok (.if_icmp .ne 5, 3) := by decide +kernel
theorem dX12_rowOf_21 : decode cX12_rowOf 21 = .ok (.iload_n 3, 1) := by decide +kernel
theorem dX12_rowOf_22 : decode cX12_rowOf 22 = .ok (.ireturn, 1) := by decide +kernel
theorem dX12_rowOf_23 : decode cX12_rowOf 23 = .ok (.iinc 3 1, 3) := by decide +kernel
theorem dX12_rowOf_26 : decode cX12_rowOf 26 = .ok (.goto (-24), 3) := by decide +kernel
theorem dX12_rowOf_29 : decode cX12_rowOf 29 = .ok (.iconst (-1), 1) := by decide +kernel
theorem dX12_rowOf_30 : decode cX12_rowOf 30 = .ok (.ireturn, 1) := by decide +kernel
theorem dX12_signWith_0 : decode cX12_signWith 0 = .ok (.iconst (-1), 1) := by decide +kernel
theorem dX12_signWith_1 : decode cX12_signWith 1 = .ok (.istore_n 3, 1) := by decide +kernel
theorem dX12_signWith_2 : decode cX12_signWith 2 = .ok (.iconst 0, 1) := by decide +kernel
theorem dX12_signWith_3 : decode cX12_signWith 3 = .ok (.istore 4, 2) := by decide +kernel
theorem dX12_signWith_5 : decode cX12_signWith 5 = .ok (.iload 4, 2) := by decide +kernel
theorem dX12_signWith_7 : decode cX12_signWith 7 = .ok (.aload_n 0, 1) := by decide +kernel
theorem dX12_signWith_8 : decode cX12_signWith 8 = .ok (.getfield 9, 3) := by decide +kernel
theorem dX12_signWith_11 : decode cX12_signWith 11 = .ok (.bipush 6, 2) := by decide +kernel
theorem dX12_signWith_13 : decode cX12_signWith 13 = .ok (.iaload, 1) := by decide +kernel
theorem dX12_signWith_14 : decode cX12_signWith 14 = .ok (.if_icmp .ge 85, 3) := by decide +kernel
theorem dX12_signWith_17 : decode cX12_signWith 17 = .ok (.aload_n 0, 1) := by decide +kernel
theorem dX12_signWith_18 : decode cX12_signWith 18 = .ok (.iload 4, 2) := by decide +kernel
theorem dX12_signWith_20 : decode cX12_signWith 20 = .ok (.iconst 0, 1) := by decide +kernel
theorem dX12_signWith_21 : decode cX12_signWith 21 = .ok (.invokevirtual 138, 3) := by decide +kernel
theorem dX12_signWith_24 : decode cX12_signWith 24 = .ok (.iload_n 1, 1) := by decide +kernel
theorem dX12_signWith_25 : decode cX12_signWith 25 = .ok (.if_icmp .ne 27, 3) := by decide +kernel
theorem dX12_signWith_28 : decode cX12_signWith 28 = .ok (.aload_n 0, 1) := by decide +kernel
theorem dX12_signWith_29 : decode cX12_signWith 29 = .ok (.getfield 51, 3) := by decide +kernel
theorem dX12_signWith_32 : decode cX12_signWith 32 = .ok (.iload 4, 2) := by decide +kernel
theorem dX12_signWith_34 : decode cX12_signWith 34 = .ok (.baload, 1) := by decide +kernel
theorem dX12_signWith_35 : decode cX12_signWith 35 = .ok (.ifCond .eq 17, 3) := by decide +kernel
theorem dX12_signWith_38 : decode cX12_signWith 38 = .ok (.aload_n 0, 1) := by decide +kernel
theorem dX12_signWith_39 : decode cX12_signWith 39 = .ok (.iload 4, 2) := by decide +kernel
theorem dX12_signWith_41 : decode cX12_signWith 41 = .ok (.iload_n 2, 1) := by decide +kernel
theorem dX12_signWith_42 : decode cX12_signWith 42 = .ok (.invokevirtual 272, 3) := by decide +kernel
theorem dX12_signWith_45 : decode cX12_signWith 45 = .ok (.ifCond .lt 7, 3) := by decide +kernel
theorem dX12_signWith_48 : decode cX12_signWith 48 = .ok (.iconst 1, 1) := by decide +kernel
theorem dX12_signWith_49 : decode cX12_signWith 49 = .ok (.goto 4, 3) := by decide +kernel
theorem dX12_signWith_52 : decode cX12_signWith 52 = .ok (.iconst 0, 1) := by decide +kernel
theorem dX12_signWith_53 : decode cX12_signWith 53 = .ok (.istore 5, 2) := by decide +kernel
theorem dX12_signWith_55 : decode cX12_signWith 55 = .ok (.iload 5, 2) := by decide +kernel
theorem dX12_signWith_57 : decode cX12_signWith 57 = .ok (.ifCond .eq 34, 3) := by decide +kernel
theorem dX12_signWith_60 : decode cX12_signWith 60 = .ok (.iload_n 3, 1) := by decide +kernel
theorem dX12_signWith_61 : decode cX12_signWith 61 = .ok (.ifCond .lt 25, 3) := by decide +kernel
theorem dX12_signWith_64 : decode cX12_signWith 64 = .ok (.aload_n 0, 1) := by decide +kernel
theorem dX12_signWith_65 : decode cX12_signWith 65 = .ok (.iload 4, 2) := by decide +kernel
theorem dX12_signWith_67 : decode cX12_signWith 67 = .ok (.iconst 1, 1) := by decide +kernel
theorem dX12_signWith_68 : decode cX12_signWith 68 = .ok (.invokevirtual 138, 3) := by decide +kernel
theorem dX12_signWith_71 : decode cX12_signWith 71 = .ok (.invokestatic 144, 3) := by decide +kernel
theorem dX12_signWith_74 : decode cX12_signWith 74 = .ok (.aload_n 0, 1) := by decide +kernel
theorem dX12_signWith_75 : decode cX12_signWith 75 = .ok (.iload_n 3, 1) := by decide +kernel
theorem dX12_signWith_76 : decode cX12_signWith 76 = .ok (.iconst 1, 1) := by decide +kernel
theorem dX12_signWith_77 : decode cX12_signWith 77 = .ok (.invokevirtual 138, 3) := by decide +kernel
theorem dX12_signWith_80 : decode cX12_signWith 80 = .ok (.invokestatic 144, 3) := by decide +kernel
theorem dX12_signWith_83 : decode cX12_signWith 83 = .ok (.if_icmp .le 8, 3) := by decide +kernel
theorem dX12_signWith_86 : decode cX12_signWith 86 = .ok (.iload 4, 2) := by decide +kernel
theorem dX12_signWith_88 : decode cX12_signWith 88 = .ok (.goto 4, 3) := by decide +kernel
theorem dX12_signWith_91 : decode cX12_signWith 91 = .ok (.iload_n 3, 1) := by decide +kernel
theorem dX12_signWith_92 : decode cX12_signWith 92 = .ok (.istore_n 3, 1) := by decide +kernel
theorem dX12_signWith_93 : decode cX12_signWith 93 = .ok (.iinc 4 1, 3) := by decide +kernel
theorem dX12_signWith_96 : decode cX12_signWith 96 = .ok (.goto (-91), 3) := by decide +kernel
theorem dX12_signWith_99 : decode cX12_signWith 99 = .ok (.iload_n 3, 1) := by decide +kernel
theorem dX12_signWith_100 : decode cX12_signWith 100 = .ok (.ireturn, 1) := by decide +kernel
theorem dX12_toldAt_0 : decode cX12_toldAt 0 = .ok (.aload_n 0, 1) := by decide +kernel
theorem dX12_toldAt_1 : decode cX12_toldAt 1 = .ok (.getfield 275, 3) := by decide +kernel
theorem dX12_toldAt_4 : decode cX12_toldAt 4 = .ok (.iload_n 1, 1) := by decide +kernel
theorem dX12_toldAt_5 : decode cX12_toldAt 5 = .ok (.ishr, 1) := by decide +kernel
theorem dX12_toldAt_6 : decode cX12_toldAt 6 = .ok (.iconst 1, 1) := by decide +kernel
theorem dX12_toldAt_7 : decode cX12_toldAt 7 = .ok (.iand, 1) := by decide +kernel
theorem dX12_toldAt_8 : decode cX12_toldAt 8 = .ok (.iconst 1, 1) := by decide +kernel
theorem dX12_toldAt_9 : decode cX12_toldAt 9 = .ok (.if_icmp .ne 19, 3) := by decide +kernel
theorem dX12_toldAt_12 : decode cX12_toldAt 12 = .ok (.aload_n 0, 1) := by decide +kernel
theorem dX12_toldAt_13 : decode cX12_toldAt 13 = .ok (.getfield 63, 3) := by decide +kernel
theorem dX12_toldAt_16 : decode cX12_toldAt 16 = .ok (.iload_n 1, 1) := by decide +kernel
theorem dX12_toldAt_17 : decode cX12_toldAt 17 = .ok (.iaload, 1) := by decide +kernel
theorem dX12_toldAt_18 : decode cX12_toldAt 18 = .ok (.ifCond .lt 10, 3) := by decide +kernel
theorem dX12_toldAt_21 : decode cX12_toldAt 21 = .ok (.aload_n 0, 1) := by decide +kernel
theorem dX12_toldAt_22 : decode cX12_toldAt 22 = .ok (.getfield 63, 3) := by decide +kernel
theorem dX12_toldAt_25 : decode cX12_toldAt 25 = .ok (.iload_n 1, 1) := by decide +kernel
theorem dX12_toldAt_26 : decode cX12_toldAt 26 = .ok (.iaload, 1) := by decide +kernel
theorem dX12_toldAt_27 : decode cX12_toldAt 27 = .ok (.ireturn, 1) := by decide +kernel
theorem dX12_toldAt_28 : decode cX12_toldAt 28 = .ok (.iload_n 2, 1) := by decide +kernel
theorem dX12_toldAt_29 : decode cX12_toldAt 29 = .ok (.istore_n 3, 1) := by decide +kernel
theorem dX12_toldAt_30 : decode cX12_toldAt 30 = .ok (.aload_n 0, 1) := by decide +kernel
theorem dX12_toldAt_31 : decode cX12_toldAt 31 = .ok (.iload_n 1, 1) := by decide +kernel
theorem dX12_toldAt_32 : decode cX12_toldAt 32 = .ok (.iload_n 3, 1) := by decide +kernel
theorem dX12_toldAt_33 : decode cX12_toldAt 33 = .ok (.invokevirtual 278, 3) := by decide +kernel
theorem dX12_toldAt_36 : decode cX12_toldAt 36 = .ok (.istore 4, 2) := by decide +kernel
theorem dX12_toldAt_38 : decode cX12_toldAt 38 = .ok (.iload 4, 2) := by decide +kernel
theorem dX12_toldAt_40 : decode cX12_toldAt 40 = .ok (.ifCond .ge 28, 3) := by decide +kernel
theorem dX12_toldAt_43 : decode cX12_toldAt 43 = .ok (.aload_n 0, 1) := by decide +kernel
theorem dX12_toldAt_44 : decode cX12_toldAt 44 = .ok (.iload_n 2, 1) := by decide +kernel
theorem dX12_toldAt_45 : decode cX12_toldAt 45 = .ok (.invokevirtual 134, 3) := by decide +kernel
theorem dX12_toldAt_48 : decode cX12_toldAt 48 = .ok (.ifCond .lt 20, 3) := by decide +kernel
theorem dX12_toldAt_51 : decode cX12_toldAt 51 = .ok (.bipush 10, 2) := by decide +kernel
theorem dX12_toldAt_53 : decode cX12_toldAt 53 = .ok (.aload_n 0, 1) := by decide +kernel
theorem dX12_toldAt_54 : decode cX12_toldAt 54 = .ok (.iload_n 2, 1) := by decide +kernel
theorem dX12_toldAt_55 : decode cX12_toldAt 55 = .ok (.invokevirtual 134, 3) := by decide +kernel
theorem dX12_toldAt_58 : decode cX12_toldAt 58 = .ok (.iadd, 1) := by decide +kernel
theorem dX12_toldAt_59 : decode cX12_toldAt 59 = .ok (.istore_n 3, 1) := by decide +kernel
theorem dX12_toldAt_60 : decode cX12_toldAt 60 = .ok (.aload_n 0, 1) := by decide +kernel
theorem dX12_toldAt_61 : decode cX12_toldAt 61 = .ok (.iload_n 1, 1) := by decide +kernel
theorem dX12_toldAt_62 : decode cX12_toldAt 62 = .ok (.iload_n 3, 1) := by decide +kernel
theorem dX12_toldAt_63 : decode cX12_toldAt 63 = .ok (.invokevirtual 278, 3) := by decide +kernel
theorem dX12_toldAt_66 : decode cX12_toldAt 66 = .ok (.istore 4, 2) := by decide +kernel
theorem dX12_toldAt_68 : decode cX12_toldAt 68 = .ok (.iload 4, 2) := by decide +kernel
theorem dX12_toldAt_70 : decode cX12_toldAt 70 = .ok (.ifCond .ge 5, 3) := by decide +kernel
theorem dX12_toldAt_73 : decode cX12_toldAt 73 = .ok (.iconst (-1), 1) := by decide +kernel
theorem dX12_toldAt_74 : decode cX12_toldAt 74 = .ok (.ireturn, 1) := by decide +kernel
theorem dX12_toldAt_75 : decode cX12_toldAt 75 = .ok (.aload_n 0, 1) := by decide +kernel
theorem dX12_toldAt_76 : decode cX12_toldAt 76 = .ok (.iload 4, 2) := by decide +kernel
theorem dX12_toldAt_78 : decode cX12_toldAt 78 = .ok (.putfield 281, 3) := by decide +kernel
theorem dX12_toldAt_81 : decode cX12_toldAt 81 = .ok (.aload_n 0, 1) := by decide +kernel
theorem dX12_toldAt_82 : decode cX12_toldAt 82 = .ok (.iload 4, 2) := by decide +kernel
theorem dX12_toldAt_84 : decode cX12_toldAt 84 = .ok (.aload_n 0, 1) := by decide +kernel
theorem dX12_toldAt_85 : decode cX12_toldAt 85 = .ok (.iload 4, 2) := by decide +kernel
theorem dX12_toldAt_87 : decode cX12_toldAt 87 = .ok (.iload_n 3, 1) := by decide +kernel
theorem dX12_toldAt_88 : decode cX12_toldAt 88 = .ok (.invokevirtual 272, 3) := by decide +kernel
theorem dX12_toldAt_91 : decode cX12_toldAt 91 = .ok (.invokevirtual 180, 3) := by decide +kernel
theorem dX12_toldAt_94 : decode cX12_toldAt 94 = .ok (.ireturn, 1) := by decide +kernel
theorem dX12_onlyFrom_0 : decode cX12_onlyFrom 0 = .ok (.iconst (-1), 1) := by decide +kernel
theorem dX12_onlyFrom_1 : decode cX12_onlyFrom 1 = .ok (.istore_n 3, 1) := by decide +kernel
theorem dX12_onlyFrom_2 : decode cX12_onlyFrom 2 = .ok (.iconst 0, 1) := by decide +kernel
theorem dX12_onlyFrom_3 : decode cX12_onlyFrom 3 = .ok (.istore 4, 2) := by decide +kernel
theorem dX12_onlyFrom_5 : decode cX12_onlyFrom 5 = .ok (.iconst 0, 1) := by decide +kernel
theorem dX12_onlyFrom_6 : decode cX12_onlyFrom 6 = .ok (.istore 5, 2) := by decide +kernel
theorem dX12_onlyFrom_8 : decode cX12_onlyFrom 8 = .ok (.iload 5, 2) := by decide +kernel
theorem dX12_onlyFrom_10 : decode cX12_onlyFrom 10 = .ok (.bipush 8, 2) := by decide +kernel
theorem dX12_onlyFrom_12 : decode cX12_onlyFrom 12 = .ok (.if_icmp .ge 35, 3) := by decide +kernel
theorem dX12_onlyFrom_15 : decode cX12_onlyFrom 15 = .ok (.aload_n 0, 1) := by decide +kernel
theorem dX12_onlyFrom_16 : decode cX12_onlyFrom 16 = .ok (.iload_n 1, 1) := by decide +kernel
theorem dX12_onlyFrom_17 : decode cX12_onlyFrom 17 = .ok (.iload 5, 2) := by decide +kernel
theorem dX12_onlyFrom_19 : decode cX12_onlyFrom 19 = .ok (.invokevirtual 254, 3) := by decide +kernel
theorem dX12_onlyFrom_22 : decode cX12_onlyFrom 22 = .ok (.istore 6, 2) := by decide +kernel
theorem dX12_onlyFrom_24 : decode cX12_onlyFrom 24 = .ok (.iload 6, 2) := by decide +kernel
theorem dX12_onlyFrom_26 : decode cX12_onlyFrom 26 = .ok (.ifCond .lt 15, 3) := by decide +kernel
theorem dX12_onlyFrom_29 : decode cX12_onlyFrom 29 = .ok (.iload 6, 2) := by decide +kernel
theorem dX12_onlyFrom_31 : decode cX12_onlyFrom 31 = .ok (.iload_n 2, 1) := by decide +kernel
theorem dX12_onlyFrom_32 : decode cX12_onlyFrom 32 = .ok (.if_icmp .eq 9, 3) := by decide +kernel
theorem dX12_onlyFrom_35 : decode cX12_onlyFrom 35 = .ok (.iload 5, 2) := by decide +kernel
theorem dX12_onlyFrom_37 : decode cX12_onlyFrom 37 = .ok (.istore_n 3, 1) := by decide +kernel
theorem dX12_onlyFrom_38 : decode cX12_onlyFrom 38 = .ok (.iinc 4 1, 3) := by decide +kernel
theorem dX12_onlyFrom_41 : decode cX12_onlyFrom 41 = .ok (.iinc 5 1, 3) := by decide +kernel
theorem dX12_onlyFrom_44 : decode cX12_onlyFrom 44 = .ok (.goto (-36), 3) := by decide +kernel
theorem dX12_onlyFrom_47 : decode cX12_onlyFrom 47 = .ok (.iload 4, 2) := by decide +kernel
theorem dX12_onlyFrom_49 : decode cX12_onlyFrom 49 = .ok (.iconst 1, 1) := by decide +kernel
theorem dX12_onlyFrom_50 : decode cX12_onlyFrom 50 = .ok (.if_icmp .ne 7, 3) := by decide +kernel
theorem dX12_onlyFrom_53 : decode cX12_onlyFrom 53 = .ok (.iload_n 3, 1) := by decide +kernel
theorem dX12_onlyFrom_54 : decode cX12_onlyFrom 54 = .ok (.goto 4, 3) := by decide +kernel
theorem dX12_onlyFrom_57 : decode cX12_onlyFrom 57 = .ok (.iconst (-1), 1) := by decide +kernel
theorem dX12_onlyFrom_58 : decode cX12_onlyFrom 58 = .ok (.ireturn, 1) := by decide +kernel
theorem dX12_walks_0 : decode cX12_walks 0 = .ok (.iconst 0, 1) := by decide +kernel
theorem dX12_walks_1 : decode cX12_walks 1 = .ok (.istore_n 3, 1) := by decide +kernel
theorem dX12_walks_2 : decode cX12_walks 2 = .ok (.iload_n 3, 1) := by decide +kernel
theorem dX12_walks_3 : decode cX12_walks 3 = .ok (.bipush 96, 2) := by decide +kernel
theorem dX12_walks_5 : decode cX12_walks 5 = .ok (.if_icmp .ge 16, 3) := by decide +kernel
theorem dX12_walks_8 : decode cX12_walks 8 = .ok (.aload_n 0, 1) := by decide +kernel
theorem dX12_walks_9 : decode cX12_walks 9 = .ok (.getfield 60, 3) := by decide +kernel
theorem dX12_walks_12 : decode cX12_walks 12 = .ok (.iload_n 3, 1) := by decide +kernel
theorem dX12_walks_13 : decode cX12_walks 13 = .ok (.iconst 0, 1) := by decide +kernel
theorem dX12_walks_14 : decode cX12_walks 14 = .ok (.bastore, 1) := by decide +kernel
theorem dX12_walks_15 : decode cX12_walks 15 = .ok (.iinc 3 1, 3) := by decide +kernel
theorem dX12_walks_18 : decode cX12_walks 18 = .ok (.goto (-16), 3) := by decide +kernel
theorem dX12_walks_21 : decode cX12_walks 21 = .ok (.aload_n 0, 1) := by decide +kernel
theorem dX12_walks_22 : decode cX12_walks 22 = .ok (.iconst 0, 1) := by decide +kernel
theorem dX12_walks_23 : decode cX12_walks 23 = .ok (.putfield 284, 3) := by decide +kernel
theorem dX12_walks_26 : decode cX12_walks 26 = .ok (.aload_n 0, 1) := by decide +kernel
theorem dX12_walks_27 : decode cX12_walks 27 = .ok (.iconst 0, 1) := by decide +kernel
theorem dX12_walks_28 : decode cX12_walks 28 = .ok (.putfield 287, 3) := by decide +kernel
theorem dX12_walks_31 : decode cX12_walks 31 = .ok (.aload_n 0, 1) := by decide +kernel
theorem dX12_walks_32 : decode cX12_walks 32 = .ok (.iconst 0, 1) := by decide +kernel
theorem dX12_walks_33 : decode cX12_walks 33 = .ok (.putfield 290, 3) := by decide +kernel
theorem dX12_walks_36 : decode cX12_walks 36 = .ok (.aload_n 0, 1) := by decide +kernel
theorem dX12_walks_37 : decode cX12_walks 37 = .ok (.iconst (-1), 1) := by decide +kernel
theorem dX12_walks_38 : decode cX12_walks 38 = .ok (.putfield 281, 3) := by decide +kernel
theorem dX12_walks_41 : decode cX12_walks 41 = .ok (.aload_n 0, 1) := by decide +kernel
theorem dX12_walks_42 : decode cX12_walks 42 = .ok (.getfield 57, 3) := by decide +kernel
theorem dX12_walks_45 : decode cX12_walks 45 = .ok (.iconst 0, 1) := by decide +kernel
theorem dX12_walks_46 : decode cX12_walks 46 = .ok (.iload_n 1, 1) := by decide +kernel
theorem dX12_walks_47 : decode cX12_walks 47 = .ok (.iastore, 1) := by decide +kernel
theorem dX12_walks_48 : decode cX12_walks 48 = .ok (.iload_n 1, 1) := by decide +kernel
theorem dX12_walks_49 : decode cX12_walks 49 = .ok (.istore_n 3, 1) := by decide +kernel
theorem dX12_walks_50 : decode cX12_walks 50 = .ok (.iconst (-1), 1) := by decide +kernel
theorem dX12_walks_51 : decode cX12_walks 51 = .ok (.istore 4, 2) := by decide +kernel
theorem dX12_walks_53 : decode cX12_walks 53 = .ok (.iconst (-1), 1) := by decide +kernel
theorem dX12_walks_54 : decode cX12_walks 54 = .ok (.istore 5, 2) := by decide +kernel
theorem dX12_walks_56 : decode cX12_walks 56 = .ok (.aload_n 0, 1) := by decide +kernel
theorem dX12_walks_57 : decode cX12_walks 57 = .ok (.getfield 284, 3) := by decide +kernel
theorem dX12_walks_60 : decode cX12_walks 60 = .ok (.ifCond .ne 189, 3) := by decide +kernel
theorem dX12_walks_63 : decode cX12_walks 63 = .ok (.aload_n 0, 1) := by decide +kernel
theorem dX12_walks_64 : decode cX12_walks 64 = .ok (.iload_n 2, 1) := by decide +kernel
theorem dX12_walks_65 : decode cX12_walks 65 = .ok (.invokevirtual 131, 3) := by decide +kernel
theorem dX12_walks_68 : decode cX12_walks 68 = .ok (.iload_n 3, 1) := by decide +kernel
theorem dX12_walks_69 : decode cX12_walks 69 = .ok (.if_icmp .ne 9, 3) := by decide +kernel
theorem dX12_walks_72 : decode cX12_walks 72 = .ok (.aload_n 0, 1) := by decide +kernel
theorem dX12_walks_73 : decode cX12_walks 73 = .ok (.iconst 1, 1) := by decide +kernel
theorem dX12_walks_74 : decode cX12_walks 74 = .ok (.putfield 284, 3) := by decide +kernel
theorem dX12_walks_77 : decode cX12_walks 77 = .ok (.return_, 1) := by decide +kernel
theorem dX12_walks_78 : decode cX12_walks 78 = .ok (.aload_n 0, 1) := by decide +kernel
theorem dX12_walks_79 : decode cX12_walks 79 = .ok (.iload_n 3, 1) := by decide +kernel
theorem dX12_walks_80 : decode cX12_walks 80 = .ok (.iload_n 2, 1) := by decide +kernel
theorem dX12_walks_81 : decode cX12_walks 81 = .ok (.invokevirtual 293, 3) := by decide +kernel
theorem dX12_walks_84 : decode cX12_walks 84 = .ok (.istore 6, 2) := by decide +kernel
theorem dX12_walks_86 : decode cX12_walks 86 = .ok (.iload 6, 2) := by decide +kernel
theorem dX12_walks_88 : decode cX12_walks 88 = .ok (.ifCond .ge 32, 3) := by decide +kernel
theorem dX12_walks_91 : decode cX12_walks 91 = .ok (.iload 4, 2) := by decide +kernel
theorem dX12_walks_93 : decode cX12_walks 93 = .ok (.ifCond .lt 18, 3) := by decide +kernel
theorem dX12_walks_96 : decode cX12_walks 96 = .ok (.aload_n 0, 1) := by decide +kernel
theorem dX12_walks_97 : decode cX12_walks 97 = .ok (.iload_n 3, 1) := by decide +kernel
theorem dX12_walks_98 : decode cX12_walks 98 = .ok (.iload 4, 2) := by decide +kernel
theorem dX12_walks_100 : decode cX12_walks 100 = .ok (.invokevirtual 254, 3) := by decide +kernel
theorem dX12_walks_103 : decode cX12_walks 103 = .ok (.ifCond .lt 8, 3) := by decide +kernel
theorem dX12_walks_106 : decode cX12_walks 106 = .ok (.iload 4, 2) := by decide +kernel
theorem dX12_walks_108 : decode cX12_walks 108 = .ok (.goto 10, 3) := by decide +kernel
theorem dX12_walks_111 : decode cX12_walks 111 = .ok (.aload_n 0, 1) := by decide +kernel
theorem dX12_walks_112 : decode cX12_walks 112 = .ok (.iload_n 3, 1) := by decide +kernel
theorem dX12_walks_113 : decode cX12_walks 113 = .ok (.iload 5, 2) := by decide +kernel
theorem dX12_walks_115 : decode cX12_walks 115 = .ok (.invokevirtual 296, 3) := by decide +kernel
theorem dX12_walks_118 : decode cX12_walks 118 = .ok (.istore 6, 2) := by decide +kernel
theorem dX12_walks_120 : decode cX12_walks 120 = .ok (.iload 6, 2) := by decide +kernel
theorem dX12_walks_122 : decode cX12_walks 122 = .ok (.ifCond .ge 7, 3) := by decide +kernel
theorem dX12_walks_125 : decode cX12_walks 125 = .ok (.iconst (-1), 1) := by decide +kernel
theorem dX12_walks_126 : decode cX12_walks 126 = .ok (.goto 10, 3) := by decide +kernel
theorem dX12_walks_129 : decode cX12_walks 129 = .ok (.aload_n 0, 1) := by decide +kernel
theorem dX12_walks_130 : decode cX12_walks 130 = .ok (.iload_n 3, 1) := by decide +kernel
theorem dX12_walks_131 : decode cX12_walks 131 = .ok (.iload 6, 2) := by decide +kernel
theorem dX12_walks_133 : decode cX12_walks 133 = .ok (.invokevirtual 254, 3) := by decide +kernel
theorem dX12_walks_136 : decode cX12_walks 136 = .ok (.istore 7, 2) := by decide +kernel
theorem dX12_walks_138 : decode cX12_walks 138 = .ok (.iload 7, 2) := by decide +kernel
theorem dX12_walks_140 : decode cX12_walks 140 = .ok (.ifCond .ge 9, 3) := by decide +kernel
theorem dX12_walks_143 : decode cX12_walks 143 = .ok (.aload_n 0, 1) := by decide +kernel
theorem dX12_walks_144 : decode cX12_walks 144 = .ok (.iconst 2, 1) := by decide +kernel
theorem dX12_walks_145 : decode cX12_walks 145 = .ok (.putfield 284, 3) := by decide +kernel
theorem dX12_walks_148 : decode cX12_walks 148 = .ok (.return_, 1) := by decide +kernel
theorem dX12_walks_149 : decode cX12_walks 149 = .ok (.aload_n 0, 1) := by decide +kernel
theorem dX12_walks_150 : decode cX12_walks 150 = .ok (.dup, 1) := by decide +kernel
theorem dX12_walks_151 : decode cX12_walks 151 = .ok (.getfield 287, 3) := by decide +kernel
theorem dX12_walks_154 : decode cX12_walks 154 = .ok (.aload_n 0, 1) := by decide +kernel
theorem dX12_walks_155 : decode cX12_walks 155 = .ok (.getfield 9, 3) := by decide +kernel
theorem dX12_walks_158 : decode cX12_walks 158 = .ok (.bipush 15, 2) := by decide +kernel
theorem dX12_walks_160 : decode cX12_walks 160 = .ok (.bipush 6, 2) := by decide +kernel
theorem dX12_walks_162 : decode cX12_walks 162 = .ok (.iload 7, 2) := by decide +kernel
theorem dX12_walks_164 : decode cX12_walks 164 = .ok (.imul, 1) := by decide +kernel
theorem dX12_walks_165 : decode cX12_walks 165 = .ok (.iadd, 1) := by decide +kernel
theorem dX12_walks_166 : decode cX12_walks 166 = .ok (.iconst 4, 1) := by decide +kernel
theorem dX12_walks_167 : decode cX12_walks 167 = .ok (.iadd, 1) := by decide +kernel
theorem dX12_walks_168 : decode cX12_walks 168 = .ok (.iaload, 1) := by decide +kernel
theorem dX12_walks_169 : decode cX12_walks 169 = .ok (.iadd, 1) := by decide +kernel
theorem dX12_walks_170 : decode cX12_walks 170 = .ok (.putfield 287, 3) := by decide +kernel
theorem dX12_walks_173 : decode cX12_walks 173 = .ok (.aload_n 0, 1) := by decide +kernel
theorem dX12_walks_174 : decode cX12_walks 174 = .ok (.iload 7, 2) := by decide +kernel
theorem dX12_walks_176 : decode cX12_walks 176 = .ok (.iload_n 3, 1) := by decide +kernel
theorem dX12_walks_177 : decode cX12_walks 177 = .ok (.invokevirtual 257, 3) := by decide +kernel
theorem dX12_walks_180 : decode cX12_walks 180 = .ok (.istore_n 3, 1) := by decide +kernel
theorem dX12_walks_181 : decode cX12_walks 181 = .ok (.aload_n 0, 1) := by decide +kernel
theorem dX12_walks_182 : decode cX12_walks 182 = .ok (.dup, 1) := by decide +kernel
theorem dX12_walks_183 : decode cX12_walks 183 = .ok (.getfield 290, 3) := by decide +kernel
theorem dX12_walks_186 : decode cX12_walks 186 = .ok (.iconst 1, 1) := by decide +kernel
theorem dX12_walks_187 : decode cX12_walks 187 = .ok (.iadd, 1) := by decide +kernel
theorem dX12_walks_188 : decode cX12_walks 188 = .ok (.putfield 290, 3) := by decide +kernel
theorem dX12_walks_191 : decode cX12_walks 191 = .ok (.aload_n 0, 1) := by decide +kernel
theorem dX12_walks_192 : decode cX12_walks 192 = .ok (.getfield 57, 3) := by decide +kernel
theorem dX12_walks_195 : decode cX12_walks 195 = .ok (.aload_n 0, 1) := by decide +kernel
theorem dX12_walks_196 : decode cX12_walks 196 = .ok (.getfield 290, 3) := by decide +kernel
theorem dX12_walks_199 : decode cX12_walks 199 = .ok (.iload_n 3, 1) := by decide +kernel
theorem dX12_walks_200 : decode cX12_walks 200 = .ok (.iastore, 1) := by decide +kernel
theorem dX12_walks_201 : decode cX12_walks 201 = .ok (.aload_n 0, 1) := by decide +kernel
theorem dX12_walks_202 : decode cX12_walks 202 = .ok (.aload_n 0, 1) := by decide +kernel
theorem dX12_walks_203 : decode cX12_walks 203 = .ok (.getfield 60, 3) := by decide +kernel
theorem dX12_walks_206 : decode cX12_walks 206 = .ok (.bipush 8, 2) := by decide +kernel
theorem dX12_walks_208 : decode cX12_walks 208 = .ok (.iload_n 3, 1) := by decide +kernel
theorem dX12_walks_209 : decode cX12_walks 209 = .ok (.imul, 1) := by decide +kernel
theorem dX12_walks_210 : decode cX12_walks 210 = .ok (.iload 6, 2) := by decide +kernel
theorem dX12_walks_212 : decode cX12_walks 212 = .ok (.iadd, 1) := by decide +kernel
theorem dX12_walks_213 : decode cX12_walks 213 = .ok (.baload, 1) := by decide +kernel
theorem dX12_walks_214 : decode cX12_walks 214 = .ok (.ifCond .eq 7, 3) := by decide +kernel
theorem dX12_walks_217 : decode cX12_walks 217 = .ok (.iconst 3, 1) := by decide +kernel
theorem dX12_walks_218 : decode cX12_walks 218 = .ok (.goto 4, 3) := by decide +kernel
theorem dX12_walks_221 : decode cX12_walks 221 = .ok (.iconst 0, 1) := by decide +kernel
theorem dX12_walks_222 : decode cX12_walks 222 = .ok (.putfield 284, 3) := by decide +kernel
theorem dX12_walks_225 : decode cX12_walks 225 = .ok (.aload_n 0, 1) := by decide +kernel
theorem dX12_walks_226 : decode cX12_walks 226 = .ok (.getfield 60, 3) := by decide +kernel
theorem dX12_walks_229 : decode cX12_walks 229 = .ok (.bipush 8, 2) := by decide +kernel
theorem dX12_walks_231 : decode cX12_walks 231 = .ok (.iload_n 3, 1) := by decide +kernel
theorem dX12_walks_232 : decode cX12_walks 232 = .ok (.imul, 1) := by decide +kernel
theorem dX12_walks_233 : decode cX12_walks 233 = .ok (.iload 6, 2) := by decide +kernel
theorem dX12_walks_235 : decode cX12_walks 235 = .ok (.iadd, 1) := by decide +kernel
theorem dX12_walks_236 : decode cX12_walks 236 = .ok (.iconst 1, 1) := by decide +kernel
theorem dX12_walks_237 : decode cX12_walks 237 = .ok (.bastore, 1) := by decide +kernel
theorem dX12_walks_238 : decode cX12_walks 238 = .ok (.iload 6, 2) := by decide +kernel
theorem dX12_walks_240 : decode cX12_walks 240 = .ok (.istore 4, 2) := by decide +kernel
theorem dX12_walks_242 : decode cX12_walks 242 = .ok (.iload 7, 2) := by decide +kernel
theorem dX12_walks_244 : decode cX12_walks 244 = .ok (.istore 5, 2) := by decide +kernel
theorem dX12_walks_246 : decode cX12_walks 246 = .ok (.goto (-190), 3) := by decide +kernel
theorem dX12_walks_249 : decode cX12_walks 249 = .ok (.return_, 1) := by decide +kernel
theorem dX12_walk_0 : decode cX12_walk 0 = .ok (.aload_n 0, 1) := by decide +kernel
theorem dX12_walk_1 : decode cX12_walk 1 = .ok (.iload_n 1, 1) := by decide +kernel
theorem dX12_walk_2 : decode cX12_walk 2 = .ok (.invokevirtual 107, 3) := by decide +kernel
theorem dX12_walk_5 : decode cX12_walk 5 = .ok (.ifCond .eq 28, 3) := by decide +kernel
theorem dX12_walk_8 : decode cX12_walk 8 = .ok (.aload_n 0, 1) := by decide +kernel
theorem dX12_walk_9 : decode cX12_walk 9 = .ok (.iload_n 2, 1) := by decide +kernel
theorem dX12_walk_10 : decode cX12_walk 10 = .ok (.invokevirtual 128, 3) := by decide +kernel
theorem dX12_walk_13 : decode cX12_walk 13 = .ok (.ifCond .eq 20, 3) := by decide +kernel
theorem dX12_walk_16 : decode cX12_walk 16 = .ok (.iload_n 3, 1) := by decide +kernel
theorem dX12_walk_17 : decode cX12_walk 17 = .ok (.invokestatic 260, 3) := by decide +kernel
theorem dX12_walk_20 : decode cX12_walk 20 = .ok (.ifCond .eq 13, 3) := by decide +kernel
theorem dX12_walk_23 : decode cX12_walk 23 = .ok (.iload 4, 2) := by decide +kernel
theorem dX12_walk_25 : decode cX12_walk 25 = .ok (.iconst 0, 1) := by decide +kernel
theorem dX12_walk_26 : decode cX12_walk 26 = .ok (.iconst 4, 1) := by decide +kernel
theorem dX12_walk_27 : decode cX12_walk 27 = .ok (.invokestatic 102, 3) := by decide +kernel
theorem dX12_walk_30 : decode cX12_walk 30 = .ok (.ifCond .ne 6, 3) := by decide +kernel
theorem dX12_walk_33 : decode cX12_walk 33 = .ok (.ldc 111, 2) := by decide +kernel
theorem dX12_walk_35 : decode cX12_walk 35 = .ok (.ireturn, 1) := by decide +kernel
theorem dX12_walk_36 : decode cX12_walk 36 = .ok (.aload_n 0, 1) := by decide +kernel
theorem dX12_walk_37 : decode cX12_walk 37 = .ok (.iload_n 3, 1) := by decide +kernel
theorem dX12_walk_38 : decode cX12_walk 38 = .ok (.invokevirtual 263, 3) := by decide +kernel
theorem dX12_walk_41 : decode cX12_walk 41 = .ok (.aload_n 0, 1) := by decide +kernel
theorem dX12_walk_42 : decode cX12_walk 42 = .ok (.iconst 0, 1) := by decide +kernel
theorem dX12_walk_43 : decode cX12_walk 43 = .ok (.putfield 275, 3) := by decide +kernel
theorem dX12_walk_46 : decode cX12_walk 46 = .ok (.aload_n 0, 1) := by decide +kernel
theorem dX12_walk_47 : decode cX12_walk 47 = .ok (.iload_n 1, 1) := by decide +kernel
theorem dX12_walk_48 : decode cX12_walk 48 = .ok (.iload_n 2, 1) := by decide +kernel
theorem dX12_walk_49 : decode cX12_walk 49 = .ok (.invokevirtual 299, 3) := by decide +kernel
theorem dX12_walk_52 : decode cX12_walk 52 = .ok (.iload 4, 2) := by decide +kernel
theorem dX12_walk_54 : decode cX12_walk 54 = .ok (.tableswitch 55 0 3 #[30, 35, 40, 50], 30) := by decide +kernel
theorem dX12_walk_84 : decode cX12_walk 84 = .ok (.aload_n 0, 1) := by decide +kernel
theorem dX12_walk_85 : decode cX12_walk 85 = .ok (.getfield 284, 3) := by decide +kernel
theorem dX12_walk_88 : decode cX12_walk 88 = .ok (.ireturn, 1) := by decide +kernel
theorem dX12_walk_89 : decode cX12_walk 89 = .ok (.aload_n 0, 1) := by decide +kernel
theorem dX12_walk_90 : decode cX12_walk 90 = .ok (.getfield 287, 3) := by decide +kernel
theorem dX12_walk_93 : decode cX12_walk 93 = .ok (.ireturn, 1) := by decide +kernel
theorem dX12_walk_94 : decode cX12_walk 94 = .ok (.aload_n 0, 1) := by decide +kernel
theorem dX12_walk_95 : decode cX12_walk 95 = .ok (.getfield 57, 3) := by decide +kernel
theorem dX12_walk_98 : decode cX12_walk 98 = .ok (.aload_n 0, 1) := by decide +kernel
theorem dX12_walk_99 : decode cX12_walk 99 = .ok (.getfield 290, 3) := by decide +kernel
theorem dX12_walk_102 : decode cX12_walk 102 = .ok (.iaload, 1) := by decide +kernel
theorem dX12_walk_103 : decode cX12_walk 103 = .ok (.ireturn, 1) := by decide +kernel
theorem dX12_walk_104 : decode cX12_walk 104 = .ok (.aload_n 0, 1) := by decide +kernel
theorem dX12_walk_105 : decode cX12_walk 105 = .ok (.getfield 290, 3) := by decide +kernel
theorem dX12_walk_108 : decode cX12_walk 108 = .ok (.ireturn, 1) := by decide +kernel
theorem dX12_walk_109 : decode cX12_walk 109 = .ok (.aload_n 0, 1) := by decide +kernel
theorem dX12_walk_110 : decode cX12_walk 110 = .ok (.getfield 281, 3) := by decide +kernel
theorem dX12_walk_113 : decode cX12_walk 113 = .ok (.ifCond .ge 8, 3) := by decide +kernel
theorem dX12_walk_116 : decode cX12_walk 116 = .ok (.ldc 137, 2) := by decide +kernel
theorem dX12_walk_118 : decode cX12_walk 118 = .ok (.goto 7, 3) := by decide +kernel
theorem dX12_walk_121 : decode cX12_walk 121 = .ok (.aload_n 0, 1) := by decide +kernel
theorem dX12_walk_122 : decode cX12_walk 122 = .ok (.getfield 281, 3) := by decide +kernel
theorem dX12_walk_125 : decode cX12_walk 125 = .ok (.ireturn, 1) := by decide +kernel
theorem dX12_via_0 : decode cX12_via 0 = .ok (.aload_n 0, 1) := by decide +kernel
theorem dX12_via_1 : decode cX12_via 1 = .ok (.iload_n 1, 1) := by decide +kernel
theorem dX12_via_2 : decode cX12_via 2 = .ok (.invokevirtual 107, 3) := by decide +kernel
theorem dX12_via_5 : decode cX12_via 5 = .ok (.ifCond .eq 23, 3) := by decide +kernel
theorem dX12_via_8 : decode cX12_via 8 = .ok (.aload_n 0, 1) := by decide +kernel
theorem dX12_via_9 : decode cX12_via 9 = .ok (.iload_n 2, 1) := by decide +kernel
theorem dX12_via_10 : decode cX12_via 10 = .ok (.invokevirtual 128, 3) := by decide +kernel
theorem dX12_via_13 : decode cX12_via 13 = .ok (.ifCond .eq 15, 3) := by decide +kernel
theorem dX12_via_16 : decode cX12_via 16 = .ok (.iload_n 3, 1) := by decide +kernel
theorem dX12_via_17 : decode cX12_via 17 = .ok (.invokestatic 260, 3) := by decide +kernel
theorem dX12_via_20 : decode cX12_via 20 = .ok (.ifCond .eq 8, 3) := by decide +kernel
theorem dX12_via_23 : decode cX12_via 23 = .ok (.iload 4, 2) := by decide +kernel
theorem dX12_via_25 : decode cX12_via 25 = .ok (.ifCond .ge 6, 3) := by decide +kernel
theorem dX12_via_28 : decode cX12_via 28 = .ok (.ldc 111, 2) := by decide +kernel
theorem dX12_via_30 : decode cX12_via 30 = .ok (.ireturn, 1) := by decide +kernel
theorem dX12_via_31 : decode cX12_via 31 = .ok (.aload_n 0, 1) := by decide +kernel
theorem dX12_via_32 : decode cX12_via 32 = .ok (.iload_n 3, 1) := by decide +kernel
theorem dX12_via_33 : decode cX12_via 33 = .ok (.invokevirtual 263, 3) := by decide +kernel
theorem dX12_via_36 : decode cX12_via 36 = .ok (.aload_n 0, 1) := by decide +kernel
theorem dX12_via_37 : decode cX12_via 37 = .ok (.iconst 0, 1) := by decide +kernel
theorem dX12_via_38 : decode cX12_via 38 = .ok (.putfield 275, 3) := by decide +kernel
theorem dX12_via_41 : decode cX12_via 41 = .ok (.aload_n 0, 1) := by decide +kernel
theorem dX12_via_42 : decode cX12_via 42 = .ok (.iload_n 1, 1) := by decide +kernel
theorem dX12_via_43 : decode cX12_via 43 = .ok (.iload_n 2, 1) := by decide +kernel
theorem dX12_via_44 : decode cX12_via 44 = .ok (.invokevirtual 299, 3) := by decide +kernel
theorem dX12_via_47 : decode cX12_via 47 = .ok (.iload 4, 2) := by decide +kernel
theorem dX12_via_49 : decode cX12_via 49 = .ok (.aload_n 0, 1) := by decide +kernel
theorem dX12_via_50 : decode cX12_via 50 = .ok (.getfield 290, 3) := by decide +kernel
theorem dX12_via_53 : decode cX12_via 53 = .ok (.if_icmp .gt 13, 3) := by decide +kernel
theorem dX12_via_56 : decode cX12_via 56 = .ok (.aload_n 0, 1) := by decide +kernel
theorem dX12_via_57 : decode cX12_via 57 = .ok (.getfield 57, 3) := by decide +kernel
theorem dX12_via_60 : decode cX12_via 60 = .ok (.iload 4, 2) := by decide +kernel
theorem dX12_via_62 : decode cX12_via 62 = .ok (.iaload, 1) := by decide +kernel
theorem dX12_via_63 : decode cX12_via 63 = .ok (.goto 5, 3) := by decide +kernel
theorem dX12_via_66 : decode cX12_via 66 = .ok (.ldc 137, 2) := by decide +kernel
theorem dX12_via_68 : decode cX12_via 68 = .ok (.ireturn, 1) := by decide +kernel
theorem dX12_quarrels_0 : decode cX12_quarrels 0 = .ok (.aload_n 0, 1) := by decide +kernel
theorem dX12_quarrels_1 : decode cX12_quarrels 1 = .ok (.iload_n 1, 1) := by decide +kernel
theorem dX12_quarrels_2 : decode cX12_quarrels 2 = .ok (.iconst 0, 1) := by decide +kernel
theorem dX12_quarrels_3 : decode cX12_quarrels 3 = .ok (.invokevirtual 138, 3) := by decide +kernel
theorem dX12_quarrels_6 : decode cX12_quarrels 6 = .ok (.istore_n 3, 1) := by decide +kernel
theorem dX12_quarrels_7 : decode cX12_quarrels 7 = .ok (.iconst 0, 1) := by decide +kernel
theorem dX12_quarrels_8 : decode cX12_quarrels 8 = .ok (.istore 4, 2) := by decide +kernel
theorem dX12_quarrels_10 : decode cX12_quarrels 10 = .ok (.iload 4, 2) := by decide +kernel
theorem dX12_quarrels_12 : decode cX12_quarrels 12 = .ok (.iload_n 1, 1) := by decide +kernel
theorem dX12_quarrels_13 : decode cX12_quarrels 13 = .ok (.if_icmp .gt 90, 3) := by decide +kernel
theorem dX12_quarrels_16 : decode cX12_quarrels 16 = .ok (.iload 4, 2) := by decide +kernel
theorem dX12_quarrels_18 : decode cX12_quarrels 18 = .ok (.iload_n 1, 1) := by decide +kernel
theorem dX12_quarrels_19 : decode cX12_quarrels 19 = .ok (.if_icmp .ne 7, 3) := by decide +kernel
theorem dX12_quarrels_22 : decode cX12_quarrels 22 = .ok (.iload_n 2, 1) := by decide +kernel
theorem dX12_quarrels_23 : decode cX12_quarrels 23 = .ok (.goto 9, 3) := by decide +kernel
theorem dX12_quarrels_26 : decode cX12_quarrels 26 = .ok (.aload_n 0, 1) := by decide +kernel
theorem dX12_quarrels_27 : decode cX12_quarrels 27 = .ok (.iload 4, 2) := by decide +kernel
theorem dX12_quarrels_29 : decode cX12_quarrels 29 = .ok (.invokevirtual 141, 3) := by decide +kernel
theorem dX12_quarrels_32 : decode cX12_quarrels 32 = .ok (.istore 5, 2) := by decide +kernel
theorem dX12_quarrels_34 : decode cX12_quarrels 34 = .ok (.iconst 0, 1) := by decide +kernel
theorem dX12_quarrels_35 : decode cX12_quarrels 35 = .ok (.istore 6, 2) := by decide +kernel
theorem dX12_quarrels_37 : decode cX12_quarrels 37 = .ok (.iload 6, 2) := by decide +kernel
theorem dX12_quarrels_39 : decode cX12_quarrels 39 = .ok (.iload 5, 2) := by decide +kernel
theorem dX12_quarrels_41 : decode cX12_quarrels 41 = .ok (.if_icmp .ge 56, 3) := by decide +kernel
theorem dX12_quarrels_44 : decode cX12_quarrels 44 = .ok (.aload_n 0, 1) := by decide +kernel
theorem dX12_quarrels_45 : decode cX12_quarrels 45 = .ok (.iload 4, 2) := by decide +kernel
theorem dX12_quarrels_47 : decode cX12_quarrels 47 = .ok (.iconst 0, 1) := by decide +kernel
theorem dX12_quarrels_48 : decode cX12_quarrels 48 = .ok (.invokevirtual 138, 3) := by decide +kernel
theorem dX12_quarrels_51 : decode cX12_quarrels 51 = .ok (.iload_n 3, 1) := by decide +kernel
theorem dX12_quarrels_52 : decode cX12_quarrels 52 = .ok (.if_icmp .ne 39, 3) := by decide +kernel
theorem dX12_quarrels_55 : decode cX12_quarrels 55 = .ok (.aload_n 0, 1) := by decide +kernel
theorem dX12_quarrels_56 : decode cX12_quarrels 56 = .ok (.iload 4, 2) := by decide +kernel
theorem dX12_quarrels_58 : decode cX12_quarrels 58 = .ok (.iload 6, 2) := by decide +kernel
theorem dX12_quarrels_60 : decode cX12_quarrels 60 = .ok (.invokevirtual 177, 3) := by decide +kernel
theorem dX12_quarrels_63 : decode cX12_quarrels 63 = .ok (.aload_n 0, 1) := by decide +kernel
theorem dX12_quarrels_64 : decode cX12_quarrels 64 = .ok (.iload_n 1, 1) := by decide +kernel
theorem dX12_quarrels_65 : decode cX12_quarrels 65 = .ok (.iload_n 2, 1) := by decide +kernel
theorem dX12_quarrels_66 : decode cX12_quarrels 66 = .ok (.invokevirtual 177, 3) := by decide +kernel
theorem dX12_quarrels_69 : decode cX12_quarrels 69 = .ok (.if_icmp .ne 22, 3) := by decide +kernel
theorem dX12_quarrels_72 : decode cX12_quarrels 72 = .ok (.aload_n 0, 1) := by decide +kernel
theorem dX12_quarrels_73 : decode cX12_quarrels 73 = .ok (.iload 4, 2) := by decide +kernel
theorem dX12_quarrels_75 : decode cX12_quarrels 75 = .ok (.iload 6, 2) := by decide +kernel
theorem dX12_quarrels_77 : decode cX12_quarrels 77 = .ok (.invokevirtual 180, 3) := by decide +kernel
theorem dX12_quarrels_80 : decode cX12_quarrels 80 = .ok (.aload_n 0, 1) := by decide +kernel
theorem dX12_quarrels_81 : decode cX12_quarrels 81 = .ok (.iload_n 1, 1) := by decide +kernel
theorem dX12_quarrels_82 : decode cX12_quarrels 82 = .ok (.iload_n 2, 1) := by decide +kernel
theorem dX12_quarrels_83 : decode cX12_quarrels 83 = .ok (.invokevirtual 180, 3) := by decide +kernel
theorem dX12_quarrels_86 : decode cX12_quarrels 86 = .ok (.if_icmp .eq 5, 3) := by decide +kernel
theorem dX12_quarrels_89 : decode cX12_quarrels 89 = .ok (.iconst 1, 1) := by decide +kernel
theorem dX12_quarrels_90 : decode cX12_quarrels 90 = .ok (.ireturn, 1) := by decide +kernel
theorem dX12_quarrels_91 : decode cX12_quarrels 91 = .ok (.iinc 6 1, 3) := by decide +kernel
theorem dX12_quarrels_94 : decode cX12_quarrels 94 = .ok (.goto (-57), 3) := by decide +kernel
theorem dX12_quarrels_97 : decode cX12_quarrels 97 = .ok (.iinc 4 1, 3) := by decide +kernel
theorem dX12_quarrels_100 : decode cX12_quarrels 100 = .ok (.goto (-90), 3) := by decide +kernel
theorem dX12_quarrels_103 : decode cX12_quarrels 103 = .ok (.iconst 0, 1) := by decide +kernel
theorem dX12_quarrels_104 : decode cX12_quarrels 104 = .ok (.ireturn, 1) := by decide +kernel
theorem dX12_waysAt_0 : decode cX12_waysAt 0 = .ok (.iconst 0, 1) := by decide +kernel
theorem dX12_waysAt_1 : decode cX12_waysAt 1 = .ok (.istore_n 2, 1) := by decide +kernel
theorem dX12_waysAt_2 : decode cX12_waysAt 2 = .ok (.iconst 0, 1) := by decide +kernel
theorem dX12_waysAt_3 : decode cX12_waysAt 3 = .ok (.istore_n 3, 1) := by decide +kernel
theorem dX12_waysAt_4 : decode cX12_waysAt 4 = .ok (.iload_n 3, 1) := by decide +kernel
theorem dX12_waysAt_5 : decode cX12_waysAt 5 = .ok (.aload_n 0, 1) := by decide +kernel
theorem dX12_waysAt_6 : decode cX12_waysAt 6 = .ok (.getfield 9, 3) := by decide +kernel
theorem dX12_waysAt_9 : decode cX12_waysAt 9 = .ok (.iconst 4, 1) := by decide +kernel
theorem dX12_waysAt_10 : decode cX12_waysAt 10 = .ok (.iaload, 1) := by decide +kernel
theorem dX12_waysAt_11 : decode cX12_waysAt 11 = .ok (.if_icmp .ge 51, 3) := by decide +kernel
theorem dX12_waysAt_14 : decode cX12_waysAt 14 = .ok (.iload_n 2, 1) := by decide +kernel
theorem dX12_waysAt_15 : decode cX12_waysAt 15 = .ok (.aload_n 0, 1) := by decide +kernel
theorem dX12_waysAt_16 : decode cX12_waysAt 16 = .ok (.getfield 9, 3) := by decide +kernel
theorem dX12_waysAt_19 : decode cX12_waysAt 19 = .ok (.bipush 15, 2) := by decide +kernel
theorem dX12_waysAt_21 : decode cX12_waysAt 21 = .ok (.bipush 6, 2) := by decide +kernel
theorem dX12_waysAt_23 : decode cX12_waysAt 23 = .ok (.iload_n 3, 1) := by decide +kernel
theorem dX12_waysAt_24 : decode cX12_waysAt 24 = .ok (.imul, 1) := by decide +kernel
theorem dX12_waysAt_25 : decode cX12_waysAt 25 = .ok (.iadd, 1) := by decide +kernel
theorem dX12_waysAt_26 : decode cX12_waysAt 26 = .ok (.iaload, 1) := by decide +kernel
theorem dX12_waysAt_27 : decode cX12_waysAt 27 = .ok (.iload_n 1, 1) := by decide +kernel
theorem dX12_waysAt_28 : decode cX12_waysAt 28 = .ok (.if_icmp .eq 21, 3) := by decide +kernel
theorem dX12_waysAt_31 : decode cX12_waysAt 31 = .ok (.aload_n 0, 1) := by decide +kernel
theorem dX12_waysAt_32 : decode cX12_waysAt 32 = .ok (.getfield 9, 3) := by decide +kernel
theorem dX12_waysAt_35 : decode cX12_waysAt 35 = .ok (.bipush 15, 2) := by decide +kernel
theorem dX12_waysAt_37 : decode cX12_waysAt 37 = .ok (.bipush 6, 2) := by decide +kernel
theorem dX12_waysAt_39 : decode cX12_waysAt 39 = .ok (.iload_n 3, 1) := by decide +kernel
theorem dX12_waysAt_40 : decode cX12_waysAt 40 = .ok (.imul, 1) := by decide +kernel
theorem dX12_waysAt_41 : decode cX12_waysAt 41 = .ok (.iadd, 1) := by decide +kernel
theorem dX12_waysAt_42 : decode cX12_waysAt 42 = .ok (.iconst 1, 1) := by decide +kernel
theorem dX12_waysAt_43 : decode cX12_waysAt 43 = .ok (.iadd, 1) := by decide +kernel
theorem dX12_waysAt_44 : decode cX12_waysAt 44 = .ok (.iaload, 1) := by decide +kernel
theorem dX12_waysAt_45 : decode cX12_waysAt 45 = .ok (.iload_n 1, 1) := by decide +kernel
theorem dX12_waysAt_46 : decode cX12_waysAt 46 = .ok (.if_icmp .ne 7, 3) := by decide +kernel
theorem dX12_waysAt_49 : decode cX12_waysAt 49 = .ok (.iconst 1, 1) := by decide +kernel
theorem dX12_waysAt_50 : decode cX12_waysAt 50 = .ok (.goto 4, 3) := by decide +kernel
theorem dX12_waysAt_53 : decode cX12_waysAt 53 = .ok (.iconst 0, 1) := by decide +kernel
theorem dX12_waysAt_54 : decode cX12_waysAt 54 = .ok (.iadd, 1) := by decide +kernel
theorem dX12_waysAt_55 : decode cX12_waysAt 55 = .ok (.istore_n 2, 1) := by decide +kernel
theorem dX12_waysAt_56 : decode cX12_waysAt 56 = .ok (.iinc 3 1, 3) := by decide +kernel
theorem dX12_waysAt_59 : decode cX12_waysAt 59 = .ok (.goto (-55), 3) := by decide +kernel
theorem dX12_waysAt_62 : decode cX12_waysAt 62 = .ok (.iload_n 2, 1) := by decide +kernel
theorem dX12_waysAt_63 : decode cX12_waysAt 63 = .ok (.ireturn, 1) := by decide +kernel
theorem dX12_goesOn_0 : decode cX12_goesOn 0 = .ok (.iconst 0, 1) := by decide +kernel
theorem dX12_goesOn_1 : decode cX12_goesOn 1 = .ok (.istore_n 3, 1) := by decide +kernel
theorem dX12_goesOn_2 : decode cX12_goesOn 2 = .ok (.iload_n 3, 1) := by decide +kernel
theorem dX12_goesOn_3 : decode cX12_goesOn 3 = .ok (.aload_n 0, 1) := by decide +kernel
theorem dX12_goesOn_4 : decode cX12_goesOn 4 = .ok (.getfield 9, 3) := by decide +kernel
theorem dX12_goesOn_7 : decode cX12_goesOn 7 = .ok (.iconst 5, 1) := by decide +kernel
theorem dX12_goesOn_8 : decode cX12_goesOn 8 = .ok (.iaload, 1) := by decide +kernel
theorem dX12_goesOn_9 : decode cX12_goesOn 9 = .ok (.if_icmp .ge 43, 3) := by decide +kernel
theorem dX12_goesOn_12 : decode cX12_goesOn 12 = .ok (.aload_n 0, 1) := by decide +kernel
theorem dX12_goesOn_13 : decode cX12_goesOn 13 = .ok (.iload_n 3, 1) := by decide +kernel
theorem dX12_goesOn_14 : decode cX12_goesOn 14 = .ok (.invokevirtual 131, 3) := by decide +kernel
theorem dX12_goesOn_17 : decode cX12_goesOn 17 = .ok (.iload_n 1, 1) := by decide +kernel
theorem dX12_goesOn_18 : decode cX12_goesOn 18 = .ok (.if_icmp .ne 28, 3) := by decide +kernel
theorem dX12_goesOn_21 : decode cX12_goesOn 21 = .ok (.iload_n 3, 1) := by decide +kernel
theorem dX12_goesOn_22 : decode cX12_goesOn 22 = .ok (.iload_n 2, 1) := by decide +kernel
theorem dX12_goesOn_23 : decode cX12_goesOn 23 = .ok (.if_icmp .eq 21, 3) := by decide +kernel
theorem dX12_goesOn_26 : decode cX12_goesOn 26 = .ok (.iload_n 2, 1) := by decide +kernel
theorem dX12_goesOn_27 : decode cX12_goesOn 27 = .ok (.bipush 10, 2) := by decide +kernel
theorem dX12_goesOn_29 : decode cX12_goesOn 29 = .ok (.if_icmp .lt 17, 3) := by decide +kernel
theorem dX12_goesOn_32 : decode cX12_goesOn 32 = .ok (.aload_n 0, 1) := by decide +kernel
theorem dX12_goesOn_33 : decode cX12_goesOn 33 = .ok (.iload_n 3, 1) := by decide +kernel
theorem dX12_goesOn_34 : decode cX12_goesOn 34 = .ok (.invokevirtual 134, 3) := by decide +kernel
theorem dX12_goesOn_37 : decode cX12_goesOn 37 = .ok (.iload_n 2, 1) := by decide +kernel
theorem dX12_goesOn_38 : decode cX12_goesOn 38 = .ok (.bipush 10, 2) := by decide +kernel
theorem dX12_goesOn_40 : decode cX12_goesOn 40 = .ok (.isub, 1) := by decide +kernel
theorem dX12_goesOn_41 : decode cX12_goesOn 41 = .ok (.if_icmp .ne 5, 3) := by decide +kernel
theorem dX12_goesOn_44 : decode cX12_goesOn 44 = .ok (.iconst 1, 1) := by decide +kernel
theorem dX12_goesOn_45 : decode cX12_goesOn 45 = .ok (.ireturn, 1) := by decide +kernel
theorem dX12_goesOn_46 : decode cX12_goesOn 46 = .ok (.iinc 3 1, 3) := by decide +kernel
theorem dX12_goesOn_49 : decode cX12_goesOn 49 = .ok (.goto (-47), 3) := by decide +kernel
theorem dX12_goesOn_52 : decode cX12_goesOn 52 = .ok (.iconst 0, 1) := by decide +kernel
theorem dX12_goesOn_53 : decode cX12_goesOn 53 = .ok (.istore_n 3, 1) := by decide +kernel
theorem dX12_goesOn_54 : decode cX12_goesOn 54 = .ok (.iload_n 3, 1) := by decide +kernel
theorem dX12_goesOn_55 : decode cX12_goesOn 55 = .ok (.aload_n 0, 1) := by decide +kernel
theorem dX12_goesOn_56 : decode cX12_goesOn 56 = .ok (.getfield 9, 3) := by decide +kernel
theorem dX12_goesOn_59 : decode cX12_goesOn 59 = .ok (.bipush 6, 2) := by decide +kernel
theorem dX12_goesOn_61 : decode cX12_goesOn 61 = .ok (.iaload, 1) := by decide +kernel
theorem dX12_goesOn_62 : decode cX12_goesOn 62 = .ok (.if_icmp .ge 146, 3) := by decide +kernel
theorem dX12_goesOn_65 : decode cX12_goesOn 65 = .ok (.iconst 0, 1) := by decide +kernel
theorem dX12_goesOn_66 : decode cX12_goesOn 66 = .ok (.istore 4, 2) := by decide +kernel
theorem dX12_goesOn_68 : decode cX12_goesOn 68 = .ok (.iload 4, 2) := by decide +kernel
theorem dX12_goesOn_70 : decode cX12_goesOn 70 = .ok (.aload_n 0, 1) := by decide +kernel
theorem dX12_goesOn_71 : decode cX12_goesOn 71 = .ok (.iload_n 3, 1) := by decide +kernel
theorem dX12_goesOn_72 : decode cX12_goesOn 72 = .ok (.invokevirtual 141, 3) := by decide +kernel
theorem dX12_goesOn_75 : decode cX12_goesOn 75 = .ok (.if_icmp .ge 127, 3) := by decide +kernel
theorem dX12_goesOn_78 : decode cX12_goesOn 78 = .ok (.aload_n 0, 1) := by decide +kernel
theorem dX12_goesOn_79 : decode cX12_goesOn 79 = .ok (.iload_n 3, 1) := by decide +kernel
theorem dX12_goesOn_80 : decode cX12_goesOn 80 = .ok (.iconst 0, 1) := by decide +kernel
theorem dX12_goesOn_81 : decode cX12_goesOn 81 = .ok (.invokevirtual 138, 3) := by decide +kernel
theorem dX12_goesOn_84 : decode cX12_goesOn 84 = .ok (.iload_n 1, 1) := by decide +kernel
theorem dX12_goesOn_85 : decode cX12_goesOn 85 = .ok (.if_icmp .ne 117, 3) := by decide +kernel
theorem dX12_goesOn_88 : decode cX12_goesOn 88 = .ok (.aload_n 0, 1) := by decide +kernel
theorem dX12_goesOn_89 : decode cX12_goesOn 89 = .ok (.iload_n 3, 1) := by decide +kernel
theorem dX12_goesOn_90 : decode cX12_goesOn 90 = .ok (.iload 4, 2) := by decide +kernel
theorem dX12_goesOn_92 : decode cX12_goesOn 92 = .ok (.invokevirtual 177, 3) := by decide +kernel
theorem dX12_goesOn_95 : decode cX12_goesOn 95 = .ok (.istore 5, 2) := by decide +kernel
theorem dX12_goesOn_97 : decode cX12_goesOn 97 = .ok (.iload_n 2, 1) := by decide +kernel
theorem dX12_goesOn_98 : decode cX12_goesOn 98 = .ok (.aload_n 0, 1) := by decide +kernel
theorem dX12_goesOn_99 : decode cX12_goesOn 99 = .ok (.getfield 9, 3) := by decide +kernel
theorem dX12_goesOn_102 : decode cX12_goesOn 102 = .ok (.iconst 5, 1) := by decide +kernel
theorem dX12_goesOn_103 : decode cX12_goesOn 103 = .ok (.iaload, 1) := by decide +kernel
theorem dX12_goesOn_104 : decode cX12_goesOn 104 = .ok (.if_icmp .ge 28, 3) := by decide +kernel
theorem dX12_goesOn_107 : decode cX12_goesOn 107 = .ok (.aload_n 0, 1) := by decide +kernel
theorem dX12_goesOn_108 : decode cX12_goesOn 108 = .ok (.iload_n 2, 1) := by decide +kernel
theorem dX12_goesOn_109 : decode cX12_goesOn 109 = .ok (.invokevirtual 134, 3) := by decide +kernel
theorem dX12_goesOn_112 : decode cX12_goesOn 112 = .ok (.ifCond .lt 20, 3) := by decide +kernel
theorem dX12_goesOn_115 : decode cX12_goesOn 115 = .ok (.iload 5, 2) := by decide +kernel
theorem dX12_goesOn_117 : decode cX12_goesOn 117 = .ok (.bipush 10, 2) := by decide +kernel
theorem dX12_goesOn_119 : decode cX12_goesOn 119 = .ok (.aload_n 0, 1) := by decide +kernel
theorem dX12_goesOn_120 : decode cX12_goesOn 120 = .ok (.iload_n 2, 1) := by decide +kernel
theorem dX12_goesOn_121 : decode cX12_goesOn 121 = .ok (.invokevirtual 134, 3) := by decide +kernel
theorem dX12_goesOn_124 : decode cX12_goesOn 124 = .ok (.iadd, 1) := by decide +kernel
theorem dX12_goesOn_125 : decode cX12_goesOn 125 = .ok (.if_icmp .ne 7, 3) := by decide +kernel
theorem dX12_goesOn_128 : decode cX12_goesOn 128 = .ok (.iconst 1, 1) := by decide +kernel
theorem dX12_goesOn_129 : decode cX12_goesOn 129 = .ok (.goto 4, 3) := by decide +kernel
theorem dX12_goesOn_132 : decode cX12_goesOn 132 = .ok (.iconst 0, 1) := by decide +kernel
theorem dX12_goesOn_133 : decode cX12_goesOn 133 = .ok (.istore 6, 2) := by decide +kernel
theorem dX12_goesOn_135 : decode cX12_goesOn 135 = .ok (.iload_n 2, 1) := by decide +kernel
theorem dX12_goesOn_136 : decode cX12_goesOn 136 = .ok (.bipush 10, 2) := by decide +kernel
theorem dX12_goesOn_138 : decode cX12_goesOn 138 = .ok (.if_icmp .lt 31, 3) := by decide +kernel
theorem dX12_goesOn_141 : decode cX12_goesOn 141 = .ok (.iload 5, 2) := by decide +kernel
theorem dX12_goesOn_143 : decode cX12_goesOn 143 = .ok (.aload_n 0, 1) := by decide +kernel
theorem dX12_goesOn_144 : decode cX12_goesOn 144 = .ok (.getfield 9, 3) := by decide +kernel
theorem dX12_goesOn_147 : decode cX12_goesOn 147 = .ok (.iconst 5, 1) := by decide +kernel
theorem dX12_goesOn_148 : decode cX12_goesOn 148 = .ok (.iaload, 1) := by decide +kernel
theorem dX12_goesOn_149 : decode cX12_goesOn 149 = .ok (.if_icmp .ge 20, 3) := by decide +kernel
theorem dX12_goesOn_152 : decode cX12_goesOn 152 = .ok (.aload_n 0, 1) := by decide +kernel
theorem dX12_goesOn_153 : decode cX12_goesOn 153 = .ok (.iload 5, 2) := by decide +kernel
theorem dX12_goesOn_155 : decode cX12_goesOn 155 = .ok (.invokevirtual 134, 3) := by decide +kernel
theorem dX12_goesOn_158 : decode cX12_goesOn 158 = .ok (.iload_n 2, 1) := by decide +kernel
theorem dX12_goesOn_159 : decode cX12_goesOn 159 = .ok (.bipush 10, 2) := by decide +kernel
theorem dX12_goesOn_161 : decode cX12_goesOn 161 = .ok (.isub, 1) := by decide +kernel
theorem dX12_goesOn_162 : decode cX12_goesOn 162 = .ok (.if_icmp .ne 7, 3) := by decide +kernel
theorem dX12_goesOn_165 : decode cX12_goesOn 165 = .ok (.iconst 1, 1) := by decide +kernel
theorem dX12_goesOn_166 : decode cX12_goesOn 166 = .ok (.goto 4, 3) := by decide +kernel
theorem dX12_goesOn_169 : decode cX12_goesOn 169 = .ok (.iconst 0, 1) := by decide +kernel
theorem dX12_goesOn_170 : decode cX12_goesOn 170 = .ok (.istore 7, 2) := by decide +kernel
theorem dX12_goesOn_172 : decode cX12_goesOn 172 = .ok (.iload 5, 2) := by decide +kernel
theorem dX12_goesOn_174 : decode cX12_goesOn 174 = .ok (.iload_n 2, 1) := by decide +kernel
theorem dX12_goesOn_175 : decode cX12_goesOn 175 = .ok (.if_icmp .eq 19, 3) := by decide +kernel
theorem dX12_goesOn_178 : decode cX12_goesOn 178 = .ok (.iload_n 2, 1) := by decide +kernel
theorem dX12_goesOn_179 : decode cX12_goesOn 179 = .ok (.bipush 10, 2) := by decide +kernel
theorem dX12_goesOn_181 : decode cX12_goesOn 181 = .ok (.if_icmp .ge 8, 3) := by decide +kernel
theorem dX12_goesOn_184 : decode cX12_goesOn 184 = .ok (.iload 6, 2) := by decide +kernel
theorem dX12_goesOn_186 : decode cX12_goesOn 186 = .ok (.ifCond .ne 8, 3) := by decide +kernel
theorem dX12_goesOn_189 : decode cX12_goesOn 189 = .ok (.iload 7, 2) := by decide +kernel
theorem dX12_goesOn_191 : decode cX12_goesOn 191 = .ok (.ifCond .eq 5, 3) := by decide +kernel
theorem dX12_goesOn_194 : decode cX12_goesOn 194 = .ok (.iconst 1, 1) := by decide +kernel
theorem dX12_goesOn_195 : decode cX12_goesOn 195 = .ok (.ireturn, 1) := by decide +kernel
theorem dX12_goesOn_196 : decode cX12_goesOn 196 = .ok (.iinc 4 1, 3) := by decide +kernel
theorem dX12_goesOn_199 : decode cX12_goesOn 199 = .ok (.goto (-131), 3) := by decide +kernel
theorem dX12_goesOn_202 : decode cX12_goesOn 202 = .ok (.iinc 3 1, 3) := by decide +kernel
theorem dX12_goesOn_205 : decode cX12_goesOn 205 = .ok (.goto (-151), 3) := by decide +kernel
theorem dX12_goesOn_208 : decode cX12_goesOn 208 = .ok (.iconst 0, 1) := by decide +kernel
theorem dX12_goesOn_209 : decode cX12_goesOn 209 = .ok (.ireturn, 1) := by decide +kernel
theorem dX12_isBreach_0 : decode cX12_isBreach 0 = .ok (.iload_n 3, 1) := by decide +kernel
theorem dX12_isBreach_1 : decode cX12_isBreach 1 = .ok (.iconst 1, 1) := by decide +kernel
theorem dX12_isBreach_2 : decode cX12_isBreach 2 = .ok (.if_icmp .ne 22, 3) := by decide +kernel
theorem dX12_isBreach_5 : decode cX12_isBreach 5 = .ok (.iload_n 2, 1) := by decide +kernel
theorem dX12_isBreach_6 : decode cX12_isBreach 6 = .ok (.aload_n 0, 1) := by decide +kernel
theorem dX12_isBreach_7 : decode cX12_isBreach 7 = .ok (.iload_n 1, 1) := by decide +kernel
theorem dX12_isBreach_8 : decode cX12_isBreach 8 = .ok (.iconst 1, 1) := by decide +kernel
theorem dX12_isBreach_9 : decode cX12_isBreach 9 = .ok (.invokevirtual 138, 3) := by decide +kernel
theorem dX12_isBreach_12 : decode cX12_isBreach 12 = .ok (.invokestatic 154, 3) := by decide +kernel
theorem dX12_isBreach_15 : decode cX12_isBreach 15 = .ok (.if_icmp .lt 7, 3) := by decide +kernel
theorem dX12_isBreach_18 : decode cX12_isBreach 18 = .ok (.iconst 1, 1) := by decide +kernel
theorem dX12_isBreach_19 : decode cX12_isBreach 19 = .ok (.goto 4, 3) := by decide +kernel
theorem dX12_isBreach_22 : decode cX12_isBreach 22 = .ok (.iconst 0, 1) := by decide +kernel
theorem dX12_isBreach_23 : decode cX12_isBreach 23 = .ok (.ireturn, 1) := by decide +kernel
theorem dX12_isBreach_24 : decode cX12_isBreach 24 = .ok (.iload_n 3, 1) := by decide +kernel
theorem dX12_isBreach_25 : decode cX12_isBreach 25 = .ok (.iconst 2, 1) := by decide +kernel
theorem dX12_isBreach_26 : decode cX12_isBreach 26 = .ok (.if_icmp .ne 10, 3) := by decide +kernel
theorem dX12_isBreach_29 : decode cX12_isBreach 29 = .ok (.aload_n 0, 1) := by decide +kernel
theorem dX12_isBreach_30 : decode cX12_isBreach 30 = .ok (.iload_n 1, 1) := by decide +kernel
theorem dX12_isBreach_31 : decode cX12_isBreach 31 = .ok (.iload_n 2, 1) := by decide +kernel
theorem dX12_isBreach_32 : decode cX12_isBreach 32 = .ok (.invokevirtual 303, 3) := by decide +kernel
theorem dX12_isBreach_35 : decode cX12_isBreach 35 = .ok (.ireturn, 1) := by decide +kernel
theorem dX12_isBreach_36 : decode cX12_isBreach 36 = .ok (.aload_n 0, 1) := by decide +kernel
theorem dX12_isBreach_37 : decode cX12_isBreach 37 = .ok (.aload_n 0, 1) := by decide +kernel
theorem dX12_isBreach_38 : decode cX12_isBreach 38 = .ok (.iload_n 1, 1) := by decide +kernel
theorem dX12_isBreach_39 : decode cX12_isBreach 39 = .ok (.iconst 0, 1) := by decide +kernel
theorem dX12_isBreach_40 : decode cX12_isBreach 40 = .ok (.invokevirtual 138, 3) := by decide +kernel
theorem dX12_isBreach_43 : decode cX12_isBreach 43 = .ok (.aload_n 0, 1) := by decide +kernel
theorem dX12_isBreach_44 : decode cX12_isBreach 44 = .ok (.iload_n 1, 1) := by decide +kernel
theorem dX12_isBreach_45 : decode cX12_isBreach 45 = .ok (.iload_n 2, 1) := by decide +kernel
theorem dX12_isBreach_46 : decode cX12_isBreach 46 = .ok (.invokevirtual 180, 3) := by decide +kernel
theorem dX12_isBreach_49 : decode cX12_isBreach 49 = .ok (.invokevirtual 112, 3) := by decide +kernel
theorem dX12_isBreach_52 : decode cX12_isBreach 52 = .ok (.istore 4, 2) := by decide +kernel
theorem dX12_isBreach_54 : decode cX12_isBreach 54 = .ok (.iload_n 3, 1) := by decide +kernel
theorem dX12_isBreach_55 : decode cX12_isBreach 55 = .ok (.iconst 3, 1) := by decide +kernel
theorem dX12_isBreach_56 : decode cX12_isBreach 56 = .ok (.if_icmp .eq 8, 3) := by decide +kernel
theorem dX12_isBreach_59 : decode cX12_isBreach 59 = .ok (.iload 4, 2) := by decide +kernel
theorem dX12_isBreach_61 : decode cX12_isBreach 61 = .ok (.ifCond .ge 19, 3) := by decide +kernel
theorem dX12_isBreach_64 : decode cX12_isBreach 64 = .ok (.iload_n 3, 1) := by decide +kernel
theorem dX12_isBreach_65 : decode cX12_isBreach 65 = .ok (.iconst 3, 1) := by decide +kernel
theorem dX12_isBreach_66 : decode cX12_isBreach 66 = .ok (.if_icmp .ne 12, 3) := by decide +kernel
theorem dX12_isBreach_69 : decode cX12_isBreach 69 = .ok (.iload 4, 2) := by decide +kernel
theorem dX12_isBreach_71 : decode cX12_isBreach 71 = .ok (.ifCond .ge 7, 3) := by decide +kernel
theorem dX12_isBreach_74 : decode cX12_isBreach 74 = .ok (.iconst 1, 1) := by decide +kernel
theorem dX12_isBreach_75 : decode cX12_isBreach 75 = .ok (.goto 4, 3) := by decide +kernel
theorem dX12_isBreach_78 : decode cX12_isBreach 78 = .ok (.iconst 0, 1) := by decide +kernel
theorem dX12_isBreach_79 : decode cX12_isBreach 79 = .ok (.ireturn, 1) := by decide +kernel
theorem dX12_isBreach_80 : decode cX12_isBreach 80 = .ok (.aload_n 0, 1) := by decide +kernel
theorem dX12_isBreach_81 : decode cX12_isBreach 81 = .ok (.iload 4, 2) := by decide +kernel
theorem dX12_isBreach_83 : decode cX12_isBreach 83 = .ok (.aload_n 0, 1) := by decide +kernel
theorem dX12_isBreach_84 : decode cX12_isBreach 84 = .ok (.iload_n 1, 1) := by decide +kernel
theorem dX12_isBreach_85 : decode cX12_isBreach 85 = .ok (.iconst 0, 1) := by decide +kernel
theorem dX12_isBreach_86 : decode cX12_isBreach 86 = .ok (.invokevirtual 138, 3) := by decide +kernel
theorem dX12_isBreach_89 : decode cX12_isBreach 89 = .ok (.invokevirtual 257, 3) := by decide +kernel
theorem dX12_isBreach_92 : decode cX12_isBreach 92 = .ok (.istore 5, 2) := by decide +kernel
theorem dX12_isBreach_94 : decode cX12_isBreach 94 = .ok (.aload_n 0, 1) := by decide +kernel
theorem dX12_isBreach_95 : decode cX12_isBreach 95 = .ok (.iload 5, 2) := by decide +kernel
theorem dX12_isBreach_97 : decode cX12_isBreach 97 = .ok (.invokevirtual 306, 3) := by decide +kernel
theorem dX12_isBreach_100 : decode cX12_isBreach 100 = .ok (.iconst 3, 1) := by decide +kernel
theorem dX12_isBreach_101 : decode cX12_isBreach 101 = .ok (.if_icmp .lt 22, 3) := by decide +kernel
theorem dX12_isBreach_104 : decode cX12_isBreach 104 = .ok (.aload_n 0, 1) := by decide +kernel
theorem dX12_isBreach_105 : decode cX12_isBreach 105 = .ok (.iload 5, 2) := by decide +kernel
theorem dX12_isBreach_107 : decode cX12_isBreach 107 = .ok (.aload_n 0, 1) := by decide +kernel
theorem dX12_isBreach_108 : decode cX12_isBreach 108 = .ok (.iload_n 1, 1) := by decide +kernel
theorem dX12_isBreach_109 : decode cX12_isBreach 109 = .ok (.iload_n 2, 1) := by decide +kernel
theorem dX12_isBreach_110 : decode cX12_isBreach 110 = .ok (.invokevirtual 177, 3) := by decide +kernel
theorem dX12_isBreach_113 : decode cX12_isBreach 113 = .ok (.invokevirtual 309, 3) := by decide +kernel
theorem dX12_isBreach_116 : decode cX12_isBreach 116 = .ok (.ifCond .ne 7, 3) := by decide +kernel
theorem dX12_isBreach_119 : decode cX12_isBreach 119 = .ok (.iconst 1, 1) := by decide +kernel
theorem dX12_isBreach_120 : decode cX12_isBreach 120 = .ok (.goto 4, 3) := by decide +kernel
theorem dX12_isBreach_123 : decode cX12_isBreach 123 = .ok (.iconst 0, 1) := by decide +kernel
theorem dX12_isBreach_124 : decode cX12_isBreach 124 = .ok (.ireturn, 1) := by decide +kernel
theorem dX12_breachesTo_0 : decode cX12_breachesTo 0 = .ok (.iconst 0, 1) := by decide +kernel
theorem dX12_breachesTo_1 : decode cX12_breachesTo 1 = .ok (.istore_n 3, 1) := by decide +kernel
theorem dX12_breachesTo_2 : decode cX12_breachesTo 2 = .ok (.iconst 0, 1) := by decide +kernel
theorem dX12_breachesTo_3 : decode cX12_breachesTo 3 = .ok (.istore 4, 2) := by decide +kernel
theorem dX12_breachesTo_5 : decode cX12_breachesTo 5 = .ok (.iload 4, 2) := by decide +kernel
theorem dX12_breachesTo_7 : decode cX12_breachesTo 7 = .ok (.aload_n 0, 1) := by decide +kernel
theorem dX12_breachesTo_8 : decode cX12_breachesTo 8 = .ok (.getfield 9, 3) := by decide +kernel
theorem dX12_breachesTo_11 : decode cX12_breachesTo 11 = .ok (.bipush 6, 2) := by decide +kernel
theorem dX12_breachesTo_13 : decode cX12_breachesTo 13 = .ok (.iaload, 1) := by decide +kernel
theorem dX12_breachesTo_14 : decode cX12_breachesTo 14 = .ok (.if_icmp .ge 95, 3) := by decide +kernel
theorem dX12_breachesTo_17 : decode cX12_breachesTo 17 = .ok (.iconst 0, 1) := by decide +kernel
theorem dX12_breachesTo_18 : decode cX12_breachesTo 18 = .ok (.istore 5, 2) := by decide +kernel
theorem dX12_breachesTo_20 : decode cX12_breachesTo 20 = .ok (.iload 5, 2) := by decide +kernel
theorem dX12_breachesTo_22 : decode cX12_breachesTo 22 = .ok (.aload_n 0, 1) := by decide +kernel
theorem dX12_breachesTo_23 : decode cX12_breachesTo 23 = .ok (.iload 4, 2) := by decide +kernel
theorem dX12_breachesTo_25 : decode cX12_breachesTo 25 = .ok (.invokevirtual 141, 3) := by decide +kernel
theorem dX12_breachesTo_28 : decode cX12_breachesTo 28 = .ok (.if_icmp .ge 75, 3) := by decide +kernel
theorem dX12_breachesTo_31 : decode cX12_breachesTo 31 = .ok (.iconst 1, 1) := by decide +kernel
theorem dX12_breachesTo_32 : decode cX12_breachesTo 32 = .ok (.istore 6, 2) := by decide +kernel
theorem dX12_breachesTo_34 : decode cX12_breachesTo 34 = .ok (.iload 6, 2) := by decide +kernel
theorem dX12_breachesTo_36 : decode cX12_breachesTo 36 = .ok (.iconst 4, 1) := by decide +kernel
theorem dX12_breachesTo_37 : decode cX12_breachesTo 37 = .ok (.if_icmp .gt 60, 3) := by decide +kernel
theorem dX12_breachesTo_40 : decode cX12_breachesTo 40 = .ok (.iload_n 1, 1) := by decide +kernel
theorem dX12_breachesTo_41 : decode cX12_breachesTo 41 = .ok (.ifCond .eq 9, 3) := by decide +kernel
theorem dX12_breachesTo_44 : decode cX12_breachesTo 44 = .ok (.iload_n 1, 1) := by decide +kernel
theorem dX12_breachesTo_45 : decode cX12_breachesTo 45 = .ok (.iload 6, 2) := by decide +kernel
theorem dX12_breachesTo_47 : decode cX12_breachesTo 47 = .ok (.if_icmp .ne 44, 3) := by decide +kernel
theorem dX12_breachesTo_50 : decode cX12_breachesTo 50 = .ok (.aload_n 0, 1) := by decide +kernel
theorem dX12_breachesTo_51 : decode cX12_breachesTo 51 = .ok (.iload 4, 2) := by decide +kernel
theorem dX12_breachesTo_53 : decode cX12_breachesTo 53 = .ok (.iload 5, 2) := by decide +kernel
theorem dX12_breachesTo_55 : decode cX12_breachesTo 55 = .ok (.iload 6, 2) := by decide +kernel
theorem dX12_breachesTo_57 : decode cX12_breachesTo 57 = .ok (.invokevirtual 312, 3) := by decide +kernel
theorem dX12_breachesTo_60 : decode cX12_breachesTo 60 = .ok (.ifCond .eq 31, 3) := by decide +kernel
theorem dX12_breachesTo_63 : decode cX12_breachesTo 63 = .ok (.aload_n 0, 1) := by decide +kernel
theorem dX12_breachesTo_64 : decode cX12_breachesTo 64 = .ok (.iload 4, 2) := by decide +kernel
theorem dX12_breachesTo_66 : decode cX12_breachesTo 66 = .ok (.putfield 315, 3) := by decide +kernel
theorem dX12_breachesTo_69 : decode cX12_breachesTo 69 = .ok (.aload_n 0, 1) := by decide +kernel
theorem dX12_breachesTo_70 : decode cX12_breachesTo 70 = .ok (.iload 5, 2) := by decide +kernel
theorem dX12_breachesTo_72 : decode cX12_breachesTo 72 = .ok (.putfield 318, 3) := by decide +kernel
theorem dX12_breachesTo_75 : decode cX12_breachesTo 75 = .ok (.aload_n 0, 1) := by decide +kernel
theorem dX12_breachesTo_76 : decode cX12_breachesTo 76 = .ok (.iload 6, 2) := by decide +kernel
theorem dX12_breachesTo_78 : decode cX12_breachesTo 78 = .ok (.putfield 321, 3) := by decide +kernel
theorem dX12_breachesTo_81 : decode cX12_breachesTo 81 = .ok (.iload_n 3, 1) := by decide +kernel
theorem dX12_breachesTo_82 : decode cX12_breachesTo 82 = .ok (.iload_n 2, 1) := by decide +kernel
theorem dX12_breachesTo_83 : decode cX12_breachesTo 83 = .ok (.if_icmp .ne 5, 3) := by decide +kernel
theorem dX12_breachesTo_86 : decode cX12_breachesTo 86 = .ok (.iload_n 3, 1) := by decide +kernel
theorem dX12_breachesTo_87 : decode cX12_breachesTo 87 = .ok (.ireturn, 1) := by decide +kernel
theorem dX12_breachesTo_88 : decode cX12_breachesTo 88 = .ok (.iinc 3 1, 3) := by decide +kernel
theorem dX12_breachesTo_91 : decode cX12_breachesTo 91 = .ok (.iinc 6 1, 3) := by decide +kernel
theorem dX12_breachesTo_94 : decode cX12_breachesTo 94 = .ok (.goto (-60), 3) := by decide +kernel
theorem dX12_breachesTo_97 : decode cX12_breachesTo 97 = .ok (.iinc 5 1, 3) := by decide +kernel
theorem dX12_breachesTo_100 : decode cX12_breachesTo 100 = .ok (.goto (-80), 3) := by decide +kernel
theorem dX12_breachesTo_103 : decode cX12_breachesTo 103 = .ok (.iinc 4 1, 3) := by decide +kernel
theorem dX12_breachesTo_106 : decode cX12_breachesTo 106 = .ok (.goto (-101), 3) := by decide +kernel
theorem dX12_breachesTo_109 : decode cX12_breachesTo 109 = .ok (.iload_n 3, 1) := by decide +kernel
theorem dX12_breachesTo_110 : decode cX12_breachesTo 110 = .ok (.ireturn, 1) := by decide +kernel
theorem dX12_breaches_0 : decode cX12_breaches 0 = .ok (.iload_n 1, 1) := by decide +kernel
theorem dX12_breaches_1 : decode cX12_breaches 1 = .ok (.iconst 0, 1) := by decide +kernel
theorem dX12_breaches_2 : decode cX12_breaches 2 = .ok (.iconst 4, 1) := by decide +kernel
theorem dX12_breaches_3 : decode cX12_breaches 3 = .ok (.invokestatic 102, 3) := by decide +kernel
theorem dX12_breaches_6 : decode cX12_breaches 6 = .ok (.ifCond .eq 12, 3) := by decide +kernel
theorem dX12_breaches_9 : decode cX12_breaches 9 = .ok (.aload_n 0, 1) := by decide +kernel
theorem dX12_breaches_10 : decode cX12_breaches 10 = .ok (.iload_n 1, 1) := by decide +kernel
theorem dX12_breaches_11 : decode cX12_breaches 11 = .ok (.iconst (-1), 1) := by decide +kernel
theorem dX12_breaches_12 : decode cX12_breaches 12 = .ok (.invokevirtual 324, 3) := by decide +kernel
theorem dX12_breaches_15 : decode cX12_breaches 15 = .ok (.goto 5, 3) := by decide +kernel
theorem dX12_breaches_18 : decode cX12_breaches 18 = .ok (.ldc 111, 2) := by decide +kernel
theorem dX12_breaches_20 : decode cX12_breaches 20 = .ok (.ireturn, 1) := by decide +kernel
theorem dX12_breach_0 : decode cX12_breach 0 = .ok (.iload_n 2, 1) := by decide +kernel
theorem dX12_breach_1 : decode cX12_breach 1 = .ok (.iconst 0, 1) := by decide +kernel
theorem dX12_breach_2 : decode cX12_breach 2 = .ok (.iconst 2, 1) := by decide +kernel
theorem dX12_breach_3 : decode cX12_breach 3 = .ok (.invokestatic 102, 3) := by decide +kernel
theorem dX12_breach_6 : decode cX12_breach 6 = .ok (.ifCond .eq 7, 3) := by decide +kernel
theorem dX12_breach_9 : decode cX12_breach 9 = .ok (.iload_n 1, 1) := by decide +kernel
theorem dX12_breach_10 : decode cX12_breach 10 = .ok (.ifCond .ge 6, 3) := by decide +kernel
theorem dX12_breach_13 : decode cX12_breach 13 = .ok (.ldc 111, 2) := by decide +kernel
theorem dX12_breach_15 : decode cX12_breach 15 = .ok (.ireturn, 1) := by decide +kernel
theorem dX12_breach_16 : decode cX12_breach 16 = .ok (.iload_n 1, 1) := by decide +kernel
theorem dX12_breach_17 : decode cX12_breach 17 = .ok (.aload_n 0, 1) := by decide +kernel
theorem dX12_breach_18 : decode cX12_breach 18 = .ok (.iconst 0, 1) := by decide +kernel
theorem dX12_breach_19 : decode cX12_breach 19 = .ok (.iconst (-1), 1) := by decide +kernel
theorem dX12_breach_20 : decode cX12_breach 20 = .ok (.invokevirtual 324, 3) := by decide +kernel
theorem dX12_breach_23 : decode cX12_breach 23 = .ok (.if_icmp .lt 6, 3) := by decide +kernel
theorem dX12_breach_26 : decode cX12_breach 26 = .ok (.ldc 137, 2) := by decide +kernel
theorem dX12_breach_28 : decode cX12_breach 28 = .ok (.ireturn, 1) := by decide +kernel
theorem dX12_breach_29 : decode cX12_breach 29 = .ok (.aload_n 0, 1) := by decide +kernel
theorem dX12_breach_30 : decode cX12_breach 30 = .ok (.iconst 0, 1) := by decide +kernel
theorem dX12_breach_31 : decode cX12_breach 31 = .ok (.iload_n 1, 1) := by decide +kernel
theorem dX12_breach_32 : decode cX12_breach 32 = .ok (.invokevirtual 324, 3) := by decide +kernel
theorem dX12_breach_35 : decode cX12_breach 35 = .ok (.istore_n 3, 1) := by decide +kernel
theorem dX12_breach_36 : decode cX12_breach 36 = .ok (.iload_n 2, 1) := by decide +kernel
theorem dX12_breach_37 : decode cX12_breach 37 = .ok (.ifCond .ne 10, 3) := by decide +kernel
theorem dX12_breach_40 : decode cX12_breach 40 = .ok (.aload_n 0, 1) := by decide +kernel
theorem dX12_breach_41 : decode cX12_breach 41 = .ok (.getfield 315, 3) := by decide +kernel
theorem dX12_breach_44 : decode cX12_breach 44 = .ok (.goto 19, 3) := by decide +kernel
theorem dX12_breach_47 : decode cX12_breach 47 = .ok (.iload_n 2, 1) := by decide +kernel
theorem dX12_breach_48 : decode cX12_breach 48 = .ok (.iconst 1, 1) := by decide +kernel
theorem dX12_breach_49 : decode cX12_breach 49 = .ok (.if_icmp .ne 10, 3) := by decide +kernel
theorem dX12_breach_52 : decode cX12_breach 52 = .ok (.aload_n 0, 1) := by decide +kernel
theorem dX12_breach_53 : decode cX12_breach 53 = .ok (.getfield 318, 3) := by decide +kernel
theorem dX12_breach_56 : decode cX12_breach 56 = .ok (.goto 7, 3) := by decide +kernel
theorem dX12_breach_59 : decode cX12_breach 59 = .ok (.aload_n 0, 1) := by decide +kernel
theorem dX12_breach_60 : decode cX12_breach 60 = .ok (.getfield 321, 3) := by decide +kernel
theorem dX12_breach_63 : decode cX12_breach 63 = .ok (.ireturn, 1) := by decide +kernel
theorem dX12_findAll_0 : decode cX12_findAll 0 = .ok (.iconst 0, 1) := by decide +kernel
theorem dX12_findAll_1 : decode cX12_findAll 1 = .ok (.istore_n 1, 1) := by decide +kernel
theorem dX12_findAll_2 : decode cX12_findAll 2 = .ok (.iload_n 1, 1) := by decide +kernel
theorem dX12_findAll_3 : decode cX12_findAll 3 = .ok (.aload_n 0, 1) := by decide +kernel
theorem dX12_findAll_4 : decode cX12_findAll 4 = .ok (.getfield 9, 3) := by decide +kernel
theorem dX12_findAll_7 : decode cX12_findAll 7 = .ok (.iconst 5, 1) := by decide +kernel
theorem dX12_findAll_8 : decode cX12_findAll 8 = .ok (.iaload, 1) := by decide +kernel
theorem dX12_findAll_9 : decode cX12_findAll 9 = .ok (.if_icmp .ge 65, 3) := by decide +kernel
theorem dX12_findAll_12 : decode cX12_findAll 12 = .ok (.aload_n 0, 1) := by decide +kernel
theorem dX12_findAll_13 : decode cX12_findAll 13 = .ok (.iload_n 1, 1) := by decide +kernel
theorem dX12_findAll_14 : decode cX12_findAll 14 = .ok (.invokevirtual 266, 3) := by decide +kernel
theorem dX12_findAll_17 : decode cX12_findAll 17 = .ok (.iconst 0, 1) := by decide +kernel
theorem dX12_findAll_18 : decode cX12_findAll 18 = .ok (.istore_n 2, 1) := by decide +kernel
theorem dX12_findAll_19 : decode cX12_findAll 19 = .ok (.iload_n 2, 1) := by decide +kernel
theorem dX12_findAll_20 : decode cX12_findAll 20 = .ok (.aload_n 0, 1) := by decide +kernel
theorem dX12_findAll_21 : decode cX12_findAll 21 = .ok (.getfield 9, 3) := by decide +kernel
theorem dX12_findAll_24 : decode cX12_findAll 24 = .ok (.iconst 3, 1) := by decide +kernel
theorem dX12_findAll_25 : decode cX12_findAll 25 = .ok (.iaload, 1) := by decide +kernel
theorem dX12_findAll_26 : decode cX12_findAll 26 = .ok (.if_icmp .ge 42, 3) := by decide +kernel
theorem dX12_findAll_29 : decode cX12_findAll 29 = .ok (.aload_n 0, 1) := by decide +kernel
theorem dX12_findAll_30 : decode cX12_findAll 30 = .ok (.getfield 66, 3) := by decide +kernel
theorem dX12_findAll_33 : decode cX12_findAll 33 = .ok (.bipush 12, 2) := by decide +kernel
theorem dX12_findAll_35 : decode cX12_findAll 35 = .ok (.iload_n 1, 1) := by decide +kernel
theorem dX12_findAll_36 : decode cX12_findAll 36 = .ok (.imul, 1) := by decide +kernel
theorem dX12_findAll_37 : decode cX12_findAll 37 = .ok (.iload_n 2, 1) := by decide +kernel
theorem dX12_findAll_38 : decode cX12_findAll 38 = .ok (.iadd, 1) := by decide +kernel
theorem dX12_findAll_39 : decode cX12_findAll 39 = .ok (.aload_n 0, 1) := by decide +kernel
theorem dX12_findAll_40 : decode cX12_findAll 40 = .ok (.getfield 54, 3) := by decide +kernel
theorem dX12_findAll_43 : decode cX12_findAll 43 = .ok (.iload_n 2, 1) := by decide +kernel
theorem dX12_findAll_44 : decode cX12_findAll 44 = .ok (.iaload, 1) := by decide +kernel
theorem dX12_findAll_45 : decode cX12_findAll 45 = .ok (.iastore, 1) := by decide +kernel
theorem dX12_findAll_46 : decode cX12_findAll 46 = .ok (.aload_n 0, 1) := by decide +kernel
theorem dX12_findAll_47 : decode cX12_findAll 47 = .ok (.getfield 69, 3) := by decide +kernel
theorem dX12_findAll_50 : decode cX12_findAll 50 = .ok (.bipush 12, 2) := by decide +kernel
theorem dX12_findAll_52 : decode cX12_findAll 52 = .ok (.iload_n 1, 1) := by decide +kernel
theorem dX12_findAll_53 : decode cX12_findAll 53 = .ok (.imul, 1) := by decide +kernel
theorem dX12_findAll_54 : decode cX12_findAll 54 = .ok (.iload_n 2, 1) := by decide +kernel
theorem dX12_findAll_55 : decode cX12_findAll 55 = .ok (.iadd, 1) := by decide +kernel
theorem dX12_findAll_56 : decode cX12_findAll 56 = .ok (.aload_n 0, 1) := by decide +kernel
theorem dX12_findAll_57 : decode cX12_findAll 57 = .ok (.iload_n 2, 1) := by decide +kernel
theorem dX12_findAll_58 : decode cX12_findAll 58 = .ok (.invokevirtual 269, 3) := by decide +kernel
theorem dX12_findAll_61 : decode cX12_findAll 61 = .ok (.iastore, 1) := by decide +kernel
theorem dX12_findAll_62 : decode cX12_findAll 62 = .ok (.iinc 2 1, 3) := by decide +kernel
theorem dX12_findAll_65 : decode cX12_findAll 65 = .ok (.goto (-46), 3) := by decide +kernel
theorem dX12_findAll_68 : decode cX12_findAll 68 = .ok (.iinc 1 1, 3) := by decide +kernel
theorem dX12_findAll_71 : decode cX12_findAll 71 = .ok (.goto (-69), 3) := by decide +kernel
theorem dX12_findAll_74 : decode cX12_findAll 74 = .ok (.return_, 1) := by decide +kernel
theorem dX12_needs_0 : decode cX12_needs 0 = .ok (.aload_n 0, 1) := by decide +kernel
theorem dX12_needs_1 : decode cX12_needs 1 = .ok (.iload_n 1, 1) := by decide +kernel
theorem dX12_needs_2 : decode cX12_needs 2 = .ok (.invokevirtual 107, 3) := by decide +kernel
theorem dX12_needs_5 : decode cX12_needs 5 = .ok (.ifCond .eq 10, 3) := by decide +kernel
theorem dX12_needs_8 : decode cX12_needs 8 = .ok (.iload_n 2, 1) := by decide +kernel
theorem dX12_needs_9 : decode cX12_needs 9 = .ok (.invokestatic 260, 3) := by decide +kernel
theorem dX12_needs_12 : decode cX12_needs 12 = .ok (.ifCond .ne 6, 3) := by decide +kernel
theorem dX12_needs_15 : decode cX12_needs 15 = .ok (.ldc 111, 2) := by decide +kernel
theorem dX12_needs_17 : decode cX12_needs 17 = .ok (.ireturn, 1) := by decide +kernel
theorem dX12_needs_18 : decode cX12_needs 18 = .ok (.aload_n 0, 1) := by decide +kernel
theorem dX12_needs_19 : decode cX12_needs 19 = .ok (.iload_n 2, 1) := by decide +kernel
theorem dX12_needs_20 : decode cX12_needs 20 = .ok (.invokevirtual 263, 3) := by decide +kernel
theorem dX12_needs_23 : decode cX12_needs 23 = .ok (.iconst 0, 1) := by decide +kernel
theorem dX12_needs_24 : decode cX12_needs 24 = .ok (.istore_n 3, 1) := by decide +kernel
theorem dX12_needs_25 : decode cX12_needs 25 = .ok (.iconst 0, 1) := by decide +kernel
theorem dX12_needs_26 : decode cX12_needs 26 = .ok (.istore 4, 2) := by decide +kernel
theorem dX12_needs_28 : decode cX12_needs 28 = .ok (.iload 4, 2) := by decide +kernel
theorem dX12_needs_30 : decode cX12_needs 30 = .ok (.aload_n 0, 1) := by decide +kernel
theorem dX12_needs_31 : decode cX12_needs 31 = .ok (.getfield 9, 3) := by decide +kernel
theorem dX12_needs_34 : decode cX12_needs 34 = .ok (.iconst 5, 1) := by decide +kernel
theorem dX12_needs_35 : decode cX12_needs 35 = .ok (.iaload, 1) := by decide +kernel
theorem dX12_needs_36 : decode cX12_needs 36 = .ok (.if_icmp .ge 54, 3) := by decide +kernel
theorem dX12_needs_39 : decode cX12_needs 39 = .ok (.aload_n 0, 1) := by decide +kernel
theorem dX12_needs_40 : decode cX12_needs 40 = .ok (.iload 4, 2) := by decide +kernel
theorem dX12_needs_42 : decode cX12_needs 42 = .ok (.invokevirtual 266, 3) := by decide +kernel
theorem dX12_needs_45 : decode cX12_needs 45 = .ok (.aload_n 0, 1) := by decide +kernel
theorem dX12_needs_46 : decode cX12_needs 46 = .ok (.getfield 72, 3) := by decide +kernel
theorem dX12_needs_49 : decode cX12_needs 49 = .ok (.iload 4, 2) := by decide +kernel
theorem dX12_needs_51 : decode cX12_needs 51 = .ok (.aload_n 0, 1) := by decide +kernel
theorem dX12_needs_52 : decode cX12_needs 52 = .ok (.iload_n 1, 1) := by decide +kernel
theorem dX12_needs_53 : decode cX12_needs 53 = .ok (.invokevirtual 269, 3) := by decide +kernel
theorem dX12_needs_56 : decode cX12_needs 56 = .ok (.iastore, 1) := by decide +kernel
theorem dX12_needs_57 : decode cX12_needs 57 = .ok (.iload_n 3, 1) := by decide +kernel
theorem dX12_needs_58 : decode cX12_needs 58 = .ok (.aload_n 0, 1) := by decide +kernel
theorem dX12_needs_59 : decode cX12_needs 59 = .ok (.getfield 72, 3) := by decide +kernel
theorem dX12_needs_62 : decode cX12_needs 62 = .ok (.iload 4, 2) := by decide +kernel
theorem dX12_needs_64 : decode cX12_needs 64 = .ok (.iaload, 1) := by decide +kernel
theorem dX12_needs_65 : decode cX12_needs 65 = .ok (.ifCond .lt 16, 3) := by decide +kernel
theorem dX12_needs_68 : decode cX12_needs 68 = .ok (.aload_n 0, 1) := by decide +kernel
theorem dX12_needs_69 : decode cX12_needs 69 = .ok (.iload 4, 2) := by decide +kernel
theorem dX12_needs_71 : decode cX12_needs 71 = .ok (.invokevirtual 134, 3) := by decide +kernel
theorem dX12_needs_74 : decode cX12_needs 74 = .ok (.ifCond .ge 7, 3) := by decide +kernel
theorem dX12_needs_77 : decode cX12_needs 77 = .ok (.iconst 1, 1) := by decide +kernel
theorem dX12_needs_78 : decode cX12_needs 78 = .ok (.goto 4, 3) := by decide +kernel
theorem dX12_needs_81 : decode cX12_needs 81 = .ok (.iconst 0, 1) := by decide +kernel
theorem dX12_needs_82 : decode cX12_needs 82 = .ok (.iadd, 1) := by decide +kernel
theorem dX12_needs_83 : decode cX12_needs 83 = .ok (.istore_n 3, 1) := by decide +kernel
theorem dX12_needs_84 : decode cX12_needs 84 = .ok (.iinc 4 1, 3) := by decide +kernel
theorem dX12_needs_87 : decode cX12_needs 87 = .ok (.goto (-59), 3) := by decide +kernel
theorem dX12_needs_90 : decode cX12_needs 90 = .ok (.iconst 0, 1) := by decide +kernel
theorem dX12_needs_91 : decode cX12_needs 91 = .ok (.istore 4, 2) := by decide +kernel
theorem dX12_needs_93 : decode cX12_needs 93 = .ok (.iload 4, 2) := by decide +kernel
theorem dX12_needs_95 : decode cX12_needs 95 = .ok (.iconst 4, 1) := by decide +kernel
theorem dX12_needs_96 : decode cX12_needs 96 = .ok (.if_icmp .ge 124, 3) := by decide +kernel
theorem dX12_needs_99 : decode cX12_needs 99 = .ok (.iconst 0, 1) := by decide +kernel
theorem dX12_needs_100 : decode cX12_needs 100 = .ok (.istore 5, 2) := by decide +kernel
theorem dX12_needs_102 : decode cX12_needs 102 = .ok (.iconst (-1), 1) := by decide +kernel
theorem dX12_needs_103 : decode cX12_needs 103 = .ok (.istore 6, 2) := by decide +kernel
theorem dX12_needs_105 : decode cX12_needs 105 = .ok (.iconst 1, 1) := by decide +kernel
theorem dX12_needs_106 : decode cX12_needs 106 = .ok (.istore 7, 2) := by decide +kernel
theorem dX12_needs_108 : decode cX12_needs 108 = .ok (.iconst 0, 1) := by decide +kernel
theorem dX12_needs_109 : decode cX12_needs 109 = .ok (.istore 8, 2) := by decide +kernel
theorem dX12_needs_111 : decode cX12_needs 111 = .ok (.iload 8, 2) := by decide +kernel
theorem dX12_needs_113 : decode cX12_needs 113 = .ok (.aload_n 0, 1) := by decide +kernel
theorem dX12_needs_114 : decode cX12_needs 114 = .ok (.getfield 9, 3) := by decide +kernel
theorem dX12_needs_117 : decode cX12_needs 117 = .ok (.iconst 5, 1) := by decide +kernel
theorem dX12_needs_118 : decode cX12_needs 118 = .ok (.iaload, 1) := by decide +kernel
theorem dX12_needs_119 : decode cX12_needs 119 = .ok (.if_icmp .ge 76, 3) := by decide +kernel
theorem dX12_needs_122 : decode cX12_needs 122 = .ok (.aload_n 0, 1) := by decide +kernel
theorem dX12_needs_123 : decode cX12_needs 123 = .ok (.iload 8, 2) := by decide +kernel
theorem dX12_needs_125 : decode cX12_needs 125 = .ok (.invokevirtual 134, 3) := by decide +kernel
theorem dX12_needs_128 : decode cX12_needs 128 = .ok (.iload 4, 2) := by decide +kernel
theorem dX12_needs_130 : decode cX12_needs 130 = .ok (.if_icmp .ne 59, 3) := by decide +kernel
theorem dX12_needs_133 : decode cX12_needs 133 = .ok (.aload_n 0, 1) := by decide +kernel
theorem dX12_needs_134 : decode cX12_needs 134 = .ok (.getfield 72, 3) := by decide +kernel
theorem dX12_needs_137 : decode cX12_needs 137 = .ok (.iload 8, 2) := by decide +kernel
theorem dX12_needs_139 : decode cX12_needs 139 = .ok (.iaload, 1) := by decide +kernel
theorem dX12_needs_140 : decode cX12_needs 140 = .ok (.ifCond .lt 49, 3) := by decide +kernel
theorem dX12_needs_143 : decode cX12_needs 143 = .ok (.iload 5, 2) := by decide +kernel
theorem dX12_needs_145 : decode cX12_needs 145 = .ok (.ifCond .ne 13, 3) := by decide +kernel
theorem dX12_needs_148 : decode cX12_needs 148 = .ok (.aload_n 0, 1) := by decide +kernel
theorem dX12_needs_149 : decode cX12_needs 149 = .ok (.getfield 72, 3) := by decide +kernel
theorem dX12_needs_152 : decode cX12_needs 152 = .ok (.iload 8, 2) := by decide +kernel
theorem dX12_needs_154 : decode cX12_needs 154 = .ok (.iaload, 1) := by decide +kernel
theorem dX12_needs_155 : decode cX12_needs 155 = .ok (.goto 5, 3) := by decide +kernel
theorem dX12_needs_158 : decode cX12_needs 158 = .ok (.iload 6, 2) := by decide +kernel
theorem dX12_needs_160 : decode cX12_needs 160 = .ok (.istore 6, 2) := by decide +kernel
theorem dX12_needs_162 : decode cX12_needs 162 = .ok (.iload 7, 2) := by decide +kernel
theorem dX12_needs_164 : decode cX12_needs 164 = .ok (.ifCond .eq 19, 3) := by decide +kernel
theorem dX12_needs_167 : decode cX12_needs 167 = .ok (.aload_n 0, 1) := by decide +kernel
theorem dX12_needs_168 : decode cX12_needs 168 = .ok (.getfield 72, 3) := by decide +kernel
theorem dX12_needs_171 : decode cX12_needs 171 = .ok (.iload 8, 2) := by decide +kernel
theorem dX12_needs_173 : decode cX12_needs 173 = .ok (.iaload, 1) := by decide +kernel
theorem dX12_needs_174 : decode cX12_needs 174 = .ok (.iload 6, 2) := by decide +kernel
theorem dX12_needs_176 : decode cX12_needs 176 = .ok (.if_icmp .ne 7, 3) := by decide +kernel
theorem dX12_needs_179 : decode cX12_needs 179 = .ok (.iconst 1, 1) := by decide +kernel
theorem dX12_needs_180 : decode cX12_needs 180 = .ok (.goto 4, 3) := by decide +kernel
theorem dX12_needs_183 : decode cX12_needs 183 = .ok (.iconst 0, 1) := by decide +kernel
theorem dX12_needs_184 : decode cX12_needs 184 = .ok (.istore 7, 2) := by decide +kernel
theorem dX12_needs_186 : decode cX12_needs 186 = .ok (.iinc 5 1, 3) := by decide +kernel
theorem dX12_needs_189 : decode cX12_needs 189 = .ok (.iinc 8 1, 3) := by decide +kernel
theorem dX12_needs_192 : decode cX12_needs 192 = .ok (.goto (-81), 3) := by decide +kernel
theorem dX12_needs_195 : decode cX12_needs 195 = .ok (.iload_n 3, 1) := by decide +kernel
theorem dX12_needs_196 : decode cX12_needs 196 = .ok (.iload 7, 2) := by decide +kernel
theorem dX12_needs_198 : decode cX12_needs 198 = .ok (.ifCond .eq 12, 3) := by decide +kernel
theorem dX12_needs_201 : decode cX12_needs 201 = .ok (.iload 5, 2) := by decide +kernel
theorem dX12_needs_203 : decode cX12_needs 203 = .ok (.ifCond .le 7, 3) := by decide +kernel
theorem dX12_needs_206 : decode cX12_needs 206 = .ok (.iconst 1, 1) := by decide +kernel
theorem dX12_needs_207 : decode cX12_needs 207 = .ok (.goto 5, 3) := by decide +kernel
theorem dX12_needs_210 : decode cX12_needs 210 = .ok (.iload 5, 2) := by decide +kernel
theorem dX12_needs_212 : decode cX12_needs 212 = .ok (.iadd, 1) := by decide +kernel
theorem dX12_needs_213 : decode cX12_needs 213 = .ok (.istore_n 3, 1) := by decide +kernel
theorem dX12_needs_214 : decode cX12_needs 214 = .ok (.iinc 4 1, 3) := by decide +kernel
theorem dX12_needs_217 : decode cX12_needs 217 = .ok (.goto (-124), 3) := by decide +kernel
theorem dX12_needs_220 : decode cX12_needs 220 = .ok (.iload_n 3, 1) := by decide +kernel
theorem dX12_needs_221 : decode cX12_needs 221 = .ok (.ireturn, 1) := by decide +kernel
theorem dX12_rightAt_0 : decode cX12_rightAt 0 = .ok (.iconst (-1), 1) := by decide +kernel
theorem dX12_rightAt_1 : decode cX12_rightAt 1 = .ok (.istore_n 3, 1) := by decide +kernel
theorem dX12_rightAt_2 : decode cX12_rightAt 2 = .ok (.ldc 253, 2) := by decide +kernel
theorem dX12_rightAt_4 : decode cX12_rightAt 4 = .ok (.istore 4, 2) := by decide +kernel
theorem dX12_rightAt_6 : decode cX12_rightAt 6 = .ok (.iconst 0, 1) := by decide +kernel
theorem dX12_rightAt_7 : decode cX12_rightAt 7 = .ok (.istore 5, 2) := by decide +kernel
theorem dX12_rightAt_9 : decode cX12_rightAt 9 = .ok (.iload 5, 2) := by decide +kernel
theorem dX12_rightAt_11 : decode cX12_rightAt 11 = .ok (.aload_n 0, 1) := by decide +kernel
theorem dX12_rightAt_12 : decode cX12_rightAt 12 = .ok (.getfield 9, 3) := by decide +kernel
theorem dX12_rightAt_15 : decode cX12_rightAt 15 = .ok (.iconst 5, 1) := by decide +kernel
theorem dX12_rightAt_16 : decode cX12_rightAt 16 = .ok (.iaload, 1) := by decide +kernel
theorem dX12_rightAt_17 : decode cX12_rightAt 17 = .ok (.if_icmp .ge 87, 3) := by decide +kernel
theorem dX12_rightAt_20 : decode cX12_rightAt 20 = .ok (.iload 5, 2) := by decide +kernel
theorem dX12_rightAt_22 : decode cX12_rightAt 22 = .ok (.iload_n 2, 1) := by decide +kernel
theorem dX12_rightAt_23 : decode cX12_rightAt 23 = .ok (.if_icmp .eq 22, 3) := by decide +kernel
theorem dX12_rightAt_26 : decode cX12_rightAt 26 = .ok (.iload_n 2, 1) := by decide +kernel
theorem dX12_rightAt_27 : decode cX12_rightAt 27 = .ok (.bipush 10, 2) := by decide +kernel
theorem dX12_rightAt_29 : decode cX12_rightAt 29 = .ok (.if_icmp .lt 69, 3) := by decide +kernel
theorem dX12_rightAt_32 : decode cX12_rightAt 32 = .ok (.aload_n 0, 1) := by decide +kernel
theorem dX12_rightAt_33 : decode cX12_rightAt 33 = .ok (.iload 5, 2) := by decide +kernel
theorem dX12_rightAt_35 : decode cX12_rightAt 35 = .ok (.invokevirtual 134, 3) := by decide +kernel
theorem dX12_rightAt_38 : decode cX12_rightAt 38 = .ok (.iload_n 2, 1) := by decide +kernel
theorem dX12_rightAt_39 : decode cX12_rightAt 39 = .ok (.bipush 10, 2) := by decide +kernel
theorem dX12_rightAt_41 : decode cX12_rightAt 41 = .ok (.isub, 1) := by decide +kernel
theorem dX12_rightAt_42 : decode cX12_rightAt 42 = .ok (.if_icmp .ne 56, 3) := by decide +kernel
theorem dX12_rightAt_45 : decode cX12_rightAt 45 = .ok (.aload_n 0, 1) := by decide +kernel
theorem dX12_rightAt_46 : decode cX12_rightAt 46 = .ok (.getfield 69, 3) := by decide +kernel
theorem dX12_rightAt_49 : decode cX12_rightAt 49 = .ok (.bipush 12, 2) := by decide +kernel
theorem dX12_rightAt_51 : decode cX12_rightAt 51 = .ok (.iload 5, 2) := by decide +kernel
theorem dX12_rightAt_53 : decode cX12_rightAt 53 = .ok (.imul, 1) := by decide +kernel
theorem dX12_rightAt_54 : decode cX12_rightAt 54 = .ok (.iload_n 1, 1) := by decide +kernel
theorem dX12_rightAt_55 : decode cX12_rightAt 55 = .ok (.iadd, 1) := by decide +kernel
theorem dX12_rightAt_56 : decode cX12_rightAt 56 = .ok (.iaload, 1) := by decide +kernel
theorem dX12_rightAt_57 : decode cX12_rightAt 57 = .ok (.istore 6, 2) := by decide +kernel
theorem dX12_rightAt_59 : decode cX12_rightAt 59 = .ok (.iload 6, 2) := by decide +kernel
theorem dX12_rightAt_61 : decode cX12_rightAt 61 = .ok (.ifCond .lt 37, 3) := by decide +kernel
theorem dX12_rightAt_64 : decode cX12_rightAt 64 = .ok (.aload_n 0, 1) := by decide +kernel
theorem dX12_rightAt_65 : decode cX12_rightAt 65 = .ok (.getfield 66, 3) := by decide +kernel
theorem dX12_rightAt_68 : decode cX12_rightAt 68 = .ok (.bipush 12, 2) := by decide +kernel
theorem dX12_rightAt_70 : decode cX12_rightAt 70 = .ok (.iload 5, 2) := by decide +kernel
theorem dX12_rightAt_72 : decode cX12_rightAt 72 = .ok (.imul, 1) := by decide +kernel
theorem dX12_rightAt_73 : decode cX12_rightAt 73 = .ok (.iload_n 1, 1) := by decide +kernel
theorem dX12_rightAt_74 : decode cX12_rightAt 74 = .ok (.iadd, 1) := by decide +kernel
theorem dX12_rightAt_75 : decode cX12_rightAt 75 = .ok (.iaload, 1) := by decide +kernel
theorem dX12_rightAt_76 : decode cX12_rightAt 76 = .ok (.iload 4, 2) := by decide +kernel
theorem dX12_rightAt_78 : decode cX12_rightAt 78 = .ok (.if_icmp .ge 20, 3) := by decide +kernel
theorem dX12_rightAt_81 : decode cX12_rightAt 81 = .ok (.iload 6, 2) := by decide +kernel
theorem dX12_rightAt_83 : decode cX12_rightAt 83 = .ok (.istore_n 3, 1) := by decide +kernel
theorem dX12_rightAt_84 : decode cX12_rightAt 84 = .ok (.aload_n 0, 1) := by decide +kernel
theorem dX12_rightAt_85 : decode cX12_rightAt 85 = .ok (.getfield 66, 3) := by decide +kernel
theorem dX12_rightAt_88 : decode cX12_rightAt 88 = .ok (.bipush 12, 2) := by decide +kernel
theorem dX12_rightAt_90 : decode cX12_rightAt 90 = .ok (.iload 5, 2) := by decide +kernel
theorem dX12_rightAt_92 : decode cX12_rightAt 92 = .ok (.imul, 1) := by decide +kernel
theorem dX12_rightAt_93 : decode cX12_rightAt 93 = .ok (.iload_n 1, 1) := by decide +kernel
theorem dX12_rightAt_94 : decode cX12_rightAt 94 = .ok (.iadd, 1) := by decide +kernel
theorem dX12_rightAt_95 : decode cX12_rightAt 95 = .ok (.iaload, 1) := by decide +kernel
theorem dX12_rightAt_96 : decode cX12_rightAt 96 = .ok (.istore 4, 2) := by decide +kernel
theorem dX12_rightAt_98 : decode cX12_rightAt 98 = .ok (.iinc 5 1, 3) := by decide +kernel
theorem dX12_rightAt_101 : decode cX12_rightAt 101 = .ok (.goto (-92), 3) := by decide +kernel
theorem dX12_rightAt_104 : decode cX12_rightAt 104 = .ok (.iload_n 3, 1) := by decide +kernel
theorem dX12_rightAt_105 : decode cX12_rightAt 105 = .ok (.ireturn, 1) := by decide +kernel
theorem dX12_wrongRows_0 : decode cX12_wrongRows 0 = .ok (.aload_n 0, 1) := by decide +kernel
theorem dX12_wrongRows_1 : decode cX12_wrongRows 1 = .ok (.iload_n 1, 1) := by decide +kernel
theorem dX12_wrongRows_2 : decode cX12_wrongRows 2 = .ok (.invokevirtual 263, 3) := by decide +kernel
theorem dX12_wrongRows_5 : decode cX12_wrongRows 5 = .ok (.aload_n 0, 1) := by decide +kernel
theorem dX12_wrongRows_6 : decode cX12_wrongRows 6 = .ok (.invokevirtual 327, 3) := by decide +kernel
theorem dX12_wrongRows_9 : decode cX12_wrongRows 9 = .ok (.iconst 0, 1) := by decide +kernel
theorem dX12_wrongRows_10 : decode cX12_wrongRows 10 = .ok (.istore_n 3, 1) := by decide +kernel
theorem dX12_wrongRows_11 : decode cX12_wrongRows 11 = .ok (.iconst 0, 1) := by decide +kernel
theorem dX12_wrongRows_12 : decode cX12_wrongRows 12 = .ok (.istore 4, 2) := by decide +kernel
theorem dX12_wrongRows_14 : decode cX12_wrongRows 14 = .ok (.iload 4, 2) := by decide +kernel
theorem dX12_wrongRows_16 : decode cX12_wrongRows 16 = .ok (.aload_n 0, 1) := by decide +kernel
theorem dX12_wrongRows_17 : decode cX12_wrongRows 17 = .ok (.getfield 9, 3) := by decide +kernel
theorem dX12_wrongRows_20 : decode cX12_wrongRows 20 = .ok (.bipush 6, 2) := by decide +kernel
theorem dX12_wrongRows_22 : decode cX12_wrongRows 22 = .ok (.iaload, 1) := by decide +kernel
theorem dX12_wrongRows_23 : decode cX12_wrongRows 23 = .ok (.if_icmp .ge 93, 3) := by decide +kernel
theorem dX12_wrongRows_26 : decode cX12_wrongRows 26 = .ok (.iconst 0, 1) := by decide +kernel
theorem dX12_wrongRows_27 : decode cX12_wrongRows 27 = .ok (.istore 5, 2) := by decide +kernel
theorem dX12_wrongRows_29 : decode cX12_wrongRows 29 = .ok (.iload 5, 2) := by decide +kernel
theorem dX12_wrongRows_31 : decode cX12_wrongRows 31 = .ok (.aload_n 0, 1) := by decide +kernel
theorem dX12_wrongRows_32 : decode cX12_wrongRows 32 = .ok (.iload 4, 2) := by decide +kernel
theorem dX12_wrongRows_34 : decode cX12_wrongRows 34 = .ok (.invokevirtual 141, 3) := by decide +kernel
theorem dX12_wrongRows_37 : decode cX12_wrongRows 37 = .ok (.if_icmp .ge 73, 3) := by decide +kernel
theorem dX12_wrongRows_40 : decode cX12_wrongRows 40 = .ok (.aload_n 0, 1) := by decide +kernel
theorem dX12_wrongRows_41 : decode cX12_wrongRows 41 = .ok (.aload_n 0, 1) := by decide +kernel
theorem dX12_wrongRows_42 : decode cX12_wrongRows 42 = .ok (.iload 4, 2) := by decide +kernel
theorem dX12_wrongRows_44 : decode cX12_wrongRows 44 = .ok (.iconst 0, 1) := by decide +kernel
theorem dX12_wrongRows_45 : decode cX12_wrongRows 45 = .ok (.invokevirtual 138, 3) := by decide +kernel
theorem dX12_wrongRows_48 : decode cX12_wrongRows 48 = .ok (.aload_n 0, 1) := by decide +kernel
theorem dX12_wrongRows_49 : decode cX12_wrongRows 49 = .ok (.iload 4, 2) := by decide +kernel
theorem dX12_wrongRows_51 : decode cX12_wrongRows 51 = .ok (.iload 5, 2) := by decide +kernel
theorem dX12_wrongRows_53 : decode cX12_wrongRows 53 = .ok (.invokevirtual 177, 3) := by decide +kernel
theorem dX12_wrongRows_56 : decode cX12_wrongRows 56 = .ok (.invokevirtual 330, 3) := by decide +kernel
theorem dX12_wrongRows_59 : decode cX12_wrongRows 59 = .ok (.istore 6, 2) := by decide +kernel
theorem dX12_wrongRows_61 : decode cX12_wrongRows 61 = .ok (.iload 6, 2) := by decide +kernel
theorem dX12_wrongRows_63 : decode cX12_wrongRows 63 = .ok (.ifCond .lt 41, 3) := by decide +kernel
theorem dX12_wrongRows_66 : decode cX12_wrongRows 66 = .ok (.iload 6, 2) := by decide +kernel
theorem dX12_wrongRows_68 : decode cX12_wrongRows 68 = .ok (.aload_n 0, 1) := by decide +kernel
theorem dX12_wrongRows_69 : decode cX12_wrongRows 69 = .ok (.iload 4, 2) := by decide +kernel
theorem dX12_wrongRows_71 : decode cX12_wrongRows 71 = .ok (.iload 5, 2) := by decide +kernel
theorem dX12_wrongRows_73 : decode cX12_wrongRows 73 = .ok (.invokevirtual 180, 3) := by decide +kernel
theorem dX12_wrongRows_76 : decode cX12_wrongRows 76 = .ok (.if_icmp .eq 28, 3) := by decide +kernel
theorem dX12_wrongRows_79 : decode cX12_wrongRows 79 = .ok (.iinc 3 1, 3) := by decide +kernel
theorem dX12_wrongRows_82 : decode cX12_wrongRows 82 = .ok (.iload_n 2, 1) := by decide +kernel
theorem dX12_wrongRows_83 : decode cX12_wrongRows 83 = .ok (.ifCond .eq 21, 3) := by decide +kernel
theorem dX12_wrongRows_86 : decode cX12_wrongRows 86 = .ok (.aload_n 0, 1) := by decide +kernel
theorem dX12_wrongRows_87 : decode cX12_wrongRows 87 = .ok (.iload 4, 2) := by decide +kernel
theorem dX12_wrongRows_89 : decode cX12_wrongRows 89 = .ok (.iload 5, 2) := by decide +kernel
theorem dX12_wrongRows_91 : decode cX12_wrongRows 91 = .ok (.aload_n 0, 1) := by decide +kernel
theorem dX12_wrongRows_92 : decode cX12_wrongRows 92 = .ok (.iload 4, 2) := by decide +kernel
theorem dX12_wrongRows_94 : decode cX12_wrongRows 94 = .ok (.iload 5, 2) := by decide +kernel
theorem dX12_wrongRows_96 : decode cX12_wrongRows 96 = .ok (.invokevirtual 177, 3) := by decide +kernel
theorem dX12_wrongRows_99 : decode cX12_wrongRows 99 = .ok (.iload 6, 2) := by decide +kernel
theorem dX12_wrongRows_101 : decode cX12_wrongRows 101 = .ok (.invokevirtual 173, 3) := by decide +kernel
theorem dX12_wrongRows_104 : decode cX12_wrongRows 104 = .ok (.iinc 5 1, 3) := by decide +kernel
theorem dX12_wrongRows_107 : decode cX12_wrongRows 107 = .ok (.goto (-78), 3) := by decide +kernel
theorem dX12_wrongRows_110 : decode cX12_wrongRows 110 = .ok (.iinc 4 1, 3) := by decide +kernel
theorem dX12_wrongRows_113 : decode cX12_wrongRows 113 = .ok (.goto (-99), 3) := by decide +kernel
theorem dX12_wrongRows_116 : decode cX12_wrongRows 116 = .ok (.iload_n 3, 1) := by decide +kernel
theorem dX12_wrongRows_117 : decode cX12_wrongRows 117 = .ok (.ireturn, 1) := by decide +kernel
theorem dX12_wrong_0 : decode cX12_wrong 0 = .ok (.iload_n 1, 1) := by decide +kernel
theorem dX12_wrong_1 : decode cX12_wrong 1 = .ok (.invokestatic 260, 3) := by decide +kernel
theorem dX12_wrong_4 : decode cX12_wrong 4 = .ok (.ifCond .eq 12, 3) := by decide +kernel
theorem dX12_wrong_7 : decode cX12_wrong 7 = .ok (.aload_n 0, 1) := by decide +kernel
theorem dX12_wrong_8 : decode cX12_wrong 8 = .ok (.iload_n 1, 1) := by decide +kernel
theorem dX12_wrong_9 : decode cX12_wrong 9 = .ok (.iconst 0, 1) := by decide +kernel
theorem dX12_wrong_10 : decode cX12_wrong 10 = .ok (.invokevirtual 333, 3) := by decide +kernel
theorem dX12_wrong_13 : decode cX12_wrong 13 = .ok (.goto 5, 3) := by decide +kernel
theorem dX12_wrong_16 : decode cX12_wrong 16 = .ok (.ldc 111, 2) := by decide +kernel
theorem dX12_wrong_18 : decode cX12_wrong 18 = .ok (.ireturn, 1) := by decide +kernel
theorem dX12_mend_0 : decode cX12_mend 0 = .ok (.iload_n 1, 1) := by decide +kernel
theorem dX12_mend_1 : decode cX12_mend 1 = .ok (.invokestatic 260, 3) := by decide +kernel
theorem dX12_mend_4 : decode cX12_mend 4 = .ok (.ifCond .ne 6, 3) := by decide +kernel
theorem dX12_mend_7 : decode cX12_mend 7 = .ok (.ldc 111, 2) := by decide +kernel
theorem dX12_mend_9 : decode cX12_mend 9 = .ok (.ireturn, 1) := by decide +kernel
theorem dX12_mend_10 : decode cX12_mend 10 = .ok (.aload_n 0, 1) := by decide +kernel
theorem dX12_mend_11 : decode cX12_mend 11 = .ok (.invokevirtual 170, 3) := by decide +kernel
theorem dX12_mend_14 : decode cX12_mend 14 = .ok (.aload_n 0, 1) := by decide +kernel
theorem dX12_mend_15 : decode cX12_mend 15 = .ok (.iload_n 1, 1) := by decide +kernel
theorem dX12_mend_16 : decode cX12_mend 16 = .ok (.iconst 1, 1) := by decide +kernel
theorem dX12_mend_17 : decode cX12_mend 17 = .ok (.invokevirtual 333, 3) := by decide +kernel
theorem dX12_mend_20 : decode cX12_mend 20 = .ok (.ireturn, 1) := by decide +kernel
theorem dX12_choose_0 : decode cX12_choose 0 = .ok (.aload_n 0, 1) := by decide +kernel
theorem dX12_choose_1 : decode cX12_choose 1 = .ok (.iload_n 1, 1) := by decide +kernel
theorem dX12_choose_2 : decode cX12_choose 2 = .ok (.invokevirtual 107, 3) := by decide +kernel
theorem dX12_choose_5 : decode cX12_choose 5 = .ok (.ifCond .ne 6, 3) := by decide +kernel
theorem dX12_choose_8 : decode cX12_choose 8 = .ok (.ldc 111, 2) := by decide +kernel
theorem dX12_choose_10 : decode cX12_choose 10 = .ok (.ireturn, 1) := by decide +kernel
theorem dX12_choose_11 : decode cX12_choose 11 = .ok (.iconst 0, 1) := by decide +kernel
theorem dX12_choose_12 : decode cX12_choose 12 = .ok (.istore_n 2, 1) := by decide +kernel
theorem dX12_choose_13 : decode cX12_choose 13 = .ok (.iload_n 2, 1) := by decide +kernel
theorem dX12_choose_14 : decode cX12_choose 14 = .ok (.aload_n 0, 1) := by decide +kernel
theorem dX12_choose_15 : decode cX12_choose 15 = .ok (.getfield 9, 3) := by decide +kernel
theorem dX12_choose_18 : decode cX12_choose 18 = .ok (.bipush 7, 2) := by decide +kernel
theorem dX12_choose_20 : decode cX12_choose 20 = .ok (.iaload, 1) := by decide +kernel
theorem dX12_choose_21 : decode cX12_choose 21 = .ok (.if_icmp .ge 25, 3) := by decide +kernel
theorem dX12_choose_24 : decode cX12_choose 24 = .ok (.aload_n 0, 1) := by decide +kernel
theorem dX12_choose_25 : decode cX12_choose 25 = .ok (.getfield 9, 3) := by decide +kernel
theorem dX12_choose_28 : decode cX12_choose 28 = .ok (.bipush 9, 2) := by decide +kernel
theorem dX12_choose_30 : decode cX12_choose 30 = .ok (.iload_n 2, 1) := by decide +kernel
theorem dX12_choose_31 : decode cX12_choose 31 = .ok (.iadd, 1) := by decide +kernel
theorem dX12_choose_32 : decode cX12_choose 32 = .ok (.iaload, 1) := by decide +kernel
theorem dX12_choose_33 : decode cX12_choose 33 = .ok (.iload_n 1, 1) := by decide +kernel
theorem dX12_choose_34 : decode cX12_choose 34 = .ok (.if_icmp .ne 6, 3) := by decide +kernel
theorem dX12_choose_37 : decode cX12_choose 37 = .ok (.ldc 116, 2) := by decide +kernel
theorem dX12_choose_39 : decode cX12_choose 39 = .ok (.ireturn, 1) := by decide +kernel
theorem dX12_choose_40 : decode cX12_choose 40 = .ok (.iinc 2 1, 3) := by decide +kernel
theorem dX12_choose_43 : decode cX12_choose 43 = .ok (.goto (-30), 3) := by decide +kernel
theorem dX12_choose_46 : decode cX12_choose 46 = .ok (.aload_n 0, 1) := by decide +kernel
theorem dX12_choose_47 : decode cX12_choose 47 = .ok (.getfield 9, 3) := by decide +kernel
theorem dX12_choose_50 : decode cX12_choose 50 = .ok (.bipush 7, 2) := by decide +kernel
theorem dX12_choose_52 : decode cX12_choose 52 = .ok (.iaload, 1) := by decide +kernel
theorem dX12_choose_53 : decode cX12_choose 53 = .ok (.bipush 6, 2) := by decide +kernel
theorem dX12_choose_55 : decode cX12_choose 55 = .ok (.if_icmp .ne 6, 3) := by decide +kernel
theorem dX12_choose_58 : decode cX12_choose 58 = .ok (.ldc 106, 2) := by decide +kernel
theorem dX12_choose_60 : decode cX12_choose 60 = .ok (.ireturn, 1) := by decide +kernel
theorem dX12_choose_61 : decode cX12_choose 61 = .ok (.aload_n 0, 1) := by decide +kernel
theorem dX12_choose_62 : decode cX12_choose 62 = .ok (.getfield 9, 3) := by decide +kernel
theorem dX12_choose_65 : decode cX12_choose 65 = .ok (.bipush 9, 2) := by decide +kernel
theorem dX12_choose_67 : decode cX12_choose 67 = .ok (.aload_n 0, 1) := by decide +kernel
theorem dX12_choose_68 : decode cX12_choose 68 = .ok (.getfield 9, 3) := by decide +kernel
theorem dX12_choose_71 : decode cX12_choose 71 = .ok (.bipush 7, 2) := by decide +kernel
theorem dX12_choose_73 : decode cX12_choose 73 = .ok (.iaload, 1) := by decide +kernel
theorem dX12_choose_74 : decode cX12_choose 74 = .ok (.iadd, 1) := by decide +kernel
theorem dX12_choose_75 : decode cX12_choose 75 = .ok (.iload_n 1, 1) := by decide +kernel
theorem dX12_choose_76 : decode cX12_choose 76 = .ok (.iastore, 1) := by decide +kernel
theorem dX12_choose_77 : decode cX12_choose 77 = .ok (.aload_n 0, 1) := by decide +kernel
theorem dX12_choose_78 : decode cX12_choose 78 = .ok (.getfield 9, 3) := by decide +kernel
theorem dX12_choose_81 : decode cX12_choose 81 = .ok (.bipush 7, 2) := by decide +kernel
theorem dX12_choose_83 : decode cX12_choose 83 = .ok (.dup2, 1) := by decide +kernel
theorem dX12_choose_84 : decode cX12_choose 84 = .ok (.iaload, 1) := by decide +kernel
theorem dX12_choose_85 : decode cX12_choose 85 = .ok (.iconst 1, 1) := by decide +kernel
theorem dX12_choose_86 : decode cX12_choose 86 = .ok (.iadd, 1) := by decide +kernel
theorem dX12_choose_87 : decode cX12_choose 87 = .ok (.iastore, 1) := by decide +kernel
theorem dX12_choose_88 : decode cX12_choose 88 = .ok (.aload_n 0, 1) := by decide +kernel
theorem dX12_choose_89 : decode cX12_choose 89 = .ok (.getfield 9, 3) := by decide +kernel
theorem dX12_choose_92 : decode cX12_choose 92 = .ok (.bipush 7, 2) := by decide +kernel
theorem dX12_choose_94 : decode cX12_choose 94 = .ok (.iaload, 1) := by decide +kernel
theorem dX12_choose_95 : decode cX12_choose 95 = .ok (.ireturn, 1) := by decide +kernel
theorem dX12_clear_0 : decode cX12_clear 0 = .ok (.aload_n 0, 1) := by decide +kernel
theorem dX12_clear_1 : decode cX12_clear 1 = .ok (.getfield 9, 3) := by decide +kernel
theorem dX12_clear_4 : decode cX12_clear 4 = .ok (.bipush 7, 2) := by decide +kernel
theorem dX12_clear_6 : decode cX12_clear 6 = .ok (.iaload, 1) := by decide +kernel
theorem dX12_clear_7 : decode cX12_clear 7 = .ok (.istore_n 1, 1) := by decide +kernel
theorem dX12_clear_8 : decode cX12_clear 8 = .ok (.aload_n 0, 1) := by decide +kernel
theorem dX12_clear_9 : decode cX12_clear 9 = .ok (.getfield 9, 3) := by decide +kernel
theorem dX12_clear_12 : decode cX12_clear 12 = .ok (.bipush 7, 2) := by decide +kernel
theorem dX12_clear_14 : decode cX12_clear 14 = .ok (.iconst 0, 1) := by decide +kernel
theorem dX12_clear_15 : decode cX12_clear 15 = .ok (.iastore, 1) := by decide +kernel
theorem dX12_clear_16 : decode cX12_clear 16 = .ok (.iload_n 1, 1) := by decide +kernel
theorem dX12_clear_17 : decode cX12_clear 17 = .ok (.ireturn, 1) := by decide +kernel
theorem dX12_ones_0 : decode cX12_ones 0 = .ok (.iconst 0, 1) := by decide +kernel
theorem dX12_ones_1 : decode cX12_ones 1 = .ok (.istore_n 1, 1) := by decide +kernel
theorem dX12_ones_2 : decode cX12_ones 2 = .ok (.iconst 0, 1) := by decide +kernel
theorem dX12_ones_3 : decode cX12_ones 3 = .ok (.istore_n 2, 1) := by decide +kernel
theorem dX12_ones_4 : decode cX12_ones 4 = .ok (.iload_n 2, 1) := by decide +kernel
theorem dX12_ones_5 : decode cX12_ones 5 = .ok (.bipush 6, 2) := by decide +kernel
theorem dX12_ones_7 : decode cX12_ones 7 = .ok (.if_icmp .ge 17, 3) := by decide +kernel
theorem dX12_ones_10 : decode cX12_ones 10 = .ok (.iload_n 1, 1) := by decide +kernel
theorem dX12_ones_11 : decode cX12_ones 11 = .ok (.iload_n 0, 1) := by decide +kernel
theorem dX12_ones_12 : decode cX12_ones 12 = .ok (.iload_n 2, 1) := by decide +kernel
theorem dX12_ones_13 : decode cX12_ones 13 = .ok (.ishr, 1) := by decide +kernel
theorem dX12_ones_14 : decode cX12_ones 14 = .ok (.iconst 1, 1) := by decide +kernel
theorem dX12_ones_15 : decode cX12_ones 15 = .ok (.iand, 1) := by decide +kernel
theorem dX12_ones_16 : decode cX12_ones 16 = .ok (.iadd, 1) := by decide +kernel
theorem dX12_ones_17 : decode cX12_ones 17 = .ok (.istore_n 1, 1) := by decide +kernel
theorem dX12_ones_18 : decode cX12_ones 18 = .ok (.iinc 2 1, 3) := by decide +kernel
theorem dX12_ones_21 : decode cX12_ones 21 = .ok (.goto (-17), 3) := by decide +kernel
theorem dX12_ones_24 : decode cX12_ones 24 = .ok (.iload_n 1, 1) := by decide +kernel
theorem dX12_ones_25 : decode cX12_ones 25 = .ok (.ireturn, 1) := by decide +kernel
theorem dX12_allArrive_0 : decode cX12_allArrive 0 = .ok (.aload_n 0, 1) := by decide +kernel
theorem dX12_allArrive_1 : decode cX12_allArrive 1 = .ok (.iconst 0, 1) := by decide +kernel
theorem dX12_allArrive_2 : decode cX12_allArrive 2 = .ok (.putfield 275, 3) := by decide +kernel
theorem dX12_allArrive_5 : decode cX12_allArrive 5 = .ok (.iconst 0, 1) := by decide +kernel
theorem dX12_allArrive_6 : decode cX12_allArrive 6 = .ok (.istore_n 3, 1) := by decide +kernel
theorem dX12_allArrive_7 : decode cX12_allArrive 7 = .ok (.iload_n 3, 1) := by decide +kernel
theorem dX12_allArrive_8 : decode cX12_allArrive 8 = .ok (.aload_n 0, 1) := by decide +kernel
theorem dX12_allArrive_9 : decode cX12_allArrive 9 = .ok (.getfield 9, 3) := by decide +kernel
theorem dX12_allArrive_12 : decode cX12_allArrive 12 = .ok (.bipush 7, 2) := by decide +kernel
theorem dX12_allArrive_14 : decode cX12_allArrive 14 = .ok (.iaload, 1) := by decide +kernel
theorem dX12_allArrive_15 : decode cX12_allArrive 15 = .ok (.if_icmp .ge 42, 3) := by decide +kernel
theorem dX12_allArrive_18 : decode cX12_allArrive 18 = .ok (.aload_n 0, 1) := by decide +kernel
theorem dX12_allArrive_19 : decode cX12_allArrive 19 = .ok (.dup, 1) := by decide +kernel
theorem dX12_allArrive_20 : decode cX12_allArrive 20 = .ok (.getfield 275, 3) := by decide +kernel
theorem dX12_allArrive_23 : decode cX12_allArrive 23 = .ok (.iload_n 2, 1) := by decide +kernel
theorem dX12_allArrive_24 : decode cX12_allArrive 24 = .ok (.iload_n 3, 1) := by decide +kernel
theorem dX12_allArrive_25 : decode cX12_allArrive 25 = .ok (.ishr, 1) := by decide +kernel
theorem dX12_allArrive_26 : decode cX12_allArrive 26 = .ok (.iconst 1, 1) := by decide +kernel
theorem dX12_allArrive_27 : decode cX12_allArrive 27 = .ok (.iand, 1) := by decide +kernel
theorem dX12_allArrive_28 : decode cX12_allArrive 28 = .ok (.iconst 1, 1) := by decide +kernel
theorem dX12_allArrive_29 : decode cX12_allArrive 29 = .ok (.if_icmp .ne 17, 3) := by decide +kernel
theorem dX12_allArrive_32 : decode cX12_allArrive 32 = .ok (.iconst 1, 1) := by decide +kernel
theorem dX12_allArrive_33 : decode cX12_allArrive 33 = .ok (.aload_n 0, 1) := by decide +kernel
theorem dX12_allArrive_34 : decode cX12_allArrive 34 = .ok (.getfield 9, 3) := by decide +kernel
theorem dX12_allArrive_37 : decode cX12_allArrive 37 = .ok (.bipush 9, 2) := by decide +kernel
theorem dX12_allArrive_39 : decode cX12_allArrive 39 = .ok (.iload_n 3, 1) := by decide +kernel
theorem dX12_allArrive_40 : decode cX12_allArrive 40 = .ok (.iadd, 1) := by decide +kernel
theorem dX12_allArrive_41 : decode cX12_allArrive 41 = .ok (.iaload, 1) := by decide +kernel
theorem dX12_allArrive_42 : decode cX12_allArrive 42 = .ok (.ishl, 1) := by decide +kernel
theorem dX12_allArrive_43 : decode cX12_allArrive 43 = .ok (.goto 4, 3) := by decide +kernel
theorem dX12_allArrive_46 : decode cX12_allArrive 46 = .ok (.iconst 0, 1) := by decide +kernel
theorem dX12_allArrive_47 : decode cX12_allArrive 47 = .ok (.ior, 1) := by decide +kernel
theorem dX12_allArrive_48 : decode cX12_allArrive 48 = .ok (.putfield 275, 3) := by decide +kernel
theorem dX12_allArrive_51 : decode cX12_allArrive 51 = .ok (.iinc 3 1, 3) := by decide +kernel
theorem dX12_allArrive_54 : decode cX12_allArrive 54 = .ok (.goto (-47), 3) := by decide +kernel
theorem dX12_allArrive_57 : decode cX12_allArrive 57 = .ok (.iconst 0, 1) := by decide +kernel
theorem dX12_allArrive_58 : decode cX12_allArrive 58 = .ok (.istore_n 3, 1) := by decide +kernel
theorem dX12_allArrive_59 : decode cX12_allArrive 59 = .ok (.iload_n 3, 1) := by decide +kernel
theorem dX12_allArrive_60 : decode cX12_allArrive 60 = .ok (.aload_n 0, 1) := by decide +kernel
theorem dX12_allArrive_61 : decode cX12_allArrive 61 = .ok (.getfield 9, 3) := by decide +kernel
theorem dX12_allArrive_64 : decode cX12_allArrive 64 = .ok (.iconst 3, 1) := by decide +kernel
theorem dX12_allArrive_65 : decode cX12_allArrive 65 = .ok (.iaload, 1) := by decide +kernel
theorem dX12_allArrive_66 : decode cX12_allArrive 66 = .ok (.if_icmp .ge 34, 3) := by decide +kernel
theorem dX12_allArrive_69 : decode cX12_allArrive 69 = .ok (.aload_n 0, 1) := by decide +kernel
theorem dX12_allArrive_70 : decode cX12_allArrive 70 = .ok (.getfield 63, 3) := by decide +kernel
theorem dX12_allArrive_73 : decode cX12_allArrive 73 = .ok (.iload_n 3, 1) := by decide +kernel
theorem dX12_allArrive_74 : decode cX12_allArrive 74 = .ok (.iaload, 1) := by decide +kernel
theorem dX12_allArrive_75 : decode cX12_allArrive 75 = .ok (.ifCond .lt 19, 3) := by decide +kernel
theorem dX12_allArrive_78 : decode cX12_allArrive 78 = .ok (.aload_n 0, 1) := by decide +kernel
theorem dX12_allArrive_79 : decode cX12_allArrive 79 = .ok (.iload_n 3, 1) := by decide +kernel
theorem dX12_allArrive_80 : decode cX12_allArrive 80 = .ok (.iload_n 1, 1) := by decide +kernel
theorem dX12_allArrive_81 : decode cX12_allArrive 81 = .ok (.invokevirtual 299, 3) := by decide +kernel
theorem dX12_allArrive_84 : decode cX12_allArrive 84 = .ok (.aload_n 0, 1) := by decide +kernel
theorem dX12_allArrive_85 : decode cX12_allArrive 85 = .ok (.getfield 284, 3) := by decide +kernel
theorem dX12_allArrive_88 : decode cX12_allArrive 88 = .ok (.iconst 1, 1) := by decide +kernel
theorem dX12_allArrive_89 : decode cX12_allArrive 89 = .ok (.if_icmp .eq 5, 3) := by decide +kernel
theorem dX12_allArrive_92 : decode cX12_allArrive 92 = .ok (.iconst 0, 1) := by decide +kernel
theorem dX12_allArrive_93 : decode cX12_allArrive 93 = .ok (.ireturn, 1) := by decide +kernel
theorem dX12_allArrive_94 : decode cX12_allArrive 94 = .ok (.iinc 3 1, 3) := by decide +kernel
theorem dX12_allArrive_97 : decode cX12_allArrive 97 = .ok (.goto (-38), 3) := by decide +kernel
theorem dX12_allArrive_100 : decode cX12_allArrive 100 = .ok (.iconst 1, 1) := by decide +kernel
theorem dX12_allArrive_101 : decode cX12_allArrive 101 = .ok (.ireturn, 1) := by decide +kernel
theorem dX12_fewest_0 : decode cX12_fewest 0 = .ok (.aload_n 0, 1) := by decide +kernel
theorem dX12_fewest_1 : decode cX12_fewest 1 = .ok (.iload_n 1, 1) := by decide +kernel
theorem dX12_fewest_2 : decode cX12_fewest 2 = .ok (.invokevirtual 128, 3) := by decide +kernel
theorem dX12_fewest_5 : decode cX12_fewest 5 = .ok (.ifCond .eq 10, 3) := by decide +kernel
theorem dX12_fewest_8 : decode cX12_fewest 8 = .ok (.iload_n 2, 1) := by decide +kernel
theorem dX12_fewest_9 : decode cX12_fewest 9 = .ok (.invokestatic 260, 3) := by decide +kernel
theorem dX12_fewest_12 : decode cX12_fewest 12 = .ok (.ifCond .ne 6, 3) := by decide +kernel
theorem dX12_fewest_15 : decode cX12_fewest 15 = .ok (.ldc 111, 2) := by decide +kernel
theorem dX12_fewest_17 : decode cX12_fewest 17 = .ok (.ireturn, 1) := by decide +kernel
theorem dX12_fewest_18 : decode cX12_fewest 18 = .ok (.aload_n 0, 1) := by decide +kernel
theorem dX12_fewest_19 : decode cX12_fewest 19 = .ok (.iload_n 2, 1) := by decide +kernel
theorem dX12_fewest_20 : decode cX12_fewest 20 = .ok (.invokevirtual 263, 3) := by decide +kernel
theorem dX12_fewest_23 : decode cX12_fewest 23 = .ok (.aload_n 0, 1) := by decide +kernel
theorem dX12_fewest_24 : decode cX12_fewest 24 = .ok (.iload_n 1, 1) := by decide +kernel
theorem dX12_fewest_25 : decode cX12_fewest 25 = .ok (.invokevirtual 266, 3) := by decide +kernel
theorem dX12_fewest_28 : decode cX12_fewest 28 = .ok (.iconst 0, 1) := by decide +kernel
theorem dX12_fewest_29 : decode cX12_fewest 29 = .ok (.istore_n 3, 1) := by decide +kernel
theorem dX12_fewest_30 : decode cX12_fewest 30 = .ok (.iload_n 3, 1) := by decide +kernel
theorem dX12_fewest_31 : decode cX12_fewest 31 = .ok (.bipush 12, 2) := by decide +kernel
theorem dX12_fewest_33 : decode cX12_fewest 33 = .ok (.if_icmp .ge 34, 3) := by decide +kernel
theorem dX12_fewest_36 : decode cX12_fewest 36 = .ok (.aload_n 0, 1) := by decide +kernel
theorem dX12_fewest_37 : decode cX12_fewest 37 = .ok (.getfield 63, 3) := by decide +kernel
theorem dX12_fewest_40 : decode cX12_fewest 40 = .ok (.iload_n 3, 1) := by decide +kernel
theorem dX12_fewest_41 : decode cX12_fewest 41 = .ok (.iload_n 3, 1) := by decide +kernel
theorem dX12_fewest_42 : decode cX12_fewest 42 = .ok (.aload_n 0, 1) := by decide +kernel
theorem dX12_fewest_43 : decode cX12_fewest 43 = .ok (.getfield 9, 3) := by decide +kernel
theorem dX12_fewest_46 : decode cX12_fewest 46 = .ok (.iconst 3, 1) := by decide +kernel
theorem dX12_fewest_47 : decode cX12_fewest 47 = .ok (.iaload, 1) := by decide +kernel
theorem dX12_fewest_48 : decode cX12_fewest 48 = .ok (.if_icmp .ge 11, 3) := by decide +kernel
theorem dX12_fewest_51 : decode cX12_fewest 51 = .ok (.aload_n 0, 1) := by decide +kernel
theorem dX12_fewest_52 : decode cX12_fewest 52 = .ok (.iload_n 3, 1) := by decide +kernel
theorem dX12_fewest_53 : decode cX12_fewest 53 = .ok (.invokevirtual 269, 3) := by decide +kernel
theorem dX12_fewest_56 : decode cX12_fewest 56 = .ok (.goto 4, 3) := by decide +kernel
theorem dX12_fewest_59 : decode cX12_fewest 59 = .ok (.iconst (-1), 1) := by decide +kernel
theorem dX12_fewest_60 : decode cX12_fewest 60 = .ok (.iastore, 1) := by decide +kernel
theorem dX12_fewest_61 : decode cX12_fewest 61 = .ok (.iinc 3 1, 3) := by decide +kernel
theorem dX12_fewest_64 : decode cX12_fewest 64 = .ok (.goto (-34), 3) := by decide +kernel
theorem dX12_fewest_67 : decode cX12_fewest 67 = .ok (.iconst (-1), 1) := by decide +kernel
theorem dX12_fewest_68 : decode cX12_fewest 68 = .ok (.istore_n 3, 1) := by decide +kernel
theorem dX12_fewest_69 : decode cX12_fewest 69 = .ok (.iconst 0, 1) := by decide +kernel
theorem dX12_fewest_70 : decode cX12_fewest 70 = .ok (.istore 4, 2) := by decide +kernel
theorem dX12_fewest_72 : decode cX12_fewest 72 = .ok (.iload 4, 2) := by decide +kernel
theorem dX12_fewest_74 : decode cX12_fewest 74 = .ok (.iconst 1, 1) := by decide +kernel
theorem dX12_fewest_75 : decode cX12_fewest 75 = .ok (.aload_n 0, 1) := by decide +kernel
theorem dX12_fewest_76 : decode cX12_fewest 76 = .ok (.getfield 9, 3) := by decide +kernel
theorem dX12_fewest_79 : decode cX12_fewest 79 = .ok (.bipush 7, 2) := by decide +kernel
theorem dX12_fewest_81 : decode cX12_fewest 81 = .ok (.iaload, 1) := by decide +kernel
theorem dX12_fewest_82 : decode cX12_fewest 82 = .ok (.ishl, 1) := by decide +kernel
theorem dX12_fewest_83 : decode cX12_fewest 83 = .ok (.if_icmp .ge 38, 3) := by decide +kernel
theorem dX12_fewest_86 : decode cX12_fewest 86 = .ok (.iload_n 3, 1) := by decide +kernel
theorem dX12_fewest_87 : decode cX12_fewest 87 = .ok (.ifCond .lt 15, 3) := by decide +kernel
theorem dX12_fewest_90 : decode cX12_fewest 90 = .ok (.iload 4, 2) := by decide +kernel
theorem dX12_fewest_92 : decode cX12_fewest 92 = .ok (.invokestatic 337, 3) := by decide +kernel
theorem dX12_fewest_95 : decode cX12_fewest 95 = .ok (.iload_n 3, 1) := by decide +kernel
theorem dX12_fewest_96 : decode cX12_fewest 96 = .ok (.invokestatic 337, 3) := by decide +kernel
theorem dX12_fewest_99 : decode cX12_fewest 99 = .ok (.if_icmp .ge 16, 3) := by decide +kernel
theorem dX12_fewest_102 : decode cX12_fewest 102 = .ok (.aload_n 0, 1) := by decide +kernel
theorem dX12_fewest_103 : decode cX12_fewest 103 = .ok (.iload_n 1, 1) := by decide +kernel
theorem dX12_fewest_104 : decode cX12_fewest 104 = .ok (.iload 4, 2) := by decide +kernel
theorem dX12_fewest_106 : decode cX12_fewest 106 = .ok (.invokevirtual 340, 3) := by decide +kernel
theorem dX12_fewest_109 : decode cX12_fewest 109 = .ok (.ifCond .eq 6, 3) := by decide +kernel
theorem dX12_fewest_112 : decode cX12_fewest 112 = .ok (.iload 4, 2) := by decide +kernel
theorem dX12_fewest_114 : decode cX12_fewest 114 = .ok (.istore_n 3, 1) := by decide +kernel
theorem dX12_fewest_115 : decode cX12_fewest 115 = .ok (.iinc 4 1, 3) := by decide +kernel
theorem dX12_fewest_118 : decode cX12_fewest 118 = .ok (.goto (-46), 3) := by decide +kernel
theorem dX12_fewest_121 : decode cX12_fewest 121 = .ok (.iload_n 3, 1) := by decide +kernel
theorem dX12_fewest_122 : decode cX12_fewest 122 = .ok (.ifCond .ge 8, 3) := by decide +kernel
theorem dX12_fewest_125 : decode cX12_fewest 125 = .ok (.ldc 137, 2) := by decide +kernel
theorem dX12_fewest_127 : decode cX12_fewest 127 = .ok (.goto 4, 3) := by decide +kernel
theorem dX12_fewest_130 : decode cX12_fewest 130 = .ok (.iload_n 3, 1) := by decide +kernel
theorem dX12_fewest_131 : decode cX12_fewest 131 = .ok (.ireturn, 1) := by decide +kernel
theorem dX12_seed_0 : decode cX12_seed 0 = .ok (.aload_n 0, 1) := by decide +kernel
theorem dX12_seed_1 : decode cX12_seed 1 = .ok (.getfield 9, 3) := by decide +kernel
theorem dX12_seed_4 : decode cX12_seed 4 = .ok (.iconst 0, 1) := by decide +kernel
theorem dX12_seed_5 : decode cX12_seed 5 = .ok (.iaload, 1) := by decide +kernel
theorem dX12_seed_6 : decode cX12_seed 6 = .ok (.istore_n 2, 1) := by decide +kernel
theorem dX12_seed_7 : decode cX12_seed 7 = .ok (.aload_n 0, 1) := by decide +kernel
theorem dX12_seed_8 : decode cX12_seed 8 = .ok (.getfield 9, 3) := by decide +kernel
theorem dX12_seed_11 : decode cX12_seed 11 = .ok (.iconst 0, 1) := by decide +kernel
theorem dX12_seed_12 : decode cX12_seed 12 = .ok (.iload_n 1, 1) := by decide +kernel
theorem dX12_seed_13 : decode cX12_seed 13 = .ok (.iastore, 1) := by decide +kernel
theorem dX12_seed_14 : decode cX12_seed 14 = .ok (.iload_n 2, 1) := by decide +kernel
theorem dX12_seed_15 : decode cX12_seed 15 = .ok (.ireturn, 1) := by decide +kernel
theorem dX12_draw_0 : decode cX12_draw 0 = .ok (.aload_n 0, 1) := by decide +kernel
theorem dX12_draw_1 : decode cX12_draw 1 = .ok (.getfield 9, 3) := by decide +kernel
theorem dX12_draw_4 : decode cX12_draw 4 = .ok (.iconst 0, 1) := by decide +kernel
theorem dX12_draw_5 : decode cX12_draw 5 = .ok (.aload_n 0, 1) := by decide +kernel
theorem dX12_draw_6 : decode cX12_draw 6 = .ok (.getfield 9, 3) := by decide +kernel
theorem dX12_draw_9 : decode cX12_draw 9 = .ok (.iconst 0, 1) := by decide +kernel
theorem dX12_draw_10 : decode cX12_draw 10 = .ok (.iaload, 1) := by decide +kernel
theorem dX12_draw_11 : decode cX12_draw 11 = .ok (.ldc_w 343, 3) := by decide +kernel
theorem dX12_draw_14 : decode cX12_draw 14 = .ok (.imul, 1) := by decide +kernel
theorem dX12_draw_15 : decode cX12_draw 15 = .ok (.sipush 12345, 3) := by decide +kernel
theorem dX12_draw_18 : decode cX12_draw 18 = .ok (.iadd, 1) := by decide +kernel
theorem dX12_draw_19 : decode cX12_draw 19 = .ok (.iastore, 1) := by decide +kernel
theorem dX12_draw_20 : decode cX12_draw 20 = .ok (.aload_n 0, 1) := by decide +kernel
theorem dX12_draw_21 : decode cX12_draw 21 = .ok (.getfield 9, 3) := by decide +kernel
theorem dX12_draw_24 : decode cX12_draw 24 = .ok (.iconst 0, 1) := by decide +kernel
theorem dX12_draw_25 : decode cX12_draw 25 = .ok (.iaload, 1) := by decide +kernel
theorem dX12_draw_26 : decode cX12_draw 26 = .ok (.bipush 8, 2) := by decide +kernel
theorem dX12_draw_28 : decode cX12_draw 28 = .ok (.iushr, 1) := by decide +kernel
theorem dX12_draw_29 : decode cX12_draw 29 = .ok (.ireturn, 1) := by decide +kernel
theorem dX12_aStranger_0 : decode cX12_aStranger 0 = .ok (.aload_n 0, 1) := by decide +kernel
theorem dX12_aStranger_1 : decode cX12_aStranger 1 = .ok (.invokevirtual 344, 3) := by decide +kernel
theorem dX12_aStranger_4 : decode cX12_aStranger 4 = .ok (.aload_n 0, 1) := by decide +kernel
theorem dX12_aStranger_5 : decode cX12_aStranger 5 = .ok (.getfield 9, 3) := by decide +kernel
theorem dX12_aStranger_8 : decode cX12_aStranger 8 = .ok (.iconst 3, 1) := by decide +kernel
theorem dX12_aStranger_9 : decode cX12_aStranger 9 = .ok (.iaload, 1) := by decide +kernel
theorem dX12_aStranger_10 : decode cX12_aStranger 10 = .ok (.irem, 1) := by decide +kernel
theorem dX12_aStranger_11 : decode cX12_aStranger 11 = .ok (.istore_n 1, 1) := by decide +kernel
theorem dX12_aStranger_12 : decode cX12_aStranger 12 = .ok (.aload_n 0, 1) := by decide +kernel
theorem dX12_aStranger_13 : decode cX12_aStranger 13 = .ok (.invokevirtual 344, 3) := by decide +kernel
theorem dX12_aStranger_16 : decode cX12_aStranger 16 = .ok (.aload_n 0, 1) := by decide +kernel
theorem dX12_aStranger_17 : decode cX12_aStranger 17 = .ok (.getfield 9, 3) := by decide +kernel
theorem dX12_aStranger_20 : decode cX12_aStranger 20 = .ok (.iconst 5, 1) := by decide +kernel
theorem dX12_aStranger_21 : decode cX12_aStranger 21 = .ok (.iaload, 1) := by decide +kernel
theorem dX12_aStranger_22 : decode cX12_aStranger 22 = .ok (.irem, 1) := by decide +kernel
theorem dX12_aStranger_23 : decode cX12_aStranger 23 = .ok (.istore_n 2, 1) := by decide +kernel
theorem dX12_aStranger_24 : decode cX12_aStranger 24 = .ok (.aload_n 0, 1) := by decide +kernel
theorem dX12_aStranger_25 : decode cX12_aStranger 25 = .ok (.invokevirtual 344, 3) := by decide +kernel
theorem dX12_aStranger_28 : decode cX12_aStranger 28 = .ok (.iconst 4, 1) := by decide +kernel
theorem dX12_aStranger_29 : decode cX12_aStranger 29 = .ok (.irem, 1) := by decide +kernel
theorem dX12_aStranger_30 : decode cX12_aStranger 30 = .ok (.ifCond .ne 7, 3) := by decide +kernel
theorem dX12_aStranger_33 : decode cX12_aStranger 33 = .ok (.iconst 1, 1) := by decide +kernel
theorem dX12_aStranger_34 : decode cX12_aStranger 34 = .ok (.goto 4, 3) := by decide +kernel
theorem dX12_aStranger_37 : decode cX12_aStranger 37 = .ok (.iconst 0, 1) := by decide +kernel
theorem dX12_aStranger_38 : decode cX12_aStranger 38 = .ok (.istore_n 3, 1) := by decide +kernel
theorem dX12_aStranger_39 : decode cX12_aStranger 39 = .ok (.aload_n 0, 1) := by decide +kernel
theorem dX12_aStranger_40 : decode cX12_aStranger 40 = .ok (.iload_n 3, 1) := by decide +kernel
theorem dX12_aStranger_41 : decode cX12_aStranger 41 = .ok (.invokevirtual 263, 3) := by decide +kernel
theorem dX12_aStranger_44 : decode cX12_aStranger 44 = .ok (.aload_n 0, 1) := by decide +kernel
theorem dX12_aStranger_45 : decode cX12_aStranger 45 = .ok (.iconst 0, 1) := by decide +kernel
theorem dX12_aStranger_46 : decode cX12_aStranger 46 = .ok (.putfield 275, 3) := by decide +kernel
theorem dX12_aStranger_49 : decode cX12_aStranger 49 = .ok (.aload_n 0, 1) := by decide +kernel
theorem dX12_aStranger_50 : decode cX12_aStranger 50 = .ok (.iload_n 1, 1) := by decide +kernel
theorem dX12_aStranger_51 : decode cX12_aStranger 51 = .ok (.iload_n 2, 1) := by decide +kernel
theorem dX12_aStranger_52 : decode cX12_aStranger 52 = .ok (.invokevirtual 299, 3) := by decide +kernel
theorem dX12_aStranger_55 : decode cX12_aStranger 55 = .ok (.aload_n 0, 1) := by decide +kernel
theorem dX12_aStranger_56 : decode cX12_aStranger 56 = .ok (.getfield 284, 3) := by decide +kernel
theorem dX12_aStranger_59 : decode cX12_aStranger 59 = .ok (.iconst 1, 1) := by decide +kernel
theorem dX12_aStranger_60 : decode cX12_aStranger 60 = .ok (.if_icmp .eq 59, 3) := by decide +kernel
theorem dX12_aStranger_63 : decode cX12_aStranger 63 = .ok (.aload_n 0, 1) := by decide +kernel
theorem dX12_aStranger_64 : decode cX12_aStranger 64 = .ok (.getfield 281, 3) := by decide +kernel
theorem dX12_aStranger_67 : decode cX12_aStranger 67 = .ok (.ifCond .lt 52, 3) := by decide +kernel
theorem dX12_aStranger_70 : decode cX12_aStranger 70 = .ok (.sipush 155, 3) := by decide +kernel
theorem dX12_aStranger_73 : decode cX12_aStranger 73 = .ok (.iconst 5, 1) := by decide +kernel
theorem dX12_aStranger_74 : decode cX12_aStranger 74 = .ok (.aload_n 0, 1) := by decide +kernel
theorem dX12_aStranger_75 : decode cX12_aStranger 75 = .ok (.getfield 281, 3) := by decide +kernel
theorem dX12_aStranger_78 : decode cX12_aStranger 78 = .ok (.imul, 1) := by decide +kernel
theorem dX12_aStranger_79 : decode cX12_aStranger 79 = .ok (.iadd, 1) := by decide +kernel
theorem dX12_aStranger_80 : decode cX12_aStranger 80 = .ok (.iconst 3, 1) := by decide +kernel
theorem dX12_aStranger_81 : decode cX12_aStranger 81 = .ok (.iadd, 1) := by decide +kernel
theorem dX12_aStranger_82 : decode cX12_aStranger 82 = .ok (.istore 4, 2) := by decide +kernel
theorem dX12_aStranger_84 : decode cX12_aStranger 84 = .ok (.aload_n 0, 1) := by decide +kernel
theorem dX12_aStranger_85 : decode cX12_aStranger 85 = .ok (.getfield 9, 3) := by decide +kernel
theorem dX12_aStranger_88 : decode cX12_aStranger 88 = .ok (.iload 4, 2) := by decide +kernel
theorem dX12_aStranger_90 : decode cX12_aStranger 90 = .ok (.aload_n 0, 1) := by decide +kernel
theorem dX12_aStranger_91 : decode cX12_aStranger 91 = .ok (.getfield 9, 3) := by decide +kernel
theorem dX12_aStranger_94 : decode cX12_aStranger 94 = .ok (.iload 4, 2) := by decide +kernel
theorem dX12_aStranger_96 : decode cX12_aStranger 96 = .ok (.iaload, 1) := by decide +kernel
theorem dX12_aStranger_97 : decode cX12_aStranger 97 = .ok (.sipush 9999, 3) := by decide +kernel
theorem dX12_aStranger_100 : decode cX12_aStranger 100 = .ok (.if_icmp .ge 15, 3) := by decide +kernel
theorem dX12_aStranger_103 : decode cX12_aStranger 103 = .ok (.aload_n 0, 1) := by decide +kernel
theorem dX12_aStranger_104 : decode cX12_aStranger 104 = .ok (.getfield 9, 3) := by decide +kernel
theorem dX12_aStranger_107 : decode cX12_aStranger 107 = .ok (.iload 4, 2) := by decide +kernel
theorem dX12_aStranger_109 : decode cX12_aStranger 109 = .ok (.iaload, 1) := by decide +kernel
theorem dX12_aStranger_110 : decode cX12_aStranger 110 = .ok (.iconst 1, 1) := by decide +kernel
theorem dX12_aStranger_111 : decode cX12_aStranger 111 = .ok (.iadd, 1) := by decide +kernel
theorem dX12_aStranger_112 : decode cX12_aStranger 112 = .ok (.goto 6, 3) := by decide +kernel
theorem dX12_aStranger_115 : decode cX12_aStranger 115 = .ok (.sipush 9999, 3) := by decide +kernel
theorem dX12_aStranger_118 : decode cX12_aStranger 118 = .ok (.iastore, 1) := by decide +kernel
theorem dX12_aStranger_119 : decode cX12_aStranger 119 = .ok (.return_, 1) := by decide +kernel
theorem dX12_strangers_0 : decode cX12_strangers 0 = .ok (.iload_n 1, 1) := by decide +kernel
theorem dX12_strangers_1 : decode cX12_strangers 1 = .ok (.iconst 1, 1) := by decide +kernel
theorem dX12_strangers_2 : decode cX12_strangers 2 = .ok (.bipush 60, 2) := by decide +kernel
theorem dX12_strangers_4 : decode cX12_strangers 4 = .ok (.invokestatic 102, 3) := by decide +kernel
theorem dX12_strangers_7 : decode cX12_strangers 7 = .ok (.ifCond .ne 6, 3) := by decide +kernel
theorem dX12_strangers_10 : decode cX12_strangers 10 = .ok (.ldc 111, 2) := by decide +kernel
theorem dX12_strangers_12 : decode cX12_strangers 12 = .ok (.ireturn, 1) := by decide +kernel
theorem dX12_strangers_13 : decode cX12_strangers 13 = .ok (.aload_n 0, 1) := by decide +kernel
theorem dX12_strangers_14 : decode cX12_strangers 14 = .ok (.getfield 9, 3) := by decide +kernel
theorem dX12_strangers_17 : decode cX12_strangers 17 = .ok (.iconst 3, 1) := by decide +kernel
theorem dX12_strangers_18 : decode cX12_strangers 18 = .ok (.iaload, 1) := by decide +kernel
theorem dX12_strangers_19 : decode cX12_strangers 19 = .ok (.ifCond .eq 12, 3) := by decide +kernel
theorem dX12_strangers_22 : decode cX12_strangers 22 = .ok (.aload_n 0, 1) := by decide +kernel
theorem dX12_strangers_23 : decode cX12_strangers 23 = .ok (.getfield 9, 3) := by decide +kernel
theorem dX12_strangers_26 : decode cX12_strangers 26 = .ok (.iconst 5, 1) := by decide +kernel
theorem dX12_strangers_27 : decode cX12_strangers 27 = .ok (.iaload, 1) := by decide +kernel
theorem dX12_strangers_28 : decode cX12_strangers 28 = .ok (.ifCond .ne 6, 3) := by decide +kernel
theorem dX12_strangers_31 : decode cX12_strangers 31 = .ok (.ldc 116, 2) := by decide +kernel
theorem dX12_strangers_33 : decode cX12_strangers 33 = .ok (.ireturn, 1) := by decide +kernel
theorem dX12_strangers_34 : decode cX12_strangers 34 = .ok (.iconst 0, 1) := by decide +kernel
theorem dX12_strangers_35 : decode cX12_strangers 35 = .ok (.istore_n 2, 1) := by decide +kernel
theorem dX12_strangers_36 : decode cX12_strangers 36 = .ok (.iconst 0, 1) := by decide +kernel
theorem dX12_strangers_37 : decode cX12_strangers 37 = .ok (.istore_n 3, 1) := by decide +kernel
theorem dX12_strangers_38 : decode cX12_strangers 38 = .ok (.iload_n 3, 1) := by decide +kernel
theorem dX12_strangers_39 : decode cX12_strangers 39 = .ok (.iload_n 1, 1) := by decide +kernel
theorem dX12_strangers_40 : decode cX12_strangers 40 = .ok (.if_icmp .ge 29, 3) := by decide +kernel
theorem dX12_strangers_43 : decode cX12_strangers 43 = .ok (.aload_n 0, 1) := by decide +kernel
theorem dX12_strangers_44 : decode cX12_strangers 44 = .ok (.invokevirtual 347, 3) := by decide +kernel
theorem dX12_strangers_47 : decode cX12_strangers 47 = .ok (.iload_n 2, 1) := by decide +kernel
theorem dX12_strangers_48 : decode cX12_strangers 48 = .ok (.aload_n 0, 1) := by decide +kernel
theorem dX12_strangers_49 : decode cX12_strangers 49 = .ok (.getfield 284, 3) := by decide +kernel
theorem dX12_strangers_52 : decode cX12_strangers 52 = .ok (.iconst 1, 1) := by decide +kernel
theorem dX12_strangers_53 : decode cX12_strangers 53 = .ok (.if_icmp .ne 7, 3) := by decide +kernel
theorem dX12_strangers_56 : decode cX12_strangers 56 = .ok (.iconst 1, 1) := by decide +kernel
theorem dX12_strangers_57 : decode cX12_strangers 57 = .ok (.goto 4, 3) := by decide +kernel
theorem dX12_strangers_60 : decode cX12_strangers 60 = .ok (.iconst 0, 1) := by decide +kernel
theorem dX12_strangers_61 : decode cX12_strangers 61 = .ok (.iadd, 1) := by decide +kernel
theorem dX12_strangers_62 : decode cX12_strangers 62 = .ok (.istore_n 2, 1) := by decide +kernel
theorem dX12_strangers_63 : decode cX12_strangers 63 = .ok (.iinc 3 1, 3) := by decide +kernel
theorem dX12_strangers_66 : decode cX12_strangers 66 = .ok (.goto (-28), 3) := by decide +kernel
theorem dX12_strangers_69 : decode cX12_strangers 69 = .ok (.iload_n 2, 1) := by decide +kernel
theorem dX12_strangers_70 : decode cX12_strangers 70 = .ok (.ireturn, 1) := by decide +kernel
theorem dX12_led_0 : decode cX12_led 0 = .ok (.iconst (-1), 1) := by decide +kernel
theorem dX12_led_1 : decode cX12_led 1 = .ok (.istore_n 1, 1) := by decide +kernel
theorem dX12_led_2 : decode cX12_led 2 = .ok (.iconst 0, 1) := by decide +kernel
theorem dX12_led_3 : decode cX12_led 3 = .ok (.istore_n 2, 1) := by decide +kernel
theorem dX12_led_4 : decode cX12_led 4 = .ok (.iload_n 2, 1) := by decide +kernel
theorem dX12_led_5 : decode cX12_led 5 = .ok (.aload_n 0, 1) := by decide +kernel
theorem dX12_led_6 : decode cX12_led 6 = .ok (.getfield 9, 3) := by decide +kernel
theorem dX12_led_9 : decode cX12_led 9 = .ok (.bipush 6, 2) := by decide +kernel
theorem dX12_led_11 : decode cX12_led 11 = .ok (.iaload, 1) := by decide +kernel
theorem dX12_led_12 : decode cX12_led 12 = .ok (.if_icmp .ge 40, 3) := by decide +kernel
theorem dX12_led_15 : decode cX12_led 15 = .ok (.aload_n 0, 1) := by decide +kernel
theorem dX12_led_16 : decode cX12_led 16 = .ok (.iload_n 2, 1) := by decide +kernel
theorem dX12_led_17 : decode cX12_led 17 = .ok (.iconst 3, 1) := by decide +kernel
theorem dX12_led_18 : decode cX12_led 18 = .ok (.invokevirtual 138, 3) := by decide +kernel
theorem dX12_led_21 : decode cX12_led 21 = .ok (.istore_n 3, 1) := by decide +kernel
theorem dX12_led_22 : decode cX12_led 22 = .ok (.iload_n 3, 1) := by decide +kernel
theorem dX12_led_23 : decode cX12_led 23 = .ok (.ifCond .le 21, 3) := by decide +kernel
theorem dX12_led_26 : decode cX12_led 26 = .ok (.iload_n 1, 1) := by decide +kernel
theorem dX12_led_27 : decode cX12_led 27 = .ok (.ifCond .lt 13, 3) := by decide +kernel
theorem dX12_led_30 : decode cX12_led 30 = .ok (.iload_n 3, 1) := by decide +kernel
theorem dX12_led_31 : decode cX12_led 31 = .ok (.aload_n 0, 1) := by decide +kernel
theorem dX12_led_32 : decode cX12_led 32 = .ok (.iload_n 1, 1) := by decide +kernel
theorem dX12_led_33 : decode cX12_led 33 = .ok (.iconst 3, 1) := by decide +kernel
theorem dX12_led_34 : decode cX12_led 34 = .ok (.invokevirtual 138, 3) := by decide +kernel
theorem dX12_led_37 : decode cX12_led 37 = .ok (.if_icmp .le 7, 3) := by decide +kernel
theorem dX12_led_40 : decode cX12_led 40 = .ok (.iload_n 2, 1) := by decide +kernel
theorem dX12_led_41 : decode cX12_led 41 = .ok (.goto 4, 3) := by decide +kernel
theorem dX12_led_44 : decode cX12_led 44 = .ok (.iload_n 1, 1) := by decide +kernel
theorem dX12_led_45 : decode cX12_led 45 = .ok (.istore_n 1, 1) := by decide +kernel
theorem dX12_led_46 : decode cX12_led 46 = .ok (.iinc 2 1, 3) := by decide +kernel
theorem dX12_led_49 : decode cX12_led 49 = .ok (.goto (-45), 3) := by decide +kernel
theorem dX12_led_52 : decode cX12_led 52 = .ok (.iload_n 1, 1) := by decide +kernel
theorem dX12_led_53 : decode cX12_led 53 = .ok (.ifCond .ge 8, 3) := by decide +kernel
theorem dX12_led_56 : decode cX12_led 56 = .ok (.ldc 137, 2) := by decide +kernel
theorem dX12_led_58 : decode cX12_led 58 = .ok (.goto 4, 3) := by decide +kernel
theorem dX12_led_61 : decode cX12_led 61 = .ok (.iload_n 1, 1) := by decide +kernel
theorem dX12_led_62 : decode cX12_led 62 = .ok (.ireturn, 1) := by decide +kernel
theorem dX12_isSheet_0 : decode cX12_isSheet 0 = .ok (.iload_n 0, 1) := by decide +kernel
theorem dX12_isSheet_1 : decode cX12_isSheet 1 = .ok (.iconst 0, 1) := by decide +kernel
theorem dX12_isSheet_2 : decode cX12_isSheet 2 = .ok (.iconst 3, 1) := by decide +kernel
theorem dX12_isSheet_3 : decode cX12_isSheet 3 = .ok (.invokestatic 102, 3) := by decide +kernel
theorem dX12_isSheet_6 : decode cX12_isSheet 6 = .ok (.ireturn, 1) := by decide +kernel
theorem dX12_isSlot_0 : decode cX12_isSlot 0 = .ok (.iload_n 0, 1) := by decide +kernel
theorem dX12_isSlot_1 : decode cX12_isSlot 1 = .ok (.iconst 0, 1) := by decide +kernel
theorem dX12_isSlot_2 : decode cX12_isSlot 2 = .ok (.iconst 4, 1) := by decide +kernel
theorem dX12_isSlot_3 : decode cX12_isSlot 3 = .ok (.invokestatic 102, 3) := by decide +kernel
theorem dX12_isSlot_6 : decode cX12_isSlot 6 = .ok (.ireturn, 1) := by decide +kernel
theorem dX12_sheet_0 : decode cX12_sheet 0 = .ok (.iload_n 1, 1) := by decide +kernel
theorem dX12_sheet_1 : decode cX12_sheet 1 = .ok (.invokestatic 350, 3) := by decide +kernel
theorem dX12_sheet_4 : decode cX12_sheet 4 = .ok (.ifCond .eq 22, 3) := by decide +kernel
theorem dX12_sheet_7 : decode cX12_sheet 7 = .ok (.iload_n 2, 1) := by decide +kernel
theorem dX12_sheet_8 : decode cX12_sheet 8 = .ok (.iconst (-1), 1) := by decide +kernel
theorem dX12_sheet_9 : decode cX12_sheet 9 = .ok (.iconst 1, 1) := by decide +kernel
theorem dX12_sheet_10 : decode cX12_sheet 10 = .ok (.invokestatic 102, 3) := by decide +kernel
theorem dX12_sheet_13 : decode cX12_sheet 13 = .ok (.ifCond .eq 13, 3) := by decide +kernel
theorem dX12_sheet_16 : decode cX12_sheet 16 = .ok (.iload_n 2, 1) := by decide +kernel
theorem dX12_sheet_17 : decode cX12_sheet 17 = .ok (.ifCond .lt 12, 3) := by decide +kernel
theorem dX12_sheet_20 : decode cX12_sheet 20 = .ok (.iload_n 3, 1) := by decide +kernel
theorem dX12_sheet_21 : decode cX12_sheet 21 = .ok (.bipush 24, 2) := by decide +kernel
theorem dX12_sheet_23 : decode cX12_sheet 23 = .ok (.if_icmp .le 6, 3) := by decide +kernel
theorem dX12_sheet_26 : decode cX12_sheet 26 = .ok (.ldc 111, 2) := by decide +kernel
theorem dX12_sheet_28 : decode cX12_sheet 28 = .ok (.ireturn, 1) := by decide +kernel
theorem dX12_sheet_29 : decode cX12_sheet 29 = .ok (.iload_n 2, 1) := by decide +kernel
theorem dX12_sheet_30 : decode cX12_sheet 30 = .ok (.ifCond .lt 11, 3) := by decide +kernel
theorem dX12_sheet_33 : decode cX12_sheet 33 = .ok (.iload_n 3, 1) := by decide +kernel
theorem dX12_sheet_34 : decode cX12_sheet 34 = .ok (.ifCond .ge 7, 3) := by decide +kernel
theorem dX12_sheet_37 : decode cX12_sheet 37 = .ok (.ldc_w 353, 3) := by decide +kernel
theorem dX12_sheet_40 : decode cX12_sheet 40 = .ok (.ireturn, 1) := by decide +kernel
theorem dX12_sheet_41 : decode cX12_sheet 41 = .ok (.aload_n 0, 1) := by decide +kernel
theorem dX12_sheet_42 : decode cX12_sheet 42 = .ok (.getfield 75, 3) := by decide +kernel
theorem dX12_sheet_45 : decode cX12_sheet 45 = .ok (.iload_n 1, 1) := by decide +kernel
theorem dX12_sheet_46 : decode cX12_sheet 46 = .ok (.iload_n 2, 1) := by decide +kernel
theorem dX12_sheet_47 : decode cX12_sheet 47 = .ok (.iastore, 1) := by decide +kernel
theorem dX12_sheet_48 : decode cX12_sheet 48 = .ok (.aload_n 0, 1) := by decide +kernel
theorem dX12_sheet_49 : decode cX12_sheet 49 = .ok (.getfield 78, 3) := by decide +kernel
theorem dX12_sheet_52 : decode cX12_sheet 52 = .ok (.iload_n 1, 1) := by decide +kernel
theorem dX12_sheet_53 : decode cX12_sheet 53 = .ok (.iload_n 2, 1) := by decide +kernel
theorem dX12_sheet_54 : decode cX12_sheet 54 = .ok (.ifCond .ge 7, 3) := by decide +kernel
theorem dX12_sheet_57 : decode cX12_sheet 57 = .ok (.iconst 0, 1) := by decide +kernel
theorem dX12_sheet_58 : decode cX12_sheet 58 = .ok (.goto 4, 3) := by decide +kernel
theorem dX12_sheet_61 : decode cX12_sheet 61 = .ok (.iload_n 3, 1) := by decide +kernel
theorem dX12_sheet_62 : decode cX12_sheet 62 = .ok (.iastore, 1) := by decide +kernel
theorem dX12_sheet_63 : decode cX12_sheet 63 = .ok (.iconst 0, 1) := by decide +kernel
theorem dX12_sheet_64 : decode cX12_sheet 64 = .ok (.istore 4, 2) := by decide +kernel
theorem dX12_sheet_66 : decode cX12_sheet 66 = .ok (.iload 4, 2) := by decide +kernel
theorem dX12_sheet_68 : decode cX12_sheet 68 = .ok (.bipush 24, 2) := by decide +kernel
theorem dX12_sheet_70 : decode cX12_sheet 70 = .ok (.if_icmp .ge 22, 3) := by decide +kernel
theorem dX12_sheet_73 : decode cX12_sheet 73 = .ok (.aload_n 0, 1) := by decide +kernel
theorem dX12_sheet_74 : decode cX12_sheet 74 = .ok (.getfield 81, 3) := by decide +kernel
theorem dX12_sheet_77 : decode cX12_sheet 77 = .ok (.bipush 24, 2) := by decide +kernel
theorem dX12_sheet_79 : decode cX12_sheet 79 = .ok (.iload_n 1, 1) := by decide +kernel
theorem dX12_sheet_80 : decode cX12_sheet 80 = .ok (.imul, 1) := by decide +kernel
theorem dX12_sheet_81 : decode cX12_sheet 81 = .ok (.iload 4, 2) := by decide +kernel
theorem dX12_sheet_83 : decode cX12_sheet 83 = .ok (.iadd, 1) := by decide +kernel
theorem dX12_sheet_84 : decode cX12_sheet 84 = .ok (.iconst 0, 1) := by decide +kernel
theorem dX12_sheet_85 : decode cX12_sheet 85 = .ok (.iastore, 1) := by decide +kernel
theorem dX12_sheet_86 : decode cX12_sheet 86 = .ok (.iinc 4 1, 3) := by decide +kernel
theorem dX12_sheet_89 : decode cX12_sheet 89 = .ok (.goto (-23), 3) := by decide +kernel
theorem dX12_sheet_92 : decode cX12_sheet 92 = .ok (.aload_n 0, 1) := by decide +kernel
theorem dX12_sheet_93 : decode cX12_sheet 93 = .ok (.getfield 78, 3) := by decide +kernel
theorem dX12_sheet_96 : decode cX12_sheet 96 = .ok (.iload_n 1, 1) := by decide +kernel
theorem dX12_sheet_97 : decode cX12_sheet 97 = .ok (.iaload, 1) := by decide +kernel
theorem dX12_sheet_98 : decode cX12_sheet 98 = .ok (.ireturn, 1) := by decide +kernel
theorem dX12_mark_0 : decode cX12_mark 0 = .ok (.iload_n 1, 1) := by decide +kernel
theorem dX12_mark_1 : decode cX12_mark 1 = .ok (.invokestatic 350, 3) := by decide +kernel
theorem dX12_mark_4 : decode cX12_mark 4 = .ok (.ifCond .ne 6, 3) := by decide +kernel
theorem dX12_mark_7 : decode cX12_mark 7 = .ok (.ldc 111, 2) := by decide +kernel
theorem dX12_mark_9 : decode cX12_mark 9 = .ok (.ireturn, 1) := by decide +kernel
theorem dX12_mark_10 : decode cX12_mark 10 = .ok (.aload_n 0, 1) := by decide +kernel
theorem dX12_mark_11 : decode cX12_mark 11 = .ok (.getfield 75, 3) := by decide +kernel
theorem dX12_mark_14 : decode cX12_mark 14 = .ok (.iload_n 1, 1) := by decide +kernel
theorem dX12_mark_15 : decode cX12_mark 15 = .ok (.iaload, 1) := by decide +kernel
theorem dX12_mark_16 : decode cX12_mark 16 = .ok (.ifCond .ge 7, 3) := by decide +kernel
theorem dX12_mark_19 : decode cX12_mark 19 = .ok (.ldc_w 354, 3) := by decide +kernel
theorem dX12_mark_22 : decode cX12_mark 22 = .ok (.ireturn, 1) := by decide +kernel
theorem dX12_mark_23 : decode cX12_mark 23 = .ok (.iload_n 2, 1) := by decide +kernel
theorem dX12_mark_24 : decode cX12_mark 24 = .ok (.iconst 0, 1) := by decide +kernel
theorem dX12_mark_25 : decode cX12_mark 25 = .ok (.aload_n 0, 1) := by decide +kernel
theorem dX12_mark_26 : decode cX12_mark 26 = .ok (.getfield 78, 3) := by decide +kernel
theorem dX12_mark_29 : decode cX12_mark 29 = .ok (.iload_n 1, 1) := by decide +kernel
theorem dX12_mark_30 : decode cX12_mark 30 = .ok (.iaload, 1) := by decide +kernel
theorem dX12_mark_31 : decode cX12_mark 31 = .ok (.iconst 1, 1) := by decide +kernel
theorem dX12_mark_32 : decode cX12_mark 32 = .ok (.isub, 1) := by decide +kernel
theorem dX12_mark_33 : decode cX12_mark 33 = .ok (.invokestatic 102, 3) := by decide +kernel
theorem dX12_mark_36 : decode cX12_mark 36 = .ok (.ifCond .ne 7, 3) := by decide +kernel
theorem dX12_mark_39 : decode cX12_mark 39 = .ok (.ldc_w 355, 3) := by decide +kernel
theorem dX12_mark_42 : decode cX12_mark 42 = .ok (.ireturn, 1) := by decide +kernel
theorem dX12_mark_43 : decode cX12_mark 43 = .ok (.aload_n 0, 1) := by decide +kernel
theorem dX12_mark_44 : decode cX12_mark 44 = .ok (.getfield 81, 3) := by decide +kernel
theorem dX12_mark_47 : decode cX12_mark 47 = .ok (.bipush 24, 2) := by decide +kernel
theorem dX12_mark_49 : decode cX12_mark 49 = .ok (.iload_n 1, 1) := by decide +kernel
theorem dX12_mark_50 : decode cX12_mark 50 = .ok (.imul, 1) := by decide +kernel
theorem dX12_mark_51 : decode cX12_mark 51 = .ok (.iload_n 2, 1) := by decide +kernel
theorem dX12_mark_52 : decode cX12_mark 52 = .ok (.iadd, 1) := by decide +kernel
theorem dX12_mark_53 : decode cX12_mark 53 = .ok (.iaload, 1) := by decide +kernel
theorem dX12_mark_54 : decode cX12_mark 54 = .ok (.istore 4, 2) := by decide +kernel
theorem dX12_mark_56 : decode cX12_mark 56 = .ok (.aload_n 0, 1) := by decide +kernel
theorem dX12_mark_57 : decode cX12_mark 57 = .ok (.getfield 81, 3) := by decide +kernel
theorem dX12_mark_60 : decode cX12_mark 60 = .ok (.bipush 24, 2) := by decide +kernel
theorem dX12_mark_62 : decode cX12_mark 62 = .ok (.iload_n 1, 1) := by decide +kernel
theorem dX12_mark_63 : decode cX12_mark 63 = .ok (.imul, 1) := by decide +kernel
theorem dX12_mark_64 : decode cX12_mark 64 = .ok (.iload_n 2, 1) := by decide +kernel
theorem dX12_mark_65 : decode cX12_mark 65 = .ok (.iadd, 1) := by decide +kernel
theorem dX12_mark_66 : decode cX12_mark 66 = .ok (.aload_n 0, 1) := by decide +kernel
theorem dX12_mark_67 : decode cX12_mark 67 = .ok (.getfield 75, 3) := by decide +kernel
theorem dX12_mark_70 : decode cX12_mark 70 = .ok (.iload_n 1, 1) := by decide +kernel
theorem dX12_mark_71 : decode cX12_mark 71 = .ok (.iaload, 1) := by decide +kernel
theorem dX12_mark_72 : decode cX12_mark 72 = .ok (.ifCond .ne 8, 3) := by decide +kernel
theorem dX12_mark_75 : decode cX12_mark 75 = .ok (.iload_n 3, 1) := by decide +kernel
theorem dX12_mark_76 : decode cX12_mark 76 = .ok (.i2b, 1) := by decide +kernel
theorem dX12_mark_77 : decode cX12_mark 77 = .ok (.goto 5, 3) := by decide +kernel
theorem dX12_mark_80 : decode cX12_mark 80 = .ok (.iload_n 3, 1) := by decide +kernel
theorem dX12_mark_81 : decode cX12_mark 81 = .ok (.i2s, 1) := by decide +kernel
theorem dX12_mark_82 : decode cX12_mark 82 = .ok (.iastore, 1) := by decide +kernel
theorem dX12_mark_83 : decode cX12_mark 83 = .ok (.iload 4, 2) := by decide +kernel
theorem dX12_mark_85 : decode cX12_mark 85 = .ok (.ireturn, 1) := by decide +kernel
theorem dX12_fill_0 : decode cX12_fill 0 = .ok (.aload_n 0, 1) := by decide +kernel
theorem dX12_fill_1 : decode cX12_fill 1 = .ok (.iload_n 1, 1) := by decide +kernel
theorem dX12_fill_2 : decode cX12_fill 2 = .ok (.invokevirtual 151, 3) := by decide +kernel
theorem dX12_fill_5 : decode cX12_fill 5 = .ok (.ifCond .eq 10, 3) := by decide +kernel
theorem dX12_fill_8 : decode cX12_fill 8 = .ok (.iload_n 2, 1) := by decide +kernel
theorem dX12_fill_9 : decode cX12_fill 9 = .ok (.invokestatic 350, 3) := by decide +kernel
theorem dX12_fill_12 : decode cX12_fill 12 = .ok (.ifCond .ne 6, 3) := by decide +kernel
theorem dX12_fill_15 : decode cX12_fill 15 = .ok (.ldc 111, 2) := by decide +kernel
theorem dX12_fill_17 : decode cX12_fill 17 = .ok (.ireturn, 1) := by decide +kernel
theorem dX12_fill_18 : decode cX12_fill 18 = .ok (.aload_n 0, 1) := by decide +kernel
theorem dX12_fill_19 : decode cX12_fill 19 = .ok (.getfield 75, 3) := by decide +kernel
theorem dX12_fill_22 : decode cX12_fill 22 = .ok (.iload_n 2, 1) := by decide +kernel
theorem dX12_fill_23 : decode cX12_fill 23 = .ok (.iaload, 1) := by decide +kernel
theorem dX12_fill_24 : decode cX12_fill 24 = .ok (.ifCond .ge 7, 3) := by decide +kernel
theorem dX12_fill_27 : decode cX12_fill 27 = .ok (.ldc_w 354, 3) := by decide +kernel
theorem dX12_fill_30 : decode cX12_fill 30 = .ok (.ireturn, 1) := by decide +kernel
theorem dX12_fill_31 : decode cX12_fill 31 = .ok (.aload_n 0, 1) := by decide +kernel
theorem dX12_fill_32 : decode cX12_fill 32 = .ok (.invokevirtual 170, 3) := by decide +kernel
theorem dX12_fill_35 : decode cX12_fill 35 = .ok (.iconst 0, 1) := by decide +kernel
theorem dX12_fill_36 : decode cX12_fill 36 = .ok (.istore_n 3, 1) := by decide +kernel
theorem dX12_fill_37 : decode cX12_fill 37 = .ok (.iconst 1, 1) := by decide +kernel
theorem dX12_fill_38 : decode cX12_fill 38 = .ok (.istore 4, 2) := by decide +kernel
theorem dX12_fill_40 : decode cX12_fill 40 = .ok (.iload 4, 2) := by decide +kernel
theorem dX12_fill_42 : decode cX12_fill 42 = .ok (.ifCond .eq 114, 3) := by decide +kernel
theorem dX12_fill_45 : decode cX12_fill 45 = .ok (.iload_n 3, 1) := by decide +kernel
theorem dX12_fill_46 : decode cX12_fill 46 = .ok (.aload_n 0, 1) := by decide +kernel
theorem dX12_fill_47 : decode cX12_fill 47 = .ok (.iload_n 1, 1) := by decide +kernel
theorem dX12_fill_48 : decode cX12_fill 48 = .ok (.iconst 1, 1) := by decide +kernel
theorem dX12_fill_49 : decode cX12_fill 49 = .ok (.invokevirtual 138, 3) := by decide +kernel
theorem dX12_fill_52 : decode cX12_fill 52 = .ok (.invokestatic 154, 3) := by decide +kernel
theorem dX12_fill_55 : decode cX12_fill 55 = .ok (.if_icmp .ge 101, 3) := by decide +kernel
theorem dX12_fill_58 : decode cX12_fill 58 = .ok (.bipush 24, 2) := by decide +kernel
theorem dX12_fill_60 : decode cX12_fill 60 = .ok (.iload_n 2, 1) := by decide +kernel
theorem dX12_fill_61 : decode cX12_fill 61 = .ok (.imul, 1) := by decide +kernel
theorem dX12_fill_62 : decode cX12_fill 62 = .ok (.iconst 2, 1) := by decide +kernel
theorem dX12_fill_63 : decode cX12_fill 63 = .ok (.iload_n 3, 1) := by decide +kernel
theorem dX12_fill_64 : decode cX12_fill 64 = .ok (.imul, 1) := by decide +kernel
theorem dX12_fill_65 : decode cX12_fill 65 = .ok (.iadd, 1) := by decide +kernel
theorem dX12_fill_66 : decode cX12_fill 66 = .ok (.istore 5, 2) := by decide +kernel
theorem dX12_fill_68 : decode cX12_fill 68 = .ok (.iconst 2, 1) := by decide +kernel
theorem dX12_fill_69 : decode cX12_fill 69 = .ok (.iload_n 3, 1) := by decide +kernel
theorem dX12_fill_70 : decode cX12_fill 70 = .ok (.imul, 1) := by decide +kernel
theorem dX12_fill_71 : decode cX12_fill 71 = .ok (.iconst 1, 1) := by decide +kernel
theorem dX12_fill_72 : decode cX12_fill 72 = .ok (.iadd, 1) := by decide +kernel
theorem dX12_fill_73 : decode cX12_fill 73 = .ok (.aload_n 0, 1) := by decide +kernel
theorem dX12_fill_74 : decode cX12_fill 74 = .ok (.getfield 78, 3) := by decide +kernel
theorem dX12_fill_77 : decode cX12_fill 77 = .ok (.iload_n 2, 1) := by decide +kernel
theorem dX12_fill_78 : decode cX12_fill 78 = .ok (.iaload, 1) := by decide +kernel
theorem dX12_fill_79 : decode cX12_fill 79 = .ok (.if_icmp .ge 41, 3) := by decide +kernel
theorem dX12_fill_82 : decode cX12_fill 82 = .ok (.aload_n 0, 1) := by decide +kernel
theorem dX12_fill_83 : decode cX12_fill 83 = .ok (.getfield 81, 3) := by decide +kernel
theorem dX12_fill_86 : decode cX12_fill 86 = .ok (.iload 5, 2) := by decide +kernel
theorem dX12_fill_88 : decode cX12_fill 88 = .ok (.iaload, 1) := by decide +kernel
theorem dX12_fill_89 : decode cX12_fill 89 = .ok (.iconst 0, 1) := by decide +kernel
theorem dX12_fill_90 : decode cX12_fill 90 = .ok (.bipush 13, 2) := by decide +kernel
theorem dX12_fill_92 : decode cX12_fill 92 = .ok (.invokestatic 102, 3) := by decide +kernel
theorem dX12_fill_95 : decode cX12_fill 95 = .ok (.ifCond .eq 25, 3) := by decide +kernel
theorem dX12_fill_98 : decode cX12_fill 98 = .ok (.aload_n 0, 1) := by decide +kernel
theorem dX12_fill_99 : decode cX12_fill 99 = .ok (.getfield 81, 3) := by decide +kernel
theorem dX12_fill_102 : decode cX12_fill 102 = .ok (.iload 5, 2) := by decide +kernel
theorem dX12_fill_104 : decode cX12_fill 104 = .ok (.iconst 1, 1) := by decide +kernel
theorem dX12_fill_105 : decode cX12_fill 105 = .ok (.iadd, 1) := by decide +kernel
theorem dX12_fill_106 : decode cX12_fill 106 = .ok (.iaload, 1) := by decide +kernel
theorem dX12_fill_107 : decode cX12_fill 107 = .ok (.iconst 0, 1) := by decide +kernel
theorem dX12_fill_108 : decode cX12_fill 108 = .ok (.bipush 7, 2) := by decide +kernel
theorem dX12_fill_110 : decode cX12_fill 110 = .ok (.invokestatic 102, 3) := by decide +kernel
theorem dX12_fill_113 : decode cX12_fill 113 = .ok (.ifCond .eq 7, 3) := by decide +kernel
theorem dX12_fill_116 : decode cX12_fill 116 = .ok (.iconst 1, 1) := by decide +kernel
theorem dX12_fill_117 : decode cX12_fill 117 = .ok (.goto 4, 3) := by decide +kernel
