theorem d_M_write_0 : decode b_M_write 0 = .ok (.iload_n 1, 1) := by decide +kernel
theorem d_M_write_1 : decode b_M_write 1 = .ok (.iconst 1, 1) := by decide +kernel
theorem d_M_write_2 : decode b_M_write 2 = .ok (.if_icmp .eq 14, 3) := by decide +kernel
theorem d_M_write_5 : decode b_M_write 5 = .ok (.iload_n 1, 1) := by decide +kernel
theorem d_M_write_6 : decode b_M_write 6 = .ok (.iconst 5, 1) := by decide +kernel
theorem d_M_write_7 : decode b_M_write 7 = .ok (.if_icmp .eq 9, 3) := by decide +kernel
theorem d_M_write_10 : decode b_M_write 10 = .ok (.iload_n 1, 1) := by decide +kernel
theorem d_M_write_11 : decode b_M_write 11 = .ok (.ldc 184, 2) := by decide +kernel
theorem d_M_write_13 : decode b_M_write 13 = .ok (.if_icmp .ne 7, 3) := by decide +kernel
theorem d_M_write_16 : decode b_M_write 16 = .ok (.iconst 1, 1) := by decide +kernel
theorem d_M_write_17 : decode b_M_write 17 = .ok (.goto 4, 3) := by decide +kernel
theorem d_M_write_20 : decode b_M_write 20 = .ok (.iconst 0, 1) := by decide +kernel
theorem d_M_write_21 : decode b_M_write 21 = .ok (.istore 4, 2) := by decide +kernel
theorem d_M_write_23 : decode b_M_write 23 = .ok (.iload 4, 2) := by decide +kernel
theorem d_M_write_25 : decode b_M_write 25 = .ok (.ifCond .eq 26, 3) := by decide +kernel
theorem d_M_write_28 : decode b_M_write 28 = .ok (.iload_n 3, 1) := by decide +kernel
theorem d_M_write_29 : decode b_M_write 29 = .ok (.iconst 1, 1) := by decide +kernel
theorem d_M_write_30 : decode b_M_write 30 = .ok (.if_icmp .lt 21, 3) := by decide +kernel
theorem d_M_write_33 : decode b_M_write 33 = .ok (.iload_n 3, 1) := by decide +kernel
theorem d_M_write_34 : decode b_M_write 34 = .ok (.iconst 2, 1) := by decide +kernel
theorem d_M_write_35 : decode b_M_write 35 = .ok (.if_icmp .gt 16, 3) := by decide +kernel
theorem d_M_write_38 : decode b_M_write 38 = .ok (.iload_n 2, 1) := by decide +kernel
theorem d_M_write_39 : decode b_M_write 39 = .ok (.iconst 1, 1) := by decide +kernel
theorem d_M_write_40 : decode b_M_write 40 = .ok (.if_icmp .lt 11, 3) := by decide +kernel
theorem d_M_write_43 : decode b_M_write 43 = .ok (.iload_n 2, 1) := by decide +kernel
theorem d_M_write_44 : decode b_M_write 44 = .ok (.aload_n 0, 1) := by decide +kernel
theorem d_M_write_45 : decode b_M_write 45 = .ok (.getfield 17, 3) := by decide +kernel
theorem d_M_write_48 : decode b_M_write 48 = .ok (.if_icmp .le 5, 3) := by decide +kernel
theorem d_M_write_51 : decode b_M_write 51 = .ok (.iconst (-1), 1) := by decide +kernel
theorem d_M_write_52 : decode b_M_write 52 = .ok (.ireturn, 1) := by decide +kernel
theorem d_M_write_53 : decode b_M_write 53 = .ok (.aload_n 0, 1) := by decide +kernel
theorem d_M_write_54 : decode b_M_write 54 = .ok (.invokevirtual 102, 3) := by decide +kernel
theorem d_M_write_57 : decode b_M_write 57 = .ok (.aload_n 0, 1) := by decide +kernel
theorem d_M_write_58 : decode b_M_write 58 = .ok (.getfield 89, 3) := by decide +kernel
theorem d_M_write_61 : decode b_M_write 61 = .ok (.ifCond .eq 12, 3) := by decide +kernel
theorem d_M_write_64 : decode b_M_write 64 = .ok (.aload_n 0, 1) := by decide +kernel
theorem d_M_write_65 : decode b_M_write 65 = .ok (.getfield 86, 3) := by decide +kernel
theorem d_M_write_68 : decode b_M_write 68 = .ok (.bipush 8, 2) := by decide +kernel
theorem d_M_write_70 : decode b_M_write 70 = .ok (.if_icmp .ne 18, 3) := by decide +kernel
theorem d_M_write_73 : decode b_M_write 73 = .ok (.aload_n 0, 1) := by decide +kernel
theorem d_M_write_74 : decode b_M_write 74 = .ok (.getfield 89, 3) := by decide +kernel
theorem d_M_write_77 : decode b_M_write 77 = .ok (.ifCond .eq 8, 3) := by decide +kernel
theorem d_M_write_80 : decode b_M_write 80 = .ok (.bipush (-3), 2) := by decide +kernel
theorem d_M_write_82 : decode b_M_write 82 = .ok (.goto 5, 3) := by decide +kernel
theorem d_M_write_85 : decode b_M_write 85 = .ok (.bipush (-2), 2) := by decide +kernel
theorem d_M_write_87 : decode b_M_write 87 = .ok (.ireturn, 1) := by decide +kernel
theorem d_M_write_88 : decode b_M_write 88 = .ok (.aload_n 0, 1) := by decide +kernel
theorem d_M_write_89 : decode b_M_write 89 = .ok (.aload_n 0, 1) := by decide +kernel
theorem d_M_write_90 : decode b_M_write 90 = .ok (.getfield 63, 3) := by decide +kernel
theorem d_M_write_93 : decode b_M_write 93 = .ok (.putfield 121, 3) := by decide +kernel
theorem d_M_write_96 : decode b_M_write 96 = .ok (.aload_n 0, 1) := by decide +kernel
theorem d_M_write_97 : decode b_M_write 97 = .ok (.getfield 17, 3) := by decide +kernel
theorem d_M_write_100 : decode b_M_write 100 = .ok (.iload_n 2, 1) := by decide +kernel
theorem d_M_write_101 : decode b_M_write 101 = .ok (.iadd, 1) := by decide +kernel
theorem d_M_write_102 : decode b_M_write 102 = .ok (.iconst 1, 1) := by decide +kernel
theorem d_M_write_103 : decode b_M_write 103 = .ok (.isub, 1) := by decide +kernel
theorem d_M_write_104 : decode b_M_write 104 = .ok (.iload_n 2, 1) := by decide +kernel
theorem d_M_write_105 : decode b_M_write 105 = .ok (.idiv, 1) := by decide +kernel
theorem d_M_write_106 : decode b_M_write 106 = .ok (.istore 5, 2) := by decide +kernel
theorem d_M_write_108 : decode b_M_write 108 = .ok (.aload_n 0, 1) := by decide +kernel
theorem d_M_write_109 : decode b_M_write 109 = .ok (.iload_n 1, 1) := by decide +kernel
theorem d_M_write_110 : decode b_M_write 110 = .ok (.iload_n 2, 1) := by decide +kernel
theorem d_M_write_111 : decode b_M_write 111 = .ok (.iload_n 3, 1) := by decide +kernel
theorem d_M_write_112 : decode b_M_write 112 = .ok (.iload 5, 2) := by decide +kernel
theorem d_M_write_114 : decode b_M_write 114 = .ok (.invokevirtual 185, 3) := by decide +kernel
theorem d_M_write_117 : decode b_M_write 117 = .ok (.aload_n 0, 1) := by decide +kernel
theorem d_M_write_118 : decode b_M_write 118 = .ok (.invokevirtual 175, 3) := by decide +kernel
theorem d_M_write_121 : decode b_M_write 121 = .ok (.aload_n 0, 1) := by decide +kernel
theorem d_M_write_122 : decode b_M_write 122 = .ok (.getfield 121, 3) := by decide +kernel
theorem d_M_write_125 : decode b_M_write 125 = .ok (.istore 6, 2) := by decide +kernel
theorem d_M_write_127 : decode b_M_write 127 = .ok (.iconst 0, 1) := by decide +kernel
theorem d_M_write_128 : decode b_M_write 128 = .ok (.istore 7, 2) := by decide +kernel
theorem d_M_write_130 : decode b_M_write 130 = .ok (.iload 7, 2) := by decide +kernel
theorem d_M_write_132 : decode b_M_write 132 = .ok (.iload 5, 2) := by decide +kernel
theorem d_M_write_134 : decode b_M_write 134 = .ok (.if_icmp .ge 28, 3) := by decide +kernel
theorem d_M_write_137 : decode b_M_write 137 = .ok (.iload 5, 2) := by decide +kernel
theorem d_M_write_139 : decode b_M_write 139 = .ok (.iconst 1, 1) := by decide +kernel
theorem d_M_write_140 : decode b_M_write 140 = .ok (.if_icmp .le 22, 3) := by decide +kernel
theorem d_M_write_143 : decode b_M_write 143 = .ok (.aload_n 0, 1) := by decide +kernel
theorem d_M_write_144 : decode b_M_write 144 = .ok (.iconst 4, 1) := by decide +kernel
theorem d_M_write_145 : decode b_M_write 145 = .ok (.aload_n 0, 1) := by decide +kernel
theorem d_M_write_146 : decode b_M_write 146 = .ok (.getfield 50, 3) := by decide +kernel
theorem d_M_write_149 : decode b_M_write 149 = .ok (.iload 7, 2) := by decide +kernel
theorem d_M_write_151 : decode b_M_write 151 = .ok (.iaload, 1) := by decide +kernel
theorem d_M_write_152 : decode b_M_write 152 = .ok (.i2l, 1) := by decide +kernel
theorem d_M_write_153 : decode b_M_write 153 = .ok (.invokevirtual 161, 3) := by decide +kernel
theorem d_M_write_156 : decode b_M_write 156 = .ok (.iinc 7 1, 3) := by decide +kernel
theorem d_M_write_159 : decode b_M_write 159 = .ok (.goto (-29), 3) := by decide +kernel
theorem d_M_write_162 : decode b_M_write 162 = .ok (.iconst 0, 1) := by decide +kernel
theorem d_M_write_163 : decode b_M_write 163 = .ok (.istore 7, 2) := by decide +kernel
theorem d_M_write_165 : decode b_M_write 165 = .ok (.iload 7, 2) := by decide +kernel
theorem d_M_write_167 : decode b_M_write 167 = .ok (.iload 5, 2) := by decide +kernel
theorem d_M_write_169 : decode b_M_write 169 = .ok (.if_icmp .ge 28, 3) := by decide +kernel
theorem d_M_write_172 : decode b_M_write 172 = .ok (.iload 5, 2) := by decide +kernel
theorem d_M_write_174 : decode b_M_write 174 = .ok (.iconst 1, 1) := by decide +kernel
theorem d_M_write_175 : decode b_M_write 175 = .ok (.if_icmp .le 22, 3) := by decide +kernel
theorem d_M_write_178 : decode b_M_write 178 = .ok (.aload_n 0, 1) := by decide +kernel
theorem d_M_write_179 : decode b_M_write 179 = .ok (.iconst 4, 1) := by decide +kernel
theorem d_M_write_180 : decode b_M_write 180 = .ok (.aload_n 0, 1) := by decide +kernel
theorem d_M_write_181 : decode b_M_write 181 = .ok (.getfield 53, 3) := by decide +kernel
theorem d_M_write_184 : decode b_M_write 184 = .ok (.iload 7, 2) := by decide +kernel
theorem d_M_write_186 : decode b_M_write 186 = .ok (.iaload, 1) := by decide +kernel
theorem d_M_write_187 : decode b_M_write 187 = .ok (.i2l, 1) := by decide +kernel
theorem d_M_write_188 : decode b_M_write 188 = .ok (.invokevirtual 161, 3) := by decide +kernel
theorem d_M_write_191 : decode b_M_write 191 = .ok (.iinc 7 1, 3) := by decide +kernel
theorem d_M_write_194 : decode b_M_write 194 = .ok (.goto (-29), 3) := by decide +kernel
theorem d_M_write_197 : decode b_M_write 197 = .ok (.aload_n 0, 1) := by decide +kernel
theorem d_M_write_198 : decode b_M_write 198 = .ok (.getfield 69, 3) := by decide +kernel
theorem d_M_write_201 : decode b_M_write 201 = .ok (.iconst 2, 1) := by decide +kernel
theorem d_M_write_202 : decode b_M_write 202 = .ok (.if_icmp .ne 22, 3) := by decide +kernel
theorem d_M_write_205 : decode b_M_write 205 = .ok (.aload_n 0, 1) := by decide +kernel
theorem d_M_write_206 : decode b_M_write 206 = .ok (.getfield 26, 3) := by decide +kernel
theorem d_M_write_209 : decode b_M_write 209 = .ok (.iconst 1, 1) := by decide +kernel
theorem d_M_write_210 : decode b_M_write 210 = .ok (.iaload, 1) := by decide +kernel
theorem d_M_write_211 : decode b_M_write 211 = .ok (.aload_n 0, 1) := by decide +kernel
theorem d_M_write_212 : decode b_M_write 212 = .ok (.getfield 26, 3) := by decide +kernel
theorem d_M_write_215 : decode b_M_write 215 = .ok (.iconst 0, 1) := by decide +kernel
theorem d_M_write_216 : decode b_M_write 216 = .ok (.iaload, 1) := by decide +kernel
theorem d_M_write_217 : decode b_M_write 217 = .ok (.if_icmp .ge 7, 3) := by decide +kernel
theorem d_M_write_220 : decode b_M_write 220 = .ok (.iconst 1, 1) := by decide +kernel
theorem d_M_write_221 : decode b_M_write 221 = .ok (.goto 4, 3) := by decide +kernel
theorem d_M_write_224 : decode b_M_write 224 = .ok (.iconst 0, 1) := by decide +kernel
theorem d_M_write_225 : decode b_M_write 225 = .ok (.istore 7, 2) := by decide +kernel
theorem d_M_write_227 : decode b_M_write 227 = .ok (.iconst 0, 1) := by decide +kernel
theorem d_M_write_228 : decode b_M_write 228 = .ok (.istore 8, 2) := by decide +kernel
theorem d_M_write_230 : decode b_M_write 230 = .ok (.iconst 0, 1) := by decide +kernel
theorem d_M_write_231 : decode b_M_write 231 = .ok (.istore 9, 2) := by decide +kernel
theorem d_M_write_233 : decode b_M_write 233 = .ok (.iconst 0, 1) := by decide +kernel
theorem d_M_write_234 : decode b_M_write 234 = .ok (.istore 10, 2) := by decide +kernel
theorem d_M_write_236 : decode b_M_write 236 = .ok (.iload 10, 2) := by decide +kernel
theorem d_M_write_238 : decode b_M_write 238 = .ok (.aload_n 0, 1) := by decide +kernel
theorem d_M_write_239 : decode b_M_write 239 = .ok (.getfield 69, 3) := by decide +kernel
theorem d_M_write_242 : decode b_M_write 242 = .ok (.if_icmp .ge 79, 3) := by decide +kernel
theorem d_M_write_245 : decode b_M_write 245 = .ok (.iload 10, 2) := by decide +kernel
theorem d_M_write_247 : decode b_M_write 247 = .ok (.ifCond .ne 8, 3) := by decide +kernel
theorem d_M_write_250 : decode b_M_write 250 = .ok (.iload 7, 2) := by decide +kernel
theorem d_M_write_252 : decode b_M_write 252 = .ok (.goto 7, 3) := by decide +kernel
theorem d_M_write_255 : decode b_M_write 255 = .ok (.iconst 1, 1) := by decide +kernel
theorem d_M_write_256 : decode b_M_write 256 = .ok (.iload 7, 2) := by decide +kernel
theorem d_M_write_258 : decode b_M_write 258 = .ok (.isub, 1) := by decide +kernel
theorem d_M_write_259 : decode b_M_write 259 = .ok (.istore 11, 2) := by decide +kernel
theorem d_M_write_261 : decode b_M_write 261 = .ok (.aload_n 0, 1) := by decide +kernel
theorem d_M_write_262 : decode b_M_write 262 = .ok (.getfield 29, 3) := by decide +kernel
theorem d_M_write_265 : decode b_M_write 265 = .ok (.iload 11, 2) := by decide +kernel
theorem d_M_write_267 : decode b_M_write 267 = .ok (.iaload, 1) := by decide +kernel
theorem d_M_write_268 : decode b_M_write 268 = .ok (.iconst 3, 1) := by decide +kernel
theorem d_M_write_269 : decode b_M_write 269 = .ok (.if_icmp .le 46, 3) := by decide +kernel
theorem d_M_write_272 : decode b_M_write 272 = .ok (.iload 11, 2) := by decide +kernel
theorem d_M_write_274 : decode b_M_write 274 = .ok (.ifCond .ne 10, 3) := by decide +kernel
theorem d_M_write_277 : decode b_M_write 277 = .ok (.aload_n 0, 1) := by decide +kernel
theorem d_M_write_278 : decode b_M_write 278 = .ok (.getfield 121, 3) := by decide +kernel
theorem d_M_write_281 : decode b_M_write 281 = .ok (.goto 5, 3) := by decide +kernel
theorem d_M_write_284 : decode b_M_write 284 = .ok (.iload 8, 2) := by decide +kernel
theorem d_M_write_286 : decode b_M_write 286 = .ok (.istore 8, 2) := by decide +kernel
theorem d_M_write_288 : decode b_M_write 288 = .ok (.iload 11, 2) := by decide +kernel
theorem d_M_write_290 : decode b_M_write 290 = .ok (.iconst 1, 1) := by decide +kernel
theorem d_M_write_291 : decode b_M_write 291 = .ok (.if_icmp .ne 10, 3) := by decide +kernel
theorem d_M_write_294 : decode b_M_write 294 = .ok (.aload_n 0, 1) := by decide +kernel
theorem d_M_write_295 : decode b_M_write 295 = .ok (.getfield 121, 3) := by decide +kernel
theorem d_M_write_298 : decode b_M_write 298 = .ok (.goto 5, 3) := by decide +kernel
theorem d_M_write_301 : decode b_M_write 301 = .ok (.iload 9, 2) := by decide +kernel
theorem d_M_write_303 : decode b_M_write 303 = .ok (.istore 9, 2) := by decide +kernel
theorem d_M_write_305 : decode b_M_write 305 = .ok (.aload_n 0, 1) := by decide +kernel
theorem d_M_write_306 : decode b_M_write 306 = .ok (.iload 11, 2) := by decide +kernel
theorem d_M_write_308 : decode b_M_write 308 = .ok (.invokevirtual 172, 3) := by decide +kernel
theorem d_M_write_311 : decode b_M_write 311 = .ok (.aload_n 0, 1) := by decide +kernel
theorem d_M_write_312 : decode b_M_write 312 = .ok (.invokevirtual 175, 3) := by decide +kernel
theorem d_M_write_315 : decode b_M_write 315 = .ok (.iinc 10 1, 3) := by decide +kernel
theorem d_M_write_318 : decode b_M_write 318 = .ok (.goto (-82), 3) := by decide +kernel
theorem d_M_write_321 : decode b_M_write 321 = .ok (.aload_n 0, 1) := by decide +kernel
theorem d_M_write_322 : decode b_M_write 322 = .ok (.getfield 121, 3) := by decide +kernel
theorem d_M_write_325 : decode b_M_write 325 = .ok (.istore 10, 2) := by decide +kernel
theorem d_M_write_327 : decode b_M_write 327 = .ok (.aload_n 0, 1) := by decide +kernel
theorem d_M_write_328 : decode b_M_write 328 = .ok (.iload_n 1, 1) := by decide +kernel
theorem d_M_write_329 : decode b_M_write 329 = .ok (.iload_n 2, 1) := by decide +kernel
theorem d_M_write_330 : decode b_M_write 330 = .ok (.iload_n 3, 1) := by decide +kernel
theorem d_M_write_331 : decode b_M_write 331 = .ok (.iload 5, 2) := by decide +kernel
theorem d_M_write_333 : decode b_M_write 333 = .ok (.iload 6, 2) := by decide +kernel
theorem d_M_write_335 : decode b_M_write 335 = .ok (.iload 8, 2) := by decide +kernel
theorem d_M_write_337 : decode b_M_write 337 = .ok (.iload 9, 2) := by decide +kernel
theorem d_M_write_339 : decode b_M_write 339 = .ok (.invokevirtual 189, 3) := by decide +kernel
theorem d_M_write_342 : decode b_M_write 342 = .ok (.aload_n 0, 1) := by decide +kernel
theorem d_M_write_343 : decode b_M_write 343 = .ok (.getfield 121, 3) := by decide +kernel
theorem d_M_write_346 : decode b_M_write 346 = .ok (.sipush 900, 3) := by decide +kernel
theorem d_M_write_349 : decode b_M_write 349 = .ok (.if_icmp .le 6, 3) := by decide +kernel
theorem d_M_write_352 : decode b_M_write 352 = .ok (.bipush (-3), 2) := by decide +kernel
theorem d_M_write_354 : decode b_M_write 354 = .ok (.ireturn, 1) := by decide +kernel
theorem d_M_write_355 : decode b_M_write 355 = .ok (.aload_n 0, 1) := by decide +kernel
theorem d_M_write_356 : decode b_M_write 356 = .ok (.aload_n 0, 1) := by decide +kernel
theorem d_M_write_357 : decode b_M_write 357 = .ok (.getfield 93, 3) := by decide +kernel
theorem d_M_write_360 : decode b_M_write 360 = .ok (.iconst 4, 1) := by decide +kernel
theorem d_M_write_361 : decode b_M_write 361 = .ok (.iload 10, 2) := by decide +kernel
theorem d_M_write_363 : decode b_M_write 363 = .ok (.i2l, 1) := by decide +kernel
theorem d_M_write_364 : decode b_M_write 364 = .ok (.invokevirtual 124, 3) := by decide +kernel
theorem d_M_write_367 : decode b_M_write 367 = .ok (.aload_n 0, 1) := by decide +kernel
theorem d_M_write_368 : decode b_M_write 368 = .ok (.getfield 121, 3) := by decide +kernel
theorem d_M_write_371 : decode b_M_write 371 = .ok (.aload_n 0, 1) := by decide +kernel
theorem d_M_write_372 : decode b_M_write 372 = .ok (.getfield 63, 3) := by decide +kernel
theorem d_M_write_375 : decode b_M_write 375 = .ok (.isub, 1) := by decide +kernel
theorem d_M_write_376 : decode b_M_write 376 = .ok (.istore 11, 2) := by decide +kernel
theorem d_M_write_378 : decode b_M_write 378 = .ok (.aload_n 0, 1) := by decide +kernel
theorem d_M_write_379 : decode b_M_write 379 = .ok (.aload_n 0, 1) := by decide +kernel
theorem d_M_write_380 : decode b_M_write 380 = .ok (.getfield 121, 3) := by decide +kernel
theorem d_M_write_383 : decode b_M_write 383 = .ok (.putfield 63, 3) := by decide +kernel
theorem d_M_write_386 : decode b_M_write 386 = .ok (.iload 11, 2) := by decide +kernel
theorem d_M_write_388 : decode b_M_write 388 = .ok (.ireturn, 1) := by decide +kernel
def wp_M_write_b73 (post : Int32 → (Nat → Int32) → (Nat → Int32) → (Nat → Int32) → (Nat → Int32) → (Nat → Int32) → (Nat → Int32) → (Nat → Int32) → (Nat → Int32) → (Nat → Int32) → Prop) (f_p0_lengths : Nat → Int32) (f_p0_letters : Nat → Int32) (f_p0_samples : Nat → Int32) (f_p0_tags : Nat → Int32) (I_p0 : Nat → Int32) (f_p0_data : Nat → Int32) (f_p0_dirs : Nat → Int32) (f_p0_file : Nat → Int32) (f_p0_many : Nat → Int32) (f_p0_nibs : Nat → Int32) (f_p0_places : Nat → Int32) (f_p0_sizes : Nat → Int32) (f_p0_start : Nat → Int32) : Prop :=
  (((I_p0 12) = 0 →
    post (-2) I_p0 f_p0_data f_p0_dirs f_p0_file f_p0_many f_p0_nibs f_p0_places f_p0_sizes f_p0_start) ∧
   (¬ (I_p0 12) = 0 →
    post (-3) I_p0 f_p0_data f_p0_dirs f_p0_file f_p0_many f_p0_nibs f_p0_places f_p0_sizes f_p0_start))
def wp_M_write_b315 (post : Int32 → (Nat → Int32) → (Nat → Int32) → (Nat → Int32) → (Nat → Int32) → (Nat → Int32) → (Nat → Int32) → (Nat → Int32) → (Nat → Int32) → (Nat → Int32) → Prop) (k236 : (Nat → Int32) → (Nat → Int32) → (Nat → Int32) → (Nat → Int32) → (Nat → Int32) → (Nat → Int32) → (Nat → Int32) → (Nat → Int32) → (Nat → Int32) → Int32 → Int32 → Int32 → Int32 → Int32 → Int32 → Int32 → Int32 → Int32 → Prop) (f_p0_lengths : Nat → Int32) (f_p0_letters : Nat → Int32) (f_p0_samples : Nat → Int32) (f_p0_tags : Nat → Int32) (I_p0 : Nat → Int32) (f_p0_data : Nat → Int32) (f_p0_dirs : Nat → Int32) (f_p0_file : Nat → Int32) (f_p0_many : Nat → Int32) (f_p0_nibs : Nat → Int32) (f_p0_places : Nat → Int32) (f_p0_sizes : Nat → Int32) (f_p0_start : Nat → Int32) (x1 : Int32) (x2 : Int32) (x3 : Int32) (x5 : Int32) (x6 : Int32) (x7 : Int32) (x8 : Int32) (x9 : Int32) (x10 : Int32) : Prop :=
  k236 I_p0 f_p0_data f_p0_dirs f_p0_file f_p0_many f_p0_nibs f_p0_places f_p0_sizes f_p0_start x1 x2 x3 x5 x6 x7 x8 x9 (x10 + 1)
def wp_M_write_b303 (post : Int32 → (Nat → Int32) → (Nat → Int32) → (Nat → Int32) → (Nat → Int32) → (Nat → Int32) → (Nat → Int32) → (Nat → Int32) → (Nat → Int32) → (Nat → Int32) → Prop) (k236 : (Nat → Int32) → (Nat → Int32) → (Nat → Int32) → (Nat → Int32) → (Nat → Int32) → (Nat → Int32) → (Nat → Int32) → (Nat → Int32) → (Nat → Int32) → Int32 → Int32 → Int32 → Int32 → Int32 → Int32 → Int32 → Int32 → Int32 → Prop) (f_p0_lengths : Nat → Int32) (f_p0_letters : Nat → Int32) (f_p0_samples : Nat → Int32) (f_p0_tags : Nat → Int32) (I_p0 : Nat → Int32) (f_p0_data : Nat → Int32) (f_p0_dirs : Nat → Int32) (f_p0_file : Nat → Int32) (f_p0_many : Nat → Int32) (f_p0_nibs : Nat → Int32) (f_p0_places : Nat → Int32) (f_p0_sizes : Nat → Int32) (f_p0_start : Nat → Int32) (x1 : Int32) (x2 : Int32) (x3 : Int32) (x5 : Int32) (x6 : Int32) (x7 : Int32) (x8 : Int32) (x10 : Int32) (x11 : Int32) (s0 : Int32) : Prop :=
  wp_M_text (fun (I_p0_308 : Nat → Int32) (f_p0_file_308 : Nat → Int32) =>
    wp_M_even (fun (I_p0_312 : Nat → Int32) (f_p0_file_312 : Nat → Int32) =>
      wp_M_write_b315 post k236 f_p0_lengths f_p0_letters f_p0_samples f_p0_tags I_p0_312 f_p0_data f_p0_dirs f_p0_file_312 f_p0_many f_p0_nibs f_p0_places f_p0_sizes f_p0_start x1 x2 x3 x5 x6 x7 x8 s0 x10) I_p0_308 f_p0_file_308) f_p0_lengths f_p0_letters I_p0 f_p0_file x11
def wp_M_write_b286 (post : Int32 → (Nat → Int32) → (Nat → Int32) → (Nat → Int32) → (Nat → Int32) → (Nat → Int32) → (Nat → Int32) → (Nat → Int32) → (Nat → Int32) → (Nat → Int32) → Prop) (k236 : (Nat → Int32) → (Nat → Int32) → (Nat → Int32) → (Nat → Int32) → (Nat → Int32) → (Nat → Int32) → (Nat → Int32) → (Nat → Int32) → (Nat → Int32) → Int32 → Int32 → Int32 → Int32 → Int32 → Int32 → Int32 → Int32 → Int32 → Prop) (f_p0_lengths : Nat → Int32) (f_p0_letters : Nat → Int32) (f_p0_samples : Nat → Int32) (f_p0_tags : Nat → Int32) (I_p0 : Nat → Int32) (f_p0_data : Nat → Int32) (f_p0_dirs : Nat → Int32) (f_p0_file : Nat → Int32) (f_p0_many : Nat → Int32) (f_p0_nibs : Nat → Int32) (f_p0_places : Nat → Int32) (f_p0_sizes : Nat → Int32) (f_p0_start : Nat → Int32) (x1 : Int32) (x2 : Int32) (x3 : Int32) (x5 : Int32) (x6 : Int32) (x7 : Int32) (x9 : Int32) (x10 : Int32) (x11 : Int32) (s0 : Int32) : Prop :=
  ((x11 = 1 →
    wp_M_write_b303 post k236 f_p0_lengths f_p0_letters f_p0_samples f_p0_tags I_p0 f_p0_data f_p0_dirs f_p0_file f_p0_many f_p0_nibs f_p0_places f_p0_sizes f_p0_start x1 x2 x3 x5 x6 x7 s0 x10 x11 (I_p0 2)) ∧
   (¬ x11 = 1 →
    wp_M_write_b303 post k236 f_p0_lengths f_p0_letters f_p0_samples f_p0_tags I_p0 f_p0_data f_p0_dirs f_p0_file f_p0_many f_p0_nibs f_p0_places f_p0_sizes f_p0_start x1 x2 x3 x5 x6 x7 s0 x10 x11 x9))
def wp_M_write_b259 (post : Int32 → (Nat → Int32) → (Nat → Int32) → (Nat → Int32) → (Nat → Int32) → (Nat → Int32) → (Nat → Int32) → (Nat → Int32) → (Nat → Int32) → (Nat → Int32) → Prop) (k236 : (Nat → Int32) → (Nat → Int32) → (Nat → Int32) → (Nat → Int32) → (Nat → Int32) → (Nat → Int32) → (Nat → Int32) → (Nat → Int32) → (Nat → Int32) → Int32 → Int32 → Int32 → Int32 → Int32 → Int32 → Int32 → Int32 → Int32 → Prop) (f_p0_lengths : Nat → Int32) (f_p0_letters : Nat → Int32) (f_p0_samples : Nat → Int32) (f_p0_tags : Nat → Int32) (I_p0 : Nat → Int32) (f_p0_data : Nat → Int32) (f_p0_dirs : Nat → Int32) (f_p0_file : Nat → Int32) (f_p0_many : Nat → Int32) (f_p0_nibs : Nat → Int32) (f_p0_places : Nat → Int32) (f_p0_sizes : Nat → Int32) (f_p0_start : Nat → Int32) (x1 : Int32) (x2 : Int32) (x3 : Int32) (x5 : Int32) (x6 : Int32) (x7 : Int32) (x8 : Int32) (x9 : Int32) (x10 : Int32) (s0 : Int32) : Prop :=
  vp_in s0 2 ∧
  (((f_p0_lengths (s0).toNatClampNeg) ≤ 3 →
    wp_M_write_b315 post k236 f_p0_lengths f_p0_letters f_p0_samples f_p0_tags I_p0 f_p0_data f_p0_dirs f_p0_file f_p0_many f_p0_nibs f_p0_places f_p0_sizes f_p0_start x1 x2 x3 x5 x6 x7 x8 x9 x10) ∧
   (¬ (f_p0_lengths (s0).toNatClampNeg) ≤ 3 →
    ((s0 = 0 →
      wp_M_write_b286 post k236 f_p0_lengths f_p0_letters f_p0_samples f_p0_tags I_p0 f_p0_data f_p0_dirs f_p0_file f_p0_many f_p0_nibs f_p0_places f_p0_sizes f_p0_start x1 x2 x3 x5 x6 x7 x9 x10 s0 (I_p0 2)) ∧
     (¬ s0 = 0 →
      wp_M_write_b286 post k236 f_p0_lengths f_p0_letters f_p0_samples f_p0_tags I_p0 f_p0_data f_p0_dirs f_p0_file f_p0_many f_p0_nibs f_p0_places f_p0_sizes f_p0_start x1 x2 x3 x5 x6 x7 x9 x10 s0 x8))))
def wp_M_write_l236 (post : Int32 → (Nat → Int32) → (Nat → Int32) → (Nat → Int32) → (Nat → Int32) → (Nat → Int32) → (Nat → Int32) → (Nat → Int32) → (Nat → Int32) → (Nat → Int32) → Prop) (f_p0_lengths : Nat → Int32) (f_p0_letters : Nat → Int32) (f_p0_samples : Nat → Int32) (f_p0_tags : Nat → Int32) : Nat → (Nat → Int32) → (Nat → Int32) → (Nat → Int32) → (Nat → Int32) → (Nat → Int32) → (Nat → Int32) → (Nat → Int32) → (Nat → Int32) → (Nat → Int32) → Int32 → Int32 → Int32 → Int32 → Int32 → Int32 → Int32 → Int32 → Int32 → Prop
  | 0, _, _, _, _, _, _, _, _, _, _, _, _, _, _, _, _, _, _ => False
  | n + 1, I_p0, f_p0_data, f_p0_dirs, f_p0_file, f_p0_many, f_p0_nibs, f_p0_places, f_p0_sizes, f_p0_start, x1, x2, x3, x5, x6, x7, x8, x9, x10 =>
    (((I_p0 7) ≤ x10 →
      wp_M_directory (fun (I_p0_339 : Nat → Int32) (f_p0_file_339 : Nat → Int32) =>
        (((I_p0_339 2) ≤ 900 →
          wp_M_store (fun (f_p0_file_364 : Nat → Int32) =>
            post ((I_p0_339 2) - (I_p0_339 1)) (upd I_p0_339 1 (I_p0_339 2)) f_p0_data f_p0_dirs f_p0_file_364 f_p0_many f_p0_nibs f_p0_places f_p0_sizes f_p0_start) I_p0_339 f_p0_file_339 (I_p0_339 14) 4 ((I_p0 2).toInt64)) ∧
         (¬ (I_p0_339 2) ≤ 900 →
          post (-3) I_p0_339 f_p0_data f_p0_dirs f_p0_file_339 f_p0_many f_p0_nibs f_p0_places f_p0_sizes f_p0_start))) f_p0_lengths f_p0_letters f_p0_places f_p0_sizes f_p0_tags I_p0 f_p0_file x1 x2 x3 x5 x6 x8 x9) ∧
     (¬ (I_p0 7) ≤ x10 →
      ((x10 = 0 →
        wp_M_write_b259 post (wp_M_write_l236 post f_p0_lengths f_p0_letters f_p0_samples f_p0_tags n) f_p0_lengths f_p0_letters f_p0_samples f_p0_tags I_p0 f_p0_data f_p0_dirs f_p0_file f_p0_many f_p0_nibs f_p0_places f_p0_sizes f_p0_start x1 x2 x3 x5 x6 x7 x8 x9 x10 x7) ∧
       (¬ x10 = 0 →
        wp_M_write_b259 post (wp_M_write_l236 post f_p0_lengths f_p0_letters f_p0_samples f_p0_tags n) f_p0_lengths f_p0_letters f_p0_samples f_p0_tags I_p0 f_p0_data f_p0_dirs f_p0_file f_p0_many f_p0_nibs f_p0_places f_p0_sizes f_p0_start x1 x2 x3 x5 x6 x7 x8 x9 x10 (1 - x7)))))
def wp_M_write_b225 (post : Int32 → (Nat → Int32) → (Nat → Int32) → (Nat → Int32) → (Nat → Int32) → (Nat → Int32) → (Nat → Int32) → (Nat → Int32) → (Nat → Int32) → (Nat → Int32) → Prop) (f_p0_lengths : Nat → Int32) (f_p0_letters : Nat → Int32) (f_p0_samples : Nat → Int32) (f_p0_tags : Nat → Int32) (I_p0 : Nat → Int32) (f_p0_data : Nat → Int32) (f_p0_dirs : Nat → Int32) (f_p0_file : Nat → Int32) (f_p0_many : Nat → Int32) (f_p0_nibs : Nat → Int32) (f_p0_places : Nat → Int32) (f_p0_sizes : Nat → Int32) (f_p0_start : Nat → Int32) (x1 : Int32) (x2 : Int32) (x3 : Int32) (x5 : Int32) (x6 : Int32) (s0 : Int32) : Prop :=
  (∃ n1 : Nat, wp_M_write_l236 post f_p0_lengths f_p0_letters f_p0_samples f_p0_tags n1 I_p0 f_p0_data f_p0_dirs f_p0_file f_p0_many f_p0_nibs f_p0_places f_p0_sizes f_p0_start x1 x2 x3 x5 x6 s0 0 0 0)
def wp_M_write_b224 (post : Int32 → (Nat → Int32) → (Nat → Int32) → (Nat → Int32) → (Nat → Int32) → (Nat → Int32) → (Nat → Int32) → (Nat → Int32) → (Nat → Int32) → (Nat → Int32) → Prop) (f_p0_lengths : Nat → Int32) (f_p0_letters : Nat → Int32) (f_p0_samples : Nat → Int32) (f_p0_tags : Nat → Int32) (I_p0 : Nat → Int32) (f_p0_data : Nat → Int32) (f_p0_dirs : Nat → Int32) (f_p0_file : Nat → Int32) (f_p0_many : Nat → Int32) (f_p0_nibs : Nat → Int32) (f_p0_places : Nat → Int32) (f_p0_sizes : Nat → Int32) (f_p0_start : Nat → Int32) (x1 : Int32) (x2 : Int32) (x3 : Int32) (x5 : Int32) (x6 : Int32) : Prop :=
  wp_M_write_b225 post f_p0_lengths f_p0_letters f_p0_samples f_p0_tags I_p0 f_p0_data f_p0_dirs f_p0_file f_p0_many f_p0_nibs f_p0_places f_p0_sizes f_p0_start x1 x2 x3 x5 x6 0
def wp_M_write_b197 (post : Int32 → (Nat → Int32) → (Nat → Int32) → (Nat → Int32) → (Nat → Int32) → (Nat → Int32) → (Nat → Int32) → (Nat → Int32) → (Nat → Int32) → (Nat → Int32) → Prop) (f_p0_lengths : Nat → Int32) (f_p0_letters : Nat → Int32) (f_p0_samples : Nat → Int32) (f_p0_tags : Nat → Int32) (I_p0 : Nat → Int32) (f_p0_data : Nat → Int32) (f_p0_dirs : Nat → Int32) (f_p0_file : Nat → Int32) (f_p0_many : Nat → Int32) (f_p0_nibs : Nat → Int32) (f_p0_places : Nat → Int32) (f_p0_sizes : Nat → Int32) (f_p0_start : Nat → Int32) (x1 : Int32) (x2 : Int32) (x3 : Int32) (x5 : Int32) (x6 : Int32) : Prop :=
  (((I_p0 7) = 2 →
    vp_in 1 2 ∧
    vp_in 0 2 ∧
    (((f_p0_tags 0) ≤ (f_p0_tags 1) →
      wp_M_write_b224 post f_p0_lengths f_p0_letters f_p0_samples f_p0_tags I_p0 f_p0_data f_p0_dirs f_p0_file f_p0_many f_p0_nibs f_p0_places f_p0_sizes f_p0_start x1 x2 x3 x5 x6) ∧
     (¬ (f_p0_tags 0) ≤ (f_p0_tags 1) →
      wp_M_write_b225 post f_p0_lengths f_p0_letters f_p0_samples f_p0_tags I_p0 f_p0_data f_p0_dirs f_p0_file f_p0_many f_p0_nibs f_p0_places f_p0_sizes f_p0_start x1 x2 x3 x5 x6 1))) ∧
   (¬ (I_p0 7) = 2 →
    wp_M_write_b224 post f_p0_lengths f_p0_letters f_p0_samples f_p0_tags I_p0 f_p0_data f_p0_dirs f_p0_file f_p0_many f_p0_nibs f_p0_places f_p0_sizes f_p0_start x1 x2 x3 x5 x6))
def wp_M_write_l165 (post : Int32 → (Nat → Int32) → (Nat → Int32) → (Nat → Int32) → (Nat → Int32) → (Nat → Int32) → (Nat → Int32) → (Nat → Int32) → (Nat → Int32) → (Nat → Int32) → Prop) (f_p0_lengths : Nat → Int32) (f_p0_letters : Nat → Int32) (f_p0_samples : Nat → Int32) (f_p0_tags : Nat → Int32) : Nat → (Nat → Int32) → (Nat → Int32) → (Nat → Int32) → (Nat → Int32) → (Nat → Int32) → (Nat → Int32) → (Nat → Int32) → (Nat → Int32) → (Nat → Int32) → Int32 → Int32 → Int32 → Int32 → Int32 → Int32 → Prop
  | 0, _, _, _, _, _, _, _, _, _, _, _, _, _, _, _ => False
  | n + 1, I_p0, f_p0_data, f_p0_dirs, f_p0_file, f_p0_many, f_p0_nibs, f_p0_places, f_p0_sizes, f_p0_start, x1, x2, x3, x5, x6, x7 =>
    ((x5 ≤ x7 →
      wp_M_write_b197 post f_p0_lengths f_p0_letters f_p0_samples f_p0_tags I_p0 f_p0_data f_p0_dirs f_p0_file f_p0_many f_p0_nibs f_p0_places f_p0_sizes f_p0_start x1 x2 x3 x5 x6) ∧
     (¬ x5 ≤ x7 →
      ((x5 ≤ 1 →
        wp_M_write_b197 post f_p0_lengths f_p0_letters f_p0_samples f_p0_tags I_p0 f_p0_data f_p0_dirs f_p0_file f_p0_many f_p0_nibs f_p0_places f_p0_sizes f_p0_start x1 x2 x3 x5 x6) ∧
       (¬ x5 ≤ 1 →
        vp_in x7 16 ∧
        wp_M_number (fun (I_p0_188 : Nat → Int32) (f_p0_file_188 : Nat → Int32) =>
          wp_M_write_l165 post f_p0_lengths f_p0_letters f_p0_samples f_p0_tags n I_p0_188 f_p0_data f_p0_dirs f_p0_file_188 f_p0_many f_p0_nibs f_p0_places f_p0_sizes f_p0_start x1 x2 x3 x5 x6 (x7 + 1)) I_p0 f_p0_file 4 ((f_p0_sizes (x7).toNatClampNeg).toInt64)))))
def wp_M_write_b162 (post : Int32 → (Nat → Int32) → (Nat → Int32) → (Nat → Int32) → (Nat → Int32) → (Nat → Int32) → (Nat → Int32) → (Nat → Int32) → (Nat → Int32) → (Nat → Int32) → Prop) (f_p0_lengths : Nat → Int32) (f_p0_letters : Nat → Int32) (f_p0_samples : Nat → Int32) (f_p0_tags : Nat → Int32) (I_p0 : Nat → Int32) (f_p0_data : Nat → Int32) (f_p0_dirs : Nat → Int32) (f_p0_file : Nat → Int32) (f_p0_many : Nat → Int32) (f_p0_nibs : Nat → Int32) (f_p0_places : Nat → Int32) (f_p0_sizes : Nat → Int32) (f_p0_start : Nat → Int32) (x1 : Int32) (x2 : Int32) (x3 : Int32) (x5 : Int32) (x6 : Int32) : Prop :=
  (∃ n1 : Nat, wp_M_write_l165 post f_p0_lengths f_p0_letters f_p0_samples f_p0_tags n1 I_p0 f_p0_data f_p0_dirs f_p0_file f_p0_many f_p0_nibs f_p0_places f_p0_sizes f_p0_start x1 x2 x3 x5 x6 0)
def wp_M_write_l130 (post : Int32 → (Nat → Int32) → (Nat → Int32) → (Nat → Int32) → (Nat → Int32) → (Nat → Int32) → (Nat → Int32) → (Nat → Int32) → (Nat → Int32) → (Nat → Int32) → Prop) (f_p0_lengths : Nat → Int32) (f_p0_letters : Nat → Int32) (f_p0_samples : Nat → Int32) (f_p0_tags : Nat → Int32) : Nat → (Nat → Int32) → (Nat → Int32) → (Nat → Int32) → (Nat → Int32) → (Nat → Int32) → (Nat → Int32) → (Nat → Int32) → (Nat → Int32) → (Nat → Int32) → Int32 → Int32 → Int32 → Int32 → Int32 → Int32 → Prop
  | 0, _, _, _, _, _, _, _, _, _, _, _, _, _, _, _ => False
  | n + 1, I_p0, f_p0_data, f_p0_dirs, f_p0_file, f_p0_many, f_p0_nibs, f_p0_places, f_p0_sizes, f_p0_start, x1, x2, x3, x5, x6, x7 =>
    ((x5 ≤ x7 →
      wp_M_write_b162 post f_p0_lengths f_p0_letters f_p0_samples f_p0_tags I_p0 f_p0_data f_p0_dirs f_p0_file f_p0_many f_p0_nibs f_p0_places f_p0_sizes f_p0_start x1 x2 x3 x5 x6) ∧
     (¬ x5 ≤ x7 →
      ((x5 ≤ 1 →
        wp_M_write_b162 post f_p0_lengths f_p0_letters f_p0_samples f_p0_tags I_p0 f_p0_data f_p0_dirs f_p0_file f_p0_many f_p0_nibs f_p0_places f_p0_sizes f_p0_start x1 x2 x3 x5 x6) ∧
       (¬ x5 ≤ 1 →
        vp_in x7 16 ∧
        wp_M_number (fun (I_p0_153 : Nat → Int32) (f_p0_file_153 : Nat → Int32) =>
          wp_M_write_l130 post f_p0_lengths f_p0_letters f_p0_samples f_p0_tags n I_p0_153 f_p0_data f_p0_dirs f_p0_file_153 f_p0_many f_p0_nibs f_p0_places f_p0_sizes f_p0_start x1 x2 x3 x5 x6 (x7 + 1)) I_p0 f_p0_file 4 ((f_p0_places (x7).toNatClampNeg).toInt64)))))
def wp_M_write_b21 (post : Int32 → (Nat → Int32) → (Nat → Int32) → (Nat → Int32) → (Nat → Int32) → (Nat → Int32) → (Nat → Int32) → (Nat → Int32) → (Nat → Int32) → (Nat → Int32) → Prop) (f_p0_lengths : Nat → Int32) (f_p0_letters : Nat → Int32) (f_p0_samples : Nat → Int32) (f_p0_tags : Nat → Int32) (I_p0 : Nat → Int32) (f_p0_data : Nat → Int32) (f_p0_dirs : Nat → Int32) (f_p0_file : Nat → Int32) (f_p0_many : Nat → Int32) (f_p0_nibs : Nat → Int32) (f_p0_places : Nat → Int32) (f_p0_sizes : Nat → Int32) (f_p0_start : Nat → Int32) (x1 : Int32) (x2 : Int32) (x3 : Int32) (s0 : Int32) : Prop :=
  ((s0 = 0 →
    post (-1) I_p0 f_p0_data f_p0_dirs f_p0_file f_p0_many f_p0_nibs f_p0_places f_p0_sizes f_p0_start) ∧
   (¬ s0 = 0 →
    ((x3 < 1 →
      post (-1) I_p0 f_p0_data f_p0_dirs f_p0_file f_p0_many f_p0_nibs f_p0_places f_p0_sizes f_p0_start) ∧
     (¬ x3 < 1 →
      ((2 < x3 →
        post (-1) I_p0 f_p0_data f_p0_dirs f_p0_file f_p0_many f_p0_nibs f_p0_places f_p0_sizes f_p0_start) ∧
       (¬ 2 < x3 →
        ((x2 < 1 →
          post (-1) I_p0 f_p0_data f_p0_dirs f_p0_file f_p0_many f_p0_nibs f_p0_places f_p0_sizes f_p0_start) ∧
         (¬ x2 < 1 →
          ((x2 ≤ (I_p0 4) →
            wp_M_walk (fun (I_p0_54 : Nat → Int32) (f_p0_dirs_54 : Nat → Int32) =>
              (((I_p0_54 12) = 0 →
                wp_M_write_b73 post f_p0_lengths f_p0_letters f_p0_samples f_p0_tags I_p0_54 f_p0_data f_p0_dirs_54 f_p0_file f_p0_many f_p0_nibs f_p0_places f_p0_sizes f_p0_start) ∧
               (¬ (I_p0_54 12) = 0 →
                (((I_p0_54 11) = 8 →
                  wp_M_write_b73 post f_p0_lengths f_p0_letters f_p0_samples f_p0_tags I_p0_54 f_p0_data f_p0_dirs_54 f_p0_file f_p0_many f_p0_nibs f_p0_places f_p0_sizes f_p0_start) ∧
                 (¬ (I_p0_54 11) = 8 →
                  ¬ x2 = 0 ∧
                  wp_M_lay (fun (I_p0_114 : Nat → Int32) (f_p0_data_114 : Nat → Int32) (f_p0_file_114 : Nat → Int32) (f_p0_many_114 : Nat → Int32) (f_p0_nibs_114 : Nat → Int32) (f_p0_places_114 : Nat → Int32) (f_p0_sizes_114 : Nat → Int32) (f_p0_start_114 : Nat → Int32) =>
                    wp_M_even (fun (I_p0_118 : Nat → Int32) (f_p0_file_118 : Nat → Int32) =>
                      (∃ n1 : Nat, wp_M_write_l130 post f_p0_lengths f_p0_letters f_p0_samples f_p0_tags n1 I_p0_118 f_p0_data_114 f_p0_dirs_54 f_p0_file_118 f_p0_many_114 f_p0_nibs_114 f_p0_places_114 f_p0_sizes_114 f_p0_start_114 x1 x2 x3 ((((I_p0_54 4) + x2) - 1) / x2) (I_p0_118 2) 0)) I_p0_114 f_p0_file_114) f_p0_samples (upd I_p0_54 2 (I_p0_54 1)) f_p0_data f_p0_file f_p0_many f_p0_nibs f_p0_places f_p0_sizes f_p0_start x1 x2 x3 ((((I_p0_54 4) + x2) - 1) / x2)))))) f_p0_file I_p0 f_p0_dirs) ∧
           (¬ x2 ≤ (I_p0 4) →
            post (-1) I_p0 f_p0_data f_p0_dirs f_p0_file f_p0_many f_p0_nibs f_p0_places f_p0_sizes f_p0_start))))))))))
def wp_M_write_b16 (post : Int32 → (Nat → Int32) → (Nat → Int32) → (Nat → Int32) → (Nat → Int32) → (Nat → Int32) → (Nat → Int32) → (Nat → Int32) → (Nat → Int32) → (Nat → Int32) → Prop) (f_p0_lengths : Nat → Int32) (f_p0_letters : Nat → Int32) (f_p0_samples : Nat → Int32) (f_p0_tags : Nat → Int32) (I_p0 : Nat → Int32) (f_p0_data : Nat → Int32) (f_p0_dirs : Nat → Int32) (f_p0_file : Nat → Int32) (f_p0_many : Nat → Int32) (f_p0_nibs : Nat → Int32) (f_p0_places : Nat → Int32) (f_p0_sizes : Nat → Int32) (f_p0_start : Nat → Int32) (x1 : Int32) (x2 : Int32) (x3 : Int32) : Prop :=
  wp_M_write_b21 post f_p0_lengths f_p0_letters f_p0_samples f_p0_tags I_p0 f_p0_data f_p0_dirs f_p0_file f_p0_many f_p0_nibs f_p0_places f_p0_sizes f_p0_start x1 x2 x3 1
def wp_M_write (post : Int32 → (Nat → Int32) → (Nat → Int32) → (Nat → Int32) → (Nat → Int32) → (Nat → Int32) → (Nat → Int32) → (Nat → Int32) → (Nat → Int32) → (Nat → Int32) → Prop) (f_p0_lengths : Nat → Int32) (f_p0_letters : Nat → Int32) (f_p0_samples : Nat → Int32) (f_p0_tags : Nat → Int32) (I_p0 : Nat → Int32) (f_p0_data : Nat → Int32) (f_p0_dirs : Nat → Int32) (f_p0_file : Nat → Int32) (f_p0_many : Nat → Int32) (f_p0_nibs : Nat → Int32) (f_p0_places : Nat → Int32) (f_p0_sizes : Nat → Int32) (f_p0_start : Nat → Int32) (x1 : Int32) (x2 : Int32) (x3 : Int32) : Prop :=
  ((x1 = 1 →
    wp_M_write_b16 post f_p0_lengths f_p0_letters f_p0_samples f_p0_tags I_p0 f_p0_data f_p0_dirs f_p0_file f_p0_many f_p0_nibs f_p0_places f_p0_sizes f_p0_start x1 x2 x3) ∧
   (¬ x1 = 1 →
    ((x1 = 5 →
      wp_M_write_b16 post f_p0_lengths f_p0_letters f_p0_samples f_p0_tags I_p0 f_p0_data f_p0_dirs f_p0_file f_p0_many f_p0_nibs f_p0_places f_p0_sizes f_p0_start x1 x2 x3) ∧
     (¬ x1 = 5 →
      ((x1 = 32773 →
        wp_M_write_b16 post f_p0_lengths f_p0_letters f_p0_samples f_p0_tags I_p0 f_p0_data f_p0_dirs f_p0_file f_p0_many f_p0_nibs f_p0_places f_p0_sizes f_p0_start x1 x2 x3) ∧
       (¬ x1 = 32773 →
        wp_M_write_b21 post f_p0_lengths f_p0_letters f_p0_samples f_p0_tags I_p0 f_p0_data f_p0_dirs f_p0_file f_p0_many f_p0_nibs f_p0_places f_p0_sizes f_p0_start x1 x2 x3 0))))))
set_option maxRecDepth 100000 in
set_option maxHeartbeats 4000000 in
theorem c_M_write (l : Launch) (dC : Nat → ClassId) (dI : Nat → Nat → Nat) (cI : ClassId) (a_p0 : Nat) (A_p0 : Nat → Nat) (f_p0_lengths : Nat → Int32) (f_p0_letters : Nat → Int32) (f_p0_samples : Nat → Int32) (f_p0_tags : Nat → Int32) (I_p0 : Nat → Int32) (f_p0_data : Nat → Int32) (f_p0_dirs : Nat → Int32) (f_p0_file : Nat → Int32) (f_p0_many : Nat → Int32) (f_p0_nibs : Nat → Int32) (f_p0_places : Nat → Int32) (f_p0_sizes : Nat → Int32) (f_p0_start : Nat → Int32) (x1 : Int32) (x2 : Int32) (x3 : Int32) {post : Int32 → (Nat → Int32) → (Nat → Int32) → (Nat → Int32) → (Nat → Int32) → (Nat → Int32) → (Nat → Int32) → (Nat → Int32) → (Nat → Int32) → (Nat → Int32) → Prop} (hw : wp_M_write post f_p0_lengths f_p0_letters f_p0_samples f_p0_tags I_p0 f_p0_data f_p0_dirs f_p0_file f_p0_many f_p0_nibs f_p0_places f_p0_sizes f_p0_start x1 x2 x3) : gm_i l y_M_write ws_M_write ({ frames := 5, cells := 0, slots := 0, locals := 126 } : Room) (dC, dI) vwCl [(cI, .int)] [.ref a_p0, .int x1, .int x2, .int x3] [oM a_p0 A_p0 I_p0, gz cI (A_p0 15) 256 f_p0_data, gz cI (A_p0 13) 8 f_p0_dirs, gz cI (A_p0 0) 2000 f_p0_file, gz cI (A_p0 9) 2 f_p0_lengths, gz cI (A_p0 10) 24 f_p0_letters, gz cI (A_p0 18) 120 f_p0_many, gz cI (A_p0 16) 512 f_p0_nibs, gz cI (A_p0 21) 16 f_p0_places, gz cI (A_p0 6) 256 f_p0_samples, gz cI (A_p0 22) 16 f_p0_sizes, gz cI (A_p0 17) 120 f_p0_start, gz cI (A_p0 8) 2 f_p0_tags] (fun (u : (Nat → Int32) × (Nat → Int32) × (Nat → Int32) × (Nat → Int32) × (Nat → Int32) × (Nat → Int32) × (Nat → Int32) × (Nat → Int32) × (Nat → Int32)) => [oM a_p0 A_p0 u.1, gz cI (A_p0 15) 256 u.2.1, gz cI (A_p0 13) 8 u.2.2.1, gz cI (A_p0 0) 2000 u.2.2.2.1, gz cI (A_p0 9) 2 f_p0_lengths, gz cI (A_p0 10) 24 f_p0_letters, gz cI (A_p0 18) 120 u.2.2.2.2.1, gz cI (A_p0 16) 512 u.2.2.2.2.2.1, gz cI (A_p0 21) 16 u.2.2.2.2.2.2.1, gz cI (A_p0 6) 256 f_p0_samples, gz cI (A_p0 22) 16 u.2.2.2.2.2.2.2.1, gz cI (A_p0 17) 120 u.2.2.2.2.2.2.2.2, gz cI (A_p0 8) 2 f_p0_tags]) (fun (r : Int32) (u : (Nat → Int32) × (Nat → Int32) × (Nat → Int32) × (Nat → Int32) × (Nat → Int32) × (Nat → Int32) × (Nat → Int32) × (Nat → Int32) × (Nat → Int32)) => post r u.1 u.2.1 u.2.2.1 u.2.2.2.1 u.2.2.2.2.1 u.2.2.2.2.2.1 u.2.2.2.2.2.2.1 u.2.2.2.2.2.2.2.1 u.2.2.2.2.2.2.2.2) := by
  refine gm_iof (cc := b_M_write) (maxL := 12) (ty := .int) (by decide) rfl (Nat.le_of_ble_eq_true rfl) ?_
  intro p e s m args below meth c A Q hx hb hml hown hg hK hN hA hret
  have hown : s.vm.findClass R_M = some m.cls := hown
  have b73 : ∀ (H : Heap) (locs : List Loc) (ls : Array Slot) (I_p0 : Nat → Int32) (f_p0_data : Nat → Int32) (f_p0_dirs : Nat → Int32) (f_p0_file : Nat → Int32) (f_p0_many : Nat → Int32) (f_p0_nibs : Nat → Int32) (f_p0_places : Nat → Int32) (f_p0_sizes : Nat → Int32) (f_p0_start : Nat → Int32), va_P (dC, dI) vwCl [oM a_p0 A_p0 I_p0, gz cI (A_p0 15) 256 f_p0_data, gz cI (A_p0 13) 8 f_p0_dirs, gz cI (A_p0 0) 2000 f_p0_file, gz cI (A_p0 9) 2 f_p0_lengths, gz cI (A_p0 10) 24 f_p0_letters, gz cI (A_p0 18) 120 f_p0_many, gz cI (A_p0 16) 512 f_p0_nibs, gz cI (A_p0 21) 16 f_p0_places, gz cI (A_p0 6) 256 f_p0_samples, gz cI (A_p0 22) 16 f_p0_sizes, gz cI (A_p0 17) 120 f_p0_start, gz cI (A_p0 8) 2 f_p0_tags] H → va_D A [oM a_p0 A_p0 I_p0, gz cI (A_p0 15) 256 f_p0_data, gz cI (A_p0 13) 8 f_p0_dirs, gz cI (A_p0 0) 2000 f_p0_file, gz cI (A_p0 9) 2 f_p0_lengths, gz cI (A_p0 10) 24 f_p0_letters, gz cI (A_p0 18) 120 f_p0_many, gz cI (A_p0 16) 512 f_p0_nibs, gz cI (A_p0 21) 16 f_p0_places, gz cI (A_p0 6) 256 f_p0_samples, gz cI (A_p0 22) 16 f_p0_sizes, gz cI (A_p0 17) 120 f_p0_start, gz cI (A_p0 8) 2 f_p0_tags] → va_S A s.heap H locs → lv_has ls 12 [(0, .ref a_p0)] → wp_M_write_b73 post f_p0_lengths f_p0_letters f_p0_samples f_p0_tags I_p0 f_p0_data f_p0_dirs f_p0_file f_p0_many f_p0_nibs f_p0_places f_p0_sizes f_p0_start → W p l e ({ frames := 5, cells := 0, slots := 0, locals := 126 } : Room) s m args below meth c H locs 0 0 Q (F0 m 73 ls []) := by
    intro H locs ls I_p0 f_p0_data f_p0_dirs f_p0_file f_p0_many f_p0_nibs f_p0_places f_p0_sizes f_p0_start hP hD hS hl hw
    unfold wp_M_write_b73 at hw
    refine lv_aload_n hx hb d_M_write_73 rfl (lv_at hl 0 rfl) ?_
    refine va_get (D := (dC, dI)) (ci := 10) (v := .int (I_p0 12)) (C := R_M) (T := T_M) (N := 30) hx hb hg in_M hown hK hP 0 rfl rfl 12 (by decide) (hg _ t_770) (fun _ h9 => h9) rfl d_M_write_74 ?_
    refine lv_if_eq hx hb d_M_write_77 rfl (fun hc => ?_) (fun hc => ?_)
    · have hw := hw.1 hc
      refine lv_bipush (v := (-2)) hx hb d_M_write_85 (by decide) ?_
      exact hret _ _ _ _ _ (I_p0, f_p0_data, f_p0_dirs, f_p0_file, f_p0_many, f_p0_nibs, f_p0_places, f_p0_sizes, f_p0_start) d_M_write_87 rfl hP hD hS hw
    · have hw := hw.2 hc
      refine lv_bipush (v := (-3)) hx hb d_M_write_80 (by decide) ?_
      refine lv_goto hx hb d_M_write_82 rfl ?_
      exact hret _ _ _ _ _ (I_p0, f_p0_data, f_p0_dirs, f_p0_file, f_p0_many, f_p0_nibs, f_p0_places, f_p0_sizes, f_p0_start) d_M_write_87 rfl hP hD hS hw
  have b315 : ∀ (k236 : (Nat → Int32) → (Nat → Int32) → (Nat → Int32) → (Nat → Int32) → (Nat → Int32) → (Nat → Int32) → (Nat → Int32) → (Nat → Int32) → (Nat → Int32) → Int32 → Int32 → Int32 → Int32 → Int32 → Int32 → Int32 → Int32 → Int32 → Prop), (∀ (H : Heap) (locs : List Loc) (ls : Array Slot) (I_p0 : Nat → Int32) (f_p0_data : Nat → Int32) (f_p0_dirs : Nat → Int32) (f_p0_file : Nat → Int32) (f_p0_many : Nat → Int32) (f_p0_nibs : Nat → Int32) (f_p0_places : Nat → Int32) (f_p0_sizes : Nat → Int32) (f_p0_start : Nat → Int32) (x1 : Int32) (x2 : Int32) (x3 : Int32) (x5 : Int32) (x6 : Int32) (x7 : Int32) (x8 : Int32) (x9 : Int32) (x10 : Int32), va_P (dC, dI) vwCl [oM a_p0 A_p0 I_p0, gz cI (A_p0 15) 256 f_p0_data, gz cI (A_p0 13) 8 f_p0_dirs, gz cI (A_p0 0) 2000 f_p0_file, gz cI (A_p0 9) 2 f_p0_lengths, gz cI (A_p0 10) 24 f_p0_letters, gz cI (A_p0 18) 120 f_p0_many, gz cI (A_p0 16) 512 f_p0_nibs, gz cI (A_p0 21) 16 f_p0_places, gz cI (A_p0 6) 256 f_p0_samples, gz cI (A_p0 22) 16 f_p0_sizes, gz cI (A_p0 17) 120 f_p0_start, gz cI (A_p0 8) 2 f_p0_tags] H → va_D A [oM a_p0 A_p0 I_p0, gz cI (A_p0 15) 256 f_p0_data, gz cI (A_p0 13) 8 f_p0_dirs, gz cI (A_p0 0) 2000 f_p0_file, gz cI (A_p0 9) 2 f_p0_lengths, gz cI (A_p0 10) 24 f_p0_letters, gz cI (A_p0 18) 120 f_p0_many, gz cI (A_p0 16) 512 f_p0_nibs, gz cI (A_p0 21) 16 f_p0_places, gz cI (A_p0 6) 256 f_p0_samples, gz cI (A_p0 22) 16 f_p0_sizes, gz cI (A_p0 17) 120 f_p0_start, gz cI (A_p0 8) 2 f_p0_tags] → va_S A s.heap H locs → lv_has ls 12 [(0, .ref a_p0), (1, .int x1), (2, .int x2), (3, .int x3), (5, .int x5), (6, .int x6), (7, .int x7), (8, .int x8), (9, .int x9), (10, .int x10)] → k236 I_p0 f_p0_data f_p0_dirs f_p0_file f_p0_many f_p0_nibs f_p0_places f_p0_sizes f_p0_start x1 x2 x3 x5 x6 x7 x8 x9 x10 → W p l e ({ frames := 5, cells := 0, slots := 0, locals := 126 } : Room) s m args below meth c H locs 0 0 Q (F0 m 236 ls [])) → ∀ (H : Heap) (locs : List Loc) (ls : Array Slot) (I_p0 : Nat → Int32) (f_p0_data : Nat → Int32) (f_p0_dirs : Nat → Int32) (f_p0_file : Nat → Int32) (f_p0_many : Nat → Int32) (f_p0_nibs : Nat → Int32) (f_p0_places : Nat → Int32) (f_p0_sizes : Nat → Int32) (f_p0_start : Nat → Int32) (x1 : Int32) (x2 : Int32) (x3 : Int32) (x5 : Int32) (x6 : Int32) (x7 : Int32) (x8 : Int32) (x9 : Int32) (x10 : Int32), va_P (dC, dI) vwCl [oM a_p0 A_p0 I_p0, gz cI (A_p0 15) 256 f_p0_data, gz cI (A_p0 13) 8 f_p0_dirs, gz cI (A_p0 0) 2000 f_p0_file, gz cI (A_p0 9) 2 f_p0_lengths, gz cI (A_p0 10) 24 f_p0_letters, gz cI (A_p0 18) 120 f_p0_many, gz cI (A_p0 16) 512 f_p0_nibs, gz cI (A_p0 21) 16 f_p0_places, gz cI (A_p0 6) 256 f_p0_samples, gz cI (A_p0 22) 16 f_p0_sizes, gz cI (A_p0 17) 120 f_p0_start, gz cI (A_p0 8) 2 f_p0_tags] H → va_D A [oM a_p0 A_p0 I_p0, gz cI (A_p0 15) 256 f_p0_data, gz cI (A_p0 13) 8 f_p0_dirs, gz cI (A_p0 0) 2000 f_p0_file, gz cI (A_p0 9) 2 f_p0_lengths, gz cI (A_p0 10) 24 f_p0_letters, gz cI (A_p0 18) 120 f_p0_many, gz cI (A_p0 16) 512 f_p0_nibs, gz cI (A_p0 21) 16 f_p0_places, gz cI (A_p0 6) 256 f_p0_samples, gz cI (A_p0 22) 16 f_p0_sizes, gz cI (A_p0 17) 120 f_p0_start, gz cI (A_p0 8) 2 f_p0_tags] → va_S A s.heap H locs → lv_has ls 12 [(0, .ref a_p0), (1, .int x1), (2, .int x2), (3, .int x3), (5, .int x5), (6, .int x6), (7, .int x7), (8, .int x8), (9, .int x9), (10, .int x10)] → wp_M_write_b315 post k236 f_p0_lengths f_p0_letters f_p0_samples f_p0_tags I_p0 f_p0_data f_p0_dirs f_p0_file f_p0_many f_p0_nibs f_p0_places f_p0_sizes f_p0_start x1 x2 x3 x5 x6 x7 x8 x9 x10 → W p l e ({ frames := 5, cells := 0, slots := 0, locals := 126 } : Room) s m args below meth c H locs 0 0 Q (F0 m 315 ls []) := by
    intro k236 hk236 H locs ls I_p0 f_p0_data f_p0_dirs f_p0_file f_p0_many f_p0_nibs f_p0_places f_p0_sizes f_p0_start x1 x2 x3 x5 x6 x7 x8 x9 x10 hP hD hS hl hw
    unfold wp_M_write_b315 at hw
    refine lv_iinc (k := 9) (v := (x10 + 1)) (lv' := [(10, .int (x10 + 1)), (0, .ref a_p0), (1, .int x1), (2, .int x2), (3, .int x3), (5, .int x5), (6, .int x6), (7, .int x7), (8, .int x8), (9, .int x9)]) hx hb d_M_write_315 hl rfl (congrArg (fun z => x10 + z) (by decide : Int32.ofInt 1 = 1)) (by decide) rfl (fun ls hl => ?_)
    refine lv_goto hx hb d_M_write_318 rfl ?_
    exact hk236 _ _ _ I_p0 f_p0_data f_p0_dirs f_p0_file f_p0_many f_p0_nibs f_p0_places f_p0_sizes f_p0_start x1 x2 x3 x5 x6 x7 x8 x9 (x10 + 1) hP hD hS (lv_sub hl [1, 2, 3, 4, 5, 6, 7, 8, 9, 0] rfl) hw
  have b303 : ∀ (k236 : (Nat → Int32) → (Nat → Int32) → (Nat → Int32) → (Nat → Int32) → (Nat → Int32) → (Nat → Int32) → (Nat → Int32) → (Nat → Int32) → (Nat → Int32) → Int32 → Int32 → Int32 → Int32 → Int32 → Int32 → Int32 → Int32 → Int32 → Prop), (∀ (H : Heap) (locs : List Loc) (ls : Array Slot) (I_p0 : Nat → Int32) (f_p0_data : Nat → Int32) (f_p0_dirs : Nat → Int32) (f_p0_file : Nat → Int32) (f_p0_many : Nat → Int32) (f_p0_nibs : Nat → Int32) (f_p0_places : Nat → Int32) (f_p0_sizes : Nat → Int32) (f_p0_start : Nat → Int32) (x1 : Int32) (x2 : Int32) (x3 : Int32) (x5 : Int32) (x6 : Int32) (x7 : Int32) (x8 : Int32) (x9 : Int32) (x10 : Int32), va_P (dC, dI) vwCl [oM a_p0 A_p0 I_p0, gz cI (A_p0 15) 256 f_p0_data, gz cI (A_p0 13) 8 f_p0_dirs, gz cI (A_p0 0) 2000 f_p0_file, gz cI (A_p0 9) 2 f_p0_lengths, gz cI (A_p0 10) 24 f_p0_letters, gz cI (A_p0 18) 120 f_p0_many, gz cI (A_p0 16) 512 f_p0_nibs, gz cI (A_p0 21) 16 f_p0_places, gz cI (A_p0 6) 256 f_p0_samples, gz cI (A_p0 22) 16 f_p0_sizes, gz cI (A_p0 17) 120 f_p0_start, gz cI (A_p0 8) 2 f_p0_tags] H → va_D A [oM a_p0 A_p0 I_p0, gz cI (A_p0 15) 256 f_p0_data, gz cI (A_p0 13) 8 f_p0_dirs, gz cI (A_p0 0) 2000 f_p0_file, gz cI (A_p0 9) 2 f_p0_lengths, gz cI (A_p0 10) 24 f_p0_letters, gz cI (A_p0 18) 120 f_p0_many, gz cI (A_p0 16) 512 f_p0_nibs, gz cI (A_p0 21) 16 f_p0_places, gz cI (A_p0 6) 256 f_p0_samples, gz cI (A_p0 22) 16 f_p0_sizes, gz cI (A_p0 17) 120 f_p0_start, gz cI (A_p0 8) 2 f_p0_tags] → va_S A s.heap H locs → lv_has ls 12 [(0, .ref a_p0), (1, .int x1), (2, .int x2), (3, .int x3), (5, .int x5), (6, .int x6), (7, .int x7), (8, .int x8), (9, .int x9), (10, .int x10)] → k236 I_p0 f_p0_data f_p0_dirs f_p0_file f_p0_many f_p0_nibs f_p0_places f_p0_sizes f_p0_start x1 x2 x3 x5 x6 x7 x8 x9 x10 → W p l e ({ frames := 5, cells := 0, slots := 0, locals := 126 } : Room) s m args below meth c H locs 0 0 Q (F0 m 236 ls [])) → ∀ (H : Heap) (locs : List Loc) (ls : Array Slot) (I_p0 : Nat → Int32) (f_p0_data : Nat → Int32) (f_p0_dirs : Nat → Int32) (f_p0_file : Nat → Int32) (f_p0_many : Nat → Int32) (f_p0_nibs : Nat → Int32) (f_p0_places : Nat → Int32) (f_p0_sizes : Nat → Int32) (f_p0_start : Nat → Int32) (x1 : Int32) (x2 : Int32) (x3 : Int32) (x5 : Int32) (x6 : Int32) (x7 : Int32) (x8 : Int32) (x10 : Int32) (x11 : Int32) (s0 : Int32), va_P (dC, dI) vwCl [oM a_p0 A_p0 I_p0, gz cI (A_p0 15) 256 f_p0_data, gz cI (A_p0 13) 8 f_p0_dirs, gz cI (A_p0 0) 2000 f_p0_file, gz cI (A_p0 9) 2 f_p0_lengths, gz cI (A_p0 10) 24 f_p0_letters, gz cI (A_p0 18) 120 f_p0_many, gz cI (A_p0 16) 512 f_p0_nibs, gz cI (A_p0 21) 16 f_p0_places, gz cI (A_p0 6) 256 f_p0_samples, gz cI (A_p0 22) 16 f_p0_sizes, gz cI (A_p0 17) 120 f_p0_start, gz cI (A_p0 8) 2 f_p0_tags] H → va_D A [oM a_p0 A_p0 I_p0, gz cI (A_p0 15) 256 f_p0_data, gz cI (A_p0 13) 8 f_p0_dirs, gz cI (A_p0 0) 2000 f_p0_file, gz cI (A_p0 9) 2 f_p0_lengths, gz cI (A_p0 10) 24 f_p0_letters, gz cI (A_p0 18) 120 f_p0_many, gz cI (A_p0 16) 512 f_p0_nibs, gz cI (A_p0 21) 16 f_p0_places, gz cI (A_p0 6) 256 f_p0_samples, gz cI (A_p0 22) 16 f_p0_sizes, gz cI (A_p0 17) 120 f_p0_start, gz cI (A_p0 8) 2 f_p0_tags] → va_S A s.heap H locs → lv_has ls 12 [(0, .ref a_p0), (1, .int x1), (2, .int x2), (3, .int x3), (5, .int x5), (6, .int x6), (7, .int x7), (8, .int x8), (10, .int x10), (11, .int x11)] → wp_M_write_b303 post k236 f_p0_lengths f_p0_letters f_p0_samples f_p0_tags I_p0 f_p0_data f_p0_dirs f_p0_file f_p0_many f_p0_nibs f_p0_places f_p0_sizes f_p0_start x1 x2 x3 x5 x6 x7 x8 x10 x11 s0 → W p l e ({ frames := 5, cells := 0, slots := 0, locals := 126 } : Room) s m args below meth c H locs 0 0 Q (F0 m 303 ls [.int s0]) := by
    intro k236 hk236 H locs ls I_p0 f_p0_data f_p0_dirs f_p0_file f_p0_many f_p0_nibs f_p0_places f_p0_sizes f_p0_start x1 x2 x3 x5 x6 x7 x8 x10 x11 s0 hP hD hS hl hw
    unfold wp_M_write_b303 at hw
    refine lv_istore (lv' := [(9, .int s0), (0, .ref a_p0), (1, .int x1), (2, .int x2), (3, .int x3), (5, .int x5), (6, .int x6), (7, .int x7), (8, .int x8), (10, .int x10), (11, .int x11)]) hx hb d_M_write_303 hl (by decide) rfl (fun ls hl => ?_)
    refine lv_aload_n hx hb d_M_write_305 rfl (lv_at hl 1 rfl) ?_
    refine lv_iload hx hb d_M_write_306 (lv_at hl 10 rfl) ?_
    refine gc_v (wn := fun u => [oM a_p0 A_p0 u.1, gz cI (A_p0 15) 256 f_p0_data, gz cI (A_p0 13) 8 f_p0_dirs, gz cI (A_p0 0) 2000 u.2, gz cI (A_p0 9) 2 f_p0_lengths, gz cI (A_p0 10) 24 f_p0_letters, gz cI (A_p0 18) 120 f_p0_many, gz cI (A_p0 16) 512 f_p0_nibs, gz cI (A_p0 21) 16 f_p0_places, gz cI (A_p0 6) 256 f_p0_samples, gz cI (A_p0 22) 16 f_p0_sizes, gz cI (A_p0 17) 120 f_p0_start, gz cI (A_p0 8) 2 f_p0_tags]) (wr := [gz cI (A_p0 15) 256 f_p0_data, gz cI (A_p0 13) 8 f_p0_dirs, gz cI (A_p0 18) 120 f_p0_many, gz cI (A_p0 16) 512 f_p0_nibs, gz cI (A_p0 21) 16 f_p0_places, gz cI (A_p0 6) 256 f_p0_samples, gz cI (A_p0 22) 16 f_p0_sizes, gz cI (A_p0 17) 120 f_p0_start, gz cI (A_p0 8) 2 f_p0_tags]) (gr_V (As := [.int x11]) (rest := []) ⟨hx, hb, hml, hown, hg⟩ (c_M_text l dC dI cI a_p0 A_p0 f_p0_lengths f_p0_letters I_p0 f_p0_file x11 hw _) (cwV 1 hg (gg_V t_1000 t_1002 t_45 t_71 t_1003) rfl rfl rfl (by decide +kernel) ⟨Nat.le_of_ble_eq_true rfl, Nat.le_of_ble_eq_true rfl⟩) hK hN hP hD [0, 3, 4, 5] (by decide) rfl 0 10 rfl rfl rfl rfl hl.1 rfl (Nat.le_of_ble_eq_true rfl) d_M_write_308 ⟨Nat.le_of_ble_eq_true rfl, Nat.le_of_ble_eq_true rfl⟩) rfl rfl hP hD hS hA [0, 3, 4, 5] [1, 2, 6, 7, 8, 9, 10, 11, 12] [9, 0, 1, 10, 11, 12, 2, 3, 4, 5, 6, 7, 8] rfl rfl (by decide) (by decide) (by decide) (fun _ => rfl) ?_
    intro u9 H locs hw hP hD hS
    obtain ⟨I_p0_308, f_p0_file_308⟩ := u9
    try dsimp only at hw
    have hP : va_P (dC, dI) vwCl [oM a_p0 A_p0 I_p0_308, gz cI (A_p0 15) 256 f_p0_data, gz cI (A_p0 13) 8 f_p0_dirs, gz cI (A_p0 0) 2000 f_p0_file_308, gz cI (A_p0 9) 2 f_p0_lengths, gz cI (A_p0 10) 24 f_p0_letters, gz cI (A_p0 18) 120 f_p0_many, gz cI (A_p0 16) 512 f_p0_nibs, gz cI (A_p0 21) 16 f_p0_places, gz cI (A_p0 6) 256 f_p0_samples, gz cI (A_p0 22) 16 f_p0_sizes, gz cI (A_p0 17) 120 f_p0_start, gz cI (A_p0 8) 2 f_p0_tags] H := hP
    have hD : va_D A [oM a_p0 A_p0 I_p0_308, gz cI (A_p0 15) 256 f_p0_data, gz cI (A_p0 13) 8 f_p0_dirs, gz cI (A_p0 0) 2000 f_p0_file_308, gz cI (A_p0 9) 2 f_p0_lengths, gz cI (A_p0 10) 24 f_p0_letters, gz cI (A_p0 18) 120 f_p0_many, gz cI (A_p0 16) 512 f_p0_nibs, gz cI (A_p0 21) 16 f_p0_places, gz cI (A_p0 6) 256 f_p0_samples, gz cI (A_p0 22) 16 f_p0_sizes, gz cI (A_p0 17) 120 f_p0_start, gz cI (A_p0 8) 2 f_p0_tags] := hD
    refine lv_aload_n hx hb d_M_write_311 rfl (lv_at hl 1 rfl) ?_
    refine gc_v (wn := fun u => [oM a_p0 A_p0 u.1, gz cI (A_p0 15) 256 f_p0_data, gz cI (A_p0 13) 8 f_p0_dirs, gz cI (A_p0 0) 2000 u.2, gz cI (A_p0 9) 2 f_p0_lengths, gz cI (A_p0 10) 24 f_p0_letters, gz cI (A_p0 18) 120 f_p0_many, gz cI (A_p0 16) 512 f_p0_nibs, gz cI (A_p0 21) 16 f_p0_places, gz cI (A_p0 6) 256 f_p0_samples, gz cI (A_p0 22) 16 f_p0_sizes, gz cI (A_p0 17) 120 f_p0_start, gz cI (A_p0 8) 2 f_p0_tags]) (wr := [gz cI (A_p0 15) 256 f_p0_data, gz cI (A_p0 13) 8 f_p0_dirs, gz cI (A_p0 9) 2 f_p0_lengths, gz cI (A_p0 10) 24 f_p0_letters, gz cI (A_p0 18) 120 f_p0_many, gz cI (A_p0 16) 512 f_p0_nibs, gz cI (A_p0 21) 16 f_p0_places, gz cI (A_p0 6) 256 f_p0_samples, gz cI (A_p0 22) 16 f_p0_sizes, gz cI (A_p0 17) 120 f_p0_start, gz cI (A_p0 8) 2 f_p0_tags]) (gr_V (As := []) (rest := []) ⟨hx, hb, hml, hown, hg⟩ (c_M_even l dC dI cI a_p0 A_p0 I_p0_308 f_p0_file_308 hw _) (cwV 0 hg (gg_V t_950 t_952 t_34 t_71 t_953) rfl rfl rfl (by decide +kernel) ⟨Nat.le_of_ble_eq_true rfl, Nat.le_of_ble_eq_true rfl⟩) hK hN hP hD [0, 3] (by decide) rfl 0 10 rfl rfl rfl rfl hl.1 rfl (Nat.le_of_ble_eq_true rfl) d_M_write_312 ⟨Nat.le_of_ble_eq_true rfl, Nat.le_of_ble_eq_true rfl⟩) rfl rfl hP hD hS hA [0, 3] [1, 2, 4, 5, 6, 7, 8, 9, 10, 11, 12] [11, 0, 1, 12, 2, 3, 4, 5, 6, 7, 8, 9, 10] rfl rfl (by decide) (by decide) (by decide) (fun _ => rfl) ?_
    intro u9 H locs hw hP hD hS
    obtain ⟨I_p0_312, f_p0_file_312⟩ := u9
    try dsimp only at hw
    have hP : va_P (dC, dI) vwCl [oM a_p0 A_p0 I_p0_312, gz cI (A_p0 15) 256 f_p0_data, gz cI (A_p0 13) 8 f_p0_dirs, gz cI (A_p0 0) 2000 f_p0_file_312, gz cI (A_p0 9) 2 f_p0_lengths, gz cI (A_p0 10) 24 f_p0_letters, gz cI (A_p0 18) 120 f_p0_many, gz cI (A_p0 16) 512 f_p0_nibs, gz cI (A_p0 21) 16 f_p0_places, gz cI (A_p0 6) 256 f_p0_samples, gz cI (A_p0 22) 16 f_p0_sizes, gz cI (A_p0 17) 120 f_p0_start, gz cI (A_p0 8) 2 f_p0_tags] H := hP
    have hD : va_D A [oM a_p0 A_p0 I_p0_312, gz cI (A_p0 15) 256 f_p0_data, gz cI (A_p0 13) 8 f_p0_dirs, gz cI (A_p0 0) 2000 f_p0_file_312, gz cI (A_p0 9) 2 f_p0_lengths, gz cI (A_p0 10) 24 f_p0_letters, gz cI (A_p0 18) 120 f_p0_many, gz cI (A_p0 16) 512 f_p0_nibs, gz cI (A_p0 21) 16 f_p0_places, gz cI (A_p0 6) 256 f_p0_samples, gz cI (A_p0 22) 16 f_p0_sizes, gz cI (A_p0 17) 120 f_p0_start, gz cI (A_p0 8) 2 f_p0_tags] := hD
    exact b315 _ hk236 _ _ _ I_p0_312 f_p0_data f_p0_dirs f_p0_file_312 f_p0_many f_p0_nibs f_p0_places f_p0_sizes f_p0_start x1 x2 x3 x5 x6 x7 x8 s0 x10 hP hD hS (lv_sub hl [1, 2, 3, 4, 5, 6, 7, 8, 0, 9] rfl) hw
  have b286 : ∀ (k236 : (Nat → Int32) → (Nat → Int32) → (Nat → Int32) → (Nat → Int32) → (Nat → Int32) → (Nat → Int32) → (Nat → Int32) → (Nat → Int32) → (Nat → Int32) → Int32 → Int32 → Int32 → Int32 → Int32 → Int32 → Int32 → Int32 → Int32 → Prop), (∀ (H : Heap) (locs : List Loc) (ls : Array Slot) (I_p0 : Nat → Int32) (f_p0_data : Nat → Int32) (f_p0_dirs : Nat → Int32) (f_p0_file : Nat → Int32) (f_p0_many : Nat → Int32) (f_p0_nibs : Nat → Int32) (f_p0_places : Nat → Int32) (f_p0_sizes : Nat → Int32) (f_p0_start : Nat → Int32) (x1 : Int32) (x2 : Int32) (x3 : Int32) (x5 : Int32) (x6 : Int32) (x7 : Int32) (x8 : Int32) (x9 : Int32) (x10 : Int32), va_P (dC, dI) vwCl [oM a_p0 A_p0 I_p0, gz cI (A_p0 15) 256 f_p0_data, gz cI (A_p0 13) 8 f_p0_dirs, gz cI (A_p0 0) 2000 f_p0_file, gz cI (A_p0 9) 2 f_p0_lengths, gz cI (A_p0 10) 24 f_p0_letters, gz cI (A_p0 18) 120 f_p0_many, gz cI (A_p0 16) 512 f_p0_nibs, gz cI (A_p0 21) 16 f_p0_places, gz cI (A_p0 6) 256 f_p0_samples, gz cI (A_p0 22) 16 f_p0_sizes, gz cI (A_p0 17) 120 f_p0_start, gz cI (A_p0 8) 2 f_p0_tags] H → va_D A [oM a_p0 A_p0 I_p0, gz cI (A_p0 15) 256 f_p0_data, gz cI (A_p0 13) 8 f_p0_dirs, gz cI (A_p0 0) 2000 f_p0_file, gz cI (A_p0 9) 2 f_p0_lengths, gz cI (A_p0 10) 24 f_p0_letters, gz cI (A_p0 18) 120 f_p0_many, gz cI (A_p0 16) 512 f_p0_nibs, gz cI (A_p0 21) 16 f_p0_places, gz cI (A_p0 6) 256 f_p0_samples, gz cI (A_p0 22) 16 f_p0_sizes, gz cI (A_p0 17) 120 f_p0_start, gz cI (A_p0 8) 2 f_p0_tags] → va_S A s.heap H locs → lv_has ls 12 [(0, .ref a_p0), (1, .int x1), (2, .int x2), (3, .int x3), (5, .int x5), (6, .int x6), (7, .int x7), (8, .int x8), (9, .int x9), (10, .int x10)] → k236 I_p0 f_p0_data f_p0_dirs f_p0_file f_p0_many f_p0_nibs f_p0_places f_p0_sizes f_p0_start x1 x2 x3 x5 x6 x7 x8 x9 x10 → W p l e ({ frames := 5, cells := 0, slots := 0, locals := 126 } : Room) s m args below meth c H locs 0 0 Q (F0 m 236 ls [])) → ∀ (H : Heap) (locs : List Loc) (ls : Array Slot) (I_p0 : Nat → Int32) (f_p0_data : Nat → Int32) (f_p0_dirs : Nat → Int32) (f_p0_file : Nat → Int32) (f_p0_many : Nat → Int32) (f_p0_nibs : Nat → Int32) (f_p0_places : Nat → Int32) (f_p0_sizes : Nat → Int32) (f_p0_start : Nat → Int32) (x1 : Int32) (x2 : Int32) (x3 : Int32) (x5 : Int32) (x6 : Int32) (x7 : Int32) (x9 : Int32) (x10 : Int32) (x11 : Int32) (s0 : Int32), va_P (dC, dI) vwCl [oM a_p0 A_p0 I_p0, gz cI (A_p0 15) 256 f_p0_data, gz cI (A_p0 13) 8 f_p0_dirs, gz cI (A_p0 0) 2000 f_p0_file, gz cI (A_p0 9) 2 f_p0_lengths, gz cI (A_p0 10) 24 f_p0_letters, gz cI (A_p0 18) 120 f_p0_many, gz cI (A_p0 16) 512 f_p0_nibs, gz cI (A_p0 21) 16 f_p0_places, gz cI (A_p0 6) 256 f_p0_samples, gz cI (A_p0 22) 16 f_p0_sizes, gz cI (A_p0 17) 120 f_p0_start, gz cI (A_p0 8) 2 f_p0_tags] H → va_D A [oM a_p0 A_p0 I_p0, gz cI (A_p0 15) 256 f_p0_data, gz cI (A_p0 13) 8 f_p0_dirs, gz cI (A_p0 0) 2000 f_p0_file, gz cI (A_p0 9) 2 f_p0_lengths, gz cI (A_p0 10) 24 f_p0_letters, gz cI (A_p0 18) 120 f_p0_many, gz cI (A_p0 16) 512 f_p0_nibs, gz cI (A_p0 21) 16 f_p0_places, gz cI (A_p0 6) 256 f_p0_samples, gz cI (A_p0 22) 16 f_p0_sizes, gz cI (A_p0 17) 120 f_p0_start, gz cI (A_p0 8) 2 f_p0_tags] → va_S A s.heap H locs → lv_has ls 12 [(0, .ref a_p0), (1, .int x1), (2, .int x2), (3, .int x3), (5, .int x5), (6, .int x6), (7, .int x7), (9, .int x9), (10, .int x10), (11, .int x11)] → wp_M_write_b286 post k236 f_p0_lengths f_p0_letters f_p0_samples f_p0_tags I_p0 f_p0_data f_p0_dirs f_p0_file f_p0_many f_p0_nibs f_p0_places f_p0_sizes f_p0_start x1 x2 x3 x5 x6 x7 x9 x10 x11 s0 → W p l e ({ frames := 5, cells := 0, slots := 0, locals := 126 } : Room) s m args below meth c H locs 0 0 Q (F0 m 286 ls [.int s0]) := by
    intro k236 hk236 H locs ls I_p0 f_p0_data f_p0_dirs f_p0_file f_p0_many f_p0_nibs f_p0_places f_p0_sizes f_p0_start x1 x2 x3 x5 x6 x7 x9 x10 x11 s0 hP hD hS hl hw
    unfold wp_M_write_b286 at hw
    refine lv_istore (lv' := [(8, .int s0), (0, .ref a_p0), (1, .int x1), (2, .int x2), (3, .int x3), (5, .int x5), (6, .int x6), (7, .int x7), (9, .int x9), (10, .int x10), (11, .int x11)]) hx hb d_M_write_286 hl (by decide) rfl (fun ls hl => ?_)
    refine lv_iload hx hb d_M_write_288 (lv_at hl 10 rfl) ?_
    refine lv_iconst (v := 1) hx hb d_M_write_290 (by decide) ?_
    refine lv_icmp_ne hx hb d_M_write_291 rfl (fun hc => ?_) (fun hc => ?_)
    · have hw := hw.2 hc
      refine lv_iload hx hb d_M_write_301 (lv_at hl 8 rfl) ?_
      exact b303 _ hk236 _ _ _ I_p0 f_p0_data f_p0_dirs f_p0_file f_p0_many f_p0_nibs f_p0_places f_p0_sizes f_p0_start x1 x2 x3 x5 x6 x7 s0 x10 x11 x9 hP hD hS (lv_sub hl [1, 2, 3, 4, 5, 6, 7, 0, 9, 10] rfl) hw
    · have hw := hw.1 hc
      refine lv_aload_n hx hb d_M_write_294 rfl (lv_at hl 1 rfl) ?_
      refine va_get (D := (dC, dI)) (ci := 10) (v := .int (I_p0 2)) (C := R_M) (T := T_M) (N := 30) hx hb hg in_M hown hK hP 0 rfl rfl 2 (by decide) (hg _ t_760) (fun _ h9 => h9) rfl d_M_write_295 ?_
      refine lv_goto hx hb d_M_write_298 rfl ?_
      exact b303 _ hk236 _ _ _ I_p0 f_p0_data f_p0_dirs f_p0_file f_p0_many f_p0_nibs f_p0_places f_p0_sizes f_p0_start x1 x2 x3 x5 x6 x7 s0 x10 x11 (I_p0 2) hP hD hS (lv_sub hl [1, 2, 3, 4, 5, 6, 7, 0, 9, 10] rfl) hw
  have b259 : ∀ (k236 : (Nat → Int32) → (Nat → Int32) → (Nat → Int32) → (Nat → Int32) → (Nat → Int32) → (Nat → Int32) → (Nat → Int32) → (Nat → Int32) → (Nat → Int32) → Int32 → Int32 → Int32 → Int32 → Int32 → Int32 → Int32 → Int32 → Int32 → Prop), (∀ (H : Heap) (locs : List Loc) (ls : Array Slot) (I_p0 : Nat → Int32) (f_p0_data : Nat → Int32) (f_p0_dirs : Nat → Int32) (f_p0_file : Nat → Int32) (f_p0_many : Nat → Int32) (f_p0_nibs : Nat → Int32) (f_p0_places : Nat → Int32) (f_p0_sizes : Nat → Int32) (f_p0_start : Nat → Int32) (x1 : Int32) (x2 : Int32) (x3 : Int32) (x5 : Int32) (x6 : Int32) (x7 : Int32) (x8 : Int32) (x9 : Int32) (x10 : Int32), va_P (dC, dI) vwCl [oM a_p0 A_p0 I_p0, gz cI (A_p0 15) 256 f_p0_data, gz cI (A_p0 13) 8 f_p0_dirs, gz cI (A_p0 0) 2000 f_p0_file, gz cI (A_p0 9) 2 f_p0_lengths, gz cI (A_p0 10) 24 f_p0_letters, gz cI (A_p0 18) 120 f_p0_many, gz cI (A_p0 16) 512 f_p0_nibs, gz cI (A_p0 21) 16 f_p0_places, gz cI (A_p0 6) 256 f_p0_samples, gz cI (A_p0 22) 16 f_p0_sizes, gz cI (A_p0 17) 120 f_p0_start, gz cI (A_p0 8) 2 f_p0_tags] H → va_D A [oM a_p0 A_p0 I_p0, gz cI (A_p0 15) 256 f_p0_data, gz cI (A_p0 13) 8 f_p0_dirs, gz cI (A_p0 0) 2000 f_p0_file, gz cI (A_p0 9) 2 f_p0_lengths, gz cI (A_p0 10) 24 f_p0_letters, gz cI (A_p0 18) 120 f_p0_many, gz cI (A_p0 16) 512 f_p0_nibs, gz cI (A_p0 21) 16 f_p0_places, gz cI (A_p0 6) 256 f_p0_samples, gz cI (A_p0 22) 16 f_p0_sizes, gz cI (A_p0 17) 120 f_p0_start, gz cI (A_p0 8) 2 f_p0_tags] → va_S A s.heap H locs → lv_has ls 12 [(0, .ref a_p0), (1, .int x1), (2, .int x2), (3, .int x3), (5, .int x5), (6, .int x6), (7, .int x7), (8, .int x8), (9, .int x9), (10, .int x10)] → k236 I_p0 f_p0_data f_p0_dirs f_p0_file f_p0_many f_p0_nibs f_p0_places f_p0_sizes f_p0_start x1 x2 x3 x5 x6 x7 x8 x9 x10 → W p l e ({ frames := 5, cells := 0, slots := 0, locals := 126 } : Room) s m args below meth c H locs 0 0 Q (F0 m 236 ls [])) → ∀ (H : Heap) (locs : List Loc) (ls : Array Slot) (I_p0 : Nat → Int32) (f_p0_data : Nat → Int32) (f_p0_dirs : Nat → Int32) (f_p0_file : Nat → Int32) (f_p0_many : Nat → Int32) (f_p0_nibs : Nat → Int32) (f_p0_places : Nat → Int32) (f_p0_sizes : Nat → Int32) (f_p0_start : Nat → Int32) (x1 : Int32) (x2 : Int32) (x3 : Int32) (x5 : Int32) (x6 : Int32) (x7 : Int32) (x8 : Int32) (x9 : Int32) (x10 : Int32) (s0 : Int32), va_P (dC, dI) vwCl [oM a_p0 A_p0 I_p0, gz cI (A_p0 15) 256 f_p0_data, gz cI (A_p0 13) 8 f_p0_dirs, gz cI (A_p0 0) 2000 f_p0_file, gz cI (A_p0 9) 2 f_p0_lengths, gz cI (A_p0 10) 24 f_p0_letters, gz cI (A_p0 18) 120 f_p0_many, gz cI (A_p0 16) 512 f_p0_nibs, gz cI (A_p0 21) 16 f_p0_places, gz cI (A_p0 6) 256 f_p0_samples, gz cI (A_p0 22) 16 f_p0_sizes, gz cI (A_p0 17) 120 f_p0_start, gz cI (A_p0 8) 2 f_p0_tags] H → va_D A [oM a_p0 A_p0 I_p0, gz cI (A_p0 15) 256 f_p0_data, gz cI (A_p0 13) 8 f_p0_dirs, gz cI (A_p0 0) 2000 f_p0_file, gz cI (A_p0 9) 2 f_p0_lengths, gz cI (A_p0 10) 24 f_p0_letters, gz cI (A_p0 18) 120 f_p0_many, gz cI (A_p0 16) 512 f_p0_nibs, gz cI (A_p0 21) 16 f_p0_places, gz cI (A_p0 6) 256 f_p0_samples, gz cI (A_p0 22) 16 f_p0_sizes, gz cI (A_p0 17) 120 f_p0_start, gz cI (A_p0 8) 2 f_p0_tags] → va_S A s.heap H locs → lv_has ls 12 [(0, .ref a_p0), (1, .int x1), (2, .int x2), (3, .int x3), (5, .int x5), (6, .int x6), (7, .int x7), (8, .int x8), (9, .int x9), (10, .int x10)] → wp_M_write_b259 post k236 f_p0_lengths f_p0_letters f_p0_samples f_p0_tags I_p0 f_p0_data f_p0_dirs f_p0_file f_p0_many f_p0_nibs f_p0_places f_p0_sizes f_p0_start x1 x2 x3 x5 x6 x7 x8 x9 x10 s0 → W p l e ({ frames := 5, cells := 0, slots := 0, locals := 126 } : Room) s m args below meth c H locs 0 0 Q (F0 m 259 ls [.int s0]) := by
    intro k236 hk236 H locs ls I_p0 f_p0_data f_p0_dirs f_p0_file f_p0_many f_p0_nibs f_p0_places f_p0_sizes f_p0_start x1 x2 x3 x5 x6 x7 x8 x9 x10 s0 hP hD hS hl hw
    unfold wp_M_write_b259 at hw
    refine lv_istore (lv' := [(11, .int s0), (0, .ref a_p0), (1, .int x1), (2, .int x2), (3, .int x3), (5, .int x5), (6, .int x6), (7, .int x7), (8, .int x8), (9, .int x9), (10, .int x10)]) hx hb d_M_write_259 hl (by decide) rfl (fun ls hl => ?_)
    refine lv_aload_n hx hb d_M_write_261 rfl (lv_at hl 1 rfl) ?_
    refine va_get (D := (dC, dI)) (ci := 10) (v := .ref (A_p0 9)) (C := R_M) (T := T_M) (N := 30) hx hb hg in_M hown hK hP 0 rfl rfl 9 (by decide) (hg _ t_767) (fun _ h9 => h9) rfl d_M_write_262 ?_
    refine lv_iload hx hb d_M_write_265 (lv_at hl 0 rfl) ?_
    obtain ⟨hin, hw⟩ := hw
    refine va_iald hx hb hK hP 4 0 rfl rfl hin d_M_write_267 ?_
    refine lv_iconst (v := 3) hx hb d_M_write_268 (by decide) ?_
    refine lv_icmp_le hx hb d_M_write_269 rfl (fun hc => ?_) (fun hc => ?_)
    · have hw := hw.1 hc
      exact b315 _ hk236 _ _ _ I_p0 f_p0_data f_p0_dirs f_p0_file f_p0_many f_p0_nibs f_p0_places f_p0_sizes f_p0_start x1 x2 x3 x5 x6 x7 x8 x9 x10 hP hD hS (lv_sub hl [1, 2, 3, 4, 5, 6, 7, 8, 9, 10] rfl) hw
    · have hw := hw.2 hc
      refine lv_iload hx hb d_M_write_272 (lv_at hl 0 rfl) ?_
      refine lv_if_ne hx hb d_M_write_274 rfl (fun hc => ?_) (fun hc => ?_)
      · have hw := hw.2 hc
        refine lv_iload hx hb d_M_write_284 (lv_at hl 8 rfl) ?_
        exact b286 _ hk236 _ _ _ I_p0 f_p0_data f_p0_dirs f_p0_file f_p0_many f_p0_nibs f_p0_places f_p0_sizes f_p0_start x1 x2 x3 x5 x6 x7 x9 x10 s0 x8 hP hD hS (lv_sub hl [1, 2, 3, 4, 5, 6, 7, 9, 10, 0] rfl) hw
      · have hw := hw.1 hc
        refine lv_aload_n hx hb d_M_write_277 rfl (lv_at hl 1 rfl) ?_
        refine va_get (D := (dC, dI)) (ci := 10) (v := .int (I_p0 2)) (C := R_M) (T := T_M) (N := 30) hx hb hg in_M hown hK hP 0 rfl rfl 2 (by decide) (hg _ t_760) (fun _ h9 => h9) rfl d_M_write_278 ?_
        refine lv_goto hx hb d_M_write_281 rfl ?_
        exact b286 _ hk236 _ _ _ I_p0 f_p0_data f_p0_dirs f_p0_file f_p0_many f_p0_nibs f_p0_places f_p0_sizes f_p0_start x1 x2 x3 x5 x6 x7 x9 x10 s0 (I_p0 2) hP hD hS (lv_sub hl [1, 2, 3, 4, 5, 6, 7, 9, 10, 0] rfl) hw
  have l236 : ∀ n : Nat, ∀ (H : Heap) (locs : List Loc) (ls : Array Slot) (I_p0 : Nat → Int32) (f_p0_data : Nat → Int32) (f_p0_dirs : Nat → Int32) (f_p0_file : Nat → Int32) (f_p0_many : Nat → Int32) (f_p0_nibs : Nat → Int32) (f_p0_places : Nat → Int32) (f_p0_sizes : Nat → Int32) (f_p0_start : Nat → Int32) (x1 : Int32) (x2 : Int32) (x3 : Int32) (x5 : Int32) (x6 : Int32) (x7 : Int32) (x8 : Int32) (x9 : Int32) (x10 : Int32), va_P (dC, dI) vwCl [oM a_p0 A_p0 I_p0, gz cI (A_p0 15) 256 f_p0_data, gz cI (A_p0 13) 8 f_p0_dirs, gz cI (A_p0 0) 2000 f_p0_file, gz cI (A_p0 9) 2 f_p0_lengths, gz cI (A_p0 10) 24 f_p0_letters, gz cI (A_p0 18) 120 f_p0_many, gz cI (A_p0 16) 512 f_p0_nibs, gz cI (A_p0 21) 16 f_p0_places, gz cI (A_p0 6) 256 f_p0_samples, gz cI (A_p0 22) 16 f_p0_sizes, gz cI (A_p0 17) 120 f_p0_start, gz cI (A_p0 8) 2 f_p0_tags] H → va_D A [oM a_p0 A_p0 I_p0, gz cI (A_p0 15) 256 f_p0_data, gz cI (A_p0 13) 8 f_p0_dirs, gz cI (A_p0 0) 2000 f_p0_file, gz cI (A_p0 9) 2 f_p0_lengths, gz cI (A_p0 10) 24 f_p0_letters, gz cI (A_p0 18) 120 f_p0_many, gz cI (A_p0 16) 512 f_p0_nibs, gz cI (A_p0 21) 16 f_p0_places, gz cI (A_p0 6) 256 f_p0_samples, gz cI (A_p0 22) 16 f_p0_sizes, gz cI (A_p0 17) 120 f_p0_start, gz cI (A_p0 8) 2 f_p0_tags] → va_S A s.heap H locs → lv_has ls 12 [(0, .ref a_p0), (1, .int x1), (2, .int x2), (3, .int x3), (5, .int x5), (6, .int x6), (7, .int x7), (8, .int x8), (9, .int x9), (10, .int x10)] → wp_M_write_l236 post f_p0_lengths f_p0_letters f_p0_samples f_p0_tags n I_p0 f_p0_data f_p0_dirs f_p0_file f_p0_many f_p0_nibs f_p0_places f_p0_sizes f_p0_start x1 x2 x3 x5 x6 x7 x8 x9 x10 → W p l e ({ frames := 5, cells := 0, slots := 0, locals := 126 } : Room) s m args below meth c H locs 0 0 Q (F0 m 236 ls []) := by
    intro n
    induction n with
    | zero => intro H locs ls I_p0 f_p0_data f_p0_dirs f_p0_file f_p0_many f_p0_nibs f_p0_places f_p0_sizes f_p0_start x1 x2 x3 x5 x6 x7 x8 x9 x10 hP hD hS hl hw; exact hw.elim
    | succ n ih =>
      intro H locs ls I_p0 f_p0_data f_p0_dirs f_p0_file f_p0_many f_p0_nibs f_p0_places f_p0_sizes f_p0_start x1 x2 x3 x5 x6 x7 x8 x9 x10 hP hD hS hl hw
      unfold wp_M_write_l236 at hw
      refine lv_iload hx hb d_M_write_236 (lv_at hl 9 rfl) ?_
      refine lv_aload_n hx hb d_M_write_238 rfl (lv_at hl 0 rfl) ?_
      refine va_get (D := (dC, dI)) (ci := 10) (v := .int (I_p0 7)) (C := R_M) (T := T_M) (N := 30) hx hb hg in_M hown hK hP 0 rfl rfl 7 (by decide) (hg _ t_765) (fun _ h9 => h9) rfl d_M_write_239 ?_
      refine lv_icmp_ge hx hb d_M_write_242 rfl (fun hc => ?_) (fun hc => ?_)
      · have hw := hw.1 hc
        refine lv_aload_n hx hb d_M_write_321 rfl (lv_at hl 0 rfl) ?_
        refine va_get (D := (dC, dI)) (ci := 10) (v := .int (I_p0 2)) (C := R_M) (T := T_M) (N := 30) hx hb hg in_M hown hK hP 0 rfl rfl 2 (by decide) (hg _ t_760) (fun _ h9 => h9) rfl d_M_write_322 ?_
        refine lv_istore (lv' := [(10, .int (I_p0 2)), (0, .ref a_p0), (1, .int x1), (2, .int x2), (3, .int x3), (5, .int x5), (6, .int x6), (7, .int x7), (8, .int x8), (9, .int x9)]) hx hb d_M_write_325 hl (by decide) rfl (fun ls hl => ?_)
        refine lv_aload_n hx hb d_M_write_327 rfl (lv_at hl 1 rfl) ?_
        refine lv_iload_n hx hb d_M_write_328 rfl (lv_at hl 2 rfl) ?_
        refine lv_iload_n hx hb d_M_write_329 rfl (lv_at hl 3 rfl) ?_
        refine lv_iload_n hx hb d_M_write_330 rfl (lv_at hl 4 rfl) ?_
        refine lv_iload hx hb d_M_write_331 (lv_at hl 5 rfl) ?_
        refine lv_iload hx hb d_M_write_333 (lv_at hl 6 rfl) ?_
        refine lv_iload hx hb d_M_write_335 (lv_at hl 8 rfl) ?_
        refine lv_iload hx hb d_M_write_337 (lv_at hl 9 rfl) ?_
        refine gc_v (wn := fun u => [oM a_p0 A_p0 u.1, gz cI (A_p0 15) 256 f_p0_data, gz cI (A_p0 13) 8 f_p0_dirs, gz cI (A_p0 0) 2000 u.2, gz cI (A_p0 9) 2 f_p0_lengths, gz cI (A_p0 10) 24 f_p0_letters, gz cI (A_p0 18) 120 f_p0_many, gz cI (A_p0 16) 512 f_p0_nibs, gz cI (A_p0 21) 16 f_p0_places, gz cI (A_p0 6) 256 f_p0_samples, gz cI (A_p0 22) 16 f_p0_sizes, gz cI (A_p0 17) 120 f_p0_start, gz cI (A_p0 8) 2 f_p0_tags]) (wr := [gz cI (A_p0 15) 256 f_p0_data, gz cI (A_p0 13) 8 f_p0_dirs, gz cI (A_p0 18) 120 f_p0_many, gz cI (A_p0 16) 512 f_p0_nibs, gz cI (A_p0 6) 256 f_p0_samples, gz cI (A_p0 17) 120 f_p0_start]) (gr_V (As := [.int x1, .int x2, .int x3, .int x5, .int x6, .int x8, .int x9]) (rest := []) ⟨hx, hb, hml, hown, hg⟩ (c_M_directory l dC dI cI a_p0 A_p0 f_p0_lengths f_p0_letters f_p0_places f_p0_sizes f_p0_tags I_p0 f_p0_file x1 x2 x3 x5 x6 x8 x9 hw _) (cwV 7 hg (gg_V t_1004 t_1006 t_46 t_71 t_1007) rfl rfl rfl (by decide +kernel) ⟨Nat.le_of_ble_eq_true rfl, Nat.le_of_ble_eq_true rfl⟩) hK hN hP hD [0, 3, 4, 5, 8, 10, 12] (by decide) rfl 0 10 rfl rfl rfl rfl hl.1 rfl (Nat.le_of_ble_eq_true rfl) d_M_write_339 ⟨Nat.le_of_ble_eq_true rfl, Nat.le_of_ble_eq_true rfl⟩) rfl rfl hP hD hS hA [0, 3, 4, 5, 8, 10, 12] [1, 2, 6, 7, 9, 11] [6, 0, 1, 7, 8, 9, 2, 3, 10, 4, 11, 5, 12] rfl rfl (by decide) (by decide) (by decide) (fun _ => rfl) ?_
        intro u9 H locs hw hP hD hS
        obtain ⟨I_p0_339, f_p0_file_339⟩ := u9
        try dsimp only at hw
        have hP : va_P (dC, dI) vwCl [oM a_p0 A_p0 I_p0_339, gz cI (A_p0 15) 256 f_p0_data, gz cI (A_p0 13) 8 f_p0_dirs, gz cI (A_p0 0) 2000 f_p0_file_339, gz cI (A_p0 9) 2 f_p0_lengths, gz cI (A_p0 10) 24 f_p0_letters, gz cI (A_p0 18) 120 f_p0_many, gz cI (A_p0 16) 512 f_p0_nibs, gz cI (A_p0 21) 16 f_p0_places, gz cI (A_p0 6) 256 f_p0_samples, gz cI (A_p0 22) 16 f_p0_sizes, gz cI (A_p0 17) 120 f_p0_start, gz cI (A_p0 8) 2 f_p0_tags] H := hP
        have hD : va_D A [oM a_p0 A_p0 I_p0_339, gz cI (A_p0 15) 256 f_p0_data, gz cI (A_p0 13) 8 f_p0_dirs, gz cI (A_p0 0) 2000 f_p0_file_339, gz cI (A_p0 9) 2 f_p0_lengths, gz cI (A_p0 10) 24 f_p0_letters, gz cI (A_p0 18) 120 f_p0_many, gz cI (A_p0 16) 512 f_p0_nibs, gz cI (A_p0 21) 16 f_p0_places, gz cI (A_p0 6) 256 f_p0_samples, gz cI (A_p0 22) 16 f_p0_sizes, gz cI (A_p0 17) 120 f_p0_start, gz cI (A_p0 8) 2 f_p0_tags] := hD
        refine lv_aload_n hx hb d_M_write_342 rfl (lv_at hl 1 rfl) ?_
        refine va_get (D := (dC, dI)) (ci := 10) (v := .int (I_p0_339 2)) (C := R_M) (T := T_M) (N := 30) hx hb hg in_M hown hK hP 0 rfl rfl 2 (by decide) (hg _ t_760) (fun _ h9 => h9) rfl d_M_write_343 ?_
        refine lv_sipush (v := 900) hx hb d_M_write_346 (by decide) ?_
        refine lv_icmp_le hx hb d_M_write_349 rfl (fun hc => ?_) (fun hc => ?_)
        · have hw := hw.1 hc
          refine lv_aload_n hx hb d_M_write_355 rfl (lv_at hl 1 rfl) ?_
          refine lv_aload_n hx hb d_M_write_356 rfl (lv_at hl 1 rfl) ?_
          refine va_get (D := (dC, dI)) (ci := 10) (v := .int (I_p0_339 14)) (C := R_M) (T := T_M) (N := 30) hx hb hg in_M hown hK hP 0 rfl rfl 14 (by decide) (hg _ t_772) (fun _ h9 => h9) rfl d_M_write_357 ?_
          refine lv_iconst (v := 4) hx hb d_M_write_360 (by decide) ?_
          refine lv_iload hx hb d_M_write_361 (lv_at hl 0 rfl) ?_
          refine lv_i2l hx hb d_M_write_363 rfl ?_
          refine gc_v (wn := fun u => [oM a_p0 A_p0 I_p0_339, gz cI (A_p0 15) 256 f_p0_data, gz cI (A_p0 13) 8 f_p0_dirs, gz cI (A_p0 0) 2000 u, gz cI (A_p0 9) 2 f_p0_lengths, gz cI (A_p0 10) 24 f_p0_letters, gz cI (A_p0 18) 120 f_p0_many, gz cI (A_p0 16) 512 f_p0_nibs, gz cI (A_p0 21) 16 f_p0_places, gz cI (A_p0 6) 256 f_p0_samples, gz cI (A_p0 22) 16 f_p0_sizes, gz cI (A_p0 17) 120 f_p0_start, gz cI (A_p0 8) 2 f_p0_tags]) (wr := [gz cI (A_p0 15) 256 f_p0_data, gz cI (A_p0 13) 8 f_p0_dirs, gz cI (A_p0 9) 2 f_p0_lengths, gz cI (A_p0 10) 24 f_p0_letters, gz cI (A_p0 18) 120 f_p0_many, gz cI (A_p0 16) 512 f_p0_nibs, gz cI (A_p0 21) 16 f_p0_places, gz cI (A_p0 6) 256 f_p0_samples, gz cI (A_p0 22) 16 f_p0_sizes, gz cI (A_p0 17) 120 f_p0_start, gz cI (A_p0 8) 2 f_p0_tags]) (gr_V (As := [.int (I_p0_339 14), .int 4, .long (I_p0 2).toInt64]) (rest := []) ⟨hx, hb, hml, hown, hg⟩ (c_M_store l dC dI cI a_p0 A_p0 I_p0_339 f_p0_file_339 (I_p0_339 14) 4 ((I_p0 2).toInt64) hw _) (cwV 3 hg (gg_V t_996 t_998 t_44 t_71 t_999) rfl rfl rfl (by decide +kernel) ⟨Nat.le_of_ble_eq_true rfl, Nat.le_of_ble_eq_true rfl⟩) hK hN hP hD [0, 3] (by decide) rfl 0 10 rfl rfl rfl rfl hl.1 rfl (Nat.le_of_ble_eq_true rfl) d_M_write_364 ⟨Nat.le_of_ble_eq_true rfl, Nat.le_of_ble_eq_true rfl⟩) rfl rfl hP hD hS hA [0, 3] [1, 2, 4, 5, 6, 7, 8, 9, 10, 11, 12] [11, 0, 1, 12, 2, 3, 4, 5, 6, 7, 8, 9, 10] rfl rfl (by decide) (by decide) (by decide) (fun _ => rfl) ?_
          intro f_p0_file_364 H locs hw hP hD hS
          try dsimp only at hw
          have hP : va_P (dC, dI) vwCl [oM a_p0 A_p0 I_p0_339, gz cI (A_p0 15) 256 f_p0_data, gz cI (A_p0 13) 8 f_p0_dirs, gz cI (A_p0 0) 2000 f_p0_file_364, gz cI (A_p0 9) 2 f_p0_lengths, gz cI (A_p0 10) 24 f_p0_letters, gz cI (A_p0 18) 120 f_p0_many, gz cI (A_p0 16) 512 f_p0_nibs, gz cI (A_p0 21) 16 f_p0_places, gz cI (A_p0 6) 256 f_p0_samples, gz cI (A_p0 22) 16 f_p0_sizes, gz cI (A_p0 17) 120 f_p0_start, gz cI (A_p0 8) 2 f_p0_tags] H := hP
          have hD : va_D A [oM a_p0 A_p0 I_p0_339, gz cI (A_p0 15) 256 f_p0_data, gz cI (A_p0 13) 8 f_p0_dirs, gz cI (A_p0 0) 2000 f_p0_file_364, gz cI (A_p0 9) 2 f_p0_lengths, gz cI (A_p0 10) 24 f_p0_letters, gz cI (A_p0 18) 120 f_p0_many, gz cI (A_p0 16) 512 f_p0_nibs, gz cI (A_p0 21) 16 f_p0_places, gz cI (A_p0 6) 256 f_p0_samples, gz cI (A_p0 22) 16 f_p0_sizes, gz cI (A_p0 17) 120 f_p0_start, gz cI (A_p0 8) 2 f_p0_tags] := hD
          refine lv_aload_n hx hb d_M_write_367 rfl (lv_at hl 1 rfl) ?_
          refine va_get (D := (dC, dI)) (ci := 10) (v := .int (I_p0_339 2)) (C := R_M) (T := T_M) (N := 30) hx hb hg in_M hown hK hP 0 rfl rfl 2 (by decide) (hg _ t_760) (fun _ h9 => h9) rfl d_M_write_368 ?_
          refine lv_aload_n hx hb d_M_write_371 rfl (lv_at hl 1 rfl) ?_
          refine va_get (D := (dC, dI)) (ci := 10) (v := .int (I_p0_339 1)) (C := R_M) (T := T_M) (N := 30) hx hb hg in_M hown hK hP 0 rfl rfl 1 (by decide) (hg _ t_759) (fun _ h9 => h9) rfl d_M_write_372 ?_
          refine lv_isub hx hb d_M_write_375 ?_
          refine lv_istore (lv' := [(11, .int ((I_p0_339 2) - (I_p0_339 1))), (10, .int (I_p0 2)), (0, .ref a_p0), (1, .int x1), (2, .int x2), (3, .int x3), (5, .int x5), (6, .int x6), (7, .int x7), (8, .int x8), (9, .int x9)]) hx hb d_M_write_376 hl (by decide) rfl (fun ls hl => ?_)
          refine lv_aload_n hx hb d_M_write_378 rfl (lv_at hl 2 rfl) ?_
          refine lv_aload_n hx hb d_M_write_379 rfl (lv_at hl 2 rfl) ?_
          refine va_get (D := (dC, dI)) (ci := 10) (v := .int (I_p0_339 2)) (C := R_M) (T := T_M) (N := 30) hx hb hg in_M hown hK hP 0 rfl rfl 2 (by decide) (hg _ t_760) (fun _ h9 => h9) rfl d_M_write_380 ?_
          refine va_put (D := (dC, dI)) (ci := 10) (v := .int (I_p0_339 2)) (ty := .int) (C := R_M) (T := T_M) (N := 30) hx hb hg in_M t_M tok_M nok_M hown hK hP hD hS 0 rfl rfl 1 (by decide) (hg _ t_759) (fun _ h9 => h9) rfl (by decide +kernel) rfl rfl (Nat.le_of_ble_eq_true rfl) d_M_write_383 (fun H locs hP hD hS => ?_)
          have hP : va_P (dC, dI) vwCl [oM a_p0 A_p0 (upd I_p0_339 1 (I_p0_339 2)), gz cI (A_p0 15) 256 f_p0_data, gz cI (A_p0 13) 8 f_p0_dirs, gz cI (A_p0 0) 2000 f_p0_file_364, gz cI (A_p0 9) 2 f_p0_lengths, gz cI (A_p0 10) 24 f_p0_letters, gz cI (A_p0 18) 120 f_p0_many, gz cI (A_p0 16) 512 f_p0_nibs, gz cI (A_p0 21) 16 f_p0_places, gz cI (A_p0 6) 256 f_p0_samples, gz cI (A_p0 22) 16 f_p0_sizes, gz cI (A_p0 17) 120 f_p0_start, gz cI (A_p0 8) 2 f_p0_tags] H := hP
          have hD : va_D A [oM a_p0 A_p0 (upd I_p0_339 1 (I_p0_339 2)), gz cI (A_p0 15) 256 f_p0_data, gz cI (A_p0 13) 8 f_p0_dirs, gz cI (A_p0 0) 2000 f_p0_file_364, gz cI (A_p0 9) 2 f_p0_lengths, gz cI (A_p0 10) 24 f_p0_letters, gz cI (A_p0 18) 120 f_p0_many, gz cI (A_p0 16) 512 f_p0_nibs, gz cI (A_p0 21) 16 f_p0_places, gz cI (A_p0 6) 256 f_p0_samples, gz cI (A_p0 22) 16 f_p0_sizes, gz cI (A_p0 17) 120 f_p0_start, gz cI (A_p0 8) 2 f_p0_tags] := hD
          refine lv_iload hx hb d_M_write_386 (lv_at hl 0 rfl) ?_
          exact hret _ _ _ _ _ ((upd I_p0_339 1 (I_p0_339 2)), f_p0_data, f_p0_dirs, f_p0_file_364, f_p0_many, f_p0_nibs, f_p0_places, f_p0_sizes, f_p0_start) d_M_write_388 rfl hP hD hS hw
        · have hw := hw.2 hc
          refine lv_bipush (v := (-3)) hx hb d_M_write_352 (by decide) ?_
          exact hret _ _ _ _ _ (I_p0_339, f_p0_data, f_p0_dirs, f_p0_file_339, f_p0_many, f_p0_nibs, f_p0_places, f_p0_sizes, f_p0_start) d_M_write_354 rfl hP hD hS hw
      · have hw := hw.2 hc
        refine lv_iload hx hb d_M_write_245 (lv_at hl 9 rfl) ?_
        refine lv_if_ne hx hb d_M_write_247 rfl (fun hc => ?_) (fun hc => ?_)
        · have hw := hw.2 hc
          refine lv_iconst (v := 1) hx hb d_M_write_255 (by decide) ?_
          refine lv_iload hx hb d_M_write_256 (lv_at hl 6 rfl) ?_
          refine lv_isub hx hb d_M_write_258 ?_
          exact b259 _ ih _ _ _ I_p0 f_p0_data f_p0_dirs f_p0_file f_p0_many f_p0_nibs f_p0_places f_p0_sizes f_p0_start x1 x2 x3 x5 x6 x7 x8 x9 x10 (1 - x7) hP hD hS (lv_sub hl [0, 1, 2, 3, 4, 5, 6, 7, 8, 9] rfl) hw
        · have hw := hw.1 hc
          refine lv_iload hx hb d_M_write_250 (lv_at hl 6 rfl) ?_
          refine lv_goto hx hb d_M_write_252 rfl ?_
          exact b259 _ ih _ _ _ I_p0 f_p0_data f_p0_dirs f_p0_file f_p0_many f_p0_nibs f_p0_places f_p0_sizes f_p0_start x1 x2 x3 x5 x6 x7 x8 x9 x10 x7 hP hD hS (lv_sub hl [0, 1, 2, 3, 4, 5, 6, 7, 8, 9] rfl) hw
  have b225 : ∀ (H : Heap) (locs : List Loc) (ls : Array Slot) (I_p0 : Nat → Int32) (f_p0_data : Nat → Int32) (f_p0_dirs : Nat → Int32) (f_p0_file : Nat → Int32) (f_p0_many : Nat → Int32) (f_p0_nibs : Nat → Int32) (f_p0_places : Nat → Int32) (f_p0_sizes : Nat → Int32) (f_p0_start : Nat → Int32) (x1 : Int32) (x2 : Int32) (x3 : Int32) (x5 : Int32) (x6 : Int32) (s0 : Int32), va_P (dC, dI) vwCl [oM a_p0 A_p0 I_p0, gz cI (A_p0 15) 256 f_p0_data, gz cI (A_p0 13) 8 f_p0_dirs, gz cI (A_p0 0) 2000 f_p0_file, gz cI (A_p0 9) 2 f_p0_lengths, gz cI (A_p0 10) 24 f_p0_letters, gz cI (A_p0 18) 120 f_p0_many, gz cI (A_p0 16) 512 f_p0_nibs, gz cI (A_p0 21) 16 f_p0_places, gz cI (A_p0 6) 256 f_p0_samples, gz cI (A_p0 22) 16 f_p0_sizes, gz cI (A_p0 17) 120 f_p0_start, gz cI (A_p0 8) 2 f_p0_tags] H → va_D A [oM a_p0 A_p0 I_p0, gz cI (A_p0 15) 256 f_p0_data, gz cI (A_p0 13) 8 f_p0_dirs, gz cI (A_p0 0) 2000 f_p0_file, gz cI (A_p0 9) 2 f_p0_lengths, gz cI (A_p0 10) 24 f_p0_letters, gz cI (A_p0 18) 120 f_p0_many, gz cI (A_p0 16) 512 f_p0_nibs, gz cI (A_p0 21) 16 f_p0_places, gz cI (A_p0 6) 256 f_p0_samples, gz cI (A_p0 22) 16 f_p0_sizes, gz cI (A_p0 17) 120 f_p0_start, gz cI (A_p0 8) 2 f_p0_tags] → va_S A s.heap H locs → lv_has ls 12 [(0, .ref a_p0), (1, .int x1), (2, .int x2), (3, .int x3), (5, .int x5), (6, .int x6)] → wp_M_write_b225 post f_p0_lengths f_p0_letters f_p0_samples f_p0_tags I_p0 f_p0_data f_p0_dirs f_p0_file f_p0_many f_p0_nibs f_p0_places f_p0_sizes f_p0_start x1 x2 x3 x5 x6 s0 → W p l e ({ frames := 5, cells := 0, slots := 0, locals := 126 } : Room) s m args below meth c H locs 0 0 Q (F0 m 225 ls [.int s0]) := by
    intro H locs ls I_p0 f_p0_data f_p0_dirs f_p0_file f_p0_many f_p0_nibs f_p0_places f_p0_sizes f_p0_start x1 x2 x3 x5 x6 s0 hP hD hS hl hw
    unfold wp_M_write_b225 at hw
    refine lv_istore (lv' := [(7, .int s0), (0, .ref a_p0), (1, .int x1), (2, .int x2), (3, .int x3), (5, .int x5), (6, .int x6)]) hx hb d_M_write_225 hl (by decide) rfl (fun ls hl => ?_)
    refine lv_iconst (v := 0) hx hb d_M_write_227 (by decide) ?_
    refine lv_istore (lv' := [(8, .int 0), (7, .int s0), (0, .ref a_p0), (1, .int x1), (2, .int x2), (3, .int x3), (5, .int x5), (6, .int x6)]) hx hb d_M_write_228 hl (by decide) rfl (fun ls hl => ?_)
    refine lv_iconst (v := 0) hx hb d_M_write_230 (by decide) ?_
    refine lv_istore (lv' := [(9, .int 0), (8, .int 0), (7, .int s0), (0, .ref a_p0), (1, .int x1), (2, .int x2), (3, .int x3), (5, .int x5), (6, .int x6)]) hx hb d_M_write_231 hl (by decide) rfl (fun ls hl => ?_)
    refine lv_iconst (v := 0) hx hb d_M_write_233 (by decide) ?_
    refine lv_istore (lv' := [(10, .int 0), (9, .int 0), (8, .int 0), (7, .int s0), (0, .ref a_p0), (1, .int x1), (2, .int x2), (3, .int x3), (5, .int x5), (6, .int x6)]) hx hb d_M_write_234 hl (by decide) rfl (fun ls hl => ?_)
    obtain ⟨n1, hw⟩ := hw
    exact l236 n1 _ _ _ I_p0 f_p0_data f_p0_dirs f_p0_file f_p0_many f_p0_nibs f_p0_places f_p0_sizes f_p0_start x1 x2 x3 x5 x6 s0 0 0 0 hP hD hS (lv_sub hl [4, 5, 6, 7, 8, 9, 3, 2, 1, 0] rfl) hw
  have b224 : ∀ (H : Heap) (locs : List Loc) (ls : Array Slot) (I_p0 : Nat → Int32) (f_p0_data : Nat → Int32) (f_p0_dirs : Nat → Int32) (f_p0_file : Nat → Int32) (f_p0_many : Nat → Int32) (f_p0_nibs : Nat → Int32) (f_p0_places : Nat → Int32) (f_p0_sizes : Nat → Int32) (f_p0_start : Nat → Int32) (x1 : Int32) (x2 : Int32) (x3 : Int32) (x5 : Int32) (x6 : Int32), va_P (dC, dI) vwCl [oM a_p0 A_p0 I_p0, gz cI (A_p0 15) 256 f_p0_data, gz cI (A_p0 13) 8 f_p0_dirs, gz cI (A_p0 0) 2000 f_p0_file, gz cI (A_p0 9) 2 f_p0_lengths, gz cI (A_p0 10) 24 f_p0_letters, gz cI (A_p0 18) 120 f_p0_many, gz cI (A_p0 16) 512 f_p0_nibs, gz cI (A_p0 21) 16 f_p0_places, gz cI (A_p0 6) 256 f_p0_samples, gz cI (A_p0 22) 16 f_p0_sizes, gz cI (A_p0 17) 120 f_p0_start, gz cI (A_p0 8) 2 f_p0_tags] H → va_D A [oM a_p0 A_p0 I_p0, gz cI (A_p0 15) 256 f_p0_data, gz cI (A_p0 13) 8 f_p0_dirs, gz cI (A_p0 0) 2000 f_p0_file, gz cI (A_p0 9) 2 f_p0_lengths, gz cI (A_p0 10) 24 f_p0_letters, gz cI (A_p0 18) 120 f_p0_many, gz cI (A_p0 16) 512 f_p0_nibs, gz cI (A_p0 21) 16 f_p0_places, gz cI (A_p0 6) 256 f_p0_samples, gz cI (A_p0 22) 16 f_p0_sizes, gz cI (A_p0 17) 120 f_p0_start, gz cI (A_p0 8) 2 f_p0_tags] → va_S A s.heap H locs → lv_has ls 12 [(0, .ref a_p0), (1, .int x1), (2, .int x2), (3, .int x3), (5, .int x5), (6, .int x6)] → wp_M_write_b224 post f_p0_lengths f_p0_letters f_p0_samples f_p0_tags I_p0 f_p0_data f_p0_dirs f_p0_file f_p0_many f_p0_nibs f_p0_places f_p0_sizes f_p0_start x1 x2 x3 x5 x6 → W p l e ({ frames := 5, cells := 0, slots := 0, locals := 126 } : Room) s m args below meth c H locs 0 0 Q (F0 m 224 ls []) := by
    intro H locs ls I_p0 f_p0_data f_p0_dirs f_p0_file f_p0_many f_p0_nibs f_p0_places f_p0_sizes f_p0_start x1 x2 x3 x5 x6 hP hD hS hl hw
    unfold wp_M_write_b224 at hw
    refine lv_iconst (v := 0) hx hb d_M_write_224 (by decide) ?_
    exact b225 _ _ _ I_p0 f_p0_data f_p0_dirs f_p0_file f_p0_many f_p0_nibs f_p0_places f_p0_sizes f_p0_start x1 x2 x3 x5 x6 0 hP hD hS (lv_sub hl [0, 1, 2, 3, 4, 5] rfl) hw
  have b197 : ∀ (H : Heap) (locs : List Loc) (ls : Array Slot) (I_p0 : Nat → Int32) (f_p0_data : Nat → Int32) (f_p0_dirs : Nat → Int32) (f_p0_file : Nat → Int32) (f_p0_many : Nat → Int32) (f_p0_nibs : Nat → Int32) (f_p0_places : Nat → Int32) (f_p0_sizes : Nat → Int32) (f_p0_start : Nat → Int32) (x1 : Int32) (x2 : Int32) (x3 : Int32) (x5 : Int32) (x6 : Int32), va_P (dC, dI) vwCl [oM a_p0 A_p0 I_p0, gz cI (A_p0 15) 256 f_p0_data, gz cI (A_p0 13) 8 f_p0_dirs, gz cI (A_p0 0) 2000 f_p0_file, gz cI (A_p0 9) 2 f_p0_lengths, gz cI (A_p0 10) 24 f_p0_letters, gz cI (A_p0 18) 120 f_p0_many, gz cI (A_p0 16) 512 f_p0_nibs, gz cI (A_p0 21) 16 f_p0_places, gz cI (A_p0 6) 256 f_p0_samples, gz cI (A_p0 22) 16 f_p0_sizes, gz cI (A_p0 17) 120 f_p0_start, gz cI (A_p0 8) 2 f_p0_tags] H → va_D A [oM a_p0 A_p0 I_p0, gz cI (A_p0 15) 256 f_p0_data, gz cI (A_p0 13) 8 f_p0_dirs, gz cI (A_p0 0) 2000 f_p0_file, gz cI (A_p0 9) 2 f_p0_lengths, gz cI (A_p0 10) 24 f_p0_letters, gz cI (A_p0 18) 120 f_p0_many, gz cI (A_p0 16) 512 f_p0_nibs, gz cI (A_p0 21) 16 f_p0_places, gz cI (A_p0 6) 256 f_p0_samples, gz cI (A_p0 22) 16 f_p0_sizes, gz cI (A_p0 17) 120 f_p0_start, gz cI (A_p0 8) 2 f_p0_tags] → va_S A s.heap H locs → lv_has ls 12 [(0, .ref a_p0), (1, .int x1), (2, .int x2), (3, .int x3), (5, .int x5), (6, .int x6)] → wp_M_write_b197 post f_p0_lengths f_p0_letters f_p0_samples f_p0_tags I_p0 f_p0_data f_p0_dirs f_p0_file f_p0_many f_p0_nibs f_p0_places f_p0_sizes f_p0_start x1 x2 x3 x5 x6 → W p l e ({ frames := 5, cells := 0, slots := 0, locals := 126 } : Room) s m args below meth c H locs 0 0 Q (F0 m 197 ls []) := by
    intro H locs ls I_p0 f_p0_data f_p0_dirs f_p0_file f_p0_many f_p0_nibs f_p0_places f_p0_sizes f_p0_start x1 x2 x3 x5 x6 hP hD hS hl hw
    unfold wp_M_write_b197 at hw
    refine lv_aload_n hx hb d_M_write_197 rfl (lv_at hl 0 rfl) ?_
    refine va_get (D := (dC, dI)) (ci := 10) (v := .int (I_p0 7)) (C := R_M) (T := T_M) (N := 30) hx hb hg in_M hown hK hP 0 rfl rfl 7 (by decide) (hg _ t_765) (fun _ h9 => h9) rfl d_M_write_198 ?_
    refine lv_iconst (v := 2) hx hb d_M_write_201 (by decide) ?_
    refine lv_icmp_ne hx hb d_M_write_202 rfl (fun hc => ?_) (fun hc => ?_)
    · have hw := hw.2 hc
      exact b224 _ _ _ I_p0 f_p0_data f_p0_dirs f_p0_file f_p0_many f_p0_nibs f_p0_places f_p0_sizes f_p0_start x1 x2 x3 x5 x6 hP hD hS (lv_sub hl [0, 1, 2, 3, 4, 5] rfl) hw
    · have hw := hw.1 hc
      refine lv_aload_n hx hb d_M_write_205 rfl (lv_at hl 0 rfl) ?_
      refine va_get (D := (dC, dI)) (ci := 10) (v := .ref (A_p0 8)) (C := R_M) (T := T_M) (N := 30) hx hb hg in_M hown hK hP 0 rfl rfl 8 (by decide) (hg _ t_766) (fun _ h9 => h9) rfl d_M_write_206 ?_
      refine lv_iconst (v := 1) hx hb d_M_write_209 (by decide) ?_
      obtain ⟨hin, hw⟩ := hw
      refine va_iald hx hb hK hP 12 0 rfl rfl hin d_M_write_210 ?_
      refine lv_aload_n hx hb d_M_write_211 rfl (lv_at hl 0 rfl) ?_
      refine va_get (D := (dC, dI)) (ci := 10) (v := .ref (A_p0 8)) (C := R_M) (T := T_M) (N := 30) hx hb hg in_M hown hK hP 0 rfl rfl 8 (by decide) (hg _ t_766) (fun _ h9 => h9) rfl d_M_write_212 ?_
      refine lv_iconst (v := 0) hx hb d_M_write_215 (by decide) ?_
      obtain ⟨hin, hw⟩ := hw
      refine va_iald hx hb hK hP 12 0 rfl rfl hin d_M_write_216 ?_
      refine lv_icmp_ge hx hb d_M_write_217 rfl (fun hc => ?_) (fun hc => ?_)
      · have hw := hw.1 hc
        exact b224 _ _ _ I_p0 f_p0_data f_p0_dirs f_p0_file f_p0_many f_p0_nibs f_p0_places f_p0_sizes f_p0_start x1 x2 x3 x5 x6 hP hD hS (lv_sub hl [0, 1, 2, 3, 4, 5] rfl) hw
      · have hw := hw.2 hc
        refine lv_iconst (v := 1) hx hb d_M_write_220 (by decide) ?_
        refine lv_goto hx hb d_M_write_221 rfl ?_
        exact b225 _ _ _ I_p0 f_p0_data f_p0_dirs f_p0_file f_p0_many f_p0_nibs f_p0_places f_p0_sizes f_p0_start x1 x2 x3 x5 x6 1 hP hD hS (lv_sub hl [0, 1, 2, 3, 4, 5] rfl) hw
  have l165 : ∀ n : Nat, ∀ (H : Heap) (locs : List Loc) (ls : Array Slot) (I_p0 : Nat → Int32) (f_p0_data : Nat → Int32) (f_p0_dirs : Nat → Int32) (f_p0_file : Nat → Int32) (f_p0_many : Nat → Int32) (f_p0_nibs : Nat → Int32) (f_p0_places : Nat → Int32) (f_p0_sizes : Nat → Int32) (f_p0_start : Nat → Int32) (x1 : Int32) (x2 : Int32) (x3 : Int32) (x5 : Int32) (x6 : Int32) (x7 : Int32), va_P (dC, dI) vwCl [oM a_p0 A_p0 I_p0, gz cI (A_p0 15) 256 f_p0_data, gz cI (A_p0 13) 8 f_p0_dirs, gz cI (A_p0 0) 2000 f_p0_file, gz cI (A_p0 9) 2 f_p0_lengths, gz cI (A_p0 10) 24 f_p0_letters, gz cI (A_p0 18) 120 f_p0_many, gz cI (A_p0 16) 512 f_p0_nibs, gz cI (A_p0 21) 16 f_p0_places, gz cI (A_p0 6) 256 f_p0_samples, gz cI (A_p0 22) 16 f_p0_sizes, gz cI (A_p0 17) 120 f_p0_start, gz cI (A_p0 8) 2 f_p0_tags] H → va_D A [oM a_p0 A_p0 I_p0, gz cI (A_p0 15) 256 f_p0_data, gz cI (A_p0 13) 8 f_p0_dirs, gz cI (A_p0 0) 2000 f_p0_file, gz cI (A_p0 9) 2 f_p0_lengths, gz cI (A_p0 10) 24 f_p0_letters, gz cI (A_p0 18) 120 f_p0_many, gz cI (A_p0 16) 512 f_p0_nibs, gz cI (A_p0 21) 16 f_p0_places, gz cI (A_p0 6) 256 f_p0_samples, gz cI (A_p0 22) 16 f_p0_sizes, gz cI (A_p0 17) 120 f_p0_start, gz cI (A_p0 8) 2 f_p0_tags] → va_S A s.heap H locs → lv_has ls 12 [(0, .ref a_p0), (1, .int x1), (2, .int x2), (3, .int x3), (5, .int x5), (6, .int x6), (7, .int x7)] → wp_M_write_l165 post f_p0_lengths f_p0_letters f_p0_samples f_p0_tags n I_p0 f_p0_data f_p0_dirs f_p0_file f_p0_many f_p0_nibs f_p0_places f_p0_sizes f_p0_start x1 x2 x3 x5 x6 x7 → W p l e ({ frames := 5, cells := 0, slots := 0, locals := 126 } : Room) s m args below meth c H locs 0 0 Q (F0 m 165 ls []) := by
    intro n
    induction n with
    | zero => intro H locs ls I_p0 f_p0_data f_p0_dirs f_p0_file f_p0_many f_p0_nibs f_p0_places f_p0_sizes f_p0_start x1 x2 x3 x5 x6 x7 hP hD hS hl hw; exact hw.elim
    | succ n ih =>
      intro H locs ls I_p0 f_p0_data f_p0_dirs f_p0_file f_p0_many f_p0_nibs f_p0_places f_p0_sizes f_p0_start x1 x2 x3 x5 x6 x7 hP hD hS hl hw
      unfold wp_M_write_l165 at hw
      refine lv_iload hx hb d_M_write_165 (lv_at hl 6 rfl) ?_
      refine lv_iload hx hb d_M_write_167 (lv_at hl 4 rfl) ?_
      refine lv_icmp_ge hx hb d_M_write_169 rfl (fun hc => ?_) (fun hc => ?_)
      · have hw := hw.1 hc
        exact b197 _ _ _ I_p0 f_p0_data f_p0_dirs f_p0_file f_p0_many f_p0_nibs f_p0_places f_p0_sizes f_p0_start x1 x2 x3 x5 x6 hP hD hS (lv_sub hl [0, 1, 2, 3, 4, 5] rfl) hw
      · have hw := hw.2 hc
        refine lv_iload hx hb d_M_write_172 (lv_at hl 4 rfl) ?_
        refine lv_iconst (v := 1) hx hb d_M_write_174 (by decide) ?_
        refine lv_icmp_le hx hb d_M_write_175 rfl (fun hc => ?_) (fun hc => ?_)
        · have hw := hw.1 hc
          exact b197 _ _ _ I_p0 f_p0_data f_p0_dirs f_p0_file f_p0_many f_p0_nibs f_p0_places f_p0_sizes f_p0_start x1 x2 x3 x5 x6 hP hD hS (lv_sub hl [0, 1, 2, 3, 4, 5] rfl) hw
        · have hw := hw.2 hc
          refine lv_aload_n hx hb d_M_write_178 rfl (lv_at hl 0 rfl) ?_
          refine lv_iconst (v := 4) hx hb d_M_write_179 (by decide) ?_
          refine lv_aload_n hx hb d_M_write_180 rfl (lv_at hl 0 rfl) ?_
          refine va_get (D := (dC, dI)) (ci := 10) (v := .ref (A_p0 22)) (C := R_M) (T := T_M) (N := 30) hx hb hg in_M hown hK hP 0 rfl rfl 22 (by decide) (hg _ t_780) (fun _ h9 => h9) rfl d_M_write_181 ?_
          refine lv_iload hx hb d_M_write_184 (lv_at hl 6 rfl) ?_
          obtain ⟨hin, hw⟩ := hw
          refine va_iald hx hb hK hP 10 0 rfl rfl hin d_M_write_186 ?_
          refine lv_i2l hx hb d_M_write_187 rfl ?_
          refine gc_v (wn := fun u => [oM a_p0 A_p0 u.1, gz cI (A_p0 15) 256 f_p0_data, gz cI (A_p0 13) 8 f_p0_dirs, gz cI (A_p0 0) 2000 u.2, gz cI (A_p0 9) 2 f_p0_lengths, gz cI (A_p0 10) 24 f_p0_letters, gz cI (A_p0 18) 120 f_p0_many, gz cI (A_p0 16) 512 f_p0_nibs, gz cI (A_p0 21) 16 f_p0_places, gz cI (A_p0 6) 256 f_p0_samples, gz cI (A_p0 22) 16 f_p0_sizes, gz cI (A_p0 17) 120 f_p0_start, gz cI (A_p0 8) 2 f_p0_tags]) (wr := [gz cI (A_p0 15) 256 f_p0_data, gz cI (A_p0 13) 8 f_p0_dirs, gz cI (A_p0 9) 2 f_p0_lengths, gz cI (A_p0 10) 24 f_p0_letters, gz cI (A_p0 18) 120 f_p0_many, gz cI (A_p0 16) 512 f_p0_nibs, gz cI (A_p0 21) 16 f_p0_places, gz cI (A_p0 6) 256 f_p0_samples, gz cI (A_p0 22) 16 f_p0_sizes, gz cI (A_p0 17) 120 f_p0_start, gz cI (A_p0 8) 2 f_p0_tags]) (gr_V (As := [.int 4, .long (f_p0_sizes (x7).toNatClampNeg).toInt64]) (rest := []) ⟨hx, hb, hml, hown, hg⟩ (c_M_number l dC dI cI a_p0 A_p0 I_p0 f_p0_file 4 ((f_p0_sizes (x7).toNatClampNeg).toInt64) hw _) (cwV 2 hg (gg_V t_992 t_994 t_43 t_71 t_995) rfl rfl rfl (by decide +kernel) ⟨Nat.le_of_ble_eq_true rfl, Nat.le_of_ble_eq_true rfl⟩) hK hN hP hD [0, 3] (by decide) rfl 0 10 rfl rfl rfl rfl hl.1 rfl (Nat.le_of_ble_eq_true rfl) d_M_write_188 ⟨Nat.le_of_ble_eq_true rfl, Nat.le_of_ble_eq_true rfl⟩) rfl rfl hP hD hS hA [0, 3] [1, 2, 4, 5, 6, 7, 8, 9, 10, 11, 12] [11, 0, 1, 12, 2, 3, 4, 5, 6, 7, 8, 9, 10] rfl rfl (by decide) (by decide) (by decide) (fun _ => rfl) ?_
          intro u9 H locs hw hP hD hS
          obtain ⟨I_p0_188, f_p0_file_188⟩ := u9
          try dsimp only at hw
          have hP : va_P (dC, dI) vwCl [oM a_p0 A_p0 I_p0_188, gz cI (A_p0 15) 256 f_p0_data, gz cI (A_p0 13) 8 f_p0_dirs, gz cI (A_p0 0) 2000 f_p0_file_188, gz cI (A_p0 9) 2 f_p0_lengths, gz cI (A_p0 10) 24 f_p0_letters, gz cI (A_p0 18) 120 f_p0_many, gz cI (A_p0 16) 512 f_p0_nibs, gz cI (A_p0 21) 16 f_p0_places, gz cI (A_p0 6) 256 f_p0_samples, gz cI (A_p0 22) 16 f_p0_sizes, gz cI (A_p0 17) 120 f_p0_start, gz cI (A_p0 8) 2 f_p0_tags] H := hP
          have hD : va_D A [oM a_p0 A_p0 I_p0_188, gz cI (A_p0 15) 256 f_p0_data, gz cI (A_p0 13) 8 f_p0_dirs, gz cI (A_p0 0) 2000 f_p0_file_188, gz cI (A_p0 9) 2 f_p0_lengths, gz cI (A_p0 10) 24 f_p0_letters, gz cI (A_p0 18) 120 f_p0_many, gz cI (A_p0 16) 512 f_p0_nibs, gz cI (A_p0 21) 16 f_p0_places, gz cI (A_p0 6) 256 f_p0_samples, gz cI (A_p0 22) 16 f_p0_sizes, gz cI (A_p0 17) 120 f_p0_start, gz cI (A_p0 8) 2 f_p0_tags] := hD
          refine lv_iinc (k := 6) (v := (x7 + 1)) (lv' := [(7, .int (x7 + 1)), (0, .ref a_p0), (1, .int x1), (2, .int x2), (3, .int x3), (5, .int x5), (6, .int x6)]) hx hb d_M_write_191 hl rfl (congrArg (fun z => x7 + z) (by decide : Int32.ofInt 1 = 1)) (by decide) rfl (fun ls hl => ?_)
          refine lv_goto hx hb d_M_write_194 rfl ?_
          exact ih _ _ _ I_p0_188 f_p0_data f_p0_dirs f_p0_file_188 f_p0_many f_p0_nibs f_p0_places f_p0_sizes f_p0_start x1 x2 x3 x5 x6 (x7 + 1) hP hD hS (lv_sub hl [1, 2, 3, 4, 5, 6, 0] rfl) hw
  have b162 : ∀ (H : Heap) (locs : List Loc) (ls : Array Slot) (I_p0 : Nat → Int32) (f_p0_data : Nat → Int32) (f_p0_dirs : Nat → Int32) (f_p0_file : Nat → Int32) (f_p0_many : Nat → Int32) (f_p0_nibs : Nat → Int32) (f_p0_places : Nat → Int32) (f_p0_sizes : Nat → Int32) (f_p0_start : Nat → Int32) (x1 : Int32) (x2 : Int32) (x3 : Int32) (x5 : Int32) (x6 : Int32), va_P (dC, dI) vwCl [oM a_p0 A_p0 I_p0, gz cI (A_p0 15) 256 f_p0_data, gz cI (A_p0 13) 8 f_p0_dirs, gz cI (A_p0 0) 2000 f_p0_file, gz cI (A_p0 9) 2 f_p0_lengths, gz cI (A_p0 10) 24 f_p0_letters, gz cI (A_p0 18) 120 f_p0_many, gz cI (A_p0 16) 512 f_p0_nibs, gz cI (A_p0 21) 16 f_p0_places, gz cI (A_p0 6) 256 f_p0_samples, gz cI (A_p0 22) 16 f_p0_sizes, gz cI (A_p0 17) 120 f_p0_start, gz cI (A_p0 8) 2 f_p0_tags] H → va_D A [oM a_p0 A_p0 I_p0, gz cI (A_p0 15) 256 f_p0_data, gz cI (A_p0 13) 8 f_p0_dirs, gz cI (A_p0 0) 2000 f_p0_file, gz cI (A_p0 9) 2 f_p0_lengths, gz cI (A_p0 10) 24 f_p0_letters, gz cI (A_p0 18) 120 f_p0_many, gz cI (A_p0 16) 512 f_p0_nibs, gz cI (A_p0 21) 16 f_p0_places, gz cI (A_p0 6) 256 f_p0_samples, gz cI (A_p0 22) 16 f_p0_sizes, gz cI (A_p0 17) 120 f_p0_start, gz cI (A_p0 8) 2 f_p0_tags] → va_S A s.heap H locs → lv_has ls 12 [(0, .ref a_p0), (1, .int x1), (2, .int x2), (3, .int x3), (5, .int x5), (6, .int x6)] → wp_M_write_b162 post f_p0_lengths f_p0_letters f_p0_samples f_p0_tags I_p0 f_p0_data f_p0_dirs f_p0_file f_p0_many f_p0_nibs f_p0_places f_p0_sizes f_p0_start x1 x2 x3 x5 x6 → W p l e ({ frames := 5, cells := 0, slots := 0, locals := 126 } : Room) s m args below meth c H locs 0 0 Q (F0 m 162 ls []) := by
    intro H locs ls I_p0 f_p0_data f_p0_dirs f_p0_file f_p0_many f_p0_nibs f_p0_places f_p0_sizes f_p0_start x1 x2 x3 x5 x6 hP hD hS hl hw
    unfold wp_M_write_b162 at hw
    refine lv_iconst (v := 0) hx hb d_M_write_162 (by decide) ?_
    refine lv_istore (lv' := [(7, .int 0), (0, .ref a_p0), (1, .int x1), (2, .int x2), (3, .int x3), (5, .int x5), (6, .int x6)]) hx hb d_M_write_163 hl (by decide) rfl (fun ls hl => ?_)
    obtain ⟨n1, hw⟩ := hw
    exact l165 n1 _ _ _ I_p0 f_p0_data f_p0_dirs f_p0_file f_p0_many f_p0_nibs f_p0_places f_p0_sizes f_p0_start x1 x2 x3 x5 x6 0 hP hD hS (lv_sub hl [1, 2, 3, 4, 5, 6, 0] rfl) hw
  have l130 : ∀ n : Nat, ∀ (H : Heap) (locs : List Loc) (ls : Array Slot) (I_p0 : Nat → Int32) (f_p0_data : Nat → Int32) (f_p0_dirs : Nat → Int32) (f_p0_file : Nat → Int32) (f_p0_many : Nat → Int32) (f_p0_nibs : Nat → Int32) (f_p0_places : Nat → Int32) (f_p0_sizes : Nat → Int32) (f_p0_start : Nat → Int32) (x1 : Int32) (x2 : Int32) (x3 : Int32) (x5 : Int32) (x6 : Int32) (x7 : Int32), va_P (dC, dI) vwCl [oM a_p0 A_p0 I_p0, gz cI (A_p0 15) 256 f_p0_data, gz cI (A_p0 13) 8 f_p0_dirs, gz cI (A_p0 0) 2000 f_p0_file, gz cI (A_p0 9) 2 f_p0_lengths, gz cI (A_p0 10) 24 f_p0_letters, gz cI (A_p0 18) 120 f_p0_many, gz cI (A_p0 16) 512 f_p0_nibs, gz cI (A_p0 21) 16 f_p0_places, gz cI (A_p0 6) 256 f_p0_samples, gz cI (A_p0 22) 16 f_p0_sizes, gz cI (A_p0 17) 120 f_p0_start, gz cI (A_p0 8) 2 f_p0_tags] H → va_D A [oM a_p0 A_p0 I_p0, gz cI (A_p0 15) 256 f_p0_data, gz cI (A_p0 13) 8 f_p0_dirs, gz cI (A_p0 0) 2000 f_p0_file, gz cI (A_p0 9) 2 f_p0_lengths, gz cI (A_p0 10) 24 f_p0_letters, gz cI (A_p0 18) 120 f_p0_many, gz cI (A_p0 16) 512 f_p0_nibs, gz cI (A_p0 21) 16 f_p0_places, gz cI (A_p0 6) 256 f_p0_samples, gz cI (A_p0 22) 16 f_p0_sizes, gz cI (A_p0 17) 120 f_p0_start, gz cI (A_p0 8) 2 f_p0_tags] → va_S A s.heap H locs → lv_has ls 12 [(0, .ref a_p0), (1, .int x1), (2, .int x2), (3, .int x3), (5, .int x5), (6, .int x6), (7, .int x7)] → wp_M_write_l130 post f_p0_lengths f_p0_letters f_p0_samples f_p0_tags n I_p0 f_p0_data f_p0_dirs f_p0_file f_p0_many f_p0_nibs f_p0_places f_p0_sizes f_p0_start x1 x2 x3 x5 x6 x7 → W p l e ({ frames := 5, cells := 0, slots := 0, locals := 126 } : Room) s m args below meth c H locs 0 0 Q (F0 m 130 ls []) := by
    intro n
    induction n with
    | zero => intro H locs ls I_p0 f_p0_data f_p0_dirs f_p0_file f_p0_many f_p0_nibs f_p0_places f_p0_sizes f_p0_start x1 x2 x3 x5 x6 x7 hP hD hS hl hw; exact hw.elim
    | succ n ih =>
      intro H locs ls I_p0 f_p0_data f_p0_dirs f_p0_file f_p0_many f_p0_nibs f_p0_places f_p0_sizes f_p0_start x1 x2 x3 x5 x6 x7 hP hD hS hl hw
      unfold wp_M_write_l130 at hw
      refine lv_iload hx hb d_M_write_130 (lv_at hl 6 rfl) ?_
      refine lv_iload hx hb d_M_write_132 (lv_at hl 4 rfl) ?_
      refine lv_icmp_ge hx hb d_M_write_134 rfl (fun hc => ?_) (fun hc => ?_)
      · have hw := hw.1 hc
        exact b162 _ _ _ I_p0 f_p0_data f_p0_dirs f_p0_file f_p0_many f_p0_nibs f_p0_places f_p0_sizes f_p0_start x1 x2 x3 x5 x6 hP hD hS (lv_sub hl [0, 1, 2, 3, 4, 5] rfl) hw
      · have hw := hw.2 hc
        refine lv_iload hx hb d_M_write_137 (lv_at hl 4 rfl) ?_
        refine lv_iconst (v := 1) hx hb d_M_write_139 (by decide) ?_
        refine lv_icmp_le hx hb d_M_write_140 rfl (fun hc => ?_) (fun hc => ?_)
        · have hw := hw.1 hc
          exact b162 _ _ _ I_p0 f_p0_data f_p0_dirs f_p0_file f_p0_many f_p0_nibs f_p0_places f_p0_sizes f_p0_start x1 x2 x3 x5 x6 hP hD hS (lv_sub hl [0, 1, 2, 3, 4, 5] rfl) hw
        · have hw := hw.2 hc
          refine lv_aload_n hx hb d_M_write_143 rfl (lv_at hl 0 rfl) ?_
          refine lv_iconst (v := 4) hx hb d_M_write_144 (by decide) ?_
          refine lv_aload_n hx hb d_M_write_145 rfl (lv_at hl 0 rfl) ?_
          refine va_get (D := (dC, dI)) (ci := 10) (v := .ref (A_p0 21)) (C := R_M) (T := T_M) (N := 30) hx hb hg in_M hown hK hP 0 rfl rfl 21 (by decide) (hg _ t_779) (fun _ h9 => h9) rfl d_M_write_146 ?_
          refine lv_iload hx hb d_M_write_149 (lv_at hl 6 rfl) ?_
          obtain ⟨hin, hw⟩ := hw
          refine va_iald hx hb hK hP 8 0 rfl rfl hin d_M_write_151 ?_
          refine lv_i2l hx hb d_M_write_152 rfl ?_
          refine gc_v (wn := fun u => [oM a_p0 A_p0 u.1, gz cI (A_p0 15) 256 f_p0_data, gz cI (A_p0 13) 8 f_p0_dirs, gz cI (A_p0 0) 2000 u.2, gz cI (A_p0 9) 2 f_p0_lengths, gz cI (A_p0 10) 24 f_p0_letters, gz cI (A_p0 18) 120 f_p0_many, gz cI (A_p0 16) 512 f_p0_nibs, gz cI (A_p0 21) 16 f_p0_places, gz cI (A_p0 6) 256 f_p0_samples, gz cI (A_p0 22) 16 f_p0_sizes, gz cI (A_p0 17) 120 f_p0_start, gz cI (A_p0 8) 2 f_p0_tags]) (wr := [gz cI (A_p0 15) 256 f_p0_data, gz cI (A_p0 13) 8 f_p0_dirs, gz cI (A_p0 9) 2 f_p0_lengths, gz cI (A_p0 10) 24 f_p0_letters, gz cI (A_p0 18) 120 f_p0_many, gz cI (A_p0 16) 512 f_p0_nibs, gz cI (A_p0 21) 16 f_p0_places, gz cI (A_p0 6) 256 f_p0_samples, gz cI (A_p0 22) 16 f_p0_sizes, gz cI (A_p0 17) 120 f_p0_start, gz cI (A_p0 8) 2 f_p0_tags]) (gr_V (As := [.int 4, .long (f_p0_places (x7).toNatClampNeg).toInt64]) (rest := []) ⟨hx, hb, hml, hown, hg⟩ (c_M_number l dC dI cI a_p0 A_p0 I_p0 f_p0_file 4 ((f_p0_places (x7).toNatClampNeg).toInt64) hw _) (cwV 2 hg (gg_V t_992 t_994 t_43 t_71 t_995) rfl rfl rfl (by decide +kernel) ⟨Nat.le_of_ble_eq_true rfl, Nat.le_of_ble_eq_true rfl⟩) hK hN hP hD [0, 3] (by decide) rfl 0 10 rfl rfl rfl rfl hl.1 rfl (Nat.le_of_ble_eq_true rfl) d_M_write_153 ⟨Nat.le_of_ble_eq_true rfl, Nat.le_of_ble_eq_true rfl⟩) rfl rfl hP hD hS hA [0, 3] [1, 2, 4, 5, 6, 7, 8, 9, 10, 11, 12] [11, 0, 1, 12, 2, 3, 4, 5, 6, 7, 8, 9, 10] rfl rfl (by decide) (by decide) (by decide) (fun _ => rfl) ?_
          intro u9 H locs hw hP hD hS
          obtain ⟨I_p0_153, f_p0_file_153⟩ := u9
          try dsimp only at hw
          have hP : va_P (dC, dI) vwCl [oM a_p0 A_p0 I_p0_153, gz cI (A_p0 15) 256 f_p0_data, gz cI (A_p0 13) 8 f_p0_dirs, gz cI (A_p0 0) 2000 f_p0_file_153, gz cI (A_p0 9) 2 f_p0_lengths, gz cI (A_p0 10) 24 f_p0_letters, gz cI (A_p0 18) 120 f_p0_many, gz cI (A_p0 16) 512 f_p0_nibs, gz cI (A_p0 21) 16 f_p0_places, gz cI (A_p0 6) 256 f_p0_samples, gz cI (A_p0 22) 16 f_p0_sizes, gz cI (A_p0 17) 120 f_p0_start, gz cI (A_p0 8) 2 f_p0_tags] H := hP
          have hD : va_D A [oM a_p0 A_p0 I_p0_153, gz cI (A_p0 15) 256 f_p0_data, gz cI (A_p0 13) 8 f_p0_dirs, gz cI (A_p0 0) 2000 f_p0_file_153, gz cI (A_p0 9) 2 f_p0_lengths, gz cI (A_p0 10) 24 f_p0_letters, gz cI (A_p0 18) 120 f_p0_many, gz cI (A_p0 16) 512 f_p0_nibs, gz cI (A_p0 21) 16 f_p0_places, gz cI (A_p0 6) 256 f_p0_samples, gz cI (A_p0 22) 16 f_p0_sizes, gz cI (A_p0 17) 120 f_p0_start, gz cI (A_p0 8) 2 f_p0_tags] := hD
          refine lv_iinc (k := 6) (v := (x7 + 1)) (lv' := [(7, .int (x7 + 1)), (0, .ref a_p0), (1, .int x1), (2, .int x2), (3, .int x3), (5, .int x5), (6, .int x6)]) hx hb d_M_write_156 hl rfl (congrArg (fun z => x7 + z) (by decide : Int32.ofInt 1 = 1)) (by decide) rfl (fun ls hl => ?_)
          refine lv_goto hx hb d_M_write_159 rfl ?_
          exact ih _ _ _ I_p0_153 f_p0_data f_p0_dirs f_p0_file_153 f_p0_many f_p0_nibs f_p0_places f_p0_sizes f_p0_start x1 x2 x3 x5 x6 (x7 + 1) hP hD hS (lv_sub hl [1, 2, 3, 4, 5, 6, 0] rfl) hw
  have b21 : ∀ (H : Heap) (locs : List Loc) (ls : Array Slot) (I_p0 : Nat → Int32) (f_p0_data : Nat → Int32) (f_p0_dirs : Nat → Int32) (f_p0_file : Nat → Int32) (f_p0_many : Nat → Int32) (f_p0_nibs : Nat → Int32) (f_p0_places : Nat → Int32) (f_p0_sizes : Nat → Int32) (f_p0_start : Nat → Int32) (x1 : Int32) (x2 : Int32) (x3 : Int32) (s0 : Int32), va_P (dC, dI) vwCl [oM a_p0 A_p0 I_p0, gz cI (A_p0 15) 256 f_p0_data, gz cI (A_p0 13) 8 f_p0_dirs, gz cI (A_p0 0) 2000 f_p0_file, gz cI (A_p0 9) 2 f_p0_lengths, gz cI (A_p0 10) 24 f_p0_letters, gz cI (A_p0 18) 120 f_p0_many, gz cI (A_p0 16) 512 f_p0_nibs, gz cI (A_p0 21) 16 f_p0_places, gz cI (A_p0 6) 256 f_p0_samples, gz cI (A_p0 22) 16 f_p0_sizes, gz cI (A_p0 17) 120 f_p0_start, gz cI (A_p0 8) 2 f_p0_tags] H → va_D A [oM a_p0 A_p0 I_p0, gz cI (A_p0 15) 256 f_p0_data, gz cI (A_p0 13) 8 f_p0_dirs, gz cI (A_p0 0) 2000 f_p0_file, gz cI (A_p0 9) 2 f_p0_lengths, gz cI (A_p0 10) 24 f_p0_letters, gz cI (A_p0 18) 120 f_p0_many, gz cI (A_p0 16) 512 f_p0_nibs, gz cI (A_p0 21) 16 f_p0_places, gz cI (A_p0 6) 256 f_p0_samples, gz cI (A_p0 22) 16 f_p0_sizes, gz cI (A_p0 17) 120 f_p0_start, gz cI (A_p0 8) 2 f_p0_tags] → va_S A s.heap H locs → lv_has ls 12 [(0, .ref a_p0), (1, .int x1), (2, .int x2), (3, .int x3)] → wp_M_write_b21 post f_p0_lengths f_p0_letters f_p0_samples f_p0_tags I_p0 f_p0_data f_p0_dirs f_p0_file f_p0_many f_p0_nibs f_p0_places f_p0_sizes f_p0_start x1 x2 x3 s0 → W p l e ({ frames := 5, cells := 0, slots := 0, locals := 126 } : Room) s m args below meth c H locs 0 0 Q (F0 m 21 ls [.int s0]) := by
    intro H locs ls I_p0 f_p0_data f_p0_dirs f_p0_file f_p0_many f_p0_nibs f_p0_places f_p0_sizes f_p0_start x1 x2 x3 s0 hP hD hS hl hw
    unfold wp_M_write_b21 at hw
    refine lv_istore (lv' := [(4, .int s0), (0, .ref a_p0), (1, .int x1), (2, .int x2), (3, .int x3)]) hx hb d_M_write_21 hl (by decide) rfl (fun ls hl => ?_)
    refine lv_iload hx hb d_M_write_23 (lv_at hl 0 rfl) ?_
    refine lv_if_eq hx hb d_M_write_25 rfl (fun hc => ?_) (fun hc => ?_)
    · have hw := hw.1 hc
      refine lv_iconst (v := (-1)) hx hb d_M_write_51 (by decide) ?_
      exact hret _ _ _ _ _ (I_p0, f_p0_data, f_p0_dirs, f_p0_file, f_p0_many, f_p0_nibs, f_p0_places, f_p0_sizes, f_p0_start) d_M_write_52 rfl hP hD hS hw
    · have hw := hw.2 hc
      refine lv_iload_n hx hb d_M_write_28 rfl (lv_at hl 4 rfl) ?_
      refine lv_iconst (v := 1) hx hb d_M_write_29 (by decide) ?_
      refine lv_icmp_lt hx hb d_M_write_30 rfl (fun hc => ?_) (fun hc => ?_)
      · have hw := hw.1 hc
        refine lv_iconst (v := (-1)) hx hb d_M_write_51 (by decide) ?_
        exact hret _ _ _ _ _ (I_p0, f_p0_data, f_p0_dirs, f_p0_file, f_p0_many, f_p0_nibs, f_p0_places, f_p0_sizes, f_p0_start) d_M_write_52 rfl hP hD hS hw
      · have hw := hw.2 hc
        refine lv_iload_n hx hb d_M_write_33 rfl (lv_at hl 4 rfl) ?_
        refine lv_iconst (v := 2) hx hb d_M_write_34 (by decide) ?_
        refine lv_icmp_gt hx hb d_M_write_35 rfl (fun hc => ?_) (fun hc => ?_)
        · have hw := hw.1 hc
          refine lv_iconst (v := (-1)) hx hb d_M_write_51 (by decide) ?_
          exact hret _ _ _ _ _ (I_p0, f_p0_data, f_p0_dirs, f_p0_file, f_p0_many, f_p0_nibs, f_p0_places, f_p0_sizes, f_p0_start) d_M_write_52 rfl hP hD hS hw
        · have hw := hw.2 hc
          refine lv_iload_n hx hb d_M_write_38 rfl (lv_at hl 3 rfl) ?_
          refine lv_iconst (v := 1) hx hb d_M_write_39 (by decide) ?_
          refine lv_icmp_lt hx hb d_M_write_40 rfl (fun hc => ?_) (fun hc => ?_)
          · have hw := hw.1 hc
            refine lv_iconst (v := (-1)) hx hb d_M_write_51 (by decide) ?_
            exact hret _ _ _ _ _ (I_p0, f_p0_data, f_p0_dirs, f_p0_file, f_p0_many, f_p0_nibs, f_p0_places, f_p0_sizes, f_p0_start) d_M_write_52 rfl hP hD hS hw
          · have hw := hw.2 hc
            refine lv_iload_n hx hb d_M_write_43 rfl (lv_at hl 3 rfl) ?_
            refine lv_aload_n hx hb d_M_write_44 rfl (lv_at hl 1 rfl) ?_
            refine va_get (D := (dC, dI)) (ci := 10) (v := .int (I_p0 4)) (C := R_M) (T := T_M) (N := 30) hx hb hg in_M hown hK hP 0 rfl rfl 4 (by decide) (hg _ t_762) (fun _ h9 => h9) rfl d_M_write_45 ?_
            refine lv_icmp_le hx hb d_M_write_48 rfl (fun hc => ?_) (fun hc => ?_)
            · have hw := hw.1 hc
              refine lv_aload_n hx hb d_M_write_53 rfl (lv_at hl 1 rfl) ?_
              refine gc_v (wn := fun u => [oM a_p0 A_p0 u.1, gz cI (A_p0 15) 256 f_p0_data, gz cI (A_p0 13) 8 u.2, gz cI (A_p0 0) 2000 f_p0_file, gz cI (A_p0 9) 2 f_p0_lengths, gz cI (A_p0 10) 24 f_p0_letters, gz cI (A_p0 18) 120 f_p0_many, gz cI (A_p0 16) 512 f_p0_nibs, gz cI (A_p0 21) 16 f_p0_places, gz cI (A_p0 6) 256 f_p0_samples, gz cI (A_p0 22) 16 f_p0_sizes, gz cI (A_p0 17) 120 f_p0_start, gz cI (A_p0 8) 2 f_p0_tags]) (wr := [gz cI (A_p0 15) 256 f_p0_data, gz cI (A_p0 9) 2 f_p0_lengths, gz cI (A_p0 10) 24 f_p0_letters, gz cI (A_p0 18) 120 f_p0_many, gz cI (A_p0 16) 512 f_p0_nibs, gz cI (A_p0 21) 16 f_p0_places, gz cI (A_p0 6) 256 f_p0_samples, gz cI (A_p0 22) 16 f_p0_sizes, gz cI (A_p0 17) 120 f_p0_start, gz cI (A_p0 8) 2 f_p0_tags]) (gr_V (As := []) (rest := []) ⟨hx, hb, hml, hown, hg⟩ (c_M_walk l dC dI cI a_p0 A_p0 f_p0_file I_p0 f_p0_dirs hw _) (cwV 0 hg (gg_V t_897 t_899 t_27 t_71 t_900) rfl rfl rfl (by decide +kernel) ⟨Nat.le_of_ble_eq_true rfl, Nat.le_of_ble_eq_true rfl⟩) hK hN hP hD [0, 2, 3] (by decide) rfl 0 10 rfl rfl rfl rfl hl.1 rfl (Nat.le_of_ble_eq_true rfl) d_M_write_54 ⟨Nat.le_of_ble_eq_true rfl, Nat.le_of_ble_eq_true rfl⟩) rfl rfl hP hD hS hA [0, 2, 3] [1, 4, 5, 6, 7, 8, 9, 10, 11, 12] [10, 0, 11, 12, 1, 2, 3, 4, 5, 6, 7, 8, 9] rfl rfl (by decide) (by decide) (by decide) (fun _ => rfl) ?_
              intro u9 H locs hw hP hD hS
              obtain ⟨I_p0_54, f_p0_dirs_54⟩ := u9
              try dsimp only at hw
              have hP : va_P (dC, dI) vwCl [oM a_p0 A_p0 I_p0_54, gz cI (A_p0 15) 256 f_p0_data, gz cI (A_p0 13) 8 f_p0_dirs_54, gz cI (A_p0 0) 2000 f_p0_file, gz cI (A_p0 9) 2 f_p0_lengths, gz cI (A_p0 10) 24 f_p0_letters, gz cI (A_p0 18) 120 f_p0_many, gz cI (A_p0 16) 512 f_p0_nibs, gz cI (A_p0 21) 16 f_p0_places, gz cI (A_p0 6) 256 f_p0_samples, gz cI (A_p0 22) 16 f_p0_sizes, gz cI (A_p0 17) 120 f_p0_start, gz cI (A_p0 8) 2 f_p0_tags] H := hP
              have hD : va_D A [oM a_p0 A_p0 I_p0_54, gz cI (A_p0 15) 256 f_p0_data, gz cI (A_p0 13) 8 f_p0_dirs_54, gz cI (A_p0 0) 2000 f_p0_file, gz cI (A_p0 9) 2 f_p0_lengths, gz cI (A_p0 10) 24 f_p0_letters, gz cI (A_p0 18) 120 f_p0_many, gz cI (A_p0 16) 512 f_p0_nibs, gz cI (A_p0 21) 16 f_p0_places, gz cI (A_p0 6) 256 f_p0_samples, gz cI (A_p0 22) 16 f_p0_sizes, gz cI (A_p0 17) 120 f_p0_start, gz cI (A_p0 8) 2 f_p0_tags] := hD
              refine lv_aload_n hx hb d_M_write_57 rfl (lv_at hl 1 rfl) ?_
              refine va_get (D := (dC, dI)) (ci := 10) (v := .int (I_p0_54 12)) (C := R_M) (T := T_M) (N := 30) hx hb hg in_M hown hK hP 0 rfl rfl 12 (by decide) (hg _ t_770) (fun _ h9 => h9) rfl d_M_write_58 ?_
              refine lv_if_eq hx hb d_M_write_61 rfl (fun hc => ?_) (fun hc => ?_)
              · have hw := hw.1 hc
                exact b73 _ _ _ I_p0_54 f_p0_data f_p0_dirs_54 f_p0_file f_p0_many f_p0_nibs f_p0_places f_p0_sizes f_p0_start hP hD hS (lv_sub hl [1] rfl) hw
              · have hw := hw.2 hc
                refine lv_aload_n hx hb d_M_write_64 rfl (lv_at hl 1 rfl) ?_
                refine va_get (D := (dC, dI)) (ci := 10) (v := .int (I_p0_54 11)) (C := R_M) (T := T_M) (N := 30) hx hb hg in_M hown hK hP 0 rfl rfl 11 (by decide) (hg _ t_769) (fun _ h9 => h9) rfl d_M_write_65 ?_
                refine lv_bipush (v := 8) hx hb d_M_write_68 (by decide) ?_
                refine lv_icmp_ne hx hb d_M_write_70 rfl (fun hc => ?_) (fun hc => ?_)
                · have hw := hw.2 hc
                  refine lv_aload_n hx hb d_M_write_88 rfl (lv_at hl 1 rfl) ?_
                  refine lv_aload_n hx hb d_M_write_89 rfl (lv_at hl 1 rfl) ?_
                  refine va_get (D := (dC, dI)) (ci := 10) (v := .int (I_p0_54 1)) (C := R_M) (T := T_M) (N := 30) hx hb hg in_M hown hK hP 0 rfl rfl 1 (by decide) (hg _ t_759) (fun _ h9 => h9) rfl d_M_write_90 ?_
                  refine va_put (D := (dC, dI)) (ci := 10) (v := .int (I_p0_54 1)) (ty := .int) (C := R_M) (T := T_M) (N := 30) hx hb hg in_M t_M tok_M nok_M hown hK hP hD hS 0 rfl rfl 2 (by decide) (hg _ t_760) (fun _ h9 => h9) rfl (by decide +kernel) rfl rfl (Nat.le_of_ble_eq_true rfl) d_M_write_93 (fun H locs hP hD hS => ?_)
                  have hP : va_P (dC, dI) vwCl [oM a_p0 A_p0 (upd I_p0_54 2 (I_p0_54 1)), gz cI (A_p0 15) 256 f_p0_data, gz cI (A_p0 13) 8 f_p0_dirs_54, gz cI (A_p0 0) 2000 f_p0_file, gz cI (A_p0 9) 2 f_p0_lengths, gz cI (A_p0 10) 24 f_p0_letters, gz cI (A_p0 18) 120 f_p0_many, gz cI (A_p0 16) 512 f_p0_nibs, gz cI (A_p0 21) 16 f_p0_places, gz cI (A_p0 6) 256 f_p0_samples, gz cI (A_p0 22) 16 f_p0_sizes, gz cI (A_p0 17) 120 f_p0_start, gz cI (A_p0 8) 2 f_p0_tags] H := hP
                  have hD : va_D A [oM a_p0 A_p0 (upd I_p0_54 2 (I_p0_54 1)), gz cI (A_p0 15) 256 f_p0_data, gz cI (A_p0 13) 8 f_p0_dirs_54, gz cI (A_p0 0) 2000 f_p0_file, gz cI (A_p0 9) 2 f_p0_lengths, gz cI (A_p0 10) 24 f_p0_letters, gz cI (A_p0 18) 120 f_p0_many, gz cI (A_p0 16) 512 f_p0_nibs, gz cI (A_p0 21) 16 f_p0_places, gz cI (A_p0 6) 256 f_p0_samples, gz cI (A_p0 22) 16 f_p0_sizes, gz cI (A_p0 17) 120 f_p0_start, gz cI (A_p0 8) 2 f_p0_tags] := hD
                  refine lv_aload_n hx hb d_M_write_96 rfl (lv_at hl 1 rfl) ?_
                  refine va_get (D := (dC, dI)) (ci := 10) (v := .int (I_p0_54 4)) (C := R_M) (T := T_M) (N := 30) hx hb hg in_M hown hK hP 0 rfl rfl 4 (by decide) (hg _ t_762) (fun _ h9 => h9) rfl d_M_write_97 ?_
                  refine lv_iload_n hx hb d_M_write_100 rfl (lv_at hl 3 rfl) ?_
                  refine lv_iadd hx hb d_M_write_101 ?_
                  refine lv_iconst (v := 1) hx hb d_M_write_102 (by decide) ?_
                  refine lv_isub hx hb d_M_write_103 ?_
                  refine lv_iload_n hx hb d_M_write_104 rfl (lv_at hl 3 rfl) ?_
                  obtain ⟨hne, hw⟩ := hw
                  refine lv_idiv hx hb d_M_write_105 hne ?_
                  refine lv_istore (lv' := [(5, .int ((((I_p0_54 4) + x2) - 1) / x2)), (4, .int s0), (0, .ref a_p0), (1, .int x1), (2, .int x2), (3, .int x3)]) hx hb d_M_write_106 hl (by decide) rfl (fun ls hl => ?_)
                  refine lv_aload_n hx hb d_M_write_108 rfl (lv_at hl 2 rfl) ?_
                  refine lv_iload_n hx hb d_M_write_109 rfl (lv_at hl 3 rfl) ?_
                  refine lv_iload_n hx hb d_M_write_110 rfl (lv_at hl 4 rfl) ?_
                  refine lv_iload_n hx hb d_M_write_111 rfl (lv_at hl 5 rfl) ?_
                  refine lv_iload hx hb d_M_write_112 (lv_at hl 0 rfl) ?_
                  refine gc_v (wn := fun u => [oM a_p0 A_p0 u.1, gz cI (A_p0 15) 256 u.2.1, gz cI (A_p0 13) 8 f_p0_dirs_54, gz cI (A_p0 0) 2000 u.2.2.1, gz cI (A_p0 9) 2 f_p0_lengths, gz cI (A_p0 10) 24 f_p0_letters, gz cI (A_p0 18) 120 u.2.2.2.1, gz cI (A_p0 16) 512 u.2.2.2.2.1, gz cI (A_p0 21) 16 u.2.2.2.2.2.1, gz cI (A_p0 6) 256 f_p0_samples, gz cI (A_p0 22) 16 u.2.2.2.2.2.2.1, gz cI (A_p0 17) 120 u.2.2.2.2.2.2.2, gz cI (A_p0 8) 2 f_p0_tags]) (wr := [gz cI (A_p0 13) 8 f_p0_dirs_54, gz cI (A_p0 9) 2 f_p0_lengths, gz cI (A_p0 10) 24 f_p0_letters, gz cI (A_p0 8) 2 f_p0_tags]) (gr_V (As := [.int x1, .int x2, .int x3, .int ((((I_p0_54 4) + x2) - 1) / x2)]) (rest := []) ⟨hx, hb, hml, hown, hg⟩ (c_M_lay l dC dI cI a_p0 A_p0 f_p0_samples (upd I_p0_54 2 (I_p0_54 1)) f_p0_data f_p0_file f_p0_many f_p0_nibs f_p0_places f_p0_sizes f_p0_start x1 x2 x3 ((((I_p0_54 4) + x2) - 1) / x2) hw _) (cwV 4 hg (gg_V t_946 t_948 t_33 t_71 t_949) rfl rfl rfl (by decide +kernel) ⟨Nat.le_of_ble_eq_true rfl, Nat.le_of_ble_eq_true rfl⟩) hK hN hP hD [0, 1, 3, 6, 7, 8, 9, 10, 11] (by decide) rfl 0 10 rfl rfl rfl rfl hl.1 rfl (Nat.le_of_ble_eq_true rfl) d_M_write_114 ⟨Nat.le_of_ble_eq_true rfl, Nat.le_of_ble_eq_true rfl⟩) rfl rfl hP hD hS hA [0, 1, 3, 6, 7, 8, 9, 10, 11] [2, 4, 5, 12] [4, 5, 0, 6, 1, 2, 7, 8, 9, 10, 11, 12, 3] rfl rfl (by decide) (by decide) (by decide) (fun _ => rfl) ?_
                  intro u9 H locs hw hP hD hS
                  obtain ⟨I_p0_114, f_p0_data_114, f_p0_file_114, f_p0_many_114, f_p0_nibs_114, f_p0_places_114, f_p0_sizes_114, f_p0_start_114⟩ := u9
                  try dsimp only at hw
                  have hP : va_P (dC, dI) vwCl [oM a_p0 A_p0 I_p0_114, gz cI (A_p0 15) 256 f_p0_data_114, gz cI (A_p0 13) 8 f_p0_dirs_54, gz cI (A_p0 0) 2000 f_p0_file_114, gz cI (A_p0 9) 2 f_p0_lengths, gz cI (A_p0 10) 24 f_p0_letters, gz cI (A_p0 18) 120 f_p0_many_114, gz cI (A_p0 16) 512 f_p0_nibs_114, gz cI (A_p0 21) 16 f_p0_places_114, gz cI (A_p0 6) 256 f_p0_samples, gz cI (A_p0 22) 16 f_p0_sizes_114, gz cI (A_p0 17) 120 f_p0_start_114, gz cI (A_p0 8) 2 f_p0_tags] H := hP
                  have hD : va_D A [oM a_p0 A_p0 I_p0_114, gz cI (A_p0 15) 256 f_p0_data_114, gz cI (A_p0 13) 8 f_p0_dirs_54, gz cI (A_p0 0) 2000 f_p0_file_114, gz cI (A_p0 9) 2 f_p0_lengths, gz cI (A_p0 10) 24 f_p0_letters, gz cI (A_p0 18) 120 f_p0_many_114, gz cI (A_p0 16) 512 f_p0_nibs_114, gz cI (A_p0 21) 16 f_p0_places_114, gz cI (A_p0 6) 256 f_p0_samples, gz cI (A_p0 22) 16 f_p0_sizes_114, gz cI (A_p0 17) 120 f_p0_start_114, gz cI (A_p0 8) 2 f_p0_tags] := hD
                  refine lv_aload_n hx hb d_M_write_117 rfl (lv_at hl 2 rfl) ?_
                  refine gc_v (wn := fun u => [oM a_p0 A_p0 u.1, gz cI (A_p0 15) 256 f_p0_data_114, gz cI (A_p0 13) 8 f_p0_dirs_54, gz cI (A_p0 0) 2000 u.2, gz cI (A_p0 9) 2 f_p0_lengths, gz cI (A_p0 10) 24 f_p0_letters, gz cI (A_p0 18) 120 f_p0_many_114, gz cI (A_p0 16) 512 f_p0_nibs_114, gz cI (A_p0 21) 16 f_p0_places_114, gz cI (A_p0 6) 256 f_p0_samples, gz cI (A_p0 22) 16 f_p0_sizes_114, gz cI (A_p0 17) 120 f_p0_start_114, gz cI (A_p0 8) 2 f_p0_tags]) (wr := [gz cI (A_p0 15) 256 f_p0_data_114, gz cI (A_p0 13) 8 f_p0_dirs_54, gz cI (A_p0 9) 2 f_p0_lengths, gz cI (A_p0 10) 24 f_p0_letters, gz cI (A_p0 18) 120 f_p0_many_114, gz cI (A_p0 16) 512 f_p0_nibs_114, gz cI (A_p0 21) 16 f_p0_places_114, gz cI (A_p0 6) 256 f_p0_samples, gz cI (A_p0 22) 16 f_p0_sizes_114, gz cI (A_p0 17) 120 f_p0_start_114, gz cI (A_p0 8) 2 f_p0_tags]) (gr_V (As := []) (rest := []) ⟨hx, hb, hml, hown, hg⟩ (c_M_even l dC dI cI a_p0 A_p0 I_p0_114 f_p0_file_114 hw _) (cwV 0 hg (gg_V t_950 t_952 t_34 t_71 t_953) rfl rfl rfl (by decide +kernel) ⟨Nat.le_of_ble_eq_true rfl, Nat.le_of_ble_eq_true rfl⟩) hK hN hP hD [0, 3] (by decide) rfl 0 10 rfl rfl rfl rfl hl.1 rfl (Nat.le_of_ble_eq_true rfl) d_M_write_118 ⟨Nat.le_of_ble_eq_true rfl, Nat.le_of_ble_eq_true rfl⟩) rfl rfl hP hD hS hA [0, 3] [1, 2, 4, 5, 6, 7, 8, 9, 10, 11, 12] [11, 0, 1, 12, 2, 3, 4, 5, 6, 7, 8, 9, 10] rfl rfl (by decide) (by decide) (by decide) (fun _ => rfl) ?_
                  intro u9 H locs hw hP hD hS
                  obtain ⟨I_p0_118, f_p0_file_118⟩ := u9
                  try dsimp only at hw
                  have hP : va_P (dC, dI) vwCl [oM a_p0 A_p0 I_p0_118, gz cI (A_p0 15) 256 f_p0_data_114, gz cI (A_p0 13) 8 f_p0_dirs_54, gz cI (A_p0 0) 2000 f_p0_file_118, gz cI (A_p0 9) 2 f_p0_lengths, gz cI (A_p0 10) 24 f_p0_letters, gz cI (A_p0 18) 120 f_p0_many_114, gz cI (A_p0 16) 512 f_p0_nibs_114, gz cI (A_p0 21) 16 f_p0_places_114, gz cI (A_p0 6) 256 f_p0_samples, gz cI (A_p0 22) 16 f_p0_sizes_114, gz cI (A_p0 17) 120 f_p0_start_114, gz cI (A_p0 8) 2 f_p0_tags] H := hP
                  have hD : va_D A [oM a_p0 A_p0 I_p0_118, gz cI (A_p0 15) 256 f_p0_data_114, gz cI (A_p0 13) 8 f_p0_dirs_54, gz cI (A_p0 0) 2000 f_p0_file_118, gz cI (A_p0 9) 2 f_p0_lengths, gz cI (A_p0 10) 24 f_p0_letters, gz cI (A_p0 18) 120 f_p0_many_114, gz cI (A_p0 16) 512 f_p0_nibs_114, gz cI (A_p0 21) 16 f_p0_places_114, gz cI (A_p0 6) 256 f_p0_samples, gz cI (A_p0 22) 16 f_p0_sizes_114, gz cI (A_p0 17) 120 f_p0_start_114, gz cI (A_p0 8) 2 f_p0_tags] := hD
                  refine lv_aload_n hx hb d_M_write_121 rfl (lv_at hl 2 rfl) ?_
                  refine va_get (D := (dC, dI)) (ci := 10) (v := .int (I_p0_118 2)) (C := R_M) (T := T_M) (N := 30) hx hb hg in_M hown hK hP 0 rfl rfl 2 (by decide) (hg _ t_760) (fun _ h9 => h9) rfl d_M_write_122 ?_
                  refine lv_istore (lv' := [(6, .int (I_p0_118 2)), (5, .int ((((I_p0_54 4) + x2) - 1) / x2)), (4, .int s0), (0, .ref a_p0), (1, .int x1), (2, .int x2), (3, .int x3)]) hx hb d_M_write_125 hl (by decide) rfl (fun ls hl => ?_)
                  refine lv_iconst (v := 0) hx hb d_M_write_127 (by decide) ?_
                  refine lv_istore (lv' := [(7, .int 0), (6, .int (I_p0_118 2)), (5, .int ((((I_p0_54 4) + x2) - 1) / x2)), (4, .int s0), (0, .ref a_p0), (1, .int x1), (2, .int x2), (3, .int x3)]) hx hb d_M_write_128 hl (by decide) rfl (fun ls hl => ?_)
                  obtain ⟨n1, hw⟩ := hw
                  exact l130 n1 _ _ _ I_p0_118 f_p0_data_114 f_p0_dirs_54 f_p0_file_118 f_p0_many_114 f_p0_nibs_114 f_p0_places_114 f_p0_sizes_114 f_p0_start_114 x1 x2 x3 ((((I_p0_54 4) + x2) - 1) / x2) (I_p0_118 2) 0 hP hD hS (lv_sub hl [4, 5, 6, 7, 2, 1, 0] rfl) hw
                · have hw := hw.1 hc
                  exact b73 _ _ _ I_p0_54 f_p0_data f_p0_dirs_54 f_p0_file f_p0_many f_p0_nibs f_p0_places f_p0_sizes f_p0_start hP hD hS (lv_sub hl [1] rfl) hw
            · have hw := hw.2 hc
              refine lv_iconst (v := (-1)) hx hb d_M_write_51 (by decide) ?_
              exact hret _ _ _ _ _ (I_p0, f_p0_data, f_p0_dirs, f_p0_file, f_p0_many, f_p0_nibs, f_p0_places, f_p0_sizes, f_p0_start) d_M_write_52 rfl hP hD hS hw
  have b16 : ∀ (H : Heap) (locs : List Loc) (ls : Array Slot) (I_p0 : Nat → Int32) (f_p0_data : Nat → Int32) (f_p0_dirs : Nat → Int32) (f_p0_file : Nat → Int32) (f_p0_many : Nat → Int32) (f_p0_nibs : Nat → Int32) (f_p0_places : Nat → Int32) (f_p0_sizes : Nat → Int32) (f_p0_start : Nat → Int32) (x1 : Int32) (x2 : Int32) (x3 : Int32), va_P (dC, dI) vwCl [oM a_p0 A_p0 I_p0, gz cI (A_p0 15) 256 f_p0_data, gz cI (A_p0 13) 8 f_p0_dirs, gz cI (A_p0 0) 2000 f_p0_file, gz cI (A_p0 9) 2 f_p0_lengths, gz cI (A_p0 10) 24 f_p0_letters, gz cI (A_p0 18) 120 f_p0_many, gz cI (A_p0 16) 512 f_p0_nibs, gz cI (A_p0 21) 16 f_p0_places, gz cI (A_p0 6) 256 f_p0_samples, gz cI (A_p0 22) 16 f_p0_sizes, gz cI (A_p0 17) 120 f_p0_start, gz cI (A_p0 8) 2 f_p0_tags] H → va_D A [oM a_p0 A_p0 I_p0, gz cI (A_p0 15) 256 f_p0_data, gz cI (A_p0 13) 8 f_p0_dirs, gz cI (A_p0 0) 2000 f_p0_file, gz cI (A_p0 9) 2 f_p0_lengths, gz cI (A_p0 10) 24 f_p0_letters, gz cI (A_p0 18) 120 f_p0_many, gz cI (A_p0 16) 512 f_p0_nibs, gz cI (A_p0 21) 16 f_p0_places, gz cI (A_p0 6) 256 f_p0_samples, gz cI (A_p0 22) 16 f_p0_sizes, gz cI (A_p0 17) 120 f_p0_start, gz cI (A_p0 8) 2 f_p0_tags] → va_S A s.heap H locs → lv_has ls 12 [(0, .ref a_p0), (1, .int x1), (2, .int x2), (3, .int x3)] → wp_M_write_b16 post f_p0_lengths f_p0_letters f_p0_samples f_p0_tags I_p0 f_p0_data f_p0_dirs f_p0_file f_p0_many f_p0_nibs f_p0_places f_p0_sizes f_p0_start x1 x2 x3 → W p l e ({ frames := 5, cells := 0, slots := 0, locals := 126 } : Room) s m args below meth c H locs 0 0 Q (F0 m 16 ls []) := by
    intro H locs ls I_p0 f_p0_data f_p0_dirs f_p0_file f_p0_many f_p0_nibs f_p0_places f_p0_sizes f_p0_start x1 x2 x3 hP hD hS hl hw
    unfold wp_M_write_b16 at hw
    refine lv_iconst (v := 1) hx hb d_M_write_16 (by decide) ?_
    refine lv_goto hx hb d_M_write_17 rfl ?_
    exact b21 _ _ _ I_p0 f_p0_data f_p0_dirs f_p0_file f_p0_many f_p0_nibs f_p0_places f_p0_sizes f_p0_start x1 x2 x3 1 hP hD hS (lv_sub hl [0, 1, 2, 3] rfl) hw
  intro ls hl hP hD hS
  have hl : lv_has ls 12 [(0, .ref a_p0), (1, .int x1), (2, .int x2), (3, .int x3)] := hl
  unfold wp_M_write at hw
  refine lv_iload_n hx hb d_M_write_0 rfl (lv_at hl 1 rfl) ?_
  refine lv_iconst (v := 1) hx hb d_M_write_1 (by decide) ?_
  refine lv_icmp_eq hx hb d_M_write_2 rfl (fun hc => ?_) (fun hc => ?_)
  · have hw := hw.1 hc
    exact b16 _ _ _ I_p0 f_p0_data f_p0_dirs f_p0_file f_p0_many f_p0_nibs f_p0_places f_p0_sizes f_p0_start x1 x2 x3 hP hD hS (lv_sub hl [0, 1, 2, 3] rfl) hw
  · have hw := hw.2 hc
    refine lv_iload_n hx hb d_M_write_5 rfl (lv_at hl 1 rfl) ?_
    refine lv_iconst (v := 5) hx hb d_M_write_6 (by decide) ?_
    refine lv_icmp_eq hx hb d_M_write_7 rfl (fun hc => ?_) (fun hc => ?_)
    · have hw := hw.1 hc
      exact b16 _ _ _ I_p0 f_p0_data f_p0_dirs f_p0_file f_p0_many f_p0_nibs f_p0_places f_p0_sizes f_p0_start x1 x2 x3 hP hD hS (lv_sub hl [0, 1, 2, 3] rfl) hw
    · have hw := hw.2 hc
      refine lv_iload_n hx hb d_M_write_10 rfl (lv_at hl 1 rfl) ?_
      refine lv_ldc (v := 32773) hx hb hown (hg _ t_945) d_M_write_11 ?_
      refine lv_icmp_ne hx hb d_M_write_13 rfl (fun hc => ?_) (fun hc => ?_)
      · have hw := hw.2 hc
        refine lv_iconst (v := 0) hx hb d_M_write_20 (by decide) ?_
        exact b21 _ _ _ I_p0 f_p0_data f_p0_dirs f_p0_file f_p0_many f_p0_nibs f_p0_places f_p0_sizes f_p0_start x1 x2 x3 0 hP hD hS (lv_sub hl [0, 1, 2, 3] rfl) hw
      · have hw := hw.1 hc
        exact b16 _ _ _ I_p0 f_p0_data f_p0_dirs f_p0_file f_p0_many f_p0_nibs f_p0_places f_p0_sizes f_p0_start x1 x2 x3 hP hD hS (lv_sub hl [0, 1, 2, 3] rfl) hw
