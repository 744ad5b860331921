/-! The law's loop. -/
def zS0 : Nat := 2000
theorem z_goodL {ws : List Cond} (h : ∀ w ∈ ws, w ∈ zall) : GoodIn lw_tbl ws := fun w hw => ⟨(List.mem_filter.mp (h w hw)).1, good_of_word (List.mem_filter.mp (h w hw)).2⟩
theorem z_out19 {x : Int32} (h0 : ¬ x = 0) (h1 : ¬ x = 1) (h2 : ¬ x = 2) (h3 : ¬ x = 3) (h4 : ¬ x = 4) (h5 : ¬ x = 5) (h6 : ¬ x = 6) (h7 : ¬ x = 7) (h8 : ¬ x = 8) (h9 : ¬ x = 9) (h10 : ¬ x = 10) (h11 : ¬ x = 11) (h12 : ¬ x = 12) (h13 : ¬ x = 13) (h14 : ¬ x = 14) (h15 : ¬ x = 15) (h16 : ¬ x = 16) (h17 : ¬ x = 17) (h18 : ¬ x = 18) : x.toInt < 0 ∨ 18 < x.toInt := by
  rw [← Int32.toInt_inj] at h0 h1 h2 h3 h4 h5 h6 h7 h8 h9 h10 h11 h12 h13 h14 h15 h16 h17 h18
  have e0 : (0 : Int32).toInt = 0 := by decide
  have e1 : (1 : Int32).toInt = 1 := by decide
  have e2 : (2 : Int32).toInt = 2 := by decide
  have e3 : (3 : Int32).toInt = 3 := by decide
  have e4 : (4 : Int32).toInt = 4 := by decide
  have e5 : (5 : Int32).toInt = 5 := by decide
  have e6 : (6 : Int32).toInt = 6 := by decide
  have e7 : (7 : Int32).toInt = 7 := by decide
  have e8 : (8 : Int32).toInt = 8 := by decide
  have e9 : (9 : Int32).toInt = 9 := by decide
  have e10 : (10 : Int32).toInt = 10 := by decide
  have e11 : (11 : Int32).toInt = 11 := by decide
  have e12 : (12 : Int32).toInt = 12 := by decide
  have e13 : (13 : Int32).toInt = 13 := by decide
  have e14 : (14 : Int32).toInt = 14 := by decide
  have e15 : (15 : Int32).toInt = 15 := by decide
  have e16 : (16 : Int32).toInt = 16 := by decide
  have e17 : (17 : Int32).toInt = 17 := by decide
  have e18 : (18 : Int32).toInt = 18 := by decide
  omega
theorem z_next {v : Int32} {j : Nat} (h : v = nI (5 * j)) : v + 5 = nI (5 * (j + 1)) := by
  rw [h, show (5 : Int32) = nI 5 from rfl, nI_add]
  rfl
theorem z_room {v : Int32} {j Ln : Nat} (h : v = nI (5 * j)) (hc : ¬ nI Ln - 5 < v) (hL : Ln ≤ 2560) (hjL : 5 * j ≤ Ln) : 5 * (j + 1) ≤ Ln := by
  rw [h, show (5 : Int32) = nI 5 from rfl, Int32.lt_iff_toInt_lt, pk_sub_toInt (by omega) (by omega), nI_toInt (by omega)] at hc
  omega

theorem d_La_law_0 : decode code 0 = .ok (.new 8, 3) := by decide +kernel
theorem d_La_law_3 : decode code 3 = .ok (.dup, 1) := by decide +kernel
theorem d_La_law_4 : decode code 4 = .ok (.invokespecial 80, 3) := by decide +kernel
theorem d_La_law_7 : decode code 7 = .ok (.astore_n 1, 1) := by decide +kernel
theorem d_La_law_8 : decode code 8 = .ok (.new 81, 3) := by decide +kernel
theorem d_La_law_11 : decode code 11 = .ok (.dup, 1) := by decide +kernel
theorem d_La_law_12 : decode code 12 = .ok (.invokespecial 83, 3) := by decide +kernel
theorem d_La_law_15 : decode code 15 = .ok (.astore_n 2, 1) := by decide +kernel
theorem d_La_law_16 : decode code 16 = .ok (.iconst 1, 1) := by decide +kernel
theorem d_La_law_17 : decode code 17 = .ok (.newarray .long, 2) := by decide +kernel
theorem d_La_law_19 : decode code 19 = .ok (.astore_n 3, 1) := by decide +kernel
theorem d_La_law_20 : decode code 20 = .ok (.iconst 0, 1) := by decide +kernel
theorem d_La_law_21 : decode code 21 = .ok (.istore 4, 2) := by decide +kernel
theorem d_La_law_23 : decode code 23 = .ok (.iload 4, 2) := by decide +kernel
theorem d_La_law_25 : decode code 25 = .ok (.aload_n 0, 1) := by decide +kernel
theorem d_La_law_26 : decode code 26 = .ok (.arraylength, 1) := by decide +kernel
theorem d_La_law_27 : decode code 27 = .ok (.iconst 5, 1) := by decide +kernel
theorem d_La_law_28 : decode code 28 = .ok (.isub, 1) := by decide +kernel
theorem d_La_law_29 : decode code 29 = .ok (.if_icmp .gt 1395, 3) := by decide +kernel
theorem d_La_law_32 : decode code 32 = .ok (.aload_n 0, 1) := by decide +kernel
theorem d_La_law_33 : decode code 33 = .ok (.iload 4, 2) := by decide +kernel
theorem d_La_law_35 : decode code 35 = .ok (.iaload, 1) := by decide +kernel
theorem d_La_law_36 : decode code 36 = .ok (.bipush 31, 2) := by decide +kernel
theorem d_La_law_38 : decode code 38 = .ok (.iand, 1) := by decide +kernel
theorem d_La_law_39 : decode code 39 = .ok (.tableswitch 1379 0 18 #[89, 169, 237, 293, 401, 481, 549, 629, 709, 789, 856, 912, 968, 981, 1037, 1105, 1180, 1243, 1311], 89) := by decide +kernel
theorem d_La_law_128 : decode code 128 = .ok (.aload_n 1, 1) := by decide +kernel
theorem d_La_law_129 : decode code 129 = .ok (.aload_n 0, 1) := by decide +kernel
theorem d_La_law_130 : decode code 130 = .ok (.iload 4, 2) := by decide +kernel
theorem d_La_law_132 : decode code 132 = .ok (.iconst 1, 1) := by decide +kernel
theorem d_La_law_133 : decode code 133 = .ok (.iadd, 1) := by decide +kernel
theorem d_La_law_134 : decode code 134 = .ok (.iaload, 1) := by decide +kernel
theorem d_La_law_135 : decode code 135 = .ok (.aload_n 0, 1) := by decide +kernel
theorem d_La_law_136 : decode code 136 = .ok (.iload 4, 2) := by decide +kernel
theorem d_La_law_138 : decode code 138 = .ok (.iconst 2, 1) := by decide +kernel
theorem d_La_law_139 : decode code 139 = .ok (.iadd, 1) := by decide +kernel
theorem d_La_law_140 : decode code 140 = .ok (.iaload, 1) := by decide +kernel
theorem d_La_law_141 : decode code 141 = .ok (.aload_n 0, 1) := by decide +kernel
theorem d_La_law_142 : decode code 142 = .ok (.iload 4, 2) := by decide +kernel
theorem d_La_law_144 : decode code 144 = .ok (.iconst 3, 1) := by decide +kernel
theorem d_La_law_145 : decode code 145 = .ok (.iadd, 1) := by decide +kernel
theorem d_La_law_146 : decode code 146 = .ok (.iaload, 1) := by decide +kernel
theorem d_La_law_147 : decode code 147 = .ok (.aload_n 3, 1) := by decide +kernel
theorem d_La_law_148 : decode code 148 = .ok (.invokestatic 84, 3) := by decide +kernel
theorem d_La_law_151 : decode code 151 = .ok (.istore 5, 2) := by decide +kernel
theorem d_La_law_153 : decode code 153 = .ok (.aload_n 2, 1) := by decide +kernel
theorem d_La_law_154 : decode code 154 = .ok (.aload_n 0, 1) := by decide +kernel
theorem d_La_law_155 : decode code 155 = .ok (.iload 4, 2) := by decide +kernel
theorem d_La_law_157 : decode code 157 = .ok (.iconst 1, 1) := by decide +kernel
theorem d_La_law_158 : decode code 158 = .ok (.iadd, 1) := by decide +kernel
theorem d_La_law_159 : decode code 159 = .ok (.iaload, 1) := by decide +kernel
theorem d_La_law_160 : decode code 160 = .ok (.aload_n 0, 1) := by decide +kernel
theorem d_La_law_161 : decode code 161 = .ok (.iload 4, 2) := by decide +kernel
theorem d_La_law_163 : decode code 163 = .ok (.iconst 2, 1) := by decide +kernel
theorem d_La_law_164 : decode code 164 = .ok (.iadd, 1) := by decide +kernel
theorem d_La_law_165 : decode code 165 = .ok (.iaload, 1) := by decide +kernel
theorem d_La_law_166 : decode code 166 = .ok (.aload_n 0, 1) := by decide +kernel
theorem d_La_law_167 : decode code 167 = .ok (.iload 4, 2) := by decide +kernel
theorem d_La_law_169 : decode code 169 = .ok (.iconst 3, 1) := by decide +kernel
theorem d_La_law_170 : decode code 170 = .ok (.iadd, 1) := by decide +kernel
theorem d_La_law_171 : decode code 171 = .ok (.iaload, 1) := by decide +kernel
theorem d_La_law_172 : decode code 172 = .ok (.invokevirtual 89, 3) := by decide +kernel
theorem d_La_law_175 : decode code 175 = .ok (.istore 6, 2) := by decide +kernel
theorem d_La_law_177 : decode code 177 = .ok (.aload_n 2, 1) := by decide +kernel
theorem d_La_law_178 : decode code 178 = .ok (.invokevirtual 90, 3) := by decide +kernel
theorem d_La_law_181 : decode code 181 = .ok (.iload 5, 2) := by decide +kernel
theorem d_La_law_183 : decode code 183 = .ok (.if_icmp .eq 5, 3) := by decide +kernel
theorem d_La_law_186 : decode code 186 = .ok (.iconst 0, 1) := by decide +kernel
theorem d_La_law_187 : decode code 187 = .ok (.ireturn, 1) := by decide +kernel
theorem d_La_law_188 : decode code 188 = .ok (.iload 5, 2) := by decide +kernel
theorem d_La_law_190 : decode code 190 = .ok (.ifCond .ne 15, 3) := by decide +kernel
theorem d_La_law_193 : decode code 193 = .ok (.aload_n 3, 1) := by decide +kernel
theorem d_La_law_194 : decode code 194 = .ok (.iconst 0, 1) := by decide +kernel
theorem d_La_law_195 : decode code 195 = .ok (.laload, 1) := by decide +kernel
theorem d_La_law_196 : decode code 196 = .ok (.iload 6, 2) := by decide +kernel
theorem d_La_law_198 : decode code 198 = .ok (.i2l, 1) := by decide +kernel
theorem d_La_law_199 : decode code 199 = .ok (.lcmp, 1) := by decide +kernel
theorem d_La_law_200 : decode code 200 = .ok (.ifCond .eq 5, 3) := by decide +kernel
theorem d_La_law_203 : decode code 203 = .ok (.iconst 0, 1) := by decide +kernel
theorem d_La_law_204 : decode code 204 = .ok (.ireturn, 1) := by decide +kernel
theorem d_La_law_205 : decode code 205 = .ok (.goto 1213, 3) := by decide +kernel
theorem d_La_law_208 : decode code 208 = .ok (.aload_n 1, 1) := by decide +kernel
theorem d_La_law_209 : decode code 209 = .ok (.aload_n 0, 1) := by decide +kernel
theorem d_La_law_210 : decode code 210 = .ok (.iload 4, 2) := by decide +kernel
theorem d_La_law_212 : decode code 212 = .ok (.iconst 1, 1) := by decide +kernel
theorem d_La_law_213 : decode code 213 = .ok (.iadd, 1) := by decide +kernel
theorem d_La_law_214 : decode code 214 = .ok (.iaload, 1) := by decide +kernel
theorem d_La_law_215 : decode code 215 = .ok (.aload_n 0, 1) := by decide +kernel
theorem d_La_law_216 : decode code 216 = .ok (.iload 4, 2) := by decide +kernel
theorem d_La_law_218 : decode code 218 = .ok (.iconst 2, 1) := by decide +kernel
theorem d_La_law_219 : decode code 219 = .ok (.iadd, 1) := by decide +kernel
theorem d_La_law_220 : decode code 220 = .ok (.iaload, 1) := by decide +kernel
theorem d_La_law_221 : decode code 221 = .ok (.aload_n 3, 1) := by decide +kernel
theorem d_La_law_222 : decode code 222 = .ok (.invokestatic 94, 3) := by decide +kernel
theorem d_La_law_225 : decode code 225 = .ok (.istore 5, 2) := by decide +kernel
theorem d_La_law_227 : decode code 227 = .ok (.aload_n 2, 1) := by decide +kernel
theorem d_La_law_228 : decode code 228 = .ok (.aload_n 0, 1) := by decide +kernel
theorem d_La_law_229 : decode code 229 = .ok (.iload 4, 2) := by decide +kernel
theorem d_La_law_231 : decode code 231 = .ok (.iconst 1, 1) := by decide +kernel
theorem d_La_law_232 : decode code 232 = .ok (.iadd, 1) := by decide +kernel
theorem d_La_law_233 : decode code 233 = .ok (.iaload, 1) := by decide +kernel
theorem d_La_law_234 : decode code 234 = .ok (.aload_n 0, 1) := by decide +kernel
theorem d_La_law_235 : decode code 235 = .ok (.iload 4, 2) := by decide +kernel
theorem d_La_law_237 : decode code 237 = .ok (.iconst 2, 1) := by decide +kernel
theorem d_La_law_238 : decode code 238 = .ok (.iadd, 1) := by decide +kernel
theorem d_La_law_239 : decode code 239 = .ok (.iaload, 1) := by decide +kernel
theorem d_La_law_240 : decode code 240 = .ok (.invokevirtual 97, 3) := by decide +kernel
theorem d_La_law_243 : decode code 243 = .ok (.istore 6, 2) := by decide +kernel
theorem d_La_law_245 : decode code 245 = .ok (.aload_n 2, 1) := by decide +kernel
theorem d_La_law_246 : decode code 246 = .ok (.invokevirtual 90, 3) := by decide +kernel
theorem d_La_law_249 : decode code 249 = .ok (.iload 5, 2) := by decide +kernel
theorem d_La_law_251 : decode code 251 = .ok (.if_icmp .eq 5, 3) := by decide +kernel
theorem d_La_law_254 : decode code 254 = .ok (.iconst 0, 1) := by decide +kernel
theorem d_La_law_255 : decode code 255 = .ok (.ireturn, 1) := by decide +kernel
theorem d_La_law_256 : decode code 256 = .ok (.iload 5, 2) := by decide +kernel
theorem d_La_law_258 : decode code 258 = .ok (.ifCond .ne 15, 3) := by decide +kernel
theorem d_La_law_261 : decode code 261 = .ok (.aload_n 3, 1) := by decide +kernel
theorem d_La_law_262 : decode code 262 = .ok (.iconst 0, 1) := by decide +kernel
theorem d_La_law_263 : decode code 263 = .ok (.laload, 1) := by decide +kernel
theorem d_La_law_264 : decode code 264 = .ok (.iload 6, 2) := by decide +kernel
theorem d_La_law_266 : decode code 266 = .ok (.i2l, 1) := by decide +kernel
theorem d_La_law_267 : decode code 267 = .ok (.lcmp, 1) := by decide +kernel
theorem d_La_law_268 : decode code 268 = .ok (.ifCond .eq 5, 3) := by decide +kernel
theorem d_La_law_271 : decode code 271 = .ok (.iconst 0, 1) := by decide +kernel
theorem d_La_law_272 : decode code 272 = .ok (.ireturn, 1) := by decide +kernel
theorem d_La_law_273 : decode code 273 = .ok (.goto 1145, 3) := by decide +kernel
theorem d_La_law_276 : decode code 276 = .ok (.aload_n 1, 1) := by decide +kernel
theorem d_La_law_277 : decode code 277 = .ok (.aload_n 0, 1) := by decide +kernel
theorem d_La_law_278 : decode code 278 = .ok (.iload 4, 2) := by decide +kernel
theorem d_La_law_280 : decode code 280 = .ok (.iconst 1, 1) := by decide +kernel
theorem d_La_law_281 : decode code 281 = .ok (.iadd, 1) := by decide +kernel
theorem d_La_law_282 : decode code 282 = .ok (.iaload, 1) := by decide +kernel
theorem d_La_law_283 : decode code 283 = .ok (.aload_n 3, 1) := by decide +kernel
theorem d_La_law_284 : decode code 284 = .ok (.invokestatic 98, 3) := by decide +kernel
theorem d_La_law_287 : decode code 287 = .ok (.istore 5, 2) := by decide +kernel
theorem d_La_law_289 : decode code 289 = .ok (.aload_n 2, 1) := by decide +kernel
theorem d_La_law_290 : decode code 290 = .ok (.aload_n 0, 1) := by decide +kernel
theorem d_La_law_291 : decode code 291 = .ok (.iload 4, 2) := by decide +kernel
theorem d_La_law_293 : decode code 293 = .ok (.iconst 1, 1) := by decide +kernel
theorem d_La_law_294 : decode code 294 = .ok (.iadd, 1) := by decide +kernel
theorem d_La_law_295 : decode code 295 = .ok (.iaload, 1) := by decide +kernel
theorem d_La_law_296 : decode code 296 = .ok (.invokevirtual 101, 3) := by decide +kernel
theorem d_La_law_299 : decode code 299 = .ok (.istore 6, 2) := by decide +kernel
theorem d_La_law_301 : decode code 301 = .ok (.aload_n 2, 1) := by decide +kernel
theorem d_La_law_302 : decode code 302 = .ok (.invokevirtual 90, 3) := by decide +kernel
theorem d_La_law_305 : decode code 305 = .ok (.iload 5, 2) := by decide +kernel
theorem d_La_law_307 : decode code 307 = .ok (.if_icmp .eq 5, 3) := by decide +kernel
theorem d_La_law_310 : decode code 310 = .ok (.iconst 0, 1) := by decide +kernel
theorem d_La_law_311 : decode code 311 = .ok (.ireturn, 1) := by decide +kernel
theorem d_La_law_312 : decode code 312 = .ok (.iload 5, 2) := by decide +kernel
theorem d_La_law_314 : decode code 314 = .ok (.ifCond .ne 15, 3) := by decide +kernel
theorem d_La_law_317 : decode code 317 = .ok (.aload_n 3, 1) := by decide +kernel
theorem d_La_law_318 : decode code 318 = .ok (.iconst 0, 1) := by decide +kernel
theorem d_La_law_319 : decode code 319 = .ok (.laload, 1) := by decide +kernel
theorem d_La_law_320 : decode code 320 = .ok (.iload 6, 2) := by decide +kernel
theorem d_La_law_322 : decode code 322 = .ok (.i2l, 1) := by decide +kernel
theorem d_La_law_323 : decode code 323 = .ok (.lcmp, 1) := by decide +kernel
theorem d_La_law_324 : decode code 324 = .ok (.ifCond .eq 5, 3) := by decide +kernel
theorem d_La_law_327 : decode code 327 = .ok (.iconst 0, 1) := by decide +kernel
theorem d_La_law_328 : decode code 328 = .ok (.ireturn, 1) := by decide +kernel
theorem d_La_law_329 : decode code 329 = .ok (.goto 1089, 3) := by decide +kernel
theorem d_La_law_332 : decode code 332 = .ok (.aload_n 1, 1) := by decide +kernel
theorem d_La_law_333 : decode code 333 = .ok (.aload_n 0, 1) := by decide +kernel
theorem d_La_law_334 : decode code 334 = .ok (.iload 4, 2) := by decide +kernel
theorem d_La_law_336 : decode code 336 = .ok (.iconst 1, 1) := by decide +kernel
theorem d_La_law_337 : decode code 337 = .ok (.iadd, 1) := by decide +kernel
theorem d_La_law_338 : decode code 338 = .ok (.iaload, 1) := by decide +kernel
theorem d_La_law_339 : decode code 339 = .ok (.aload_n 0, 1) := by decide +kernel
theorem d_La_law_340 : decode code 340 = .ok (.iload 4, 2) := by decide +kernel
theorem d_La_law_342 : decode code 342 = .ok (.iconst 2, 1) := by decide +kernel
theorem d_La_law_343 : decode code 343 = .ok (.iadd, 1) := by decide +kernel
theorem d_La_law_344 : decode code 344 = .ok (.iaload, 1) := by decide +kernel
theorem d_La_law_345 : decode code 345 = .ok (.aload_n 0, 1) := by decide +kernel
theorem d_La_law_346 : decode code 346 = .ok (.iload 4, 2) := by decide +kernel
theorem d_La_law_348 : decode code 348 = .ok (.iconst 3, 1) := by decide +kernel
theorem d_La_law_349 : decode code 349 = .ok (.iadd, 1) := by decide +kernel
theorem d_La_law_350 : decode code 350 = .ok (.iaload, 1) := by decide +kernel
theorem d_La_law_351 : decode code 351 = .ok (.aload_n 0, 1) := by decide +kernel
theorem d_La_law_352 : decode code 352 = .ok (.iload 4, 2) := by decide +kernel
theorem d_La_law_354 : decode code 354 = .ok (.iconst 4, 1) := by decide +kernel
theorem d_La_law_355 : decode code 355 = .ok (.iadd, 1) := by decide +kernel
theorem d_La_law_356 : decode code 356 = .ok (.iaload, 1) := by decide +kernel
theorem d_La_law_357 : decode code 357 = .ok (.ifCond .eq 7, 3) := by decide +kernel
theorem d_La_law_360 : decode code 360 = .ok (.iconst 1, 1) := by decide +kernel
theorem d_La_law_361 : decode code 361 = .ok (.goto 4, 3) := by decide +kernel
theorem d_La_law_364 : decode code 364 = .ok (.iconst 0, 1) := by decide +kernel
theorem d_La_law_365 : decode code 365 = .ok (.aload_n 3, 1) := by decide +kernel
theorem d_La_law_366 : decode code 366 = .ok (.invokestatic 102, 3) := by decide +kernel
theorem d_La_law_369 : decode code 369 = .ok (.istore 5, 2) := by decide +kernel
theorem d_La_law_371 : decode code 371 = .ok (.aload_n 2, 1) := by decide +kernel
theorem d_La_law_372 : decode code 372 = .ok (.aload_n 0, 1) := by decide +kernel
theorem d_La_law_373 : decode code 373 = .ok (.iload 4, 2) := by decide +kernel
theorem d_La_law_375 : decode code 375 = .ok (.iconst 1, 1) := by decide +kernel
theorem d_La_law_376 : decode code 376 = .ok (.iadd, 1) := by decide +kernel
theorem d_La_law_377 : decode code 377 = .ok (.iaload, 1) := by decide +kernel
theorem d_La_law_378 : decode code 378 = .ok (.aload_n 0, 1) := by decide +kernel
theorem d_La_law_379 : decode code 379 = .ok (.iload 4, 2) := by decide +kernel
theorem d_La_law_381 : decode code 381 = .ok (.iconst 2, 1) := by decide +kernel
theorem d_La_law_382 : decode code 382 = .ok (.iadd, 1) := by decide +kernel
theorem d_La_law_383 : decode code 383 = .ok (.iaload, 1) := by decide +kernel
theorem d_La_law_384 : decode code 384 = .ok (.aload_n 0, 1) := by decide +kernel
theorem d_La_law_385 : decode code 385 = .ok (.iload 4, 2) := by decide +kernel
theorem d_La_law_387 : decode code 387 = .ok (.iconst 3, 1) := by decide +kernel
theorem d_La_law_388 : decode code 388 = .ok (.iadd, 1) := by decide +kernel
theorem d_La_law_389 : decode code 389 = .ok (.iaload, 1) := by decide +kernel
theorem d_La_law_390 : decode code 390 = .ok (.aload_n 0, 1) := by decide +kernel
theorem d_La_law_391 : decode code 391 = .ok (.iload 4, 2) := by decide +kernel
theorem d_La_law_393 : decode code 393 = .ok (.iconst 4, 1) := by decide +kernel
theorem d_La_law_394 : decode code 394 = .ok (.iadd, 1) := by decide +kernel
theorem d_La_law_395 : decode code 395 = .ok (.iaload, 1) := by decide +kernel
theorem d_La_law_396 : decode code 396 = .ok (.ifCond .eq 7, 3) := by decide +kernel
theorem d_La_law_399 : decode code 399 = .ok (.iconst 1, 1) := by decide +kernel
theorem d_La_law_400 : decode code 400 = .ok (.goto 4, 3) := by decide +kernel
theorem d_La_law_403 : decode code 403 = .ok (.iconst 0, 1) := by decide +kernel
theorem d_La_law_404 : decode code 404 = .ok (.invokevirtual 105, 3) := by decide +kernel
theorem d_La_law_407 : decode code 407 = .ok (.istore 6, 2) := by decide +kernel
theorem d_La_law_409 : decode code 409 = .ok (.aload_n 2, 1) := by decide +kernel
theorem d_La_law_410 : decode code 410 = .ok (.invokevirtual 90, 3) := by decide +kernel
theorem d_La_law_413 : decode code 413 = .ok (.iload 5, 2) := by decide +kernel
theorem d_La_law_415 : decode code 415 = .ok (.if_icmp .eq 5, 3) := by decide +kernel
theorem d_La_law_418 : decode code 418 = .ok (.iconst 0, 1) := by decide +kernel
theorem d_La_law_419 : decode code 419 = .ok (.ireturn, 1) := by decide +kernel
theorem d_La_law_420 : decode code 420 = .ok (.iload 5, 2) := by decide +kernel
theorem d_La_law_422 : decode code 422 = .ok (.ifCond .ne 15, 3) := by decide +kernel
theorem d_La_law_425 : decode code 425 = .ok (.aload_n 3, 1) := by decide +kernel
theorem d_La_law_426 : decode code 426 = .ok (.iconst 0, 1) := by decide +kernel
theorem d_La_law_427 : decode code 427 = .ok (.laload, 1) := by decide +kernel
theorem d_La_law_428 : decode code 428 = .ok (.iload 6, 2) := by decide +kernel
theorem d_La_law_430 : decode code 430 = .ok (.i2l, 1) := by decide +kernel
theorem d_La_law_431 : decode code 431 = .ok (.lcmp, 1) := by decide +kernel
theorem d_La_law_432 : decode code 432 = .ok (.ifCond .eq 5, 3) := by decide +kernel
theorem d_La_law_435 : decode code 435 = .ok (.iconst 0, 1) := by decide +kernel
theorem d_La_law_436 : decode code 436 = .ok (.ireturn, 1) := by decide +kernel
theorem d_La_law_437 : decode code 437 = .ok (.goto 981, 3) := by decide +kernel
theorem d_La_law_440 : decode code 440 = .ok (.aload_n 1, 1) := by decide +kernel
theorem d_La_law_441 : decode code 441 = .ok (.aload_n 0, 1) := by decide +kernel
theorem d_La_law_442 : decode code 442 = .ok (.iload 4, 2) := by decide +kernel
theorem d_La_law_444 : decode code 444 = .ok (.iconst 1, 1) := by decide +kernel
theorem d_La_law_445 : decode code 445 = .ok (.iadd, 1) := by decide +kernel
theorem d_La_law_446 : decode code 446 = .ok (.iaload, 1) := by decide +kernel
theorem d_La_law_447 : decode code 447 = .ok (.aload_n 0, 1) := by decide +kernel
theorem d_La_law_448 : decode code 448 = .ok (.iload 4, 2) := by decide +kernel
theorem d_La_law_450 : decode code 450 = .ok (.iconst 2, 1) := by decide +kernel
theorem d_La_law_451 : decode code 451 = .ok (.iadd, 1) := by decide +kernel
theorem d_La_law_452 : decode code 452 = .ok (.iaload, 1) := by decide +kernel
theorem d_La_law_453 : decode code 453 = .ok (.aload_n 0, 1) := by decide +kernel
theorem d_La_law_454 : decode code 454 = .ok (.iload 4, 2) := by decide +kernel
theorem d_La_law_456 : decode code 456 = .ok (.iconst 3, 1) := by decide +kernel
theorem d_La_law_457 : decode code 457 = .ok (.iadd, 1) := by decide +kernel
theorem d_La_law_458 : decode code 458 = .ok (.iaload, 1) := by decide +kernel
theorem d_La_law_459 : decode code 459 = .ok (.aload_n 3, 1) := by decide +kernel
theorem d_La_law_460 : decode code 460 = .ok (.invokestatic 106, 3) := by decide +kernel
theorem d_La_law_463 : decode code 463 = .ok (.istore 5, 2) := by decide +kernel
theorem d_La_law_465 : decode code 465 = .ok (.aload_n 2, 1) := by decide +kernel
theorem d_La_law_466 : decode code 466 = .ok (.aload_n 0, 1) := by decide +kernel
theorem d_La_law_467 : decode code 467 = .ok (.iload 4, 2) := by decide +kernel
theorem d_La_law_469 : decode code 469 = .ok (.iconst 1, 1) := by decide +kernel
theorem d_La_law_470 : decode code 470 = .ok (.iadd, 1) := by decide +kernel
theorem d_La_law_471 : decode code 471 = .ok (.iaload, 1) := by decide +kernel
theorem d_La_law_472 : decode code 472 = .ok (.aload_n 0, 1) := by decide +kernel
theorem d_La_law_473 : decode code 473 = .ok (.iload 4, 2) := by decide +kernel
theorem d_La_law_475 : decode code 475 = .ok (.iconst 2, 1) := by decide +kernel
theorem d_La_law_476 : decode code 476 = .ok (.iadd, 1) := by decide +kernel
theorem d_La_law_477 : decode code 477 = .ok (.iaload, 1) := by decide +kernel
theorem d_La_law_478 : decode code 478 = .ok (.aload_n 0, 1) := by decide +kernel
theorem d_La_law_479 : decode code 479 = .ok (.iload 4, 2) := by decide +kernel
theorem d_La_law_481 : decode code 481 = .ok (.iconst 3, 1) := by decide +kernel
theorem d_La_law_482 : decode code 482 = .ok (.iadd, 1) := by decide +kernel
theorem d_La_law_483 : decode code 483 = .ok (.iaload, 1) := by decide +kernel
theorem d_La_law_484 : decode code 484 = .ok (.invokevirtual 108, 3) := by decide +kernel
theorem d_La_law_487 : decode code 487 = .ok (.istore 6, 2) := by decide +kernel
theorem d_La_law_489 : decode code 489 = .ok (.aload_n 2, 1) := by decide +kernel
theorem d_La_law_490 : decode code 490 = .ok (.invokevirtual 90, 3) := by decide +kernel
theorem d_La_law_493 : decode code 493 = .ok (.iload 5, 2) := by decide +kernel
theorem d_La_law_495 : decode code 495 = .ok (.if_icmp .eq 5, 3) := by decide +kernel
theorem d_La_law_498 : decode code 498 = .ok (.iconst 0, 1) := by decide +kernel
theorem d_La_law_499 : decode code 499 = .ok (.ireturn, 1) := by decide +kernel
theorem d_La_law_500 : decode code 500 = .ok (.iload 5, 2) := by decide +kernel
theorem d_La_law_502 : decode code 502 = .ok (.ifCond .ne 15, 3) := by decide +kernel
theorem d_La_law_505 : decode code 505 = .ok (.aload_n 3, 1) := by decide +kernel
theorem d_La_law_506 : decode code 506 = .ok (.iconst 0, 1) := by decide +kernel
theorem d_La_law_507 : decode code 507 = .ok (.laload, 1) := by decide +kernel
theorem d_La_law_508 : decode code 508 = .ok (.iload 6, 2) := by decide +kernel
theorem d_La_law_510 : decode code 510 = .ok (.i2l, 1) := by decide +kernel
theorem d_La_law_511 : decode code 511 = .ok (.lcmp, 1) := by decide +kernel
theorem d_La_law_512 : decode code 512 = .ok (.ifCond .eq 5, 3) := by decide +kernel
theorem d_La_law_515 : decode code 515 = .ok (.iconst 0, 1) := by decide +kernel
theorem d_La_law_516 : decode code 516 = .ok (.ireturn, 1) := by decide +kernel
theorem d_La_law_517 : decode code 517 = .ok (.goto 901, 3) := by decide +kernel
theorem d_La_law_520 : decode code 520 = .ok (.aload_n 1, 1) := by decide +kernel
theorem d_La_law_521 : decode code 521 = .ok (.aload_n 0, 1) := by decide +kernel
theorem d_La_law_522 : decode code 522 = .ok (.iload 4, 2) := by decide +kernel
theorem d_La_law_524 : decode code 524 = .ok (.iconst 1, 1) := by decide +kernel
theorem d_La_law_525 : decode code 525 = .ok (.iadd, 1) := by decide +kernel
theorem d_La_law_526 : decode code 526 = .ok (.iaload, 1) := by decide +kernel
theorem d_La_law_527 : decode code 527 = .ok (.aload_n 0, 1) := by decide +kernel
theorem d_La_law_528 : decode code 528 = .ok (.iload 4, 2) := by decide +kernel
theorem d_La_law_530 : decode code 530 = .ok (.iconst 2, 1) := by decide +kernel
theorem d_La_law_531 : decode code 531 = .ok (.iadd, 1) := by decide +kernel
theorem d_La_law_532 : decode code 532 = .ok (.iaload, 1) := by decide +kernel
theorem d_La_law_533 : decode code 533 = .ok (.aload_n 3, 1) := by decide +kernel
theorem d_La_law_534 : decode code 534 = .ok (.invokestatic 109, 3) := by decide +kernel
theorem d_La_law_537 : decode code 537 = .ok (.istore 5, 2) := by decide +kernel
theorem d_La_law_539 : decode code 539 = .ok (.aload_n 2, 1) := by decide +kernel
theorem d_La_law_540 : decode code 540 = .ok (.aload_n 0, 1) := by decide +kernel
theorem d_La_law_541 : decode code 541 = .ok (.iload 4, 2) := by decide +kernel
theorem d_La_law_543 : decode code 543 = .ok (.iconst 1, 1) := by decide +kernel
theorem d_La_law_544 : decode code 544 = .ok (.iadd, 1) := by decide +kernel
theorem d_La_law_545 : decode code 545 = .ok (.iaload, 1) := by decide +kernel
theorem d_La_law_546 : decode code 546 = .ok (.aload_n 0, 1) := by decide +kernel
theorem d_La_law_547 : decode code 547 = .ok (.iload 4, 2) := by decide +kernel
theorem d_La_law_549 : decode code 549 = .ok (.iconst 2, 1) := by decide +kernel
theorem d_La_law_550 : decode code 550 = .ok (.iadd, 1) := by decide +kernel
theorem d_La_law_551 : decode code 551 = .ok (.iaload, 1) := by decide +kernel
theorem d_La_law_552 : decode code 552 = .ok (.invokevirtual 111, 3) := by decide +kernel
theorem d_La_law_555 : decode code 555 = .ok (.istore 6, 2) := by decide +kernel
theorem d_La_law_557 : decode code 557 = .ok (.aload_n 2, 1) := by decide +kernel
theorem d_La_law_558 : decode code 558 = .ok (.invokevirtual 90, 3) := by decide +kernel
theorem d_La_law_561 : decode code 561 = .ok (.iload 5, 2) := by decide +kernel
theorem d_La_law_563 : decode code 563 = .ok (.if_icmp .eq 5, 3) := by decide +kernel
theorem d_La_law_566 : decode code 566 = .ok (.iconst 0, 1) := by decide +kernel
theorem d_La_law_567 : decode code 567 = .ok (.ireturn, 1) := by decide +kernel
theorem d_La_law_568 : decode code 568 = .ok (.iload 5, 2) := by decide +kernel
theorem d_La_law_570 : decode code 570 = .ok (.ifCond .ne 15, 3) := by decide +kernel
theorem d_La_law_573 : decode code 573 = .ok (.aload_n 3, 1) := by decide +kernel
theorem d_La_law_574 : decode code 574 = .ok (.iconst 0, 1) := by decide +kernel
theorem d_La_law_575 : decode code 575 = .ok (.laload, 1) := by decide +kernel
theorem d_La_law_576 : decode code 576 = .ok (.iload 6, 2) := by decide +kernel
theorem d_La_law_578 : decode code 578 = .ok (.i2l, 1) := by decide +kernel
theorem d_La_law_579 : decode code 579 = .ok (.lcmp, 1) := by decide +kernel
theorem d_La_law_580 : decode code 580 = .ok (.ifCond .eq 5, 3) := by decide +kernel
theorem d_La_law_583 : decode code 583 = .ok (.iconst 0, 1) := by decide +kernel
theorem d_La_law_584 : decode code 584 = .ok (.ireturn, 1) := by decide +kernel
theorem d_La_law_585 : decode code 585 = .ok (.goto 833, 3) := by decide +kernel
theorem d_La_law_588 : decode code 588 = .ok (.aload_n 1, 1) := by decide +kernel
theorem d_La_law_589 : decode code 589 = .ok (.aload_n 0, 1) := by decide +kernel
theorem d_La_law_590 : decode code 590 = .ok (.iload 4, 2) := by decide +kernel
theorem d_La_law_592 : decode code 592 = .ok (.iconst 1, 1) := by decide +kernel
theorem d_La_law_593 : decode code 593 = .ok (.iadd, 1) := by decide +kernel
theorem d_La_law_594 : decode code 594 = .ok (.iaload, 1) := by decide +kernel
theorem d_La_law_595 : decode code 595 = .ok (.aload_n 0, 1) := by decide +kernel
theorem d_La_law_596 : decode code 596 = .ok (.iload 4, 2) := by decide +kernel
theorem d_La_law_598 : decode code 598 = .ok (.iconst 2, 1) := by decide +kernel
theorem d_La_law_599 : decode code 599 = .ok (.iadd, 1) := by decide +kernel
theorem d_La_law_600 : decode code 600 = .ok (.iaload, 1) := by decide +kernel
theorem d_La_law_601 : decode code 601 = .ok (.aload_n 0, 1) := by decide +kernel
theorem d_La_law_602 : decode code 602 = .ok (.iload 4, 2) := by decide +kernel
theorem d_La_law_604 : decode code 604 = .ok (.iconst 3, 1) := by decide +kernel
theorem d_La_law_605 : decode code 605 = .ok (.iadd, 1) := by decide +kernel
theorem d_La_law_606 : decode code 606 = .ok (.iaload, 1) := by decide +kernel
theorem d_La_law_607 : decode code 607 = .ok (.aload_n 3, 1) := by decide +kernel
theorem d_La_law_608 : decode code 608 = .ok (.invokestatic 112, 3) := by decide +kernel
theorem d_La_law_611 : decode code 611 = .ok (.istore 5, 2) := by decide +kernel
theorem d_La_law_613 : decode code 613 = .ok (.aload_n 2, 1) := by decide +kernel
theorem d_La_law_614 : decode code 614 = .ok (.aload_n 0, 1) := by decide +kernel
theorem d_La_law_615 : decode code 615 = .ok (.iload 4, 2) := by decide +kernel
theorem d_La_law_617 : decode code 617 = .ok (.iconst 1, 1) := by decide +kernel
theorem d_La_law_618 : decode code 618 = .ok (.iadd, 1) := by decide +kernel
theorem d_La_law_619 : decode code 619 = .ok (.iaload, 1) := by decide +kernel
theorem d_La_law_620 : decode code 620 = .ok (.aload_n 0, 1) := by decide +kernel
theorem d_La_law_621 : decode code 621 = .ok (.iload 4, 2) := by decide +kernel
theorem d_La_law_623 : decode code 623 = .ok (.iconst 2, 1) := by decide +kernel
theorem d_La_law_624 : decode code 624 = .ok (.iadd, 1) := by decide +kernel
theorem d_La_law_625 : decode code 625 = .ok (.iaload, 1) := by decide +kernel
theorem d_La_law_626 : decode code 626 = .ok (.aload_n 0, 1) := by decide +kernel
theorem d_La_law_627 : decode code 627 = .ok (.iload 4, 2) := by decide +kernel
theorem d_La_law_629 : decode code 629 = .ok (.iconst 3, 1) := by decide +kernel
theorem d_La_law_630 : decode code 630 = .ok (.iadd, 1) := by decide +kernel
theorem d_La_law_631 : decode code 631 = .ok (.iaload, 1) := by decide +kernel
theorem d_La_law_632 : decode code 632 = .ok (.invokevirtual 114, 3) := by decide +kernel
theorem d_La_law_635 : decode code 635 = .ok (.istore 6, 2) := by decide +kernel
theorem d_La_law_637 : decode code 637 = .ok (.aload_n 2, 1) := by decide +kernel
theorem d_La_law_638 : decode code 638 = .ok (.invokevirtual 90, 3) := by decide +kernel
theorem d_La_law_641 : decode code 641 = .ok (.iload 5, 2) := by decide +kernel
theorem d_La_law_643 : decode code 643 = .ok (.if_icmp .eq 5, 3) := by decide +kernel
theorem d_La_law_646 : decode code 646 = .ok (.iconst 0, 1) := by decide +kernel
theorem d_La_law_647 : decode code 647 = .ok (.ireturn, 1) := by decide +kernel
theorem d_La_law_648 : decode code 648 = .ok (.iload 5, 2) := by decide +kernel
theorem d_La_law_650 : decode code 650 = .ok (.ifCond .ne 15, 3) := by decide +kernel
theorem d_La_law_653 : decode code 653 = .ok (.aload_n 3, 1) := by decide +kernel
theorem d_La_law_654 : decode code 654 = .ok (.iconst 0, 1) := by decide +kernel
theorem d_La_law_655 : decode code 655 = .ok (.laload, 1) := by decide +kernel
theorem d_La_law_656 : decode code 656 = .ok (.iload 6, 2) := by decide +kernel
theorem d_La_law_658 : decode code 658 = .ok (.i2l, 1) := by decide +kernel
theorem d_La_law_659 : decode code 659 = .ok (.lcmp, 1) := by decide +kernel
theorem d_La_law_660 : decode code 660 = .ok (.ifCond .eq 5, 3) := by decide +kernel
theorem d_La_law_663 : decode code 663 = .ok (.iconst 0, 1) := by decide +kernel
theorem d_La_law_664 : decode code 664 = .ok (.ireturn, 1) := by decide +kernel
theorem d_La_law_665 : decode code 665 = .ok (.goto 753, 3) := by decide +kernel
theorem d_La_law_668 : decode code 668 = .ok (.aload_n 1, 1) := by decide +kernel
theorem d_La_law_669 : decode code 669 = .ok (.aload_n 0, 1) := by decide +kernel
theorem d_La_law_670 : decode code 670 = .ok (.iload 4, 2) := by decide +kernel
theorem d_La_law_672 : decode code 672 = .ok (.iconst 1, 1) := by decide +kernel
theorem d_La_law_673 : decode code 673 = .ok (.iadd, 1) := by decide +kernel
theorem d_La_law_674 : decode code 674 = .ok (.iaload, 1) := by decide +kernel
theorem d_La_law_675 : decode code 675 = .ok (.aload_n 0, 1) := by decide +kernel
theorem d_La_law_676 : decode code 676 = .ok (.iload 4, 2) := by decide +kernel
theorem d_La_law_678 : decode code 678 = .ok (.iconst 2, 1) := by decide +kernel
theorem d_La_law_679 : decode code 679 = .ok (.iadd, 1) := by decide +kernel
theorem d_La_law_680 : decode code 680 = .ok (.iaload, 1) := by decide +kernel
theorem d_La_law_681 : decode code 681 = .ok (.aload_n 0, 1) := by decide +kernel
theorem d_La_law_682 : decode code 682 = .ok (.iload 4, 2) := by decide +kernel
theorem d_La_law_684 : decode code 684 = .ok (.iconst 3, 1) := by decide +kernel
theorem d_La_law_685 : decode code 685 = .ok (.iadd, 1) := by decide +kernel
theorem d_La_law_686 : decode code 686 = .ok (.iaload, 1) := by decide +kernel
theorem d_La_law_687 : decode code 687 = .ok (.aload_n 3, 1) := by decide +kernel
theorem d_La_law_688 : decode code 688 = .ok (.invokestatic 115, 3) := by decide +kernel
theorem d_La_law_691 : decode code 691 = .ok (.istore 5, 2) := by decide +kernel
theorem d_La_law_693 : decode code 693 = .ok (.aload_n 2, 1) := by decide +kernel
theorem d_La_law_694 : decode code 694 = .ok (.aload_n 0, 1) := by decide +kernel
theorem d_La_law_695 : decode code 695 = .ok (.iload 4, 2) := by decide +kernel
theorem d_La_law_697 : decode code 697 = .ok (.iconst 1, 1) := by decide +kernel
theorem d_La_law_698 : decode code 698 = .ok (.iadd, 1) := by decide +kernel
theorem d_La_law_699 : decode code 699 = .ok (.iaload, 1) := by decide +kernel
theorem d_La_law_700 : decode code 700 = .ok (.aload_n 0, 1) := by decide +kernel
theorem d_La_law_701 : decode code 701 = .ok (.iload 4, 2) := by decide +kernel
theorem d_La_law_703 : decode code 703 = .ok (.iconst 2, 1) := by decide +kernel
theorem d_La_law_704 : decode code 704 = .ok (.iadd, 1) := by decide +kernel
theorem d_La_law_705 : decode code 705 = .ok (.iaload, 1) := by decide +kernel
theorem d_La_law_706 : decode code 706 = .ok (.aload_n 0, 1) := by decide +kernel
theorem d_La_law_707 : decode code 707 = .ok (.iload 4, 2) := by decide +kernel
theorem d_La_law_709 : decode code 709 = .ok (.iconst 3, 1) := by decide +kernel
theorem d_La_law_710 : decode code 710 = .ok (.iadd, 1) := by decide +kernel
theorem d_La_law_711 : decode code 711 = .ok (.iaload, 1) := by decide +kernel
theorem d_La_law_712 : decode code 712 = .ok (.invokevirtual 117, 3) := by decide +kernel
theorem d_La_law_715 : decode code 715 = .ok (.istore 6, 2) := by decide +kernel
theorem d_La_law_717 : decode code 717 = .ok (.aload_n 2, 1) := by decide +kernel
theorem d_La_law_718 : decode code 718 = .ok (.invokevirtual 90, 3) := by decide +kernel
theorem d_La_law_721 : decode code 721 = .ok (.iload 5, 2) := by decide +kernel
theorem d_La_law_723 : decode code 723 = .ok (.if_icmp .eq 5, 3) := by decide +kernel
theorem d_La_law_726 : decode code 726 = .ok (.iconst 0, 1) := by decide +kernel
theorem d_La_law_727 : decode code 727 = .ok (.ireturn, 1) := by decide +kernel
theorem d_La_law_728 : decode code 728 = .ok (.iload 5, 2) := by decide +kernel
theorem d_La_law_730 : decode code 730 = .ok (.ifCond .ne 15, 3) := by decide +kernel
theorem d_La_law_733 : decode code 733 = .ok (.aload_n 3, 1) := by decide +kernel
theorem d_La_law_734 : decode code 734 = .ok (.iconst 0, 1) := by decide +kernel
theorem d_La_law_735 : decode code 735 = .ok (.laload, 1) := by decide +kernel
theorem d_La_law_736 : decode code 736 = .ok (.iload 6, 2) := by decide +kernel
theorem d_La_law_738 : decode code 738 = .ok (.i2l, 1) := by decide +kernel
theorem d_La_law_739 : decode code 739 = .ok (.lcmp, 1) := by decide +kernel
theorem d_La_law_740 : decode code 740 = .ok (.ifCond .eq 5, 3) := by decide +kernel
theorem d_La_law_743 : decode code 743 = .ok (.iconst 0, 1) := by decide +kernel
theorem d_La_law_744 : decode code 744 = .ok (.ireturn, 1) := by decide +kernel
theorem d_La_law_745 : decode code 745 = .ok (.goto 673, 3) := by decide +kernel
theorem d_La_law_748 : decode code 748 = .ok (.aload_n 1, 1) := by decide +kernel
theorem d_La_law_749 : decode code 749 = .ok (.aload_n 0, 1) := by decide +kernel
theorem d_La_law_750 : decode code 750 = .ok (.iload 4, 2) := by decide +kernel
theorem d_La_law_752 : decode code 752 = .ok (.iconst 1, 1) := by decide +kernel
theorem d_La_law_753 : decode code 753 = .ok (.iadd, 1) := by decide +kernel
theorem d_La_law_754 : decode code 754 = .ok (.iaload, 1) := by decide +kernel
theorem d_La_law_755 : decode code 755 = .ok (.aload_n 0, 1) := by decide +kernel
theorem d_La_law_756 : decode code 756 = .ok (.iload 4, 2) := by decide +kernel
theorem d_La_law_758 : decode code 758 = .ok (.iconst 2, 1) := by decide +kernel
theorem d_La_law_759 : decode code 759 = .ok (.iadd, 1) := by decide +kernel
theorem d_La_law_760 : decode code 760 = .ok (.iaload, 1) := by decide +kernel
theorem d_La_law_761 : decode code 761 = .ok (.aload_n 0, 1) := by decide +kernel
theorem d_La_law_762 : decode code 762 = .ok (.iload 4, 2) := by decide +kernel
theorem d_La_law_764 : decode code 764 = .ok (.iconst 3, 1) := by decide +kernel
theorem d_La_law_765 : decode code 765 = .ok (.iadd, 1) := by decide +kernel
theorem d_La_law_766 : decode code 766 = .ok (.iaload, 1) := by decide +kernel
theorem d_La_law_767 : decode code 767 = .ok (.aload_n 3, 1) := by decide +kernel
theorem d_La_law_768 : decode code 768 = .ok (.invokestatic 118, 3) := by decide +kernel
theorem d_La_law_771 : decode code 771 = .ok (.istore 5, 2) := by decide +kernel
theorem d_La_law_773 : decode code 773 = .ok (.aload_n 2, 1) := by decide +kernel
theorem d_La_law_774 : decode code 774 = .ok (.aload_n 0, 1) := by decide +kernel
theorem d_La_law_775 : decode code 775 = .ok (.iload 4, 2) := by decide +kernel
theorem d_La_law_777 : decode code 777 = .ok (.iconst 1, 1) := by decide +kernel
theorem d_La_law_778 : decode code 778 = .ok (.iadd, 1) := by decide +kernel
theorem d_La_law_779 : decode code 779 = .ok (.iaload, 1) := by decide +kernel
theorem d_La_law_780 : decode code 780 = .ok (.aload_n 0, 1) := by decide +kernel
theorem d_La_law_781 : decode code 781 = .ok (.iload 4, 2) := by decide +kernel
theorem d_La_law_783 : decode code 783 = .ok (.iconst 2, 1) := by decide +kernel
theorem d_La_law_784 : decode code 784 = .ok (.iadd, 1) := by decide +kernel
theorem d_La_law_785 : decode code 785 = .ok (.iaload, 1) := by decide +kernel
theorem d_La_law_786 : decode code 786 = .ok (.aload_n 0, 1) := by decide +kernel
theorem d_La_law_787 : decode code 787 = .ok (.iload 4, 2) := by decide +kernel
theorem d_La_law_789 : decode code 789 = .ok (.iconst 3, 1) := by decide +kernel
theorem d_La_law_790 : decode code 790 = .ok (.iadd, 1) := by decide +kernel
theorem d_La_law_791 : decode code 791 = .ok (.iaload, 1) := by decide +kernel
theorem d_La_law_792 : decode code 792 = .ok (.invokevirtual 120, 3) := by decide +kernel
theorem d_La_law_795 : decode code 795 = .ok (.istore 6, 2) := by decide +kernel
theorem d_La_law_797 : decode code 797 = .ok (.aload_n 2, 1) := by decide +kernel
theorem d_La_law_798 : decode code 798 = .ok (.invokevirtual 90, 3) := by decide +kernel
theorem d_La_law_801 : decode code 801 = .ok (.iload 5, 2) := by decide +kernel
theorem d_La_law_803 : decode code 803 = .ok (.if_icmp .eq 5, 3) := by decide +kernel
theorem d_La_law_806 : decode code 806 = .ok (.iconst 0, 1) := by decide +kernel
theorem d_La_law_807 : decode code 807 = .ok (.ireturn, 1) := by decide +kernel
theorem d_La_law_808 : decode code 808 = .ok (.iload 5, 2) := by decide +kernel
theorem d_La_law_810 : decode code 810 = .ok (.ifCond .ne 15, 3) := by decide +kernel
theorem d_La_law_813 : decode code 813 = .ok (.aload_n 3, 1) := by decide +kernel
theorem d_La_law_814 : decode code 814 = .ok (.iconst 0, 1) := by decide +kernel
theorem d_La_law_815 : decode code 815 = .ok (.laload, 1) := by decide +kernel
theorem d_La_law_816 : decode code 816 = .ok (.iload 6, 2) := by decide +kernel
theorem d_La_law_818 : decode code 818 = .ok (.i2l, 1) := by decide +kernel
theorem d_La_law_819 : decode code 819 = .ok (.lcmp, 1) := by decide +kernel
theorem d_La_law_820 : decode code 820 = .ok (.ifCond .eq 5, 3) := by decide +kernel
theorem d_La_law_823 : decode code 823 = .ok (.iconst 0, 1) := by decide +kernel
theorem d_La_law_824 : decode code 824 = .ok (.ireturn, 1) := by decide +kernel
theorem d_La_law_825 : decode code 825 = .ok (.goto 593, 3) := by decide +kernel
theorem d_La_law_828 : decode code 828 = .ok (.aload_n 1, 1) := by decide +kernel
theorem d_La_law_829 : decode code 829 = .ok (.aload_n 0, 1) := by decide +kernel
theorem d_La_law_830 : decode code 830 = .ok (.iload 4, 2) := by decide +kernel
theorem d_La_law_832 : decode code 832 = .ok (.iconst 1, 1) := by decide +kernel
theorem d_La_law_833 : decode code 833 = .ok (.iadd, 1) := by decide +kernel
theorem d_La_law_834 : decode code 834 = .ok (.iaload, 1) := by decide +kernel
theorem d_La_law_835 : decode code 835 = .ok (.aload_n 0, 1) := by decide +kernel
theorem d_La_law_836 : decode code 836 = .ok (.iload 4, 2) := by decide +kernel
theorem d_La_law_838 : decode code 838 = .ok (.iconst 2, 1) := by decide +kernel
theorem d_La_law_839 : decode code 839 = .ok (.iadd, 1) := by decide +kernel
theorem d_La_law_840 : decode code 840 = .ok (.iaload, 1) := by decide +kernel
theorem d_La_law_841 : decode code 841 = .ok (.aload_n 3, 1) := by decide +kernel
theorem d_La_law_842 : decode code 842 = .ok (.invokestatic 121, 3) := by decide +kernel
theorem d_La_law_845 : decode code 845 = .ok (.istore 5, 2) := by decide +kernel
theorem d_La_law_847 : decode code 847 = .ok (.aload_n 2, 1) := by decide +kernel
theorem d_La_law_848 : decode code 848 = .ok (.aload_n 0, 1) := by decide +kernel
theorem d_La_law_849 : decode code 849 = .ok (.iload 4, 2) := by decide +kernel
theorem d_La_law_851 : decode code 851 = .ok (.iconst 1, 1) := by decide +kernel
theorem d_La_law_852 : decode code 852 = .ok (.iadd, 1) := by decide +kernel
theorem d_La_law_853 : decode code 853 = .ok (.iaload, 1) := by decide +kernel
theorem d_La_law_854 : decode code 854 = .ok (.aload_n 0, 1) := by decide +kernel
theorem d_La_law_855 : decode code 855 = .ok (.iload 4, 2) := by decide +kernel
theorem d_La_law_857 : decode code 857 = .ok (.iconst 2, 1) := by decide +kernel
theorem d_La_law_858 : decode code 858 = .ok (.iadd, 1) := by decide +kernel
theorem d_La_law_859 : decode code 859 = .ok (.iaload, 1) := by decide +kernel
theorem d_La_law_860 : decode code 860 = .ok (.invokevirtual 123, 3) := by decide +kernel
theorem d_La_law_863 : decode code 863 = .ok (.lstore 6, 2) := by decide +kernel
theorem d_La_law_865 : decode code 865 = .ok (.aload_n 2, 1) := by decide +kernel
theorem d_La_law_866 : decode code 866 = .ok (.invokevirtual 90, 3) := by decide +kernel
theorem d_La_law_869 : decode code 869 = .ok (.iload 5, 2) := by decide +kernel
theorem d_La_law_871 : decode code 871 = .ok (.if_icmp .eq 5, 3) := by decide +kernel
theorem d_La_law_874 : decode code 874 = .ok (.iconst 0, 1) := by decide +kernel
theorem d_La_law_875 : decode code 875 = .ok (.ireturn, 1) := by decide +kernel
theorem d_La_law_876 : decode code 876 = .ok (.iload 5, 2) := by decide +kernel
theorem d_La_law_878 : decode code 878 = .ok (.ifCond .ne 14, 3) := by decide +kernel
theorem d_La_law_881 : decode code 881 = .ok (.aload_n 3, 1) := by decide +kernel
theorem d_La_law_882 : decode code 882 = .ok (.iconst 0, 1) := by decide +kernel
theorem d_La_law_883 : decode code 883 = .ok (.laload, 1) := by decide +kernel
theorem d_La_law_884 : decode code 884 = .ok (.lload 6, 2) := by decide +kernel
theorem d_La_law_886 : decode code 886 = .ok (.lcmp, 1) := by decide +kernel
theorem d_La_law_887 : decode code 887 = .ok (.ifCond .eq 5, 3) := by decide +kernel
theorem d_La_law_890 : decode code 890 = .ok (.iconst 0, 1) := by decide +kernel
theorem d_La_law_891 : decode code 891 = .ok (.ireturn, 1) := by decide +kernel
theorem d_La_law_892 : decode code 892 = .ok (.goto 526, 3) := by decide +kernel
theorem d_La_law_895 : decode code 895 = .ok (.aload_n 1, 1) := by decide +kernel
theorem d_La_law_896 : decode code 896 = .ok (.aload_n 0, 1) := by decide +kernel
theorem d_La_law_897 : decode code 897 = .ok (.iload 4, 2) := by decide +kernel
theorem d_La_law_899 : decode code 899 = .ok (.iconst 1, 1) := by decide +kernel
theorem d_La_law_900 : decode code 900 = .ok (.iadd, 1) := by decide +kernel
theorem d_La_law_901 : decode code 901 = .ok (.iaload, 1) := by decide +kernel
theorem d_La_law_902 : decode code 902 = .ok (.aload_n 3, 1) := by decide +kernel
theorem d_La_law_903 : decode code 903 = .ok (.invokestatic 124, 3) := by decide +kernel
theorem d_La_law_906 : decode code 906 = .ok (.istore 5, 2) := by decide +kernel
theorem d_La_law_908 : decode code 908 = .ok (.aload_n 2, 1) := by decide +kernel
theorem d_La_law_909 : decode code 909 = .ok (.aload_n 0, 1) := by decide +kernel
theorem d_La_law_910 : decode code 910 = .ok (.iload 4, 2) := by decide +kernel
theorem d_La_law_912 : decode code 912 = .ok (.iconst 1, 1) := by decide +kernel
theorem d_La_law_913 : decode code 913 = .ok (.iadd, 1) := by decide +kernel
theorem d_La_law_914 : decode code 914 = .ok (.iaload, 1) := by decide +kernel
theorem d_La_law_915 : decode code 915 = .ok (.invokevirtual 126, 3) := by decide +kernel
theorem d_La_law_918 : decode code 918 = .ok (.istore 6, 2) := by decide +kernel
theorem d_La_law_920 : decode code 920 = .ok (.aload_n 2, 1) := by decide +kernel
theorem d_La_law_921 : decode code 921 = .ok (.invokevirtual 90, 3) := by decide +kernel
theorem d_La_law_924 : decode code 924 = .ok (.iload 5, 2) := by decide +kernel
theorem d_La_law_926 : decode code 926 = .ok (.if_icmp .eq 5, 3) := by decide +kernel
theorem d_La_law_929 : decode code 929 = .ok (.iconst 0, 1) := by decide +kernel
theorem d_La_law_930 : decode code 930 = .ok (.ireturn, 1) := by decide +kernel
theorem d_La_law_931 : decode code 931 = .ok (.iload 5, 2) := by decide +kernel
theorem d_La_law_933 : decode code 933 = .ok (.ifCond .ne 15, 3) := by decide +kernel
theorem d_La_law_936 : decode code 936 = .ok (.aload_n 3, 1) := by decide +kernel
theorem d_La_law_937 : decode code 937 = .ok (.iconst 0, 1) := by decide +kernel
theorem d_La_law_938 : decode code 938 = .ok (.laload, 1) := by decide +kernel
theorem d_La_law_939 : decode code 939 = .ok (.iload 6, 2) := by decide +kernel
theorem d_La_law_941 : decode code 941 = .ok (.i2l, 1) := by decide +kernel
theorem d_La_law_942 : decode code 942 = .ok (.lcmp, 1) := by decide +kernel
theorem d_La_law_943 : decode code 943 = .ok (.ifCond .eq 5, 3) := by decide +kernel
theorem d_La_law_946 : decode code 946 = .ok (.iconst 0, 1) := by decide +kernel
theorem d_La_law_947 : decode code 947 = .ok (.ireturn, 1) := by decide +kernel
theorem d_La_law_948 : decode code 948 = .ok (.goto 470, 3) := by decide +kernel
theorem d_La_law_951 : decode code 951 = .ok (.aload_n 1, 1) := by decide +kernel
theorem d_La_law_952 : decode code 952 = .ok (.aload_n 0, 1) := by decide +kernel
theorem d_La_law_953 : decode code 953 = .ok (.iload 4, 2) := by decide +kernel
theorem d_La_law_955 : decode code 955 = .ok (.iconst 1, 1) := by decide +kernel
theorem d_La_law_956 : decode code 956 = .ok (.iadd, 1) := by decide +kernel
theorem d_La_law_957 : decode code 957 = .ok (.iaload, 1) := by decide +kernel
theorem d_La_law_958 : decode code 958 = .ok (.aload_n 3, 1) := by decide +kernel
theorem d_La_law_959 : decode code 959 = .ok (.invokestatic 127, 3) := by decide +kernel
theorem d_La_law_962 : decode code 962 = .ok (.istore 5, 2) := by decide +kernel
theorem d_La_law_964 : decode code 964 = .ok (.aload_n 2, 1) := by decide +kernel
theorem d_La_law_965 : decode code 965 = .ok (.aload_n 0, 1) := by decide +kernel
theorem d_La_law_966 : decode code 966 = .ok (.iload 4, 2) := by decide +kernel
theorem d_La_law_968 : decode code 968 = .ok (.iconst 1, 1) := by decide +kernel
theorem d_La_law_969 : decode code 969 = .ok (.iadd, 1) := by decide +kernel
theorem d_La_law_970 : decode code 970 = .ok (.iaload, 1) := by decide +kernel
theorem d_La_law_971 : decode code 971 = .ok (.invokevirtual 129, 3) := by decide +kernel
theorem d_La_law_974 : decode code 974 = .ok (.istore 6, 2) := by decide +kernel
theorem d_La_law_976 : decode code 976 = .ok (.aload_n 2, 1) := by decide +kernel
theorem d_La_law_977 : decode code 977 = .ok (.invokevirtual 90, 3) := by decide +kernel
theorem d_La_law_980 : decode code 980 = .ok (.iload 5, 2) := by decide +kernel
theorem d_La_law_982 : decode code 982 = .ok (.if_icmp .eq 5, 3) := by decide +kernel
theorem d_La_law_985 : decode code 985 = .ok (.iconst 0, 1) := by decide +kernel
theorem d_La_law_986 : decode code 986 = .ok (.ireturn, 1) := by decide +kernel
theorem d_La_law_987 : decode code 987 = .ok (.iload 5, 2) := by decide +kernel
theorem d_La_law_989 : decode code 989 = .ok (.ifCond .ne 15, 3) := by decide +kernel
theorem d_La_law_992 : decode code 992 = .ok (.aload_n 3, 1) := by decide +kernel
theorem d_La_law_993 : decode code 993 = .ok (.iconst 0, 1) := by decide +kernel
theorem d_La_law_994 : decode code 994 = .ok (.laload, 1) := by decide +kernel
theorem d_La_law_995 : decode code 995 = .ok (.iload 6, 2) := by decide +kernel
theorem d_La_law_997 : decode code 997 = .ok (.i2l, 1) := by decide +kernel
theorem d_La_law_998 : decode code 998 = .ok (.lcmp, 1) := by decide +kernel
theorem d_La_law_999 : decode code 999 = .ok (.ifCond .eq 5, 3) := by decide +kernel
theorem d_La_law_1002 : decode code 1002 = .ok (.iconst 0, 1) := by decide +kernel
theorem d_La_law_1003 : decode code 1003 = .ok (.ireturn, 1) := by decide +kernel
theorem d_La_law_1004 : decode code 1004 = .ok (.goto 414, 3) := by decide +kernel
theorem d_La_law_1007 : decode code 1007 = .ok (.aload_n 1, 1) := by decide +kernel
theorem d_La_law_1008 : decode code 1008 = .ok (.invokevirtual 130, 3) := by decide +kernel
theorem d_La_law_1011 : decode code 1011 = .ok (.aload_n 2, 1) := by decide +kernel
theorem d_La_law_1012 : decode code 1012 = .ok (.invokevirtual 133, 3) := by decide +kernel
theorem d_La_law_1015 : decode code 1015 = .ok (.if_icmp .eq 403, 3) := by decide +kernel
theorem d_La_law_1018 : decode code 1018 = .ok (.iconst 0, 1) := by decide +kernel
theorem d_La_law_1019 : decode code 1019 = .ok (.ireturn, 1) := by decide +kernel
theorem d_La_law_1020 : decode code 1020 = .ok (.aload_n 1, 1) := by decide +kernel
theorem d_La_law_1021 : decode code 1021 = .ok (.aload_n 0, 1) := by decide +kernel
theorem d_La_law_1022 : decode code 1022 = .ok (.iload 4, 2) := by decide +kernel
theorem d_La_law_1024 : decode code 1024 = .ok (.iconst 1, 1) := by decide +kernel
theorem d_La_law_1025 : decode code 1025 = .ok (.iadd, 1) := by decide +kernel
theorem d_La_law_1026 : decode code 1026 = .ok (.iaload, 1) := by decide +kernel
theorem d_La_law_1027 : decode code 1027 = .ok (.aload_n 3, 1) := by decide +kernel
theorem d_La_law_1028 : decode code 1028 = .ok (.invokestatic 134, 3) := by decide +kernel
theorem d_La_law_1031 : decode code 1031 = .ok (.istore 5, 2) := by decide +kernel
theorem d_La_law_1033 : decode code 1033 = .ok (.aload_n 2, 1) := by decide +kernel
theorem d_La_law_1034 : decode code 1034 = .ok (.aload_n 0, 1) := by decide +kernel
theorem d_La_law_1035 : decode code 1035 = .ok (.iload 4, 2) := by decide +kernel
theorem d_La_law_1037 : decode code 1037 = .ok (.iconst 1, 1) := by decide +kernel
theorem d_La_law_1038 : decode code 1038 = .ok (.iadd, 1) := by decide +kernel
theorem d_La_law_1039 : decode code 1039 = .ok (.iaload, 1) := by decide +kernel
theorem d_La_law_1040 : decode code 1040 = .ok (.invokevirtual 136, 3) := by decide +kernel
theorem d_La_law_1043 : decode code 1043 = .ok (.istore 6, 2) := by decide +kernel
theorem d_La_law_1045 : decode code 1045 = .ok (.aload_n 2, 1) := by decide +kernel
theorem d_La_law_1046 : decode code 1046 = .ok (.invokevirtual 90, 3) := by decide +kernel
theorem d_La_law_1049 : decode code 1049 = .ok (.iload 5, 2) := by decide +kernel
theorem d_La_law_1051 : decode code 1051 = .ok (.if_icmp .eq 5, 3) := by decide +kernel
theorem d_La_law_1054 : decode code 1054 = .ok (.iconst 0, 1) := by decide +kernel
theorem d_La_law_1055 : decode code 1055 = .ok (.ireturn, 1) := by decide +kernel
theorem d_La_law_1056 : decode code 1056 = .ok (.iload 5, 2) := by decide +kernel
theorem d_La_law_1058 : decode code 1058 = .ok (.ifCond .ne 15, 3) := by decide +kernel
theorem d_La_law_1061 : decode code 1061 = .ok (.aload_n 3, 1) := by decide +kernel
theorem d_La_law_1062 : decode code 1062 = .ok (.iconst 0, 1) := by decide +kernel
theorem d_La_law_1063 : decode code 1063 = .ok (.laload, 1) := by decide +kernel
theorem d_La_law_1064 : decode code 1064 = .ok (.iload 6, 2) := by decide +kernel
theorem d_La_law_1066 : decode code 1066 = .ok (.i2l, 1) := by decide +kernel
theorem d_La_law_1067 : decode code 1067 = .ok (.lcmp, 1) := by decide +kernel
theorem d_La_law_1068 : decode code 1068 = .ok (.ifCond .eq 5, 3) := by decide +kernel
theorem d_La_law_1071 : decode code 1071 = .ok (.iconst 0, 1) := by decide +kernel
theorem d_La_law_1072 : decode code 1072 = .ok (.ireturn, 1) := by decide +kernel
theorem d_La_law_1073 : decode code 1073 = .ok (.goto 345, 3) := by decide +kernel
theorem d_La_law_1076 : decode code 1076 = .ok (.aload_n 1, 1) := by decide +kernel
theorem d_La_law_1077 : decode code 1077 = .ok (.aload_n 0, 1) := by decide +kernel
theorem d_La_law_1078 : decode code 1078 = .ok (.iload 4, 2) := by decide +kernel
theorem d_La_law_1080 : decode code 1080 = .ok (.iconst 1, 1) := by decide +kernel
theorem d_La_law_1081 : decode code 1081 = .ok (.iadd, 1) := by decide +kernel
theorem d_La_law_1082 : decode code 1082 = .ok (.iaload, 1) := by decide +kernel
theorem d_La_law_1083 : decode code 1083 = .ok (.aload_n 0, 1) := by decide +kernel
theorem d_La_law_1084 : decode code 1084 = .ok (.iload 4, 2) := by decide +kernel
theorem d_La_law_1086 : decode code 1086 = .ok (.iconst 2, 1) := by decide +kernel
theorem d_La_law_1087 : decode code 1087 = .ok (.iadd, 1) := by decide +kernel
theorem d_La_law_1088 : decode code 1088 = .ok (.iaload, 1) := by decide +kernel
theorem d_La_law_1089 : decode code 1089 = .ok (.aload_n 3, 1) := by decide +kernel
theorem d_La_law_1090 : decode code 1090 = .ok (.invokestatic 137, 3) := by decide +kernel
theorem d_La_law_1093 : decode code 1093 = .ok (.istore 5, 2) := by decide +kernel
theorem d_La_law_1095 : decode code 1095 = .ok (.aload_n 2, 1) := by decide +kernel
theorem d_La_law_1096 : decode code 1096 = .ok (.aload_n 0, 1) := by decide +kernel
theorem d_La_law_1097 : decode code 1097 = .ok (.iload 4, 2) := by decide +kernel
theorem d_La_law_1099 : decode code 1099 = .ok (.iconst 1, 1) := by decide +kernel
theorem d_La_law_1100 : decode code 1100 = .ok (.iadd, 1) := by decide +kernel
theorem d_La_law_1101 : decode code 1101 = .ok (.iaload, 1) := by decide +kernel
theorem d_La_law_1102 : decode code 1102 = .ok (.aload_n 0, 1) := by decide +kernel
theorem d_La_law_1103 : decode code 1103 = .ok (.iload 4, 2) := by decide +kernel
theorem d_La_law_1105 : decode code 1105 = .ok (.iconst 2, 1) := by decide +kernel
theorem d_La_law_1106 : decode code 1106 = .ok (.iadd, 1) := by decide +kernel
theorem d_La_law_1107 : decode code 1107 = .ok (.iaload, 1) := by decide +kernel
theorem d_La_law_1108 : decode code 1108 = .ok (.invokevirtual 139, 3) := by decide +kernel
theorem d_La_law_1111 : decode code 1111 = .ok (.istore 6, 2) := by decide +kernel
theorem d_La_law_1113 : decode code 1113 = .ok (.aload_n 2, 1) := by decide +kernel
theorem d_La_law_1114 : decode code 1114 = .ok (.invokevirtual 90, 3) := by decide +kernel
theorem d_La_law_1117 : decode code 1117 = .ok (.iload 5, 2) := by decide +kernel
theorem d_La_law_1119 : decode code 1119 = .ok (.if_icmp .eq 5, 3) := by decide +kernel
theorem d_La_law_1122 : decode code 1122 = .ok (.iconst 0, 1) := by decide +kernel
theorem d_La_law_1123 : decode code 1123 = .ok (.ireturn, 1) := by decide +kernel
theorem d_La_law_1124 : decode code 1124 = .ok (.iload 5, 2) := by decide +kernel
theorem d_La_law_1126 : decode code 1126 = .ok (.ifCond .ne 15, 3) := by decide +kernel
theorem d_La_law_1129 : decode code 1129 = .ok (.aload_n 3, 1) := by decide +kernel
theorem d_La_law_1130 : decode code 1130 = .ok (.iconst 0, 1) := by decide +kernel
theorem d_La_law_1131 : decode code 1131 = .ok (.laload, 1) := by decide +kernel
theorem d_La_law_1132 : decode code 1132 = .ok (.iload 6, 2) := by decide +kernel
theorem d_La_law_1134 : decode code 1134 = .ok (.i2l, 1) := by decide +kernel
theorem d_La_law_1135 : decode code 1135 = .ok (.lcmp, 1) := by decide +kernel
theorem d_La_law_1136 : decode code 1136 = .ok (.ifCond .eq 5, 3) := by decide +kernel
theorem d_La_law_1139 : decode code 1139 = .ok (.iconst 0, 1) := by decide +kernel
theorem d_La_law_1140 : decode code 1140 = .ok (.ireturn, 1) := by decide +kernel
theorem d_La_law_1141 : decode code 1141 = .ok (.goto 277, 3) := by decide +kernel
theorem d_La_law_1144 : decode code 1144 = .ok (.aload_n 1, 1) := by decide +kernel
theorem d_La_law_1145 : decode code 1145 = .ok (.aload_n 0, 1) := by decide +kernel
theorem d_La_law_1146 : decode code 1146 = .ok (.iload 4, 2) := by decide +kernel
theorem d_La_law_1148 : decode code 1148 = .ok (.iconst 1, 1) := by decide +kernel
theorem d_La_law_1149 : decode code 1149 = .ok (.iadd, 1) := by decide +kernel
theorem d_La_law_1150 : decode code 1150 = .ok (.iaload, 1) := by decide +kernel
theorem d_La_law_1151 : decode code 1151 = .ok (.aload_n 0, 1) := by decide +kernel
theorem d_La_law_1152 : decode code 1152 = .ok (.iload 4, 2) := by decide +kernel
theorem d_La_law_1154 : decode code 1154 = .ok (.iconst 2, 1) := by decide +kernel
theorem d_La_law_1155 : decode code 1155 = .ok (.iadd, 1) := by decide +kernel
theorem d_La_law_1156 : decode code 1156 = .ok (.iaload, 1) := by decide +kernel
theorem d_La_law_1157 : decode code 1157 = .ok (.aload_n 3, 1) := by decide +kernel
theorem d_La_law_1158 : decode code 1158 = .ok (.invokestatic 140, 3) := by decide +kernel
theorem d_La_law_1161 : decode code 1161 = .ok (.istore 5, 2) := by decide +kernel
theorem d_La_law_1163 : decode code 1163 = .ok (.aload_n 2, 1) := by decide +kernel
theorem d_La_law_1164 : decode code 1164 = .ok (.aload_n 0, 1) := by decide +kernel
theorem d_La_law_1165 : decode code 1165 = .ok (.iload 4, 2) := by decide +kernel
theorem d_La_law_1167 : decode code 1167 = .ok (.iconst 1, 1) := by decide +kernel
theorem d_La_law_1168 : decode code 1168 = .ok (.iadd, 1) := by decide +kernel
theorem d_La_law_1169 : decode code 1169 = .ok (.iaload, 1) := by decide +kernel
theorem d_La_law_1170 : decode code 1170 = .ok (.aload_n 0, 1) := by decide +kernel
theorem d_La_law_1171 : decode code 1171 = .ok (.iload 4, 2) := by decide +kernel
theorem d_La_law_1173 : decode code 1173 = .ok (.iconst 2, 1) := by decide +kernel
theorem d_La_law_1174 : decode code 1174 = .ok (.iadd, 1) := by decide +kernel
theorem d_La_law_1175 : decode code 1175 = .ok (.iaload, 1) := by decide +kernel
theorem d_La_law_1176 : decode code 1176 = .ok (.invokevirtual 142, 3) := by decide +kernel
theorem d_La_law_1179 : decode code 1179 = .ok (.istore 6, 2) := by decide +kernel
theorem d_La_law_1181 : decode code 1181 = .ok (.aload_n 2, 1) := by decide +kernel
theorem d_La_law_1182 : decode code 1182 = .ok (.invokevirtual 90, 3) := by decide +kernel
theorem d_La_law_1185 : decode code 1185 = .ok (.iload 5, 2) := by decide +kernel
theorem d_La_law_1187 : decode code 1187 = .ok (.if_icmp .eq 5, 3) := by decide +kernel
theorem d_La_law_1190 : decode code 1190 = .ok (.iconst 0, 1) := by decide +kernel
theorem d_La_law_1191 : decode code 1191 = .ok (.ireturn, 1) := by decide +kernel
theorem d_La_law_1192 : decode code 1192 = .ok (.iload 5, 2) := by decide +kernel
theorem d_La_law_1194 : decode code 1194 = .ok (.ifCond .ne 22, 3) := by decide +kernel
theorem d_La_law_1197 : decode code 1197 = .ok (.aload_n 3, 1) := by decide +kernel
theorem d_La_law_1198 : decode code 1198 = .ok (.iconst 0, 1) := by decide +kernel
theorem d_La_law_1199 : decode code 1199 = .ok (.laload, 1) := by decide +kernel
theorem d_La_law_1200 : decode code 1200 = .ok (.iload 6, 2) := by decide +kernel
theorem d_La_law_1202 : decode code 1202 = .ok (.ifCond .eq 7, 3) := by decide +kernel
theorem d_La_law_1205 : decode code 1205 = .ok (.lconst 1, 1) := by decide +kernel
theorem d_La_law_1206 : decode code 1206 = .ok (.goto 4, 3) := by decide +kernel
theorem d_La_law_1209 : decode code 1209 = .ok (.lconst 0, 1) := by decide +kernel
theorem d_La_law_1210 : decode code 1210 = .ok (.lcmp, 1) := by decide +kernel
theorem d_La_law_1211 : decode code 1211 = .ok (.ifCond .eq 5, 3) := by decide +kernel
theorem d_La_law_1214 : decode code 1214 = .ok (.iconst 0, 1) := by decide +kernel
theorem d_La_law_1215 : decode code 1215 = .ok (.ireturn, 1) := by decide +kernel
theorem d_La_law_1216 : decode code 1216 = .ok (.goto 202, 3) := by decide +kernel
theorem d_La_law_1219 : decode code 1219 = .ok (.aload_n 1, 1) := by decide +kernel
theorem d_La_law_1220 : decode code 1220 = .ok (.aload_n 0, 1) := by decide +kernel
theorem d_La_law_1221 : decode code 1221 = .ok (.iload 4, 2) := by decide +kernel
theorem d_La_law_1223 : decode code 1223 = .ok (.iconst 1, 1) := by decide +kernel
theorem d_La_law_1224 : decode code 1224 = .ok (.iadd, 1) := by decide +kernel
theorem d_La_law_1225 : decode code 1225 = .ok (.iaload, 1) := by decide +kernel
theorem d_La_law_1226 : decode code 1226 = .ok (.aload_n 3, 1) := by decide +kernel
theorem d_La_law_1227 : decode code 1227 = .ok (.invokestatic 143, 3) := by decide +kernel
theorem d_La_law_1230 : decode code 1230 = .ok (.istore 5, 2) := by decide +kernel
theorem d_La_law_1232 : decode code 1232 = .ok (.aload_n 2, 1) := by decide +kernel
theorem d_La_law_1233 : decode code 1233 = .ok (.aload_n 0, 1) := by decide +kernel
theorem d_La_law_1234 : decode code 1234 = .ok (.iload 4, 2) := by decide +kernel
theorem d_La_law_1236 : decode code 1236 = .ok (.iconst 1, 1) := by decide +kernel
theorem d_La_law_1237 : decode code 1237 = .ok (.iadd, 1) := by decide +kernel
theorem d_La_law_1238 : decode code 1238 = .ok (.iaload, 1) := by decide +kernel
theorem d_La_law_1239 : decode code 1239 = .ok (.invokevirtual 145, 3) := by decide +kernel
theorem d_La_law_1242 : decode code 1242 = .ok (.istore 6, 2) := by decide +kernel
theorem d_La_law_1244 : decode code 1244 = .ok (.aload_n 2, 1) := by decide +kernel
theorem d_La_law_1245 : decode code 1245 = .ok (.invokevirtual 90, 3) := by decide +kernel
theorem d_La_law_1248 : decode code 1248 = .ok (.iload 5, 2) := by decide +kernel
theorem d_La_law_1250 : decode code 1250 = .ok (.if_icmp .eq 5, 3) := by decide +kernel
theorem d_La_law_1253 : decode code 1253 = .ok (.iconst 0, 1) := by decide +kernel
theorem d_La_law_1254 : decode code 1254 = .ok (.ireturn, 1) := by decide +kernel
theorem d_La_law_1255 : decode code 1255 = .ok (.iload 5, 2) := by decide +kernel
theorem d_La_law_1257 : decode code 1257 = .ok (.ifCond .ne 22, 3) := by decide +kernel
theorem d_La_law_1260 : decode code 1260 = .ok (.aload_n 3, 1) := by decide +kernel
theorem d_La_law_1261 : decode code 1261 = .ok (.iconst 0, 1) := by decide +kernel
theorem d_La_law_1262 : decode code 1262 = .ok (.laload, 1) := by decide +kernel
theorem d_La_law_1263 : decode code 1263 = .ok (.iload 6, 2) := by decide +kernel
theorem d_La_law_1265 : decode code 1265 = .ok (.ifCond .eq 7, 3) := by decide +kernel
theorem d_La_law_1268 : decode code 1268 = .ok (.lconst 1, 1) := by decide +kernel
theorem d_La_law_1269 : decode code 1269 = .ok (.goto 4, 3) := by decide +kernel
theorem d_La_law_1272 : decode code 1272 = .ok (.lconst 0, 1) := by decide +kernel
theorem d_La_law_1273 : decode code 1273 = .ok (.lcmp, 1) := by decide +kernel
theorem d_La_law_1274 : decode code 1274 = .ok (.ifCond .eq 5, 3) := by decide +kernel
theorem d_La_law_1277 : decode code 1277 = .ok (.iconst 0, 1) := by decide +kernel
theorem d_La_law_1278 : decode code 1278 = .ok (.ireturn, 1) := by decide +kernel
theorem d_La_law_1279 : decode code 1279 = .ok (.goto 139, 3) := by decide +kernel
theorem d_La_law_1282 : decode code 1282 = .ok (.aload_n 1, 1) := by decide +kernel
theorem d_La_law_1283 : decode code 1283 = .ok (.aload_n 0, 1) := by decide +kernel
theorem d_La_law_1284 : decode code 1284 = .ok (.iload 4, 2) := by decide +kernel
theorem d_La_law_1286 : decode code 1286 = .ok (.iconst 1, 1) := by decide +kernel
theorem d_La_law_1287 : decode code 1287 = .ok (.iadd, 1) := by decide +kernel
theorem d_La_law_1288 : decode code 1288 = .ok (.iaload, 1) := by decide +kernel
theorem d_La_law_1289 : decode code 1289 = .ok (.aload_n 0, 1) := by decide +kernel
theorem d_La_law_1290 : decode code 1290 = .ok (.iload 4, 2) := by decide +kernel
theorem d_La_law_1292 : decode code 1292 = .ok (.iconst 2, 1) := by decide +kernel
theorem d_La_law_1293 : decode code 1293 = .ok (.iadd, 1) := by decide +kernel
theorem d_La_law_1294 : decode code 1294 = .ok (.iaload, 1) := by decide +kernel
theorem d_La_law_1295 : decode code 1295 = .ok (.aload_n 3, 1) := by decide +kernel
theorem d_La_law_1296 : decode code 1296 = .ok (.invokestatic 146, 3) := by decide +kernel
theorem d_La_law_1299 : decode code 1299 = .ok (.istore 5, 2) := by decide +kernel
theorem d_La_law_1301 : decode code 1301 = .ok (.aload_n 2, 1) := by decide +kernel
theorem d_La_law_1302 : decode code 1302 = .ok (.aload_n 0, 1) := by decide +kernel
theorem d_La_law_1303 : decode code 1303 = .ok (.iload 4, 2) := by decide +kernel
theorem d_La_law_1305 : decode code 1305 = .ok (.iconst 1, 1) := by decide +kernel
theorem d_La_law_1306 : decode code 1306 = .ok (.iadd, 1) := by decide +kernel
theorem d_La_law_1307 : decode code 1307 = .ok (.iaload, 1) := by decide +kernel
theorem d_La_law_1308 : decode code 1308 = .ok (.aload_n 0, 1) := by decide +kernel
theorem d_La_law_1309 : decode code 1309 = .ok (.iload 4, 2) := by decide +kernel
theorem d_La_law_1311 : decode code 1311 = .ok (.iconst 2, 1) := by decide +kernel
theorem d_La_law_1312 : decode code 1312 = .ok (.iadd, 1) := by decide +kernel
theorem d_La_law_1313 : decode code 1313 = .ok (.iaload, 1) := by decide +kernel
theorem d_La_law_1314 : decode code 1314 = .ok (.invokevirtual 148, 3) := by decide +kernel
theorem d_La_law_1317 : decode code 1317 = .ok (.istore 6, 2) := by decide +kernel
theorem d_La_law_1319 : decode code 1319 = .ok (.aload_n 2, 1) := by decide +kernel
theorem d_La_law_1320 : decode code 1320 = .ok (.invokevirtual 90, 3) := by decide +kernel
theorem d_La_law_1323 : decode code 1323 = .ok (.iload 5, 2) := by decide +kernel
theorem d_La_law_1325 : decode code 1325 = .ok (.if_icmp .eq 5, 3) := by decide +kernel
theorem d_La_law_1328 : decode code 1328 = .ok (.iconst 0, 1) := by decide +kernel
theorem d_La_law_1329 : decode code 1329 = .ok (.ireturn, 1) := by decide +kernel
theorem d_La_law_1330 : decode code 1330 = .ok (.iload 5, 2) := by decide +kernel
theorem d_La_law_1332 : decode code 1332 = .ok (.ifCond .ne 15, 3) := by decide +kernel
theorem d_La_law_1335 : decode code 1335 = .ok (.aload_n 3, 1) := by decide +kernel
theorem d_La_law_1336 : decode code 1336 = .ok (.iconst 0, 1) := by decide +kernel
theorem d_La_law_1337 : decode code 1337 = .ok (.laload, 1) := by decide +kernel
theorem d_La_law_1338 : decode code 1338 = .ok (.iload 6, 2) := by decide +kernel
theorem d_La_law_1340 : decode code 1340 = .ok (.i2l, 1) := by decide +kernel
theorem d_La_law_1341 : decode code 1341 = .ok (.lcmp, 1) := by decide +kernel
theorem d_La_law_1342 : decode code 1342 = .ok (.ifCond .eq 5, 3) := by decide +kernel
theorem d_La_law_1345 : decode code 1345 = .ok (.iconst 0, 1) := by decide +kernel
theorem d_La_law_1346 : decode code 1346 = .ok (.ireturn, 1) := by decide +kernel
theorem d_La_law_1347 : decode code 1347 = .ok (.goto 71, 3) := by decide +kernel
theorem d_La_law_1350 : decode code 1350 = .ok (.aload_n 1, 1) := by decide +kernel
theorem d_La_law_1351 : decode code 1351 = .ok (.aload_n 0, 1) := by decide +kernel
theorem d_La_law_1352 : decode code 1352 = .ok (.iload 4, 2) := by decide +kernel
theorem d_La_law_1354 : decode code 1354 = .ok (.iconst 1, 1) := by decide +kernel
theorem d_La_law_1355 : decode code 1355 = .ok (.iadd, 1) := by decide +kernel
theorem d_La_law_1356 : decode code 1356 = .ok (.iaload, 1) := by decide +kernel
theorem d_La_law_1357 : decode code 1357 = .ok (.aload_n 0, 1) := by decide +kernel
theorem d_La_law_1358 : decode code 1358 = .ok (.iload 4, 2) := by decide +kernel
theorem d_La_law_1360 : decode code 1360 = .ok (.iconst 2, 1) := by decide +kernel
theorem d_La_law_1361 : decode code 1361 = .ok (.iadd, 1) := by decide +kernel
theorem d_La_law_1362 : decode code 1362 = .ok (.iaload, 1) := by decide +kernel
theorem d_La_law_1363 : decode code 1363 = .ok (.aload_n 3, 1) := by decide +kernel
theorem d_La_law_1364 : decode code 1364 = .ok (.invokestatic 149, 3) := by decide +kernel
theorem d_La_law_1367 : decode code 1367 = .ok (.istore 5, 2) := by decide +kernel
theorem d_La_law_1369 : decode code 1369 = .ok (.aload_n 2, 1) := by decide +kernel
theorem d_La_law_1370 : decode code 1370 = .ok (.aload_n 0, 1) := by decide +kernel
theorem d_La_law_1371 : decode code 1371 = .ok (.iload 4, 2) := by decide +kernel
theorem d_La_law_1373 : decode code 1373 = .ok (.iconst 1, 1) := by decide +kernel
theorem d_La_law_1374 : decode code 1374 = .ok (.iadd, 1) := by decide +kernel
theorem d_La_law_1375 : decode code 1375 = .ok (.iaload, 1) := by decide +kernel
theorem d_La_law_1376 : decode code 1376 = .ok (.aload_n 0, 1) := by decide +kernel
theorem d_La_law_1377 : decode code 1377 = .ok (.iload 4, 2) := by decide +kernel
theorem d_La_law_1379 : decode code 1379 = .ok (.iconst 2, 1) := by decide +kernel
theorem d_La_law_1380 : decode code 1380 = .ok (.iadd, 1) := by decide +kernel
theorem d_La_law_1381 : decode code 1381 = .ok (.iaload, 1) := by decide +kernel
theorem d_La_law_1382 : decode code 1382 = .ok (.invokevirtual 151, 3) := by decide +kernel
theorem d_La_law_1385 : decode code 1385 = .ok (.istore 6, 2) := by decide +kernel
theorem d_La_law_1387 : decode code 1387 = .ok (.aload_n 2, 1) := by decide +kernel
theorem d_La_law_1388 : decode code 1388 = .ok (.invokevirtual 90, 3) := by decide +kernel
theorem d_La_law_1391 : decode code 1391 = .ok (.iload 5, 2) := by decide +kernel
theorem d_La_law_1393 : decode code 1393 = .ok (.if_icmp .eq 5, 3) := by decide +kernel
theorem d_La_law_1396 : decode code 1396 = .ok (.iconst 0, 1) := by decide +kernel
theorem d_La_law_1397 : decode code 1397 = .ok (.ireturn, 1) := by decide +kernel
theorem d_La_law_1398 : decode code 1398 = .ok (.iload 5, 2) := by decide +kernel
theorem d_La_law_1400 : decode code 1400 = .ok (.ifCond .ne 15, 3) := by decide +kernel
theorem d_La_law_1403 : decode code 1403 = .ok (.aload_n 3, 1) := by decide +kernel
theorem d_La_law_1404 : decode code 1404 = .ok (.iconst 0, 1) := by decide +kernel
theorem d_La_law_1405 : decode code 1405 = .ok (.laload, 1) := by decide +kernel
theorem d_La_law_1406 : decode code 1406 = .ok (.iload 6, 2) := by decide +kernel
theorem d_La_law_1408 : decode code 1408 = .ok (.i2l, 1) := by decide +kernel
theorem d_La_law_1409 : decode code 1409 = .ok (.lcmp, 1) := by decide +kernel
theorem d_La_law_1410 : decode code 1410 = .ok (.ifCond .eq 5, 3) := by decide +kernel
theorem d_La_law_1413 : decode code 1413 = .ok (.iconst 0, 1) := by decide +kernel
theorem d_La_law_1414 : decode code 1414 = .ok (.ireturn, 1) := by decide +kernel
theorem d_La_law_1415 : decode code 1415 = .ok (.goto 3, 3) := by decide +kernel
theorem d_La_law_1418 : decode code 1418 = .ok (.iinc 4 5, 3) := by decide +kernel
theorem d_La_law_1421 : decode code 1421 = .ok (.goto (-1398), 3) := by decide +kernel
theorem d_La_law_1424 : decode code 1424 = .ok (.iconst 1, 1) := by decide +kernel
theorem d_La_law_1425 : decode code 1425 = .ok (.ireturn, 1) := by decide +kernel
def B_La_law_23 (xs : Nat → Int32) (Ln : Nat) (k23 : Int32 → zM → zN → Prop) (v4 : Int32) (M : zM) (N : zN) : Prop := (((nI Ln) - (5 : Int32)) < v4 → True) ∧ (¬ ((nI Ln) - (5 : Int32)) < v4 → vp_in v4 Ln ∧ (((xs v4.toNatClampNeg) &&& (31 : Int32)) = 0 → vp_in (v4 + (1 : Int32)) Ln ∧ vp_in (v4 + (2 : Int32)) Ln ∧ vp_in (v4 + (3 : Int32)) Ln ∧ w_La_put (xs (v4 + (1 : Int32)).toNatClampNeg) (xs (v4 + (2 : Int32)).toNatClampNeg) (xs (v4 + (3 : Int32)).toNatClampNeg) M (fun r1 M2 => vp_in (v4 + (1 : Int32)) Ln ∧ vp_in (v4 + (2 : Int32)) Ln ∧ vp_in (v4 + (3 : Int32)) Ln ∧ w_Mo_put (xs (v4 + (1 : Int32)).toNatClampNeg) (xs (v4 + (2 : Int32)).toNatClampNeg) (xs (v4 + (3 : Int32)).toNatClampNeg) M2 N (fun r4 M5 N6 => w_Mo_thrown  N6 (fun r7 => (r7 = r1 → (¬ r1 = 0 → k23 (v4 + (5 : Int32)) M5 N6) ∧ (r1 = 0 → vp_in (0 : Int32) (zlong 119) ∧ ((M5 119 (0 : Int32).toNatClampNeg) = r4.toInt64 → k23 (v4 + (5 : Int32)) M5 N6) ∧ (¬ (M5 119 (0 : Int32).toNatClampNeg) = r4.toInt64 → False))) ∧ (¬ r7 = r1 → False))))) ∧ (((xs v4.toNatClampNeg) &&& (31 : Int32)) = 1 → vp_in (v4 + (1 : Int32)) Ln ∧ vp_in (v4 + (2 : Int32)) Ln ∧ w_La_coefficient (xs (v4 + (1 : Int32)).toNatClampNeg) (xs (v4 + (2 : Int32)).toNatClampNeg) M (fun r10 M11 => vp_in (v4 + (1 : Int32)) Ln ∧ vp_in (v4 + (2 : Int32)) Ln ∧ w_Mo_coefficient (xs (v4 + (1 : Int32)).toNatClampNeg) (xs (v4 + (2 : Int32)).toNatClampNeg) N (fun r13 N15 => w_Mo_thrown  N15 (fun r16 => (r16 = r10 → (¬ r10 = 0 → k23 (v4 + (5 : Int32)) M11 N15) ∧ (r10 = 0 → vp_in (0 : Int32) (zlong 119) ∧ ((M11 119 (0 : Int32).toNatClampNeg) = r13.toInt64 → k23 (v4 + (5 : Int32)) M11 N15) ∧ (¬ (M11 119 (0 : Int32).toNatClampNeg) = r13.toInt64 → False))) ∧ (¬ r16 = r10 → False))))) ∧ (((xs v4.toNatClampNeg) &&& (31 : Int32)) = 2 → vp_in (v4 + (1 : Int32)) Ln ∧ w_La_degree (xs (v4 + (1 : Int32)).toNatClampNeg) M (fun r19 M20 => vp_in (v4 + (1 : Int32)) Ln ∧ w_Mo_degree (xs (v4 + (1 : Int32)).toNatClampNeg) M20 N (fun r22 M23 N24 => w_Mo_thrown  N24 (fun r25 => (r25 = r19 → (¬ r19 = 0 → k23 (v4 + (5 : Int32)) M23 N24) ∧ (r19 = 0 → vp_in (0 : Int32) (zlong 119) ∧ ((M23 119 (0 : Int32).toNatClampNeg) = r22.toInt64 → k23 (v4 + (5 : Int32)) M23 N24) ∧ (¬ (M23 119 (0 : Int32).toNatClampNeg) = r22.toInt64 → False))) ∧ (¬ r25 = r19 → False))))) ∧ (((xs v4.toNatClampNeg) &&& (31 : Int32)) = 3 → vp_in (v4 + (1 : Int32)) Ln ∧ vp_in (v4 + (2 : Int32)) Ln ∧ vp_in (v4 + (3 : Int32)) Ln ∧ vp_in (v4 + (4 : Int32)) Ln ∧ ((xs (v4 + (4 : Int32)).toNatClampNeg) = 0 → w_La_add (xs (v4 + (1 : Int32)).toNatClampNeg) (xs (v4 + (2 : Int32)).toNatClampNeg) (xs (v4 + (3 : Int32)).toNatClampNeg) (0 : Int32) M (fun r28 M29 => vp_in (v4 + (1 : Int32)) Ln ∧ vp_in (v4 + (2 : Int32)) Ln ∧ vp_in (v4 + (3 : Int32)) Ln ∧ vp_in (v4 + (4 : Int32)) Ln ∧ ((xs (v4 + (4 : Int32)).toNatClampNeg) = 0 → w_Mo_add (xs (v4 + (1 : Int32)).toNatClampNeg) (xs (v4 + (2 : Int32)).toNatClampNeg) (xs (v4 + (3 : Int32)).toNatClampNeg) (0 : Int32) M29 N (fun r31 M32 N33 => w_Mo_thrown  N33 (fun r34 => (r34 = r28 → (¬ r28 = 0 → k23 (v4 + (5 : Int32)) M32 N33) ∧ (r28 = 0 → vp_in (0 : Int32) (zlong 119) ∧ ((M32 119 (0 : Int32).toNatClampNeg) = r31.toInt64 → k23 (v4 + (5 : Int32)) M32 N33) ∧ (¬ (M32 119 (0 : Int32).toNatClampNeg) = r31.toInt64 → False))) ∧ (¬ r34 = r28 → False)))) ∧ (¬ (xs (v4 + (4 : Int32)).toNatClampNeg) = 0 → w_Mo_add (xs (v4 + (1 : Int32)).toNatClampNeg) (xs (v4 + (2 : Int32)).toNatClampNeg) (xs (v4 + (3 : Int32)).toNatClampNeg) (1 : Int32) M29 N (fun r37 M38 N39 => w_Mo_thrown  N39 (fun r40 => (r40 = r28 → (¬ r28 = 0 → k23 (v4 + (5 : Int32)) M38 N39) ∧ (r28 = 0 → vp_in (0 : Int32) (zlong 119) ∧ ((M38 119 (0 : Int32).toNatClampNeg) = r37.toInt64 → k23 (v4 + (5 : Int32)) M38 N39) ∧ (¬ (M38 119 (0 : Int32).toNatClampNeg) = r37.toInt64 → False))) ∧ (¬ r40 = r28 → False)))))) ∧ (¬ (xs (v4 + (4 : Int32)).toNatClampNeg) = 0 → w_La_add (xs (v4 + (1 : Int32)).toNatClampNeg) (xs (v4 + (2 : Int32)).toNatClampNeg) (xs (v4 + (3 : Int32)).toNatClampNeg) (1 : Int32) M (fun r43 M44 => vp_in (v4 + (1 : Int32)) Ln ∧ vp_in (v4 + (2 : Int32)) Ln ∧ vp_in (v4 + (3 : Int32)) Ln ∧ vp_in (v4 + (4 : Int32)) Ln ∧ ((xs (v4 + (4 : Int32)).toNatClampNeg) = 0 → w_Mo_add (xs (v4 + (1 : Int32)).toNatClampNeg) (xs (v4 + (2 : Int32)).toNatClampNeg) (xs (v4 + (3 : Int32)).toNatClampNeg) (0 : Int32) M44 N (fun r46 M47 N48 => w_Mo_thrown  N48 (fun r49 => (r49 = r43 → (¬ r43 = 0 → k23 (v4 + (5 : Int32)) M47 N48) ∧ (r43 = 0 → vp_in (0 : Int32) (zlong 119) ∧ ((M47 119 (0 : Int32).toNatClampNeg) = r46.toInt64 → k23 (v4 + (5 : Int32)) M47 N48) ∧ (¬ (M47 119 (0 : Int32).toNatClampNeg) = r46.toInt64 → False))) ∧ (¬ r49 = r43 → False)))) ∧ (¬ (xs (v4 + (4 : Int32)).toNatClampNeg) = 0 → w_Mo_add (xs (v4 + (1 : Int32)).toNatClampNeg) (xs (v4 + (2 : Int32)).toNatClampNeg) (xs (v4 + (3 : Int32)).toNatClampNeg) (1 : Int32) M44 N (fun r52 M53 N54 => w_Mo_thrown  N54 (fun r55 => (r55 = r43 → (¬ r43 = 0 → k23 (v4 + (5 : Int32)) M53 N54) ∧ (r43 = 0 → vp_in (0 : Int32) (zlong 119) ∧ ((M53 119 (0 : Int32).toNatClampNeg) = r52.toInt64 → k23 (v4 + (5 : Int32)) M53 N54) ∧ (¬ (M53 119 (0 : Int32).toNatClampNeg) = r52.toInt64 → False))) ∧ (¬ r55 = r43 → False))))))) ∧ (((xs v4.toNatClampNeg) &&& (31 : Int32)) = 4 → vp_in (v4 + (1 : Int32)) Ln ∧ vp_in (v4 + (2 : Int32)) Ln ∧ vp_in (v4 + (3 : Int32)) Ln ∧ w_La_multiply (xs (v4 + (1 : Int32)).toNatClampNeg) (xs (v4 + (2 : Int32)).toNatClampNeg) (xs (v4 + (3 : Int32)).toNatClampNeg) M (fun r58 M59 => vp_in (v4 + (1 : Int32)) Ln ∧ vp_in (v4 + (2 : Int32)) Ln ∧ vp_in (v4 + (3 : Int32)) Ln ∧ w_Mo_multiply (xs (v4 + (1 : Int32)).toNatClampNeg) (xs (v4 + (2 : Int32)).toNatClampNeg) (xs (v4 + (3 : Int32)).toNatClampNeg) M59 N (fun r61 M62 N63 => w_Mo_thrown  N63 (fun r64 => (r64 = r58 → (¬ r58 = 0 → k23 (v4 + (5 : Int32)) M62 N63) ∧ (r58 = 0 → vp_in (0 : Int32) (zlong 119) ∧ ((M62 119 (0 : Int32).toNatClampNeg) = r61.toInt64 → k23 (v4 + (5 : Int32)) M62 N63) ∧ (¬ (M62 119 (0 : Int32).toNatClampNeg) = r61.toInt64 → False))) ∧ (¬ r64 = r58 → False))))) ∧ (((xs v4.toNatClampNeg) &&& (31 : Int32)) = 5 → vp_in (v4 + (1 : Int32)) Ln ∧ vp_in (v4 + (2 : Int32)) Ln ∧ w_La_derive (xs (v4 + (1 : Int32)).toNatClampNeg) (xs (v4 + (2 : Int32)).toNatClampNeg) M (fun r67 M68 => vp_in (v4 + (1 : Int32)) Ln ∧ vp_in (v4 + (2 : Int32)) Ln ∧ w_Mo_derive (xs (v4 + (1 : Int32)).toNatClampNeg) (xs (v4 + (2 : Int32)).toNatClampNeg) M68 N (fun r70 M71 N72 => w_Mo_thrown  N72 (fun r73 => (r73 = r67 → (¬ r67 = 0 → k23 (v4 + (5 : Int32)) M71 N72) ∧ (r67 = 0 → vp_in (0 : Int32) (zlong 119) ∧ ((M71 119 (0 : Int32).toNatClampNeg) = r70.toInt64 → k23 (v4 + (5 : Int32)) M71 N72) ∧ (¬ (M71 119 (0 : Int32).toNatClampNeg) = r70.toInt64 → False))) ∧ (¬ r73 = r67 → False))))) ∧ (((xs v4.toNatClampNeg) &&& (31 : Int32)) = 6 → vp_in (v4 + (1 : Int32)) Ln ∧ vp_in (v4 + (2 : Int32)) Ln ∧ vp_in (v4 + (3 : Int32)) Ln ∧ w_La_shift (xs (v4 + (1 : Int32)).toNatClampNeg) (xs (v4 + (2 : Int32)).toNatClampNeg) (xs (v4 + (3 : Int32)).toNatClampNeg) M (fun r76 M77 => vp_in (v4 + (1 : Int32)) Ln ∧ vp_in (v4 + (2 : Int32)) Ln ∧ vp_in (v4 + (3 : Int32)) Ln ∧ w_Mo_shift (xs (v4 + (1 : Int32)).toNatClampNeg) (xs (v4 + (2 : Int32)).toNatClampNeg) (xs (v4 + (3 : Int32)).toNatClampNeg) M77 N (fun r79 M80 N81 => w_Mo_thrown  N81 (fun r82 => (r82 = r76 → (¬ r76 = 0 → k23 (v4 + (5 : Int32)) M80 N81) ∧ (r76 = 0 → vp_in (0 : Int32) (zlong 119) ∧ ((M80 119 (0 : Int32).toNatClampNeg) = r79.toInt64 → k23 (v4 + (5 : Int32)) M80 N81) ∧ (¬ (M80 119 (0 : Int32).toNatClampNeg) = r79.toInt64 → False))) ∧ (¬ r82 = r76 → False))))) ∧ (((xs v4.toNatClampNeg) &&& (31 : Int32)) = 7 → vp_in (v4 + (1 : Int32)) Ln ∧ vp_in (v4 + (2 : Int32)) Ln ∧ vp_in (v4 + (3 : Int32)) Ln ∧ w_La_divide (xs (v4 + (1 : Int32)).toNatClampNeg) (xs (v4 + (2 : Int32)).toNatClampNeg) (xs (v4 + (3 : Int32)).toNatClampNeg) M (fun r85 M86 => vp_in (v4 + (1 : Int32)) Ln ∧ vp_in (v4 + (2 : Int32)) Ln ∧ vp_in (v4 + (3 : Int32)) Ln ∧ w_Mo_divide (xs (v4 + (1 : Int32)).toNatClampNeg) (xs (v4 + (2 : Int32)).toNatClampNeg) (xs (v4 + (3 : Int32)).toNatClampNeg) M86 N (fun r88 M89 N90 => w_Mo_thrown  N90 (fun r91 => (r91 = r85 → (¬ r85 = 0 → k23 (v4 + (5 : Int32)) M89 N90) ∧ (r85 = 0 → vp_in (0 : Int32) (zlong 119) ∧ ((M89 119 (0 : Int32).toNatClampNeg) = r88.toInt64 → k23 (v4 + (5 : Int32)) M89 N90) ∧ (¬ (M89 119 (0 : Int32).toNatClampNeg) = r88.toInt64 → False))) ∧ (¬ r91 = r85 → False))))) ∧ (((xs v4.toNatClampNeg) &&& (31 : Int32)) = 8 → vp_in (v4 + (1 : Int32)) Ln ∧ vp_in (v4 + (2 : Int32)) Ln ∧ vp_in (v4 + (3 : Int32)) Ln ∧ w_La_common (xs (v4 + (1 : Int32)).toNatClampNeg) (xs (v4 + (2 : Int32)).toNatClampNeg) (xs (v4 + (3 : Int32)).toNatClampNeg) M (fun r94 M95 => vp_in (v4 + (1 : Int32)) Ln ∧ vp_in (v4 + (2 : Int32)) Ln ∧ vp_in (v4 + (3 : Int32)) Ln ∧ w_Mo_common (xs (v4 + (1 : Int32)).toNatClampNeg) (xs (v4 + (2 : Int32)).toNatClampNeg) (xs (v4 + (3 : Int32)).toNatClampNeg) M95 N (fun r97 M98 N99 => w_Mo_thrown  N99 (fun r100 => (r100 = r94 → (¬ r94 = 0 → k23 (v4 + (5 : Int32)) M98 N99) ∧ (r94 = 0 → vp_in (0 : Int32) (zlong 119) ∧ ((M98 119 (0 : Int32).toNatClampNeg) = r97.toInt64 → k23 (v4 + (5 : Int32)) M98 N99) ∧ (¬ (M98 119 (0 : Int32).toNatClampNeg) = r97.toInt64 → False))) ∧ (¬ r100 = r94 → False))))) ∧ (((xs v4.toNatClampNeg) &&& (31 : Int32)) = 9 → vp_in (v4 + (1 : Int32)) Ln ∧ vp_in (v4 + (2 : Int32)) Ln ∧ w_La_value (xs (v4 + (1 : Int32)).toNatClampNeg) (xs (v4 + (2 : Int32)).toNatClampNeg) M (fun r103 M104 => vp_in (v4 + (1 : Int32)) Ln ∧ vp_in (v4 + (2 : Int32)) Ln ∧ w_Mo_value (xs (v4 + (1 : Int32)).toNatClampNeg) (xs (v4 + (2 : Int32)).toNatClampNeg) N (fun r106 N108 => w_Mo_thrown  N108 (fun r109 => (r109 = r103 → (¬ r103 = 0 → k23 (v4 + (5 : Int32)) M104 N108) ∧ (r103 = 0 → vp_in (0 : Int32) (zlong 119) ∧ ((M104 119 (0 : Int32).toNatClampNeg) = r106 → k23 (v4 + (5 : Int32)) M104 N108) ∧ (¬ (M104 119 (0 : Int32).toNatClampNeg) = r106 → False))) ∧ (¬ r109 = r103 → False))))) ∧ (((xs v4.toNatClampNeg) &&& (31 : Int32)) = 10 → vp_in (v4 + (1 : Int32)) Ln ∧ w_La_content (xs (v4 + (1 : Int32)).toNatClampNeg) M (fun r112 M113 => vp_in (v4 + (1 : Int32)) Ln ∧ w_Mo_content (xs (v4 + (1 : Int32)).toNatClampNeg) M113 N (fun r115 M116 N117 => w_Mo_thrown  N117 (fun r118 => (r118 = r112 → (¬ r112 = 0 → k23 (v4 + (5 : Int32)) M116 N117) ∧ (r112 = 0 → vp_in (0 : Int32) (zlong 119) ∧ ((M116 119 (0 : Int32).toNatClampNeg) = r115.toInt64 → k23 (v4 + (5 : Int32)) M116 N117) ∧ (¬ (M116 119 (0 : Int32).toNatClampNeg) = r115.toInt64 → False))) ∧ (¬ r118 = r112 → False))))) ∧ (((xs v4.toNatClampNeg) &&& (31 : Int32)) = 11 → vp_in (v4 + (1 : Int32)) Ln ∧ w_La_factor (xs (v4 + (1 : Int32)).toNatClampNeg) M N (fun r121 M122 N123 => vp_in (v4 + (1 : Int32)) Ln ∧ w_Mo_factor (xs (v4 + (1 : Int32)).toNatClampNeg) M122 N123 (fun r124 M125 N126 => w_Mo_thrown  N126 (fun r127 => (r127 = r121 → (¬ r121 = 0 → k23 (v4 + (5 : Int32)) M125 N126) ∧ (r121 = 0 → vp_in (0 : Int32) (zlong 119) ∧ ((M125 119 (0 : Int32).toNatClampNeg) = r124.toInt64 → k23 (v4 + (5 : Int32)) M125 N126) ∧ (¬ (M125 119 (0 : Int32).toNatClampNeg) = r124.toInt64 → False))) ∧ (¬ r127 = r121 → False))))) ∧ (((xs v4.toNatClampNeg) &&& (31 : Int32)) = 12 → w_IS_unit  M (fun r130 => w_Mo_unit  N (fun r133 N135 => (r130 = r133 → k23 (v4 + (5 : Int32)) M N135) ∧ (¬ r130 = r133 → False)))) ∧ (((xs v4.toNatClampNeg) &&& (31 : Int32)) = 13 → vp_in (v4 + (1 : Int32)) Ln ∧ w_La_multiplicity (xs (v4 + (1 : Int32)).toNatClampNeg) M N (fun r136 M137 => vp_in (v4 + (1 : Int32)) Ln ∧ w_Mo_multiplicity (xs (v4 + (1 : Int32)).toNatClampNeg) N (fun r139 N141 => w_Mo_thrown  N141 (fun r142 => (r142 = r136 → (¬ r136 = 0 → k23 (v4 + (5 : Int32)) M137 N141) ∧ (r136 = 0 → vp_in (0 : Int32) (zlong 119) ∧ ((M137 119 (0 : Int32).toNatClampNeg) = r139.toInt64 → k23 (v4 + (5 : Int32)) M137 N141) ∧ (¬ (M137 119 (0 : Int32).toNatClampNeg) = r139.toInt64 → False))) ∧ (¬ r142 = r136 → False))))) ∧ (((xs v4.toNatClampNeg) &&& (31 : Int32)) = 14 → vp_in (v4 + (1 : Int32)) Ln ∧ vp_in (v4 + (2 : Int32)) Ln ∧ w_La_factorAt (xs (v4 + (1 : Int32)).toNatClampNeg) (xs (v4 + (2 : Int32)).toNatClampNeg) M N (fun r145 M146 => vp_in (v4 + (1 : Int32)) Ln ∧ vp_in (v4 + (2 : Int32)) Ln ∧ w_Mo_factorAt (xs (v4 + (1 : Int32)).toNatClampNeg) (xs (v4 + (2 : Int32)).toNatClampNeg) M146 N (fun r148 N150 => w_Mo_thrown  N150 (fun r151 => (r151 = r145 → (¬ r145 = 0 → k23 (v4 + (5 : Int32)) M146 N150) ∧ (r145 = 0 → vp_in (0 : Int32) (zlong 119) ∧ ((M146 119 (0 : Int32).toNatClampNeg) = r148.toInt64 → k23 (v4 + (5 : Int32)) M146 N150) ∧ (¬ (M146 119 (0 : Int32).toNatClampNeg) = r148.toInt64 → False))) ∧ (¬ r151 = r145 → False))))) ∧ (((xs v4.toNatClampNeg) &&& (31 : Int32)) = 15 → vp_in (v4 + (1 : Int32)) Ln ∧ vp_in (v4 + (2 : Int32)) Ln ∧ w_La_take (xs (v4 + (1 : Int32)).toNatClampNeg) (xs (v4 + (2 : Int32)).toNatClampNeg) M N (fun r154 M155 => vp_in (v4 + (1 : Int32)) Ln ∧ vp_in (v4 + (2 : Int32)) Ln ∧ w_Mo_take (xs (v4 + (1 : Int32)).toNatClampNeg) (xs (v4 + (2 : Int32)).toNatClampNeg) M155 N (fun r157 M158 N159 => w_Mo_thrown  N159 (fun r160 => (r160 = r154 → (¬ r154 = 0 → k23 (v4 + (5 : Int32)) M158 N159) ∧ (r154 = 0 → vp_in (0 : Int32) (zlong 119) ∧ (r157 = 0 → ((M158 119 (0 : Int32).toNatClampNeg) = (0 : Int64) → k23 (v4 + (5 : Int32)) M158 N159) ∧ (¬ (M158 119 (0 : Int32).toNatClampNeg) = (0 : Int64) → False)) ∧ (¬ r157 = 0 → ((M158 119 (0 : Int32).toNatClampNeg) = (1 : Int64) → k23 (v4 + (5 : Int32)) M158 N159) ∧ (¬ (M158 119 (0 : Int32).toNatClampNeg) = (1 : Int64) → False)))) ∧ (¬ r160 = r154 → False))))) ∧ (((xs v4.toNatClampNeg) &&& (31 : Int32)) = 16 → vp_in (v4 + (1 : Int32)) Ln ∧ w_La_prime (xs (v4 + (1 : Int32)).toNatClampNeg) M N (fun r163 M164 N165 => vp_in (v4 + (1 : Int32)) Ln ∧ w_Mo_prime (xs (v4 + (1 : Int32)).toNatClampNeg) M164 N165 (fun r166 M167 N168 => w_Mo_thrown  N168 (fun r169 => (r169 = r163 → (¬ r163 = 0 → k23 (v4 + (5 : Int32)) M167 N168) ∧ (r163 = 0 → vp_in (0 : Int32) (zlong 119) ∧ (r166 = 0 → ((M167 119 (0 : Int32).toNatClampNeg) = (0 : Int64) → k23 (v4 + (5 : Int32)) M167 N168) ∧ (¬ (M167 119 (0 : Int32).toNatClampNeg) = (0 : Int64) → False)) ∧ (¬ r166 = 0 → ((M167 119 (0 : Int32).toNatClampNeg) = (1 : Int64) → k23 (v4 + (5 : Int32)) M167 N168) ∧ (¬ (M167 119 (0 : Int32).toNatClampNeg) = (1 : Int64) → False)))) ∧ (¬ r169 = r163 → False))))) ∧ (((xs v4.toNatClampNeg) &&& (31 : Int32)) = 17 → vp_in (v4 + (1 : Int32)) Ln ∧ vp_in (v4 + (2 : Int32)) Ln ∧ w_La_modular (xs (v4 + (1 : Int32)).toNatClampNeg) (xs (v4 + (2 : Int32)).toNatClampNeg) M N (fun r172 M173 N174 => vp_in (v4 + (1 : Int32)) Ln ∧ vp_in (v4 + (2 : Int32)) Ln ∧ w_Mo_modular (xs (v4 + (1 : Int32)).toNatClampNeg) (xs (v4 + (2 : Int32)).toNatClampNeg) M173 N174 (fun r175 M176 N177 => w_Mo_thrown  N177 (fun r178 => (r178 = r172 → (¬ r172 = 0 → k23 (v4 + (5 : Int32)) M176 N177) ∧ (r172 = 0 → vp_in (0 : Int32) (zlong 119) ∧ ((M176 119 (0 : Int32).toNatClampNeg) = r175.toInt64 → k23 (v4 + (5 : Int32)) M176 N177) ∧ (¬ (M176 119 (0 : Int32).toNatClampNeg) = r175.toInt64 → False))) ∧ (¬ r178 = r172 → False))))) ∧ (((xs v4.toNatClampNeg) &&& (31 : Int32)) = 18 → vp_in (v4 + (1 : Int32)) Ln ∧ vp_in (v4 + (2 : Int32)) Ln ∧ w_La_roots (xs (v4 + (1 : Int32)).toNatClampNeg) (xs (v4 + (2 : Int32)).toNatClampNeg) M (fun r181 M182 => vp_in (v4 + (1 : Int32)) Ln ∧ vp_in (v4 + (2 : Int32)) Ln ∧ w_Mo_roots (xs (v4 + (1 : Int32)).toNatClampNeg) (xs (v4 + (2 : Int32)).toNatClampNeg) N (fun r184 N186 => w_Mo_thrown  N186 (fun r187 => (r187 = r181 → (¬ r181 = 0 → k23 (v4 + (5 : Int32)) M182 N186) ∧ (r181 = 0 → vp_in (0 : Int32) (zlong 119) ∧ ((M182 119 (0 : Int32).toNatClampNeg) = r184.toInt64 → k23 (v4 + (5 : Int32)) M182 N186) ∧ (¬ (M182 119 (0 : Int32).toNatClampNeg) = r184.toInt64 → False))) ∧ (¬ r187 = r181 → False))))) ∧ (((xs v4.toNatClampNeg) &&& (31 : Int32)).toInt < 0 ∨ 18 < ((xs v4.toNatClampNeg) &&& (31 : Int32)).toInt → k23 (v4 + (5 : Int32)) M N))
def L_La_law_23 (xs : Nat → Int32) (Ln : Nat) (n : Nat) : Int32 → zM → zN → Prop := Nat.rec (fun _ _ _ => False) (fun _ k => B_La_law_23 xs Ln k) n
set_option maxHeartbeats 8000000 in
set_option maxRecDepth 100000 in
theorem c_La_loop {p : Program} {e : Env} {s : State} {m : MethodId} {below : List Frame} {meth : Method} {c : Code} (l : Launch) (hst : l.stackTraces = false) (G : zG) {sb Ln b : Nat} {xs : Nat → Int32} (hb0 : s.heap.size = b) (hLn : Ln ≤ 2560) (C0 : lw_At p s m meth c sb Ln xs) (hK : va_K G.1 zCl (zty G) s) (hT : zT b s s.heap) : ∀ (n : Nat) (v4 : Int32) (M : zM) (N : zN) (j : Nat) (H : Heap) (ls : Array Slot) (locs : List Loc), v4 = nI (5 * j) → 5 * j ≤ Ln → va_P G.1 zCl (zws G b M N) H → va_S (zA b) s.heap H locs → lv_has ls 8 [(0, .ref sb), (1, .ref (b + 0)), (2, .ref (b + 99)), (3, .ref (b + 119)), (4, .int v4)] → L_La_law_23 xs Ln n v4 M N → W p l e room_1 s m #[Value.ref sb] below meth c H locs (120 + 8 * j) (zS0 + 48 * j) (lw_Z below #[Value.ref sb] s) (F0 m 23 ls []) := by
  obtain ⟨hx, hb, hr, hml, hown, hts, hX, hXl, hlocks, hgv⟩ := C0
  have hta : ∀ w ∈ zall, w.before #[Value.ref sb] s = true := fun w h => hts w (List.mem_filter.mp h).1
  have hXA : ¬ zA b sb := by intro h; have h1 : b ≤ sb := h; omega
  have hown : s.vm.findClass R_La = some m.cls := hown
  intro n
  induction n with
  | zero => intro v4 M N j H ls locs hj hjL hZ hS hl hw; exact False.elim hw
  | succ n23 ih23 =>
    intro v4 M N j H ls locs hj hjL hZ hS hl hw
    have hjm : j ≤ 512 := by omega
    have hw : B_La_law_23 xs Ln (L_La_law_23 xs Ln n23) v4 M N := hw
    unfold B_La_law_23 at hw
    refine lv_iload (pc := 23) hx hb d_La_law_23 (lv_at hl 4 rfl) ?_
    refine lv_aload_n (pc := 25) hx hb d_La_law_25 rfl (lv_at hl 0 rfl) ?_
    refine va_slen (pc := 26) hx hb hX hXl hXA hS d_La_law_26 ?_
    refine lv_iconst (pc := 27) (v := 5) hx hb d_La_law_27 (by decide) ?_
    refine lv_isub (pc := 28) hx hb d_La_law_28 ?_
    refine lv_icmp_gt (pc := 29) (tgt := 1424) hx hb d_La_law_29 (by decide) (fun hc => ?_) (fun hc23 => ?_)
    · have hw := hw.1 hc
      refine lv_iconst (pc := 1424) (v := 1) hx hb d_La_law_1424 (by decide) ?_
      refine va_forget (fun q hq => by rw [hb0]; exact hS.2.2 q hq) ?_
      refine W.widen (k := 601024) (n := 7293034) (by omega) (by unfold zS0; omega) ?_
      exact lw_ret hx hb hr hlocks d_La_law_1425
    · have hw := hw.2 hc23
      refine lv_aload_n (pc := 32) hx hb d_La_law_32 rfl (lv_at hl 0 rfl) ?_
      refine lv_iload (pc := 33) hx hb d_La_law_33 (lv_at hl 4 rfl) ?_
      obtain ⟨hc, hw⟩ := hw
      refine va_sld (pc := 35) hx hb hX hXl hXA hS hc d_La_law_35 ?_
      refine lv_bipush (pc := 36) (v := 31) hx hb d_La_law_36 (by decide) ?_
      refine lv_iand (pc := 38) hx hb d_La_law_38 ?_
      by_cases h0 : ((xs v4.toNatClampNeg) &&& (31 : Int32)) = 0
      · rw [h0]
        refine lv_tableIn (pc := 39) (tgt := 128) hx hb d_La_law_39 (by decide) (by decide) rfl (by decide) ?_
        have hw := hw.1 h0
        refine lv_aload_n (pc := 128) hx hb d_La_law_128 rfl (lv_at hl 1 rfl) ?_
        refine lv_aload_n (pc := 129) hx hb d_La_law_129 rfl (lv_at hl 0 rfl) ?_
        refine lv_iload (pc := 130) hx hb d_La_law_130 (lv_at hl 4 rfl) ?_
        refine lv_iconst (pc := 132) (v := 1) hx hb d_La_law_132 (by decide) ?_
        refine lv_iadd (pc := 133) hx hb d_La_law_133 ?_
        obtain ⟨hc, hw⟩ := hw
        refine va_sld (pc := 134) hx hb hX hXl hXA hS hc d_La_law_134 ?_
        refine lv_aload_n (pc := 135) hx hb d_La_law_135 rfl (lv_at hl 0 rfl) ?_
        refine lv_iload (pc := 136) hx hb d_La_law_136 (lv_at hl 4 rfl) ?_
        refine lv_iconst (pc := 138) (v := 2) hx hb d_La_law_138 (by decide) ?_
        refine lv_iadd (pc := 139) hx hb d_La_law_139 ?_
        obtain ⟨hc, hw⟩ := hw
        refine va_sld (pc := 140) hx hb hX hXl hXA hS hc d_La_law_140 ?_
        refine lv_aload_n (pc := 141) hx hb d_La_law_141 rfl (lv_at hl 0 rfl) ?_
        refine lv_iload (pc := 142) hx hb d_La_law_142 (lv_at hl 4 rfl) ?_
        refine lv_iconst (pc := 144) (v := 3) hx hb d_La_law_144 (by decide) ?_
        refine lv_iadd (pc := 145) hx hb d_La_law_145 ?_
        obtain ⟨hc, hw⟩ := hw
        refine va_sld (pc := 146) hx hb hX hXl hXA hS hc d_La_law_146 ?_
        refine lv_aload_n (pc := 147) hx hb d_La_law_147 rfl (lv_at hl 3 rfl) ?_
        refine z_calli (pc := 148) (vx_runSW (As := [.ref (b + 0), .int (xs (v4 + (1 : Int32)).toNatClampNeg), .int (xs (v4 + (2 : Int32)).toNatClampNeg), .int (xs (v4 + (3 : Int32)).toNatClampNeg), .ref (b + 119)]) (rest := []) ⟨hx, hb, hml, hown, hts⟩ (c_La_put l hst G b (xs (v4 + (1 : Int32)).toNatClampNeg) (xs (v4 + (2 : Int32)).toNatClampNeg) (xs (v4 + (3 : Int32)).toNatClampNeg) M N hw) (vx_cwSW 5 hts (z_goodL (zgS wd214 wd215 wd0 wd216)) rfl rfl rfl hd_La_put ⟨Nat.le_of_ble_eq_true rfl, Nat.le_of_ble_eq_true rfl⟩) (z_preS hZ hK hT hS) rfl rfl hl.1 rfl (lv_room (Nat.le_of_ble_eq_true rfl)) d_La_law_148 ⟨by show 120 + 8 * j + 0 + 3 ≤ 601024; omega, by show zS0 + 48 * j + 0 + 18 ≤ 7293034; unfold zS0; omega⟩) hS (fun r1 M2 N3 H locs hw hZ hS => ?_)
        obtain ⟨hw, eN3⟩ := hw
        rw [eN3] at hZ
        refine lv_istore (pc := 151) (lv' := [(5, .int r1), (0, .ref sb), (1, .ref (b + 0)), (2, .ref (b + 99)), (3, .ref (b + 119)), (4, .int v4)]) hx hb d_La_law_151 hl (by decide) rfl (fun ls hl => ?_)
        refine lv_aload_n (pc := 153) hx hb d_La_law_153 rfl (lv_at hl 3 rfl) ?_
        refine lv_aload_n (pc := 154) hx hb d_La_law_154 rfl (lv_at hl 1 rfl) ?_
        refine lv_iload (pc := 155) hx hb d_La_law_155 (lv_at hl 5 rfl) ?_
        refine lv_iconst (pc := 157) (v := 1) hx hb d_La_law_157 (by decide) ?_
        refine lv_iadd (pc := 158) hx hb d_La_law_158 ?_
        obtain ⟨hc, hw⟩ := hw
        refine va_sld (pc := 159) hx hb hX hXl hXA hS hc d_La_law_159 ?_
        refine lv_aload_n (pc := 160) hx hb d_La_law_160 rfl (lv_at hl 1 rfl) ?_
        refine lv_iload (pc := 161) hx hb d_La_law_161 (lv_at hl 5 rfl) ?_
        refine lv_iconst (pc := 163) (v := 2) hx hb d_La_law_163 (by decide) ?_
        refine lv_iadd (pc := 164) hx hb d_La_law_164 ?_
        obtain ⟨hc, hw⟩ := hw
        refine va_sld (pc := 165) hx hb hX hXl hXA hS hc d_La_law_165 ?_
        refine lv_aload_n (pc := 166) hx hb d_La_law_166 rfl (lv_at hl 1 rfl) ?_
        refine lv_iload (pc := 167) hx hb d_La_law_167 (lv_at hl 5 rfl) ?_
        refine lv_iconst (pc := 169) (v := 3) hx hb d_La_law_169 (by decide) ?_
        refine lv_iadd (pc := 170) hx hb d_La_law_170 ?_
        obtain ⟨hc, hw⟩ := hw
        refine va_sld (pc := 171) hx hb hX hXl hXA hS hc d_La_law_171 ?_
        refine z_calli (pc := 172) (va_runV (C := R_Mo) (b := b + 99) (As := [.int (xs (v4 + (1 : Int32)).toNatClampNeg), .int (xs (v4 + (2 : Int32)).toNatClampNeg), .int (xs (v4 + (3 : Int32)).toNatClampNeg)]) (rest := []) ⟨hx, hb, hml, hown, hts⟩ (c_Mo_put l G b (xs (v4 + (1 : Int32)).toNatClampNeg) (xs (v4 + (2 : Int32)).toNatClampNeg) (xs (v4 + (3 : Int32)).toNatClampNeg) M2 N hw) (cwV 3 hts (z_goodL (zgV wd801 wd802 wd803 wd7 wd804)) rfl rfl rfl ⟨rfl, hd_Mo_put⟩ ⟨Nat.le_of_ble_eq_true rfl, Nat.le_of_ble_eq_true rfl⟩) (z_preV zo_Mo rfl rfl hZ hK hT hS) rfl rfl hl.1 rfl (lv_room (Nat.le_of_ble_eq_true rfl)) d_La_law_172 ⟨by show 120 + 8 * j + 3 + 0 ≤ 601024; omega, by show zS0 + 48 * j + 18 + 0 ≤ 7293034; unfold zS0; omega⟩) hS (fun r4 M5 N6 H locs hw hZ hS => ?_)
        refine lv_istore (pc := 175) (lv' := [(6, .int r4), (5, .int r1), (0, .ref sb), (1, .ref (b + 0)), (2, .ref (b + 99)), (3, .ref (b + 119)), (4, .int v4)]) hx hb d_La_law_175 hl (by decide) rfl (fun ls hl => ?_)
        refine lv_aload_n (pc := 177) hx hb d_La_law_177 rfl (lv_at hl 4 rfl) ?_
        refine z_calli (pc := 178) (va_runV (C := R_Mo) (b := b + 99) (As := []) (rest := []) ⟨hx, hb, hml, hown, hts⟩ (c_Mo_thrown l G b  M5 N6 hw) (cwV 0 hts (z_goodL (zgV wd797 wd798 wd799 wd7 wd800)) rfl rfl rfl ⟨rfl, hd_Mo_thrown⟩ ⟨Nat.le_of_ble_eq_true rfl, Nat.le_of_ble_eq_true rfl⟩) (z_preV zo_Mo rfl rfl hZ hK hT hS) rfl rfl hl.1 rfl (lv_room (Nat.le_of_ble_eq_true rfl)) d_La_law_178 ⟨by show 120 + 8 * j + 3 + 0 ≤ 601024; omega, by show zS0 + 48 * j + 18 + 0 ≤ 7293034; unfold zS0; omega⟩) hS (fun r7 M8 N9 H locs hw hZ hS => ?_)
        obtain ⟨hw, eM8, eN9⟩ := hw
        rw [eM8, eN9] at hZ
        refine lv_iload (pc := 181) hx hb d_La_law_181 (lv_at hl 1 rfl) ?_
        refine lv_icmp_eq (pc := 183) (tgt := 188) hx hb d_La_law_183 (by decide) (fun hc => ?_) (fun hc => ?_)
        · have hw := hw.1 hc
          refine lv_iload (pc := 188) hx hb d_La_law_188 (lv_at hl 1 rfl) ?_
          refine lv_if_ne (pc := 190) (tgt := 205) hx hb d_La_law_190 (by decide) (fun hc => ?_) (fun hc => ?_)
          · have hw := hw.1 hc
            refine lv_goto (pc := 205) (tgt := 1418) hx hb d_La_law_205 (by decide) ?_
            refine lv_iinc (pc := 1418) (k := 6) (v := v4 + (5 : Int32)) (lv' := [(4, .int (v4 + (5 : Int32))), (6, .int r4), (5, .int r1), (0, .ref sb), (1, .ref (b + 0)), (2, .ref (b + 99)), (3, .ref (b + 119))]) hx hb d_La_law_1418 hl rfl (by rfl) (by decide) rfl (fun ls hl => ?_)
            refine lv_goto (pc := 1421) (tgt := 23) hx hb d_La_law_1421 (by decide) ?_
            refine W.widen (k := 120 + 8 * (j + 1)) (n := zS0 + 48 * (j + 1)) (by omega) (by omega) ?_
            exact ih23 (v4 + (5 : Int32)) M5 N6 (j + 1) _ _ _ (z_next hj) (z_room hj hc23 (by omega) hjL) hZ hS (lv_sub hl [3, 4, 5, 6, 0] rfl) hw
          · have hw := hw.2 hc
            refine lv_aload_n (pc := 193) hx hb d_La_law_193 rfl (lv_at hl 5 rfl) ?_
            refine lv_iconst (pc := 194) (v := 0) hx hb d_La_law_194 (by decide) ?_
            obtain ⟨hc, hw⟩ := hw
            refine z_lald (pc := 195) hx hb hK hZ hc d_La_law_195 ?_
            refine lv_iload (pc := 196) hx hb d_La_law_196 (lv_at hl 0 rfl) ?_
            refine lv_i2l (pc := 198) (v := r4.toInt64) hx hb d_La_law_198 rfl ?_
            refine z_lc_eq (pc := 199) (tgt := 205) hx hb d_La_law_199 d_La_law_200 (by decide) (fun hc => ?_) (fun hc => ?_)
            · have hw := hw.1 hc
              refine lv_goto (pc := 205) (tgt := 1418) hx hb d_La_law_205 (by decide) ?_
              refine lv_iinc (pc := 1418) (k := 6) (v := v4 + (5 : Int32)) (lv' := [(4, .int (v4 + (5 : Int32))), (6, .int r4), (5, .int r1), (0, .ref sb), (1, .ref (b + 0)), (2, .ref (b + 99)), (3, .ref (b + 119))]) hx hb d_La_law_1418 hl rfl (by rfl) (by decide) rfl (fun ls hl => ?_)
              refine lv_goto (pc := 1421) (tgt := 23) hx hb d_La_law_1421 (by decide) ?_
              refine W.widen (k := 120 + 8 * (j + 1)) (n := zS0 + 48 * (j + 1)) (by omega) (by omega) ?_
              exact ih23 (v4 + (5 : Int32)) M5 N6 (j + 1) _ _ _ (z_next hj) (z_room hj hc23 (by omega) hjL) hZ hS (lv_sub hl [3, 4, 5, 6, 0] rfl) hw
            · have hw := hw.2 hc
              refine lv_iconst (pc := 203) (v := 0) hx hb d_La_law_203 (by decide) ?_
              exact False.elim hw
        · have hw := hw.2 hc
          refine lv_iconst (pc := 186) (v := 0) hx hb d_La_law_186 (by decide) ?_
          exact False.elim hw
      · by_cases h1 : ((xs v4.toNatClampNeg) &&& (31 : Int32)) = 1
        · rw [h1]
          refine lv_tableIn (pc := 39) (tgt := 208) hx hb d_La_law_39 (by decide) (by decide) rfl (by decide) ?_
          have hw := hw.2.1 h1
          refine lv_aload_n (pc := 208) hx hb d_La_law_208 rfl (lv_at hl 1 rfl) ?_
          refine lv_aload_n (pc := 209) hx hb d_La_law_209 rfl (lv_at hl 0 rfl) ?_
          refine lv_iload (pc := 210) hx hb d_La_law_210 (lv_at hl 4 rfl) ?_
          refine lv_iconst (pc := 212) (v := 1) hx hb d_La_law_212 (by decide) ?_
          refine lv_iadd (pc := 213) hx hb d_La_law_213 ?_
          obtain ⟨hc, hw⟩ := hw
          refine va_sld (pc := 214) hx hb hX hXl hXA hS hc d_La_law_214 ?_
          refine lv_aload_n (pc := 215) hx hb d_La_law_215 rfl (lv_at hl 0 rfl) ?_
          refine lv_iload (pc := 216) hx hb d_La_law_216 (lv_at hl 4 rfl) ?_
          refine lv_iconst (pc := 218) (v := 2) hx hb d_La_law_218 (by decide) ?_
          refine lv_iadd (pc := 219) hx hb d_La_law_219 ?_
          obtain ⟨hc, hw⟩ := hw
          refine va_sld (pc := 220) hx hb hX hXl hXA hS hc d_La_law_220 ?_
          refine lv_aload_n (pc := 221) hx hb d_La_law_221 rfl (lv_at hl 3 rfl) ?_
          refine z_calli (pc := 222) (vx_runSW (As := [.ref (b + 0), .int (xs (v4 + (1 : Int32)).toNatClampNeg), .int (xs (v4 + (2 : Int32)).toNatClampNeg), .ref (b + 119)]) (rest := []) ⟨hx, hb, hml, hown, hts⟩ (c_La_coefficient l hst G b (xs (v4 + (1 : Int32)).toNatClampNeg) (xs (v4 + (2 : Int32)).toNatClampNeg) M N hw) (vx_cwSW 4 hts (z_goodL (zgS wd314 wd315 wd0 wd316)) rfl rfl rfl hd_La_coefficient ⟨Nat.le_of_ble_eq_true rfl, Nat.le_of_ble_eq_true rfl⟩) (z_preS hZ hK hT hS) rfl rfl hl.1 rfl (lv_room (Nat.le_of_ble_eq_true rfl)) d_La_law_222 ⟨by show 120 + 8 * j + 0 + 2 ≤ 601024; omega, by show zS0 + 48 * j + 0 + 12 ≤ 7293034; unfold zS0; omega⟩) hS (fun r10 M11 N12 H locs hw hZ hS => ?_)
          obtain ⟨hw, eN12⟩ := hw
          rw [eN12] at hZ
          refine lv_istore (pc := 225) (lv' := [(5, .int r10), (0, .ref sb), (1, .ref (b + 0)), (2, .ref (b + 99)), (3, .ref (b + 119)), (4, .int v4)]) hx hb d_La_law_225 hl (by decide) rfl (fun ls hl => ?_)
          refine lv_aload_n (pc := 227) hx hb d_La_law_227 rfl (lv_at hl 3 rfl) ?_
          refine lv_aload_n (pc := 228) hx hb d_La_law_228 rfl (lv_at hl 1 rfl) ?_
          refine lv_iload (pc := 229) hx hb d_La_law_229 (lv_at hl 5 rfl) ?_
          refine lv_iconst (pc := 231) (v := 1) hx hb d_La_law_231 (by decide) ?_
          refine lv_iadd (pc := 232) hx hb d_La_law_232 ?_
          obtain ⟨hc, hw⟩ := hw
          refine va_sld (pc := 233) hx hb hX hXl hXA hS hc d_La_law_233 ?_
          refine lv_aload_n (pc := 234) hx hb d_La_law_234 rfl (lv_at hl 1 rfl) ?_
          refine lv_iload (pc := 235) hx hb d_La_law_235 (lv_at hl 5 rfl) ?_
          refine lv_iconst (pc := 237) (v := 2) hx hb d_La_law_237 (by decide) ?_
          refine lv_iadd (pc := 238) hx hb d_La_law_238 ?_
          obtain ⟨hc, hw⟩ := hw
          refine va_sld (pc := 239) hx hb hX hXl hXA hS hc d_La_law_239 ?_
          refine z_calli (pc := 240) (va_runV (C := R_Mo) (b := b + 99) (As := [.int (xs (v4 + (1 : Int32)).toNatClampNeg), .int (xs (v4 + (2 : Int32)).toNatClampNeg)]) (rest := []) ⟨hx, hb, hml, hown, hts⟩ (c_Mo_coefficient l G b (xs (v4 + (1 : Int32)).toNatClampNeg) (xs (v4 + (2 : Int32)).toNatClampNeg) M11 N hw) (cwV 2 hts (z_goodL (zgV wd817 wd818 wd819 wd7 wd820)) rfl rfl rfl ⟨rfl, hd_Mo_coefficient⟩ ⟨Nat.le_of_ble_eq_true rfl, Nat.le_of_ble_eq_true rfl⟩) (z_preV zo_Mo rfl rfl hZ hK hT hS) rfl rfl hl.1 rfl (lv_room (Nat.le_of_ble_eq_true rfl)) d_La_law_240 ⟨by show 120 + 8 * j + 2 + 0 ≤ 601024; omega, by show zS0 + 48 * j + 12 + 0 ≤ 7293034; unfold zS0; omega⟩) hS (fun r13 M14 N15 H locs hw hZ hS => ?_)
          obtain ⟨hw, eM14⟩ := hw
          rw [eM14] at hZ
          refine lv_istore (pc := 243) (lv' := [(6, .int r13), (5, .int r10), (0, .ref sb), (1, .ref (b + 0)), (2, .ref (b + 99)), (3, .ref (b + 119)), (4, .int v4)]) hx hb d_La_law_243 hl (by decide) rfl (fun ls hl => ?_)
          refine lv_aload_n (pc := 245) hx hb d_La_law_245 rfl (lv_at hl 4 rfl) ?_
          refine z_calli (pc := 246) (va_runV (C := R_Mo) (b := b + 99) (As := []) (rest := []) ⟨hx, hb, hml, hown, hts⟩ (c_Mo_thrown l G b  M11 N15 hw) (cwV 0 hts (z_goodL (zgV wd797 wd798 wd799 wd7 wd800)) rfl rfl rfl ⟨rfl, hd_Mo_thrown⟩ ⟨Nat.le_of_ble_eq_true rfl, Nat.le_of_ble_eq_true rfl⟩) (z_preV zo_Mo rfl rfl hZ hK hT hS) rfl rfl hl.1 rfl (lv_room (Nat.le_of_ble_eq_true rfl)) d_La_law_246 ⟨by show 120 + 8 * j + 2 + 0 ≤ 601024; omega, by show zS0 + 48 * j + 12 + 0 ≤ 7293034; unfold zS0; omega⟩) hS (fun r16 M17 N18 H locs hw hZ hS => ?_)
          obtain ⟨hw, eM17, eN18⟩ := hw
          rw [eM17, eN18] at hZ
          refine lv_iload (pc := 249) hx hb d_La_law_249 (lv_at hl 1 rfl) ?_
          refine lv_icmp_eq (pc := 251) (tgt := 256) hx hb d_La_law_251 (by decide) (fun hc => ?_) (fun hc => ?_)
          · have hw := hw.1 hc
            refine lv_iload (pc := 256) hx hb d_La_law_256 (lv_at hl 1 rfl) ?_
            refine lv_if_ne (pc := 258) (tgt := 273) hx hb d_La_law_258 (by decide) (fun hc => ?_) (fun hc => ?_)
            · have hw := hw.1 hc
              refine lv_goto (pc := 273) (tgt := 1418) hx hb d_La_law_273 (by decide) ?_
              refine lv_iinc (pc := 1418) (k := 6) (v := v4 + (5 : Int32)) (lv' := [(4, .int (v4 + (5 : Int32))), (6, .int r13), (5, .int r10), (0, .ref sb), (1, .ref (b + 0)), (2, .ref (b + 99)), (3, .ref (b + 119))]) hx hb d_La_law_1418 hl rfl (by rfl) (by decide) rfl (fun ls hl => ?_)
              refine lv_goto (pc := 1421) (tgt := 23) hx hb d_La_law_1421 (by decide) ?_
              refine W.widen (k := 120 + 8 * (j + 1)) (n := zS0 + 48 * (j + 1)) (by omega) (by omega) ?_
              exact ih23 (v4 + (5 : Int32)) M11 N15 (j + 1) _ _ _ (z_next hj) (z_room hj hc23 (by omega) hjL) hZ hS (lv_sub hl [3, 4, 5, 6, 0] rfl) hw
            · have hw := hw.2 hc
              refine lv_aload_n (pc := 261) hx hb d_La_law_261 rfl (lv_at hl 5 rfl) ?_
              refine lv_iconst (pc := 262) (v := 0) hx hb d_La_law_262 (by decide) ?_
              obtain ⟨hc, hw⟩ := hw
              refine z_lald (pc := 263) hx hb hK hZ hc d_La_law_263 ?_
              refine lv_iload (pc := 264) hx hb d_La_law_264 (lv_at hl 0 rfl) ?_
              refine lv_i2l (pc := 266) (v := r13.toInt64) hx hb d_La_law_266 rfl ?_
              refine z_lc_eq (pc := 267) (tgt := 273) hx hb d_La_law_267 d_La_law_268 (by decide) (fun hc => ?_) (fun hc => ?_)
              · have hw := hw.1 hc
                refine lv_goto (pc := 273) (tgt := 1418) hx hb d_La_law_273 (by decide) ?_
                refine lv_iinc (pc := 1418) (k := 6) (v := v4 + (5 : Int32)) (lv' := [(4, .int (v4 + (5 : Int32))), (6, .int r13), (5, .int r10), (0, .ref sb), (1, .ref (b + 0)), (2, .ref (b + 99)), (3, .ref (b + 119))]) hx hb d_La_law_1418 hl rfl (by rfl) (by decide) rfl (fun ls hl => ?_)
                refine lv_goto (pc := 1421) (tgt := 23) hx hb d_La_law_1421 (by decide) ?_
                refine W.widen (k := 120 + 8 * (j + 1)) (n := zS0 + 48 * (j + 1)) (by omega) (by omega) ?_
                exact ih23 (v4 + (5 : Int32)) M11 N15 (j + 1) _ _ _ (z_next hj) (z_room hj hc23 (by omega) hjL) hZ hS (lv_sub hl [3, 4, 5, 6, 0] rfl) hw
              · have hw := hw.2 hc
                refine lv_iconst (pc := 271) (v := 0) hx hb d_La_law_271 (by decide) ?_
                exact False.elim hw
          · have hw := hw.2 hc
            refine lv_iconst (pc := 254) (v := 0) hx hb d_La_law_254 (by decide) ?_
            exact False.elim hw
        · by_cases h2 : ((xs v4.toNatClampNeg) &&& (31 : Int32)) = 2
          · rw [h2]
            refine lv_tableIn (pc := 39) (tgt := 276) hx hb d_La_law_39 (by decide) (by decide) rfl (by decide) ?_
            have hw := hw.2.2.1 h2
            refine lv_aload_n (pc := 276) hx hb d_La_law_276 rfl (lv_at hl 1 rfl) ?_
            refine lv_aload_n (pc := 277) hx hb d_La_law_277 rfl (lv_at hl 0 rfl) ?_
            refine lv_iload (pc := 278) hx hb d_La_law_278 (lv_at hl 4 rfl) ?_
            refine lv_iconst (pc := 280) (v := 1) hx hb d_La_law_280 (by decide) ?_
            refine lv_iadd (pc := 281) hx hb d_La_law_281 ?_
            obtain ⟨hc, hw⟩ := hw
            refine va_sld (pc := 282) hx hb hX hXl hXA hS hc d_La_law_282 ?_
            refine lv_aload_n (pc := 283) hx hb d_La_law_283 rfl (lv_at hl 3 rfl) ?_
            refine z_calli (pc := 284) (vx_runSW (As := [.ref (b + 0), .int (xs (v4 + (1 : Int32)).toNatClampNeg), .ref (b + 119)]) (rest := []) ⟨hx, hb, hml, hown, hts⟩ (c_La_degree l hst G b (xs (v4 + (1 : Int32)).toNatClampNeg) M N hw) (vx_cwSW 3 hts (z_goodL (zgS wd321 wd322 wd0 wd323)) rfl rfl rfl hd_La_degree ⟨Nat.le_of_ble_eq_true rfl, Nat.le_of_ble_eq_true rfl⟩) (z_preS hZ hK hT hS) rfl rfl hl.1 rfl (lv_room (Nat.le_of_ble_eq_true rfl)) d_La_law_284 ⟨by show 120 + 8 * j + 0 + 1 ≤ 601024; omega, by show zS0 + 48 * j + 0 + 6 ≤ 7293034; unfold zS0; omega⟩) hS (fun r19 M20 N21 H locs hw hZ hS => ?_)
            obtain ⟨hw, eN21⟩ := hw
            rw [eN21] at hZ
            refine lv_istore (pc := 287) (lv' := [(5, .int r19), (0, .ref sb), (1, .ref (b + 0)), (2, .ref (b + 99)), (3, .ref (b + 119)), (4, .int v4)]) hx hb d_La_law_287 hl (by decide) rfl (fun ls hl => ?_)
            refine lv_aload_n (pc := 289) hx hb d_La_law_289 rfl (lv_at hl 3 rfl) ?_
            refine lv_aload_n (pc := 290) hx hb d_La_law_290 rfl (lv_at hl 1 rfl) ?_
            refine lv_iload (pc := 291) hx hb d_La_law_291 (lv_at hl 5 rfl) ?_
            refine lv_iconst (pc := 293) (v := 1) hx hb d_La_law_293 (by decide) ?_
            refine lv_iadd (pc := 294) hx hb d_La_law_294 ?_
            obtain ⟨hc, hw⟩ := hw
            refine va_sld (pc := 295) hx hb hX hXl hXA hS hc d_La_law_295 ?_
            refine z_calli (pc := 296) (va_runV (C := R_Mo) (b := b + 99) (As := [.int (xs (v4 + (1 : Int32)).toNatClampNeg)]) (rest := []) ⟨hx, hb, hml, hown, hts⟩ (c_Mo_degree l G b (xs (v4 + (1 : Int32)).toNatClampNeg) M20 N hw) (cwV 1 hts (z_goodL (zgV wd821 wd822 wd823 wd7 wd824)) rfl rfl rfl ⟨rfl, hd_Mo_degree⟩ ⟨Nat.le_of_ble_eq_true rfl, Nat.le_of_ble_eq_true rfl⟩) (z_preV zo_Mo rfl rfl hZ hK hT hS) rfl rfl hl.1 rfl (lv_room (Nat.le_of_ble_eq_true rfl)) d_La_law_296 ⟨by show 120 + 8 * j + 1 + 0 ≤ 601024; omega, by show zS0 + 48 * j + 6 + 0 ≤ 7293034; unfold zS0; omega⟩) hS (fun r22 M23 N24 H locs hw hZ hS => ?_)
            refine lv_istore (pc := 299) (lv' := [(6, .int r22), (5, .int r19), (0, .ref sb), (1, .ref (b + 0)), (2, .ref (b + 99)), (3, .ref (b + 119)), (4, .int v4)]) hx hb d_La_law_299 hl (by decide) rfl (fun ls hl => ?_)
            refine lv_aload_n (pc := 301) hx hb d_La_law_301 rfl (lv_at hl 4 rfl) ?_
            refine z_calli (pc := 302) (va_runV (C := R_Mo) (b := b + 99) (As := []) (rest := []) ⟨hx, hb, hml, hown, hts⟩ (c_Mo_thrown l G b  M23 N24 hw) (cwV 0 hts (z_goodL (zgV wd797 wd798 wd799 wd7 wd800)) rfl rfl rfl ⟨rfl, hd_Mo_thrown⟩ ⟨Nat.le_of_ble_eq_true rfl, Nat.le_of_ble_eq_true rfl⟩) (z_preV zo_Mo rfl rfl hZ hK hT hS) rfl rfl hl.1 rfl (lv_room (Nat.le_of_ble_eq_true rfl)) d_La_law_302 ⟨by show 120 + 8 * j + 1 + 0 ≤ 601024; omega, by show zS0 + 48 * j + 6 + 0 ≤ 7293034; unfold zS0; omega⟩) hS (fun r25 M26 N27 H locs hw hZ hS => ?_)
            obtain ⟨hw, eM26, eN27⟩ := hw
            rw [eM26, eN27] at hZ
            refine lv_iload (pc := 305) hx hb d_La_law_305 (lv_at hl 1 rfl) ?_
            refine lv_icmp_eq (pc := 307) (tgt := 312) hx hb d_La_law_307 (by decide) (fun hc => ?_) (fun hc => ?_)
            · have hw := hw.1 hc
              refine lv_iload (pc := 312) hx hb d_La_law_312 (lv_at hl 1 rfl) ?_
              refine lv_if_ne (pc := 314) (tgt := 329) hx hb d_La_law_314 (by decide) (fun hc => ?_) (fun hc => ?_)
              · have hw := hw.1 hc
                refine lv_goto (pc := 329) (tgt := 1418) hx hb d_La_law_329 (by decide) ?_
                refine lv_iinc (pc := 1418) (k := 6) (v := v4 + (5 : Int32)) (lv' := [(4, .int (v4 + (5 : Int32))), (6, .int r22), (5, .int r19), (0, .ref sb), (1, .ref (b + 0)), (2, .ref (b + 99)), (3, .ref (b + 119))]) hx hb d_La_law_1418 hl rfl (by rfl) (by decide) rfl (fun ls hl => ?_)
                refine lv_goto (pc := 1421) (tgt := 23) hx hb d_La_law_1421 (by decide) ?_
                refine W.widen (k := 120 + 8 * (j + 1)) (n := zS0 + 48 * (j + 1)) (by omega) (by omega) ?_
                exact ih23 (v4 + (5 : Int32)) M23 N24 (j + 1) _ _ _ (z_next hj) (z_room hj hc23 (by omega) hjL) hZ hS (lv_sub hl [3, 4, 5, 6, 0] rfl) hw
              · have hw := hw.2 hc
                refine lv_aload_n (pc := 317) hx hb d_La_law_317 rfl (lv_at hl 5 rfl) ?_
                refine lv_iconst (pc := 318) (v := 0) hx hb d_La_law_318 (by decide) ?_
                obtain ⟨hc, hw⟩ := hw
                refine z_lald (pc := 319) hx hb hK hZ hc d_La_law_319 ?_
                refine lv_iload (pc := 320) hx hb d_La_law_320 (lv_at hl 0 rfl) ?_
                refine lv_i2l (pc := 322) (v := r22.toInt64) hx hb d_La_law_322 rfl ?_
                refine z_lc_eq (pc := 323) (tgt := 329) hx hb d_La_law_323 d_La_law_324 (by decide) (fun hc => ?_) (fun hc => ?_)
                · have hw := hw.1 hc
                  refine lv_goto (pc := 329) (tgt := 1418) hx hb d_La_law_329 (by decide) ?_
                  refine lv_iinc (pc := 1418) (k := 6) (v := v4 + (5 : Int32)) (lv' := [(4, .int (v4 + (5 : Int32))), (6, .int r22), (5, .int r19), (0, .ref sb), (1, .ref (b + 0)), (2, .ref (b + 99)), (3, .ref (b + 119))]) hx hb d_La_law_1418 hl rfl (by rfl) (by decide) rfl (fun ls hl => ?_)
                  refine lv_goto (pc := 1421) (tgt := 23) hx hb d_La_law_1421 (by decide) ?_
                  refine W.widen (k := 120 + 8 * (j + 1)) (n := zS0 + 48 * (j + 1)) (by omega) (by omega) ?_
                  exact ih23 (v4 + (5 : Int32)) M23 N24 (j + 1) _ _ _ (z_next hj) (z_room hj hc23 (by omega) hjL) hZ hS (lv_sub hl [3, 4, 5, 6, 0] rfl) hw
                · have hw := hw.2 hc
                  refine lv_iconst (pc := 327) (v := 0) hx hb d_La_law_327 (by decide) ?_
                  exact False.elim hw
            · have hw := hw.2 hc
              refine lv_iconst (pc := 310) (v := 0) hx hb d_La_law_310 (by decide) ?_
              exact False.elim hw
          · by_cases h3 : ((xs v4.toNatClampNeg) &&& (31 : Int32)) = 3
            · rw [h3]
              refine lv_tableIn (pc := 39) (tgt := 332) hx hb d_La_law_39 (by decide) (by decide) rfl (by decide) ?_
              have hw := hw.2.2.2.1 h3
              refine lv_aload_n (pc := 332) hx hb d_La_law_332 rfl (lv_at hl 1 rfl) ?_
              refine lv_aload_n (pc := 333) hx hb d_La_law_333 rfl (lv_at hl 0 rfl) ?_
              refine lv_iload (pc := 334) hx hb d_La_law_334 (lv_at hl 4 rfl) ?_
              refine lv_iconst (pc := 336) (v := 1) hx hb d_La_law_336 (by decide) ?_
              refine lv_iadd (pc := 337) hx hb d_La_law_337 ?_
              obtain ⟨hc, hw⟩ := hw
              refine va_sld (pc := 338) hx hb hX hXl hXA hS hc d_La_law_338 ?_
              refine lv_aload_n (pc := 339) hx hb d_La_law_339 rfl (lv_at hl 0 rfl) ?_
              refine lv_iload (pc := 340) hx hb d_La_law_340 (lv_at hl 4 rfl) ?_
              refine lv_iconst (pc := 342) (v := 2) hx hb d_La_law_342 (by decide) ?_
              refine lv_iadd (pc := 343) hx hb d_La_law_343 ?_
              obtain ⟨hc, hw⟩ := hw
              refine va_sld (pc := 344) hx hb hX hXl hXA hS hc d_La_law_344 ?_
              refine lv_aload_n (pc := 345) hx hb d_La_law_345 rfl (lv_at hl 0 rfl) ?_
              refine lv_iload (pc := 346) hx hb d_La_law_346 (lv_at hl 4 rfl) ?_
              refine lv_iconst (pc := 348) (v := 3) hx hb d_La_law_348 (by decide) ?_
              refine lv_iadd (pc := 349) hx hb d_La_law_349 ?_
              obtain ⟨hc, hw⟩ := hw
              refine va_sld (pc := 350) hx hb hX hXl hXA hS hc d_La_law_350 ?_
              refine lv_aload_n (pc := 351) hx hb d_La_law_351 rfl (lv_at hl 0 rfl) ?_
              refine lv_iload (pc := 352) hx hb d_La_law_352 (lv_at hl 4 rfl) ?_
              refine lv_iconst (pc := 354) (v := 4) hx hb d_La_law_354 (by decide) ?_
              refine lv_iadd (pc := 355) hx hb d_La_law_355 ?_
              obtain ⟨hc, hw⟩ := hw
              refine va_sld (pc := 356) hx hb hX hXl hXA hS hc d_La_law_356 ?_
              refine lv_if_eq (pc := 357) (tgt := 364) hx hb d_La_law_357 (by decide) (fun hc => ?_) (fun hc => ?_)
              · have hw := hw.1 hc
                refine lv_iconst (pc := 364) (v := 0) hx hb d_La_law_364 (by decide) ?_
                refine lv_aload_n (pc := 365) hx hb d_La_law_365 rfl (lv_at hl 3 rfl) ?_
                refine z_calli (pc := 366) (vx_runSW (As := [.ref (b + 0), .int (xs (v4 + (1 : Int32)).toNatClampNeg), .int (xs (v4 + (2 : Int32)).toNatClampNeg), .int (xs (v4 + (3 : Int32)).toNatClampNeg), .int (0 : Int32), .ref (b + 119)]) (rest := []) ⟨hx, hb, hml, hown, hts⟩ (c_La_add l hst G b (xs (v4 + (1 : Int32)).toNatClampNeg) (xs (v4 + (2 : Int32)).toNatClampNeg) (xs (v4 + (3 : Int32)).toNatClampNeg) (0 : Int32) M N hw) (vx_cwSW 6 hts (z_goodL (zgS wd328 wd329 wd0 wd330)) rfl rfl rfl hd_La_add ⟨Nat.le_of_ble_eq_true rfl, Nat.le_of_ble_eq_true rfl⟩) (z_preS hZ hK hT hS) rfl rfl hl.1 rfl (lv_room (Nat.le_of_ble_eq_true rfl)) d_La_law_366 ⟨by show 120 + 8 * j + 0 + 4 ≤ 601024; omega, by show zS0 + 48 * j + 0 + 24 ≤ 7293034; unfold zS0; omega⟩) hS (fun r28 M29 N30 H locs hw hZ hS => ?_)
                obtain ⟨hw, eN30⟩ := hw
                rw [eN30] at hZ
                refine lv_istore (pc := 369) (lv' := [(5, .int r28), (0, .ref sb), (1, .ref (b + 0)), (2, .ref (b + 99)), (3, .ref (b + 119)), (4, .int v4)]) hx hb d_La_law_369 hl (by decide) rfl (fun ls hl => ?_)
                refine lv_aload_n (pc := 371) hx hb d_La_law_371 rfl (lv_at hl 3 rfl) ?_
                refine lv_aload_n (pc := 372) hx hb d_La_law_372 rfl (lv_at hl 1 rfl) ?_
                refine lv_iload (pc := 373) hx hb d_La_law_373 (lv_at hl 5 rfl) ?_
                refine lv_iconst (pc := 375) (v := 1) hx hb d_La_law_375 (by decide) ?_
                refine lv_iadd (pc := 376) hx hb d_La_law_376 ?_
                obtain ⟨hc, hw⟩ := hw
                refine va_sld (pc := 377) hx hb hX hXl hXA hS hc d_La_law_377 ?_
                refine lv_aload_n (pc := 378) hx hb d_La_law_378 rfl (lv_at hl 1 rfl) ?_
                refine lv_iload (pc := 379) hx hb d_La_law_379 (lv_at hl 5 rfl) ?_
                refine lv_iconst (pc := 381) (v := 2) hx hb d_La_law_381 (by decide) ?_
                refine lv_iadd (pc := 382) hx hb d_La_law_382 ?_
                obtain ⟨hc, hw⟩ := hw
                refine va_sld (pc := 383) hx hb hX hXl hXA hS hc d_La_law_383 ?_
                refine lv_aload_n (pc := 384) hx hb d_La_law_384 rfl (lv_at hl 1 rfl) ?_
                refine lv_iload (pc := 385) hx hb d_La_law_385 (lv_at hl 5 rfl) ?_
                refine lv_iconst (pc := 387) (v := 3) hx hb d_La_law_387 (by decide) ?_
                refine lv_iadd (pc := 388) hx hb d_La_law_388 ?_
                obtain ⟨hc, hw⟩ := hw
                refine va_sld (pc := 389) hx hb hX hXl hXA hS hc d_La_law_389 ?_
                refine lv_aload_n (pc := 390) hx hb d_La_law_390 rfl (lv_at hl 1 rfl) ?_
                refine lv_iload (pc := 391) hx hb d_La_law_391 (lv_at hl 5 rfl) ?_
                refine lv_iconst (pc := 393) (v := 4) hx hb d_La_law_393 (by decide) ?_
                refine lv_iadd (pc := 394) hx hb d_La_law_394 ?_
                obtain ⟨hc, hw⟩ := hw
                refine va_sld (pc := 395) hx hb hX hXl hXA hS hc d_La_law_395 ?_
                refine lv_if_eq (pc := 396) (tgt := 403) hx hb d_La_law_396 (by decide) (fun hc => ?_) (fun hc => ?_)
                · have hw := hw.1 hc
                  refine lv_iconst (pc := 403) (v := 0) hx hb d_La_law_403 (by decide) ?_
                  refine z_calli (pc := 404) (va_runV (C := R_Mo) (b := b + 99) (As := [.int (xs (v4 + (1 : Int32)).toNatClampNeg), .int (xs (v4 + (2 : Int32)).toNatClampNeg), .int (xs (v4 + (3 : Int32)).toNatClampNeg), .int (0 : Int32)]) (rest := []) ⟨hx, hb, hml, hown, hts⟩ (c_Mo_add l G b (xs (v4 + (1 : Int32)).toNatClampNeg) (xs (v4 + (2 : Int32)).toNatClampNeg) (xs (v4 + (3 : Int32)).toNatClampNeg) (0 : Int32) M29 N hw) (cwV 4 hts (z_goodL (zgV wd825 wd826 wd827 wd7 wd828)) rfl rfl rfl ⟨rfl, hd_Mo_add⟩ ⟨Nat.le_of_ble_eq_true rfl, Nat.le_of_ble_eq_true rfl⟩) (z_preV zo_Mo rfl rfl hZ hK hT hS) rfl rfl hl.1 rfl (lv_room (Nat.le_of_ble_eq_true rfl)) d_La_law_404 ⟨by show 120 + 8 * j + 4 + 0 ≤ 601024; omega, by show zS0 + 48 * j + 24 + 0 ≤ 7293034; unfold zS0; omega⟩) hS (fun r31 M32 N33 H locs hw hZ hS => ?_)
                  refine lv_istore (pc := 407) (lv' := [(6, .int r31), (5, .int r28), (0, .ref sb), (1, .ref (b + 0)), (2, .ref (b + 99)), (3, .ref (b + 119)), (4, .int v4)]) hx hb d_La_law_407 hl (by decide) rfl (fun ls hl => ?_)
                  refine lv_aload_n (pc := 409) hx hb d_La_law_409 rfl (lv_at hl 4 rfl) ?_
                  refine z_calli (pc := 410) (va_runV (C := R_Mo) (b := b + 99) (As := []) (rest := []) ⟨hx, hb, hml, hown, hts⟩ (c_Mo_thrown l G b  M32 N33 hw) (cwV 0 hts (z_goodL (zgV wd797 wd798 wd799 wd7 wd800)) rfl rfl rfl ⟨rfl, hd_Mo_thrown⟩ ⟨Nat.le_of_ble_eq_true rfl, Nat.le_of_ble_eq_true rfl⟩) (z_preV zo_Mo rfl rfl hZ hK hT hS) rfl rfl hl.1 rfl (lv_room (Nat.le_of_ble_eq_true rfl)) d_La_law_410 ⟨by show 120 + 8 * j + 4 + 0 ≤ 601024; omega, by show zS0 + 48 * j + 24 + 0 ≤ 7293034; unfold zS0; omega⟩) hS (fun r34 M35 N36 H locs hw hZ hS => ?_)
                  obtain ⟨hw, eM35, eN36⟩ := hw
                  rw [eM35, eN36] at hZ
                  refine lv_iload (pc := 413) hx hb d_La_law_413 (lv_at hl 1 rfl) ?_
                  refine lv_icmp_eq (pc := 415) (tgt := 420) hx hb d_La_law_415 (by decide) (fun hc => ?_) (fun hc => ?_)
                  · have hw := hw.1 hc
                    refine lv_iload (pc := 420) hx hb d_La_law_420 (lv_at hl 1 rfl) ?_
                    refine lv_if_ne (pc := 422) (tgt := 437) hx hb d_La_law_422 (by decide) (fun hc => ?_) (fun hc => ?_)
                    · have hw := hw.1 hc
                      refine lv_goto (pc := 437) (tgt := 1418) hx hb d_La_law_437 (by decide) ?_
                      refine lv_iinc (pc := 1418) (k := 6) (v := v4 + (5 : Int32)) (lv' := [(4, .int (v4 + (5 : Int32))), (6, .int r31), (5, .int r28), (0, .ref sb), (1, .ref (b + 0)), (2, .ref (b + 99)), (3, .ref (b + 119))]) hx hb d_La_law_1418 hl rfl (by rfl) (by decide) rfl (fun ls hl => ?_)
                      refine lv_goto (pc := 1421) (tgt := 23) hx hb d_La_law_1421 (by decide) ?_
                      refine W.widen (k := 120 + 8 * (j + 1)) (n := zS0 + 48 * (j + 1)) (by omega) (by omega) ?_
                      exact ih23 (v4 + (5 : Int32)) M32 N33 (j + 1) _ _ _ (z_next hj) (z_room hj hc23 (by omega) hjL) hZ hS (lv_sub hl [3, 4, 5, 6, 0] rfl) hw
                    · have hw := hw.2 hc
                      refine lv_aload_n (pc := 425) hx hb d_La_law_425 rfl (lv_at hl 5 rfl) ?_
                      refine lv_iconst (pc := 426) (v := 0) hx hb d_La_law_426 (by decide) ?_
                      obtain ⟨hc, hw⟩ := hw
                      refine z_lald (pc := 427) hx hb hK hZ hc d_La_law_427 ?_
                      refine lv_iload (pc := 428) hx hb d_La_law_428 (lv_at hl 0 rfl) ?_
                      refine lv_i2l (pc := 430) (v := r31.toInt64) hx hb d_La_law_430 rfl ?_
                      refine z_lc_eq (pc := 431) (tgt := 437) hx hb d_La_law_431 d_La_law_432 (by decide) (fun hc => ?_) (fun hc => ?_)
                      · have hw := hw.1 hc
                        refine lv_goto (pc := 437) (tgt := 1418) hx hb d_La_law_437 (by decide) ?_
                        refine lv_iinc (pc := 1418) (k := 6) (v := v4 + (5 : Int32)) (lv' := [(4, .int (v4 + (5 : Int32))), (6, .int r31), (5, .int r28), (0, .ref sb), (1, .ref (b + 0)), (2, .ref (b + 99)), (3, .ref (b + 119))]) hx hb d_La_law_1418 hl rfl (by rfl) (by decide) rfl (fun ls hl => ?_)
                        refine lv_goto (pc := 1421) (tgt := 23) hx hb d_La_law_1421 (by decide) ?_
                        refine W.widen (k := 120 + 8 * (j + 1)) (n := zS0 + 48 * (j + 1)) (by omega) (by omega) ?_
                        exact ih23 (v4 + (5 : Int32)) M32 N33 (j + 1) _ _ _ (z_next hj) (z_room hj hc23 (by omega) hjL) hZ hS (lv_sub hl [3, 4, 5, 6, 0] rfl) hw
                      · have hw := hw.2 hc
                        refine lv_iconst (pc := 435) (v := 0) hx hb d_La_law_435 (by decide) ?_
                        exact False.elim hw
                  · have hw := hw.2 hc
                    refine lv_iconst (pc := 418) (v := 0) hx hb d_La_law_418 (by decide) ?_
                    exact False.elim hw
                · have hw := hw.2 hc
                  refine lv_iconst (pc := 399) (v := 1) hx hb d_La_law_399 (by decide) ?_
                  refine lv_goto (pc := 400) (tgt := 404) hx hb d_La_law_400 (by decide) ?_
                  refine z_calli (pc := 404) (va_runV (C := R_Mo) (b := b + 99) (As := [.int (xs (v4 + (1 : Int32)).toNatClampNeg), .int (xs (v4 + (2 : Int32)).toNatClampNeg), .int (xs (v4 + (3 : Int32)).toNatClampNeg), .int (1 : Int32)]) (rest := []) ⟨hx, hb, hml, hown, hts⟩ (c_Mo_add l G b (xs (v4 + (1 : Int32)).toNatClampNeg) (xs (v4 + (2 : Int32)).toNatClampNeg) (xs (v4 + (3 : Int32)).toNatClampNeg) (1 : Int32) M29 N hw) (cwV 4 hts (z_goodL (zgV wd825 wd826 wd827 wd7 wd828)) rfl rfl rfl ⟨rfl, hd_Mo_add⟩ ⟨Nat.le_of_ble_eq_true rfl, Nat.le_of_ble_eq_true rfl⟩) (z_preV zo_Mo rfl rfl hZ hK hT hS) rfl rfl hl.1 rfl (lv_room (Nat.le_of_ble_eq_true rfl)) d_La_law_404 ⟨by show 120 + 8 * j + 4 + 0 ≤ 601024; omega, by show zS0 + 48 * j + 24 + 0 ≤ 7293034; unfold zS0; omega⟩) hS (fun r37 M38 N39 H locs hw hZ hS => ?_)
                  refine lv_istore (pc := 407) (lv' := [(6, .int r37), (5, .int r28), (0, .ref sb), (1, .ref (b + 0)), (2, .ref (b + 99)), (3, .ref (b + 119)), (4, .int v4)]) hx hb d_La_law_407 hl (by decide) rfl (fun ls hl => ?_)
                  refine lv_aload_n (pc := 409) hx hb d_La_law_409 rfl (lv_at hl 4 rfl) ?_
                  refine z_calli (pc := 410) (va_runV (C := R_Mo) (b := b + 99) (As := []) (rest := []) ⟨hx, hb, hml, hown, hts⟩ (c_Mo_thrown l G b  M38 N39 hw) (cwV 0 hts (z_goodL (zgV wd797 wd798 wd799 wd7 wd800)) rfl rfl rfl ⟨rfl, hd_Mo_thrown⟩ ⟨Nat.le_of_ble_eq_true rfl, Nat.le_of_ble_eq_true rfl⟩) (z_preV zo_Mo rfl rfl hZ hK hT hS) rfl rfl hl.1 rfl (lv_room (Nat.le_of_ble_eq_true rfl)) d_La_law_410 ⟨by show 120 + 8 * j + 4 + 0 ≤ 601024; omega, by show zS0 + 48 * j + 24 + 0 ≤ 7293034; unfold zS0; omega⟩) hS (fun r40 M41 N42 H locs hw hZ hS => ?_)
                  obtain ⟨hw, eM41, eN42⟩ := hw
                  rw [eM41, eN42] at hZ
                  refine lv_iload (pc := 413) hx hb d_La_law_413 (lv_at hl 1 rfl) ?_
                  refine lv_icmp_eq (pc := 415) (tgt := 420) hx hb d_La_law_415 (by decide) (fun hc => ?_) (fun hc => ?_)
                  · have hw := hw.1 hc
                    refine lv_iload (pc := 420) hx hb d_La_law_420 (lv_at hl 1 rfl) ?_
                    refine lv_if_ne (pc := 422) (tgt := 437) hx hb d_La_law_422 (by decide) (fun hc => ?_) (fun hc => ?_)
                    · have hw := hw.1 hc
                      refine lv_goto (pc := 437) (tgt := 1418) hx hb d_La_law_437 (by decide) ?_
                      refine lv_iinc (pc := 1418) (k := 6) (v := v4 + (5 : Int32)) (lv' := [(4, .int (v4 + (5 : Int32))), (6, .int r37), (5, .int r28), (0, .ref sb), (1, .ref (b + 0)), (2, .ref (b + 99)), (3, .ref (b + 119))]) hx hb d_La_law_1418 hl rfl (by rfl) (by decide) rfl (fun ls hl => ?_)
                      refine lv_goto (pc := 1421) (tgt := 23) hx hb d_La_law_1421 (by decide) ?_
                      refine W.widen (k := 120 + 8 * (j + 1)) (n := zS0 + 48 * (j + 1)) (by omega) (by omega) ?_
                      exact ih23 (v4 + (5 : Int32)) M38 N39 (j + 1) _ _ _ (z_next hj) (z_room hj hc23 (by omega) hjL) hZ hS (lv_sub hl [3, 4, 5, 6, 0] rfl) hw
                    · have hw := hw.2 hc
                      refine lv_aload_n (pc := 425) hx hb d_La_law_425 rfl (lv_at hl 5 rfl) ?_
                      refine lv_iconst (pc := 426) (v := 0) hx hb d_La_law_426 (by decide) ?_
                      obtain ⟨hc, hw⟩ := hw
                      refine z_lald (pc := 427) hx hb hK hZ hc d_La_law_427 ?_
                      refine lv_iload (pc := 428) hx hb d_La_law_428 (lv_at hl 0 rfl) ?_
                      refine lv_i2l (pc := 430) (v := r37.toInt64) hx hb d_La_law_430 rfl ?_
                      refine z_lc_eq (pc := 431) (tgt := 437) hx hb d_La_law_431 d_La_law_432 (by decide) (fun hc => ?_) (fun hc => ?_)
                      · have hw := hw.1 hc
                        refine lv_goto (pc := 437) (tgt := 1418) hx hb d_La_law_437 (by decide) ?_
                        refine lv_iinc (pc := 1418) (k := 6) (v := v4 + (5 : Int32)) (lv' := [(4, .int (v4 + (5 : Int32))), (6, .int r37), (5, .int r28), (0, .ref sb), (1, .ref (b + 0)), (2, .ref (b + 99)), (3, .ref (b + 119))]) hx hb d_La_law_1418 hl rfl (by rfl) (by decide) rfl (fun ls hl => ?_)
                        refine lv_goto (pc := 1421) (tgt := 23) hx hb d_La_law_1421 (by decide) ?_
                        refine W.widen (k := 120 + 8 * (j + 1)) (n := zS0 + 48 * (j + 1)) (by omega) (by omega) ?_
                        exact ih23 (v4 + (5 : Int32)) M38 N39 (j + 1) _ _ _ (z_next hj) (z_room hj hc23 (by omega) hjL) hZ hS (lv_sub hl [3, 4, 5, 6, 0] rfl) hw
                      · have hw := hw.2 hc
                        refine lv_iconst (pc := 435) (v := 0) hx hb d_La_law_435 (by decide) ?_
                        exact False.elim hw
                  · have hw := hw.2 hc
                    refine lv_iconst (pc := 418) (v := 0) hx hb d_La_law_418 (by decide) ?_
                    exact False.elim hw
              · have hw := hw.2 hc
                refine lv_iconst (pc := 360) (v := 1) hx hb d_La_law_360 (by decide) ?_
                refine lv_goto (pc := 361) (tgt := 365) hx hb d_La_law_361 (by decide) ?_
                refine lv_aload_n (pc := 365) hx hb d_La_law_365 rfl (lv_at hl 3 rfl) ?_
                refine z_calli (pc := 366) (vx_runSW (As := [.ref (b + 0), .int (xs (v4 + (1 : Int32)).toNatClampNeg), .int (xs (v4 + (2 : Int32)).toNatClampNeg), .int (xs (v4 + (3 : Int32)).toNatClampNeg), .int (1 : Int32), .ref (b + 119)]) (rest := []) ⟨hx, hb, hml, hown, hts⟩ (c_La_add l hst G b (xs (v4 + (1 : Int32)).toNatClampNeg) (xs (v4 + (2 : Int32)).toNatClampNeg) (xs (v4 + (3 : Int32)).toNatClampNeg) (1 : Int32) M N hw) (vx_cwSW 6 hts (z_goodL (zgS wd328 wd329 wd0 wd330)) rfl rfl rfl hd_La_add ⟨Nat.le_of_ble_eq_true rfl, Nat.le_of_ble_eq_true rfl⟩) (z_preS hZ hK hT hS) rfl rfl hl.1 rfl (lv_room (Nat.le_of_ble_eq_true rfl)) d_La_law_366 ⟨by show 120 + 8 * j + 0 + 4 ≤ 601024; omega, by show zS0 + 48 * j + 0 + 24 ≤ 7293034; unfold zS0; omega⟩) hS (fun r43 M44 N45 H locs hw hZ hS => ?_)
                obtain ⟨hw, eN45⟩ := hw
                rw [eN45] at hZ
                refine lv_istore (pc := 369) (lv' := [(5, .int r43), (0, .ref sb), (1, .ref (b + 0)), (2, .ref (b + 99)), (3, .ref (b + 119)), (4, .int v4)]) hx hb d_La_law_369 hl (by decide) rfl (fun ls hl => ?_)
                refine lv_aload_n (pc := 371) hx hb d_La_law_371 rfl (lv_at hl 3 rfl) ?_
                refine lv_aload_n (pc := 372) hx hb d_La_law_372 rfl (lv_at hl 1 rfl) ?_
                refine lv_iload (pc := 373) hx hb d_La_law_373 (lv_at hl 5 rfl) ?_
                refine lv_iconst (pc := 375) (v := 1) hx hb d_La_law_375 (by decide) ?_
                refine lv_iadd (pc := 376) hx hb d_La_law_376 ?_
                obtain ⟨hc, hw⟩ := hw
                refine va_sld (pc := 377) hx hb hX hXl hXA hS hc d_La_law_377 ?_
                refine lv_aload_n (pc := 378) hx hb d_La_law_378 rfl (lv_at hl 1 rfl) ?_
                refine lv_iload (pc := 379) hx hb d_La_law_379 (lv_at hl 5 rfl) ?_
                refine lv_iconst (pc := 381) (v := 2) hx hb d_La_law_381 (by decide) ?_
                refine lv_iadd (pc := 382) hx hb d_La_law_382 ?_
                obtain ⟨hc, hw⟩ := hw
                refine va_sld (pc := 383) hx hb hX hXl hXA hS hc d_La_law_383 ?_
                refine lv_aload_n (pc := 384) hx hb d_La_law_384 rfl (lv_at hl 1 rfl) ?_
                refine lv_iload (pc := 385) hx hb d_La_law_385 (lv_at hl 5 rfl) ?_
                refine lv_iconst (pc := 387) (v := 3) hx hb d_La_law_387 (by decide) ?_
                refine lv_iadd (pc := 388) hx hb d_La_law_388 ?_
                obtain ⟨hc, hw⟩ := hw
                refine va_sld (pc := 389) hx hb hX hXl hXA hS hc d_La_law_389 ?_
                refine lv_aload_n (pc := 390) hx hb d_La_law_390 rfl (lv_at hl 1 rfl) ?_
                refine lv_iload (pc := 391) hx hb d_La_law_391 (lv_at hl 5 rfl) ?_
                refine lv_iconst (pc := 393) (v := 4) hx hb d_La_law_393 (by decide) ?_
                refine lv_iadd (pc := 394) hx hb d_La_law_394 ?_
                obtain ⟨hc, hw⟩ := hw
                refine va_sld (pc := 395) hx hb hX hXl hXA hS hc d_La_law_395 ?_
                refine lv_if_eq (pc := 396) (tgt := 403) hx hb d_La_law_396 (by decide) (fun hc => ?_) (fun hc => ?_)
                · have hw := hw.1 hc
                  refine lv_iconst (pc := 403) (v := 0) hx hb d_La_law_403 (by decide) ?_
                  refine z_calli (pc := 404) (va_runV (C := R_Mo) (b := b + 99) (As := [.int (xs (v4 + (1 : Int32)).toNatClampNeg), .int (xs (v4 + (2 : Int32)).toNatClampNeg), .int (xs (v4 + (3 : Int32)).toNatClampNeg), .int (0 : Int32)]) (rest := []) ⟨hx, hb, hml, hown, hts⟩ (c_Mo_add l G b (xs (v4 + (1 : Int32)).toNatClampNeg) (xs (v4 + (2 : Int32)).toNatClampNeg) (xs (v4 + (3 : Int32)).toNatClampNeg) (0 : Int32) M44 N hw) (cwV 4 hts (z_goodL (zgV wd825 wd826 wd827 wd7 wd828)) rfl rfl rfl ⟨rfl, hd_Mo_add⟩ ⟨Nat.le_of_ble_eq_true rfl, Nat.le_of_ble_eq_true rfl⟩) (z_preV zo_Mo rfl rfl hZ hK hT hS) rfl rfl hl.1 rfl (lv_room (Nat.le_of_ble_eq_true rfl)) d_La_law_404 ⟨by show 120 + 8 * j + 4 + 0 ≤ 601024; omega, by show zS0 + 48 * j + 24 + 0 ≤ 7293034; unfold zS0; omega⟩) hS (fun r46 M47 N48 H locs hw hZ hS => ?_)
                  refine lv_istore (pc := 407) (lv' := [(6, .int r46), (5, .int r43), (0, .ref sb), (1, .ref (b + 0)), (2, .ref (b + 99)), (3, .ref (b + 119)), (4, .int v4)]) hx hb d_La_law_407 hl (by decide) rfl (fun ls hl => ?_)
                  refine lv_aload_n (pc := 409) hx hb d_La_law_409 rfl (lv_at hl 4 rfl) ?_
                  refine z_calli (pc := 410) (va_runV (C := R_Mo) (b := b + 99) (As := []) (rest := []) ⟨hx, hb, hml, hown, hts⟩ (c_Mo_thrown l G b  M47 N48 hw) (cwV 0 hts (z_goodL (zgV wd797 wd798 wd799 wd7 wd800)) rfl rfl rfl ⟨rfl, hd_Mo_thrown⟩ ⟨Nat.le_of_ble_eq_true rfl, Nat.le_of_ble_eq_true rfl⟩) (z_preV zo_Mo rfl rfl hZ hK hT hS) rfl rfl hl.1 rfl (lv_room (Nat.le_of_ble_eq_true rfl)) d_La_law_410 ⟨by show 120 + 8 * j + 4 + 0 ≤ 601024; omega, by show zS0 + 48 * j + 24 + 0 ≤ 7293034; unfold zS0; omega⟩) hS (fun r49 M50 N51 H locs hw hZ hS => ?_)
                  obtain ⟨hw, eM50, eN51⟩ := hw
                  rw [eM50, eN51] at hZ
                  refine lv_iload (pc := 413) hx hb d_La_law_413 (lv_at hl 1 rfl) ?_
                  refine lv_icmp_eq (pc := 415) (tgt := 420) hx hb d_La_law_415 (by decide) (fun hc => ?_) (fun hc => ?_)
                  · have hw := hw.1 hc
                    refine lv_iload (pc := 420) hx hb d_La_law_420 (lv_at hl 1 rfl) ?_
                    refine lv_if_ne (pc := 422) (tgt := 437) hx hb d_La_law_422 (by decide) (fun hc => ?_) (fun hc => ?_)
                    · have hw := hw.1 hc
                      refine lv_goto (pc := 437) (tgt := 1418) hx hb d_La_law_437 (by decide) ?_
                      refine lv_iinc (pc := 1418) (k := 6) (v := v4 + (5 : Int32)) (lv' := [(4, .int (v4 + (5 : Int32))), (6, .int r46), (5, .int r43), (0, .ref sb), (1, .ref (b + 0)), (2, .ref (b + 99)), (3, .ref (b + 119))]) hx hb d_La_law_1418 hl rfl (by rfl) (by decide) rfl (fun ls hl => ?_)
                      refine lv_goto (pc := 1421) (tgt := 23) hx hb d_La_law_1421 (by decide) ?_
                      refine W.widen (k := 120 + 8 * (j + 1)) (n := zS0 + 48 * (j + 1)) (by omega) (by omega) ?_
                      exact ih23 (v4 + (5 : Int32)) M47 N48 (j + 1) _ _ _ (z_next hj) (z_room hj hc23 (by omega) hjL) hZ hS (lv_sub hl [3, 4, 5, 6, 0] rfl) hw
                    · have hw := hw.2 hc
                      refine lv_aload_n (pc := 425) hx hb d_La_law_425 rfl (lv_at hl 5 rfl) ?_
                      refine lv_iconst (pc := 426) (v := 0) hx hb d_La_law_426 (by decide) ?_
                      obtain ⟨hc, hw⟩ := hw
                      refine z_lald (pc := 427) hx hb hK hZ hc d_La_law_427 ?_
                      refine lv_iload (pc := 428) hx hb d_La_law_428 (lv_at hl 0 rfl) ?_
                      refine lv_i2l (pc := 430) (v := r46.toInt64) hx hb d_La_law_430 rfl ?_
                      refine z_lc_eq (pc := 431) (tgt := 437) hx hb d_La_law_431 d_La_law_432 (by decide) (fun hc => ?_) (fun hc => ?_)
                      · have hw := hw.1 hc
                        refine lv_goto (pc := 437) (tgt := 1418) hx hb d_La_law_437 (by decide) ?_
                        refine lv_iinc (pc := 1418) (k := 6) (v := v4 + (5 : Int32)) (lv' := [(4, .int (v4 + (5 : Int32))), (6, .int r46), (5, .int r43), (0, .ref sb), (1, .ref (b + 0)), (2, .ref (b + 99)), (3, .ref (b + 119))]) hx hb d_La_law_1418 hl rfl (by rfl) (by decide) rfl (fun ls hl => ?_)
                        refine lv_goto (pc := 1421) (tgt := 23) hx hb d_La_law_1421 (by decide) ?_
                        refine W.widen (k := 120 + 8 * (j + 1)) (n := zS0 + 48 * (j + 1)) (by omega) (by omega) ?_
                        exact ih23 (v4 + (5 : Int32)) M47 N48 (j + 1) _ _ _ (z_next hj) (z_room hj hc23 (by omega) hjL) hZ hS (lv_sub hl [3, 4, 5, 6, 0] rfl) hw
                      · have hw := hw.2 hc
                        refine lv_iconst (pc := 435) (v := 0) hx hb d_La_law_435 (by decide) ?_
                        exact False.elim hw
                  · have hw := hw.2 hc
                    refine lv_iconst (pc := 418) (v := 0) hx hb d_La_law_418 (by decide) ?_
                    exact False.elim hw
                · have hw := hw.2 hc
                  refine lv_iconst (pc := 399) (v := 1) hx hb d_La_law_399 (by decide) ?_
                  refine lv_goto (pc := 400) (tgt := 404) hx hb d_La_law_400 (by decide) ?_
                  refine z_calli (pc := 404) (va_runV (C := R_Mo) (b := b + 99) (As := [.int (xs (v4 + (1 : Int32)).toNatClampNeg), .int (xs (v4 + (2 : Int32)).toNatClampNeg), .int (xs (v4 + (3 : Int32)).toNatClampNeg), .int (1 : Int32)]) (rest := []) ⟨hx, hb, hml, hown, hts⟩ (c_Mo_add l G b (xs (v4 + (1 : Int32)).toNatClampNeg) (xs (v4 + (2 : Int32)).toNatClampNeg) (xs (v4 + (3 : Int32)).toNatClampNeg) (1 : Int32) M44 N hw) (cwV 4 hts (z_goodL (zgV wd825 wd826 wd827 wd7 wd828)) rfl rfl rfl ⟨rfl, hd_Mo_add⟩ ⟨Nat.le_of_ble_eq_true rfl, Nat.le_of_ble_eq_true rfl⟩) (z_preV zo_Mo rfl rfl hZ hK hT hS) rfl rfl hl.1 rfl (lv_room (Nat.le_of_ble_eq_true rfl)) d_La_law_404 ⟨by show 120 + 8 * j + 4 + 0 ≤ 601024; omega, by show zS0 + 48 * j + 24 + 0 ≤ 7293034; unfold zS0; omega⟩) hS (fun r52 M53 N54 H locs hw hZ hS => ?_)
                  refine lv_istore (pc := 407) (lv' := [(6, .int r52), (5, .int r43), (0, .ref sb), (1, .ref (b + 0)), (2, .ref (b + 99)), (3, .ref (b + 119)), (4, .int v4)]) hx hb d_La_law_407 hl (by decide) rfl (fun ls hl => ?_)
                  refine lv_aload_n (pc := 409) hx hb d_La_law_409 rfl (lv_at hl 4 rfl) ?_
                  refine z_calli (pc := 410) (va_runV (C := R_Mo) (b := b + 99) (As := []) (rest := []) ⟨hx, hb, hml, hown, hts⟩ (c_Mo_thrown l G b  M53 N54 hw) (cwV 0 hts (z_goodL (zgV wd797 wd798 wd799 wd7 wd800)) rfl rfl rfl ⟨rfl, hd_Mo_thrown⟩ ⟨Nat.le_of_ble_eq_true rfl, Nat.le_of_ble_eq_true rfl⟩) (z_preV zo_Mo rfl rfl hZ hK hT hS) rfl rfl hl.1 rfl (lv_room (Nat.le_of_ble_eq_true rfl)) d_La_law_410 ⟨by show 120 + 8 * j + 4 + 0 ≤ 601024; omega, by show zS0 + 48 * j + 24 + 0 ≤ 7293034; unfold zS0; omega⟩) hS (fun r55 M56 N57 H locs hw hZ hS => ?_)
                  obtain ⟨hw, eM56, eN57⟩ := hw
                  rw [eM56, eN57] at hZ
                  refine lv_iload (pc := 413) hx hb d_La_law_413 (lv_at hl 1 rfl) ?_
                  refine lv_icmp_eq (pc := 415) (tgt := 420) hx hb d_La_law_415 (by decide) (fun hc => ?_) (fun hc => ?_)
                  · have hw := hw.1 hc
                    refine lv_iload (pc := 420) hx hb d_La_law_420 (lv_at hl 1 rfl) ?_
                    refine lv_if_ne (pc := 422) (tgt := 437) hx hb d_La_law_422 (by decide) (fun hc => ?_) (fun hc => ?_)
                    · have hw := hw.1 hc
                      refine lv_goto (pc := 437) (tgt := 1418) hx hb d_La_law_437 (by decide) ?_
                      refine lv_iinc (pc := 1418) (k := 6) (v := v4 + (5 : Int32)) (lv' := [(4, .int (v4 + (5 : Int32))), (6, .int r52), (5, .int r43), (0, .ref sb), (1, .ref (b + 0)), (2, .ref (b + 99)), (3, .ref (b + 119))]) hx hb d_La_law_1418 hl rfl (by rfl) (by decide) rfl (fun ls hl => ?_)
                      refine lv_goto (pc := 1421) (tgt := 23) hx hb d_La_law_1421 (by decide) ?_
                      refine W.widen (k := 120 + 8 * (j + 1)) (n := zS0 + 48 * (j + 1)) (by omega) (by omega) ?_
                      exact ih23 (v4 + (5 : Int32)) M53 N54 (j + 1) _ _ _ (z_next hj) (z_room hj hc23 (by omega) hjL) hZ hS (lv_sub hl [3, 4, 5, 6, 0] rfl) hw
                    · have hw := hw.2 hc
                      refine lv_aload_n (pc := 425) hx hb d_La_law_425 rfl (lv_at hl 5 rfl) ?_
                      refine lv_iconst (pc := 426) (v := 0) hx hb d_La_law_426 (by decide) ?_
                      obtain ⟨hc, hw⟩ := hw
                      refine z_lald (pc := 427) hx hb hK hZ hc d_La_law_427 ?_
                      refine lv_iload (pc := 428) hx hb d_La_law_428 (lv_at hl 0 rfl) ?_
                      refine lv_i2l (pc := 430) (v := r52.toInt64) hx hb d_La_law_430 rfl ?_
                      refine z_lc_eq (pc := 431) (tgt := 437) hx hb d_La_law_431 d_La_law_432 (by decide) (fun hc => ?_) (fun hc => ?_)
                      · have hw := hw.1 hc
                        refine lv_goto (pc := 437) (tgt := 1418) hx hb d_La_law_437 (by decide) ?_
                        refine lv_iinc (pc := 1418) (k := 6) (v := v4 + (5 : Int32)) (lv' := [(4, .int (v4 + (5 : Int32))), (6, .int r52), (5, .int r43), (0, .ref sb), (1, .ref (b + 0)), (2, .ref (b + 99)), (3, .ref (b + 119))]) hx hb d_La_law_1418 hl rfl (by rfl) (by decide) rfl (fun ls hl => ?_)
                        refine lv_goto (pc := 1421) (tgt := 23) hx hb d_La_law_1421 (by decide) ?_
                        refine W.widen (k := 120 + 8 * (j + 1)) (n := zS0 + 48 * (j + 1)) (by omega) (by omega) ?_
                        exact ih23 (v4 + (5 : Int32)) M53 N54 (j + 1) _ _ _ (z_next hj) (z_room hj hc23 (by omega) hjL) hZ hS (lv_sub hl [3, 4, 5, 6, 0] rfl) hw
                      · have hw := hw.2 hc
                        refine lv_iconst (pc := 435) (v := 0) hx hb d_La_law_435 (by decide) ?_
                        exact False.elim hw
                  · have hw := hw.2 hc
                    refine lv_iconst (pc := 418) (v := 0) hx hb d_La_law_418 (by decide) ?_
                    exact False.elim hw
            · by_cases h4 : ((xs v4.toNatClampNeg) &&& (31 : Int32)) = 4
              · rw [h4]
                refine lv_tableIn (pc := 39) (tgt := 440) hx hb d_La_law_39 (by decide) (by decide) rfl (by decide) ?_
                have hw := hw.2.2.2.2.1 h4
                refine lv_aload_n (pc := 440) hx hb d_La_law_440 rfl (lv_at hl 1 rfl) ?_
                refine lv_aload_n (pc := 441) hx hb d_La_law_441 rfl (lv_at hl 0 rfl) ?_
                refine lv_iload (pc := 442) hx hb d_La_law_442 (lv_at hl 4 rfl) ?_
                refine lv_iconst (pc := 444) (v := 1) hx hb d_La_law_444 (by decide) ?_
                refine lv_iadd (pc := 445) hx hb d_La_law_445 ?_
                obtain ⟨hc, hw⟩ := hw
                refine va_sld (pc := 446) hx hb hX hXl hXA hS hc d_La_law_446 ?_
                refine lv_aload_n (pc := 447) hx hb d_La_law_447 rfl (lv_at hl 0 rfl) ?_
                refine lv_iload (pc := 448) hx hb d_La_law_448 (lv_at hl 4 rfl) ?_
                refine lv_iconst (pc := 450) (v := 2) hx hb d_La_law_450 (by decide) ?_
                refine lv_iadd (pc := 451) hx hb d_La_law_451 ?_
                obtain ⟨hc, hw⟩ := hw
                refine va_sld (pc := 452) hx hb hX hXl hXA hS hc d_La_law_452 ?_
                refine lv_aload_n (pc := 453) hx hb d_La_law_453 rfl (lv_at hl 0 rfl) ?_
                refine lv_iload (pc := 454) hx hb d_La_law_454 (lv_at hl 4 rfl) ?_
                refine lv_iconst (pc := 456) (v := 3) hx hb d_La_law_456 (by decide) ?_
                refine lv_iadd (pc := 457) hx hb d_La_law_457 ?_
                obtain ⟨hc, hw⟩ := hw
                refine va_sld (pc := 458) hx hb hX hXl hXA hS hc d_La_law_458 ?_
                refine lv_aload_n (pc := 459) hx hb d_La_law_459 rfl (lv_at hl 3 rfl) ?_
                refine z_calli (pc := 460) (vx_runSW (As := [.ref (b + 0), .int (xs (v4 + (1 : Int32)).toNatClampNeg), .int (xs (v4 + (2 : Int32)).toNatClampNeg), .int (xs (v4 + (3 : Int32)).toNatClampNeg), .ref (b + 119)]) (rest := []) ⟨hx, hb, hml, hown, hts⟩ (c_La_multiply l hst G b (xs (v4 + (1 : Int32)).toNatClampNeg) (xs (v4 + (2 : Int32)).toNatClampNeg) (xs (v4 + (3 : Int32)).toNatClampNeg) M N hw) (vx_cwSW 5 hts (z_goodL (zgS wd368 wd369 wd0 wd370)) rfl rfl rfl hd_La_multiply ⟨Nat.le_of_ble_eq_true rfl, Nat.le_of_ble_eq_true rfl⟩) (z_preS hZ hK hT hS) rfl rfl hl.1 rfl (lv_room (Nat.le_of_ble_eq_true rfl)) d_La_law_460 ⟨by show 120 + 8 * j + 0 + 4 ≤ 601024; omega, by show zS0 + 48 * j + 0 + 24 ≤ 7293034; unfold zS0; omega⟩) hS (fun r58 M59 N60 H locs hw hZ hS => ?_)
                obtain ⟨hw, eN60⟩ := hw
                rw [eN60] at hZ
                refine lv_istore (pc := 463) (lv' := [(5, .int r58), (0, .ref sb), (1, .ref (b + 0)), (2, .ref (b + 99)), (3, .ref (b + 119)), (4, .int v4)]) hx hb d_La_law_463 hl (by decide) rfl (fun ls hl => ?_)
                refine lv_aload_n (pc := 465) hx hb d_La_law_465 rfl (lv_at hl 3 rfl) ?_
                refine lv_aload_n (pc := 466) hx hb d_La_law_466 rfl (lv_at hl 1 rfl) ?_
                refine lv_iload (pc := 467) hx hb d_La_law_467 (lv_at hl 5 rfl) ?_
                refine lv_iconst (pc := 469) (v := 1) hx hb d_La_law_469 (by decide) ?_
                refine lv_iadd (pc := 470) hx hb d_La_law_470 ?_
                obtain ⟨hc, hw⟩ := hw
                refine va_sld (pc := 471) hx hb hX hXl hXA hS hc d_La_law_471 ?_
                refine lv_aload_n (pc := 472) hx hb d_La_law_472 rfl (lv_at hl 1 rfl) ?_
                refine lv_iload (pc := 473) hx hb d_La_law_473 (lv_at hl 5 rfl) ?_
                refine lv_iconst (pc := 475) (v := 2) hx hb d_La_law_475 (by decide) ?_
                refine lv_iadd (pc := 476) hx hb d_La_law_476 ?_
                obtain ⟨hc, hw⟩ := hw
                refine va_sld (pc := 477) hx hb hX hXl hXA hS hc d_La_law_477 ?_
                refine lv_aload_n (pc := 478) hx hb d_La_law_478 rfl (lv_at hl 1 rfl) ?_
                refine lv_iload (pc := 479) hx hb d_La_law_479 (lv_at hl 5 rfl) ?_
                refine lv_iconst (pc := 481) (v := 3) hx hb d_La_law_481 (by decide) ?_
                refine lv_iadd (pc := 482) hx hb d_La_law_482 ?_
                obtain ⟨hc, hw⟩ := hw
                refine va_sld (pc := 483) hx hb hX hXl hXA hS hc d_La_law_483 ?_
                refine z_calli (pc := 484) (va_runV (C := R_Mo) (b := b + 99) (As := [.int (xs (v4 + (1 : Int32)).toNatClampNeg), .int (xs (v4 + (2 : Int32)).toNatClampNeg), .int (xs (v4 + (3 : Int32)).toNatClampNeg)]) (rest := []) ⟨hx, hb, hml, hown, hts⟩ (c_Mo_multiply l G b (xs (v4 + (1 : Int32)).toNatClampNeg) (xs (v4 + (2 : Int32)).toNatClampNeg) (xs (v4 + (3 : Int32)).toNatClampNeg) M59 N hw) (cwV 3 hts (z_goodL (zgV wd842 wd843 wd844 wd7 wd845)) rfl rfl rfl ⟨rfl, hd_Mo_multiply⟩ ⟨Nat.le_of_ble_eq_true rfl, Nat.le_of_ble_eq_true rfl⟩) (z_preV zo_Mo rfl rfl hZ hK hT hS) rfl rfl hl.1 rfl (lv_room (Nat.le_of_ble_eq_true rfl)) d_La_law_484 ⟨by show 120 + 8 * j + 4 + 0 ≤ 601024; omega, by show zS0 + 48 * j + 24 + 0 ≤ 7293034; unfold zS0; omega⟩) hS (fun r61 M62 N63 H locs hw hZ hS => ?_)
                refine lv_istore (pc := 487) (lv' := [(6, .int r61), (5, .int r58), (0, .ref sb), (1, .ref (b + 0)), (2, .ref (b + 99)), (3, .ref (b + 119)), (4, .int v4)]) hx hb d_La_law_487 hl (by decide) rfl (fun ls hl => ?_)
                refine lv_aload_n (pc := 489) hx hb d_La_law_489 rfl (lv_at hl 4 rfl) ?_
                refine z_calli (pc := 490) (va_runV (C := R_Mo) (b := b + 99) (As := []) (rest := []) ⟨hx, hb, hml, hown, hts⟩ (c_Mo_thrown l G b  M62 N63 hw) (cwV 0 hts (z_goodL (zgV wd797 wd798 wd799 wd7 wd800)) rfl rfl rfl ⟨rfl, hd_Mo_thrown⟩ ⟨Nat.le_of_ble_eq_true rfl, Nat.le_of_ble_eq_true rfl⟩) (z_preV zo_Mo rfl rfl hZ hK hT hS) rfl rfl hl.1 rfl (lv_room (Nat.le_of_ble_eq_true rfl)) d_La_law_490 ⟨by show 120 + 8 * j + 4 + 0 ≤ 601024; omega, by show zS0 + 48 * j + 24 + 0 ≤ 7293034; unfold zS0; omega⟩) hS (fun r64 M65 N66 H locs hw hZ hS => ?_)
                obtain ⟨hw, eM65, eN66⟩ := hw
                rw [eM65, eN66] at hZ
                refine lv_iload (pc := 493) hx hb d_La_law_493 (lv_at hl 1 rfl) ?_
                refine lv_icmp_eq (pc := 495) (tgt := 500) hx hb d_La_law_495 (by decide) (fun hc => ?_) (fun hc => ?_)
                · have hw := hw.1 hc
                  refine lv_iload (pc := 500) hx hb d_La_law_500 (lv_at hl 1 rfl) ?_
                  refine lv_if_ne (pc := 502) (tgt := 517) hx hb d_La_law_502 (by decide) (fun hc => ?_) (fun hc => ?_)
                  · have hw := hw.1 hc
                    refine lv_goto (pc := 517) (tgt := 1418) hx hb d_La_law_517 (by decide) ?_
                    refine lv_iinc (pc := 1418) (k := 6) (v := v4 + (5 : Int32)) (lv' := [(4, .int (v4 + (5 : Int32))), (6, .int r61), (5, .int r58), (0, .ref sb), (1, .ref (b + 0)), (2, .ref (b + 99)), (3, .ref (b + 119))]) hx hb d_La_law_1418 hl rfl (by rfl) (by decide) rfl (fun ls hl => ?_)
                    refine lv_goto (pc := 1421) (tgt := 23) hx hb d_La_law_1421 (by decide) ?_
                    refine W.widen (k := 120 + 8 * (j + 1)) (n := zS0 + 48 * (j + 1)) (by omega) (by omega) ?_
                    exact ih23 (v4 + (5 : Int32)) M62 N63 (j + 1) _ _ _ (z_next hj) (z_room hj hc23 (by omega) hjL) hZ hS (lv_sub hl [3, 4, 5, 6, 0] rfl) hw
                  · have hw := hw.2 hc
                    refine lv_aload_n (pc := 505) hx hb d_La_law_505 rfl (lv_at hl 5 rfl) ?_
                    refine lv_iconst (pc := 506) (v := 0) hx hb d_La_law_506 (by decide) ?_
                    obtain ⟨hc, hw⟩ := hw
                    refine z_lald (pc := 507) hx hb hK hZ hc d_La_law_507 ?_
                    refine lv_iload (pc := 508) hx hb d_La_law_508 (lv_at hl 0 rfl) ?_
                    refine lv_i2l (pc := 510) (v := r61.toInt64) hx hb d_La_law_510 rfl ?_
                    refine z_lc_eq (pc := 511) (tgt := 517) hx hb d_La_law_511 d_La_law_512 (by decide) (fun hc => ?_) (fun hc => ?_)
                    · have hw := hw.1 hc
                      refine lv_goto (pc := 517) (tgt := 1418) hx hb d_La_law_517 (by decide) ?_
                      refine lv_iinc (pc := 1418) (k := 6) (v := v4 + (5 : Int32)) (lv' := [(4, .int (v4 + (5 : Int32))), (6, .int r61), (5, .int r58), (0, .ref sb), (1, .ref (b + 0)), (2, .ref (b + 99)), (3, .ref (b + 119))]) hx hb d_La_law_1418 hl rfl (by rfl) (by decide) rfl (fun ls hl => ?_)
                      refine lv_goto (pc := 1421) (tgt := 23) hx hb d_La_law_1421 (by decide) ?_
                      refine W.widen (k := 120 + 8 * (j + 1)) (n := zS0 + 48 * (j + 1)) (by omega) (by omega) ?_
                      exact ih23 (v4 + (5 : Int32)) M62 N63 (j + 1) _ _ _ (z_next hj) (z_room hj hc23 (by omega) hjL) hZ hS (lv_sub hl [3, 4, 5, 6, 0] rfl) hw
                    · have hw := hw.2 hc
                      refine lv_iconst (pc := 515) (v := 0) hx hb d_La_law_515 (by decide) ?_
                      exact False.elim hw
                · have hw := hw.2 hc
                  refine lv_iconst (pc := 498) (v := 0) hx hb d_La_law_498 (by decide) ?_
                  exact False.elim hw
              · by_cases h5 : ((xs v4.toNatClampNeg) &&& (31 : Int32)) = 5
                · rw [h5]
                  refine lv_tableIn (pc := 39) (tgt := 520) hx hb d_La_law_39 (by decide) (by decide) rfl (by decide) ?_
                  have hw := hw.2.2.2.2.2.1 h5
                  refine lv_aload_n (pc := 520) hx hb d_La_law_520 rfl (lv_at hl 1 rfl) ?_
                  refine lv_aload_n (pc := 521) hx hb d_La_law_521 rfl (lv_at hl 0 rfl) ?_
                  refine lv_iload (pc := 522) hx hb d_La_law_522 (lv_at hl 4 rfl) ?_
                  refine lv_iconst (pc := 524) (v := 1) hx hb d_La_law_524 (by decide) ?_
                  refine lv_iadd (pc := 525) hx hb d_La_law_525 ?_
                  obtain ⟨hc, hw⟩ := hw
                  refine va_sld (pc := 526) hx hb hX hXl hXA hS hc d_La_law_526 ?_
                  refine lv_aload_n (pc := 527) hx hb d_La_law_527 rfl (lv_at hl 0 rfl) ?_
                  refine lv_iload (pc := 528) hx hb d_La_law_528 (lv_at hl 4 rfl) ?_
                  refine lv_iconst (pc := 530) (v := 2) hx hb d_La_law_530 (by decide) ?_
                  refine lv_iadd (pc := 531) hx hb d_La_law_531 ?_
                  obtain ⟨hc, hw⟩ := hw
                  refine va_sld (pc := 532) hx hb hX hXl hXA hS hc d_La_law_532 ?_
                  refine lv_aload_n (pc := 533) hx hb d_La_law_533 rfl (lv_at hl 3 rfl) ?_
                  refine z_calli (pc := 534) (vx_runSW (As := [.ref (b + 0), .int (xs (v4 + (1 : Int32)).toNatClampNeg), .int (xs (v4 + (2 : Int32)).toNatClampNeg), .ref (b + 119)]) (rest := []) ⟨hx, hb, hml, hown, hts⟩ (c_La_derive l hst G b (xs (v4 + (1 : Int32)).toNatClampNeg) (xs (v4 + (2 : Int32)).toNatClampNeg) M N hw) (vx_cwSW 4 hts (z_goodL (zgS wd375 wd376 wd0 wd377)) rfl rfl rfl hd_La_derive ⟨Nat.le_of_ble_eq_true rfl, Nat.le_of_ble_eq_true rfl⟩) (z_preS hZ hK hT hS) rfl rfl hl.1 rfl (lv_room (Nat.le_of_ble_eq_true rfl)) d_La_law_534 ⟨by show 120 + 8 * j + 0 + 3 ≤ 601024; omega, by show zS0 + 48 * j + 0 + 18 ≤ 7293034; unfold zS0; omega⟩) hS (fun r67 M68 N69 H locs hw hZ hS => ?_)
                  obtain ⟨hw, eN69⟩ := hw
                  rw [eN69] at hZ
                  refine lv_istore (pc := 537) (lv' := [(5, .int r67), (0, .ref sb), (1, .ref (b + 0)), (2, .ref (b + 99)), (3, .ref (b + 119)), (4, .int v4)]) hx hb d_La_law_537 hl (by decide) rfl (fun ls hl => ?_)
                  refine lv_aload_n (pc := 539) hx hb d_La_law_539 rfl (lv_at hl 3 rfl) ?_
                  refine lv_aload_n (pc := 540) hx hb d_La_law_540 rfl (lv_at hl 1 rfl) ?_
                  refine lv_iload (pc := 541) hx hb d_La_law_541 (lv_at hl 5 rfl) ?_
                  refine lv_iconst (pc := 543) (v := 1) hx hb d_La_law_543 (by decide) ?_
                  refine lv_iadd (pc := 544) hx hb d_La_law_544 ?_
                  obtain ⟨hc, hw⟩ := hw
                  refine va_sld (pc := 545) hx hb hX hXl hXA hS hc d_La_law_545 ?_
                  refine lv_aload_n (pc := 546) hx hb d_La_law_546 rfl (lv_at hl 1 rfl) ?_
                  refine lv_iload (pc := 547) hx hb d_La_law_547 (lv_at hl 5 rfl) ?_
                  refine lv_iconst (pc := 549) (v := 2) hx hb d_La_law_549 (by decide) ?_
                  refine lv_iadd (pc := 550) hx hb d_La_law_550 ?_
                  obtain ⟨hc, hw⟩ := hw
                  refine va_sld (pc := 551) hx hb hX hXl hXA hS hc d_La_law_551 ?_
                  refine z_calli (pc := 552) (va_runV (C := R_Mo) (b := b + 99) (As := [.int (xs (v4 + (1 : Int32)).toNatClampNeg), .int (xs (v4 + (2 : Int32)).toNatClampNeg)]) (rest := []) ⟨hx, hb, hml, hown, hts⟩ (c_Mo_derive l G b (xs (v4 + (1 : Int32)).toNatClampNeg) (xs (v4 + (2 : Int32)).toNatClampNeg) M68 N hw) (cwV 2 hts (z_goodL (zgV wd846 wd847 wd848 wd7 wd849)) rfl rfl rfl ⟨rfl, hd_Mo_derive⟩ ⟨Nat.le_of_ble_eq_true rfl, Nat.le_of_ble_eq_true rfl⟩) (z_preV zo_Mo rfl rfl hZ hK hT hS) rfl rfl hl.1 rfl (lv_room (Nat.le_of_ble_eq_true rfl)) d_La_law_552 ⟨by show 120 + 8 * j + 3 + 0 ≤ 601024; omega, by show zS0 + 48 * j + 18 + 0 ≤ 7293034; unfold zS0; omega⟩) hS (fun r70 M71 N72 H locs hw hZ hS => ?_)
                  refine lv_istore (pc := 555) (lv' := [(6, .int r70), (5, .int r67), (0, .ref sb), (1, .ref (b + 0)), (2, .ref (b + 99)), (3, .ref (b + 119)), (4, .int v4)]) hx hb d_La_law_555 hl (by decide) rfl (fun ls hl => ?_)
                  refine lv_aload_n (pc := 557) hx hb d_La_law_557 rfl (lv_at hl 4 rfl) ?_
                  refine z_calli (pc := 558) (va_runV (C := R_Mo) (b := b + 99) (As := []) (rest := []) ⟨hx, hb, hml, hown, hts⟩ (c_Mo_thrown l G b  M71 N72 hw) (cwV 0 hts (z_goodL (zgV wd797 wd798 wd799 wd7 wd800)) rfl rfl rfl ⟨rfl, hd_Mo_thrown⟩ ⟨Nat.le_of_ble_eq_true rfl, Nat.le_of_ble_eq_true rfl⟩) (z_preV zo_Mo rfl rfl hZ hK hT hS) rfl rfl hl.1 rfl (lv_room (Nat.le_of_ble_eq_true rfl)) d_La_law_558 ⟨by show 120 + 8 * j + 3 + 0 ≤ 601024; omega, by show zS0 + 48 * j + 18 + 0 ≤ 7293034; unfold zS0; omega⟩) hS (fun r73 M74 N75 H locs hw hZ hS => ?_)
                  obtain ⟨hw, eM74, eN75⟩ := hw
                  rw [eM74, eN75] at hZ
                  refine lv_iload (pc := 561) hx hb d_La_law_561 (lv_at hl 1 rfl) ?_
                  refine lv_icmp_eq (pc := 563) (tgt := 568) hx hb d_La_law_563 (by decide) (fun hc => ?_) (fun hc => ?_)
                  · have hw := hw.1 hc
                    refine lv_iload (pc := 568) hx hb d_La_law_568 (lv_at hl 1 rfl) ?_
                    refine lv_if_ne (pc := 570) (tgt := 585) hx hb d_La_law_570 (by decide) (fun hc => ?_) (fun hc => ?_)
                    · have hw := hw.1 hc
                      refine lv_goto (pc := 585) (tgt := 1418) hx hb d_La_law_585 (by decide) ?_
                      refine lv_iinc (pc := 1418) (k := 6) (v := v4 + (5 : Int32)) (lv' := [(4, .int (v4 + (5 : Int32))), (6, .int r70), (5, .int r67), (0, .ref sb), (1, .ref (b + 0)), (2, .ref (b + 99)), (3, .ref (b + 119))]) hx hb d_La_law_1418 hl rfl (by rfl) (by decide) rfl (fun ls hl => ?_)
                      refine lv_goto (pc := 1421) (tgt := 23) hx hb d_La_law_1421 (by decide) ?_
                      refine W.widen (k := 120 + 8 * (j + 1)) (n := zS0 + 48 * (j + 1)) (by omega) (by omega) ?_
                      exact ih23 (v4 + (5 : Int32)) M71 N72 (j + 1) _ _ _ (z_next hj) (z_room hj hc23 (by omega) hjL) hZ hS (lv_sub hl [3, 4, 5, 6, 0] rfl) hw
                    · have hw := hw.2 hc
                      refine lv_aload_n (pc := 573) hx hb d_La_law_573 rfl (lv_at hl 5 rfl) ?_
                      refine lv_iconst (pc := 574) (v := 0) hx hb d_La_law_574 (by decide) ?_
                      obtain ⟨hc, hw⟩ := hw
                      refine z_lald (pc := 575) hx hb hK hZ hc d_La_law_575 ?_
                      refine lv_iload (pc := 576) hx hb d_La_law_576 (lv_at hl 0 rfl) ?_
                      refine lv_i2l (pc := 578) (v := r70.toInt64) hx hb d_La_law_578 rfl ?_
                      refine z_lc_eq (pc := 579) (tgt := 585) hx hb d_La_law_579 d_La_law_580 (by decide) (fun hc => ?_) (fun hc => ?_)
                      · have hw := hw.1 hc
                        refine lv_goto (pc := 585) (tgt := 1418) hx hb d_La_law_585 (by decide) ?_
                        refine lv_iinc (pc := 1418) (k := 6) (v := v4 + (5 : Int32)) (lv' := [(4, .int (v4 + (5 : Int32))), (6, .int r70), (5, .int r67), (0, .ref sb), (1, .ref (b + 0)), (2, .ref (b + 99)), (3, .ref (b + 119))]) hx hb d_La_law_1418 hl rfl (by rfl) (by decide) rfl (fun ls hl => ?_)
                        refine lv_goto (pc := 1421) (tgt := 23) hx hb d_La_law_1421 (by decide) ?_
                        refine W.widen (k := 120 + 8 * (j + 1)) (n := zS0 + 48 * (j + 1)) (by omega) (by omega) ?_
                        exact ih23 (v4 + (5 : Int32)) M71 N72 (j + 1) _ _ _ (z_next hj) (z_room hj hc23 (by omega) hjL) hZ hS (lv_sub hl [3, 4, 5, 6, 0] rfl) hw
                      · have hw := hw.2 hc
                        refine lv_iconst (pc := 583) (v := 0) hx hb d_La_law_583 (by decide) ?_
                        exact False.elim hw
                  · have hw := hw.2 hc
                    refine lv_iconst (pc := 566) (v := 0) hx hb d_La_law_566 (by decide) ?_
                    exact False.elim hw
                · by_cases h6 : ((xs v4.toNatClampNeg) &&& (31 : Int32)) = 6
                  · rw [h6]
                    refine lv_tableIn (pc := 39) (tgt := 588) hx hb d_La_law_39 (by decide) (by decide) rfl (by decide) ?_
                    have hw := hw.2.2.2.2.2.2.1 h6
                    refine lv_aload_n (pc := 588) hx hb d_La_law_588 rfl (lv_at hl 1 rfl) ?_
                    refine lv_aload_n (pc := 589) hx hb d_La_law_589 rfl (lv_at hl 0 rfl) ?_
                    refine lv_iload (pc := 590) hx hb d_La_law_590 (lv_at hl 4 rfl) ?_
                    refine lv_iconst (pc := 592) (v := 1) hx hb d_La_law_592 (by decide) ?_
                    refine lv_iadd (pc := 593) hx hb d_La_law_593 ?_
                    obtain ⟨hc, hw⟩ := hw
                    refine va_sld (pc := 594) hx hb hX hXl hXA hS hc d_La_law_594 ?_
                    refine lv_aload_n (pc := 595) hx hb d_La_law_595 rfl (lv_at hl 0 rfl) ?_
                    refine lv_iload (pc := 596) hx hb d_La_law_596 (lv_at hl 4 rfl) ?_
                    refine lv_iconst (pc := 598) (v := 2) hx hb d_La_law_598 (by decide) ?_
                    refine lv_iadd (pc := 599) hx hb d_La_law_599 ?_
                    obtain ⟨hc, hw⟩ := hw
                    refine va_sld (pc := 600) hx hb hX hXl hXA hS hc d_La_law_600 ?_
                    refine lv_aload_n (pc := 601) hx hb d_La_law_601 rfl (lv_at hl 0 rfl) ?_
                    refine lv_iload (pc := 602) hx hb d_La_law_602 (lv_at hl 4 rfl) ?_
                    refine lv_iconst (pc := 604) (v := 3) hx hb d_La_law_604 (by decide) ?_
                    refine lv_iadd (pc := 605) hx hb d_La_law_605 ?_
                    obtain ⟨hc, hw⟩ := hw
                    refine va_sld (pc := 606) hx hb hX hXl hXA hS hc d_La_law_606 ?_
                    refine lv_aload_n (pc := 607) hx hb d_La_law_607 rfl (lv_at hl 3 rfl) ?_
                    refine z_calli (pc := 608) (vx_runSW (As := [.ref (b + 0), .int (xs (v4 + (1 : Int32)).toNatClampNeg), .int (xs (v4 + (2 : Int32)).toNatClampNeg), .int (xs (v4 + (3 : Int32)).toNatClampNeg), .ref (b + 119)]) (rest := []) ⟨hx, hb, hml, hown, hts⟩ (c_La_shift l hst G b (xs (v4 + (1 : Int32)).toNatClampNeg) (xs (v4 + (2 : Int32)).toNatClampNeg) (xs (v4 + (3 : Int32)).toNatClampNeg) M N hw) (vx_cwSW 5 hts (z_goodL (zgS wd385 wd386 wd0 wd387)) rfl rfl rfl hd_La_shift ⟨Nat.le_of_ble_eq_true rfl, Nat.le_of_ble_eq_true rfl⟩) (z_preS hZ hK hT hS) rfl rfl hl.1 rfl (lv_room (Nat.le_of_ble_eq_true rfl)) d_La_law_608 ⟨by show 120 + 8 * j + 0 + 4 ≤ 601024; omega, by show zS0 + 48 * j + 0 + 24 ≤ 7293034; unfold zS0; omega⟩) hS (fun r76 M77 N78 H locs hw hZ hS => ?_)
                    obtain ⟨hw, eN78⟩ := hw
                    rw [eN78] at hZ
                    refine lv_istore (pc := 611) (lv' := [(5, .int r76), (0, .ref sb), (1, .ref (b + 0)), (2, .ref (b + 99)), (3, .ref (b + 119)), (4, .int v4)]) hx hb d_La_law_611 hl (by decide) rfl (fun ls hl => ?_)
                    refine lv_aload_n (pc := 613) hx hb d_La_law_613 rfl (lv_at hl 3 rfl) ?_
                    refine lv_aload_n (pc := 614) hx hb d_La_law_614 rfl (lv_at hl 1 rfl) ?_
                    refine lv_iload (pc := 615) hx hb d_La_law_615 (lv_at hl 5 rfl) ?_
                    refine lv_iconst (pc := 617) (v := 1) hx hb d_La_law_617 (by decide) ?_
                    refine lv_iadd (pc := 618) hx hb d_La_law_618 ?_
                    obtain ⟨hc, hw⟩ := hw
                    refine va_sld (pc := 619) hx hb hX hXl hXA hS hc d_La_law_619 ?_
                    refine lv_aload_n (pc := 620) hx hb d_La_law_620 rfl (lv_at hl 1 rfl) ?_
                    refine lv_iload (pc := 621) hx hb d_La_law_621 (lv_at hl 5 rfl) ?_
                    refine lv_iconst (pc := 623) (v := 2) hx hb d_La_law_623 (by decide) ?_
                    refine lv_iadd (pc := 624) hx hb d_La_law_624 ?_
                    obtain ⟨hc, hw⟩ := hw
                    refine va_sld (pc := 625) hx hb hX hXl hXA hS hc d_La_law_625 ?_
                    refine lv_aload_n (pc := 626) hx hb d_La_law_626 rfl (lv_at hl 1 rfl) ?_
                    refine lv_iload (pc := 627) hx hb d_La_law_627 (lv_at hl 5 rfl) ?_
                    refine lv_iconst (pc := 629) (v := 3) hx hb d_La_law_629 (by decide) ?_
                    refine lv_iadd (pc := 630) hx hb d_La_law_630 ?_
                    obtain ⟨hc, hw⟩ := hw
                    refine va_sld (pc := 631) hx hb hX hXl hXA hS hc d_La_law_631 ?_
                    refine z_calli (pc := 632) (va_runV (C := R_Mo) (b := b + 99) (As := [.int (xs (v4 + (1 : Int32)).toNatClampNeg), .int (xs (v4 + (2 : Int32)).toNatClampNeg), .int (xs (v4 + (3 : Int32)).toNatClampNeg)]) (rest := []) ⟨hx, hb, hml, hown, hts⟩ (c_Mo_shift l G b (xs (v4 + (1 : Int32)).toNatClampNeg) (xs (v4 + (2 : Int32)).toNatClampNeg) (xs (v4 + (3 : Int32)).toNatClampNeg) M77 N hw) (cwV 3 hts (z_goodL (zgV wd853 wd854 wd855 wd7 wd856)) rfl rfl rfl ⟨rfl, hd_Mo_shift⟩ ⟨Nat.le_of_ble_eq_true rfl, Nat.le_of_ble_eq_true rfl⟩) (z_preV zo_Mo rfl rfl hZ hK hT hS) rfl rfl hl.1 rfl (lv_room (Nat.le_of_ble_eq_true rfl)) d_La_law_632 ⟨by show 120 + 8 * j + 4 + 0 ≤ 601024; omega, by show zS0 + 48 * j + 24 + 0 ≤ 7293034; unfold zS0; omega⟩) hS (fun r79 M80 N81 H locs hw hZ hS => ?_)
                    refine lv_istore (pc := 635) (lv' := [(6, .int r79), (5, .int r76), (0, .ref sb), (1, .ref (b + 0)), (2, .ref (b + 99)), (3, .ref (b + 119)), (4, .int v4)]) hx hb d_La_law_635 hl (by decide) rfl (fun ls hl => ?_)
                    refine lv_aload_n (pc := 637) hx hb d_La_law_637 rfl (lv_at hl 4 rfl) ?_
                    refine z_calli (pc := 638) (va_runV (C := R_Mo) (b := b + 99) (As := []) (rest := []) ⟨hx, hb, hml, hown, hts⟩ (c_Mo_thrown l G b  M80 N81 hw) (cwV 0 hts (z_goodL (zgV wd797 wd798 wd799 wd7 wd800)) rfl rfl rfl ⟨rfl, hd_Mo_thrown⟩ ⟨Nat.le_of_ble_eq_true rfl, Nat.le_of_ble_eq_true rfl⟩) (z_preV zo_Mo rfl rfl hZ hK hT hS) rfl rfl hl.1 rfl (lv_room (Nat.le_of_ble_eq_true rfl)) d_La_law_638 ⟨by show 120 + 8 * j + 4 + 0 ≤ 601024; omega, by show zS0 + 48 * j + 24 + 0 ≤ 7293034; unfold zS0; omega⟩) hS (fun r82 M83 N84 H locs hw hZ hS => ?_)
                    obtain ⟨hw, eM83, eN84⟩ := hw
                    rw [eM83, eN84] at hZ
                    refine lv_iload (pc := 641) hx hb d_La_law_641 (lv_at hl 1 rfl) ?_
                    refine lv_icmp_eq (pc := 643) (tgt := 648) hx hb d_La_law_643 (by decide) (fun hc => ?_) (fun hc => ?_)
                    · have hw := hw.1 hc
                      refine lv_iload (pc := 648) hx hb d_La_law_648 (lv_at hl 1 rfl) ?_
                      refine lv_if_ne (pc := 650) (tgt := 665) hx hb d_La_law_650 (by decide) (fun hc => ?_) (fun hc => ?_)
                      · have hw := hw.1 hc
                        refine lv_goto (pc := 665) (tgt := 1418) hx hb d_La_law_665 (by decide) ?_
                        refine lv_iinc (pc := 1418) (k := 6) (v := v4 + (5 : Int32)) (lv' := [(4, .int (v4 + (5 : Int32))), (6, .int r79), (5, .int r76), (0, .ref sb), (1, .ref (b + 0)), (2, .ref (b + 99)), (3, .ref (b + 119))]) hx hb d_La_law_1418 hl rfl (by rfl) (by decide) rfl (fun ls hl => ?_)
                        refine lv_goto (pc := 1421) (tgt := 23) hx hb d_La_law_1421 (by decide) ?_
                        refine W.widen (k := 120 + 8 * (j + 1)) (n := zS0 + 48 * (j + 1)) (by omega) (by omega) ?_
                        exact ih23 (v4 + (5 : Int32)) M80 N81 (j + 1) _ _ _ (z_next hj) (z_room hj hc23 (by omega) hjL) hZ hS (lv_sub hl [3, 4, 5, 6, 0] rfl) hw
                      · have hw := hw.2 hc
                        refine lv_aload_n (pc := 653) hx hb d_La_law_653 rfl (lv_at hl 5 rfl) ?_
                        refine lv_iconst (pc := 654) (v := 0) hx hb d_La_law_654 (by decide) ?_
                        obtain ⟨hc, hw⟩ := hw
                        refine z_lald (pc := 655) hx hb hK hZ hc d_La_law_655 ?_
                        refine lv_iload (pc := 656) hx hb d_La_law_656 (lv_at hl 0 rfl) ?_
                        refine lv_i2l (pc := 658) (v := r79.toInt64) hx hb d_La_law_658 rfl ?_
                        refine z_lc_eq (pc := 659) (tgt := 665) hx hb d_La_law_659 d_La_law_660 (by decide) (fun hc => ?_) (fun hc => ?_)
                        · have hw := hw.1 hc
                          refine lv_goto (pc := 665) (tgt := 1418) hx hb d_La_law_665 (by decide) ?_
                          refine lv_iinc (pc := 1418) (k := 6) (v := v4 + (5 : Int32)) (lv' := [(4, .int (v4 + (5 : Int32))), (6, .int r79), (5, .int r76), (0, .ref sb), (1, .ref (b + 0)), (2, .ref (b + 99)), (3, .ref (b + 119))]) hx hb d_La_law_1418 hl rfl (by rfl) (by decide) rfl (fun ls hl => ?_)
                          refine lv_goto (pc := 1421) (tgt := 23) hx hb d_La_law_1421 (by decide) ?_
                          refine W.widen (k := 120 + 8 * (j + 1)) (n := zS0 + 48 * (j + 1)) (by omega) (by omega) ?_
                          exact ih23 (v4 + (5 : Int32)) M80 N81 (j + 1) _ _ _ (z_next hj) (z_room hj hc23 (by omega) hjL) hZ hS (lv_sub hl [3, 4, 5, 6, 0] rfl) hw
                        · have hw := hw.2 hc
                          refine lv_iconst (pc := 663) (v := 0) hx hb d_La_law_663 (by decide) ?_
                          exact False.elim hw
                    · have hw := hw.2 hc
                      refine lv_iconst (pc := 646) (v := 0) hx hb d_La_law_646 (by decide) ?_
                      exact False.elim hw
                  · by_cases h7 : ((xs v4.toNatClampNeg) &&& (31 : Int32)) = 7
                    · rw [h7]
                      refine lv_tableIn (pc := 39) (tgt := 668) hx hb d_La_law_39 (by decide) (by decide) rfl (by decide) ?_
                      have hw := hw.2.2.2.2.2.2.2.1 h7
                      refine lv_aload_n (pc := 668) hx hb d_La_law_668 rfl (lv_at hl 1 rfl) ?_
                      refine lv_aload_n (pc := 669) hx hb d_La_law_669 rfl (lv_at hl 0 rfl) ?_
                      refine lv_iload (pc := 670) hx hb d_La_law_670 (lv_at hl 4 rfl) ?_
                      refine lv_iconst (pc := 672) (v := 1) hx hb d_La_law_672 (by decide) ?_
                      refine lv_iadd (pc := 673) hx hb d_La_law_673 ?_
                      obtain ⟨hc, hw⟩ := hw
                      refine va_sld (pc := 674) hx hb hX hXl hXA hS hc d_La_law_674 ?_
                      refine lv_aload_n (pc := 675) hx hb d_La_law_675 rfl (lv_at hl 0 rfl) ?_
                      refine lv_iload (pc := 676) hx hb d_La_law_676 (lv_at hl 4 rfl) ?_
                      refine lv_iconst (pc := 678) (v := 2) hx hb d_La_law_678 (by decide) ?_
                      refine lv_iadd (pc := 679) hx hb d_La_law_679 ?_
                      obtain ⟨hc, hw⟩ := hw
                      refine va_sld (pc := 680) hx hb hX hXl hXA hS hc d_La_law_680 ?_
                      refine lv_aload_n (pc := 681) hx hb d_La_law_681 rfl (lv_at hl 0 rfl) ?_
                      refine lv_iload (pc := 682) hx hb d_La_law_682 (lv_at hl 4 rfl) ?_
                      refine lv_iconst (pc := 684) (v := 3) hx hb d_La_law_684 (by decide) ?_
                      refine lv_iadd (pc := 685) hx hb d_La_law_685 ?_
                      obtain ⟨hc, hw⟩ := hw
                      refine va_sld (pc := 686) hx hb hX hXl hXA hS hc d_La_law_686 ?_
                      refine lv_aload_n (pc := 687) hx hb d_La_law_687 rfl (lv_at hl 3 rfl) ?_
                      refine z_calli (pc := 688) (vx_runSW (As := [.ref (b + 0), .int (xs (v4 + (1 : Int32)).toNatClampNeg), .int (xs (v4 + (2 : Int32)).toNatClampNeg), .int (xs (v4 + (3 : Int32)).toNatClampNeg), .ref (b + 119)]) (rest := []) ⟨hx, hb, hml, hown, hts⟩ (c_La_divide l hst G b (xs (v4 + (1 : Int32)).toNatClampNeg) (xs (v4 + (2 : Int32)).toNatClampNeg) (xs (v4 + (3 : Int32)).toNatClampNeg) M N hw) (vx_cwSW 5 hts (z_goodL (zgS wd395 wd396 wd0 wd397)) rfl rfl rfl hd_La_divide ⟨Nat.le_of_ble_eq_true rfl, Nat.le_of_ble_eq_true rfl⟩) (z_preS hZ hK hT hS) rfl rfl hl.1 rfl (lv_room (Nat.le_of_ble_eq_true rfl)) d_La_law_688 ⟨by show 120 + 8 * j + 0 + 5 ≤ 601024; omega, by show zS0 + 48 * j + 0 + 30 ≤ 7293034; unfold zS0; omega⟩) hS (fun r85 M86 N87 H locs hw hZ hS => ?_)
                      obtain ⟨hw, eN87⟩ := hw
                      rw [eN87] at hZ
                      refine lv_istore (pc := 691) (lv' := [(5, .int r85), (0, .ref sb), (1, .ref (b + 0)), (2, .ref (b + 99)), (3, .ref (b + 119)), (4, .int v4)]) hx hb d_La_law_691 hl (by decide) rfl (fun ls hl => ?_)
                      refine lv_aload_n (pc := 693) hx hb d_La_law_693 rfl (lv_at hl 3 rfl) ?_
                      refine lv_aload_n (pc := 694) hx hb d_La_law_694 rfl (lv_at hl 1 rfl) ?_
                      refine lv_iload (pc := 695) hx hb d_La_law_695 (lv_at hl 5 rfl) ?_
                      refine lv_iconst (pc := 697) (v := 1) hx hb d_La_law_697 (by decide) ?_
                      refine lv_iadd (pc := 698) hx hb d_La_law_698 ?_
                      obtain ⟨hc, hw⟩ := hw
                      refine va_sld (pc := 699) hx hb hX hXl hXA hS hc d_La_law_699 ?_
                      refine lv_aload_n (pc := 700) hx hb d_La_law_700 rfl (lv_at hl 1 rfl) ?_
                      refine lv_iload (pc := 701) hx hb d_La_law_701 (lv_at hl 5 rfl) ?_
                      refine lv_iconst (pc := 703) (v := 2) hx hb d_La_law_703 (by decide) ?_
                      refine lv_iadd (pc := 704) hx hb d_La_law_704 ?_
                      obtain ⟨hc, hw⟩ := hw
                      refine va_sld (pc := 705) hx hb hX hXl hXA hS hc d_La_law_705 ?_
                      refine lv_aload_n (pc := 706) hx hb d_La_law_706 rfl (lv_at hl 1 rfl) ?_
                      refine lv_iload (pc := 707) hx hb d_La_law_707 (lv_at hl 5 rfl) ?_
                      refine lv_iconst (pc := 709) (v := 3) hx hb d_La_law_709 (by decide) ?_
                      refine lv_iadd (pc := 710) hx hb d_La_law_710 ?_
                      obtain ⟨hc, hw⟩ := hw
                      refine va_sld (pc := 711) hx hb hX hXl hXA hS hc d_La_law_711 ?_
                      refine z_calli (pc := 712) (va_runV (C := R_Mo) (b := b + 99) (As := [.int (xs (v4 + (1 : Int32)).toNatClampNeg), .int (xs (v4 + (2 : Int32)).toNatClampNeg), .int (xs (v4 + (3 : Int32)).toNatClampNeg)]) (rest := []) ⟨hx, hb, hml, hown, hts⟩ (c_Mo_divide l G b (xs (v4 + (1 : Int32)).toNatClampNeg) (xs (v4 + (2 : Int32)).toNatClampNeg) (xs (v4 + (3 : Int32)).toNatClampNeg) M86 N hw) (cwV 3 hts (z_goodL (zgV wd857 wd858 wd859 wd7 wd860)) rfl rfl rfl ⟨rfl, hd_Mo_divide⟩ ⟨Nat.le_of_ble_eq_true rfl, Nat.le_of_ble_eq_true rfl⟩) (z_preV zo_Mo rfl rfl hZ hK hT hS) rfl rfl hl.1 rfl (lv_room (Nat.le_of_ble_eq_true rfl)) d_La_law_712 ⟨by show 120 + 8 * j + 5 + 0 ≤ 601024; omega, by show zS0 + 48 * j + 30 + 0 ≤ 7293034; unfold zS0; omega⟩) hS (fun r88 M89 N90 H locs hw hZ hS => ?_)
                      refine lv_istore (pc := 715) (lv' := [(6, .int r88), (5, .int r85), (0, .ref sb), (1, .ref (b + 0)), (2, .ref (b + 99)), (3, .ref (b + 119)), (4, .int v4)]) hx hb d_La_law_715 hl (by decide) rfl (fun ls hl => ?_)
                      refine lv_aload_n (pc := 717) hx hb d_La_law_717 rfl (lv_at hl 4 rfl) ?_
                      refine z_calli (pc := 718) (va_runV (C := R_Mo) (b := b + 99) (As := []) (rest := []) ⟨hx, hb, hml, hown, hts⟩ (c_Mo_thrown l G b  M89 N90 hw) (cwV 0 hts (z_goodL (zgV wd797 wd798 wd799 wd7 wd800)) rfl rfl rfl ⟨rfl, hd_Mo_thrown⟩ ⟨Nat.le_of_ble_eq_true rfl, Nat.le_of_ble_eq_true rfl⟩) (z_preV zo_Mo rfl rfl hZ hK hT hS) rfl rfl hl.1 rfl (lv_room (Nat.le_of_ble_eq_true rfl)) d_La_law_718 ⟨by show 120 + 8 * j + 5 + 0 ≤ 601024; omega, by show zS0 + 48 * j + 30 + 0 ≤ 7293034; unfold zS0; omega⟩) hS (fun r91 M92 N93 H locs hw hZ hS => ?_)
                      obtain ⟨hw, eM92, eN93⟩ := hw
                      rw [eM92, eN93] at hZ
                      refine lv_iload (pc := 721) hx hb d_La_law_721 (lv_at hl 1 rfl) ?_
                      refine lv_icmp_eq (pc := 723) (tgt := 728) hx hb d_La_law_723 (by decide) (fun hc => ?_) (fun hc => ?_)
                      · have hw := hw.1 hc
                        refine lv_iload (pc := 728) hx hb d_La_law_728 (lv_at hl 1 rfl) ?_
                        refine lv_if_ne (pc := 730) (tgt := 745) hx hb d_La_law_730 (by decide) (fun hc => ?_) (fun hc => ?_)
                        · have hw := hw.1 hc
                          refine lv_goto (pc := 745) (tgt := 1418) hx hb d_La_law_745 (by decide) ?_
                          refine lv_iinc (pc := 1418) (k := 6) (v := v4 + (5 : Int32)) (lv' := [(4, .int (v4 + (5 : Int32))), (6, .int r88), (5, .int r85), (0, .ref sb), (1, .ref (b + 0)), (2, .ref (b + 99)), (3, .ref (b + 119))]) hx hb d_La_law_1418 hl rfl (by rfl) (by decide) rfl (fun ls hl => ?_)
                          refine lv_goto (pc := 1421) (tgt := 23) hx hb d_La_law_1421 (by decide) ?_
                          refine W.widen (k := 120 + 8 * (j + 1)) (n := zS0 + 48 * (j + 1)) (by omega) (by omega) ?_
                          exact ih23 (v4 + (5 : Int32)) M89 N90 (j + 1) _ _ _ (z_next hj) (z_room hj hc23 (by omega) hjL) hZ hS (lv_sub hl [3, 4, 5, 6, 0] rfl) hw
                        · have hw := hw.2 hc
                          refine lv_aload_n (pc := 733) hx hb d_La_law_733 rfl (lv_at hl 5 rfl) ?_
                          refine lv_iconst (pc := 734) (v := 0) hx hb d_La_law_734 (by decide) ?_
                          obtain ⟨hc, hw⟩ := hw
                          refine z_lald (pc := 735) hx hb hK hZ hc d_La_law_735 ?_
                          refine lv_iload (pc := 736) hx hb d_La_law_736 (lv_at hl 0 rfl) ?_
                          refine lv_i2l (pc := 738) (v := r88.toInt64) hx hb d_La_law_738 rfl ?_
                          refine z_lc_eq (pc := 739) (tgt := 745) hx hb d_La_law_739 d_La_law_740 (by decide) (fun hc => ?_) (fun hc => ?_)
                          · have hw := hw.1 hc
                            refine lv_goto (pc := 745) (tgt := 1418) hx hb d_La_law_745 (by decide) ?_
                            refine lv_iinc (pc := 1418) (k := 6) (v := v4 + (5 : Int32)) (lv' := [(4, .int (v4 + (5 : Int32))), (6, .int r88), (5, .int r85), (0, .ref sb), (1, .ref (b + 0)), (2, .ref (b + 99)), (3, .ref (b + 119))]) hx hb d_La_law_1418 hl rfl (by rfl) (by decide) rfl (fun ls hl => ?_)
                            refine lv_goto (pc := 1421) (tgt := 23) hx hb d_La_law_1421 (by decide) ?_
                            refine W.widen (k := 120 + 8 * (j + 1)) (n := zS0 + 48 * (j + 1)) (by omega) (by omega) ?_
                            exact ih23 (v4 + (5 : Int32)) M89 N90 (j + 1) _ _ _ (z_next hj) (z_room hj hc23 (by omega) hjL) hZ hS (lv_sub hl [3, 4, 5, 6, 0] rfl) hw
                          · have hw := hw.2 hc
                            refine lv_iconst (pc := 743) (v := 0) hx hb d_La_law_743 (by decide) ?_
                            exact False.elim hw
                      · have hw := hw.2 hc
                        refine lv_iconst (pc := 726) (v := 0) hx hb d_La_law_726 (by decide) ?_
                        exact False.elim hw
                    · by_cases h8 : ((xs v4.toNatClampNeg) &&& (31 : Int32)) = 8
                      · rw [h8]
                        refine lv_tableIn (pc := 39) (tgt := 748) hx hb d_La_law_39 (by decide) (by decide) rfl (by decide) ?_
                        have hw := hw.2.2.2.2.2.2.2.2.1 h8
                        refine lv_aload_n (pc := 748) hx hb d_La_law_748 rfl (lv_at hl 1 rfl) ?_
                        refine lv_aload_n (pc := 749) hx hb d_La_law_749 rfl (lv_at hl 0 rfl) ?_
                        refine lv_iload (pc := 750) hx hb d_La_law_750 (lv_at hl 4 rfl) ?_
                        refine lv_iconst (pc := 752) (v := 1) hx hb d_La_law_752 (by decide) ?_
                        refine lv_iadd (pc := 753) hx hb d_La_law_753 ?_
                        obtain ⟨hc, hw⟩ := hw
                        refine va_sld (pc := 754) hx hb hX hXl hXA hS hc d_La_law_754 ?_
                        refine lv_aload_n (pc := 755) hx hb d_La_law_755 rfl (lv_at hl 0 rfl) ?_
                        refine lv_iload (pc := 756) hx hb d_La_law_756 (lv_at hl 4 rfl) ?_
                        refine lv_iconst (pc := 758) (v := 2) hx hb d_La_law_758 (by decide) ?_
                        refine lv_iadd (pc := 759) hx hb d_La_law_759 ?_
                        obtain ⟨hc, hw⟩ := hw
                        refine va_sld (pc := 760) hx hb hX hXl hXA hS hc d_La_law_760 ?_
                        refine lv_aload_n (pc := 761) hx hb d_La_law_761 rfl (lv_at hl 0 rfl) ?_
                        refine lv_iload (pc := 762) hx hb d_La_law_762 (lv_at hl 4 rfl) ?_
                        refine lv_iconst (pc := 764) (v := 3) hx hb d_La_law_764 (by decide) ?_
                        refine lv_iadd (pc := 765) hx hb d_La_law_765 ?_
                        obtain ⟨hc, hw⟩ := hw
                        refine va_sld (pc := 766) hx hb hX hXl hXA hS hc d_La_law_766 ?_
                        refine lv_aload_n (pc := 767) hx hb d_La_law_767 rfl (lv_at hl 3 rfl) ?_
                        refine z_calli (pc := 768) (vx_runSW (As := [.ref (b + 0), .int (xs (v4 + (1 : Int32)).toNatClampNeg), .int (xs (v4 + (2 : Int32)).toNatClampNeg), .int (xs (v4 + (3 : Int32)).toNatClampNeg), .ref (b + 119)]) (rest := []) ⟨hx, hb, hml, hown, hts⟩ (c_La_common l hst G b (xs (v4 + (1 : Int32)).toNatClampNeg) (xs (v4 + (2 : Int32)).toNatClampNeg) (xs (v4 + (3 : Int32)).toNatClampNeg) M N hw) (vx_cwSW 5 hts (z_goodL (zgS wd429 wd430 wd0 wd431)) rfl rfl rfl hd_La_common ⟨Nat.le_of_ble_eq_true rfl, Nat.le_of_ble_eq_true rfl⟩) (z_preS hZ hK hT hS) rfl rfl hl.1 rfl (lv_room (Nat.le_of_ble_eq_true rfl)) d_La_law_768 ⟨by show 120 + 8 * j + 0 + 4 ≤ 601024; omega, by show zS0 + 48 * j + 0 + 24 ≤ 7293034; unfold zS0; omega⟩) hS (fun r94 M95 N96 H locs hw hZ hS => ?_)
                        obtain ⟨hw, eN96⟩ := hw
                        rw [eN96] at hZ
                        refine lv_istore (pc := 771) (lv' := [(5, .int r94), (0, .ref sb), (1, .ref (b + 0)), (2, .ref (b + 99)), (3, .ref (b + 119)), (4, .int v4)]) hx hb d_La_law_771 hl (by decide) rfl (fun ls hl => ?_)
                        refine lv_aload_n (pc := 773) hx hb d_La_law_773 rfl (lv_at hl 3 rfl) ?_
                        refine lv_aload_n (pc := 774) hx hb d_La_law_774 rfl (lv_at hl 1 rfl) ?_
                        refine lv_iload (pc := 775) hx hb d_La_law_775 (lv_at hl 5 rfl) ?_
                        refine lv_iconst (pc := 777) (v := 1) hx hb d_La_law_777 (by decide) ?_
                        refine lv_iadd (pc := 778) hx hb d_La_law_778 ?_
                        obtain ⟨hc, hw⟩ := hw
                        refine va_sld (pc := 779) hx hb hX hXl hXA hS hc d_La_law_779 ?_
                        refine lv_aload_n (pc := 780) hx hb d_La_law_780 rfl (lv_at hl 1 rfl) ?_
                        refine lv_iload (pc := 781) hx hb d_La_law_781 (lv_at hl 5 rfl) ?_
                        refine lv_iconst (pc := 783) (v := 2) hx hb d_La_law_783 (by decide) ?_
                        refine lv_iadd (pc := 784) hx hb d_La_law_784 ?_
                        obtain ⟨hc, hw⟩ := hw
                        refine va_sld (pc := 785) hx hb hX hXl hXA hS hc d_La_law_785 ?_
                        refine lv_aload_n (pc := 786) hx hb d_La_law_786 rfl (lv_at hl 1 rfl) ?_
                        refine lv_iload (pc := 787) hx hb d_La_law_787 (lv_at hl 5 rfl) ?_
                        refine lv_iconst (pc := 789) (v := 3) hx hb d_La_law_789 (by decide) ?_
                        refine lv_iadd (pc := 790) hx hb d_La_law_790 ?_
                        obtain ⟨hc, hw⟩ := hw
                        refine va_sld (pc := 791) hx hb hX hXl hXA hS hc d_La_law_791 ?_
                        refine z_calli (pc := 792) (va_runV (C := R_Mo) (b := b + 99) (As := [.int (xs (v4 + (1 : Int32)).toNatClampNeg), .int (xs (v4 + (2 : Int32)).toNatClampNeg), .int (xs (v4 + (3 : Int32)).toNatClampNeg)]) (rest := []) ⟨hx, hb, hml, hown, hts⟩ (c_Mo_common l G b (xs (v4 + (1 : Int32)).toNatClampNeg) (xs (v4 + (2 : Int32)).toNatClampNeg) (xs (v4 + (3 : Int32)).toNatClampNeg) M95 N hw) (cwV 3 hts (z_goodL (zgV wd886 wd887 wd888 wd7 wd889)) rfl rfl rfl ⟨rfl, hd_Mo_common⟩ ⟨Nat.le_of_ble_eq_true rfl, Nat.le_of_ble_eq_true rfl⟩) (z_preV zo_Mo rfl rfl hZ hK hT hS) rfl rfl hl.1 rfl (lv_room (Nat.le_of_ble_eq_true rfl)) d_La_law_792 ⟨by show 120 + 8 * j + 4 + 0 ≤ 601024; omega, by show zS0 + 48 * j + 24 + 0 ≤ 7293034; unfold zS0; omega⟩) hS (fun r97 M98 N99 H locs hw hZ hS => ?_)
                        refine lv_istore (pc := 795) (lv' := [(6, .int r97), (5, .int r94), (0, .ref sb), (1, .ref (b + 0)), (2, .ref (b + 99)), (3, .ref (b + 119)), (4, .int v4)]) hx hb d_La_law_795 hl (by decide) rfl (fun ls hl => ?_)
                        refine lv_aload_n (pc := 797) hx hb d_La_law_797 rfl (lv_at hl 4 rfl) ?_
                        refine z_calli (pc := 798) (va_runV (C := R_Mo) (b := b + 99) (As := []) (rest := []) ⟨hx, hb, hml, hown, hts⟩ (c_Mo_thrown l G b  M98 N99 hw) (cwV 0 hts (z_goodL (zgV wd797 wd798 wd799 wd7 wd800)) rfl rfl rfl ⟨rfl, hd_Mo_thrown⟩ ⟨Nat.le_of_ble_eq_true rfl, Nat.le_of_ble_eq_true rfl⟩) (z_preV zo_Mo rfl rfl hZ hK hT hS) rfl rfl hl.1 rfl (lv_room (Nat.le_of_ble_eq_true rfl)) d_La_law_798 ⟨by show 120 + 8 * j + 4 + 0 ≤ 601024; omega, by show zS0 + 48 * j + 24 + 0 ≤ 7293034; unfold zS0; omega⟩) hS (fun r100 M101 N102 H locs hw hZ hS => ?_)
                        obtain ⟨hw, eM101, eN102⟩ := hw
                        rw [eM101, eN102] at hZ
                        refine lv_iload (pc := 801) hx hb d_La_law_801 (lv_at hl 1 rfl) ?_
                        refine lv_icmp_eq (pc := 803) (tgt := 808) hx hb d_La_law_803 (by decide) (fun hc => ?_) (fun hc => ?_)
                        · have hw := hw.1 hc
                          refine lv_iload (pc := 808) hx hb d_La_law_808 (lv_at hl 1 rfl) ?_
                          refine lv_if_ne (pc := 810) (tgt := 825) hx hb d_La_law_810 (by decide) (fun hc => ?_) (fun hc => ?_)
                          · have hw := hw.1 hc
                            refine lv_goto (pc := 825) (tgt := 1418) hx hb d_La_law_825 (by decide) ?_
                            refine lv_iinc (pc := 1418) (k := 6) (v := v4 + (5 : Int32)) (lv' := [(4, .int (v4 + (5 : Int32))), (6, .int r97), (5, .int r94), (0, .ref sb), (1, .ref (b + 0)), (2, .ref (b + 99)), (3, .ref (b + 119))]) hx hb d_La_law_1418 hl rfl (by rfl) (by decide) rfl (fun ls hl => ?_)
                            refine lv_goto (pc := 1421) (tgt := 23) hx hb d_La_law_1421 (by decide) ?_
                            refine W.widen (k := 120 + 8 * (j + 1)) (n := zS0 + 48 * (j + 1)) (by omega) (by omega) ?_
                            exact ih23 (v4 + (5 : Int32)) M98 N99 (j + 1) _ _ _ (z_next hj) (z_room hj hc23 (by omega) hjL) hZ hS (lv_sub hl [3, 4, 5, 6, 0] rfl) hw
                          · have hw := hw.2 hc
                            refine lv_aload_n (pc := 813) hx hb d_La_law_813 rfl (lv_at hl 5 rfl) ?_
                            refine lv_iconst (pc := 814) (v := 0) hx hb d_La_law_814 (by decide) ?_
                            obtain ⟨hc, hw⟩ := hw
                            refine z_lald (pc := 815) hx hb hK hZ hc d_La_law_815 ?_
                            refine lv_iload (pc := 816) hx hb d_La_law_816 (lv_at hl 0 rfl) ?_
                            refine lv_i2l (pc := 818) (v := r97.toInt64) hx hb d_La_law_818 rfl ?_
                            refine z_lc_eq (pc := 819) (tgt := 825) hx hb d_La_law_819 d_La_law_820 (by decide) (fun hc => ?_) (fun hc => ?_)
                            · have hw := hw.1 hc
                              refine lv_goto (pc := 825) (tgt := 1418) hx hb d_La_law_825 (by decide) ?_
                              refine lv_iinc (pc := 1418) (k := 6) (v := v4 + (5 : Int32)) (lv' := [(4, .int (v4 + (5 : Int32))), (6, .int r97), (5, .int r94), (0, .ref sb), (1, .ref (b + 0)), (2, .ref (b + 99)), (3, .ref (b + 119))]) hx hb d_La_law_1418 hl rfl (by rfl) (by decide) rfl (fun ls hl => ?_)
                              refine lv_goto (pc := 1421) (tgt := 23) hx hb d_La_law_1421 (by decide) ?_
                              refine W.widen (k := 120 + 8 * (j + 1)) (n := zS0 + 48 * (j + 1)) (by omega) (by omega) ?_
                              exact ih23 (v4 + (5 : Int32)) M98 N99 (j + 1) _ _ _ (z_next hj) (z_room hj hc23 (by omega) hjL) hZ hS (lv_sub hl [3, 4, 5, 6, 0] rfl) hw
                            · have hw := hw.2 hc
                              refine lv_iconst (pc := 823) (v := 0) hx hb d_La_law_823 (by decide) ?_
                              exact False.elim hw
                        · have hw := hw.2 hc
                          refine lv_iconst (pc := 806) (v := 0) hx hb d_La_law_806 (by decide) ?_
                          exact False.elim hw
                      · by_cases h9 : ((xs v4.toNatClampNeg) &&& (31 : Int32)) = 9
                        · rw [h9]
                          refine lv_tableIn (pc := 39) (tgt := 828) hx hb d_La_law_39 (by decide) (by decide) rfl (by decide) ?_
                          have hw := hw.2.2.2.2.2.2.2.2.2.1 h9
                          refine lv_aload_n (pc := 828) hx hb d_La_law_828 rfl (lv_at hl 1 rfl) ?_
                          refine lv_aload_n (pc := 829) hx hb d_La_law_829 rfl (lv_at hl 0 rfl) ?_
                          refine lv_iload (pc := 830) hx hb d_La_law_830 (lv_at hl 4 rfl) ?_
                          refine lv_iconst (pc := 832) (v := 1) hx hb d_La_law_832 (by decide) ?_
                          refine lv_iadd (pc := 833) hx hb d_La_law_833 ?_
                          obtain ⟨hc, hw⟩ := hw
                          refine va_sld (pc := 834) hx hb hX hXl hXA hS hc d_La_law_834 ?_
                          refine lv_aload_n (pc := 835) hx hb d_La_law_835 rfl (lv_at hl 0 rfl) ?_
                          refine lv_iload (pc := 836) hx hb d_La_law_836 (lv_at hl 4 rfl) ?_
                          refine lv_iconst (pc := 838) (v := 2) hx hb d_La_law_838 (by decide) ?_
                          refine lv_iadd (pc := 839) hx hb d_La_law_839 ?_
                          obtain ⟨hc, hw⟩ := hw
                          refine va_sld (pc := 840) hx hb hX hXl hXA hS hc d_La_law_840 ?_
                          refine lv_aload_n (pc := 841) hx hb d_La_law_841 rfl (lv_at hl 3 rfl) ?_
                          refine z_calli (pc := 842) (vx_runSW (As := [.ref (b + 0), .int (xs (v4 + (1 : Int32)).toNatClampNeg), .int (xs (v4 + (2 : Int32)).toNatClampNeg), .ref (b + 119)]) (rest := []) ⟨hx, hb, hml, hown, hts⟩ (c_La_value l hst G b (xs (v4 + (1 : Int32)).toNatClampNeg) (xs (v4 + (2 : Int32)).toNatClampNeg) M N hw) (vx_cwSW 4 hts (z_goodL (zgS wd487 wd488 wd0 wd489)) rfl rfl rfl hd_La_value ⟨Nat.le_of_ble_eq_true rfl, Nat.le_of_ble_eq_true rfl⟩) (z_preS hZ hK hT hS) rfl rfl hl.1 rfl (lv_room (Nat.le_of_ble_eq_true rfl)) d_La_law_842 ⟨by show 120 + 8 * j + 0 + 2 ≤ 601024; omega, by show zS0 + 48 * j + 0 + 12 ≤ 7293034; unfold zS0; omega⟩) hS (fun r103 M104 N105 H locs hw hZ hS => ?_)
                          obtain ⟨hw, eN105⟩ := hw
                          rw [eN105] at hZ
                          refine lv_istore (pc := 845) (lv' := [(5, .int r103), (0, .ref sb), (1, .ref (b + 0)), (2, .ref (b + 99)), (3, .ref (b + 119)), (4, .int v4)]) hx hb d_La_law_845 hl (by decide) rfl (fun ls hl => ?_)
                          refine lv_aload_n (pc := 847) hx hb d_La_law_847 rfl (lv_at hl 3 rfl) ?_
                          refine lv_aload_n (pc := 848) hx hb d_La_law_848 rfl (lv_at hl 1 rfl) ?_
                          refine lv_iload (pc := 849) hx hb d_La_law_849 (lv_at hl 5 rfl) ?_
                          refine lv_iconst (pc := 851) (v := 1) hx hb d_La_law_851 (by decide) ?_
                          refine lv_iadd (pc := 852) hx hb d_La_law_852 ?_
                          obtain ⟨hc, hw⟩ := hw
                          refine va_sld (pc := 853) hx hb hX hXl hXA hS hc d_La_law_853 ?_
                          refine lv_aload_n (pc := 854) hx hb d_La_law_854 rfl (lv_at hl 1 rfl) ?_
                          refine lv_iload (pc := 855) hx hb d_La_law_855 (lv_at hl 5 rfl) ?_
                          refine lv_iconst (pc := 857) (v := 2) hx hb d_La_law_857 (by decide) ?_
                          refine lv_iadd (pc := 858) hx hb d_La_law_858 ?_
                          obtain ⟨hc, hw⟩ := hw
                          refine va_sld (pc := 859) hx hb hX hXl hXA hS hc d_La_law_859 ?_
                          refine z_calll (pc := 860) (va_runV (C := R_Mo) (b := b + 99) (As := [.int (xs (v4 + (1 : Int32)).toNatClampNeg), .int (xs (v4 + (2 : Int32)).toNatClampNeg)]) (rest := []) ⟨hx, hb, hml, hown, hts⟩ (c_Mo_value l G b (xs (v4 + (1 : Int32)).toNatClampNeg) (xs (v4 + (2 : Int32)).toNatClampNeg) M104 N hw) (cwV 2 hts (z_goodL (zgV wd872 wd873 wd874 wd7 wd875)) rfl rfl rfl ⟨rfl, hd_Mo_value⟩ ⟨Nat.le_of_ble_eq_true rfl, Nat.le_of_ble_eq_true rfl⟩) (z_preV zo_Mo rfl rfl hZ hK hT hS) rfl rfl hl.1 rfl (lv_room (Nat.le_of_ble_eq_true rfl)) d_La_law_860 ⟨by show 120 + 8 * j + 2 + 0 ≤ 601024; omega, by show zS0 + 48 * j + 12 + 0 ≤ 7293034; unfold zS0; omega⟩) hS (fun r106 M107 N108 H locs hw hZ hS => ?_)
                          obtain ⟨hw, eM107⟩ := hw
                          rw [eM107] at hZ
                          refine lv_lstore (pc := 863) (lv' := [(6, .long r106), (5, .int r103), (0, .ref sb), (1, .ref (b + 0)), (2, .ref (b + 99)), (3, .ref (b + 119)), (4, .int v4)]) hx hb d_La_law_863 hl (by decide) rfl (fun ls hl => ?_)
                          refine lv_aload_n (pc := 865) hx hb d_La_law_865 rfl (lv_at hl 4 rfl) ?_
                          refine z_calli (pc := 866) (va_runV (C := R_Mo) (b := b + 99) (As := []) (rest := []) ⟨hx, hb, hml, hown, hts⟩ (c_Mo_thrown l G b  M104 N108 hw) (cwV 0 hts (z_goodL (zgV wd797 wd798 wd799 wd7 wd800)) rfl rfl rfl ⟨rfl, hd_Mo_thrown⟩ ⟨Nat.le_of_ble_eq_true rfl, Nat.le_of_ble_eq_true rfl⟩) (z_preV zo_Mo rfl rfl hZ hK hT hS) rfl rfl hl.1 rfl (lv_room (Nat.le_of_ble_eq_true rfl)) d_La_law_866 ⟨by show 120 + 8 * j + 2 + 0 ≤ 601024; omega, by show zS0 + 48 * j + 12 + 0 ≤ 7293034; unfold zS0; omega⟩) hS (fun r109 M110 N111 H locs hw hZ hS => ?_)
                          obtain ⟨hw, eM110, eN111⟩ := hw
                          rw [eM110, eN111] at hZ
                          refine lv_iload (pc := 869) hx hb d_La_law_869 (lv_at hl 1 rfl) ?_
                          refine lv_icmp_eq (pc := 871) (tgt := 876) hx hb d_La_law_871 (by decide) (fun hc => ?_) (fun hc => ?_)
                          · have hw := hw.1 hc
                            refine lv_iload (pc := 876) hx hb d_La_law_876 (lv_at hl 1 rfl) ?_
                            refine lv_if_ne (pc := 878) (tgt := 892) hx hb d_La_law_878 (by decide) (fun hc => ?_) (fun hc => ?_)
                            · have hw := hw.1 hc
                              refine lv_goto (pc := 892) (tgt := 1418) hx hb d_La_law_892 (by decide) ?_
                              refine lv_iinc (pc := 1418) (k := 6) (v := v4 + (5 : Int32)) (lv' := [(4, .int (v4 + (5 : Int32))), (6, .long r106), (5, .int r103), (0, .ref sb), (1, .ref (b + 0)), (2, .ref (b + 99)), (3, .ref (b + 119))]) hx hb d_La_law_1418 hl rfl (by rfl) (by decide) rfl (fun ls hl => ?_)
                              refine lv_goto (pc := 1421) (tgt := 23) hx hb d_La_law_1421 (by decide) ?_
                              refine W.widen (k := 120 + 8 * (j + 1)) (n := zS0 + 48 * (j + 1)) (by omega) (by omega) ?_
                              exact ih23 (v4 + (5 : Int32)) M104 N108 (j + 1) _ _ _ (z_next hj) (z_room hj hc23 (by omega) hjL) hZ hS (lv_sub hl [3, 4, 5, 6, 0] rfl) hw
                            · have hw := hw.2 hc
                              refine lv_aload_n (pc := 881) hx hb d_La_law_881 rfl (lv_at hl 5 rfl) ?_
                              refine lv_iconst (pc := 882) (v := 0) hx hb d_La_law_882 (by decide) ?_
                              obtain ⟨hc, hw⟩ := hw
                              refine z_lald (pc := 883) hx hb hK hZ hc d_La_law_883 ?_
                              refine lv_lload (pc := 884) hx hb d_La_law_884 (lv_at hl 0 rfl) ?_
                              refine z_lc_eq (pc := 886) (tgt := 892) hx hb d_La_law_886 d_La_law_887 (by decide) (fun hc => ?_) (fun hc => ?_)
                              · have hw := hw.1 hc
                                refine lv_goto (pc := 892) (tgt := 1418) hx hb d_La_law_892 (by decide) ?_
                                refine lv_iinc (pc := 1418) (k := 6) (v := v4 + (5 : Int32)) (lv' := [(4, .int (v4 + (5 : Int32))), (6, .long r106), (5, .int r103), (0, .ref sb), (1, .ref (b + 0)), (2, .ref (b + 99)), (3, .ref (b + 119))]) hx hb d_La_law_1418 hl rfl (by rfl) (by decide) rfl (fun ls hl => ?_)
                                refine lv_goto (pc := 1421) (tgt := 23) hx hb d_La_law_1421 (by decide) ?_
                                refine W.widen (k := 120 + 8 * (j + 1)) (n := zS0 + 48 * (j + 1)) (by omega) (by omega) ?_
                                exact ih23 (v4 + (5 : Int32)) M104 N108 (j + 1) _ _ _ (z_next hj) (z_room hj hc23 (by omega) hjL) hZ hS (lv_sub hl [3, 4, 5, 6, 0] rfl) hw
                              · have hw := hw.2 hc
                                refine lv_iconst (pc := 890) (v := 0) hx hb d_La_law_890 (by decide) ?_
                                exact False.elim hw
                          · have hw := hw.2 hc
                            refine lv_iconst (pc := 874) (v := 0) hx hb d_La_law_874 (by decide) ?_
                            exact False.elim hw
                        · by_cases h10 : ((xs v4.toNatClampNeg) &&& (31 : Int32)) = 10
                          · rw [h10]
                            refine lv_tableIn (pc := 39) (tgt := 895) hx hb d_La_law_39 (by decide) (by decide) rfl (by decide) ?_
                            have hw := hw.2.2.2.2.2.2.2.2.2.2.1 h10
                            refine lv_aload_n (pc := 895) hx hb d_La_law_895 rfl (lv_at hl 1 rfl) ?_
                            refine lv_aload_n (pc := 896) hx hb d_La_law_896 rfl (lv_at hl 0 rfl) ?_
                            refine lv_iload (pc := 897) hx hb d_La_law_897 (lv_at hl 4 rfl) ?_
                            refine lv_iconst (pc := 899) (v := 1) hx hb d_La_law_899 (by decide) ?_
                            refine lv_iadd (pc := 900) hx hb d_La_law_900 ?_
                            obtain ⟨hc, hw⟩ := hw
                            refine va_sld (pc := 901) hx hb hX hXl hXA hS hc d_La_law_901 ?_
                            refine lv_aload_n (pc := 902) hx hb d_La_law_902 rfl (lv_at hl 3 rfl) ?_
                            refine z_calli (pc := 903) (vx_runSW (As := [.ref (b + 0), .int (xs (v4 + (1 : Int32)).toNatClampNeg), .ref (b + 119)]) (rest := []) ⟨hx, hb, hml, hown, hts⟩ (c_La_content l hst G b (xs (v4 + (1 : Int32)).toNatClampNeg) M N hw) (vx_cwSW 3 hts (z_goodL (zgS wd494 wd495 wd0 wd496)) rfl rfl rfl hd_La_content ⟨Nat.le_of_ble_eq_true rfl, Nat.le_of_ble_eq_true rfl⟩) (z_preS hZ hK hT hS) rfl rfl hl.1 rfl (lv_room (Nat.le_of_ble_eq_true rfl)) d_La_law_903 ⟨by show 120 + 8 * j + 0 + 1 ≤ 601024; omega, by show zS0 + 48 * j + 0 + 6 ≤ 7293034; unfold zS0; omega⟩) hS (fun r112 M113 N114 H locs hw hZ hS => ?_)
                            obtain ⟨hw, eN114⟩ := hw
                            rw [eN114] at hZ
                            refine lv_istore (pc := 906) (lv' := [(5, .int r112), (0, .ref sb), (1, .ref (b + 0)), (2, .ref (b + 99)), (3, .ref (b + 119)), (4, .int v4)]) hx hb d_La_law_906 hl (by decide) rfl (fun ls hl => ?_)
                            refine lv_aload_n (pc := 908) hx hb d_La_law_908 rfl (lv_at hl 3 rfl) ?_
                            refine lv_aload_n (pc := 909) hx hb d_La_law_909 rfl (lv_at hl 1 rfl) ?_
                            refine lv_iload (pc := 910) hx hb d_La_law_910 (lv_at hl 5 rfl) ?_
                            refine lv_iconst (pc := 912) (v := 1) hx hb d_La_law_912 (by decide) ?_
                            refine lv_iadd (pc := 913) hx hb d_La_law_913 ?_
                            obtain ⟨hc, hw⟩ := hw
                            refine va_sld (pc := 914) hx hb hX hXl hXA hS hc d_La_law_914 ?_
                            refine z_calli (pc := 915) (va_runV (C := R_Mo) (b := b + 99) (As := [.int (xs (v4 + (1 : Int32)).toNatClampNeg)]) (rest := []) ⟨hx, hb, hml, hown, hts⟩ (c_Mo_content l G b (xs (v4 + (1 : Int32)).toNatClampNeg) M113 N hw) (cwV 1 hts (z_goodL (zgV wd876 wd877 wd878 wd7 wd879)) rfl rfl rfl ⟨rfl, hd_Mo_content⟩ ⟨Nat.le_of_ble_eq_true rfl, Nat.le_of_ble_eq_true rfl⟩) (z_preV zo_Mo rfl rfl hZ hK hT hS) rfl rfl hl.1 rfl (lv_room (Nat.le_of_ble_eq_true rfl)) d_La_law_915 ⟨by show 120 + 8 * j + 1 + 0 ≤ 601024; omega, by show zS0 + 48 * j + 6 + 0 ≤ 7293034; unfold zS0; omega⟩) hS (fun r115 M116 N117 H locs hw hZ hS => ?_)
                            refine lv_istore (pc := 918) (lv' := [(6, .int r115), (5, .int r112), (0, .ref sb), (1, .ref (b + 0)), (2, .ref (b + 99)), (3, .ref (b + 119)), (4, .int v4)]) hx hb d_La_law_918 hl (by decide) rfl (fun ls hl => ?_)
                            refine lv_aload_n (pc := 920) hx hb d_La_law_920 rfl (lv_at hl 4 rfl) ?_
                            refine z_calli (pc := 921) (va_runV (C := R_Mo) (b := b + 99) (As := []) (rest := []) ⟨hx, hb, hml, hown, hts⟩ (c_Mo_thrown l G b  M116 N117 hw) (cwV 0 hts (z_goodL (zgV wd797 wd798 wd799 wd7 wd800)) rfl rfl rfl ⟨rfl, hd_Mo_thrown⟩ ⟨Nat.le_of_ble_eq_true rfl, Nat.le_of_ble_eq_true rfl⟩) (z_preV zo_Mo rfl rfl hZ hK hT hS) rfl rfl hl.1 rfl (lv_room (Nat.le_of_ble_eq_true rfl)) d_La_law_921 ⟨by show 120 + 8 * j + 1 + 0 ≤ 601024; omega, by show zS0 + 48 * j + 6 + 0 ≤ 7293034; unfold zS0; omega⟩) hS (fun r118 M119 N120 H locs hw hZ hS => ?_)
                            obtain ⟨hw, eM119, eN120⟩ := hw
                            rw [eM119, eN120] at hZ
                            refine lv_iload (pc := 924) hx hb d_La_law_924 (lv_at hl 1 rfl) ?_
                            refine lv_icmp_eq (pc := 926) (tgt := 931) hx hb d_La_law_926 (by decide) (fun hc => ?_) (fun hc => ?_)
                            · have hw := hw.1 hc
                              refine lv_iload (pc := 931) hx hb d_La_law_931 (lv_at hl 1 rfl) ?_
                              refine lv_if_ne (pc := 933) (tgt := 948) hx hb d_La_law_933 (by decide) (fun hc => ?_) (fun hc => ?_)
                              · have hw := hw.1 hc
                                refine lv_goto (pc := 948) (tgt := 1418) hx hb d_La_law_948 (by decide) ?_
                                refine lv_iinc (pc := 1418) (k := 6) (v := v4 + (5 : Int32)) (lv' := [(4, .int (v4 + (5 : Int32))), (6, .int r115), (5, .int r112), (0, .ref sb), (1, .ref (b + 0)), (2, .ref (b + 99)), (3, .ref (b + 119))]) hx hb d_La_law_1418 hl rfl (by rfl) (by decide) rfl (fun ls hl => ?_)
                                refine lv_goto (pc := 1421) (tgt := 23) hx hb d_La_law_1421 (by decide) ?_
                                refine W.widen (k := 120 + 8 * (j + 1)) (n := zS0 + 48 * (j + 1)) (by omega) (by omega) ?_
                                exact ih23 (v4 + (5 : Int32)) M116 N117 (j + 1) _ _ _ (z_next hj) (z_room hj hc23 (by omega) hjL) hZ hS (lv_sub hl [3, 4, 5, 6, 0] rfl) hw
                              · have hw := hw.2 hc
                                refine lv_aload_n (pc := 936) hx hb d_La_law_936 rfl (lv_at hl 5 rfl) ?_
                                refine lv_iconst (pc := 937) (v := 0) hx hb d_La_law_937 (by decide) ?_
                                obtain ⟨hc, hw⟩ := hw
                                refine z_lald (pc := 938) hx hb hK hZ hc d_La_law_938 ?_
                                refine lv_iload (pc := 939) hx hb d_La_law_939 (lv_at hl 0 rfl) ?_
                                refine lv_i2l (pc := 941) (v := r115.toInt64) hx hb d_La_law_941 rfl ?_
                                refine z_lc_eq (pc := 942) (tgt := 948) hx hb d_La_law_942 d_La_law_943 (by decide) (fun hc => ?_) (fun hc => ?_)
                                · have hw := hw.1 hc
                                  refine lv_goto (pc := 948) (tgt := 1418) hx hb d_La_law_948 (by decide) ?_
                                  refine lv_iinc (pc := 1418) (k := 6) (v := v4 + (5 : Int32)) (lv' := [(4, .int (v4 + (5 : Int32))), (6, .int r115), (5, .int r112), (0, .ref sb), (1, .ref (b + 0)), (2, .ref (b + 99)), (3, .ref (b + 119))]) hx hb d_La_law_1418 hl rfl (by rfl) (by decide) rfl (fun ls hl => ?_)
                                  refine lv_goto (pc := 1421) (tgt := 23) hx hb d_La_law_1421 (by decide) ?_
                                  refine W.widen (k := 120 + 8 * (j + 1)) (n := zS0 + 48 * (j + 1)) (by omega) (by omega) ?_
                                  exact ih23 (v4 + (5 : Int32)) M116 N117 (j + 1) _ _ _ (z_next hj) (z_room hj hc23 (by omega) hjL) hZ hS (lv_sub hl [3, 4, 5, 6, 0] rfl) hw
                                · have hw := hw.2 hc
                                  refine lv_iconst (pc := 946) (v := 0) hx hb d_La_law_946 (by decide) ?_
                                  exact False.elim hw
                            · have hw := hw.2 hc
                              refine lv_iconst (pc := 929) (v := 0) hx hb d_La_law_929 (by decide) ?_
                              exact False.elim hw
                          · by_cases h11 : ((xs v4.toNatClampNeg) &&& (31 : Int32)) = 11
                            · rw [h11]
                              refine lv_tableIn (pc := 39) (tgt := 951) hx hb d_La_law_39 (by decide) (by decide) rfl (by decide) ?_
                              have hw := hw.2.2.2.2.2.2.2.2.2.2.2.1 h11
                              refine lv_aload_n (pc := 951) hx hb d_La_law_951 rfl (lv_at hl 1 rfl) ?_
                              refine lv_aload_n (pc := 952) hx hb d_La_law_952 rfl (lv_at hl 0 rfl) ?_
                              refine lv_iload (pc := 953) hx hb d_La_law_953 (lv_at hl 4 rfl) ?_
                              refine lv_iconst (pc := 955) (v := 1) hx hb d_La_law_955 (by decide) ?_
                              refine lv_iadd (pc := 956) hx hb d_La_law_956 ?_
                              obtain ⟨hc, hw⟩ := hw
                              refine va_sld (pc := 957) hx hb hX hXl hXA hS hc d_La_law_957 ?_
                              refine lv_aload_n (pc := 958) hx hb d_La_law_958 rfl (lv_at hl 3 rfl) ?_
                              refine z_calli (pc := 959) (vx_runSW (As := [.ref (b + 0), .int (xs (v4 + (1 : Int32)).toNatClampNeg), .ref (b + 119)]) (rest := []) ⟨hx, hb, hml, hown, hts⟩ (c_La_factor l hst G b (xs (v4 + (1 : Int32)).toNatClampNeg) M N hw) (vx_cwSW 3 hts (z_goodL (zgS wd502 wd503 wd0 wd504)) rfl rfl rfl hd_La_factor ⟨Nat.le_of_ble_eq_true rfl, Nat.le_of_ble_eq_true rfl⟩) (z_preS hZ hK hT hS) rfl rfl hl.1 rfl (lv_room (Nat.le_of_ble_eq_true rfl)) d_La_law_959 ⟨by show 120 + 8 * j + 0 + 2 ≤ 601024; omega, by show zS0 + 48 * j + 0 + 12 ≤ 7293034; unfold zS0; omega⟩) hS (fun r121 M122 N123 H locs hw hZ hS => ?_)
                              refine lv_istore (pc := 962) (lv' := [(5, .int r121), (0, .ref sb), (1, .ref (b + 0)), (2, .ref (b + 99)), (3, .ref (b + 119)), (4, .int v4)]) hx hb d_La_law_962 hl (by decide) rfl (fun ls hl => ?_)
                              refine lv_aload_n (pc := 964) hx hb d_La_law_964 rfl (lv_at hl 3 rfl) ?_
                              refine lv_aload_n (pc := 965) hx hb d_La_law_965 rfl (lv_at hl 1 rfl) ?_
                              refine lv_iload (pc := 966) hx hb d_La_law_966 (lv_at hl 5 rfl) ?_
                              refine lv_iconst (pc := 968) (v := 1) hx hb d_La_law_968 (by decide) ?_
                              refine lv_iadd (pc := 969) hx hb d_La_law_969 ?_
                              obtain ⟨hc, hw⟩ := hw
                              refine va_sld (pc := 970) hx hb hX hXl hXA hS hc d_La_law_970 ?_
                              refine z_calli (pc := 971) (va_runV (C := R_Mo) (b := b + 99) (As := [.int (xs (v4 + (1 : Int32)).toNatClampNeg)]) (rest := []) ⟨hx, hb, hml, hown, hts⟩ (c_Mo_factor l G b (xs (v4 + (1 : Int32)).toNatClampNeg) M122 N123 hw) (cwV 1 hts (z_goodL (zgV wd920 wd921 wd922 wd7 wd923)) rfl rfl rfl ⟨rfl, hd_Mo_factor⟩ ⟨Nat.le_of_ble_eq_true rfl, Nat.le_of_ble_eq_true rfl⟩) (z_preV zo_Mo rfl rfl hZ hK hT hS) rfl rfl hl.1 rfl (lv_room (Nat.le_of_ble_eq_true rfl)) d_La_law_971 ⟨by show 120 + 8 * j + 2 + 0 ≤ 601024; omega, by show zS0 + 48 * j + 12 + 0 ≤ 7293034; unfold zS0; omega⟩) hS (fun r124 M125 N126 H locs hw hZ hS => ?_)
                              refine lv_istore (pc := 974) (lv' := [(6, .int r124), (5, .int r121), (0, .ref sb), (1, .ref (b + 0)), (2, .ref (b + 99)), (3, .ref (b + 119)), (4, .int v4)]) hx hb d_La_law_974 hl (by decide) rfl (fun ls hl => ?_)
                              refine lv_aload_n (pc := 976) hx hb d_La_law_976 rfl (lv_at hl 4 rfl) ?_
                              refine z_calli (pc := 977) (va_runV (C := R_Mo) (b := b + 99) (As := []) (rest := []) ⟨hx, hb, hml, hown, hts⟩ (c_Mo_thrown l G b  M125 N126 hw) (cwV 0 hts (z_goodL (zgV wd797 wd798 wd799 wd7 wd800)) rfl rfl rfl ⟨rfl, hd_Mo_thrown⟩ ⟨Nat.le_of_ble_eq_true rfl, Nat.le_of_ble_eq_true rfl⟩) (z_preV zo_Mo rfl rfl hZ hK hT hS) rfl rfl hl.1 rfl (lv_room (Nat.le_of_ble_eq_true rfl)) d_La_law_977 ⟨by show 120 + 8 * j + 2 + 0 ≤ 601024; omega, by show zS0 + 48 * j + 12 + 0 ≤ 7293034; unfold zS0; omega⟩) hS (fun r127 M128 N129 H locs hw hZ hS => ?_)
                              obtain ⟨hw, eM128, eN129⟩ := hw
                              rw [eM128, eN129] at hZ
                              refine lv_iload (pc := 980) hx hb d_La_law_980 (lv_at hl 1 rfl) ?_
                              refine lv_icmp_eq (pc := 982) (tgt := 987) hx hb d_La_law_982 (by decide) (fun hc => ?_) (fun hc => ?_)
                              · have hw := hw.1 hc
                                refine lv_iload (pc := 987) hx hb d_La_law_987 (lv_at hl 1 rfl) ?_
                                refine lv_if_ne (pc := 989) (tgt := 1004) hx hb d_La_law_989 (by decide) (fun hc => ?_) (fun hc => ?_)
                                · have hw := hw.1 hc
                                  refine lv_goto (pc := 1004) (tgt := 1418) hx hb d_La_law_1004 (by decide) ?_
                                  refine lv_iinc (pc := 1418) (k := 6) (v := v4 + (5 : Int32)) (lv' := [(4, .int (v4 + (5 : Int32))), (6, .int r124), (5, .int r121), (0, .ref sb), (1, .ref (b + 0)), (2, .ref (b + 99)), (3, .ref (b + 119))]) hx hb d_La_law_1418 hl rfl (by rfl) (by decide) rfl (fun ls hl => ?_)
                                  refine lv_goto (pc := 1421) (tgt := 23) hx hb d_La_law_1421 (by decide) ?_
                                  refine W.widen (k := 120 + 8 * (j + 1)) (n := zS0 + 48 * (j + 1)) (by omega) (by omega) ?_
                                  exact ih23 (v4 + (5 : Int32)) M125 N126 (j + 1) _ _ _ (z_next hj) (z_room hj hc23 (by omega) hjL) hZ hS (lv_sub hl [3, 4, 5, 6, 0] rfl) hw
                                · have hw := hw.2 hc
                                  refine lv_aload_n (pc := 992) hx hb d_La_law_992 rfl (lv_at hl 5 rfl) ?_
                                  refine lv_iconst (pc := 993) (v := 0) hx hb d_La_law_993 (by decide) ?_
                                  obtain ⟨hc, hw⟩ := hw
                                  refine z_lald (pc := 994) hx hb hK hZ hc d_La_law_994 ?_
                                  refine lv_iload (pc := 995) hx hb d_La_law_995 (lv_at hl 0 rfl) ?_
                                  refine lv_i2l (pc := 997) (v := r124.toInt64) hx hb d_La_law_997 rfl ?_
                                  refine z_lc_eq (pc := 998) (tgt := 1004) hx hb d_La_law_998 d_La_law_999 (by decide) (fun hc => ?_) (fun hc => ?_)
                                  · have hw := hw.1 hc
                                    refine lv_goto (pc := 1004) (tgt := 1418) hx hb d_La_law_1004 (by decide) ?_
                                    refine lv_iinc (pc := 1418) (k := 6) (v := v4 + (5 : Int32)) (lv' := [(4, .int (v4 + (5 : Int32))), (6, .int r124), (5, .int r121), (0, .ref sb), (1, .ref (b + 0)), (2, .ref (b + 99)), (3, .ref (b + 119))]) hx hb d_La_law_1418 hl rfl (by rfl) (by decide) rfl (fun ls hl => ?_)
                                    refine lv_goto (pc := 1421) (tgt := 23) hx hb d_La_law_1421 (by decide) ?_
                                    refine W.widen (k := 120 + 8 * (j + 1)) (n := zS0 + 48 * (j + 1)) (by omega) (by omega) ?_
                                    exact ih23 (v4 + (5 : Int32)) M125 N126 (j + 1) _ _ _ (z_next hj) (z_room hj hc23 (by omega) hjL) hZ hS (lv_sub hl [3, 4, 5, 6, 0] rfl) hw
                                  · have hw := hw.2 hc
                                    refine lv_iconst (pc := 1002) (v := 0) hx hb d_La_law_1002 (by decide) ?_
                                    exact False.elim hw
                              · have hw := hw.2 hc
                                refine lv_iconst (pc := 985) (v := 0) hx hb d_La_law_985 (by decide) ?_
                                exact False.elim hw
                            · by_cases h12 : ((xs v4.toNatClampNeg) &&& (31 : Int32)) = 12
                              · rw [h12]
                                refine lv_tableIn (pc := 39) (tgt := 1007) hx hb d_La_law_39 (by decide) (by decide) rfl (by decide) ?_
                                have hw := hw.2.2.2.2.2.2.2.2.2.2.2.2.1 h12
                                refine lv_aload_n (pc := 1007) hx hb d_La_law_1007 rfl (lv_at hl 1 rfl) ?_
                                refine z_calli (pc := 1008) (va_runV (C := R_IS) (b := b + 0) (As := []) (rest := []) ⟨hx, hb, hml, hown, hts⟩ (c_IS_unit l G b  M N hw) (cwV 0 hts (z_goodL (zgV wd210 wd211 wd212 wd1 wd213)) rfl rfl rfl ⟨rfl, hd_IS_unit⟩ ⟨Nat.le_of_ble_eq_true rfl, Nat.le_of_ble_eq_true rfl⟩) (z_preV zo_IS rfl rfl hZ hK hT hS) rfl rfl hl.1 rfl (lv_room (Nat.le_of_ble_eq_true rfl)) d_La_law_1008 ⟨by show 120 + 8 * j + 0 + 0 ≤ 601024; omega, by show zS0 + 48 * j + 0 + 0 ≤ 7293034; unfold zS0; omega⟩) hS (fun r130 M131 N132 H locs hw hZ hS => ?_)
                                obtain ⟨hw, eM131, eN132⟩ := hw
                                rw [eM131, eN132] at hZ
                                refine lv_aload_n (pc := 1011) hx hb d_La_law_1011 rfl (lv_at hl 2 rfl) ?_
                                refine z_calli (pc := 1012) (va_runV (C := R_Mo) (b := b + 99) (As := []) (rest := [.int r130]) ⟨hx, hb, hml, hown, hts⟩ (c_Mo_unit l G b  M N hw) (cwV 0 hts (z_goodL (zgV wd983 wd984 wd985 wd7 wd986)) rfl rfl rfl ⟨rfl, hd_Mo_unit⟩ ⟨Nat.le_of_ble_eq_true rfl, Nat.le_of_ble_eq_true rfl⟩) (z_preV zo_Mo rfl rfl hZ hK hT hS) rfl rfl hl.1 rfl (lv_room (Nat.le_of_ble_eq_true rfl)) d_La_law_1012 ⟨by show 120 + 8 * j + 0 + 0 ≤ 601024; omega, by show zS0 + 48 * j + 0 + 0 ≤ 7293034; unfold zS0; omega⟩) hS (fun r133 M134 N135 H locs hw hZ hS => ?_)
                                obtain ⟨hw, eM134⟩ := hw
                                rw [eM134] at hZ
                                refine lv_icmp_eq (pc := 1015) (tgt := 1418) hx hb d_La_law_1015 (by decide) (fun hc => ?_) (fun hc => ?_)
                                · have hw := hw.1 hc
                                  refine lv_iinc (pc := 1418) (k := 4) (v := v4 + (5 : Int32)) (lv' := [(4, .int (v4 + (5 : Int32))), (0, .ref sb), (1, .ref (b + 0)), (2, .ref (b + 99)), (3, .ref (b + 119))]) hx hb d_La_law_1418 hl rfl (by rfl) (by decide) rfl (fun ls hl => ?_)
                                  refine lv_goto (pc := 1421) (tgt := 23) hx hb d_La_law_1421 (by decide) ?_
                                  refine W.widen (k := 120 + 8 * (j + 1)) (n := zS0 + 48 * (j + 1)) (by omega) (by omega) ?_
                                  exact ih23 (v4 + (5 : Int32)) M N135 (j + 1) _ _ _ (z_next hj) (z_room hj hc23 (by omega) hjL) hZ hS (lv_sub hl [1, 2, 3, 4, 0] rfl) hw
                                · have hw := hw.2 hc
                                  refine lv_iconst (pc := 1018) (v := 0) hx hb d_La_law_1018 (by decide) ?_
                                  exact False.elim hw
                              · by_cases h13 : ((xs v4.toNatClampNeg) &&& (31 : Int32)) = 13
                                · rw [h13]
                                  refine lv_tableIn (pc := 39) (tgt := 1020) hx hb d_La_law_39 (by decide) (by decide) rfl (by decide) ?_
                                  have hw := hw.2.2.2.2.2.2.2.2.2.2.2.2.2.1 h13
                                  refine lv_aload_n (pc := 1020) hx hb d_La_law_1020 rfl (lv_at hl 1 rfl) ?_
                                  refine lv_aload_n (pc := 1021) hx hb d_La_law_1021 rfl (lv_at hl 0 rfl) ?_
                                  refine lv_iload (pc := 1022) hx hb d_La_law_1022 (lv_at hl 4 rfl) ?_
                                  refine lv_iconst (pc := 1024) (v := 1) hx hb d_La_law_1024 (by decide) ?_
                                  refine lv_iadd (pc := 1025) hx hb d_La_law_1025 ?_
                                  obtain ⟨hc, hw⟩ := hw
                                  refine va_sld (pc := 1026) hx hb hX hXl hXA hS hc d_La_law_1026 ?_
                                  refine lv_aload_n (pc := 1027) hx hb d_La_law_1027 rfl (lv_at hl 3 rfl) ?_
                                  refine z_calli (pc := 1028) (vx_runSW (As := [.ref (b + 0), .int (xs (v4 + (1 : Int32)).toNatClampNeg), .ref (b + 119)]) (rest := []) ⟨hx, hb, hml, hown, hts⟩ (c_La_multiplicity l hst G b (xs (v4 + (1 : Int32)).toNatClampNeg) M N hw) (vx_cwSW 3 hts (z_goodL (zgS wd640 wd641 wd0 wd642)) rfl rfl rfl hd_La_multiplicity ⟨Nat.le_of_ble_eq_true rfl, Nat.le_of_ble_eq_true rfl⟩) (z_preS hZ hK hT hS) rfl rfl hl.1 rfl (lv_room (Nat.le_of_ble_eq_true rfl)) d_La_law_1028 ⟨by show 120 + 8 * j + 0 + 1 ≤ 601024; omega, by show zS0 + 48 * j + 0 + 6 ≤ 7293034; unfold zS0; omega⟩) hS (fun r136 M137 N138 H locs hw hZ hS => ?_)
                                  obtain ⟨hw, eN138⟩ := hw
                                  rw [eN138] at hZ
                                  refine lv_istore (pc := 1031) (lv' := [(5, .int r136), (0, .ref sb), (1, .ref (b + 0)), (2, .ref (b + 99)), (3, .ref (b + 119)), (4, .int v4)]) hx hb d_La_law_1031 hl (by decide) rfl (fun ls hl => ?_)
                                  refine lv_aload_n (pc := 1033) hx hb d_La_law_1033 rfl (lv_at hl 3 rfl) ?_
                                  refine lv_aload_n (pc := 1034) hx hb d_La_law_1034 rfl (lv_at hl 1 rfl) ?_
                                  refine lv_iload (pc := 1035) hx hb d_La_law_1035 (lv_at hl 5 rfl) ?_
                                  refine lv_iconst (pc := 1037) (v := 1) hx hb d_La_law_1037 (by decide) ?_
                                  refine lv_iadd (pc := 1038) hx hb d_La_law_1038 ?_
                                  obtain ⟨hc, hw⟩ := hw
                                  refine va_sld (pc := 1039) hx hb hX hXl hXA hS hc d_La_law_1039 ?_
                                  refine z_calli (pc := 1040) (va_runV (C := R_Mo) (b := b + 99) (As := [.int (xs (v4 + (1 : Int32)).toNatClampNeg)]) (rest := []) ⟨hx, hb, hml, hown, hts⟩ (c_Mo_multiplicity l G b (xs (v4 + (1 : Int32)).toNatClampNeg) M137 N hw) (cwV 1 hts (z_goodL (zgV wd987 wd988 wd989 wd7 wd990)) rfl rfl rfl ⟨rfl, hd_Mo_multiplicity⟩ ⟨Nat.le_of_ble_eq_true rfl, Nat.le_of_ble_eq_true rfl⟩) (z_preV zo_Mo rfl rfl hZ hK hT hS) rfl rfl hl.1 rfl (lv_room (Nat.le_of_ble_eq_true rfl)) d_La_law_1040 ⟨by show 120 + 8 * j + 1 + 0 ≤ 601024; omega, by show zS0 + 48 * j + 6 + 0 ≤ 7293034; unfold zS0; omega⟩) hS (fun r139 M140 N141 H locs hw hZ hS => ?_)
                                  obtain ⟨hw, eM140⟩ := hw
                                  rw [eM140] at hZ
                                  refine lv_istore (pc := 1043) (lv' := [(6, .int r139), (5, .int r136), (0, .ref sb), (1, .ref (b + 0)), (2, .ref (b + 99)), (3, .ref (b + 119)), (4, .int v4)]) hx hb d_La_law_1043 hl (by decide) rfl (fun ls hl => ?_)
                                  refine lv_aload_n (pc := 1045) hx hb d_La_law_1045 rfl (lv_at hl 4 rfl) ?_
                                  refine z_calli (pc := 1046) (va_runV (C := R_Mo) (b := b + 99) (As := []) (rest := []) ⟨hx, hb, hml, hown, hts⟩ (c_Mo_thrown l G b  M137 N141 hw) (cwV 0 hts (z_goodL (zgV wd797 wd798 wd799 wd7 wd800)) rfl rfl rfl ⟨rfl, hd_Mo_thrown⟩ ⟨Nat.le_of_ble_eq_true rfl, Nat.le_of_ble_eq_true rfl⟩) (z_preV zo_Mo rfl rfl hZ hK hT hS) rfl rfl hl.1 rfl (lv_room (Nat.le_of_ble_eq_true rfl)) d_La_law_1046 ⟨by show 120 + 8 * j + 1 + 0 ≤ 601024; omega, by show zS0 + 48 * j + 6 + 0 ≤ 7293034; unfold zS0; omega⟩) hS (fun r142 M143 N144 H locs hw hZ hS => ?_)
                                  obtain ⟨hw, eM143, eN144⟩ := hw
                                  rw [eM143, eN144] at hZ
                                  refine lv_iload (pc := 1049) hx hb d_La_law_1049 (lv_at hl 1 rfl) ?_
                                  refine lv_icmp_eq (pc := 1051) (tgt := 1056) hx hb d_La_law_1051 (by decide) (fun hc => ?_) (fun hc => ?_)
                                  · have hw := hw.1 hc
                                    refine lv_iload (pc := 1056) hx hb d_La_law_1056 (lv_at hl 1 rfl) ?_
                                    refine lv_if_ne (pc := 1058) (tgt := 1073) hx hb d_La_law_1058 (by decide) (fun hc => ?_) (fun hc => ?_)
                                    · have hw := hw.1 hc
                                      refine lv_goto (pc := 1073) (tgt := 1418) hx hb d_La_law_1073 (by decide) ?_
                                      refine lv_iinc (pc := 1418) (k := 6) (v := v4 + (5 : Int32)) (lv' := [(4, .int (v4 + (5 : Int32))), (6, .int r139), (5, .int r136), (0, .ref sb), (1, .ref (b + 0)), (2, .ref (b + 99)), (3, .ref (b + 119))]) hx hb d_La_law_1418 hl rfl (by rfl) (by decide) rfl (fun ls hl => ?_)
                                      refine lv_goto (pc := 1421) (tgt := 23) hx hb d_La_law_1421 (by decide) ?_
                                      refine W.widen (k := 120 + 8 * (j + 1)) (n := zS0 + 48 * (j + 1)) (by omega) (by omega) ?_
                                      exact ih23 (v4 + (5 : Int32)) M137 N141 (j + 1) _ _ _ (z_next hj) (z_room hj hc23 (by omega) hjL) hZ hS (lv_sub hl [3, 4, 5, 6, 0] rfl) hw
                                    · have hw := hw.2 hc
                                      refine lv_aload_n (pc := 1061) hx hb d_La_law_1061 rfl (lv_at hl 5 rfl) ?_
                                      refine lv_iconst (pc := 1062) (v := 0) hx hb d_La_law_1062 (by decide) ?_
                                      obtain ⟨hc, hw⟩ := hw
                                      refine z_lald (pc := 1063) hx hb hK hZ hc d_La_law_1063 ?_
                                      refine lv_iload (pc := 1064) hx hb d_La_law_1064 (lv_at hl 0 rfl) ?_
                                      refine lv_i2l (pc := 1066) (v := r139.toInt64) hx hb d_La_law_1066 rfl ?_
                                      refine z_lc_eq (pc := 1067) (tgt := 1073) hx hb d_La_law_1067 d_La_law_1068 (by decide) (fun hc => ?_) (fun hc => ?_)
                                      · have hw := hw.1 hc
                                        refine lv_goto (pc := 1073) (tgt := 1418) hx hb d_La_law_1073 (by decide) ?_
                                        refine lv_iinc (pc := 1418) (k := 6) (v := v4 + (5 : Int32)) (lv' := [(4, .int (v4 + (5 : Int32))), (6, .int r139), (5, .int r136), (0, .ref sb), (1, .ref (b + 0)), (2, .ref (b + 99)), (3, .ref (b + 119))]) hx hb d_La_law_1418 hl rfl (by rfl) (by decide) rfl (fun ls hl => ?_)
                                        refine lv_goto (pc := 1421) (tgt := 23) hx hb d_La_law_1421 (by decide) ?_
                                        refine W.widen (k := 120 + 8 * (j + 1)) (n := zS0 + 48 * (j + 1)) (by omega) (by omega) ?_
                                        exact ih23 (v4 + (5 : Int32)) M137 N141 (j + 1) _ _ _ (z_next hj) (z_room hj hc23 (by omega) hjL) hZ hS (lv_sub hl [3, 4, 5, 6, 0] rfl) hw
                                      · have hw := hw.2 hc
                                        refine lv_iconst (pc := 1071) (v := 0) hx hb d_La_law_1071 (by decide) ?_
                                        exact False.elim hw
                                  · have hw := hw.2 hc
                                    refine lv_iconst (pc := 1054) (v := 0) hx hb d_La_law_1054 (by decide) ?_
                                    exact False.elim hw
                                · by_cases h14 : ((xs v4.toNatClampNeg) &&& (31 : Int32)) = 14
                                  · rw [h14]
                                    refine lv_tableIn (pc := 39) (tgt := 1076) hx hb d_La_law_39 (by decide) (by decide) rfl (by decide) ?_
                                    have hw := hw.2.2.2.2.2.2.2.2.2.2.2.2.2.2.1 h14
                                    refine lv_aload_n (pc := 1076) hx hb d_La_law_1076 rfl (lv_at hl 1 rfl) ?_
                                    refine lv_aload_n (pc := 1077) hx hb d_La_law_1077 rfl (lv_at hl 0 rfl) ?_
                                    refine lv_iload (pc := 1078) hx hb d_La_law_1078 (lv_at hl 4 rfl) ?_
                                    refine lv_iconst (pc := 1080) (v := 1) hx hb d_La_law_1080 (by decide) ?_
                                    refine lv_iadd (pc := 1081) hx hb d_La_law_1081 ?_
                                    obtain ⟨hc, hw⟩ := hw
                                    refine va_sld (pc := 1082) hx hb hX hXl hXA hS hc d_La_law_1082 ?_
                                    refine lv_aload_n (pc := 1083) hx hb d_La_law_1083 rfl (lv_at hl 0 rfl) ?_
                                    refine lv_iload (pc := 1084) hx hb d_La_law_1084 (lv_at hl 4 rfl) ?_
                                    refine lv_iconst (pc := 1086) (v := 2) hx hb d_La_law_1086 (by decide) ?_
                                    refine lv_iadd (pc := 1087) hx hb d_La_law_1087 ?_
                                    obtain ⟨hc, hw⟩ := hw
                                    refine va_sld (pc := 1088) hx hb hX hXl hXA hS hc d_La_law_1088 ?_
                                    refine lv_aload_n (pc := 1089) hx hb d_La_law_1089 rfl (lv_at hl 3 rfl) ?_
                                    refine z_calli (pc := 1090) (vx_runSW (As := [.ref (b + 0), .int (xs (v4 + (1 : Int32)).toNatClampNeg), .int (xs (v4 + (2 : Int32)).toNatClampNeg), .ref (b + 119)]) (rest := []) ⟨hx, hb, hml, hown, hts⟩ (c_La_factorAt l hst G b (xs (v4 + (1 : Int32)).toNatClampNeg) (xs (v4 + (2 : Int32)).toNatClampNeg) M N hw) (vx_cwSW 4 hts (z_goodL (zgS wd667 wd668 wd0 wd669)) rfl rfl rfl hd_La_factorAt ⟨Nat.le_of_ble_eq_true rfl, Nat.le_of_ble_eq_true rfl⟩) (z_preS hZ hK hT hS) rfl rfl hl.1 rfl (lv_room (Nat.le_of_ble_eq_true rfl)) d_La_law_1090 ⟨by show 120 + 8 * j + 0 + 1 ≤ 601024; omega, by show zS0 + 48 * j + 0 + 6 ≤ 7293034; unfold zS0; omega⟩) hS (fun r145 M146 N147 H locs hw hZ hS => ?_)
                                    obtain ⟨hw, eN147⟩ := hw
                                    rw [eN147] at hZ
                                    refine lv_istore (pc := 1093) (lv' := [(5, .int r145), (0, .ref sb), (1, .ref (b + 0)), (2, .ref (b + 99)), (3, .ref (b + 119)), (4, .int v4)]) hx hb d_La_law_1093 hl (by decide) rfl (fun ls hl => ?_)
                                    refine lv_aload_n (pc := 1095) hx hb d_La_law_1095 rfl (lv_at hl 3 rfl) ?_
                                    refine lv_aload_n (pc := 1096) hx hb d_La_law_1096 rfl (lv_at hl 1 rfl) ?_
                                    refine lv_iload (pc := 1097) hx hb d_La_law_1097 (lv_at hl 5 rfl) ?_
                                    refine lv_iconst (pc := 1099) (v := 1) hx hb d_La_law_1099 (by decide) ?_
                                    refine lv_iadd (pc := 1100) hx hb d_La_law_1100 ?_
                                    obtain ⟨hc, hw⟩ := hw
                                    refine va_sld (pc := 1101) hx hb hX hXl hXA hS hc d_La_law_1101 ?_
                                    refine lv_aload_n (pc := 1102) hx hb d_La_law_1102 rfl (lv_at hl 1 rfl) ?_
                                    refine lv_iload (pc := 1103) hx hb d_La_law_1103 (lv_at hl 5 rfl) ?_
                                    refine lv_iconst (pc := 1105) (v := 2) hx hb d_La_law_1105 (by decide) ?_
                                    refine lv_iadd (pc := 1106) hx hb d_La_law_1106 ?_
                                    obtain ⟨hc, hw⟩ := hw
                                    refine va_sld (pc := 1107) hx hb hX hXl hXA hS hc d_La_law_1107 ?_
                                    refine z_calli (pc := 1108) (va_runV (C := R_Mo) (b := b + 99) (As := [.int (xs (v4 + (1 : Int32)).toNatClampNeg), .int (xs (v4 + (2 : Int32)).toNatClampNeg)]) (rest := []) ⟨hx, hb, hml, hown, hts⟩ (c_Mo_factorAt l G b (xs (v4 + (1 : Int32)).toNatClampNeg) (xs (v4 + (2 : Int32)).toNatClampNeg) M146 N hw) (cwV 2 hts (z_goodL (zgV wd995 wd996 wd997 wd7 wd998)) rfl rfl rfl ⟨rfl, hd_Mo_factorAt⟩ ⟨Nat.le_of_ble_eq_true rfl, Nat.le_of_ble_eq_true rfl⟩) (z_preV zo_Mo rfl rfl hZ hK hT hS) rfl rfl hl.1 rfl (lv_room (Nat.le_of_ble_eq_true rfl)) d_La_law_1108 ⟨by show 120 + 8 * j + 1 + 0 ≤ 601024; omega, by show zS0 + 48 * j + 6 + 0 ≤ 7293034; unfold zS0; omega⟩) hS (fun r148 M149 N150 H locs hw hZ hS => ?_)
                                    obtain ⟨hw, eM149⟩ := hw
                                    rw [eM149] at hZ
                                    refine lv_istore (pc := 1111) (lv' := [(6, .int r148), (5, .int r145), (0, .ref sb), (1, .ref (b + 0)), (2, .ref (b + 99)), (3, .ref (b + 119)), (4, .int v4)]) hx hb d_La_law_1111 hl (by decide) rfl (fun ls hl => ?_)
                                    refine lv_aload_n (pc := 1113) hx hb d_La_law_1113 rfl (lv_at hl 4 rfl) ?_
                                    refine z_calli (pc := 1114) (va_runV (C := R_Mo) (b := b + 99) (As := []) (rest := []) ⟨hx, hb, hml, hown, hts⟩ (c_Mo_thrown l G b  M146 N150 hw) (cwV 0 hts (z_goodL (zgV wd797 wd798 wd799 wd7 wd800)) rfl rfl rfl ⟨rfl, hd_Mo_thrown⟩ ⟨Nat.le_of_ble_eq_true rfl, Nat.le_of_ble_eq_true rfl⟩) (z_preV zo_Mo rfl rfl hZ hK hT hS) rfl rfl hl.1 rfl (lv_room (Nat.le_of_ble_eq_true rfl)) d_La_law_1114 ⟨by show 120 + 8 * j + 1 + 0 ≤ 601024; omega, by show zS0 + 48 * j + 6 + 0 ≤ 7293034; unfold zS0; omega⟩) hS (fun r151 M152 N153 H locs hw hZ hS => ?_)
                                    obtain ⟨hw, eM152, eN153⟩ := hw
                                    rw [eM152, eN153] at hZ
                                    refine lv_iload (pc := 1117) hx hb d_La_law_1117 (lv_at hl 1 rfl) ?_
                                    refine lv_icmp_eq (pc := 1119) (tgt := 1124) hx hb d_La_law_1119 (by decide) (fun hc => ?_) (fun hc => ?_)
                                    · have hw := hw.1 hc
                                      refine lv_iload (pc := 1124) hx hb d_La_law_1124 (lv_at hl 1 rfl) ?_
                                      refine lv_if_ne (pc := 1126) (tgt := 1141) hx hb d_La_law_1126 (by decide) (fun hc => ?_) (fun hc => ?_)
                                      · have hw := hw.1 hc
                                        refine lv_goto (pc := 1141) (tgt := 1418) hx hb d_La_law_1141 (by decide) ?_
                                        refine lv_iinc (pc := 1418) (k := 6) (v := v4 + (5 : Int32)) (lv' := [(4, .int (v4 + (5 : Int32))), (6, .int r148), (5, .int r145), (0, .ref sb), (1, .ref (b + 0)), (2, .ref (b + 99)), (3, .ref (b + 119))]) hx hb d_La_law_1418 hl rfl (by rfl) (by decide) rfl (fun ls hl => ?_)
                                        refine lv_goto (pc := 1421) (tgt := 23) hx hb d_La_law_1421 (by decide) ?_
                                        refine W.widen (k := 120 + 8 * (j + 1)) (n := zS0 + 48 * (j + 1)) (by omega) (by omega) ?_
                                        exact ih23 (v4 + (5 : Int32)) M146 N150 (j + 1) _ _ _ (z_next hj) (z_room hj hc23 (by omega) hjL) hZ hS (lv_sub hl [3, 4, 5, 6, 0] rfl) hw
                                      · have hw := hw.2 hc
                                        refine lv_aload_n (pc := 1129) hx hb d_La_law_1129 rfl (lv_at hl 5 rfl) ?_
                                        refine lv_iconst (pc := 1130) (v := 0) hx hb d_La_law_1130 (by decide) ?_
                                        obtain ⟨hc, hw⟩ := hw
                                        refine z_lald (pc := 1131) hx hb hK hZ hc d_La_law_1131 ?_
                                        refine lv_iload (pc := 1132) hx hb d_La_law_1132 (lv_at hl 0 rfl) ?_
                                        refine lv_i2l (pc := 1134) (v := r148.toInt64) hx hb d_La_law_1134 rfl ?_
                                        refine z_lc_eq (pc := 1135) (tgt := 1141) hx hb d_La_law_1135 d_La_law_1136 (by decide) (fun hc => ?_) (fun hc => ?_)
                                        · have hw := hw.1 hc
                                          refine lv_goto (pc := 1141) (tgt := 1418) hx hb d_La_law_1141 (by decide) ?_
                                          refine lv_iinc (pc := 1418) (k := 6) (v := v4 + (5 : Int32)) (lv' := [(4, .int (v4 + (5 : Int32))), (6, .int r148), (5, .int r145), (0, .ref sb), (1, .ref (b + 0)), (2, .ref (b + 99)), (3, .ref (b + 119))]) hx hb d_La_law_1418 hl rfl (by rfl) (by decide) rfl (fun ls hl => ?_)
                                          refine lv_goto (pc := 1421) (tgt := 23) hx hb d_La_law_1421 (by decide) ?_
                                          refine W.widen (k := 120 + 8 * (j + 1)) (n := zS0 + 48 * (j + 1)) (by omega) (by omega) ?_
                                          exact ih23 (v4 + (5 : Int32)) M146 N150 (j + 1) _ _ _ (z_next hj) (z_room hj hc23 (by omega) hjL) hZ hS (lv_sub hl [3, 4, 5, 6, 0] rfl) hw
                                        · have hw := hw.2 hc
                                          refine lv_iconst (pc := 1139) (v := 0) hx hb d_La_law_1139 (by decide) ?_
                                          exact False.elim hw
                                    · have hw := hw.2 hc
                                      refine lv_iconst (pc := 1122) (v := 0) hx hb d_La_law_1122 (by decide) ?_
                                      exact False.elim hw
                                  · by_cases h15 : ((xs v4.toNatClampNeg) &&& (31 : Int32)) = 15
                                    · rw [h15]
                                      refine lv_tableIn (pc := 39) (tgt := 1144) hx hb d_La_law_39 (by decide) (by decide) rfl (by decide) ?_
                                      have hw := hw.2.2.2.2.2.2.2.2.2.2.2.2.2.2.2.1 h15
                                      refine lv_aload_n (pc := 1144) hx hb d_La_law_1144 rfl (lv_at hl 1 rfl) ?_
                                      refine lv_aload_n (pc := 1145) hx hb d_La_law_1145 rfl (lv_at hl 0 rfl) ?_
                                      refine lv_iload (pc := 1146) hx hb d_La_law_1146 (lv_at hl 4 rfl) ?_
                                      refine lv_iconst (pc := 1148) (v := 1) hx hb d_La_law_1148 (by decide) ?_
                                      refine lv_iadd (pc := 1149) hx hb d_La_law_1149 ?_
                                      obtain ⟨hc, hw⟩ := hw
                                      refine va_sld (pc := 1150) hx hb hX hXl hXA hS hc d_La_law_1150 ?_
                                      refine lv_aload_n (pc := 1151) hx hb d_La_law_1151 rfl (lv_at hl 0 rfl) ?_
                                      refine lv_iload (pc := 1152) hx hb d_La_law_1152 (lv_at hl 4 rfl) ?_
                                      refine lv_iconst (pc := 1154) (v := 2) hx hb d_La_law_1154 (by decide) ?_
                                      refine lv_iadd (pc := 1155) hx hb d_La_law_1155 ?_
                                      obtain ⟨hc, hw⟩ := hw
                                      refine va_sld (pc := 1156) hx hb hX hXl hXA hS hc d_La_law_1156 ?_
                                      refine lv_aload_n (pc := 1157) hx hb d_La_law_1157 rfl (lv_at hl 3 rfl) ?_
                                      refine z_calli (pc := 1158) (vx_runSW (As := [.ref (b + 0), .int (xs (v4 + (1 : Int32)).toNatClampNeg), .int (xs (v4 + (2 : Int32)).toNatClampNeg), .ref (b + 119)]) (rest := []) ⟨hx, hb, hml, hown, hts⟩ (c_La_take l hst G b (xs (v4 + (1 : Int32)).toNatClampNeg) (xs (v4 + (2 : Int32)).toNatClampNeg) M N hw) (vx_cwSW 4 hts (z_goodL (zgS wd674 wd675 wd0 wd676)) rfl rfl rfl hd_La_take ⟨Nat.le_of_ble_eq_true rfl, Nat.le_of_ble_eq_true rfl⟩) (z_preS hZ hK hT hS) rfl rfl hl.1 rfl (lv_room (Nat.le_of_ble_eq_true rfl)) d_La_law_1158 ⟨by show 120 + 8 * j + 0 + 2 ≤ 601024; omega, by show zS0 + 48 * j + 0 + 12 ≤ 7293034; unfold zS0; omega⟩) hS (fun r154 M155 N156 H locs hw hZ hS => ?_)
                                      obtain ⟨hw, eN156⟩ := hw
                                      rw [eN156] at hZ
                                      refine lv_istore (pc := 1161) (lv' := [(5, .int r154), (0, .ref sb), (1, .ref (b + 0)), (2, .ref (b + 99)), (3, .ref (b + 119)), (4, .int v4)]) hx hb d_La_law_1161 hl (by decide) rfl (fun ls hl => ?_)
                                      refine lv_aload_n (pc := 1163) hx hb d_La_law_1163 rfl (lv_at hl 3 rfl) ?_
                                      refine lv_aload_n (pc := 1164) hx hb d_La_law_1164 rfl (lv_at hl 1 rfl) ?_
                                      refine lv_iload (pc := 1165) hx hb d_La_law_1165 (lv_at hl 5 rfl) ?_
                                      refine lv_iconst (pc := 1167) (v := 1) hx hb d_La_law_1167 (by decide) ?_
                                      refine lv_iadd (pc := 1168) hx hb d_La_law_1168 ?_
                                      obtain ⟨hc, hw⟩ := hw
                                      refine va_sld (pc := 1169) hx hb hX hXl hXA hS hc d_La_law_1169 ?_
                                      refine lv_aload_n (pc := 1170) hx hb d_La_law_1170 rfl (lv_at hl 1 rfl) ?_
                                      refine lv_iload (pc := 1171) hx hb d_La_law_1171 (lv_at hl 5 rfl) ?_
                                      refine lv_iconst (pc := 1173) (v := 2) hx hb d_La_law_1173 (by decide) ?_
                                      refine lv_iadd (pc := 1174) hx hb d_La_law_1174 ?_
                                      obtain ⟨hc, hw⟩ := hw
                                      refine va_sld (pc := 1175) hx hb hX hXl hXA hS hc d_La_law_1175 ?_
                                      refine z_calli (pc := 1176) (va_runV (C := R_Mo) (b := b + 99) (As := [.int (xs (v4 + (1 : Int32)).toNatClampNeg), .int (xs (v4 + (2 : Int32)).toNatClampNeg)]) (rest := []) ⟨hx, hb, hml, hown, hts⟩ (c_Mo_take l G b (xs (v4 + (1 : Int32)).toNatClampNeg) (xs (v4 + (2 : Int32)).toNatClampNeg) M155 N hw) (cwV 2 hts (z_goodL (zgV wd999 wd1000 wd1001 wd7 wd1002)) rfl rfl rfl ⟨rfl, hd_Mo_take⟩ ⟨Nat.le_of_ble_eq_true rfl, Nat.le_of_ble_eq_true rfl⟩) (z_preV zo_Mo rfl rfl hZ hK hT hS) rfl rfl hl.1 rfl (lv_room (Nat.le_of_ble_eq_true rfl)) d_La_law_1176 ⟨by show 120 + 8 * j + 2 + 0 ≤ 601024; omega, by show zS0 + 48 * j + 12 + 0 ≤ 7293034; unfold zS0; omega⟩) hS (fun r157 M158 N159 H locs hw hZ hS => ?_)
                                      refine lv_istore (pc := 1179) (lv' := [(6, .int r157), (5, .int r154), (0, .ref sb), (1, .ref (b + 0)), (2, .ref (b + 99)), (3, .ref (b + 119)), (4, .int v4)]) hx hb d_La_law_1179 hl (by decide) rfl (fun ls hl => ?_)
                                      refine lv_aload_n (pc := 1181) hx hb d_La_law_1181 rfl (lv_at hl 4 rfl) ?_
                                      refine z_calli (pc := 1182) (va_runV (C := R_Mo) (b := b + 99) (As := []) (rest := []) ⟨hx, hb, hml, hown, hts⟩ (c_Mo_thrown l G b  M158 N159 hw) (cwV 0 hts (z_goodL (zgV wd797 wd798 wd799 wd7 wd800)) rfl rfl rfl ⟨rfl, hd_Mo_thrown⟩ ⟨Nat.le_of_ble_eq_true rfl, Nat.le_of_ble_eq_true rfl⟩) (z_preV zo_Mo rfl rfl hZ hK hT hS) rfl rfl hl.1 rfl (lv_room (Nat.le_of_ble_eq_true rfl)) d_La_law_1182 ⟨by show 120 + 8 * j + 2 + 0 ≤ 601024; omega, by show zS0 + 48 * j + 12 + 0 ≤ 7293034; unfold zS0; omega⟩) hS (fun r160 M161 N162 H locs hw hZ hS => ?_)
                                      obtain ⟨hw, eM161, eN162⟩ := hw
                                      rw [eM161, eN162] at hZ
                                      refine lv_iload (pc := 1185) hx hb d_La_law_1185 (lv_at hl 1 rfl) ?_
                                      refine lv_icmp_eq (pc := 1187) (tgt := 1192) hx hb d_La_law_1187 (by decide) (fun hc => ?_) (fun hc => ?_)
                                      · have hw := hw.1 hc
                                        refine lv_iload (pc := 1192) hx hb d_La_law_1192 (lv_at hl 1 rfl) ?_
                                        refine lv_if_ne (pc := 1194) (tgt := 1216) hx hb d_La_law_1194 (by decide) (fun hc => ?_) (fun hc => ?_)
                                        · have hw := hw.1 hc
                                          refine lv_goto (pc := 1216) (tgt := 1418) hx hb d_La_law_1216 (by decide) ?_
                                          refine lv_iinc (pc := 1418) (k := 6) (v := v4 + (5 : Int32)) (lv' := [(4, .int (v4 + (5 : Int32))), (6, .int r157), (5, .int r154), (0, .ref sb), (1, .ref (b + 0)), (2, .ref (b + 99)), (3, .ref (b + 119))]) hx hb d_La_law_1418 hl rfl (by rfl) (by decide) rfl (fun ls hl => ?_)
                                          refine lv_goto (pc := 1421) (tgt := 23) hx hb d_La_law_1421 (by decide) ?_
                                          refine W.widen (k := 120 + 8 * (j + 1)) (n := zS0 + 48 * (j + 1)) (by omega) (by omega) ?_
                                          exact ih23 (v4 + (5 : Int32)) M158 N159 (j + 1) _ _ _ (z_next hj) (z_room hj hc23 (by omega) hjL) hZ hS (lv_sub hl [3, 4, 5, 6, 0] rfl) hw
                                        · have hw := hw.2 hc
                                          refine lv_aload_n (pc := 1197) hx hb d_La_law_1197 rfl (lv_at hl 5 rfl) ?_
                                          refine lv_iconst (pc := 1198) (v := 0) hx hb d_La_law_1198 (by decide) ?_
                                          obtain ⟨hc, hw⟩ := hw
                                          refine z_lald (pc := 1199) hx hb hK hZ hc d_La_law_1199 ?_
                                          refine lv_iload (pc := 1200) hx hb d_La_law_1200 (lv_at hl 0 rfl) ?_
                                          refine lv_if_eq (pc := 1202) (tgt := 1209) hx hb d_La_law_1202 (by decide) (fun hc => ?_) (fun hc => ?_)
                                          · have hw := hw.1 hc
                                            refine lv_lconst (pc := 1209) (v := 0) hx hb d_La_law_1209 (by decide) ?_
                                            refine z_lc_eq (pc := 1210) (tgt := 1216) hx hb d_La_law_1210 d_La_law_1211 (by decide) (fun hc => ?_) (fun hc => ?_)
                                            · have hw := hw.1 hc
                                              refine lv_goto (pc := 1216) (tgt := 1418) hx hb d_La_law_1216 (by decide) ?_
                                              refine lv_iinc (pc := 1418) (k := 6) (v := v4 + (5 : Int32)) (lv' := [(4, .int (v4 + (5 : Int32))), (6, .int r157), (5, .int r154), (0, .ref sb), (1, .ref (b + 0)), (2, .ref (b + 99)), (3, .ref (b + 119))]) hx hb d_La_law_1418 hl rfl (by rfl) (by decide) rfl (fun ls hl => ?_)
                                              refine lv_goto (pc := 1421) (tgt := 23) hx hb d_La_law_1421 (by decide) ?_
                                              refine W.widen (k := 120 + 8 * (j + 1)) (n := zS0 + 48 * (j + 1)) (by omega) (by omega) ?_
                                              exact ih23 (v4 + (5 : Int32)) M158 N159 (j + 1) _ _ _ (z_next hj) (z_room hj hc23 (by omega) hjL) hZ hS (lv_sub hl [3, 4, 5, 6, 0] rfl) hw
                                            · have hw := hw.2 hc
                                              refine lv_iconst (pc := 1214) (v := 0) hx hb d_La_law_1214 (by decide) ?_
                                              exact False.elim hw
                                          · have hw := hw.2 hc
                                            refine lv_lconst (pc := 1205) (v := 1) hx hb d_La_law_1205 (by decide) ?_
                                            refine lv_goto (pc := 1206) (tgt := 1210) hx hb d_La_law_1206 (by decide) ?_
                                            refine z_lc_eq (pc := 1210) (tgt := 1216) hx hb d_La_law_1210 d_La_law_1211 (by decide) (fun hc => ?_) (fun hc => ?_)
                                            · have hw := hw.1 hc
                                              refine lv_goto (pc := 1216) (tgt := 1418) hx hb d_La_law_1216 (by decide) ?_
                                              refine lv_iinc (pc := 1418) (k := 6) (v := v4 + (5 : Int32)) (lv' := [(4, .int (v4 + (5 : Int32))), (6, .int r157), (5, .int r154), (0, .ref sb), (1, .ref (b + 0)), (2, .ref (b + 99)), (3, .ref (b + 119))]) hx hb d_La_law_1418 hl rfl (by rfl) (by decide) rfl (fun ls hl => ?_)
                                              refine lv_goto (pc := 1421) (tgt := 23) hx hb d_La_law_1421 (by decide) ?_
                                              refine W.widen (k := 120 + 8 * (j + 1)) (n := zS0 + 48 * (j + 1)) (by omega) (by omega) ?_
                                              exact ih23 (v4 + (5 : Int32)) M158 N159 (j + 1) _ _ _ (z_next hj) (z_room hj hc23 (by omega) hjL) hZ hS (lv_sub hl [3, 4, 5, 6, 0] rfl) hw
                                            · have hw := hw.2 hc
                                              refine lv_iconst (pc := 1214) (v := 0) hx hb d_La_law_1214 (by decide) ?_
                                              exact False.elim hw
                                      · have hw := hw.2 hc
                                        refine lv_iconst (pc := 1190) (v := 0) hx hb d_La_law_1190 (by decide) ?_
                                        exact False.elim hw
                                    · by_cases h16 : ((xs v4.toNatClampNeg) &&& (31 : Int32)) = 16
                                      · rw [h16]
                                        refine lv_tableIn (pc := 39) (tgt := 1219) hx hb d_La_law_39 (by decide) (by decide) rfl (by decide) ?_
                                        have hw := hw.2.2.2.2.2.2.2.2.2.2.2.2.2.2.2.2.1 h16
                                        refine lv_aload_n (pc := 1219) hx hb d_La_law_1219 rfl (lv_at hl 1 rfl) ?_
                                        refine lv_aload_n (pc := 1220) hx hb d_La_law_1220 rfl (lv_at hl 0 rfl) ?_
                                        refine lv_iload (pc := 1221) hx hb d_La_law_1221 (lv_at hl 4 rfl) ?_
                                        refine lv_iconst (pc := 1223) (v := 1) hx hb d_La_law_1223 (by decide) ?_
                                        refine lv_iadd (pc := 1224) hx hb d_La_law_1224 ?_
                                        obtain ⟨hc, hw⟩ := hw
                                        refine va_sld (pc := 1225) hx hb hX hXl hXA hS hc d_La_law_1225 ?_
                                        refine lv_aload_n (pc := 1226) hx hb d_La_law_1226 rfl (lv_at hl 3 rfl) ?_
                                        refine z_calli (pc := 1227) (vx_runSW (As := [.ref (b + 0), .int (xs (v4 + (1 : Int32)).toNatClampNeg), .ref (b + 119)]) (rest := []) ⟨hx, hb, hml, hown, hts⟩ (c_La_prime l hst G b (xs (v4 + (1 : Int32)).toNatClampNeg) M N hw) (vx_cwSW 3 hts (z_goodL (zgS wd681 wd682 wd0 wd683)) rfl rfl rfl hd_La_prime ⟨Nat.le_of_ble_eq_true rfl, Nat.le_of_ble_eq_true rfl⟩) (z_preS hZ hK hT hS) rfl rfl hl.1 rfl (lv_room (Nat.le_of_ble_eq_true rfl)) d_La_law_1227 ⟨by show 120 + 8 * j + 0 + 1 ≤ 601024; omega, by show zS0 + 48 * j + 0 + 6 ≤ 7293034; unfold zS0; omega⟩) hS (fun r163 M164 N165 H locs hw hZ hS => ?_)
                                        refine lv_istore (pc := 1230) (lv' := [(5, .int r163), (0, .ref sb), (1, .ref (b + 0)), (2, .ref (b + 99)), (3, .ref (b + 119)), (4, .int v4)]) hx hb d_La_law_1230 hl (by decide) rfl (fun ls hl => ?_)
                                        refine lv_aload_n (pc := 1232) hx hb d_La_law_1232 rfl (lv_at hl 3 rfl) ?_
                                        refine lv_aload_n (pc := 1233) hx hb d_La_law_1233 rfl (lv_at hl 1 rfl) ?_
                                        refine lv_iload (pc := 1234) hx hb d_La_law_1234 (lv_at hl 5 rfl) ?_
                                        refine lv_iconst (pc := 1236) (v := 1) hx hb d_La_law_1236 (by decide) ?_
                                        refine lv_iadd (pc := 1237) hx hb d_La_law_1237 ?_
                                        obtain ⟨hc, hw⟩ := hw
                                        refine va_sld (pc := 1238) hx hb hX hXl hXA hS hc d_La_law_1238 ?_
                                        refine z_calli (pc := 1239) (va_runV (C := R_Mo) (b := b + 99) (As := [.int (xs (v4 + (1 : Int32)).toNatClampNeg)]) (rest := []) ⟨hx, hb, hml, hown, hts⟩ (c_Mo_prime l G b (xs (v4 + (1 : Int32)).toNatClampNeg) M164 N165 hw) (cwV 1 hts (z_goodL (zgV wd1003 wd1004 wd1005 wd7 wd1006)) rfl rfl rfl ⟨rfl, hd_Mo_prime⟩ ⟨Nat.le_of_ble_eq_true rfl, Nat.le_of_ble_eq_true rfl⟩) (z_preV zo_Mo rfl rfl hZ hK hT hS) rfl rfl hl.1 rfl (lv_room (Nat.le_of_ble_eq_true rfl)) d_La_law_1239 ⟨by show 120 + 8 * j + 1 + 0 ≤ 601024; omega, by show zS0 + 48 * j + 6 + 0 ≤ 7293034; unfold zS0; omega⟩) hS (fun r166 M167 N168 H locs hw hZ hS => ?_)
                                        refine lv_istore (pc := 1242) (lv' := [(6, .int r166), (5, .int r163), (0, .ref sb), (1, .ref (b + 0)), (2, .ref (b + 99)), (3, .ref (b + 119)), (4, .int v4)]) hx hb d_La_law_1242 hl (by decide) rfl (fun ls hl => ?_)
                                        refine lv_aload_n (pc := 1244) hx hb d_La_law_1244 rfl (lv_at hl 4 rfl) ?_
                                        refine z_calli (pc := 1245) (va_runV (C := R_Mo) (b := b + 99) (As := []) (rest := []) ⟨hx, hb, hml, hown, hts⟩ (c_Mo_thrown l G b  M167 N168 hw) (cwV 0 hts (z_goodL (zgV wd797 wd798 wd799 wd7 wd800)) rfl rfl rfl ⟨rfl, hd_Mo_thrown⟩ ⟨Nat.le_of_ble_eq_true rfl, Nat.le_of_ble_eq_true rfl⟩) (z_preV zo_Mo rfl rfl hZ hK hT hS) rfl rfl hl.1 rfl (lv_room (Nat.le_of_ble_eq_true rfl)) d_La_law_1245 ⟨by show 120 + 8 * j + 1 + 0 ≤ 601024; omega, by show zS0 + 48 * j + 6 + 0 ≤ 7293034; unfold zS0; omega⟩) hS (fun r169 M170 N171 H locs hw hZ hS => ?_)
                                        obtain ⟨hw, eM170, eN171⟩ := hw
                                        rw [eM170, eN171] at hZ
                                        refine lv_iload (pc := 1248) hx hb d_La_law_1248 (lv_at hl 1 rfl) ?_
                                        refine lv_icmp_eq (pc := 1250) (tgt := 1255) hx hb d_La_law_1250 (by decide) (fun hc => ?_) (fun hc => ?_)
                                        · have hw := hw.1 hc
                                          refine lv_iload (pc := 1255) hx hb d_La_law_1255 (lv_at hl 1 rfl) ?_
                                          refine lv_if_ne (pc := 1257) (tgt := 1279) hx hb d_La_law_1257 (by decide) (fun hc => ?_) (fun hc => ?_)
                                          · have hw := hw.1 hc
                                            refine lv_goto (pc := 1279) (tgt := 1418) hx hb d_La_law_1279 (by decide) ?_
                                            refine lv_iinc (pc := 1418) (k := 6) (v := v4 + (5 : Int32)) (lv' := [(4, .int (v4 + (5 : Int32))), (6, .int r166), (5, .int r163), (0, .ref sb), (1, .ref (b + 0)), (2, .ref (b + 99)), (3, .ref (b + 119))]) hx hb d_La_law_1418 hl rfl (by rfl) (by decide) rfl (fun ls hl => ?_)
                                            refine lv_goto (pc := 1421) (tgt := 23) hx hb d_La_law_1421 (by decide) ?_
                                            refine W.widen (k := 120 + 8 * (j + 1)) (n := zS0 + 48 * (j + 1)) (by omega) (by omega) ?_
                                            exact ih23 (v4 + (5 : Int32)) M167 N168 (j + 1) _ _ _ (z_next hj) (z_room hj hc23 (by omega) hjL) hZ hS (lv_sub hl [3, 4, 5, 6, 0] rfl) hw
                                          · have hw := hw.2 hc
                                            refine lv_aload_n (pc := 1260) hx hb d_La_law_1260 rfl (lv_at hl 5 rfl) ?_
                                            refine lv_iconst (pc := 1261) (v := 0) hx hb d_La_law_1261 (by decide) ?_
                                            obtain ⟨hc, hw⟩ := hw
                                            refine z_lald (pc := 1262) hx hb hK hZ hc d_La_law_1262 ?_
                                            refine lv_iload (pc := 1263) hx hb d_La_law_1263 (lv_at hl 0 rfl) ?_
                                            refine lv_if_eq (pc := 1265) (tgt := 1272) hx hb d_La_law_1265 (by decide) (fun hc => ?_) (fun hc => ?_)
                                            · have hw := hw.1 hc
                                              refine lv_lconst (pc := 1272) (v := 0) hx hb d_La_law_1272 (by decide) ?_
                                              refine z_lc_eq (pc := 1273) (tgt := 1279) hx hb d_La_law_1273 d_La_law_1274 (by decide) (fun hc => ?_) (fun hc => ?_)
                                              · have hw := hw.1 hc
                                                refine lv_goto (pc := 1279) (tgt := 1418) hx hb d_La_law_1279 (by decide) ?_
                                                refine lv_iinc (pc := 1418) (k := 6) (v := v4 + (5 : Int32)) (lv' := [(4, .int (v4 + (5 : Int32))), (6, .int r166), (5, .int r163), (0, .ref sb), (1, .ref (b + 0)), (2, .ref (b + 99)), (3, .ref (b + 119))]) hx hb d_La_law_1418 hl rfl (by rfl) (by decide) rfl (fun ls hl => ?_)
                                                refine lv_goto (pc := 1421) (tgt := 23) hx hb d_La_law_1421 (by decide) ?_
                                                refine W.widen (k := 120 + 8 * (j + 1)) (n := zS0 + 48 * (j + 1)) (by omega) (by omega) ?_
                                                exact ih23 (v4 + (5 : Int32)) M167 N168 (j + 1) _ _ _ (z_next hj) (z_room hj hc23 (by omega) hjL) hZ hS (lv_sub hl [3, 4, 5, 6, 0] rfl) hw
                                              · have hw := hw.2 hc
                                                refine lv_iconst (pc := 1277) (v := 0) hx hb d_La_law_1277 (by decide) ?_
                                                exact False.elim hw
                                            · have hw := hw.2 hc
                                              refine lv_lconst (pc := 1268) (v := 1) hx hb d_La_law_1268 (by decide) ?_
                                              refine lv_goto (pc := 1269) (tgt := 1273) hx hb d_La_law_1269 (by decide) ?_
                                              refine z_lc_eq (pc := 1273) (tgt := 1279) hx hb d_La_law_1273 d_La_law_1274 (by decide) (fun hc => ?_) (fun hc => ?_)
                                              · have hw := hw.1 hc
                                                refine lv_goto (pc := 1279) (tgt := 1418) hx hb d_La_law_1279 (by decide) ?_
                                                refine lv_iinc (pc := 1418) (k := 6) (v := v4 + (5 : Int32)) (lv' := [(4, .int (v4 + (5 : Int32))), (6, .int r166), (5, .int r163), (0, .ref sb), (1, .ref (b + 0)), (2, .ref (b + 99)), (3, .ref (b + 119))]) hx hb d_La_law_1418 hl rfl (by rfl) (by decide) rfl (fun ls hl => ?_)
                                                refine lv_goto (pc := 1421) (tgt := 23) hx hb d_La_law_1421 (by decide) ?_
                                                refine W.widen (k := 120 + 8 * (j + 1)) (n := zS0 + 48 * (j + 1)) (by omega) (by omega) ?_
                                                exact ih23 (v4 + (5 : Int32)) M167 N168 (j + 1) _ _ _ (z_next hj) (z_room hj hc23 (by omega) hjL) hZ hS (lv_sub hl [3, 4, 5, 6, 0] rfl) hw
                                              · have hw := hw.2 hc
                                                refine lv_iconst (pc := 1277) (v := 0) hx hb d_La_law_1277 (by decide) ?_
                                                exact False.elim hw
                                        · have hw := hw.2 hc
                                          refine lv_iconst (pc := 1253) (v := 0) hx hb d_La_law_1253 (by decide) ?_
                                          exact False.elim hw
                                      · by_cases h17 : ((xs v4.toNatClampNeg) &&& (31 : Int32)) = 17
                                        · rw [h17]
                                          refine lv_tableIn (pc := 39) (tgt := 1282) hx hb d_La_law_39 (by decide) (by decide) rfl (by decide) ?_
                                          have hw := hw.2.2.2.2.2.2.2.2.2.2.2.2.2.2.2.2.2.1 h17
                                          refine lv_aload_n (pc := 1282) hx hb d_La_law_1282 rfl (lv_at hl 1 rfl) ?_
                                          refine lv_aload_n (pc := 1283) hx hb d_La_law_1283 rfl (lv_at hl 0 rfl) ?_
                                          refine lv_iload (pc := 1284) hx hb d_La_law_1284 (lv_at hl 4 rfl) ?_
                                          refine lv_iconst (pc := 1286) (v := 1) hx hb d_La_law_1286 (by decide) ?_
                                          refine lv_iadd (pc := 1287) hx hb d_La_law_1287 ?_
                                          obtain ⟨hc, hw⟩ := hw
                                          refine va_sld (pc := 1288) hx hb hX hXl hXA hS hc d_La_law_1288 ?_
                                          refine lv_aload_n (pc := 1289) hx hb d_La_law_1289 rfl (lv_at hl 0 rfl) ?_
                                          refine lv_iload (pc := 1290) hx hb d_La_law_1290 (lv_at hl 4 rfl) ?_
                                          refine lv_iconst (pc := 1292) (v := 2) hx hb d_La_law_1292 (by decide) ?_
                                          refine lv_iadd (pc := 1293) hx hb d_La_law_1293 ?_
                                          obtain ⟨hc, hw⟩ := hw
                                          refine va_sld (pc := 1294) hx hb hX hXl hXA hS hc d_La_law_1294 ?_
                                          refine lv_aload_n (pc := 1295) hx hb d_La_law_1295 rfl (lv_at hl 3 rfl) ?_
                                          refine z_calli (pc := 1296) (vx_runSW (As := [.ref (b + 0), .int (xs (v4 + (1 : Int32)).toNatClampNeg), .int (xs (v4 + (2 : Int32)).toNatClampNeg), .ref (b + 119)]) (rest := []) ⟨hx, hb, hml, hown, hts⟩ (c_La_modular l hst G b (xs (v4 + (1 : Int32)).toNatClampNeg) (xs (v4 + (2 : Int32)).toNatClampNeg) M N hw) (vx_cwSW 4 hts (z_goodL (zgS wd692 wd693 wd0 wd694)) rfl rfl rfl hd_La_modular ⟨Nat.le_of_ble_eq_true rfl, Nat.le_of_ble_eq_true rfl⟩) (z_preS hZ hK hT hS) rfl rfl hl.1 rfl (lv_room (Nat.le_of_ble_eq_true rfl)) d_La_law_1296 ⟨by show 120 + 8 * j + 0 + 2 ≤ 601024; omega, by show zS0 + 48 * j + 0 + 12 ≤ 7293034; unfold zS0; omega⟩) hS (fun r172 M173 N174 H locs hw hZ hS => ?_)
                                          refine lv_istore (pc := 1299) (lv' := [(5, .int r172), (0, .ref sb), (1, .ref (b + 0)), (2, .ref (b + 99)), (3, .ref (b + 119)), (4, .int v4)]) hx hb d_La_law_1299 hl (by decide) rfl (fun ls hl => ?_)
                                          refine lv_aload_n (pc := 1301) hx hb d_La_law_1301 rfl (lv_at hl 3 rfl) ?_
                                          refine lv_aload_n (pc := 1302) hx hb d_La_law_1302 rfl (lv_at hl 1 rfl) ?_
                                          refine lv_iload (pc := 1303) hx hb d_La_law_1303 (lv_at hl 5 rfl) ?_
                                          refine lv_iconst (pc := 1305) (v := 1) hx hb d_La_law_1305 (by decide) ?_
                                          refine lv_iadd (pc := 1306) hx hb d_La_law_1306 ?_
                                          obtain ⟨hc, hw⟩ := hw
                                          refine va_sld (pc := 1307) hx hb hX hXl hXA hS hc d_La_law_1307 ?_
                                          refine lv_aload_n (pc := 1308) hx hb d_La_law_1308 rfl (lv_at hl 1 rfl) ?_
                                          refine lv_iload (pc := 1309) hx hb d_La_law_1309 (lv_at hl 5 rfl) ?_
                                          refine lv_iconst (pc := 1311) (v := 2) hx hb d_La_law_1311 (by decide) ?_
                                          refine lv_iadd (pc := 1312) hx hb d_La_law_1312 ?_
                                          obtain ⟨hc, hw⟩ := hw
                                          refine va_sld (pc := 1313) hx hb hX hXl hXA hS hc d_La_law_1313 ?_
                                          refine z_calli (pc := 1314) (va_runV (C := R_Mo) (b := b + 99) (As := [.int (xs (v4 + (1 : Int32)).toNatClampNeg), .int (xs (v4 + (2 : Int32)).toNatClampNeg)]) (rest := []) ⟨hx, hb, hml, hown, hts⟩ (c_Mo_modular l G b (xs (v4 + (1 : Int32)).toNatClampNeg) (xs (v4 + (2 : Int32)).toNatClampNeg) M173 N174 hw) (cwV 2 hts (z_goodL (zgV wd1007 wd1008 wd1009 wd7 wd1010)) rfl rfl rfl ⟨rfl, hd_Mo_modular⟩ ⟨Nat.le_of_ble_eq_true rfl, Nat.le_of_ble_eq_true rfl⟩) (z_preV zo_Mo rfl rfl hZ hK hT hS) rfl rfl hl.1 rfl (lv_room (Nat.le_of_ble_eq_true rfl)) d_La_law_1314 ⟨by show 120 + 8 * j + 2 + 0 ≤ 601024; omega, by show zS0 + 48 * j + 12 + 0 ≤ 7293034; unfold zS0; omega⟩) hS (fun r175 M176 N177 H locs hw hZ hS => ?_)
                                          refine lv_istore (pc := 1317) (lv' := [(6, .int r175), (5, .int r172), (0, .ref sb), (1, .ref (b + 0)), (2, .ref (b + 99)), (3, .ref (b + 119)), (4, .int v4)]) hx hb d_La_law_1317 hl (by decide) rfl (fun ls hl => ?_)
                                          refine lv_aload_n (pc := 1319) hx hb d_La_law_1319 rfl (lv_at hl 4 rfl) ?_
                                          refine z_calli (pc := 1320) (va_runV (C := R_Mo) (b := b + 99) (As := []) (rest := []) ⟨hx, hb, hml, hown, hts⟩ (c_Mo_thrown l G b  M176 N177 hw) (cwV 0 hts (z_goodL (zgV wd797 wd798 wd799 wd7 wd800)) rfl rfl rfl ⟨rfl, hd_Mo_thrown⟩ ⟨Nat.le_of_ble_eq_true rfl, Nat.le_of_ble_eq_true rfl⟩) (z_preV zo_Mo rfl rfl hZ hK hT hS) rfl rfl hl.1 rfl (lv_room (Nat.le_of_ble_eq_true rfl)) d_La_law_1320 ⟨by show 120 + 8 * j + 2 + 0 ≤ 601024; omega, by show zS0 + 48 * j + 12 + 0 ≤ 7293034; unfold zS0; omega⟩) hS (fun r178 M179 N180 H locs hw hZ hS => ?_)
                                          obtain ⟨hw, eM179, eN180⟩ := hw
                                          rw [eM179, eN180] at hZ
                                          refine lv_iload (pc := 1323) hx hb d_La_law_1323 (lv_at hl 1 rfl) ?_
                                          refine lv_icmp_eq (pc := 1325) (tgt := 1330) hx hb d_La_law_1325 (by decide) (fun hc => ?_) (fun hc => ?_)
                                          · have hw := hw.1 hc
                                            refine lv_iload (pc := 1330) hx hb d_La_law_1330 (lv_at hl 1 rfl) ?_
                                            refine lv_if_ne (pc := 1332) (tgt := 1347) hx hb d_La_law_1332 (by decide) (fun hc => ?_) (fun hc => ?_)
                                            · have hw := hw.1 hc
                                              refine lv_goto (pc := 1347) (tgt := 1418) hx hb d_La_law_1347 (by decide) ?_
                                              refine lv_iinc (pc := 1418) (k := 6) (v := v4 + (5 : Int32)) (lv' := [(4, .int (v4 + (5 : Int32))), (6, .int r175), (5, .int r172), (0, .ref sb), (1, .ref (b + 0)), (2, .ref (b + 99)), (3, .ref (b + 119))]) hx hb d_La_law_1418 hl rfl (by rfl) (by decide) rfl (fun ls hl => ?_)
                                              refine lv_goto (pc := 1421) (tgt := 23) hx hb d_La_law_1421 (by decide) ?_
                                              refine W.widen (k := 120 + 8 * (j + 1)) (n := zS0 + 48 * (j + 1)) (by omega) (by omega) ?_
                                              exact ih23 (v4 + (5 : Int32)) M176 N177 (j + 1) _ _ _ (z_next hj) (z_room hj hc23 (by omega) hjL) hZ hS (lv_sub hl [3, 4, 5, 6, 0] rfl) hw
                                            · have hw := hw.2 hc
                                              refine lv_aload_n (pc := 1335) hx hb d_La_law_1335 rfl (lv_at hl 5 rfl) ?_
                                              refine lv_iconst (pc := 1336) (v := 0) hx hb d_La_law_1336 (by decide) ?_
                                              obtain ⟨hc, hw⟩ := hw
                                              refine z_lald (pc := 1337) hx hb hK hZ hc d_La_law_1337 ?_
                                              refine lv_iload (pc := 1338) hx hb d_La_law_1338 (lv_at hl 0 rfl) ?_
                                              refine lv_i2l (pc := 1340) (v := r175.toInt64) hx hb d_La_law_1340 rfl ?_
                                              refine z_lc_eq (pc := 1341) (tgt := 1347) hx hb d_La_law_1341 d_La_law_1342 (by decide) (fun hc => ?_) (fun hc => ?_)
                                              · have hw := hw.1 hc
                                                refine lv_goto (pc := 1347) (tgt := 1418) hx hb d_La_law_1347 (by decide) ?_
                                                refine lv_iinc (pc := 1418) (k := 6) (v := v4 + (5 : Int32)) (lv' := [(4, .int (v4 + (5 : Int32))), (6, .int r175), (5, .int r172), (0, .ref sb), (1, .ref (b + 0)), (2, .ref (b + 99)), (3, .ref (b + 119))]) hx hb d_La_law_1418 hl rfl (by rfl) (by decide) rfl (fun ls hl => ?_)
                                                refine lv_goto (pc := 1421) (tgt := 23) hx hb d_La_law_1421 (by decide) ?_
                                                refine W.widen (k := 120 + 8 * (j + 1)) (n := zS0 + 48 * (j + 1)) (by omega) (by omega) ?_
                                                exact ih23 (v4 + (5 : Int32)) M176 N177 (j + 1) _ _ _ (z_next hj) (z_room hj hc23 (by omega) hjL) hZ hS (lv_sub hl [3, 4, 5, 6, 0] rfl) hw
                                              · have hw := hw.2 hc
                                                refine lv_iconst (pc := 1345) (v := 0) hx hb d_La_law_1345 (by decide) ?_
                                                exact False.elim hw
                                          · have hw := hw.2 hc
                                            refine lv_iconst (pc := 1328) (v := 0) hx hb d_La_law_1328 (by decide) ?_
                                            exact False.elim hw
                                        · by_cases h18 : ((xs v4.toNatClampNeg) &&& (31 : Int32)) = 18
                                          · rw [h18]
                                            refine lv_tableIn (pc := 39) (tgt := 1350) hx hb d_La_law_39 (by decide) (by decide) rfl (by decide) ?_
                                            have hw := hw.2.2.2.2.2.2.2.2.2.2.2.2.2.2.2.2.2.2.1 h18
                                            refine lv_aload_n (pc := 1350) hx hb d_La_law_1350 rfl (lv_at hl 1 rfl) ?_
                                            refine lv_aload_n (pc := 1351) hx hb d_La_law_1351 rfl (lv_at hl 0 rfl) ?_
                                            refine lv_iload (pc := 1352) hx hb d_La_law_1352 (lv_at hl 4 rfl) ?_
                                            refine lv_iconst (pc := 1354) (v := 1) hx hb d_La_law_1354 (by decide) ?_
                                            refine lv_iadd (pc := 1355) hx hb d_La_law_1355 ?_
                                            obtain ⟨hc, hw⟩ := hw
                                            refine va_sld (pc := 1356) hx hb hX hXl hXA hS hc d_La_law_1356 ?_
                                            refine lv_aload_n (pc := 1357) hx hb d_La_law_1357 rfl (lv_at hl 0 rfl) ?_
                                            refine lv_iload (pc := 1358) hx hb d_La_law_1358 (lv_at hl 4 rfl) ?_
                                            refine lv_iconst (pc := 1360) (v := 2) hx hb d_La_law_1360 (by decide) ?_
                                            refine lv_iadd (pc := 1361) hx hb d_La_law_1361 ?_
                                            obtain ⟨hc, hw⟩ := hw
                                            refine va_sld (pc := 1362) hx hb hX hXl hXA hS hc d_La_law_1362 ?_
                                            refine lv_aload_n (pc := 1363) hx hb d_La_law_1363 rfl (lv_at hl 3 rfl) ?_
                                            refine z_calli (pc := 1364) (vx_runSW (As := [.ref (b + 0), .int (xs (v4 + (1 : Int32)).toNatClampNeg), .int (xs (v4 + (2 : Int32)).toNatClampNeg), .ref (b + 119)]) (rest := []) ⟨hx, hb, hml, hown, hts⟩ (c_La_roots l hst G b (xs (v4 + (1 : Int32)).toNatClampNeg) (xs (v4 + (2 : Int32)).toNatClampNeg) M N hw) (vx_cwSW 4 hts (z_goodL (zgS wd703 wd704 wd0 wd705)) rfl rfl rfl hd_La_roots ⟨Nat.le_of_ble_eq_true rfl, Nat.le_of_ble_eq_true rfl⟩) (z_preS hZ hK hT hS) rfl rfl hl.1 rfl (lv_room (Nat.le_of_ble_eq_true rfl)) d_La_law_1364 ⟨by show 120 + 8 * j + 0 + 2 ≤ 601024; omega, by show zS0 + 48 * j + 0 + 12 ≤ 7293034; unfold zS0; omega⟩) hS (fun r181 M182 N183 H locs hw hZ hS => ?_)
                                            obtain ⟨hw, eN183⟩ := hw
                                            rw [eN183] at hZ
                                            refine lv_istore (pc := 1367) (lv' := [(5, .int r181), (0, .ref sb), (1, .ref (b + 0)), (2, .ref (b + 99)), (3, .ref (b + 119)), (4, .int v4)]) hx hb d_La_law_1367 hl (by decide) rfl (fun ls hl => ?_)
                                            refine lv_aload_n (pc := 1369) hx hb d_La_law_1369 rfl (lv_at hl 3 rfl) ?_
                                            refine lv_aload_n (pc := 1370) hx hb d_La_law_1370 rfl (lv_at hl 1 rfl) ?_
                                            refine lv_iload (pc := 1371) hx hb d_La_law_1371 (lv_at hl 5 rfl) ?_
                                            refine lv_iconst (pc := 1373) (v := 1) hx hb d_La_law_1373 (by decide) ?_
                                            refine lv_iadd (pc := 1374) hx hb d_La_law_1374 ?_
                                            obtain ⟨hc, hw⟩ := hw
                                            refine va_sld (pc := 1375) hx hb hX hXl hXA hS hc d_La_law_1375 ?_
                                            refine lv_aload_n (pc := 1376) hx hb d_La_law_1376 rfl (lv_at hl 1 rfl) ?_
                                            refine lv_iload (pc := 1377) hx hb d_La_law_1377 (lv_at hl 5 rfl) ?_
                                            refine lv_iconst (pc := 1379) (v := 2) hx hb d_La_law_1379 (by decide) ?_
                                            refine lv_iadd (pc := 1380) hx hb d_La_law_1380 ?_
                                            obtain ⟨hc, hw⟩ := hw
                                            refine va_sld (pc := 1381) hx hb hX hXl hXA hS hc d_La_law_1381 ?_
                                            refine z_calli (pc := 1382) (va_runV (C := R_Mo) (b := b + 99) (As := [.int (xs (v4 + (1 : Int32)).toNatClampNeg), .int (xs (v4 + (2 : Int32)).toNatClampNeg)]) (rest := []) ⟨hx, hb, hml, hown, hts⟩ (c_Mo_roots l G b (xs (v4 + (1 : Int32)).toNatClampNeg) (xs (v4 + (2 : Int32)).toNatClampNeg) M182 N hw) (cwV 2 hts (z_goodL (zgV wd1014 wd1015 wd1016 wd7 wd1017)) rfl rfl rfl ⟨rfl, hd_Mo_roots⟩ ⟨Nat.le_of_ble_eq_true rfl, Nat.le_of_ble_eq_true rfl⟩) (z_preV zo_Mo rfl rfl hZ hK hT hS) rfl rfl hl.1 rfl (lv_room (Nat.le_of_ble_eq_true rfl)) d_La_law_1382 ⟨by show 120 + 8 * j + 2 + 0 ≤ 601024; omega, by show zS0 + 48 * j + 12 + 0 ≤ 7293034; unfold zS0; omega⟩) hS (fun r184 M185 N186 H locs hw hZ hS => ?_)
                                            obtain ⟨hw, eM185⟩ := hw
                                            rw [eM185] at hZ
                                            refine lv_istore (pc := 1385) (lv' := [(6, .int r184), (5, .int r181), (0, .ref sb), (1, .ref (b + 0)), (2, .ref (b + 99)), (3, .ref (b + 119)), (4, .int v4)]) hx hb d_La_law_1385 hl (by decide) rfl (fun ls hl => ?_)
                                            refine lv_aload_n (pc := 1387) hx hb d_La_law_1387 rfl (lv_at hl 4 rfl) ?_
                                            refine z_calli (pc := 1388) (va_runV (C := R_Mo) (b := b + 99) (As := []) (rest := []) ⟨hx, hb, hml, hown, hts⟩ (c_Mo_thrown l G b  M182 N186 hw) (cwV 0 hts (z_goodL (zgV wd797 wd798 wd799 wd7 wd800)) rfl rfl rfl ⟨rfl, hd_Mo_thrown⟩ ⟨Nat.le_of_ble_eq_true rfl, Nat.le_of_ble_eq_true rfl⟩) (z_preV zo_Mo rfl rfl hZ hK hT hS) rfl rfl hl.1 rfl (lv_room (Nat.le_of_ble_eq_true rfl)) d_La_law_1388 ⟨by show 120 + 8 * j + 2 + 0 ≤ 601024; omega, by show zS0 + 48 * j + 12 + 0 ≤ 7293034; unfold zS0; omega⟩) hS (fun r187 M188 N189 H locs hw hZ hS => ?_)
                                            obtain ⟨hw, eM188, eN189⟩ := hw
                                            rw [eM188, eN189] at hZ
                                            refine lv_iload (pc := 1391) hx hb d_La_law_1391 (lv_at hl 1 rfl) ?_
                                            refine lv_icmp_eq (pc := 1393) (tgt := 1398) hx hb d_La_law_1393 (by decide) (fun hc => ?_) (fun hc => ?_)
                                            · have hw := hw.1 hc
                                              refine lv_iload (pc := 1398) hx hb d_La_law_1398 (lv_at hl 1 rfl) ?_
                                              refine lv_if_ne (pc := 1400) (tgt := 1415) hx hb d_La_law_1400 (by decide) (fun hc => ?_) (fun hc => ?_)
                                              · have hw := hw.1 hc
                                                refine lv_goto (pc := 1415) (tgt := 1418) hx hb d_La_law_1415 (by decide) ?_
                                                refine lv_iinc (pc := 1418) (k := 6) (v := v4 + (5 : Int32)) (lv' := [(4, .int (v4 + (5 : Int32))), (6, .int r184), (5, .int r181), (0, .ref sb), (1, .ref (b + 0)), (2, .ref (b + 99)), (3, .ref (b + 119))]) hx hb d_La_law_1418 hl rfl (by rfl) (by decide) rfl (fun ls hl => ?_)
                                                refine lv_goto (pc := 1421) (tgt := 23) hx hb d_La_law_1421 (by decide) ?_
                                                refine W.widen (k := 120 + 8 * (j + 1)) (n := zS0 + 48 * (j + 1)) (by omega) (by omega) ?_
                                                exact ih23 (v4 + (5 : Int32)) M182 N186 (j + 1) _ _ _ (z_next hj) (z_room hj hc23 (by omega) hjL) hZ hS (lv_sub hl [3, 4, 5, 6, 0] rfl) hw
                                              · have hw := hw.2 hc
                                                refine lv_aload_n (pc := 1403) hx hb d_La_law_1403 rfl (lv_at hl 5 rfl) ?_
                                                refine lv_iconst (pc := 1404) (v := 0) hx hb d_La_law_1404 (by decide) ?_
                                                obtain ⟨hc, hw⟩ := hw
                                                refine z_lald (pc := 1405) hx hb hK hZ hc d_La_law_1405 ?_
                                                refine lv_iload (pc := 1406) hx hb d_La_law_1406 (lv_at hl 0 rfl) ?_
                                                refine lv_i2l (pc := 1408) (v := r184.toInt64) hx hb d_La_law_1408 rfl ?_
                                                refine z_lc_eq (pc := 1409) (tgt := 1415) hx hb d_La_law_1409 d_La_law_1410 (by decide) (fun hc => ?_) (fun hc => ?_)
                                                · have hw := hw.1 hc
                                                  refine lv_goto (pc := 1415) (tgt := 1418) hx hb d_La_law_1415 (by decide) ?_
                                                  refine lv_iinc (pc := 1418) (k := 6) (v := v4 + (5 : Int32)) (lv' := [(4, .int (v4 + (5 : Int32))), (6, .int r184), (5, .int r181), (0, .ref sb), (1, .ref (b + 0)), (2, .ref (b + 99)), (3, .ref (b + 119))]) hx hb d_La_law_1418 hl rfl (by rfl) (by decide) rfl (fun ls hl => ?_)
                                                  refine lv_goto (pc := 1421) (tgt := 23) hx hb d_La_law_1421 (by decide) ?_
                                                  refine W.widen (k := 120 + 8 * (j + 1)) (n := zS0 + 48 * (j + 1)) (by omega) (by omega) ?_
                                                  exact ih23 (v4 + (5 : Int32)) M182 N186 (j + 1) _ _ _ (z_next hj) (z_room hj hc23 (by omega) hjL) hZ hS (lv_sub hl [3, 4, 5, 6, 0] rfl) hw
                                                · have hw := hw.2 hc
                                                  refine lv_iconst (pc := 1413) (v := 0) hx hb d_La_law_1413 (by decide) ?_
                                                  exact False.elim hw
                                            · have hw := hw.2 hc
                                              refine lv_iconst (pc := 1396) (v := 0) hx hb d_La_law_1396 (by decide) ?_
                                              exact False.elim hw
                                          · have ho := z_out19 h0 h1 h2 h3 h4 h5 h6 h7 h8 h9 h10 h11 h12 h13 h14 h15 h16 h17 h18
                                            refine lv_tableOut (pc := 39) (tgt := 1418) hx hb d_La_law_39 ho (by decide) ?_
                                            have hw := hw.2.2.2.2.2.2.2.2.2.2.2.2.2.2.2.2.2.2.2 ho
                                            refine lv_iinc (pc := 1418) (k := 4) (v := v4 + (5 : Int32)) (lv' := [(4, .int (v4 + (5 : Int32))), (0, .ref sb), (1, .ref (b + 0)), (2, .ref (b + 99)), (3, .ref (b + 119))]) hx hb d_La_law_1418 hl rfl (by rfl) (by decide) rfl (fun ls hl => ?_)
                                            refine lv_goto (pc := 1421) (tgt := 23) hx hb d_La_law_1421 (by decide) ?_
                                            refine W.widen (k := 120 + 8 * (j + 1)) (n := zS0 + 48 * (j + 1)) (by omega) (by omega) ?_
                                            exact ih23 (v4 + (5 : Int32)) M N (j + 1) _ _ _ (z_next hj) (z_room hj hc23 (by omega) hjL) hZ hS (lv_sub hl [1, 2, 3, 4, 0] rfl) hw
