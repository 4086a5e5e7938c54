theorem ml_197 : zML 197 = 4 := by decide +kernel
theorem rt_197 : zRt 197 = some .boolean := by decide +kernel
theorem k_197_18 : zD 197 18 = some (.iload_n 3, 1, some [true, true, true, true]) := by decide +kernel
theorem k_197_19 : zD 197 19 = some (.aload_n 0, 1, none) := by decide +kernel
theorem k_197_20 : zD 197 20 = some (.arraylength, 1, none) := by decide +kernel
theorem k_197_21 : zD 197 21 = some (.iconst (5), 1, none) := by decide +kernel
theorem k_197_22 : zD 197 22 = some (.isub, 1, none) := by decide +kernel
theorem k_197_23 : zD 197 23 = some (.if_icmp .gt (1024), 3, none) ∧ zTg 23 (1024) = some 1047 := by decide +kernel
theorem k_197_1047 : zD 197 1047 = some (.iconst (1), 1, none) := by decide +kernel
theorem k_197_1048 : zD 197 1048 = some (.ireturn, 1, none) := by decide +kernel
theorem k_197_26 : zD 197 26 = some (.aload_n 0, 1, none) := by decide +kernel
theorem k_197_27 : zD 197 27 = some (.iload_n 3, 1, none) := by decide +kernel
theorem k_197_28 : zD 197 28 = some (.iaload, 1, none) := by decide +kernel
theorem k_197_29 : zD 197 29 = some (.bipush (31), 2, none) := by decide +kernel
theorem k_197_31 : zD 197 31 = some (.iand, 1, none) := by decide +kernel
theorem k_197_32 : zD 197 32 = some (.tableswitch (1009) (0) (28) #[132, 195, 208, 221, 244, 277, 310, 333, 376, 419, 452, 495, 528, 581, 614, 627, 650, 693, 716, 759, 792, 805, 838, 881, 894, 907, 940, 963, 986], 132, none) := by decide +kernel
theorem k_197_164 : zD 197 164 = some (.aload_n 1, 1, none) := by decide +kernel
theorem k_197_165 : zD 197 165 = some (.aload_n 0, 1, none) := by decide +kernel
theorem k_197_166 : zD 197 166 = some (.iload_n 3, 1, none) := by decide +kernel
theorem k_197_167 : zD 197 167 = some (.iconst (1), 1, none) := by decide +kernel
theorem k_197_168 : zD 197 168 = some (.iadd, 1, none) := by decide +kernel
theorem k_197_169 : zD 197 169 = some (.iaload, 1, none) := by decide +kernel
theorem k_197_170 : zD 197 170 = some (.aload_n 0, 1, none) := by decide +kernel
theorem k_197_171 : zD 197 171 = some (.iload_n 3, 1, none) := by decide +kernel
theorem k_197_172 : zD 197 172 = some (.iconst (2), 1, none) := by decide +kernel
theorem k_197_173 : zD 197 173 = some (.iadd, 1, none) := by decide +kernel
theorem k_197_174 : zD 197 174 = some (.iaload, 1, none) := by decide +kernel
theorem k_197_175 : zD 197 175 = some (.i2l, 1, none) := by decide +kernel
theorem k_197_176 : zD 197 176 = some (.bipush (32), 2, none) := by decide +kernel
theorem k_197_178 : zD 197 178 = some (.lshl, 1, none) := by decide +kernel
theorem k_197_179 : zD 197 179 = some (.aload_n 0, 1, none) := by decide +kernel
theorem k_197_180 : zD 197 180 = some (.iload_n 3, 1, none) := by decide +kernel
theorem k_197_181 : zD 197 181 = some (.iconst (3), 1, none) := by decide +kernel
theorem k_197_182 : zD 197 182 = some (.iadd, 1, none) := by decide +kernel
theorem k_197_183 : zD 197 183 = some (.iaload, 1, none) := by decide +kernel
theorem k_197_184 : zD 197 184 = some (.i2l, 1, none) := by decide +kernel
theorem k_197_185 : zD 197 185 = some (.ldc2_w 13, 3, none) ∧ zKc (zOn 197) 13 = some (.inr 4294967295) := by decide +kernel
theorem k_197_188 : zD 197 188 = some (.land, 1, none) := by decide +kernel
theorem k_197_189 : zD 197 189 = some (.lor, 1, none) := by decide +kernel
theorem k_197_190 : zD 197 190 = some (.invokevirtual 15, 3, none) ∧ zCk (zOn 197) 15 = some (0, 20) ∧ zNp 20 = 2 ∧ zML 20 = 4 ∧ zCo[7]? = some (zOn 20) ∧ (zRt 20 = some .int ∨ zRt 20 = some .boolean ∨ zRt 20 = some .char ∨ zRt 20 = some .byte) := by decide +kernel
theorem k_197_193 : zD 197 193 = some (.aload_n 2, 1, none) := by decide +kernel
theorem k_197_194 : zD 197 194 = some (.aload_n 0, 1, none) := by decide +kernel
theorem k_197_195 : zD 197 195 = some (.iload_n 3, 1, none) := by decide +kernel
theorem k_197_196 : zD 197 196 = some (.iconst (1), 1, none) := by decide +kernel
theorem k_197_197 : zD 197 197 = some (.iadd, 1, none) := by decide +kernel
theorem k_197_198 : zD 197 198 = some (.iaload, 1, none) := by decide +kernel
theorem k_197_199 : zD 197 199 = some (.aload_n 0, 1, none) := by decide +kernel
theorem k_197_200 : zD 197 200 = some (.iload_n 3, 1, none) := by decide +kernel
theorem k_197_201 : zD 197 201 = some (.iconst (2), 1, none) := by decide +kernel
theorem k_197_202 : zD 197 202 = some (.iadd, 1, none) := by decide +kernel
theorem k_197_203 : zD 197 203 = some (.iaload, 1, none) := by decide +kernel
theorem k_197_204 : zD 197 204 = some (.i2l, 1, none) := by decide +kernel
theorem k_197_205 : zD 197 205 = some (.bipush (32), 2, none) := by decide +kernel
theorem k_197_207 : zD 197 207 = some (.lshl, 1, none) := by decide +kernel
theorem k_197_208 : zD 197 208 = some (.aload_n 0, 1, none) := by decide +kernel
theorem k_197_209 : zD 197 209 = some (.iload_n 3, 1, none) := by decide +kernel
theorem k_197_210 : zD 197 210 = some (.iconst (3), 1, none) := by decide +kernel
theorem k_197_211 : zD 197 211 = some (.iadd, 1, none) := by decide +kernel
theorem k_197_212 : zD 197 212 = some (.iaload, 1, none) := by decide +kernel
theorem k_197_213 : zD 197 213 = some (.i2l, 1, none) := by decide +kernel
theorem k_197_214 : zD 197 214 = some (.ldc2_w 13, 3, none) ∧ zKc (zOn 197) 13 = some (.inr 4294967295) := by decide +kernel
theorem k_197_217 : zD 197 217 = some (.land, 1, none) := by decide +kernel
theorem k_197_218 : zD 197 218 = some (.lor, 1, none) := by decide +kernel
theorem k_197_219 : zD 197 219 = some (.invokevirtual 19, 3, none) ∧ zCk (zOn 197) 19 = some (0, 131) ∧ zNp 131 = 2 ∧ zML 131 = 5 ∧ zCo[8]? = some (zOn 131) ∧ (zRt 131 = some .int ∨ zRt 131 = some .boolean ∨ zRt 131 = some .char ∨ zRt 131 = some .byte) := by decide +kernel
theorem k_197_222 : zD 197 222 = some (.if_icmp .eq (819), 3, none) ∧ zTg 222 (819) = some 1041 := by decide +kernel
theorem k_197_1041 : zD 197 1041 = some (.iinc 3 (5), 3, some [true, true, true, true]) := by decide +kernel
theorem k_197_1044 : zD 197 1044 = some (.goto (-1026), 3, none) ∧ zTg 1044 (-1026) = some 18 := by decide +kernel
theorem k_197_225 : zD 197 225 = some (.iconst (0), 1, none) := by decide +kernel
theorem k_197_226 : zD 197 226 = some (.ireturn, 1, none) := by decide +kernel
theorem k_197_227 : zD 197 227 = some (.aload_n 1, 1, none) := by decide +kernel
theorem k_197_228 : zD 197 228 = some (.invokevirtual 20, 3, none) ∧ zCk (zOn 197) 20 = some (0, 22) ∧ zNp 22 = 0 ∧ zML 22 = 4 ∧ zCo[7]? = some (zOn 22) ∧ (zRt 22 = some .int ∨ zRt 22 = some .boolean ∨ zRt 22 = some .char ∨ zRt 22 = some .byte) := by decide +kernel
theorem k_197_231 : zD 197 231 = some (.aload_n 2, 1, none) := by decide +kernel
theorem k_197_232 : zD 197 232 = some (.invokevirtual 24, 3, none) ∧ zCk (zOn 197) 24 = some (0, 133) ∧ zNp 133 = 0 ∧ zML 133 = 3 ∧ zCo[8]? = some (zOn 133) ∧ (zRt 133 = some .int ∨ zRt 133 = some .boolean ∨ zRt 133 = some .char ∨ zRt 133 = some .byte) := by decide +kernel
theorem k_197_235 : zD 197 235 = some (.if_icmp .eq (806), 3, none) ∧ zTg 235 (806) = some 1041 := by decide +kernel
theorem k_197_238 : zD 197 238 = some (.iconst (0), 1, none) := by decide +kernel
theorem k_197_239 : zD 197 239 = some (.ireturn, 1, none) := by decide +kernel
theorem k_197_240 : zD 197 240 = some (.aload_n 1, 1, none) := by decide +kernel
theorem k_197_241 : zD 197 241 = some (.invokevirtual 25, 3, none) ∧ zCk (zOn 197) 25 = some (0, 48) ∧ zNp 48 = 0 ∧ zML 48 = 1 ∧ zCo[7]? = some (zOn 48) ∧ (zRt 48 = some .int ∨ zRt 48 = some .boolean ∨ zRt 48 = some .char ∨ zRt 48 = some .byte) := by decide +kernel
theorem k_197_244 : zD 197 244 = some (.aload_n 2, 1, none) := by decide +kernel
theorem k_197_245 : zD 197 245 = some (.invokevirtual 28, 3, none) ∧ zCk (zOn 197) 28 = some (0, 144) ∧ zNp 144 = 0 ∧ zML 144 = 1 ∧ zCo[8]? = some (zOn 144) ∧ (zRt 144 = some .int ∨ zRt 144 = some .boolean ∨ zRt 144 = some .char ∨ zRt 144 = some .byte) := by decide +kernel
theorem k_197_248 : zD 197 248 = some (.if_icmp .eq (793), 3, none) ∧ zTg 248 (793) = some 1041 := by decide +kernel
theorem k_197_251 : zD 197 251 = some (.iconst (0), 1, none) := by decide +kernel
theorem k_197_252 : zD 197 252 = some (.ireturn, 1, none) := by decide +kernel
theorem k_197_253 : zD 197 253 = some (.aload_n 1, 1, none) := by decide +kernel
theorem k_197_254 : zD 197 254 = some (.aload_n 0, 1, none) := by decide +kernel
theorem k_197_255 : zD 197 255 = some (.iload_n 3, 1, none) := by decide +kernel
theorem k_197_256 : zD 197 256 = some (.iconst (1), 1, none) := by decide +kernel
theorem k_197_257 : zD 197 257 = some (.iadd, 1, none) := by decide +kernel
theorem k_197_258 : zD 197 258 = some (.iaload, 1, none) := by decide +kernel
theorem k_197_259 : zD 197 259 = some (.invokevirtual 29, 3, none) ∧ zCk (zOn 197) 29 = some (0, 49) ∧ zNp 49 = 1 ∧ zML 49 = 2 ∧ zCo[7]? = some (zOn 49) ∧ (zRt 49 = some .int ∨ zRt 49 = some .boolean ∨ zRt 49 = some .char ∨ zRt 49 = some .byte) := by decide +kernel
theorem k_197_262 : zD 197 262 = some (.aload_n 2, 1, none) := by decide +kernel
theorem k_197_263 : zD 197 263 = some (.aload_n 0, 1, none) := by decide +kernel
theorem k_197_264 : zD 197 264 = some (.iload_n 3, 1, none) := by decide +kernel
theorem k_197_265 : zD 197 265 = some (.iconst (1), 1, none) := by decide +kernel
theorem k_197_266 : zD 197 266 = some (.iadd, 1, none) := by decide +kernel
theorem k_197_267 : zD 197 267 = some (.iaload, 1, none) := by decide +kernel
theorem k_197_268 : zD 197 268 = some (.invokevirtual 33, 3, none) ∧ zCk (zOn 197) 33 = some (0, 145) ∧ zNp 145 = 1 ∧ zML 145 = 2 ∧ zCo[8]? = some (zOn 145) ∧ (zRt 145 = some .int ∨ zRt 145 = some .boolean ∨ zRt 145 = some .char ∨ zRt 145 = some .byte) := by decide +kernel
theorem k_197_271 : zD 197 271 = some (.if_icmp .eq (770), 3, none) ∧ zTg 271 (770) = some 1041 := by decide +kernel
theorem k_197_274 : zD 197 274 = some (.iconst (0), 1, none) := by decide +kernel
theorem k_197_275 : zD 197 275 = some (.ireturn, 1, none) := by decide +kernel
theorem k_197_276 : zD 197 276 = some (.aload_n 1, 1, none) := by decide +kernel
theorem k_197_277 : zD 197 277 = some (.aload_n 0, 1, none) := by decide +kernel
theorem k_197_278 : zD 197 278 = some (.iload_n 3, 1, none) := by decide +kernel
theorem k_197_279 : zD 197 279 = some (.iconst (1), 1, none) := by decide +kernel
theorem k_197_280 : zD 197 280 = some (.iadd, 1, none) := by decide +kernel
theorem k_197_281 : zD 197 281 = some (.iaload, 1, none) := by decide +kernel
theorem k_197_282 : zD 197 282 = some (.aload_n 0, 1, none) := by decide +kernel
theorem k_197_283 : zD 197 283 = some (.iload_n 3, 1, none) := by decide +kernel
theorem k_197_284 : zD 197 284 = some (.iconst (2), 1, none) := by decide +kernel
theorem k_197_285 : zD 197 285 = some (.iadd, 1, none) := by decide +kernel
theorem k_197_286 : zD 197 286 = some (.iaload, 1, none) := by decide +kernel
theorem k_197_287 : zD 197 287 = some (.invokevirtual 34, 3, none) ∧ zCk (zOn 197) 34 = some (0, 51) ∧ zNp 51 = 2 ∧ zML 51 = 3 ∧ zCo[7]? = some (zOn 51) ∧ (zRt 51 = some .int ∨ zRt 51 = some .boolean ∨ zRt 51 = some .char ∨ zRt 51 = some .byte) := by decide +kernel
theorem k_197_290 : zD 197 290 = some (.aload_n 2, 1, none) := by decide +kernel
theorem k_197_291 : zD 197 291 = some (.aload_n 0, 1, none) := by decide +kernel
theorem k_197_292 : zD 197 292 = some (.iload_n 3, 1, none) := by decide +kernel
theorem k_197_293 : zD 197 293 = some (.iconst (1), 1, none) := by decide +kernel
theorem k_197_294 : zD 197 294 = some (.iadd, 1, none) := by decide +kernel
theorem k_197_295 : zD 197 295 = some (.iaload, 1, none) := by decide +kernel
theorem k_197_296 : zD 197 296 = some (.aload_n 0, 1, none) := by decide +kernel
theorem k_197_297 : zD 197 297 = some (.iload_n 3, 1, none) := by decide +kernel
theorem k_197_298 : zD 197 298 = some (.iconst (2), 1, none) := by decide +kernel
theorem k_197_299 : zD 197 299 = some (.iadd, 1, none) := by decide +kernel
theorem k_197_300 : zD 197 300 = some (.iaload, 1, none) := by decide +kernel
theorem k_197_301 : zD 197 301 = some (.invokevirtual 38, 3, none) ∧ zCk (zOn 197) 38 = some (0, 147) ∧ zNp 147 = 2 ∧ zML 147 = 3 ∧ zCo[8]? = some (zOn 147) ∧ (zRt 147 = some .int ∨ zRt 147 = some .boolean ∨ zRt 147 = some .char ∨ zRt 147 = some .byte) := by decide +kernel
theorem k_197_304 : zD 197 304 = some (.if_icmp .eq (737), 3, none) ∧ zTg 304 (737) = some 1041 := by decide +kernel
theorem k_197_307 : zD 197 307 = some (.iconst (0), 1, none) := by decide +kernel
theorem k_197_308 : zD 197 308 = some (.ireturn, 1, none) := by decide +kernel
theorem k_197_309 : zD 197 309 = some (.aload_n 1, 1, none) := by decide +kernel
theorem k_197_310 : zD 197 310 = some (.aload_n 0, 1, none) := by decide +kernel
theorem k_197_311 : zD 197 311 = some (.iload_n 3, 1, none) := by decide +kernel
theorem k_197_312 : zD 197 312 = some (.iconst (1), 1, none) := by decide +kernel
theorem k_197_313 : zD 197 313 = some (.iadd, 1, none) := by decide +kernel
theorem k_197_314 : zD 197 314 = some (.iaload, 1, none) := by decide +kernel
theorem k_197_315 : zD 197 315 = some (.aload_n 0, 1, none) := by decide +kernel
theorem k_197_316 : zD 197 316 = some (.iload_n 3, 1, none) := by decide +kernel
theorem k_197_317 : zD 197 317 = some (.iconst (2), 1, none) := by decide +kernel
theorem k_197_318 : zD 197 318 = some (.iadd, 1, none) := by decide +kernel
theorem k_197_319 : zD 197 319 = some (.iaload, 1, none) := by decide +kernel
theorem k_197_320 : zD 197 320 = some (.invokevirtual 39, 3, none) ∧ zCk (zOn 197) 39 = some (0, 54) ∧ zNp 54 = 2 ∧ zML 54 = 3 ∧ zCo[7]? = some (zOn 54) ∧ (zRt 54 = some .int ∨ zRt 54 = some .boolean ∨ zRt 54 = some .char ∨ zRt 54 = some .byte) := by decide +kernel
theorem k_197_323 : zD 197 323 = some (.aload_n 2, 1, none) := by decide +kernel
theorem k_197_324 : zD 197 324 = some (.aload_n 0, 1, none) := by decide +kernel
theorem k_197_325 : zD 197 325 = some (.iload_n 3, 1, none) := by decide +kernel
theorem k_197_326 : zD 197 326 = some (.iconst (1), 1, none) := by decide +kernel
theorem k_197_327 : zD 197 327 = some (.iadd, 1, none) := by decide +kernel
theorem k_197_328 : zD 197 328 = some (.iaload, 1, none) := by decide +kernel
theorem k_197_329 : zD 197 329 = some (.aload_n 0, 1, none) := by decide +kernel
theorem k_197_330 : zD 197 330 = some (.iload_n 3, 1, none) := by decide +kernel
theorem k_197_331 : zD 197 331 = some (.iconst (2), 1, none) := by decide +kernel
theorem k_197_332 : zD 197 332 = some (.iadd, 1, none) := by decide +kernel
theorem k_197_333 : zD 197 333 = some (.iaload, 1, none) := by decide +kernel
theorem k_197_334 : zD 197 334 = some (.invokevirtual 42, 3, none) ∧ zCk (zOn 197) 42 = some (0, 150) ∧ zNp 150 = 2 ∧ zML 150 = 3 ∧ zCo[8]? = some (zOn 150) ∧ (zRt 150 = some .int ∨ zRt 150 = some .boolean ∨ zRt 150 = some .char ∨ zRt 150 = some .byte) := by decide +kernel
theorem k_197_337 : zD 197 337 = some (.if_icmp .eq (704), 3, none) ∧ zTg 337 (704) = some 1041 := by decide +kernel
theorem k_197_340 : zD 197 340 = some (.iconst (0), 1, none) := by decide +kernel
theorem k_197_341 : zD 197 341 = some (.ireturn, 1, none) := by decide +kernel
theorem k_197_342 : zD 197 342 = some (.aload_n 1, 1, none) := by decide +kernel
theorem k_197_343 : zD 197 343 = some (.aload_n 0, 1, none) := by decide +kernel
theorem k_197_344 : zD 197 344 = some (.iload_n 3, 1, none) := by decide +kernel
theorem k_197_345 : zD 197 345 = some (.iconst (1), 1, none) := by decide +kernel
theorem k_197_346 : zD 197 346 = some (.iadd, 1, none) := by decide +kernel
theorem k_197_347 : zD 197 347 = some (.iaload, 1, none) := by decide +kernel
theorem k_197_348 : zD 197 348 = some (.invokevirtual 43, 3, none) ∧ zCk (zOn 197) 43 = some (0, 58) ∧ zNp 58 = 1 ∧ zML 58 = 2 ∧ zCo[7]? = some (zOn 58) ∧ (zRt 58 = some .int ∨ zRt 58 = some .boolean ∨ zRt 58 = some .char ∨ zRt 58 = some .byte) := by decide +kernel
theorem k_197_351 : zD 197 351 = some (.aload_n 2, 1, none) := by decide +kernel
theorem k_197_352 : zD 197 352 = some (.aload_n 0, 1, none) := by decide +kernel
theorem k_197_353 : zD 197 353 = some (.iload_n 3, 1, none) := by decide +kernel
theorem k_197_354 : zD 197 354 = some (.iconst (1), 1, none) := by decide +kernel
theorem k_197_355 : zD 197 355 = some (.iadd, 1, none) := by decide +kernel
theorem k_197_356 : zD 197 356 = some (.iaload, 1, none) := by decide +kernel
theorem k_197_357 : zD 197 357 = some (.invokevirtual 46, 3, none) ∧ zCk (zOn 197) 46 = some (0, 154) ∧ zNp 154 = 1 ∧ zML 154 = 2 ∧ zCo[8]? = some (zOn 154) ∧ (zRt 154 = some .int ∨ zRt 154 = some .boolean ∨ zRt 154 = some .char ∨ zRt 154 = some .byte) := by decide +kernel
theorem k_197_360 : zD 197 360 = some (.if_icmp .eq (681), 3, none) ∧ zTg 360 (681) = some 1041 := by decide +kernel
theorem k_197_363 : zD 197 363 = some (.iconst (0), 1, none) := by decide +kernel
theorem k_197_364 : zD 197 364 = some (.ireturn, 1, none) := by decide +kernel
theorem k_197_365 : zD 197 365 = some (.aload_n 1, 1, none) := by decide +kernel
theorem k_197_366 : zD 197 366 = some (.aload_n 0, 1, none) := by decide +kernel
theorem k_197_367 : zD 197 367 = some (.iload_n 3, 1, none) := by decide +kernel
theorem k_197_368 : zD 197 368 = some (.iconst (1), 1, none) := by decide +kernel
theorem k_197_369 : zD 197 369 = some (.iadd, 1, none) := by decide +kernel
theorem k_197_370 : zD 197 370 = some (.iaload, 1, none) := by decide +kernel
theorem k_197_371 : zD 197 371 = some (.aload_n 0, 1, none) := by decide +kernel
theorem k_197_372 : zD 197 372 = some (.iload_n 3, 1, none) := by decide +kernel
theorem k_197_373 : zD 197 373 = some (.iconst (2), 1, none) := by decide +kernel
theorem k_197_374 : zD 197 374 = some (.iadd, 1, none) := by decide +kernel
theorem k_197_375 : zD 197 375 = some (.iaload, 1, none) := by decide +kernel
theorem k_197_376 : zD 197 376 = some (.aload_n 0, 1, none) := by decide +kernel
theorem k_197_377 : zD 197 377 = some (.iload_n 3, 1, none) := by decide +kernel
theorem k_197_378 : zD 197 378 = some (.iconst (3), 1, none) := by decide +kernel
theorem k_197_379 : zD 197 379 = some (.iadd, 1, none) := by decide +kernel
theorem k_197_380 : zD 197 380 = some (.iaload, 1, none) := by decide +kernel
theorem k_197_381 : zD 197 381 = some (.invokevirtual 47, 3, none) ∧ zCk (zOn 197) 47 = some (0, 60) ∧ zNp 60 = 3 ∧ zML 60 = 4 ∧ zCo[7]? = some (zOn 60) ∧ (zRt 60 = some .int ∨ zRt 60 = some .boolean ∨ zRt 60 = some .char ∨ zRt 60 = some .byte) := by decide +kernel
theorem k_197_384 : zD 197 384 = some (.aload_n 2, 1, none) := by decide +kernel
theorem k_197_385 : zD 197 385 = some (.aload_n 0, 1, none) := by decide +kernel
theorem k_197_386 : zD 197 386 = some (.iload_n 3, 1, none) := by decide +kernel
theorem k_197_387 : zD 197 387 = some (.iconst (1), 1, none) := by decide +kernel
theorem k_197_388 : zD 197 388 = some (.iadd, 1, none) := by decide +kernel
theorem k_197_389 : zD 197 389 = some (.iaload, 1, none) := by decide +kernel
theorem k_197_390 : zD 197 390 = some (.aload_n 0, 1, none) := by decide +kernel
theorem k_197_391 : zD 197 391 = some (.iload_n 3, 1, none) := by decide +kernel
theorem k_197_392 : zD 197 392 = some (.iconst (2), 1, none) := by decide +kernel
theorem k_197_393 : zD 197 393 = some (.iadd, 1, none) := by decide +kernel
theorem k_197_394 : zD 197 394 = some (.iaload, 1, none) := by decide +kernel
theorem k_197_395 : zD 197 395 = some (.aload_n 0, 1, none) := by decide +kernel
theorem k_197_396 : zD 197 396 = some (.iload_n 3, 1, none) := by decide +kernel
theorem k_197_397 : zD 197 397 = some (.iconst (3), 1, none) := by decide +kernel
theorem k_197_398 : zD 197 398 = some (.iadd, 1, none) := by decide +kernel
theorem k_197_399 : zD 197 399 = some (.iaload, 1, none) := by decide +kernel
theorem k_197_400 : zD 197 400 = some (.invokevirtual 51, 3, none) ∧ zCk (zOn 197) 51 = some (0, 156) ∧ zNp 156 = 3 ∧ zML 156 = 4 ∧ zCo[8]? = some (zOn 156) ∧ (zRt 156 = some .int ∨ zRt 156 = some .boolean ∨ zRt 156 = some .char ∨ zRt 156 = some .byte) := by decide +kernel
theorem k_197_403 : zD 197 403 = some (.if_icmp .eq (638), 3, none) ∧ zTg 403 (638) = some 1041 := by decide +kernel
theorem k_197_406 : zD 197 406 = some (.iconst (0), 1, none) := by decide +kernel
theorem k_197_407 : zD 197 407 = some (.ireturn, 1, none) := by decide +kernel
theorem k_197_408 : zD 197 408 = some (.aload_n 1, 1, none) := by decide +kernel
theorem k_197_409 : zD 197 409 = some (.aload_n 0, 1, none) := by decide +kernel
theorem k_197_410 : zD 197 410 = some (.iload_n 3, 1, none) := by decide +kernel
theorem k_197_411 : zD 197 411 = some (.iconst (1), 1, none) := by decide +kernel
theorem k_197_412 : zD 197 412 = some (.iadd, 1, none) := by decide +kernel
theorem k_197_413 : zD 197 413 = some (.iaload, 1, none) := by decide +kernel
theorem k_197_414 : zD 197 414 = some (.aload_n 0, 1, none) := by decide +kernel
theorem k_197_415 : zD 197 415 = some (.iload_n 3, 1, none) := by decide +kernel
theorem k_197_416 : zD 197 416 = some (.iconst (2), 1, none) := by decide +kernel
theorem k_197_417 : zD 197 417 = some (.iadd, 1, none) := by decide +kernel
theorem k_197_418 : zD 197 418 = some (.iaload, 1, none) := by decide +kernel
theorem k_197_419 : zD 197 419 = some (.aload_n 0, 1, none) := by decide +kernel
theorem k_197_420 : zD 197 420 = some (.iload_n 3, 1, none) := by decide +kernel
theorem k_197_421 : zD 197 421 = some (.iconst (3), 1, none) := by decide +kernel
theorem k_197_422 : zD 197 422 = some (.iadd, 1, none) := by decide +kernel
theorem k_197_423 : zD 197 423 = some (.iaload, 1, none) := by decide +kernel
theorem k_197_424 : zD 197 424 = some (.invokevirtual 52, 3, none) ∧ zCk (zOn 197) 52 = some (0, 64) ∧ zNp 64 = 3 ∧ zML 64 = 4 ∧ zCo[7]? = some (zOn 64) ∧ (zRt 64 = some .int ∨ zRt 64 = some .boolean ∨ zRt 64 = some .char ∨ zRt 64 = some .byte) := by decide +kernel
theorem k_197_427 : zD 197 427 = some (.aload_n 2, 1, none) := by decide +kernel
theorem k_197_428 : zD 197 428 = some (.aload_n 0, 1, none) := by decide +kernel
theorem k_197_429 : zD 197 429 = some (.iload_n 3, 1, none) := by decide +kernel
theorem k_197_430 : zD 197 430 = some (.iconst (1), 1, none) := by decide +kernel
theorem k_197_431 : zD 197 431 = some (.iadd, 1, none) := by decide +kernel
theorem k_197_432 : zD 197 432 = some (.iaload, 1, none) := by decide +kernel
theorem k_197_433 : zD 197 433 = some (.aload_n 0, 1, none) := by decide +kernel
theorem k_197_434 : zD 197 434 = some (.iload_n 3, 1, none) := by decide +kernel
theorem k_197_435 : zD 197 435 = some (.iconst (2), 1, none) := by decide +kernel
theorem k_197_436 : zD 197 436 = some (.iadd, 1, none) := by decide +kernel
theorem k_197_437 : zD 197 437 = some (.iaload, 1, none) := by decide +kernel
theorem k_197_438 : zD 197 438 = some (.aload_n 0, 1, none) := by decide +kernel
theorem k_197_439 : zD 197 439 = some (.iload_n 3, 1, none) := by decide +kernel
theorem k_197_440 : zD 197 440 = some (.iconst (3), 1, none) := by decide +kernel
theorem k_197_441 : zD 197 441 = some (.iadd, 1, none) := by decide +kernel
theorem k_197_442 : zD 197 442 = some (.iaload, 1, none) := by decide +kernel
theorem k_197_443 : zD 197 443 = some (.invokevirtual 55, 3, none) ∧ zCk (zOn 197) 55 = some (0, 159) ∧ zNp 159 = 3 ∧ zML 159 = 4 ∧ zCo[8]? = some (zOn 159) ∧ (zRt 159 = some .int ∨ zRt 159 = some .boolean ∨ zRt 159 = some .char ∨ zRt 159 = some .byte) := by decide +kernel
theorem k_197_446 : zD 197 446 = some (.if_icmp .eq (595), 3, none) ∧ zTg 446 (595) = some 1041 := by decide +kernel
theorem k_197_449 : zD 197 449 = some (.iconst (0), 1, none) := by decide +kernel
theorem k_197_450 : zD 197 450 = some (.ireturn, 1, none) := by decide +kernel
theorem k_197_451 : zD 197 451 = some (.aload_n 1, 1, none) := by decide +kernel
theorem k_197_452 : zD 197 452 = some (.aload_n 0, 1, none) := by decide +kernel
theorem k_197_453 : zD 197 453 = some (.iload_n 3, 1, none) := by decide +kernel
theorem k_197_454 : zD 197 454 = some (.iconst (1), 1, none) := by decide +kernel
theorem k_197_455 : zD 197 455 = some (.iadd, 1, none) := by decide +kernel
theorem k_197_456 : zD 197 456 = some (.iaload, 1, none) := by decide +kernel
theorem k_197_457 : zD 197 457 = some (.aload_n 0, 1, none) := by decide +kernel
theorem k_197_458 : zD 197 458 = some (.iload_n 3, 1, none) := by decide +kernel
theorem k_197_459 : zD 197 459 = some (.iconst (2), 1, none) := by decide +kernel
theorem k_197_460 : zD 197 460 = some (.iadd, 1, none) := by decide +kernel
theorem k_197_461 : zD 197 461 = some (.iaload, 1, none) := by decide +kernel
theorem k_197_462 : zD 197 462 = some (.invokevirtual 56, 3, none) ∧ zCk (zOn 197) 56 = some (0, 68) ∧ zNp 68 = 2 ∧ zML 68 = 3 ∧ zCo[7]? = some (zOn 68) ∧ (zRt 68 = some .int ∨ zRt 68 = some .boolean ∨ zRt 68 = some .char ∨ zRt 68 = some .byte) := by decide +kernel
theorem k_197_465 : zD 197 465 = some (.aload_n 2, 1, none) := by decide +kernel
theorem k_197_466 : zD 197 466 = some (.aload_n 0, 1, none) := by decide +kernel
theorem k_197_467 : zD 197 467 = some (.iload_n 3, 1, none) := by decide +kernel
theorem k_197_468 : zD 197 468 = some (.iconst (1), 1, none) := by decide +kernel
theorem k_197_469 : zD 197 469 = some (.iadd, 1, none) := by decide +kernel
theorem k_197_470 : zD 197 470 = some (.iaload, 1, none) := by decide +kernel
theorem k_197_471 : zD 197 471 = some (.aload_n 0, 1, none) := by decide +kernel
theorem k_197_472 : zD 197 472 = some (.iload_n 3, 1, none) := by decide +kernel
theorem k_197_473 : zD 197 473 = some (.iconst (2), 1, none) := by decide +kernel
theorem k_197_474 : zD 197 474 = some (.iadd, 1, none) := by decide +kernel
theorem k_197_475 : zD 197 475 = some (.iaload, 1, none) := by decide +kernel
theorem k_197_476 : zD 197 476 = some (.invokevirtual 59, 3, none) ∧ zCk (zOn 197) 59 = some (0, 164) ∧ zNp 164 = 2 ∧ zML 164 = 3 ∧ zCo[8]? = some (zOn 164) ∧ (zRt 164 = some .int ∨ zRt 164 = some .boolean ∨ zRt 164 = some .char ∨ zRt 164 = some .byte) := by decide +kernel
theorem k_197_479 : zD 197 479 = some (.if_icmp .eq (562), 3, none) ∧ zTg 479 (562) = some 1041 := by decide +kernel
theorem k_197_482 : zD 197 482 = some (.iconst (0), 1, none) := by decide +kernel
theorem k_197_483 : zD 197 483 = some (.ireturn, 1, none) := by decide +kernel
theorem k_197_484 : zD 197 484 = some (.aload_n 1, 1, none) := by decide +kernel
theorem k_197_485 : zD 197 485 = some (.aload_n 0, 1, none) := by decide +kernel
theorem k_197_486 : zD 197 486 = some (.iload_n 3, 1, none) := by decide +kernel
theorem k_197_487 : zD 197 487 = some (.iconst (1), 1, none) := by decide +kernel
theorem k_197_488 : zD 197 488 = some (.iadd, 1, none) := by decide +kernel
theorem k_197_489 : zD 197 489 = some (.iaload, 1, none) := by decide +kernel
theorem k_197_490 : zD 197 490 = some (.aload_n 0, 1, none) := by decide +kernel
theorem k_197_491 : zD 197 491 = some (.iload_n 3, 1, none) := by decide +kernel
theorem k_197_492 : zD 197 492 = some (.iconst (2), 1, none) := by decide +kernel
theorem k_197_493 : zD 197 493 = some (.iadd, 1, none) := by decide +kernel
theorem k_197_494 : zD 197 494 = some (.iaload, 1, none) := by decide +kernel
theorem k_197_495 : zD 197 495 = some (.aload_n 0, 1, none) := by decide +kernel
theorem k_197_496 : zD 197 496 = some (.iload_n 3, 1, none) := by decide +kernel
theorem k_197_497 : zD 197 497 = some (.iconst (3), 1, none) := by decide +kernel
theorem k_197_498 : zD 197 498 = some (.iadd, 1, none) := by decide +kernel
theorem k_197_499 : zD 197 499 = some (.iaload, 1, none) := by decide +kernel
theorem k_197_500 : zD 197 500 = some (.invokevirtual 60, 3, none) ∧ zCk (zOn 197) 60 = some (0, 70) ∧ zNp 70 = 3 ∧ zML 70 = 4 ∧ zCo[7]? = some (zOn 70) ∧ (zRt 70 = some .int ∨ zRt 70 = some .boolean ∨ zRt 70 = some .char ∨ zRt 70 = some .byte) := by decide +kernel
theorem k_197_503 : zD 197 503 = some (.aload_n 2, 1, none) := by decide +kernel
theorem k_197_504 : zD 197 504 = some (.aload_n 0, 1, none) := by decide +kernel
theorem k_197_505 : zD 197 505 = some (.iload_n 3, 1, none) := by decide +kernel
theorem k_197_506 : zD 197 506 = some (.iconst (1), 1, none) := by decide +kernel
theorem k_197_507 : zD 197 507 = some (.iadd, 1, none) := by decide +kernel
theorem k_197_508 : zD 197 508 = some (.iaload, 1, none) := by decide +kernel
theorem k_197_509 : zD 197 509 = some (.aload_n 0, 1, none) := by decide +kernel
theorem k_197_510 : zD 197 510 = some (.iload_n 3, 1, none) := by decide +kernel
theorem k_197_511 : zD 197 511 = some (.iconst (2), 1, none) := by decide +kernel
theorem k_197_512 : zD 197 512 = some (.iadd, 1, none) := by decide +kernel
theorem k_197_513 : zD 197 513 = some (.iaload, 1, none) := by decide +kernel
theorem k_197_514 : zD 197 514 = some (.aload_n 0, 1, none) := by decide +kernel
theorem k_197_515 : zD 197 515 = some (.iload_n 3, 1, none) := by decide +kernel
theorem k_197_516 : zD 197 516 = some (.iconst (3), 1, none) := by decide +kernel
theorem k_197_517 : zD 197 517 = some (.iadd, 1, none) := by decide +kernel
theorem k_197_518 : zD 197 518 = some (.iaload, 1, none) := by decide +kernel
theorem k_197_519 : zD 197 519 = some (.invokevirtual 63, 3, none) ∧ zCk (zOn 197) 63 = some (0, 166) ∧ zNp 166 = 3 ∧ zML 166 = 4 ∧ zCo[8]? = some (zOn 166) ∧ (zRt 166 = some .int ∨ zRt 166 = some .boolean ∨ zRt 166 = some .char ∨ zRt 166 = some .byte) := by decide +kernel
theorem k_197_522 : zD 197 522 = some (.if_icmp .eq (519), 3, none) ∧ zTg 522 (519) = some 1041 := by decide +kernel
theorem k_197_525 : zD 197 525 = some (.iconst (0), 1, none) := by decide +kernel
theorem k_197_526 : zD 197 526 = some (.ireturn, 1, none) := by decide +kernel
theorem k_197_527 : zD 197 527 = some (.aload_n 1, 1, none) := by decide +kernel
theorem k_197_528 : zD 197 528 = some (.aload_n 0, 1, none) := by decide +kernel
theorem k_197_529 : zD 197 529 = some (.iload_n 3, 1, none) := by decide +kernel
theorem k_197_530 : zD 197 530 = some (.iconst (1), 1, none) := by decide +kernel
theorem k_197_531 : zD 197 531 = some (.iadd, 1, none) := by decide +kernel
theorem k_197_532 : zD 197 532 = some (.iaload, 1, none) := by decide +kernel
theorem k_197_533 : zD 197 533 = some (.aload_n 0, 1, none) := by decide +kernel
theorem k_197_534 : zD 197 534 = some (.iload_n 3, 1, none) := by decide +kernel
theorem k_197_535 : zD 197 535 = some (.iconst (2), 1, none) := by decide +kernel
theorem k_197_536 : zD 197 536 = some (.iadd, 1, none) := by decide +kernel
theorem k_197_537 : zD 197 537 = some (.iaload, 1, none) := by decide +kernel
theorem k_197_538 : zD 197 538 = some (.invokevirtual 64, 3, none) ∧ zCk (zOn 197) 64 = some (0, 72) ∧ zNp 72 = 2 ∧ zML 72 = 3 ∧ zCo[7]? = some (zOn 72) ∧ (zRt 72 = some .int ∨ zRt 72 = some .boolean ∨ zRt 72 = some .char ∨ zRt 72 = some .byte) := by decide +kernel
theorem k_197_541 : zD 197 541 = some (.aload_n 2, 1, none) := by decide +kernel
theorem k_197_542 : zD 197 542 = some (.aload_n 0, 1, none) := by decide +kernel
theorem k_197_543 : zD 197 543 = some (.iload_n 3, 1, none) := by decide +kernel
theorem k_197_544 : zD 197 544 = some (.iconst (1), 1, none) := by decide +kernel
theorem k_197_545 : zD 197 545 = some (.iadd, 1, none) := by decide +kernel
theorem k_197_546 : zD 197 546 = some (.iaload, 1, none) := by decide +kernel
theorem k_197_547 : zD 197 547 = some (.aload_n 0, 1, none) := by decide +kernel
theorem k_197_548 : zD 197 548 = some (.iload_n 3, 1, none) := by decide +kernel
theorem k_197_549 : zD 197 549 = some (.iconst (2), 1, none) := by decide +kernel
theorem k_197_550 : zD 197 550 = some (.iadd, 1, none) := by decide +kernel
theorem k_197_551 : zD 197 551 = some (.iaload, 1, none) := by decide +kernel
theorem k_197_552 : zD 197 552 = some (.invokevirtual 67, 3, none) ∧ zCk (zOn 197) 67 = some (0, 169) ∧ zNp 169 = 2 ∧ zML 169 = 3 ∧ zCo[8]? = some (zOn 169) ∧ (zRt 169 = some .int ∨ zRt 169 = some .boolean ∨ zRt 169 = some .char ∨ zRt 169 = some .byte) := by decide +kernel
theorem k_197_555 : zD 197 555 = some (.if_icmp .eq (486), 3, none) ∧ zTg 555 (486) = some 1041 := by decide +kernel
theorem k_197_558 : zD 197 558 = some (.iconst (0), 1, none) := by decide +kernel
theorem k_197_559 : zD 197 559 = some (.ireturn, 1, none) := by decide +kernel
theorem k_197_560 : zD 197 560 = some (.aload_n 1, 1, none) := by decide +kernel
theorem k_197_561 : zD 197 561 = some (.aload_n 0, 1, none) := by decide +kernel
theorem k_197_562 : zD 197 562 = some (.iload_n 3, 1, none) := by decide +kernel
theorem k_197_563 : zD 197 563 = some (.iconst (1), 1, none) := by decide +kernel
theorem k_197_564 : zD 197 564 = some (.iadd, 1, none) := by decide +kernel
theorem k_197_565 : zD 197 565 = some (.iaload, 1, none) := by decide +kernel
theorem k_197_566 : zD 197 566 = some (.aload_n 0, 1, none) := by decide +kernel
theorem k_197_567 : zD 197 567 = some (.iload_n 3, 1, none) := by decide +kernel
theorem k_197_568 : zD 197 568 = some (.iconst (2), 1, none) := by decide +kernel
theorem k_197_569 : zD 197 569 = some (.iadd, 1, none) := by decide +kernel
theorem k_197_570 : zD 197 570 = some (.iaload, 1, none) := by decide +kernel
theorem k_197_571 : zD 197 571 = some (.aload_n 0, 1, none) := by decide +kernel
theorem k_197_572 : zD 197 572 = some (.iload_n 3, 1, none) := by decide +kernel
theorem k_197_573 : zD 197 573 = some (.iconst (3), 1, none) := by decide +kernel
theorem k_197_574 : zD 197 574 = some (.iadd, 1, none) := by decide +kernel
theorem k_197_575 : zD 197 575 = some (.iaload, 1, none) := by decide +kernel
theorem k_197_576 : zD 197 576 = some (.aload_n 0, 1, none) := by decide +kernel
theorem k_197_577 : zD 197 577 = some (.iload_n 3, 1, none) := by decide +kernel
theorem k_197_578 : zD 197 578 = some (.iconst (4), 1, none) := by decide +kernel
theorem k_197_579 : zD 197 579 = some (.iadd, 1, none) := by decide +kernel
theorem k_197_580 : zD 197 580 = some (.iaload, 1, none) := by decide +kernel
theorem k_197_581 : zD 197 581 = some (.invokevirtual 68, 3, none) ∧ zCk (zOn 197) 68 = some (0, 74) ∧ zNp 74 = 4 ∧ zML 74 = 5 ∧ zCo[7]? = some (zOn 74) ∧ (zRt 74 = some .int ∨ zRt 74 = some .boolean ∨ zRt 74 = some .char ∨ zRt 74 = some .byte) := by decide +kernel
theorem k_197_584 : zD 197 584 = some (.aload_n 2, 1, none) := by decide +kernel
theorem k_197_585 : zD 197 585 = some (.aload_n 0, 1, none) := by decide +kernel
theorem k_197_586 : zD 197 586 = some (.iload_n 3, 1, none) := by decide +kernel
theorem k_197_587 : zD 197 587 = some (.iconst (1), 1, none) := by decide +kernel
theorem k_197_588 : zD 197 588 = some (.iadd, 1, none) := by decide +kernel
theorem k_197_589 : zD 197 589 = some (.iaload, 1, none) := by decide +kernel
theorem k_197_590 : zD 197 590 = some (.aload_n 0, 1, none) := by decide +kernel
theorem k_197_591 : zD 197 591 = some (.iload_n 3, 1, none) := by decide +kernel
theorem k_197_592 : zD 197 592 = some (.iconst (2), 1, none) := by decide +kernel
theorem k_197_593 : zD 197 593 = some (.iadd, 1, none) := by decide +kernel
theorem k_197_594 : zD 197 594 = some (.iaload, 1, none) := by decide +kernel
theorem k_197_595 : zD 197 595 = some (.aload_n 0, 1, none) := by decide +kernel
theorem k_197_596 : zD 197 596 = some (.iload_n 3, 1, none) := by decide +kernel
theorem k_197_597 : zD 197 597 = some (.iconst (3), 1, none) := by decide +kernel
theorem k_197_598 : zD 197 598 = some (.iadd, 1, none) := by decide +kernel
theorem k_197_599 : zD 197 599 = some (.iaload, 1, none) := by decide +kernel
theorem k_197_600 : zD 197 600 = some (.aload_n 0, 1, none) := by decide +kernel
theorem k_197_601 : zD 197 601 = some (.iload_n 3, 1, none) := by decide +kernel
theorem k_197_602 : zD 197 602 = some (.iconst (4), 1, none) := by decide +kernel
theorem k_197_603 : zD 197 603 = some (.iadd, 1, none) := by decide +kernel
theorem k_197_604 : zD 197 604 = some (.iaload, 1, none) := by decide +kernel
theorem k_197_605 : zD 197 605 = some (.invokevirtual 72, 3, none) ∧ zCk (zOn 197) 72 = some (0, 171) ∧ zNp 171 = 4 ∧ zML 171 = 5 ∧ zCo[8]? = some (zOn 171) ∧ (zRt 171 = some .int ∨ zRt 171 = some .boolean ∨ zRt 171 = some .char ∨ zRt 171 = some .byte) := by decide +kernel
theorem k_197_608 : zD 197 608 = some (.if_icmp .eq (433), 3, none) ∧ zTg 608 (433) = some 1041 := by decide +kernel
theorem k_197_611 : zD 197 611 = some (.iconst (0), 1, none) := by decide +kernel
theorem k_197_612 : zD 197 612 = some (.ireturn, 1, none) := by decide +kernel
theorem k_197_613 : zD 197 613 = some (.aload_n 1, 1, none) := by decide +kernel
theorem k_197_614 : zD 197 614 = some (.aload_n 0, 1, none) := by decide +kernel
theorem k_197_615 : zD 197 615 = some (.iload_n 3, 1, none) := by decide +kernel
theorem k_197_616 : zD 197 616 = some (.iconst (1), 1, none) := by decide +kernel
theorem k_197_617 : zD 197 617 = some (.iadd, 1, none) := by decide +kernel
theorem k_197_618 : zD 197 618 = some (.iaload, 1, none) := by decide +kernel
theorem k_197_619 : zD 197 619 = some (.aload_n 0, 1, none) := by decide +kernel
theorem k_197_620 : zD 197 620 = some (.iload_n 3, 1, none) := by decide +kernel
theorem k_197_621 : zD 197 621 = some (.iconst (2), 1, none) := by decide +kernel
theorem k_197_622 : zD 197 622 = some (.iadd, 1, none) := by decide +kernel
theorem k_197_623 : zD 197 623 = some (.iaload, 1, none) := by decide +kernel
theorem k_197_624 : zD 197 624 = some (.invokevirtual 73, 3, none) ∧ zCk (zOn 197) 73 = some (0, 83) ∧ zNp 83 = 2 ∧ zML 83 = 3 ∧ zCo[7]? = some (zOn 83) ∧ (zRt 83 = some .int ∨ zRt 83 = some .boolean ∨ zRt 83 = some .char ∨ zRt 83 = some .byte) := by decide +kernel
theorem k_197_627 : zD 197 627 = some (.aload_n 2, 1, none) := by decide +kernel
theorem k_197_628 : zD 197 628 = some (.aload_n 0, 1, none) := by decide +kernel
theorem k_197_629 : zD 197 629 = some (.iload_n 3, 1, none) := by decide +kernel
theorem k_197_630 : zD 197 630 = some (.iconst (1), 1, none) := by decide +kernel
theorem k_197_631 : zD 197 631 = some (.iadd, 1, none) := by decide +kernel
theorem k_197_632 : zD 197 632 = some (.iaload, 1, none) := by decide +kernel
theorem k_197_633 : zD 197 633 = some (.aload_n 0, 1, none) := by decide +kernel
theorem k_197_634 : zD 197 634 = some (.iload_n 3, 1, none) := by decide +kernel
theorem k_197_635 : zD 197 635 = some (.iconst (2), 1, none) := by decide +kernel
theorem k_197_636 : zD 197 636 = some (.iadd, 1, none) := by decide +kernel
theorem k_197_637 : zD 197 637 = some (.iaload, 1, none) := by decide +kernel
theorem k_197_638 : zD 197 638 = some (.invokevirtual 76, 3, none) ∧ zCk (zOn 197) 76 = some (0, 174) ∧ zNp 174 = 2 ∧ zML 174 = 3 ∧ zCo[8]? = some (zOn 174) ∧ (zRt 174 = some .int ∨ zRt 174 = some .boolean ∨ zRt 174 = some .char ∨ zRt 174 = some .byte) := by decide +kernel
theorem k_197_641 : zD 197 641 = some (.if_icmp .eq (400), 3, none) ∧ zTg 641 (400) = some 1041 := by decide +kernel
theorem k_197_644 : zD 197 644 = some (.iconst (0), 1, none) := by decide +kernel
theorem k_197_645 : zD 197 645 = some (.ireturn, 1, none) := by decide +kernel
theorem k_197_646 : zD 197 646 = some (.aload_n 1, 1, none) := by decide +kernel
theorem k_197_647 : zD 197 647 = some (.invokevirtual 77, 3, none) ∧ zCk (zOn 197) 77 = some (0, 86) ∧ zNp 86 = 0 ∧ zML 86 = 1 ∧ zCo[7]? = some (zOn 86) ∧ (zRt 86 = some .int ∨ zRt 86 = some .boolean ∨ zRt 86 = some .char ∨ zRt 86 = some .byte) := by decide +kernel
theorem k_197_650 : zD 197 650 = some (.aload_n 2, 1, none) := by decide +kernel
theorem k_197_651 : zD 197 651 = some (.invokevirtual 80, 3, none) ∧ zCk (zOn 197) 80 = some (0, 176) ∧ zNp 176 = 0 ∧ zML 176 = 6 ∧ zCo[8]? = some (zOn 176) ∧ (zRt 176 = some .int ∨ zRt 176 = some .boolean ∨ zRt 176 = some .char ∨ zRt 176 = some .byte) := by decide +kernel
theorem k_197_654 : zD 197 654 = some (.if_icmp .eq (387), 3, none) ∧ zTg 654 (387) = some 1041 := by decide +kernel
theorem k_197_657 : zD 197 657 = some (.iconst (0), 1, none) := by decide +kernel
theorem k_197_658 : zD 197 658 = some (.ireturn, 1, none) := by decide +kernel
theorem k_197_659 : zD 197 659 = some (.aload_n 1, 1, none) := by decide +kernel
theorem k_197_660 : zD 197 660 = some (.aload_n 0, 1, none) := by decide +kernel
theorem k_197_661 : zD 197 661 = some (.iload_n 3, 1, none) := by decide +kernel
theorem k_197_662 : zD 197 662 = some (.iconst (1), 1, none) := by decide +kernel
theorem k_197_663 : zD 197 663 = some (.iadd, 1, none) := by decide +kernel
theorem k_197_664 : zD 197 664 = some (.iaload, 1, none) := by decide +kernel
theorem k_197_665 : zD 197 665 = some (.invokevirtual 81, 3, none) ∧ zCk (zOn 197) 81 = some (0, 88) ∧ zNp 88 = 1 ∧ zML 88 = 3 ∧ zCo[7]? = some (zOn 88) ∧ (zRt 88 = some .int ∨ zRt 88 = some .boolean ∨ zRt 88 = some .char ∨ zRt 88 = some .byte) := by decide +kernel
theorem k_197_668 : zD 197 668 = some (.aload_n 2, 1, none) := by decide +kernel
theorem k_197_669 : zD 197 669 = some (.aload_n 0, 1, none) := by decide +kernel
theorem k_197_670 : zD 197 670 = some (.iload_n 3, 1, none) := by decide +kernel
theorem k_197_671 : zD 197 671 = some (.iconst (1), 1, none) := by decide +kernel
theorem k_197_672 : zD 197 672 = some (.iadd, 1, none) := by decide +kernel
theorem k_197_673 : zD 197 673 = some (.iaload, 1, none) := by decide +kernel
theorem k_197_674 : zD 197 674 = some (.invokevirtual 84, 3, none) ∧ zCk (zOn 197) 84 = some (0, 177) ∧ zNp 177 = 1 ∧ zML 177 = 3 ∧ zCo[8]? = some (zOn 177) ∧ (zRt 177 = some .int ∨ zRt 177 = some .boolean ∨ zRt 177 = some .char ∨ zRt 177 = some .byte) := by decide +kernel
theorem k_197_677 : zD 197 677 = some (.if_icmp .eq (364), 3, none) ∧ zTg 677 (364) = some 1041 := by decide +kernel
theorem k_197_680 : zD 197 680 = some (.iconst (0), 1, none) := by decide +kernel
theorem k_197_681 : zD 197 681 = some (.ireturn, 1, none) := by decide +kernel
theorem k_197_682 : zD 197 682 = some (.aload_n 1, 1, none) := by decide +kernel
theorem k_197_683 : zD 197 683 = some (.aload_n 0, 1, none) := by decide +kernel
theorem k_197_684 : zD 197 684 = some (.iload_n 3, 1, none) := by decide +kernel
theorem k_197_685 : zD 197 685 = some (.iconst (1), 1, none) := by decide +kernel
theorem k_197_686 : zD 197 686 = some (.iadd, 1, none) := by decide +kernel
theorem k_197_687 : zD 197 687 = some (.iaload, 1, none) := by decide +kernel
theorem k_197_688 : zD 197 688 = some (.aload_n 0, 1, none) := by decide +kernel
theorem k_197_689 : zD 197 689 = some (.iload_n 3, 1, none) := by decide +kernel
theorem k_197_690 : zD 197 690 = some (.iconst (2), 1, none) := by decide +kernel
theorem k_197_691 : zD 197 691 = some (.iadd, 1, none) := by decide +kernel
theorem k_197_692 : zD 197 692 = some (.iaload, 1, none) := by decide +kernel
theorem k_197_693 : zD 197 693 = some (.aload_n 0, 1, none) := by decide +kernel
theorem k_197_694 : zD 197 694 = some (.iload_n 3, 1, none) := by decide +kernel
theorem k_197_695 : zD 197 695 = some (.iconst (3), 1, none) := by decide +kernel
theorem k_197_696 : zD 197 696 = some (.iadd, 1, none) := by decide +kernel
theorem k_197_697 : zD 197 697 = some (.iaload, 1, none) := by decide +kernel
theorem k_197_698 : zD 197 698 = some (.invokevirtual 85, 3, none) ∧ zCk (zOn 197) 85 = some (0, 91) ∧ zNp 91 = 3 ∧ zML 91 = 4 ∧ zCo[7]? = some (zOn 91) ∧ (zRt 91 = some .int ∨ zRt 91 = some .boolean ∨ zRt 91 = some .char ∨ zRt 91 = some .byte) := by decide +kernel
theorem k_197_701 : zD 197 701 = some (.aload_n 2, 1, none) := by decide +kernel
theorem k_197_702 : zD 197 702 = some (.aload_n 0, 1, none) := by decide +kernel
theorem k_197_703 : zD 197 703 = some (.iload_n 3, 1, none) := by decide +kernel
theorem k_197_704 : zD 197 704 = some (.iconst (1), 1, none) := by decide +kernel
theorem k_197_705 : zD 197 705 = some (.iadd, 1, none) := by decide +kernel
theorem k_197_706 : zD 197 706 = some (.iaload, 1, none) := by decide +kernel
theorem k_197_707 : zD 197 707 = some (.aload_n 0, 1, none) := by decide +kernel
theorem k_197_708 : zD 197 708 = some (.iload_n 3, 1, none) := by decide +kernel
theorem k_197_709 : zD 197 709 = some (.iconst (2), 1, none) := by decide +kernel
theorem k_197_710 : zD 197 710 = some (.iadd, 1, none) := by decide +kernel
theorem k_197_711 : zD 197 711 = some (.iaload, 1, none) := by decide +kernel
theorem k_197_712 : zD 197 712 = some (.aload_n 0, 1, none) := by decide +kernel
theorem k_197_713 : zD 197 713 = some (.iload_n 3, 1, none) := by decide +kernel
theorem k_197_714 : zD 197 714 = some (.iconst (3), 1, none) := by decide +kernel
theorem k_197_715 : zD 197 715 = some (.iadd, 1, none) := by decide +kernel
theorem k_197_716 : zD 197 716 = some (.iaload, 1, none) := by decide +kernel
theorem k_197_717 : zD 197 717 = some (.invokevirtual 88, 3, none) ∧ zCk (zOn 197) 88 = some (0, 179) ∧ zNp 179 = 3 ∧ zML 179 = 6 ∧ zCo[8]? = some (zOn 179) ∧ (zRt 179 = some .int ∨ zRt 179 = some .boolean ∨ zRt 179 = some .char ∨ zRt 179 = some .byte) := by decide +kernel
theorem k_197_720 : zD 197 720 = some (.if_icmp .eq (321), 3, none) ∧ zTg 720 (321) = some 1041 := by decide +kernel
theorem k_197_723 : zD 197 723 = some (.iconst (0), 1, none) := by decide +kernel
theorem k_197_724 : zD 197 724 = some (.ireturn, 1, none) := by decide +kernel
theorem k_197_725 : zD 197 725 = some (.aload_n 1, 1, none) := by decide +kernel
theorem k_197_726 : zD 197 726 = some (.aload_n 0, 1, none) := by decide +kernel
theorem k_197_727 : zD 197 727 = some (.iload_n 3, 1, none) := by decide +kernel
theorem k_197_728 : zD 197 728 = some (.iconst (1), 1, none) := by decide +kernel
theorem k_197_729 : zD 197 729 = some (.iadd, 1, none) := by decide +kernel
theorem k_197_730 : zD 197 730 = some (.iaload, 1, none) := by decide +kernel
theorem k_197_731 : zD 197 731 = some (.invokevirtual 89, 3, none) ∧ zCk (zOn 197) 89 = some (0, 99) ∧ zNp 99 = 1 ∧ zML 99 = 2 ∧ zCo[7]? = some (zOn 99) ∧ (zRt 99 = some .int ∨ zRt 99 = some .boolean ∨ zRt 99 = some .char ∨ zRt 99 = some .byte) := by decide +kernel
theorem k_197_734 : zD 197 734 = some (.aload_n 2, 1, none) := by decide +kernel
theorem k_197_735 : zD 197 735 = some (.aload_n 0, 1, none) := by decide +kernel
theorem k_197_736 : zD 197 736 = some (.iload_n 3, 1, none) := by decide +kernel
theorem k_197_737 : zD 197 737 = some (.iconst (1), 1, none) := by decide +kernel
theorem k_197_738 : zD 197 738 = some (.iadd, 1, none) := by decide +kernel
theorem k_197_739 : zD 197 739 = some (.iaload, 1, none) := by decide +kernel
theorem k_197_740 : zD 197 740 = some (.invokevirtual 92, 3, none) ∧ zCk (zOn 197) 92 = some (0, 182) ∧ zNp 182 = 1 ∧ zML 182 = 3 ∧ zCo[8]? = some (zOn 182) ∧ (zRt 182 = some .int ∨ zRt 182 = some .boolean ∨ zRt 182 = some .char ∨ zRt 182 = some .byte) := by decide +kernel
theorem k_197_743 : zD 197 743 = some (.if_icmp .eq (298), 3, none) ∧ zTg 743 (298) = some 1041 := by decide +kernel
theorem k_197_746 : zD 197 746 = some (.iconst (0), 1, none) := by decide +kernel
theorem k_197_747 : zD 197 747 = some (.ireturn, 1, none) := by decide +kernel
theorem k_197_748 : zD 197 748 = some (.aload_n 1, 1, none) := by decide +kernel
theorem k_197_749 : zD 197 749 = some (.aload_n 0, 1, none) := by decide +kernel
theorem k_197_750 : zD 197 750 = some (.iload_n 3, 1, none) := by decide +kernel
theorem k_197_751 : zD 197 751 = some (.iconst (1), 1, none) := by decide +kernel
theorem k_197_752 : zD 197 752 = some (.iadd, 1, none) := by decide +kernel
theorem k_197_753 : zD 197 753 = some (.iaload, 1, none) := by decide +kernel
theorem k_197_754 : zD 197 754 = some (.aload_n 0, 1, none) := by decide +kernel
theorem k_197_755 : zD 197 755 = some (.iload_n 3, 1, none) := by decide +kernel
theorem k_197_756 : zD 197 756 = some (.iconst (2), 1, none) := by decide +kernel
theorem k_197_757 : zD 197 757 = some (.iadd, 1, none) := by decide +kernel
theorem k_197_758 : zD 197 758 = some (.iaload, 1, none) := by decide +kernel
theorem k_197_759 : zD 197 759 = some (.aload_n 0, 1, none) := by decide +kernel
theorem k_197_760 : zD 197 760 = some (.iload_n 3, 1, none) := by decide +kernel
theorem k_197_761 : zD 197 761 = some (.iconst (3), 1, none) := by decide +kernel
theorem k_197_762 : zD 197 762 = some (.iadd, 1, none) := by decide +kernel
theorem k_197_763 : zD 197 763 = some (.iaload, 1, none) := by decide +kernel
theorem k_197_764 : zD 197 764 = some (.invokevirtual 93, 3, none) ∧ zCk (zOn 197) 93 = some (0, 105) ∧ zNp 105 = 3 ∧ zML 105 = 4 ∧ zCo[7]? = some (zOn 105) ∧ (zRt 105 = some .int ∨ zRt 105 = some .boolean ∨ zRt 105 = some .char ∨ zRt 105 = some .byte) := by decide +kernel
theorem k_197_767 : zD 197 767 = some (.aload_n 2, 1, none) := by decide +kernel
theorem k_197_768 : zD 197 768 = some (.aload_n 0, 1, none) := by decide +kernel
theorem k_197_769 : zD 197 769 = some (.iload_n 3, 1, none) := by decide +kernel
theorem k_197_770 : zD 197 770 = some (.iconst (1), 1, none) := by decide +kernel
theorem k_197_771 : zD 197 771 = some (.iadd, 1, none) := by decide +kernel
theorem k_197_772 : zD 197 772 = some (.iaload, 1, none) := by decide +kernel
theorem k_197_773 : zD 197 773 = some (.aload_n 0, 1, none) := by decide +kernel
theorem k_197_774 : zD 197 774 = some (.iload_n 3, 1, none) := by decide +kernel
theorem k_197_775 : zD 197 775 = some (.iconst (2), 1, none) := by decide +kernel
theorem k_197_776 : zD 197 776 = some (.iadd, 1, none) := by decide +kernel
theorem k_197_777 : zD 197 777 = some (.iaload, 1, none) := by decide +kernel
theorem k_197_778 : zD 197 778 = some (.aload_n 0, 1, none) := by decide +kernel
theorem k_197_779 : zD 197 779 = some (.iload_n 3, 1, none) := by decide +kernel
theorem k_197_780 : zD 197 780 = some (.iconst (3), 1, none) := by decide +kernel
theorem k_197_781 : zD 197 781 = some (.iadd, 1, none) := by decide +kernel
theorem k_197_782 : zD 197 782 = some (.iaload, 1, none) := by decide +kernel
theorem k_197_783 : zD 197 783 = some (.invokevirtual 96, 3, none) ∧ zCk (zOn 197) 96 = some (0, 184) ∧ zNp 184 = 3 ∧ zML 184 = 4 ∧ zCo[8]? = some (zOn 184) ∧ (zRt 184 = some .int ∨ zRt 184 = some .boolean ∨ zRt 184 = some .char ∨ zRt 184 = some .byte) := by decide +kernel
theorem k_197_786 : zD 197 786 = some (.if_icmp .eq (255), 3, none) ∧ zTg 786 (255) = some 1041 := by decide +kernel
theorem k_197_789 : zD 197 789 = some (.iconst (0), 1, none) := by decide +kernel
theorem k_197_790 : zD 197 790 = some (.ireturn, 1, none) := by decide +kernel
theorem k_197_791 : zD 197 791 = some (.aload_n 1, 1, none) := by decide +kernel
theorem k_197_792 : zD 197 792 = some (.aload_n 0, 1, none) := by decide +kernel
theorem k_197_793 : zD 197 793 = some (.iload_n 3, 1, none) := by decide +kernel
theorem k_197_794 : zD 197 794 = some (.iconst (1), 1, none) := by decide +kernel
theorem k_197_795 : zD 197 795 = some (.iadd, 1, none) := by decide +kernel
theorem k_197_796 : zD 197 796 = some (.iaload, 1, none) := by decide +kernel
theorem k_197_797 : zD 197 797 = some (.aload_n 0, 1, none) := by decide +kernel
theorem k_197_798 : zD 197 798 = some (.iload_n 3, 1, none) := by decide +kernel
theorem k_197_799 : zD 197 799 = some (.iconst (2), 1, none) := by decide +kernel
theorem k_197_800 : zD 197 800 = some (.iadd, 1, none) := by decide +kernel
theorem k_197_801 : zD 197 801 = some (.iaload, 1, none) := by decide +kernel
theorem k_197_802 : zD 197 802 = some (.invokevirtual 97, 3, none) ∧ zCk (zOn 197) 97 = some (0, 106) ∧ zNp 106 = 2 ∧ zML 106 = 3 ∧ zCo[7]? = some (zOn 106) ∧ (zRt 106 = some .int ∨ zRt 106 = some .boolean ∨ zRt 106 = some .char ∨ zRt 106 = some .byte) := by decide +kernel
theorem k_197_805 : zD 197 805 = some (.aload_n 2, 1, none) := by decide +kernel
theorem k_197_806 : zD 197 806 = some (.aload_n 0, 1, none) := by decide +kernel
theorem k_197_807 : zD 197 807 = some (.iload_n 3, 1, none) := by decide +kernel
theorem k_197_808 : zD 197 808 = some (.iconst (1), 1, none) := by decide +kernel
theorem k_197_809 : zD 197 809 = some (.iadd, 1, none) := by decide +kernel
theorem k_197_810 : zD 197 810 = some (.iaload, 1, none) := by decide +kernel
theorem k_197_811 : zD 197 811 = some (.aload_n 0, 1, none) := by decide +kernel
theorem k_197_812 : zD 197 812 = some (.iload_n 3, 1, none) := by decide +kernel
theorem k_197_813 : zD 197 813 = some (.iconst (2), 1, none) := by decide +kernel
theorem k_197_814 : zD 197 814 = some (.iadd, 1, none) := by decide +kernel
theorem k_197_815 : zD 197 815 = some (.iaload, 1, none) := by decide +kernel
theorem k_197_816 : zD 197 816 = some (.invokevirtual 100, 3, none) ∧ zCk (zOn 197) 100 = some (0, 185) ∧ zNp 185 = 2 ∧ zML 185 = 8 ∧ zCo[8]? = some (zOn 185) ∧ (zRt 185 = some .int ∨ zRt 185 = some .boolean ∨ zRt 185 = some .char ∨ zRt 185 = some .byte) := by decide +kernel
theorem k_197_819 : zD 197 819 = some (.if_icmp .eq (222), 3, none) ∧ zTg 819 (222) = some 1041 := by decide +kernel
theorem k_197_822 : zD 197 822 = some (.iconst (0), 1, none) := by decide +kernel
theorem k_197_823 : zD 197 823 = some (.ireturn, 1, none) := by decide +kernel
theorem k_197_824 : zD 197 824 = some (.aload_n 1, 1, none) := by decide +kernel
theorem k_197_825 : zD 197 825 = some (.invokevirtual 101, 3, none) ∧ zCk (zOn 197) 101 = some (0, 109) ∧ zNp 109 = 0 ∧ zML 109 = 5 ∧ zCo[7]? = some (zOn 109) ∧ (zRt 109 = some .int ∨ zRt 109 = some .boolean ∨ zRt 109 = some .char ∨ zRt 109 = some .byte) := by decide +kernel
theorem k_197_828 : zD 197 828 = some (.aload_n 2, 1, none) := by decide +kernel
theorem k_197_829 : zD 197 829 = some (.invokevirtual 104, 3, none) ∧ zCk (zOn 197) 104 = some (0, 187) ∧ zNp 187 = 0 ∧ zML 187 = 6 ∧ zCo[8]? = some (zOn 187) ∧ (zRt 187 = some .int ∨ zRt 187 = some .boolean ∨ zRt 187 = some .char ∨ zRt 187 = some .byte) := by decide +kernel
theorem k_197_832 : zD 197 832 = some (.if_icmp .eq (209), 3, none) ∧ zTg 832 (209) = some 1041 := by decide +kernel
theorem k_197_835 : zD 197 835 = some (.iconst (0), 1, none) := by decide +kernel
theorem k_197_836 : zD 197 836 = some (.ireturn, 1, none) := by decide +kernel
theorem k_197_837 : zD 197 837 = some (.aload_n 1, 1, none) := by decide +kernel
theorem k_197_838 : zD 197 838 = some (.aload_n 0, 1, none) := by decide +kernel
theorem k_197_839 : zD 197 839 = some (.iload_n 3, 1, none) := by decide +kernel
theorem k_197_840 : zD 197 840 = some (.iconst (1), 1, none) := by decide +kernel
theorem k_197_841 : zD 197 841 = some (.iadd, 1, none) := by decide +kernel
theorem k_197_842 : zD 197 842 = some (.iaload, 1, none) := by decide +kernel
theorem k_197_843 : zD 197 843 = some (.aload_n 0, 1, none) := by decide +kernel
theorem k_197_844 : zD 197 844 = some (.iload_n 3, 1, none) := by decide +kernel
theorem k_197_845 : zD 197 845 = some (.iconst (2), 1, none) := by decide +kernel
theorem k_197_846 : zD 197 846 = some (.iadd, 1, none) := by decide +kernel
theorem k_197_847 : zD 197 847 = some (.iaload, 1, none) := by decide +kernel
theorem k_197_848 : zD 197 848 = some (.invokevirtual 105, 3, none) ∧ zCk (zOn 197) 105 = some (0, 111) ∧ zNp 111 = 2 ∧ zML 111 = 3 ∧ zCo[7]? = some (zOn 111) ∧ (zRt 111 = some .int ∨ zRt 111 = some .boolean ∨ zRt 111 = some .char ∨ zRt 111 = some .byte) := by decide +kernel
theorem k_197_851 : zD 197 851 = some (.aload_n 2, 1, none) := by decide +kernel
theorem k_197_852 : zD 197 852 = some (.aload_n 0, 1, none) := by decide +kernel
theorem k_197_853 : zD 197 853 = some (.iload_n 3, 1, none) := by decide +kernel
theorem k_197_854 : zD 197 854 = some (.iconst (1), 1, none) := by decide +kernel
theorem k_197_855 : zD 197 855 = some (.iadd, 1, none) := by decide +kernel
theorem k_197_856 : zD 197 856 = some (.iaload, 1, none) := by decide +kernel
theorem k_197_857 : zD 197 857 = some (.aload_n 0, 1, none) := by decide +kernel
theorem k_197_858 : zD 197 858 = some (.iload_n 3, 1, none) := by decide +kernel
theorem k_197_859 : zD 197 859 = some (.iconst (2), 1, none) := by decide +kernel
theorem k_197_860 : zD 197 860 = some (.iadd, 1, none) := by decide +kernel
theorem k_197_861 : zD 197 861 = some (.iaload, 1, none) := by decide +kernel
theorem k_197_862 : zD 197 862 = some (.invokevirtual 108, 3, none) ∧ zCk (zOn 197) 108 = some (0, 188) ∧ zNp 188 = 2 ∧ zML 188 = 3 ∧ zCo[8]? = some (zOn 188) ∧ (zRt 188 = some .int ∨ zRt 188 = some .boolean ∨ zRt 188 = some .char ∨ zRt 188 = some .byte) := by decide +kernel
theorem k_197_865 : zD 197 865 = some (.if_icmp .eq (176), 3, none) ∧ zTg 865 (176) = some 1041 := by decide +kernel
theorem k_197_868 : zD 197 868 = some (.iconst (0), 1, none) := by decide +kernel
theorem k_197_869 : zD 197 869 = some (.ireturn, 1, none) := by decide +kernel
theorem k_197_870 : zD 197 870 = some (.aload_n 1, 1, none) := by decide +kernel
theorem k_197_871 : zD 197 871 = some (.aload_n 0, 1, none) := by decide +kernel
theorem k_197_872 : zD 197 872 = some (.iload_n 3, 1, none) := by decide +kernel
theorem k_197_873 : zD 197 873 = some (.iconst (1), 1, none) := by decide +kernel
theorem k_197_874 : zD 197 874 = some (.iadd, 1, none) := by decide +kernel
theorem k_197_875 : zD 197 875 = some (.iaload, 1, none) := by decide +kernel
theorem k_197_876 : zD 197 876 = some (.aload_n 0, 1, none) := by decide +kernel
theorem k_197_877 : zD 197 877 = some (.iload_n 3, 1, none) := by decide +kernel
theorem k_197_878 : zD 197 878 = some (.iconst (2), 1, none) := by decide +kernel
theorem k_197_879 : zD 197 879 = some (.iadd, 1, none) := by decide +kernel
theorem k_197_880 : zD 197 880 = some (.iaload, 1, none) := by decide +kernel
theorem k_197_881 : zD 197 881 = some (.aload_n 0, 1, none) := by decide +kernel
theorem k_197_882 : zD 197 882 = some (.iload_n 3, 1, none) := by decide +kernel
theorem k_197_883 : zD 197 883 = some (.iconst (3), 1, none) := by decide +kernel
theorem k_197_884 : zD 197 884 = some (.iadd, 1, none) := by decide +kernel
theorem k_197_885 : zD 197 885 = some (.iaload, 1, none) := by decide +kernel
theorem k_197_886 : zD 197 886 = some (.invokevirtual 109, 3, none) ∧ zCk (zOn 197) 109 = some (0, 112) ∧ zNp 112 = 3 ∧ zML 112 = 4 ∧ zCo[7]? = some (zOn 112) ∧ (zRt 112 = some .int ∨ zRt 112 = some .boolean ∨ zRt 112 = some .char ∨ zRt 112 = some .byte) := by decide +kernel
theorem k_197_889 : zD 197 889 = some (.aload_n 2, 1, none) := by decide +kernel
theorem k_197_890 : zD 197 890 = some (.aload_n 0, 1, none) := by decide +kernel
theorem k_197_891 : zD 197 891 = some (.iload_n 3, 1, none) := by decide +kernel
theorem k_197_892 : zD 197 892 = some (.iconst (1), 1, none) := by decide +kernel
theorem k_197_893 : zD 197 893 = some (.iadd, 1, none) := by decide +kernel
theorem k_197_894 : zD 197 894 = some (.iaload, 1, none) := by decide +kernel
theorem k_197_895 : zD 197 895 = some (.aload_n 0, 1, none) := by decide +kernel
theorem k_197_896 : zD 197 896 = some (.iload_n 3, 1, none) := by decide +kernel
theorem k_197_897 : zD 197 897 = some (.iconst (2), 1, none) := by decide +kernel
theorem k_197_898 : zD 197 898 = some (.iadd, 1, none) := by decide +kernel
theorem k_197_899 : zD 197 899 = some (.iaload, 1, none) := by decide +kernel
theorem k_197_900 : zD 197 900 = some (.aload_n 0, 1, none) := by decide +kernel
theorem k_197_901 : zD 197 901 = some (.iload_n 3, 1, none) := by decide +kernel
theorem k_197_902 : zD 197 902 = some (.iconst (3), 1, none) := by decide +kernel
theorem k_197_903 : zD 197 903 = some (.iadd, 1, none) := by decide +kernel
theorem k_197_904 : zD 197 904 = some (.iaload, 1, none) := by decide +kernel
theorem k_197_905 : zD 197 905 = some (.invokevirtual 112, 3, none) ∧ zCk (zOn 197) 112 = some (0, 189) ∧ zNp 189 = 3 ∧ zML 189 = 4 ∧ zCo[8]? = some (zOn 189) ∧ (zRt 189 = some .int ∨ zRt 189 = some .boolean ∨ zRt 189 = some .char ∨ zRt 189 = some .byte) := by decide +kernel
theorem k_197_908 : zD 197 908 = some (.if_icmp .eq (133), 3, none) ∧ zTg 908 (133) = some 1041 := by decide +kernel
theorem k_197_911 : zD 197 911 = some (.iconst (0), 1, none) := by decide +kernel
theorem k_197_912 : zD 197 912 = some (.ireturn, 1, none) := by decide +kernel
theorem k_197_913 : zD 197 913 = some (.aload_n 1, 1, none) := by decide +kernel
theorem k_197_914 : zD 197 914 = some (.invokevirtual 113, 3, none) ∧ zCk (zOn 197) 113 = some (0, 114) ∧ zNp 114 = 0 ∧ zML 114 = 2 ∧ zCo[7]? = some (zOn 114) ∧ (zRt 114 = some .int ∨ zRt 114 = some .boolean ∨ zRt 114 = some .char ∨ zRt 114 = some .byte) := by decide +kernel
theorem k_197_917 : zD 197 917 = some (.aload_n 2, 1, none) := by decide +kernel
theorem k_197_918 : zD 197 918 = some (.invokevirtual 116, 3, none) ∧ zCk (zOn 197) 116 = some (0, 190) ∧ zNp 190 = 0 ∧ zML 190 = 2 ∧ zCo[8]? = some (zOn 190) ∧ (zRt 190 = some .int ∨ zRt 190 = some .boolean ∨ zRt 190 = some .char ∨ zRt 190 = some .byte) := by decide +kernel
theorem k_197_921 : zD 197 921 = some (.if_icmp .eq (120), 3, none) ∧ zTg 921 (120) = some 1041 := by decide +kernel
theorem k_197_924 : zD 197 924 = some (.iconst (0), 1, none) := by decide +kernel
theorem k_197_925 : zD 197 925 = some (.ireturn, 1, none) := by decide +kernel
theorem k_197_926 : zD 197 926 = some (.aload_n 1, 1, none) := by decide +kernel
theorem k_197_927 : zD 197 927 = some (.invokevirtual 117, 3, none) ∧ zCk (zOn 197) 117 = some (0, 115) ∧ zNp 115 = 0 ∧ zML 115 = 1 ∧ zCo[7]? = some (zOn 115) ∧ (zRt 115 = some .int ∨ zRt 115 = some .boolean ∨ zRt 115 = some .char ∨ zRt 115 = some .byte) := by decide +kernel
theorem k_197_930 : zD 197 930 = some (.aload_n 2, 1, none) := by decide +kernel
theorem k_197_931 : zD 197 931 = some (.invokevirtual 120, 3, none) ∧ zCk (zOn 197) 120 = some (0, 191) ∧ zNp 191 = 0 ∧ zML 191 = 3 ∧ zCo[8]? = some (zOn 191) ∧ (zRt 191 = some .int ∨ zRt 191 = some .boolean ∨ zRt 191 = some .char ∨ zRt 191 = some .byte) := by decide +kernel
theorem k_197_934 : zD 197 934 = some (.if_icmp .eq (107), 3, none) ∧ zTg 934 (107) = some 1041 := by decide +kernel
theorem k_197_937 : zD 197 937 = some (.iconst (0), 1, none) := by decide +kernel
theorem k_197_938 : zD 197 938 = some (.ireturn, 1, none) := by decide +kernel
theorem k_197_939 : zD 197 939 = some (.aload_n 1, 1, none) := by decide +kernel
theorem k_197_940 : zD 197 940 = some (.aload_n 0, 1, none) := by decide +kernel
theorem k_197_941 : zD 197 941 = some (.iload_n 3, 1, none) := by decide +kernel
theorem k_197_942 : zD 197 942 = some (.iconst (1), 1, none) := by decide +kernel
theorem k_197_943 : zD 197 943 = some (.iadd, 1, none) := by decide +kernel
theorem k_197_944 : zD 197 944 = some (.iaload, 1, none) := by decide +kernel
theorem k_197_945 : zD 197 945 = some (.aload_n 0, 1, none) := by decide +kernel
theorem k_197_946 : zD 197 946 = some (.iload_n 3, 1, none) := by decide +kernel
theorem k_197_947 : zD 197 947 = some (.iconst (2), 1, none) := by decide +kernel
theorem k_197_948 : zD 197 948 = some (.iadd, 1, none) := by decide +kernel
theorem k_197_949 : zD 197 949 = some (.iaload, 1, none) := by decide +kernel
theorem k_197_950 : zD 197 950 = some (.invokevirtual 121, 3, none) ∧ zCk (zOn 197) 121 = some (0, 117) ∧ zNp 117 = 2 ∧ zML 117 = 5 ∧ zCo[7]? = some (zOn 117) ∧ (zRt 117 = some .int ∨ zRt 117 = some .boolean ∨ zRt 117 = some .char ∨ zRt 117 = some .byte) := by decide +kernel
theorem k_197_953 : zD 197 953 = some (.aload_n 2, 1, none) := by decide +kernel
theorem k_197_954 : zD 197 954 = some (.aload_n 0, 1, none) := by decide +kernel
theorem k_197_955 : zD 197 955 = some (.iload_n 3, 1, none) := by decide +kernel
theorem k_197_956 : zD 197 956 = some (.iconst (1), 1, none) := by decide +kernel
theorem k_197_957 : zD 197 957 = some (.iadd, 1, none) := by decide +kernel
theorem k_197_958 : zD 197 958 = some (.iaload, 1, none) := by decide +kernel
theorem k_197_959 : zD 197 959 = some (.aload_n 0, 1, none) := by decide +kernel
theorem k_197_960 : zD 197 960 = some (.iload_n 3, 1, none) := by decide +kernel
theorem k_197_961 : zD 197 961 = some (.iconst (2), 1, none) := by decide +kernel
theorem k_197_962 : zD 197 962 = some (.iadd, 1, none) := by decide +kernel
theorem k_197_963 : zD 197 963 = some (.iaload, 1, none) := by decide +kernel
theorem k_197_964 : zD 197 964 = some (.invokevirtual 124, 3, none) ∧ zCk (zOn 197) 124 = some (0, 192) ∧ zNp 192 = 2 ∧ zML 192 = 9 ∧ zCo[8]? = some (zOn 192) ∧ (zRt 192 = some .int ∨ zRt 192 = some .boolean ∨ zRt 192 = some .char ∨ zRt 192 = some .byte) := by decide +kernel
theorem k_197_967 : zD 197 967 = some (.if_icmp .eq (74), 3, none) ∧ zTg 967 (74) = some 1041 := by decide +kernel
theorem k_197_970 : zD 197 970 = some (.iconst (0), 1, none) := by decide +kernel
theorem k_197_971 : zD 197 971 = some (.ireturn, 1, none) := by decide +kernel
theorem k_197_972 : zD 197 972 = some (.aload_n 1, 1, none) := by decide +kernel
theorem k_197_973 : zD 197 973 = some (.aload_n 0, 1, none) := by decide +kernel
theorem k_197_974 : zD 197 974 = some (.iload_n 3, 1, none) := by decide +kernel
theorem k_197_975 : zD 197 975 = some (.iconst (1), 1, none) := by decide +kernel
theorem k_197_976 : zD 197 976 = some (.iadd, 1, none) := by decide +kernel
theorem k_197_977 : zD 197 977 = some (.iaload, 1, none) := by decide +kernel
theorem k_197_978 : zD 197 978 = some (.invokevirtual 125, 3, none) ∧ zCk (zOn 197) 125 = some (0, 120) ∧ zNp 120 = 1 ∧ zML 120 = 3 ∧ zCo[7]? = some (zOn 120) ∧ (zRt 120 = some .int ∨ zRt 120 = some .boolean ∨ zRt 120 = some .char ∨ zRt 120 = some .byte) := by decide +kernel
theorem k_197_981 : zD 197 981 = some (.aload_n 2, 1, none) := by decide +kernel
theorem k_197_982 : zD 197 982 = some (.aload_n 0, 1, none) := by decide +kernel
theorem k_197_983 : zD 197 983 = some (.iload_n 3, 1, none) := by decide +kernel
theorem k_197_984 : zD 197 984 = some (.iconst (1), 1, none) := by decide +kernel
theorem k_197_985 : zD 197 985 = some (.iadd, 1, none) := by decide +kernel
theorem k_197_986 : zD 197 986 = some (.iaload, 1, none) := by decide +kernel
theorem k_197_987 : zD 197 987 = some (.invokevirtual 128, 3, none) ∧ zCk (zOn 197) 128 = some (0, 194) ∧ zNp 194 = 1 ∧ zML 194 = 3 ∧ zCo[8]? = some (zOn 194) ∧ (zRt 194 = some .int ∨ zRt 194 = some .boolean ∨ zRt 194 = some .char ∨ zRt 194 = some .byte) := by decide +kernel
theorem k_197_990 : zD 197 990 = some (.if_icmp .eq (51), 3, none) ∧ zTg 990 (51) = some 1041 := by decide +kernel
theorem k_197_993 : zD 197 993 = some (.iconst (0), 1, none) := by decide +kernel
theorem k_197_994 : zD 197 994 = some (.ireturn, 1, none) := by decide +kernel
theorem k_197_995 : zD 197 995 = some (.aload_n 1, 1, none) := by decide +kernel
theorem k_197_996 : zD 197 996 = some (.aload_n 0, 1, none) := by decide +kernel
theorem k_197_997 : zD 197 997 = some (.iload_n 3, 1, none) := by decide +kernel
theorem k_197_998 : zD 197 998 = some (.iconst (1), 1, none) := by decide +kernel
theorem k_197_999 : zD 197 999 = some (.iadd, 1, none) := by decide +kernel
theorem k_197_1000 : zD 197 1000 = some (.iaload, 1, none) := by decide +kernel
theorem k_197_1001 : zD 197 1001 = some (.invokevirtual 129, 3, none) ∧ zCk (zOn 197) 129 = some (0, 121) ∧ zNp 121 = 1 ∧ zML 121 = 2 ∧ zCo[7]? = some (zOn 121) ∧ (zRt 121 = some .int ∨ zRt 121 = some .boolean ∨ zRt 121 = some .char ∨ zRt 121 = some .byte) := by decide +kernel
theorem k_197_1004 : zD 197 1004 = some (.aload_n 2, 1, none) := by decide +kernel
theorem k_197_1005 : zD 197 1005 = some (.aload_n 0, 1, none) := by decide +kernel
theorem k_197_1006 : zD 197 1006 = some (.iload_n 3, 1, none) := by decide +kernel
theorem k_197_1007 : zD 197 1007 = some (.iconst (1), 1, none) := by decide +kernel
theorem k_197_1008 : zD 197 1008 = some (.iadd, 1, none) := by decide +kernel
theorem k_197_1009 : zD 197 1009 = some (.iaload, 1, none) := by decide +kernel
theorem k_197_1010 : zD 197 1010 = some (.invokevirtual 132, 3, none) ∧ zCk (zOn 197) 132 = some (0, 195) ∧ zNp 195 = 1 ∧ zML 195 = 4 ∧ zCo[8]? = some (zOn 195) ∧ (zRt 195 = some .int ∨ zRt 195 = some .boolean ∨ zRt 195 = some .char ∨ zRt 195 = some .byte) := by decide +kernel
theorem k_197_1013 : zD 197 1013 = some (.if_icmp .eq (28), 3, none) ∧ zTg 1013 (28) = some 1041 := by decide +kernel
theorem k_197_1016 : zD 197 1016 = some (.iconst (0), 1, none) := by decide +kernel
theorem k_197_1017 : zD 197 1017 = some (.ireturn, 1, none) := by decide +kernel
theorem k_197_1018 : zD 197 1018 = some (.aload_n 1, 1, none) := by decide +kernel
theorem k_197_1019 : zD 197 1019 = some (.aload_n 0, 1, none) := by decide +kernel
theorem k_197_1020 : zD 197 1020 = some (.iload_n 3, 1, none) := by decide +kernel
theorem k_197_1021 : zD 197 1021 = some (.iconst (1), 1, none) := by decide +kernel
theorem k_197_1022 : zD 197 1022 = some (.iadd, 1, none) := by decide +kernel
theorem k_197_1023 : zD 197 1023 = some (.iaload, 1, none) := by decide +kernel
theorem k_197_1024 : zD 197 1024 = some (.invokevirtual 133, 3, none) ∧ zCk (zOn 197) 133 = some (0, 124) ∧ zNp 124 = 1 ∧ zML 124 = 2 ∧ zCo[7]? = some (zOn 124) ∧ (zRt 124 = some .int ∨ zRt 124 = some .boolean ∨ zRt 124 = some .char ∨ zRt 124 = some .byte) := by decide +kernel
theorem k_197_1027 : zD 197 1027 = some (.aload_n 2, 1, none) := by decide +kernel
theorem k_197_1028 : zD 197 1028 = some (.aload_n 0, 1, none) := by decide +kernel
theorem k_197_1029 : zD 197 1029 = some (.iload_n 3, 1, none) := by decide +kernel
theorem k_197_1030 : zD 197 1030 = some (.iconst (1), 1, none) := by decide +kernel
theorem k_197_1031 : zD 197 1031 = some (.iadd, 1, none) := by decide +kernel
theorem k_197_1032 : zD 197 1032 = some (.iaload, 1, none) := by decide +kernel
theorem k_197_1033 : zD 197 1033 = some (.invokevirtual 136, 3, none) ∧ zCk (zOn 197) 136 = some (0, 196) ∧ zNp 196 = 1 ∧ zML 196 = 4 ∧ zCo[8]? = some (zOn 196) ∧ (zRt 196 = some .int ∨ zRt 196 = some .boolean ∨ zRt 196 = some .char ∨ zRt 196 = some .byte) := by decide +kernel
theorem k_197_1036 : zD 197 1036 = some (.if_icmp .eq (5), 3, none) ∧ zTg 1036 (5) = some 1041 := by decide +kernel
theorem k_197_1039 : zD 197 1039 = some (.iconst (0), 1, none) := by decide +kernel
theorem k_197_1040 : zD 197 1040 = some (.ireturn, 1, none) := by decide +kernel
theorem kd_197_18 : zD 197 18 = some (.iload_n 3, 1, some [true, true, true, true]) := k_197_18
theorem k_197_0 : zD 197 0 = some (.new 7, 3, none) ∧ zLl (zOn 197) 7 = some 7 := by decide +kernel
theorem k_197_3 : zD 197 3 = some (.dup, 1, none) := by decide +kernel
theorem k_197_4 : zD 197 4 = some (.invokespecial 9, 3, none) ∧ zOt.lookup (zOn 197, 9) = none ∧ zCk (zOn 197) 9 = some (2, 0) ∧ zNp 0 = 0 ∧ zML 0 = 2 ∧ zRt 0 = none := by decide +kernel
theorem k_197_7 : zD 197 7 = some (.astore_n 1, 1, none) := by decide +kernel
theorem k_197_8 : zD 197 8 = some (.new 10, 3, none) ∧ zLl (zOn 197) 10 = some 8 := by decide +kernel
theorem k_197_11 : zD 197 11 = some (.dup, 1, none) := by decide +kernel
theorem k_197_12 : zD 197 12 = some (.invokespecial 12, 3, none) ∧ zOt.lookup (zOn 197, 12) = none ∧ zCk (zOn 197) 12 = some (2, 125) ∧ zNp 125 = 0 ∧ zML 125 = 1 ∧ zRt 125 = none := by decide +kernel
theorem k_197_15 : zD 197 15 = some (.astore_n 2, 1, none) := by decide +kernel
theorem k_197_16 : zD 197 16 = some (.iconst (0), 1, none) := by decide +kernel
theorem k_197_17 : zD 197 17 = some (.istore_n 3, 1, none) := by decide +kernel
theorem zfr_law0 : zKi (0, ([] : List ((Nat × Nat) × Nat))).1 = some (.inr 7) ∧ zFree (0, []) = true := by decide +kernel
theorem zfr_law1 : zKi zg46_42.1 = some (.inr 8) ∧ zFree zg46_42 = true := by decide +kernel
theorem E_Lw_0 (sc : zSc) (d : Nat) (h : zHp) : zE sc (d + 1) 197 0 [some (.ref 1300), none, none, none] [] (0, []) h = (zBn (zRun sc d 0 [.ref 0] zg1_0 (zBk h 0)) fun g1 h1 => zE sc (d + 1) 197 7 [some (.ref 1300), none, none, none] [.ref 0] g1 h1) := by
  refine Eq.trans (ev_new (pc := 0) k_197_0 rfl zfr_law0) ?_
  show zE sc (d + 1) 197 3 [some (.ref 1300), none, none, none] [.ref 0] zg1_0 (zBk h 0) = _
  refine Eq.trans (ev_dup (pc := 3) k_197_3 rfl rfl) ?_
  exact ev_in (pc := 4) (as := []) (rest := [.ref 0]) k_197_4 rfl (by decide) rfl rfl (Nat.le_of_ble_eq_true rfl) (Nat.le_of_ble_eq_true rfl)
theorem E_Lw_7 (sc : zSc) (d : Nat) (h : zHp) : zE sc (d + 1) 197 7 [some (.ref 1300), none, none, none] [.ref 0] zg46_42 h = (zBn (zRun sc d 125 [.ref 46] zg47_42 (zBk h 46)) fun g1 h1 => zE sc (d + 1) 197 15 [some (.ref 1300), some (.ref 0), none, none] [.ref 46] g1 h1) := by
  refine Eq.trans (ev_astore_n (pc := 7) (lv' := [some (.ref 1300), some (.ref 0), none, none]) k_197_7 rfl (Nat.le_of_ble_eq_true rfl) (by decide) rfl) ?_
  refine Eq.trans (ev_new (pc := 8) k_197_8 rfl zfr_law1) ?_
  show zE sc (d + 1) 197 11 [some (.ref 1300), some (.ref 0), none, none] [.ref 46] zg47_42 (zBk h 46) = _
  refine Eq.trans (ev_dup (pc := 11) k_197_11 rfl rfl) ?_
  exact ev_in (pc := 12) (as := []) (rest := [.ref 46]) k_197_12 rfl (by decide) rfl rfl (Nat.le_of_ble_eq_true rfl) (Nat.le_of_ble_eq_true rfl)
theorem E_Lw_15 (sc : zSc) (d : Nat) (h : zHp) : zE sc (d + 1) 197 15 [some (.ref 1300), some (.ref 0), none, none] [.ref 46] zGL h = zE sc (d + 1) 197 18 [some (.ref 1300), some (.ref 0), some (.ref 46), some (.int 0)] [] zGL h := by
  refine Eq.trans (ev_astore_n (pc := 15) (lv' := [some (.ref 1300), some (.ref 0), some (.ref 46), none]) k_197_15 rfl (Nat.le_of_ble_eq_true rfl) (by decide) rfl) ?_
  refine Eq.trans (ev_iconst (pc := 16) (v := 0) k_197_16 rfl (by decide)) ?_
  refine Eq.trans (ev_istore_n (pc := 17) (lv' := [some (.ref 1300), some (.ref 0), some (.ref 46), some (.int 0)]) k_197_17 rfl (Nat.le_of_ble_eq_true rfl) rfl) ?_
  rfl
theorem zg_full : zg73_68 = zGL := rfl
set_option maxRecDepth 100000 in
set_option maxHeartbeats 4000000 in
theorem E_Lw_18 (sc : zSc) (d : Nat) (h : zHp) (v3 : Int32) : zE sc (d + 1) 197 18 [some (.ref 1300), some (.ref 0), some (.ref 46), some (.int v3)] [] zGL h = (if ((Int32.ofNat sc.1) - (5 : Int32)) < v3 then some (some (.int 1), zGL, h) else (if zin v3 sc.1 = true then (if ((sc.2 v3.toNatClampNeg) &&& (31 : Int32)) = 0 then (if zin (v3 + (1 : Int32)) sc.1 = true then (if zin (v3 + (2 : Int32)) sc.1 = true then (if zin (v3 + (3 : Int32)) sc.1 = true then (zBi (zRun sc d 20 [.ref 0, .int (sc.2 (v3 + (1 : Int32)).toNatClampNeg), .long ((((sc.2 (v3 + (2 : Int32)).toNatClampNeg).toInt64) <<< ((32 : Int32).toInt64 &&& 63)) ||| (((sc.2 (v3 + (3 : Int32)).toNatClampNeg).toInt64) &&& (4294967295 : Int64)))] zGL h) zGL fun x1 h1 => (if zin (v3 + (1 : Int32)) sc.1 = true then (if zin (v3 + (2 : Int32)) sc.1 = true then (if zin (v3 + (3 : Int32)) sc.1 = true then (zBi (zRun sc d 131 [.ref 46, .int (sc.2 (v3 + (1 : Int32)).toNatClampNeg), .long ((((sc.2 (v3 + (2 : Int32)).toNatClampNeg).toInt64) <<< ((32 : Int32).toInt64 &&& 63)) ||| (((sc.2 (v3 + (3 : Int32)).toNatClampNeg).toInt64) &&& (4294967295 : Int64)))] zGL h1) zGL fun x2 h2 => (if x1 = x2 then zE sc (d + 1) 197 18 [some (.ref 1300), some (.ref 0), some (.ref 46), some (.int (v3 + 5))] [] zGL h2 else some (some (.int 0), zGL, h2))) else none) else none) else none)) else none) else none) else none) else (if ((sc.2 v3.toNatClampNeg) &&& (31 : Int32)) = 1 then (zBi (zRun sc d 22 [.ref 0] zGL h) zGL fun x3 h3 => (zBi (zRun sc d 133 [.ref 46] zGL h3) zGL fun x4 h4 => (if x3 = x4 then zE sc (d + 1) 197 18 [some (.ref 1300), some (.ref 0), some (.ref 46), some (.int (v3 + 5))] [] zGL h4 else some (some (.int 0), zGL, h4)))) else (if ((sc.2 v3.toNatClampNeg) &&& (31 : Int32)) = 2 then (zBi (zRun sc d 48 [.ref 0] zGL h) zGL fun x5 h5 => (zBi (zRun sc d 144 [.ref 46] zGL h5) zGL fun x6 h6 => (if x5 = x6 then zE sc (d + 1) 197 18 [some (.ref 1300), some (.ref 0), some (.ref 46), some (.int (v3 + 5))] [] zGL h6 else some (some (.int 0), zGL, h6)))) else (if ((sc.2 v3.toNatClampNeg) &&& (31 : Int32)) = 3 then (if zin (v3 + (1 : Int32)) sc.1 = true then (zBi (zRun sc d 49 [.ref 0, .int (sc.2 (v3 + (1 : Int32)).toNatClampNeg)] zGL h) zGL fun x7 h7 => (if zin (v3 + (1 : Int32)) sc.1 = true then (zBi (zRun sc d 145 [.ref 46, .int (sc.2 (v3 + (1 : Int32)).toNatClampNeg)] zGL h7) zGL fun x8 h8 => (if x7 = x8 then zE sc (d + 1) 197 18 [some (.ref 1300), some (.ref 0), some (.ref 46), some (.int (v3 + 5))] [] zGL h8 else some (some (.int 0), zGL, h8))) else none)) else none) else (if ((sc.2 v3.toNatClampNeg) &&& (31 : Int32)) = 4 then (if zin (v3 + (1 : Int32)) sc.1 = true then (if zin (v3 + (2 : Int32)) sc.1 = true then (zBi (zRun sc d 51 [.ref 0, .int (sc.2 (v3 + (1 : Int32)).toNatClampNeg), .int (sc.2 (v3 + (2 : Int32)).toNatClampNeg)] zGL h) zGL fun x9 h9 => (if zin (v3 + (1 : Int32)) sc.1 = true then (if zin (v3 + (2 : Int32)) sc.1 = true then (zBi (zRun sc d 147 [.ref 46, .int (sc.2 (v3 + (1 : Int32)).toNatClampNeg), .int (sc.2 (v3 + (2 : Int32)).toNatClampNeg)] zGL h9) zGL fun x10 h10 => (if x9 = x10 then zE sc (d + 1) 197 18 [some (.ref 1300), some (.ref 0), some (.ref 46), some (.int (v3 + 5))] [] zGL h10 else some (some (.int 0), zGL, h10))) else none) else none)) else none) else none) else (if ((sc.2 v3.toNatClampNeg) &&& (31 : Int32)) = 5 then (if zin (v3 + (1 : Int32)) sc.1 = true then (if zin (v3 + (2 : Int32)) sc.1 = true then (zBi (zRun sc d 54 [.ref 0, .int (sc.2 (v3 + (1 : Int32)).toNatClampNeg), .int (sc.2 (v3 + (2 : Int32)).toNatClampNeg)] zGL h) zGL fun x11 h11 => (if zin (v3 + (1 : Int32)) sc.1 = true then (if zin (v3 + (2 : Int32)) sc.1 = true then (zBi (zRun sc d 150 [.ref 46, .int (sc.2 (v3 + (1 : Int32)).toNatClampNeg), .int (sc.2 (v3 + (2 : Int32)).toNatClampNeg)] zGL h11) zGL fun x12 h12 => (if x11 = x12 then zE sc (d + 1) 197 18 [some (.ref 1300), some (.ref 0), some (.ref 46), some (.int (v3 + 5))] [] zGL h12 else some (some (.int 0), zGL, h12))) else none) else none)) else none) else none) else (if ((sc.2 v3.toNatClampNeg) &&& (31 : Int32)) = 6 then (if zin (v3 + (1 : Int32)) sc.1 = true then (zBi (zRun sc d 58 [.ref 0, .int (sc.2 (v3 + (1 : Int32)).toNatClampNeg)] zGL h) zGL fun x13 h13 => (if zin (v3 + (1 : Int32)) sc.1 = true then (zBi (zRun sc d 154 [.ref 46, .int (sc.2 (v3 + (1 : Int32)).toNatClampNeg)] zGL h13) zGL fun x14 h14 => (if x13 = x14 then zE sc (d + 1) 197 18 [some (.ref 1300), some (.ref 0), some (.ref 46), some (.int (v3 + 5))] [] zGL h14 else some (some (.int 0), zGL, h14))) else none)) else none) else (if ((sc.2 v3.toNatClampNeg) &&& (31 : Int32)) = 7 then (if zin (v3 + (1 : Int32)) sc.1 = true then (if zin (v3 + (2 : Int32)) sc.1 = true then (if zin (v3 + (3 : Int32)) sc.1 = true then (zBi (zRun sc d 60 [.ref 0, .int (sc.2 (v3 + (1 : Int32)).toNatClampNeg), .int (sc.2 (v3 + (2 : Int32)).toNatClampNeg), .int (sc.2 (v3 + (3 : Int32)).toNatClampNeg)] zGL h) zGL fun x15 h15 => (if zin (v3 + (1 : Int32)) sc.1 = true then (if zin (v3 + (2 : Int32)) sc.1 = true then (if zin (v3 + (3 : Int32)) sc.1 = true then (zBi (zRun sc d 156 [.ref 46, .int (sc.2 (v3 + (1 : Int32)).toNatClampNeg), .int (sc.2 (v3 + (2 : Int32)).toNatClampNeg), .int (sc.2 (v3 + (3 : Int32)).toNatClampNeg)] zGL h15) zGL fun x16 h16 => (if x15 = x16 then zE sc (d + 1) 197 18 [some (.ref 1300), some (.ref 0), some (.ref 46), some (.int (v3 + 5))] [] zGL h16 else some (some (.int 0), zGL, h16))) else none) else none) else none)) else none) else none) else none) else (if ((sc.2 v3.toNatClampNeg) &&& (31 : Int32)) = 8 then (if zin (v3 + (1 : Int32)) sc.1 = true then (if zin (v3 + (2 : Int32)) sc.1 = true then (if zin (v3 + (3 : Int32)) sc.1 = true then (zBi (zRun sc d 64 [.ref 0, .int (sc.2 (v3 + (1 : Int32)).toNatClampNeg), .int (sc.2 (v3 + (2 : Int32)).toNatClampNeg), .int (sc.2 (v3 + (3 : Int32)).toNatClampNeg)] zGL h) zGL fun x17 h17 => (if zin (v3 + (1 : Int32)) sc.1 = true then (if zin (v3 + (2 : Int32)) sc.1 = true then (if zin (v3 + (3 : Int32)) sc.1 = true then (zBi (zRun sc d 159 [.ref 46, .int (sc.2 (v3 + (1 : Int32)).toNatClampNeg), .int (sc.2 (v3 + (2 : Int32)).toNatClampNeg), .int (sc.2 (v3 + (3 : Int32)).toNatClampNeg)] zGL h17) zGL fun x18 h18 => (if x17 = x18 then zE sc (d + 1) 197 18 [some (.ref 1300), some (.ref 0), some (.ref 46), some (.int (v3 + 5))] [] zGL h18 else some (some (.int 0), zGL, h18))) else none) else none) else none)) else none) else none) else none) else (if ((sc.2 v3.toNatClampNeg) &&& (31 : Int32)) = 9 then (if zin (v3 + (1 : Int32)) sc.1 = true then (if zin (v3 + (2 : Int32)) sc.1 = true then (zBi (zRun sc d 68 [.ref 0, .int (sc.2 (v3 + (1 : Int32)).toNatClampNeg), .int (sc.2 (v3 + (2 : Int32)).toNatClampNeg)] zGL h) zGL fun x19 h19 => (if zin (v3 + (1 : Int32)) sc.1 = true then (if zin (v3 + (2 : Int32)) sc.1 = true then (zBi (zRun sc d 164 [.ref 46, .int (sc.2 (v3 + (1 : Int32)).toNatClampNeg), .int (sc.2 (v3 + (2 : Int32)).toNatClampNeg)] zGL h19) zGL fun x20 h20 => (if x19 = x20 then zE sc (d + 1) 197 18 [some (.ref 1300), some (.ref 0), some (.ref 46), some (.int (v3 + 5))] [] zGL h20 else some (some (.int 0), zGL, h20))) else none) else none)) else none) else none) else (if ((sc.2 v3.toNatClampNeg) &&& (31 : Int32)) = 10 then (if zin (v3 + (1 : Int32)) sc.1 = true then (if zin (v3 + (2 : Int32)) sc.1 = true then (if zin (v3 + (3 : Int32)) sc.1 = true then (zBi (zRun sc d 70 [.ref 0, .int (sc.2 (v3 + (1 : Int32)).toNatClampNeg), .int (sc.2 (v3 + (2 : Int32)).toNatClampNeg), .int (sc.2 (v3 + (3 : Int32)).toNatClampNeg)] zGL h) zGL fun x21 h21 => (if zin (v3 + (1 : Int32)) sc.1 = true then (if zin (v3 + (2 : Int32)) sc.1 = true then (if zin (v3 + (3 : Int32)) sc.1 = true then (zBi (zRun sc d 166 [.ref 46, .int (sc.2 (v3 + (1 : Int32)).toNatClampNeg), .int (sc.2 (v3 + (2 : Int32)).toNatClampNeg), .int (sc.2 (v3 + (3 : Int32)).toNatClampNeg)] zGL h21) zGL fun x22 h22 => (if x21 = x22 then zE sc (d + 1) 197 18 [some (.ref 1300), some (.ref 0), some (.ref 46), some (.int (v3 + 5))] [] zGL h22 else some (some (.int 0), zGL, h22))) else none) else none) else none)) else none) else none) else none) else (if ((sc.2 v3.toNatClampNeg) &&& (31 : Int32)) = 11 then (if zin (v3 + (1 : Int32)) sc.1 = true then (if zin (v3 + (2 : Int32)) sc.1 = true then (zBi (zRun sc d 72 [.ref 0, .int (sc.2 (v3 + (1 : Int32)).toNatClampNeg), .int (sc.2 (v3 + (2 : Int32)).toNatClampNeg)] zGL h) zGL fun x23 h23 => (if zin (v3 + (1 : Int32)) sc.1 = true then (if zin (v3 + (2 : Int32)) sc.1 = true then (zBi (zRun sc d 169 [.ref 46, .int (sc.2 (v3 + (1 : Int32)).toNatClampNeg), .int (sc.2 (v3 + (2 : Int32)).toNatClampNeg)] zGL h23) zGL fun x24 h24 => (if x23 = x24 then zE sc (d + 1) 197 18 [some (.ref 1300), some (.ref 0), some (.ref 46), some (.int (v3 + 5))] [] zGL h24 else some (some (.int 0), zGL, h24))) else none) else none)) else none) else none) else (if ((sc.2 v3.toNatClampNeg) &&& (31 : Int32)) = 12 then (if zin (v3 + (1 : Int32)) sc.1 = true then (if zin (v3 + (2 : Int32)) sc.1 = true then (if zin (v3 + (3 : Int32)) sc.1 = true then (if zin (v3 + (4 : Int32)) sc.1 = true then (zBi (zRun sc d 74 [.ref 0, .int (sc.2 (v3 + (1 : Int32)).toNatClampNeg), .int (sc.2 (v3 + (2 : Int32)).toNatClampNeg), .int (sc.2 (v3 + (3 : Int32)).toNatClampNeg), .int (sc.2 (v3 + (4 : Int32)).toNatClampNeg)] zGL h) zGL fun x25 h25 => (if zin (v3 + (1 : Int32)) sc.1 = true then (if zin (v3 + (2 : Int32)) sc.1 = true then (if zin (v3 + (3 : Int32)) sc.1 = true then (if zin (v3 + (4 : Int32)) sc.1 = true then (zBi (zRun sc d 171 [.ref 46, .int (sc.2 (v3 + (1 : Int32)).toNatClampNeg), .int (sc.2 (v3 + (2 : Int32)).toNatClampNeg), .int (sc.2 (v3 + (3 : Int32)).toNatClampNeg), .int (sc.2 (v3 + (4 : Int32)).toNatClampNeg)] zGL h25) zGL fun x26 h26 => (if x25 = x26 then zE sc (d + 1) 197 18 [some (.ref 1300), some (.ref 0), some (.ref 46), some (.int (v3 + 5))] [] zGL h26 else some (some (.int 0), zGL, h26))) else none) else none) else none) else none)) else none) else none) else none) else none) else (if ((sc.2 v3.toNatClampNeg) &&& (31 : Int32)) = 13 then (if zin (v3 + (1 : Int32)) sc.1 = true then (if zin (v3 + (2 : Int32)) sc.1 = true then (zBi (zRun sc d 83 [.ref 0, .int (sc.2 (v3 + (1 : Int32)).toNatClampNeg), .int (sc.2 (v3 + (2 : Int32)).toNatClampNeg)] zGL h) zGL fun x27 h27 => (if zin (v3 + (1 : Int32)) sc.1 = true then (if zin (v3 + (2 : Int32)) sc.1 = true then (zBi (zRun sc d 174 [.ref 46, .int (sc.2 (v3 + (1 : Int32)).toNatClampNeg), .int (sc.2 (v3 + (2 : Int32)).toNatClampNeg)] zGL h27) zGL fun x28 h28 => (if x27 = x28 then zE sc (d + 1) 197 18 [some (.ref 1300), some (.ref 0), some (.ref 46), some (.int (v3 + 5))] [] zGL h28 else some (some (.int 0), zGL, h28))) else none) else none)) else none) else none) else (if ((sc.2 v3.toNatClampNeg) &&& (31 : Int32)) = 14 then (zBi (zRun sc d 86 [.ref 0] zGL h) zGL fun x29 h29 => (zBi (zRun sc d 176 [.ref 46] zGL h29) zGL fun x30 h30 => (if x29 = x30 then zE sc (d + 1) 197 18 [some (.ref 1300), some (.ref 0), some (.ref 46), some (.int (v3 + 5))] [] zGL h30 else some (some (.int 0), zGL, h30)))) else (if ((sc.2 v3.toNatClampNeg) &&& (31 : Int32)) = 15 then (if zin (v3 + (1 : Int32)) sc.1 = true then (zBi (zRun sc d 88 [.ref 0, .int (sc.2 (v3 + (1 : Int32)).toNatClampNeg)] zGL h) zGL fun x31 h31 => (if zin (v3 + (1 : Int32)) sc.1 = true then (zBi (zRun sc d 177 [.ref 46, .int (sc.2 (v3 + (1 : Int32)).toNatClampNeg)] zGL h31) zGL fun x32 h32 => (if x31 = x32 then zE sc (d + 1) 197 18 [some (.ref 1300), some (.ref 0), some (.ref 46), some (.int (v3 + 5))] [] zGL h32 else some (some (.int 0), zGL, h32))) else none)) else none) else (if ((sc.2 v3.toNatClampNeg) &&& (31 : Int32)) = 16 then (if zin (v3 + (1 : Int32)) sc.1 = true then (if zin (v3 + (2 : Int32)) sc.1 = true then (if zin (v3 + (3 : Int32)) sc.1 = true then (zBi (zRun sc d 91 [.ref 0, .int (sc.2 (v3 + (1 : Int32)).toNatClampNeg), .int (sc.2 (v3 + (2 : Int32)).toNatClampNeg), .int (sc.2 (v3 + (3 : Int32)).toNatClampNeg)] zGL h) zGL fun x33 h33 => (if zin (v3 + (1 : Int32)) sc.1 = true then (if zin (v3 + (2 : Int32)) sc.1 = true then (if zin (v3 + (3 : Int32)) sc.1 = true then (zBi (zRun sc d 179 [.ref 46, .int (sc.2 (v3 + (1 : Int32)).toNatClampNeg), .int (sc.2 (v3 + (2 : Int32)).toNatClampNeg), .int (sc.2 (v3 + (3 : Int32)).toNatClampNeg)] zGL h33) zGL fun x34 h34 => (if x33 = x34 then zE sc (d + 1) 197 18 [some (.ref 1300), some (.ref 0), some (.ref 46), some (.int (v3 + 5))] [] zGL h34 else some (some (.int 0), zGL, h34))) else none) else none) else none)) else none) else none) else none) else (if ((sc.2 v3.toNatClampNeg) &&& (31 : Int32)) = 17 then (if zin (v3 + (1 : Int32)) sc.1 = true then (zBi (zRun sc d 99 [.ref 0, .int (sc.2 (v3 + (1 : Int32)).toNatClampNeg)] zGL h) zGL fun x35 h35 => (if zin (v3 + (1 : Int32)) sc.1 = true then (zBi (zRun sc d 182 [.ref 46, .int (sc.2 (v3 + (1 : Int32)).toNatClampNeg)] zGL h35) zGL fun x36 h36 => (if x35 = x36 then zE sc (d + 1) 197 18 [some (.ref 1300), some (.ref 0), some (.ref 46), some (.int (v3 + 5))] [] zGL h36 else some (some (.int 0), zGL, h36))) else none)) else none) else (if ((sc.2 v3.toNatClampNeg) &&& (31 : Int32)) = 18 then (if zin (v3 + (1 : Int32)) sc.1 = true then (if zin (v3 + (2 : Int32)) sc.1 = true then (if zin (v3 + (3 : Int32)) sc.1 = true then (zBi (zRun sc d 105 [.ref 0, .int (sc.2 (v3 + (1 : Int32)).toNatClampNeg), .int (sc.2 (v3 + (2 : Int32)).toNatClampNeg), .int (sc.2 (v3 + (3 : Int32)).toNatClampNeg)] zGL h) zGL fun x37 h37 => (if zin (v3 + (1 : Int32)) sc.1 = true then (if zin (v3 + (2 : Int32)) sc.1 = true then (if zin (v3 + (3 : Int32)) sc.1 = true then (zBi (zRun sc d 184 [.ref 46, .int (sc.2 (v3 + (1 : Int32)).toNatClampNeg), .int (sc.2 (v3 + (2 : Int32)).toNatClampNeg), .int (sc.2 (v3 + (3 : Int32)).toNatClampNeg)] zGL h37) zGL fun x38 h38 => (if x37 = x38 then zE sc (d + 1) 197 18 [some (.ref 1300), some (.ref 0), some (.ref 46), some (.int (v3 + 5))] [] zGL h38 else some (some (.int 0), zGL, h38))) else none) else none) else none)) else none) else none) else none) else (if ((sc.2 v3.toNatClampNeg) &&& (31 : Int32)) = 19 then (if zin (v3 + (1 : Int32)) sc.1 = true then (if zin (v3 + (2 : Int32)) sc.1 = true then (zBi (zRun sc d 106 [.ref 0, .int (sc.2 (v3 + (1 : Int32)).toNatClampNeg), .int (sc.2 (v3 + (2 : Int32)).toNatClampNeg)] zGL h) zGL fun x39 h39 => (if zin (v3 + (1 : Int32)) sc.1 = true then (if zin (v3 + (2 : Int32)) sc.1 = true then (zBi (zRun sc d 185 [.ref 46, .int (sc.2 (v3 + (1 : Int32)).toNatClampNeg), .int (sc.2 (v3 + (2 : Int32)).toNatClampNeg)] zGL h39) zGL fun x40 h40 => (if x39 = x40 then zE sc (d + 1) 197 18 [some (.ref 1300), some (.ref 0), some (.ref 46), some (.int (v3 + 5))] [] zGL h40 else some (some (.int 0), zGL, h40))) else none) else none)) else none) else none) else (if ((sc.2 v3.toNatClampNeg) &&& (31 : Int32)) = 20 then (zBi (zRun sc d 109 [.ref 0] zGL h) zGL fun x41 h41 => (zBi (zRun sc d 187 [.ref 46] zGL h41) zGL fun x42 h42 => (if x41 = x42 then zE sc (d + 1) 197 18 [some (.ref 1300), some (.ref 0), some (.ref 46), some (.int (v3 + 5))] [] zGL h42 else some (some (.int 0), zGL, h42)))) else (if ((sc.2 v3.toNatClampNeg) &&& (31 : Int32)) = 21 then (if zin (v3 + (1 : Int32)) sc.1 = true then (if zin (v3 + (2 : Int32)) sc.1 = true then (zBi (zRun sc d 111 [.ref 0, .int (sc.2 (v3 + (1 : Int32)).toNatClampNeg), .int (sc.2 (v3 + (2 : Int32)).toNatClampNeg)] zGL h) zGL fun x43 h43 => (if zin (v3 + (1 : Int32)) sc.1 = true then (if zin (v3 + (2 : Int32)) sc.1 = true then (zBi (zRun sc d 188 [.ref 46, .int (sc.2 (v3 + (1 : Int32)).toNatClampNeg), .int (sc.2 (v3 + (2 : Int32)).toNatClampNeg)] zGL h43) zGL fun x44 h44 => (if x43 = x44 then zE sc (d + 1) 197 18 [some (.ref 1300), some (.ref 0), some (.ref 46), some (.int (v3 + 5))] [] zGL h44 else some (some (.int 0), zGL, h44))) else none) else none)) else none) else none) else (if ((sc.2 v3.toNatClampNeg) &&& (31 : Int32)) = 22 then (if zin (v3 + (1 : Int32)) sc.1 = true then (if zin (v3 + (2 : Int32)) sc.1 = true then (if zin (v3 + (3 : Int32)) sc.1 = true then (zBi (zRun sc d 112 [.ref 0, .int (sc.2 (v3 + (1 : Int32)).toNatClampNeg), .int (sc.2 (v3 + (2 : Int32)).toNatClampNeg), .int (sc.2 (v3 + (3 : Int32)).toNatClampNeg)] zGL h) zGL fun x45 h45 => (if zin (v3 + (1 : Int32)) sc.1 = true then (if zin (v3 + (2 : Int32)) sc.1 = true then (if zin (v3 + (3 : Int32)) sc.1 = true then (zBi (zRun sc d 189 [.ref 46, .int (sc.2 (v3 + (1 : Int32)).toNatClampNeg), .int (sc.2 (v3 + (2 : Int32)).toNatClampNeg), .int (sc.2 (v3 + (3 : Int32)).toNatClampNeg)] zGL h45) zGL fun x46 h46 => (if x45 = x46 then zE sc (d + 1) 197 18 [some (.ref 1300), some (.ref 0), some (.ref 46), some (.int (v3 + 5))] [] zGL h46 else some (some (.int 0), zGL, h46))) else none) else none) else none)) else none) else none) else none) else (if ((sc.2 v3.toNatClampNeg) &&& (31 : Int32)) = 23 then (zBi (zRun sc d 114 [.ref 0] zGL h) zGL fun x47 h47 => (zBi (zRun sc d 190 [.ref 46] zGL h47) zGL fun x48 h48 => (if x47 = x48 then zE sc (d + 1) 197 18 [some (.ref 1300), some (.ref 0), some (.ref 46), some (.int (v3 + 5))] [] zGL h48 else some (some (.int 0), zGL, h48)))) else (if ((sc.2 v3.toNatClampNeg) &&& (31 : Int32)) = 24 then (zBi (zRun sc d 115 [.ref 0] zGL h) zGL fun x49 h49 => (zBi (zRun sc d 191 [.ref 46] zGL h49) zGL fun x50 h50 => (if x49 = x50 then zE sc (d + 1) 197 18 [some (.ref 1300), some (.ref 0), some (.ref 46), some (.int (v3 + 5))] [] zGL h50 else some (some (.int 0), zGL, h50)))) else (if ((sc.2 v3.toNatClampNeg) &&& (31 : Int32)) = 25 then (if zin (v3 + (1 : Int32)) sc.1 = true then (if zin (v3 + (2 : Int32)) sc.1 = true then (zBi (zRun sc d 117 [.ref 0, .int (sc.2 (v3 + (1 : Int32)).toNatClampNeg), .int (sc.2 (v3 + (2 : Int32)).toNatClampNeg)] zGL h) zGL fun x51 h51 => (if zin (v3 + (1 : Int32)) sc.1 = true then (if zin (v3 + (2 : Int32)) sc.1 = true then (zBi (zRun sc d 192 [.ref 46, .int (sc.2 (v3 + (1 : Int32)).toNatClampNeg), .int (sc.2 (v3 + (2 : Int32)).toNatClampNeg)] zGL h51) zGL fun x52 h52 => (if x51 = x52 then zE sc (d + 1) 197 18 [some (.ref 1300), some (.ref 0), some (.ref 46), some (.int (v3 + 5))] [] zGL h52 else some (some (.int 0), zGL, h52))) else none) else none)) else none) else none) else (if ((sc.2 v3.toNatClampNeg) &&& (31 : Int32)) = 26 then (if zin (v3 + (1 : Int32)) sc.1 = true then (zBi (zRun sc d 120 [.ref 0, .int (sc.2 (v3 + (1 : Int32)).toNatClampNeg)] zGL h) zGL fun x53 h53 => (if zin (v3 + (1 : Int32)) sc.1 = true then (zBi (zRun sc d 194 [.ref 46, .int (sc.2 (v3 + (1 : Int32)).toNatClampNeg)] zGL h53) zGL fun x54 h54 => (if x53 = x54 then zE sc (d + 1) 197 18 [some (.ref 1300), some (.ref 0), some (.ref 46), some (.int (v3 + 5))] [] zGL h54 else some (some (.int 0), zGL, h54))) else none)) else none) else (if ((sc.2 v3.toNatClampNeg) &&& (31 : Int32)) = 27 then (if zin (v3 + (1 : Int32)) sc.1 = true then (zBi (zRun sc d 121 [.ref 0, .int (sc.2 (v3 + (1 : Int32)).toNatClampNeg)] zGL h) zGL fun x55 h55 => (if zin (v3 + (1 : Int32)) sc.1 = true then (zBi (zRun sc d 195 [.ref 46, .int (sc.2 (v3 + (1 : Int32)).toNatClampNeg)] zGL h55) zGL fun x56 h56 => (if x55 = x56 then zE sc (d + 1) 197 18 [some (.ref 1300), some (.ref 0), some (.ref 46), some (.int (v3 + 5))] [] zGL h56 else some (some (.int 0), zGL, h56))) else none)) else none) else (if ((sc.2 v3.toNatClampNeg) &&& (31 : Int32)) = 28 then (if zin (v3 + (1 : Int32)) sc.1 = true then (zBi (zRun sc d 124 [.ref 0, .int (sc.2 (v3 + (1 : Int32)).toNatClampNeg)] zGL h) zGL fun x57 h57 => (if zin (v3 + (1 : Int32)) sc.1 = true then (zBi (zRun sc d 196 [.ref 46, .int (sc.2 (v3 + (1 : Int32)).toNatClampNeg)] zGL h57) zGL fun x58 h58 => (if x57 = x58 then zE sc (d + 1) 197 18 [some (.ref 1300), some (.ref 0), some (.ref 46), some (.int (v3 + 5))] [] zGL h58 else some (some (.int 0), zGL, h58))) else none)) else none) else zE sc (d + 1) 197 18 [some (.ref 1300), some (.ref 0), some (.ref 46), some (.int (v3 + 5))] [] zGL h))))))))))))))))))))))))))))) else none)) := by
  refine Eq.trans (ev_iload_n (pc := 18) k_197_18 rfl rfl) ?_
  refine Eq.trans (ev_aload_n (pc := 19) (x := 1300) k_197_19 rfl rfl (by decide)) ?_
  refine Eq.trans (ev_alenS (pc := 20) k_197_20 rfl) ?_
  refine Eq.trans (ev_iconst (pc := 21) (v := 5) k_197_21 rfl (by decide)) ?_
  refine Eq.trans (ev_isub (pc := 22) k_197_22 rfl) ?_
  refine Eq.trans (ev_icgt (pc := 23) k_197_23.1 rfl k_197_23.2) (z_ite ?_ ?_)
  · refine Eq.trans (ev_iconst (pc := 1047) (v := 1) k_197_1047 rfl (by decide)) ?_
    exact ev_ret_b1 k_197_1048 rfl rt_197 (by decide)
  · refine Eq.trans (ev_aload_n (pc := 26) (x := 1300) k_197_26 rfl rfl (by decide)) ?_
    refine Eq.trans (ev_iload_n (pc := 27) k_197_27 rfl rfl) ?_
    refine Eq.trans (ev_sld_c (pc := 28) k_197_28 rfl) (z_it1 ?_)
    refine Eq.trans (ev_bipush (pc := 29) (v := 31) k_197_29 rfl (by decide)) ?_
    refine Eq.trans (ev_iand (pc := 31) k_197_31 rfl) ?_
    by_cases e0 : ((sc.2 v3.toNatClampNeg) &&& (31 : Int32)) = 0
    · rw [if_pos e0, e0]
      refine Eq.trans (ev_sw (pc := 32) (t := 164) k_197_32 rfl ⟨rfl, rfl⟩ (z_tsI (o := 132) (by decide) (by decide) (by decide))) ?_
      refine Eq.trans (ev_aload_n (pc := 164) (x := 0) k_197_164 rfl rfl (by decide)) ?_
      refine Eq.trans (ev_aload_n (pc := 165) (x := 1300) k_197_165 rfl rfl (by decide)) ?_
      refine Eq.trans (ev_iload_n (pc := 166) k_197_166 rfl rfl) ?_
      refine Eq.trans (ev_iconst (pc := 167) (v := 1) k_197_167 rfl (by decide)) ?_
      refine Eq.trans (ev_iadd (pc := 168) k_197_168 rfl) ?_
      refine Eq.trans (ev_sld_c (pc := 169) k_197_169 rfl) (z_it1 ?_)
      refine Eq.trans (ev_aload_n (pc := 170) (x := 1300) k_197_170 rfl rfl (by decide)) ?_
      refine Eq.trans (ev_iload_n (pc := 171) k_197_171 rfl rfl) ?_
      refine Eq.trans (ev_iconst (pc := 172) (v := 2) k_197_172 rfl (by decide)) ?_
      refine Eq.trans (ev_iadd (pc := 173) k_197_173 rfl) ?_
      refine Eq.trans (ev_sld_c (pc := 174) k_197_174 rfl) (z_it1 ?_)
      refine Eq.trans (ev_i2l (pc := 175) k_197_175 rfl) ?_
      refine Eq.trans (ev_bipush (pc := 176) (v := 32) k_197_176 rfl (by decide)) ?_
      refine Eq.trans (ev_lshl (pc := 178) k_197_178 rfl) ?_
      refine Eq.trans (ev_aload_n (pc := 179) (x := 1300) k_197_179 rfl rfl (by decide)) ?_
      refine Eq.trans (ev_iload_n (pc := 180) k_197_180 rfl rfl) ?_
      refine Eq.trans (ev_iconst (pc := 181) (v := 3) k_197_181 rfl (by decide)) ?_
      refine Eq.trans (ev_iadd (pc := 182) k_197_182 rfl) ?_
      refine Eq.trans (ev_sld_c (pc := 183) k_197_183 rfl) (z_it1 ?_)
      refine Eq.trans (ev_i2l (pc := 184) k_197_184 rfl) ?_
      refine Eq.trans (ev_ldc2 (pc := 185) (v := 4294967295) k_197_185 rfl) ?_
      refine Eq.trans (ev_land (pc := 188) k_197_188 rfl) ?_
      refine Eq.trans (ev_lor (pc := 189) k_197_189 rfl) ?_
      refine Eq.trans (ev_vi (pc := 190) (as := [.int (sc.2 (v3 + (1 : Int32)).toNatClampNeg), .long ((((sc.2 (v3 + (2 : Int32)).toNatClampNeg).toInt64) <<< ((32 : Int32).toInt64 &&& 63)) ||| (((sc.2 (v3 + (3 : Int32)).toNatClampNeg).toInt64) &&& (4294967295 : Int64)))]) (rest := []) k_197_190 rfl zo_0 rfl rfl (Nat.le_of_ble_eq_true rfl) (Nat.le_of_ble_eq_true rfl)) (z_cbi fun x1 h1 => ?_)
      refine Eq.trans (ev_aload_n (pc := 193) (x := 46) k_197_193 rfl rfl (by decide)) ?_
      refine Eq.trans (ev_aload_n (pc := 194) (x := 1300) k_197_194 rfl rfl (by decide)) ?_
      refine Eq.trans (ev_iload_n (pc := 195) k_197_195 rfl rfl) ?_
      refine Eq.trans (ev_iconst (pc := 196) (v := 1) k_197_196 rfl (by decide)) ?_
      refine Eq.trans (ev_iadd (pc := 197) k_197_197 rfl) ?_
      refine Eq.trans (ev_sld_c (pc := 198) k_197_198 rfl) (z_it1 ?_)
      refine Eq.trans (ev_aload_n (pc := 199) (x := 1300) k_197_199 rfl rfl (by decide)) ?_
      refine Eq.trans (ev_iload_n (pc := 200) k_197_200 rfl rfl) ?_
      refine Eq.trans (ev_iconst (pc := 201) (v := 2) k_197_201 rfl (by decide)) ?_
      refine Eq.trans (ev_iadd (pc := 202) k_197_202 rfl) ?_
      refine Eq.trans (ev_sld_c (pc := 203) k_197_203 rfl) (z_it1 ?_)
      refine Eq.trans (ev_i2l (pc := 204) k_197_204 rfl) ?_
      refine Eq.trans (ev_bipush (pc := 205) (v := 32) k_197_205 rfl (by decide)) ?_
      refine Eq.trans (ev_lshl (pc := 207) k_197_207 rfl) ?_
      refine Eq.trans (ev_aload_n (pc := 208) (x := 1300) k_197_208 rfl rfl (by decide)) ?_
      refine Eq.trans (ev_iload_n (pc := 209) k_197_209 rfl rfl) ?_
      refine Eq.trans (ev_iconst (pc := 210) (v := 3) k_197_210 rfl (by decide)) ?_
      refine Eq.trans (ev_iadd (pc := 211) k_197_211 rfl) ?_
      refine Eq.trans (ev_sld_c (pc := 212) k_197_212 rfl) (z_it1 ?_)
      refine Eq.trans (ev_i2l (pc := 213) k_197_213 rfl) ?_
      refine Eq.trans (ev_ldc2 (pc := 214) (v := 4294967295) k_197_214 rfl) ?_
      refine Eq.trans (ev_land (pc := 217) k_197_217 rfl) ?_
      refine Eq.trans (ev_lor (pc := 218) k_197_218 rfl) ?_
      refine Eq.trans (ev_vi (pc := 219) (as := [.int (sc.2 (v3 + (1 : Int32)).toNatClampNeg), .long ((((sc.2 (v3 + (2 : Int32)).toNatClampNeg).toInt64) <<< ((32 : Int32).toInt64 &&& 63)) ||| (((sc.2 (v3 + (3 : Int32)).toNatClampNeg).toInt64) &&& (4294967295 : Int64)))]) (rest := [.int x1]) k_197_219 rfl zo_46 rfl rfl (Nat.le_of_ble_eq_true rfl) (Nat.le_of_ble_eq_true rfl)) (z_cbi fun x2 h2 => ?_)
      refine Eq.trans (ev_iceq (pc := 222) k_197_222.1 rfl k_197_222.2) (z_ite ?_ ?_)
      · refine Eq.trans (ev_iinc (pc := 1041) (v := 5) (lv' := [some (.ref 1300), some (.ref 0), some (.ref 46), some (.int (v3 + 5))]) k_197_1041 rfl rfl (by decide) rfl) ?_
        refine Eq.trans (ev_goto (pc := 1044) k_197_1044.1 rfl k_197_1044.2) ?_
        exact ev_mk kd_197_18 rfl
      · refine Eq.trans (ev_iconst (pc := 225) (v := 0) k_197_225 rfl (by decide)) ?_
        exact ev_ret_b1 k_197_226 rfl rt_197 (by decide)
    · rw [if_neg e0]
      by_cases e1 : ((sc.2 v3.toNatClampNeg) &&& (31 : Int32)) = 1
      · rw [if_pos e1, e1]
        refine Eq.trans (ev_sw (pc := 32) (t := 227) k_197_32 rfl ⟨rfl, rfl⟩ (z_tsI (o := 195) (by decide) (by decide) (by decide))) ?_
        refine Eq.trans (ev_aload_n (pc := 227) (x := 0) k_197_227 rfl rfl (by decide)) ?_
        refine Eq.trans (ev_vi (pc := 228) (as := []) (rest := []) k_197_228 rfl zo_0 rfl rfl (Nat.le_of_ble_eq_true rfl) (Nat.le_of_ble_eq_true rfl)) (z_cbi fun x3 h3 => ?_)
        refine Eq.trans (ev_aload_n (pc := 231) (x := 46) k_197_231 rfl rfl (by decide)) ?_
        refine Eq.trans (ev_vi (pc := 232) (as := []) (rest := [.int x3]) k_197_232 rfl zo_46 rfl rfl (Nat.le_of_ble_eq_true rfl) (Nat.le_of_ble_eq_true rfl)) (z_cbi fun x4 h4 => ?_)
        refine Eq.trans (ev_iceq (pc := 235) k_197_235.1 rfl k_197_235.2) (z_ite ?_ ?_)
        · refine Eq.trans (ev_iinc (pc := 1041) (v := 5) (lv' := [some (.ref 1300), some (.ref 0), some (.ref 46), some (.int (v3 + 5))]) k_197_1041 rfl rfl (by decide) rfl) ?_
          refine Eq.trans (ev_goto (pc := 1044) k_197_1044.1 rfl k_197_1044.2) ?_
          exact ev_mk kd_197_18 rfl
        · refine Eq.trans (ev_iconst (pc := 238) (v := 0) k_197_238 rfl (by decide)) ?_
          exact ev_ret_b1 k_197_239 rfl rt_197 (by decide)
      · rw [if_neg e1]
        by_cases e2 : ((sc.2 v3.toNatClampNeg) &&& (31 : Int32)) = 2
        · rw [if_pos e2, e2]
          refine Eq.trans (ev_sw (pc := 32) (t := 240) k_197_32 rfl ⟨rfl, rfl⟩ (z_tsI (o := 208) (by decide) (by decide) (by decide))) ?_
          refine Eq.trans (ev_aload_n (pc := 240) (x := 0) k_197_240 rfl rfl (by decide)) ?_
          refine Eq.trans (ev_vi (pc := 241) (as := []) (rest := []) k_197_241 rfl zo_0 rfl rfl (Nat.le_of_ble_eq_true rfl) (Nat.le_of_ble_eq_true rfl)) (z_cbi fun x5 h5 => ?_)
          refine Eq.trans (ev_aload_n (pc := 244) (x := 46) k_197_244 rfl rfl (by decide)) ?_
          refine Eq.trans (ev_vi (pc := 245) (as := []) (rest := [.int x5]) k_197_245 rfl zo_46 rfl rfl (Nat.le_of_ble_eq_true rfl) (Nat.le_of_ble_eq_true rfl)) (z_cbi fun x6 h6 => ?_)
          refine Eq.trans (ev_iceq (pc := 248) k_197_248.1 rfl k_197_248.2) (z_ite ?_ ?_)
          · refine Eq.trans (ev_iinc (pc := 1041) (v := 5) (lv' := [some (.ref 1300), some (.ref 0), some (.ref 46), some (.int (v3 + 5))]) k_197_1041 rfl rfl (by decide) rfl) ?_
            refine Eq.trans (ev_goto (pc := 1044) k_197_1044.1 rfl k_197_1044.2) ?_
            exact ev_mk kd_197_18 rfl
          · refine Eq.trans (ev_iconst (pc := 251) (v := 0) k_197_251 rfl (by decide)) ?_
            exact ev_ret_b1 k_197_252 rfl rt_197 (by decide)
        · rw [if_neg e2]
          by_cases e3 : ((sc.2 v3.toNatClampNeg) &&& (31 : Int32)) = 3
          · rw [if_pos e3, e3]
            refine Eq.trans (ev_sw (pc := 32) (t := 253) k_197_32 rfl ⟨rfl, rfl⟩ (z_tsI (o := 221) (by decide) (by decide) (by decide))) ?_
            refine Eq.trans (ev_aload_n (pc := 253) (x := 0) k_197_253 rfl rfl (by decide)) ?_
            refine Eq.trans (ev_aload_n (pc := 254) (x := 1300) k_197_254 rfl rfl (by decide)) ?_
            refine Eq.trans (ev_iload_n (pc := 255) k_197_255 rfl rfl) ?_
            refine Eq.trans (ev_iconst (pc := 256) (v := 1) k_197_256 rfl (by decide)) ?_
            refine Eq.trans (ev_iadd (pc := 257) k_197_257 rfl) ?_
            refine Eq.trans (ev_sld_c (pc := 258) k_197_258 rfl) (z_it1 ?_)
            refine Eq.trans (ev_vi (pc := 259) (as := [.int (sc.2 (v3 + (1 : Int32)).toNatClampNeg)]) (rest := []) k_197_259 rfl zo_0 rfl rfl (Nat.le_of_ble_eq_true rfl) (Nat.le_of_ble_eq_true rfl)) (z_cbi fun x7 h7 => ?_)
            refine Eq.trans (ev_aload_n (pc := 262) (x := 46) k_197_262 rfl rfl (by decide)) ?_
            refine Eq.trans (ev_aload_n (pc := 263) (x := 1300) k_197_263 rfl rfl (by decide)) ?_
            refine Eq.trans (ev_iload_n (pc := 264) k_197_264 rfl rfl) ?_
            refine Eq.trans (ev_iconst (pc := 265) (v := 1) k_197_265 rfl (by decide)) ?_
            refine Eq.trans (ev_iadd (pc := 266) k_197_266 rfl) ?_
            refine Eq.trans (ev_sld_c (pc := 267) k_197_267 rfl) (z_it1 ?_)
            refine Eq.trans (ev_vi (pc := 268) (as := [.int (sc.2 (v3 + (1 : Int32)).toNatClampNeg)]) (rest := [.int x7]) k_197_268 rfl zo_46 rfl rfl (Nat.le_of_ble_eq_true rfl) (Nat.le_of_ble_eq_true rfl)) (z_cbi fun x8 h8 => ?_)
            refine Eq.trans (ev_iceq (pc := 271) k_197_271.1 rfl k_197_271.2) (z_ite ?_ ?_)
            · refine Eq.trans (ev_iinc (pc := 1041) (v := 5) (lv' := [some (.ref 1300), some (.ref 0), some (.ref 46), some (.int (v3 + 5))]) k_197_1041 rfl rfl (by decide) rfl) ?_
              refine Eq.trans (ev_goto (pc := 1044) k_197_1044.1 rfl k_197_1044.2) ?_
              exact ev_mk kd_197_18 rfl
            · refine Eq.trans (ev_iconst (pc := 274) (v := 0) k_197_274 rfl (by decide)) ?_
              exact ev_ret_b1 k_197_275 rfl rt_197 (by decide)
          · rw [if_neg e3]
            by_cases e4 : ((sc.2 v3.toNatClampNeg) &&& (31 : Int32)) = 4
            · rw [if_pos e4, e4]
              refine Eq.trans (ev_sw (pc := 32) (t := 276) k_197_32 rfl ⟨rfl, rfl⟩ (z_tsI (o := 244) (by decide) (by decide) (by decide))) ?_
              refine Eq.trans (ev_aload_n (pc := 276) (x := 0) k_197_276 rfl rfl (by decide)) ?_
              refine Eq.trans (ev_aload_n (pc := 277) (x := 1300) k_197_277 rfl rfl (by decide)) ?_
              refine Eq.trans (ev_iload_n (pc := 278) k_197_278 rfl rfl) ?_
              refine Eq.trans (ev_iconst (pc := 279) (v := 1) k_197_279 rfl (by decide)) ?_
              refine Eq.trans (ev_iadd (pc := 280) k_197_280 rfl) ?_
              refine Eq.trans (ev_sld_c (pc := 281) k_197_281 rfl) (z_it1 ?_)
              refine Eq.trans (ev_aload_n (pc := 282) (x := 1300) k_197_282 rfl rfl (by decide)) ?_
              refine Eq.trans (ev_iload_n (pc := 283) k_197_283 rfl rfl) ?_
              refine Eq.trans (ev_iconst (pc := 284) (v := 2) k_197_284 rfl (by decide)) ?_
              refine Eq.trans (ev_iadd (pc := 285) k_197_285 rfl) ?_
              refine Eq.trans (ev_sld_c (pc := 286) k_197_286 rfl) (z_it1 ?_)
              refine Eq.trans (ev_vi (pc := 287) (as := [.int (sc.2 (v3 + (1 : Int32)).toNatClampNeg), .int (sc.2 (v3 + (2 : Int32)).toNatClampNeg)]) (rest := []) k_197_287 rfl zo_0 rfl rfl (Nat.le_of_ble_eq_true rfl) (Nat.le_of_ble_eq_true rfl)) (z_cbi fun x9 h9 => ?_)
              refine Eq.trans (ev_aload_n (pc := 290) (x := 46) k_197_290 rfl rfl (by decide)) ?_
              refine Eq.trans (ev_aload_n (pc := 291) (x := 1300) k_197_291 rfl rfl (by decide)) ?_
              refine Eq.trans (ev_iload_n (pc := 292) k_197_292 rfl rfl) ?_
              refine Eq.trans (ev_iconst (pc := 293) (v := 1) k_197_293 rfl (by decide)) ?_
              refine Eq.trans (ev_iadd (pc := 294) k_197_294 rfl) ?_
              refine Eq.trans (ev_sld_c (pc := 295) k_197_295 rfl) (z_it1 ?_)
              refine Eq.trans (ev_aload_n (pc := 296) (x := 1300) k_197_296 rfl rfl (by decide)) ?_
              refine Eq.trans (ev_iload_n (pc := 297) k_197_297 rfl rfl) ?_
              refine Eq.trans (ev_iconst (pc := 298) (v := 2) k_197_298 rfl (by decide)) ?_
              refine Eq.trans (ev_iadd (pc := 299) k_197_299 rfl) ?_
              refine Eq.trans (ev_sld_c (pc := 300) k_197_300 rfl) (z_it1 ?_)
              refine Eq.trans (ev_vi (pc := 301) (as := [.int (sc.2 (v3 + (1 : Int32)).toNatClampNeg), .int (sc.2 (v3 + (2 : Int32)).toNatClampNeg)]) (rest := [.int x9]) k_197_301 rfl zo_46 rfl rfl (Nat.le_of_ble_eq_true rfl) (Nat.le_of_ble_eq_true rfl)) (z_cbi fun x10 h10 => ?_)
              refine Eq.trans (ev_iceq (pc := 304) k_197_304.1 rfl k_197_304.2) (z_ite ?_ ?_)
              · refine Eq.trans (ev_iinc (pc := 1041) (v := 5) (lv' := [some (.ref 1300), some (.ref 0), some (.ref 46), some (.int (v3 + 5))]) k_197_1041 rfl rfl (by decide) rfl) ?_
                refine Eq.trans (ev_goto (pc := 1044) k_197_1044.1 rfl k_197_1044.2) ?_
                exact ev_mk kd_197_18 rfl
              · refine Eq.trans (ev_iconst (pc := 307) (v := 0) k_197_307 rfl (by decide)) ?_
                exact ev_ret_b1 k_197_308 rfl rt_197 (by decide)
            · rw [if_neg e4]
              by_cases e5 : ((sc.2 v3.toNatClampNeg) &&& (31 : Int32)) = 5
              · rw [if_pos e5, e5]
                refine Eq.trans (ev_sw (pc := 32) (t := 309) k_197_32 rfl ⟨rfl, rfl⟩ (z_tsI (o := 277) (by decide) (by decide) (by decide))) ?_
                refine Eq.trans (ev_aload_n (pc := 309) (x := 0) k_197_309 rfl rfl (by decide)) ?_
                refine Eq.trans (ev_aload_n (pc := 310) (x := 1300) k_197_310 rfl rfl (by decide)) ?_
                refine Eq.trans (ev_iload_n (pc := 311) k_197_311 rfl rfl) ?_
                refine Eq.trans (ev_iconst (pc := 312) (v := 1) k_197_312 rfl (by decide)) ?_
                refine Eq.trans (ev_iadd (pc := 313) k_197_313 rfl) ?_
                refine Eq.trans (ev_sld_c (pc := 314) k_197_314 rfl) (z_it1 ?_)
                refine Eq.trans (ev_aload_n (pc := 315) (x := 1300) k_197_315 rfl rfl (by decide)) ?_
                refine Eq.trans (ev_iload_n (pc := 316) k_197_316 rfl rfl) ?_
                refine Eq.trans (ev_iconst (pc := 317) (v := 2) k_197_317 rfl (by decide)) ?_
                refine Eq.trans (ev_iadd (pc := 318) k_197_318 rfl) ?_
                refine Eq.trans (ev_sld_c (pc := 319) k_197_319 rfl) (z_it1 ?_)
                refine Eq.trans (ev_vi (pc := 320) (as := [.int (sc.2 (v3 + (1 : Int32)).toNatClampNeg), .int (sc.2 (v3 + (2 : Int32)).toNatClampNeg)]) (rest := []) k_197_320 rfl zo_0 rfl rfl (Nat.le_of_ble_eq_true rfl) (Nat.le_of_ble_eq_true rfl)) (z_cbi fun x11 h11 => ?_)
                refine Eq.trans (ev_aload_n (pc := 323) (x := 46) k_197_323 rfl rfl (by decide)) ?_
                refine Eq.trans (ev_aload_n (pc := 324) (x := 1300) k_197_324 rfl rfl (by decide)) ?_
                refine Eq.trans (ev_iload_n (pc := 325) k_197_325 rfl rfl) ?_
                refine Eq.trans (ev_iconst (pc := 326) (v := 1) k_197_326 rfl (by decide)) ?_
                refine Eq.trans (ev_iadd (pc := 327) k_197_327 rfl) ?_
                refine Eq.trans (ev_sld_c (pc := 328) k_197_328 rfl) (z_it1 ?_)
                refine Eq.trans (ev_aload_n (pc := 329) (x := 1300) k_197_329 rfl rfl (by decide)) ?_
                refine Eq.trans (ev_iload_n (pc := 330) k_197_330 rfl rfl) ?_
                refine Eq.trans (ev_iconst (pc := 331) (v := 2) k_197_331 rfl (by decide)) ?_
                refine Eq.trans (ev_iadd (pc := 332) k_197_332 rfl) ?_
                refine Eq.trans (ev_sld_c (pc := 333) k_197_333 rfl) (z_it1 ?_)
                refine Eq.trans (ev_vi (pc := 334) (as := [.int (sc.2 (v3 + (1 : Int32)).toNatClampNeg), .int (sc.2 (v3 + (2 : Int32)).toNatClampNeg)]) (rest := [.int x11]) k_197_334 rfl zo_46 rfl rfl (Nat.le_of_ble_eq_true rfl) (Nat.le_of_ble_eq_true rfl)) (z_cbi fun x12 h12 => ?_)
                refine Eq.trans (ev_iceq (pc := 337) k_197_337.1 rfl k_197_337.2) (z_ite ?_ ?_)
                · refine Eq.trans (ev_iinc (pc := 1041) (v := 5) (lv' := [some (.ref 1300), some (.ref 0), some (.ref 46), some (.int (v3 + 5))]) k_197_1041 rfl rfl (by decide) rfl) ?_
                  refine Eq.trans (ev_goto (pc := 1044) k_197_1044.1 rfl k_197_1044.2) ?_
                  exact ev_mk kd_197_18 rfl
                · refine Eq.trans (ev_iconst (pc := 340) (v := 0) k_197_340 rfl (by decide)) ?_
                  exact ev_ret_b1 k_197_341 rfl rt_197 (by decide)
              · rw [if_neg e5]
                by_cases e6 : ((sc.2 v3.toNatClampNeg) &&& (31 : Int32)) = 6
                · rw [if_pos e6, e6]
                  refine Eq.trans (ev_sw (pc := 32) (t := 342) k_197_32 rfl ⟨rfl, rfl⟩ (z_tsI (o := 310) (by decide) (by decide) (by decide))) ?_
                  refine Eq.trans (ev_aload_n (pc := 342) (x := 0) k_197_342 rfl rfl (by decide)) ?_
                  refine Eq.trans (ev_aload_n (pc := 343) (x := 1300) k_197_343 rfl rfl (by decide)) ?_
                  refine Eq.trans (ev_iload_n (pc := 344) k_197_344 rfl rfl) ?_
                  refine Eq.trans (ev_iconst (pc := 345) (v := 1) k_197_345 rfl (by decide)) ?_
                  refine Eq.trans (ev_iadd (pc := 346) k_197_346 rfl) ?_
                  refine Eq.trans (ev_sld_c (pc := 347) k_197_347 rfl) (z_it1 ?_)
                  refine Eq.trans (ev_vi (pc := 348) (as := [.int (sc.2 (v3 + (1 : Int32)).toNatClampNeg)]) (rest := []) k_197_348 rfl zo_0 rfl rfl (Nat.le_of_ble_eq_true rfl) (Nat.le_of_ble_eq_true rfl)) (z_cbi fun x13 h13 => ?_)
                  refine Eq.trans (ev_aload_n (pc := 351) (x := 46) k_197_351 rfl rfl (by decide)) ?_
                  refine Eq.trans (ev_aload_n (pc := 352) (x := 1300) k_197_352 rfl rfl (by decide)) ?_
                  refine Eq.trans (ev_iload_n (pc := 353) k_197_353 rfl rfl) ?_
                  refine Eq.trans (ev_iconst (pc := 354) (v := 1) k_197_354 rfl (by decide)) ?_
                  refine Eq.trans (ev_iadd (pc := 355) k_197_355 rfl) ?_
                  refine Eq.trans (ev_sld_c (pc := 356) k_197_356 rfl) (z_it1 ?_)
                  refine Eq.trans (ev_vi (pc := 357) (as := [.int (sc.2 (v3 + (1 : Int32)).toNatClampNeg)]) (rest := [.int x13]) k_197_357 rfl zo_46 rfl rfl (Nat.le_of_ble_eq_true rfl) (Nat.le_of_ble_eq_true rfl)) (z_cbi fun x14 h14 => ?_)
                  refine Eq.trans (ev_iceq (pc := 360) k_197_360.1 rfl k_197_360.2) (z_ite ?_ ?_)
                  · refine Eq.trans (ev_iinc (pc := 1041) (v := 5) (lv' := [some (.ref 1300), some (.ref 0), some (.ref 46), some (.int (v3 + 5))]) k_197_1041 rfl rfl (by decide) rfl) ?_
                    refine Eq.trans (ev_goto (pc := 1044) k_197_1044.1 rfl k_197_1044.2) ?_
                    exact ev_mk kd_197_18 rfl
                  · refine Eq.trans (ev_iconst (pc := 363) (v := 0) k_197_363 rfl (by decide)) ?_
                    exact ev_ret_b1 k_197_364 rfl rt_197 (by decide)
                · rw [if_neg e6]
                  by_cases e7 : ((sc.2 v3.toNatClampNeg) &&& (31 : Int32)) = 7
                  · rw [if_pos e7, e7]
                    refine Eq.trans (ev_sw (pc := 32) (t := 365) k_197_32 rfl ⟨rfl, rfl⟩ (z_tsI (o := 333) (by decide) (by decide) (by decide))) ?_
                    refine Eq.trans (ev_aload_n (pc := 365) (x := 0) k_197_365 rfl rfl (by decide)) ?_
                    refine Eq.trans (ev_aload_n (pc := 366) (x := 1300) k_197_366 rfl rfl (by decide)) ?_
                    refine Eq.trans (ev_iload_n (pc := 367) k_197_367 rfl rfl) ?_
                    refine Eq.trans (ev_iconst (pc := 368) (v := 1) k_197_368 rfl (by decide)) ?_
                    refine Eq.trans (ev_iadd (pc := 369) k_197_369 rfl) ?_
                    refine Eq.trans (ev_sld_c (pc := 370) k_197_370 rfl) (z_it1 ?_)
                    refine Eq.trans (ev_aload_n (pc := 371) (x := 1300) k_197_371 rfl rfl (by decide)) ?_
                    refine Eq.trans (ev_iload_n (pc := 372) k_197_372 rfl rfl) ?_
                    refine Eq.trans (ev_iconst (pc := 373) (v := 2) k_197_373 rfl (by decide)) ?_
                    refine Eq.trans (ev_iadd (pc := 374) k_197_374 rfl) ?_
                    refine Eq.trans (ev_sld_c (pc := 375) k_197_375 rfl) (z_it1 ?_)
                    refine Eq.trans (ev_aload_n (pc := 376) (x := 1300) k_197_376 rfl rfl (by decide)) ?_
                    refine Eq.trans (ev_iload_n (pc := 377) k_197_377 rfl rfl) ?_
                    refine Eq.trans (ev_iconst (pc := 378) (v := 3) k_197_378 rfl (by decide)) ?_
                    refine Eq.trans (ev_iadd (pc := 379) k_197_379 rfl) ?_
                    refine Eq.trans (ev_sld_c (pc := 380) k_197_380 rfl) (z_it1 ?_)
                    refine Eq.trans (ev_vi (pc := 381) (as := [.int (sc.2 (v3 + (1 : Int32)).toNatClampNeg), .int (sc.2 (v3 + (2 : Int32)).toNatClampNeg), .int (sc.2 (v3 + (3 : Int32)).toNatClampNeg)]) (rest := []) k_197_381 rfl zo_0 rfl rfl (Nat.le_of_ble_eq_true rfl) (Nat.le_of_ble_eq_true rfl)) (z_cbi fun x15 h15 => ?_)
                    refine Eq.trans (ev_aload_n (pc := 384) (x := 46) k_197_384 rfl rfl (by decide)) ?_
                    refine Eq.trans (ev_aload_n (pc := 385) (x := 1300) k_197_385 rfl rfl (by decide)) ?_
                    refine Eq.trans (ev_iload_n (pc := 386) k_197_386 rfl rfl) ?_
                    refine Eq.trans (ev_iconst (pc := 387) (v := 1) k_197_387 rfl (by decide)) ?_
                    refine Eq.trans (ev_iadd (pc := 388) k_197_388 rfl) ?_
                    refine Eq.trans (ev_sld_c (pc := 389) k_197_389 rfl) (z_it1 ?_)
                    refine Eq.trans (ev_aload_n (pc := 390) (x := 1300) k_197_390 rfl rfl (by decide)) ?_
                    refine Eq.trans (ev_iload_n (pc := 391) k_197_391 rfl rfl) ?_
                    refine Eq.trans (ev_iconst (pc := 392) (v := 2) k_197_392 rfl (by decide)) ?_
                    refine Eq.trans (ev_iadd (pc := 393) k_197_393 rfl) ?_
                    refine Eq.trans (ev_sld_c (pc := 394) k_197_394 rfl) (z_it1 ?_)
                    refine Eq.trans (ev_aload_n (pc := 395) (x := 1300) k_197_395 rfl rfl (by decide)) ?_
                    refine Eq.trans (ev_iload_n (pc := 396) k_197_396 rfl rfl) ?_
                    refine Eq.trans (ev_iconst (pc := 397) (v := 3) k_197_397 rfl (by decide)) ?_
                    refine Eq.trans (ev_iadd (pc := 398) k_197_398 rfl) ?_
                    refine Eq.trans (ev_sld_c (pc := 399) k_197_399 rfl) (z_it1 ?_)
                    refine Eq.trans (ev_vi (pc := 400) (as := [.int (sc.2 (v3 + (1 : Int32)).toNatClampNeg), .int (sc.2 (v3 + (2 : Int32)).toNatClampNeg), .int (sc.2 (v3 + (3 : Int32)).toNatClampNeg)]) (rest := [.int x15]) k_197_400 rfl zo_46 rfl rfl (Nat.le_of_ble_eq_true rfl) (Nat.le_of_ble_eq_true rfl)) (z_cbi fun x16 h16 => ?_)
                    refine Eq.trans (ev_iceq (pc := 403) k_197_403.1 rfl k_197_403.2) (z_ite ?_ ?_)
                    · refine Eq.trans (ev_iinc (pc := 1041) (v := 5) (lv' := [some (.ref 1300), some (.ref 0), some (.ref 46), some (.int (v3 + 5))]) k_197_1041 rfl rfl (by decide) rfl) ?_
                      refine Eq.trans (ev_goto (pc := 1044) k_197_1044.1 rfl k_197_1044.2) ?_
                      exact ev_mk kd_197_18 rfl
                    · refine Eq.trans (ev_iconst (pc := 406) (v := 0) k_197_406 rfl (by decide)) ?_
                      exact ev_ret_b1 k_197_407 rfl rt_197 (by decide)
                  · rw [if_neg e7]
                    by_cases e8 : ((sc.2 v3.toNatClampNeg) &&& (31 : Int32)) = 8
                    · rw [if_pos e8, e8]
                      refine Eq.trans (ev_sw (pc := 32) (t := 408) k_197_32 rfl ⟨rfl, rfl⟩ (z_tsI (o := 376) (by decide) (by decide) (by decide))) ?_
                      refine Eq.trans (ev_aload_n (pc := 408) (x := 0) k_197_408 rfl rfl (by decide)) ?_
                      refine Eq.trans (ev_aload_n (pc := 409) (x := 1300) k_197_409 rfl rfl (by decide)) ?_
                      refine Eq.trans (ev_iload_n (pc := 410) k_197_410 rfl rfl) ?_
                      refine Eq.trans (ev_iconst (pc := 411) (v := 1) k_197_411 rfl (by decide)) ?_
                      refine Eq.trans (ev_iadd (pc := 412) k_197_412 rfl) ?_
                      refine Eq.trans (ev_sld_c (pc := 413) k_197_413 rfl) (z_it1 ?_)
                      refine Eq.trans (ev_aload_n (pc := 414) (x := 1300) k_197_414 rfl rfl (by decide)) ?_
                      refine Eq.trans (ev_iload_n (pc := 415) k_197_415 rfl rfl) ?_
                      refine Eq.trans (ev_iconst (pc := 416) (v := 2) k_197_416 rfl (by decide)) ?_
                      refine Eq.trans (ev_iadd (pc := 417) k_197_417 rfl) ?_
                      refine Eq.trans (ev_sld_c (pc := 418) k_197_418 rfl) (z_it1 ?_)
                      refine Eq.trans (ev_aload_n (pc := 419) (x := 1300) k_197_419 rfl rfl (by decide)) ?_
                      refine Eq.trans (ev_iload_n (pc := 420) k_197_420 rfl rfl) ?_
                      refine Eq.trans (ev_iconst (pc := 421) (v := 3) k_197_421 rfl (by decide)) ?_
                      refine Eq.trans (ev_iadd (pc := 422) k_197_422 rfl) ?_
                      refine Eq.trans (ev_sld_c (pc := 423) k_197_423 rfl) (z_it1 ?_)
                      refine Eq.trans (ev_vi (pc := 424) (as := [.int (sc.2 (v3 + (1 : Int32)).toNatClampNeg), .int (sc.2 (v3 + (2 : Int32)).toNatClampNeg), .int (sc.2 (v3 + (3 : Int32)).toNatClampNeg)]) (rest := []) k_197_424 rfl zo_0 rfl rfl (Nat.le_of_ble_eq_true rfl) (Nat.le_of_ble_eq_true rfl)) (z_cbi fun x17 h17 => ?_)
                      refine Eq.trans (ev_aload_n (pc := 427) (x := 46) k_197_427 rfl rfl (by decide)) ?_
                      refine Eq.trans (ev_aload_n (pc := 428) (x := 1300) k_197_428 rfl rfl (by decide)) ?_
                      refine Eq.trans (ev_iload_n (pc := 429) k_197_429 rfl rfl) ?_
                      refine Eq.trans (ev_iconst (pc := 430) (v := 1) k_197_430 rfl (by decide)) ?_
                      refine Eq.trans (ev_iadd (pc := 431) k_197_431 rfl) ?_
                      refine Eq.trans (ev_sld_c (pc := 432) k_197_432 rfl) (z_it1 ?_)
                      refine Eq.trans (ev_aload_n (pc := 433) (x := 1300) k_197_433 rfl rfl (by decide)) ?_
                      refine Eq.trans (ev_iload_n (pc := 434) k_197_434 rfl rfl) ?_
                      refine Eq.trans (ev_iconst (pc := 435) (v := 2) k_197_435 rfl (by decide)) ?_
                      refine Eq.trans (ev_iadd (pc := 436) k_197_436 rfl) ?_
                      refine Eq.trans (ev_sld_c (pc := 437) k_197_437 rfl) (z_it1 ?_)
                      refine Eq.trans (ev_aload_n (pc := 438) (x := 1300) k_197_438 rfl rfl (by decide)) ?_
                      refine Eq.trans (ev_iload_n (pc := 439) k_197_439 rfl rfl) ?_
                      refine Eq.trans (ev_iconst (pc := 440) (v := 3) k_197_440 rfl (by decide)) ?_
                      refine Eq.trans (ev_iadd (pc := 441) k_197_441 rfl) ?_
                      refine Eq.trans (ev_sld_c (pc := 442) k_197_442 rfl) (z_it1 ?_)
                      refine Eq.trans (ev_vi (pc := 443) (as := [.int (sc.2 (v3 + (1 : Int32)).toNatClampNeg), .int (sc.2 (v3 + (2 : Int32)).toNatClampNeg), .int (sc.2 (v3 + (3 : Int32)).toNatClampNeg)]) (rest := [.int x17]) k_197_443 rfl zo_46 rfl rfl (Nat.le_of_ble_eq_true rfl) (Nat.le_of_ble_eq_true rfl)) (z_cbi fun x18 h18 => ?_)
                      refine Eq.trans (ev_iceq (pc := 446) k_197_446.1 rfl k_197_446.2) (z_ite ?_ ?_)
                      · refine Eq.trans (ev_iinc (pc := 1041) (v := 5) (lv' := [some (.ref 1300), some (.ref 0), some (.ref 46), some (.int (v3 + 5))]) k_197_1041 rfl rfl (by decide) rfl) ?_
                        refine Eq.trans (ev_goto (pc := 1044) k_197_1044.1 rfl k_197_1044.2) ?_
                        exact ev_mk kd_197_18 rfl
                      · refine Eq.trans (ev_iconst (pc := 449) (v := 0) k_197_449 rfl (by decide)) ?_
                        exact ev_ret_b1 k_197_450 rfl rt_197 (by decide)
                    · rw [if_neg e8]
                      by_cases e9 : ((sc.2 v3.toNatClampNeg) &&& (31 : Int32)) = 9
                      · rw [if_pos e9, e9]
                        refine Eq.trans (ev_sw (pc := 32) (t := 451) k_197_32 rfl ⟨rfl, rfl⟩ (z_tsI (o := 419) (by decide) (by decide) (by decide))) ?_
                        refine Eq.trans (ev_aload_n (pc := 451) (x := 0) k_197_451 rfl rfl (by decide)) ?_
                        refine Eq.trans (ev_aload_n (pc := 452) (x := 1300) k_197_452 rfl rfl (by decide)) ?_
                        refine Eq.trans (ev_iload_n (pc := 453) k_197_453 rfl rfl) ?_
                        refine Eq.trans (ev_iconst (pc := 454) (v := 1) k_197_454 rfl (by decide)) ?_
                        refine Eq.trans (ev_iadd (pc := 455) k_197_455 rfl) ?_
                        refine Eq.trans (ev_sld_c (pc := 456) k_197_456 rfl) (z_it1 ?_)
                        refine Eq.trans (ev_aload_n (pc := 457) (x := 1300) k_197_457 rfl rfl (by decide)) ?_
                        refine Eq.trans (ev_iload_n (pc := 458) k_197_458 rfl rfl) ?_
                        refine Eq.trans (ev_iconst (pc := 459) (v := 2) k_197_459 rfl (by decide)) ?_
                        refine Eq.trans (ev_iadd (pc := 460) k_197_460 rfl) ?_
                        refine Eq.trans (ev_sld_c (pc := 461) k_197_461 rfl) (z_it1 ?_)
                        refine Eq.trans (ev_vi (pc := 462) (as := [.int (sc.2 (v3 + (1 : Int32)).toNatClampNeg), .int (sc.2 (v3 + (2 : Int32)).toNatClampNeg)]) (rest := []) k_197_462 rfl zo_0 rfl rfl (Nat.le_of_ble_eq_true rfl) (Nat.le_of_ble_eq_true rfl)) (z_cbi fun x19 h19 => ?_)
                        refine Eq.trans (ev_aload_n (pc := 465) (x := 46) k_197_465 rfl rfl (by decide)) ?_
                        refine Eq.trans (ev_aload_n (pc := 466) (x := 1300) k_197_466 rfl rfl (by decide)) ?_
                        refine Eq.trans (ev_iload_n (pc := 467) k_197_467 rfl rfl) ?_
                        refine Eq.trans (ev_iconst (pc := 468) (v := 1) k_197_468 rfl (by decide)) ?_
                        refine Eq.trans (ev_iadd (pc := 469) k_197_469 rfl) ?_
                        refine Eq.trans (ev_sld_c (pc := 470) k_197_470 rfl) (z_it1 ?_)
                        refine Eq.trans (ev_aload_n (pc := 471) (x := 1300) k_197_471 rfl rfl (by decide)) ?_
                        refine Eq.trans (ev_iload_n (pc := 472) k_197_472 rfl rfl) ?_
                        refine Eq.trans (ev_iconst (pc := 473) (v := 2) k_197_473 rfl (by decide)) ?_
                        refine Eq.trans (ev_iadd (pc := 474) k_197_474 rfl) ?_
                        refine Eq.trans (ev_sld_c (pc := 475) k_197_475 rfl) (z_it1 ?_)
                        refine Eq.trans (ev_vi (pc := 476) (as := [.int (sc.2 (v3 + (1 : Int32)).toNatClampNeg), .int (sc.2 (v3 + (2 : Int32)).toNatClampNeg)]) (rest := [.int x19]) k_197_476 rfl zo_46 rfl rfl (Nat.le_of_ble_eq_true rfl) (Nat.le_of_ble_eq_true rfl)) (z_cbi fun x20 h20 => ?_)
                        refine Eq.trans (ev_iceq (pc := 479) k_197_479.1 rfl k_197_479.2) (z_ite ?_ ?_)
                        · refine Eq.trans (ev_iinc (pc := 1041) (v := 5) (lv' := [some (.ref 1300), some (.ref 0), some (.ref 46), some (.int (v3 + 5))]) k_197_1041 rfl rfl (by decide) rfl) ?_
                          refine Eq.trans (ev_goto (pc := 1044) k_197_1044.1 rfl k_197_1044.2) ?_
                          exact ev_mk kd_197_18 rfl
                        · refine Eq.trans (ev_iconst (pc := 482) (v := 0) k_197_482 rfl (by decide)) ?_
                          exact ev_ret_b1 k_197_483 rfl rt_197 (by decide)
                      · rw [if_neg e9]
                        by_cases e10 : ((sc.2 v3.toNatClampNeg) &&& (31 : Int32)) = 10
                        · rw [if_pos e10, e10]
                          refine Eq.trans (ev_sw (pc := 32) (t := 484) k_197_32 rfl ⟨rfl, rfl⟩ (z_tsI (o := 452) (by decide) (by decide) (by decide))) ?_
                          refine Eq.trans (ev_aload_n (pc := 484) (x := 0) k_197_484 rfl rfl (by decide)) ?_
                          refine Eq.trans (ev_aload_n (pc := 485) (x := 1300) k_197_485 rfl rfl (by decide)) ?_
                          refine Eq.trans (ev_iload_n (pc := 486) k_197_486 rfl rfl) ?_
                          refine Eq.trans (ev_iconst (pc := 487) (v := 1) k_197_487 rfl (by decide)) ?_
                          refine Eq.trans (ev_iadd (pc := 488) k_197_488 rfl) ?_
                          refine Eq.trans (ev_sld_c (pc := 489) k_197_489 rfl) (z_it1 ?_)
                          refine Eq.trans (ev_aload_n (pc := 490) (x := 1300) k_197_490 rfl rfl (by decide)) ?_
                          refine Eq.trans (ev_iload_n (pc := 491) k_197_491 rfl rfl) ?_
                          refine Eq.trans (ev_iconst (pc := 492) (v := 2) k_197_492 rfl (by decide)) ?_
                          refine Eq.trans (ev_iadd (pc := 493) k_197_493 rfl) ?_
                          refine Eq.trans (ev_sld_c (pc := 494) k_197_494 rfl) (z_it1 ?_)
                          refine Eq.trans (ev_aload_n (pc := 495) (x := 1300) k_197_495 rfl rfl (by decide)) ?_
                          refine Eq.trans (ev_iload_n (pc := 496) k_197_496 rfl rfl) ?_
                          refine Eq.trans (ev_iconst (pc := 497) (v := 3) k_197_497 rfl (by decide)) ?_
                          refine Eq.trans (ev_iadd (pc := 498) k_197_498 rfl) ?_
                          refine Eq.trans (ev_sld_c (pc := 499) k_197_499 rfl) (z_it1 ?_)
                          refine Eq.trans (ev_vi (pc := 500) (as := [.int (sc.2 (v3 + (1 : Int32)).toNatClampNeg), .int (sc.2 (v3 + (2 : Int32)).toNatClampNeg), .int (sc.2 (v3 + (3 : Int32)).toNatClampNeg)]) (rest := []) k_197_500 rfl zo_0 rfl rfl (Nat.le_of_ble_eq_true rfl) (Nat.le_of_ble_eq_true rfl)) (z_cbi fun x21 h21 => ?_)
                          refine Eq.trans (ev_aload_n (pc := 503) (x := 46) k_197_503 rfl rfl (by decide)) ?_
                          refine Eq.trans (ev_aload_n (pc := 504) (x := 1300) k_197_504 rfl rfl (by decide)) ?_
                          refine Eq.trans (ev_iload_n (pc := 505) k_197_505 rfl rfl) ?_
                          refine Eq.trans (ev_iconst (pc := 506) (v := 1) k_197_506 rfl (by decide)) ?_
                          refine Eq.trans (ev_iadd (pc := 507) k_197_507 rfl) ?_
                          refine Eq.trans (ev_sld_c (pc := 508) k_197_508 rfl) (z_it1 ?_)
                          refine Eq.trans (ev_aload_n (pc := 509) (x := 1300) k_197_509 rfl rfl (by decide)) ?_
                          refine Eq.trans (ev_iload_n (pc := 510) k_197_510 rfl rfl) ?_
                          refine Eq.trans (ev_iconst (pc := 511) (v := 2) k_197_511 rfl (by decide)) ?_
                          refine Eq.trans (ev_iadd (pc := 512) k_197_512 rfl) ?_
                          refine Eq.trans (ev_sld_c (pc := 513) k_197_513 rfl) (z_it1 ?_)
                          refine Eq.trans (ev_aload_n (pc := 514) (x := 1300) k_197_514 rfl rfl (by decide)) ?_
                          refine Eq.trans (ev_iload_n (pc := 515) k_197_515 rfl rfl) ?_
                          refine Eq.trans (ev_iconst (pc := 516) (v := 3) k_197_516 rfl (by decide)) ?_
                          refine Eq.trans (ev_iadd (pc := 517) k_197_517 rfl) ?_
                          refine Eq.trans (ev_sld_c (pc := 518) k_197_518 rfl) (z_it1 ?_)
                          refine Eq.trans (ev_vi (pc := 519) (as := [.int (sc.2 (v3 + (1 : Int32)).toNatClampNeg), .int (sc.2 (v3 + (2 : Int32)).toNatClampNeg), .int (sc.2 (v3 + (3 : Int32)).toNatClampNeg)]) (rest := [.int x21]) k_197_519 rfl zo_46 rfl rfl (Nat.le_of_ble_eq_true rfl) (Nat.le_of_ble_eq_true rfl)) (z_cbi fun x22 h22 => ?_)
                          refine Eq.trans (ev_iceq (pc := 522) k_197_522.1 rfl k_197_522.2) (z_ite ?_ ?_)
                          · refine Eq.trans (ev_iinc (pc := 1041) (v := 5) (lv' := [some (.ref 1300), some (.ref 0), some (.ref 46), some (.int (v3 + 5))]) k_197_1041 rfl rfl (by decide) rfl) ?_
                            refine Eq.trans (ev_goto (pc := 1044) k_197_1044.1 rfl k_197_1044.2) ?_
                            exact ev_mk kd_197_18 rfl
                          · refine Eq.trans (ev_iconst (pc := 525) (v := 0) k_197_525 rfl (by decide)) ?_
                            exact ev_ret_b1 k_197_526 rfl rt_197 (by decide)
                        · rw [if_neg e10]
                          by_cases e11 : ((sc.2 v3.toNatClampNeg) &&& (31 : Int32)) = 11
                          · rw [if_pos e11, e11]
                            refine Eq.trans (ev_sw (pc := 32) (t := 527) k_197_32 rfl ⟨rfl, rfl⟩ (z_tsI (o := 495) (by decide) (by decide) (by decide))) ?_
                            refine Eq.trans (ev_aload_n (pc := 527) (x := 0) k_197_527 rfl rfl (by decide)) ?_
                            refine Eq.trans (ev_aload_n (pc := 528) (x := 1300) k_197_528 rfl rfl (by decide)) ?_
                            refine Eq.trans (ev_iload_n (pc := 529) k_197_529 rfl rfl) ?_
                            refine Eq.trans (ev_iconst (pc := 530) (v := 1) k_197_530 rfl (by decide)) ?_
                            refine Eq.trans (ev_iadd (pc := 531) k_197_531 rfl) ?_
                            refine Eq.trans (ev_sld_c (pc := 532) k_197_532 rfl) (z_it1 ?_)
                            refine Eq.trans (ev_aload_n (pc := 533) (x := 1300) k_197_533 rfl rfl (by decide)) ?_
                            refine Eq.trans (ev_iload_n (pc := 534) k_197_534 rfl rfl) ?_
                            refine Eq.trans (ev_iconst (pc := 535) (v := 2) k_197_535 rfl (by decide)) ?_
                            refine Eq.trans (ev_iadd (pc := 536) k_197_536 rfl) ?_
                            refine Eq.trans (ev_sld_c (pc := 537) k_197_537 rfl) (z_it1 ?_)
                            refine Eq.trans (ev_vi (pc := 538) (as := [.int (sc.2 (v3 + (1 : Int32)).toNatClampNeg), .int (sc.2 (v3 + (2 : Int32)).toNatClampNeg)]) (rest := []) k_197_538 rfl zo_0 rfl rfl (Nat.le_of_ble_eq_true rfl) (Nat.le_of_ble_eq_true rfl)) (z_cbi fun x23 h23 => ?_)
                            refine Eq.trans (ev_aload_n (pc := 541) (x := 46) k_197_541 rfl rfl (by decide)) ?_
                            refine Eq.trans (ev_aload_n (pc := 542) (x := 1300) k_197_542 rfl rfl (by decide)) ?_
                            refine Eq.trans (ev_iload_n (pc := 543) k_197_543 rfl rfl) ?_
                            refine Eq.trans (ev_iconst (pc := 544) (v := 1) k_197_544 rfl (by decide)) ?_
                            refine Eq.trans (ev_iadd (pc := 545) k_197_545 rfl) ?_
                            refine Eq.trans (ev_sld_c (pc := 546) k_197_546 rfl) (z_it1 ?_)
                            refine Eq.trans (ev_aload_n (pc := 547) (x := 1300) k_197_547 rfl rfl (by decide)) ?_
                            refine Eq.trans (ev_iload_n (pc := 548) k_197_548 rfl rfl) ?_
                            refine Eq.trans (ev_iconst (pc := 549) (v := 2) k_197_549 rfl (by decide)) ?_
                            refine Eq.trans (ev_iadd (pc := 550) k_197_550 rfl) ?_
                            refine Eq.trans (ev_sld_c (pc := 551) k_197_551 rfl) (z_it1 ?_)
                            refine Eq.trans (ev_vi (pc := 552) (as := [.int (sc.2 (v3 + (1 : Int32)).toNatClampNeg), .int (sc.2 (v3 + (2 : Int32)).toNatClampNeg)]) (rest := [.int x23]) k_197_552 rfl zo_46 rfl rfl (Nat.le_of_ble_eq_true rfl) (Nat.le_of_ble_eq_true rfl)) (z_cbi fun x24 h24 => ?_)
                            refine Eq.trans (ev_iceq (pc := 555) k_197_555.1 rfl k_197_555.2) (z_ite ?_ ?_)
                            · refine Eq.trans (ev_iinc (pc := 1041) (v := 5) (lv' := [some (.ref 1300), some (.ref 0), some (.ref 46), some (.int (v3 + 5))]) k_197_1041 rfl rfl (by decide) rfl) ?_
                              refine Eq.trans (ev_goto (pc := 1044) k_197_1044.1 rfl k_197_1044.2) ?_
                              exact ev_mk kd_197_18 rfl
                            · refine Eq.trans (ev_iconst (pc := 558) (v := 0) k_197_558 rfl (by decide)) ?_
                              exact ev_ret_b1 k_197_559 rfl rt_197 (by decide)
                          · rw [if_neg e11]
                            by_cases e12 : ((sc.2 v3.toNatClampNeg) &&& (31 : Int32)) = 12
                            · rw [if_pos e12, e12]
                              refine Eq.trans (ev_sw (pc := 32) (t := 560) k_197_32 rfl ⟨rfl, rfl⟩ (z_tsI (o := 528) (by decide) (by decide) (by decide))) ?_
                              refine Eq.trans (ev_aload_n (pc := 560) (x := 0) k_197_560 rfl rfl (by decide)) ?_
                              refine Eq.trans (ev_aload_n (pc := 561) (x := 1300) k_197_561 rfl rfl (by decide)) ?_
                              refine Eq.trans (ev_iload_n (pc := 562) k_197_562 rfl rfl) ?_
                              refine Eq.trans (ev_iconst (pc := 563) (v := 1) k_197_563 rfl (by decide)) ?_
                              refine Eq.trans (ev_iadd (pc := 564) k_197_564 rfl) ?_
                              refine Eq.trans (ev_sld_c (pc := 565) k_197_565 rfl) (z_it1 ?_)
                              refine Eq.trans (ev_aload_n (pc := 566) (x := 1300) k_197_566 rfl rfl (by decide)) ?_
                              refine Eq.trans (ev_iload_n (pc := 567) k_197_567 rfl rfl) ?_
                              refine Eq.trans (ev_iconst (pc := 568) (v := 2) k_197_568 rfl (by decide)) ?_
                              refine Eq.trans (ev_iadd (pc := 569) k_197_569 rfl) ?_
                              refine Eq.trans (ev_sld_c (pc := 570) k_197_570 rfl) (z_it1 ?_)
                              refine Eq.trans (ev_aload_n (pc := 571) (x := 1300) k_197_571 rfl rfl (by decide)) ?_
                              refine Eq.trans (ev_iload_n (pc := 572) k_197_572 rfl rfl) ?_
                              refine Eq.trans (ev_iconst (pc := 573) (v := 3) k_197_573 rfl (by decide)) ?_
                              refine Eq.trans (ev_iadd (pc := 574) k_197_574 rfl) ?_
                              refine Eq.trans (ev_sld_c (pc := 575) k_197_575 rfl) (z_it1 ?_)
                              refine Eq.trans (ev_aload_n (pc := 576) (x := 1300) k_197_576 rfl rfl (by decide)) ?_
                              refine Eq.trans (ev_iload_n (pc := 577) k_197_577 rfl rfl) ?_
                              refine Eq.trans (ev_iconst (pc := 578) (v := 4) k_197_578 rfl (by decide)) ?_
                              refine Eq.trans (ev_iadd (pc := 579) k_197_579 rfl) ?_
                              refine Eq.trans (ev_sld_c (pc := 580) k_197_580 rfl) (z_it1 ?_)
                              refine Eq.trans (ev_vi (pc := 581) (as := [.int (sc.2 (v3 + (1 : Int32)).toNatClampNeg), .int (sc.2 (v3 + (2 : Int32)).toNatClampNeg), .int (sc.2 (v3 + (3 : Int32)).toNatClampNeg), .int (sc.2 (v3 + (4 : Int32)).toNatClampNeg)]) (rest := []) k_197_581 rfl zo_0 rfl rfl (Nat.le_of_ble_eq_true rfl) (Nat.le_of_ble_eq_true rfl)) (z_cbi fun x25 h25 => ?_)
                              refine Eq.trans (ev_aload_n (pc := 584) (x := 46) k_197_584 rfl rfl (by decide)) ?_
                              refine Eq.trans (ev_aload_n (pc := 585) (x := 1300) k_197_585 rfl rfl (by decide)) ?_
                              refine Eq.trans (ev_iload_n (pc := 586) k_197_586 rfl rfl) ?_
                              refine Eq.trans (ev_iconst (pc := 587) (v := 1) k_197_587 rfl (by decide)) ?_
                              refine Eq.trans (ev_iadd (pc := 588) k_197_588 rfl) ?_
                              refine Eq.trans (ev_sld_c (pc := 589) k_197_589 rfl) (z_it1 ?_)
                              refine Eq.trans (ev_aload_n (pc := 590) (x := 1300) k_197_590 rfl rfl (by decide)) ?_
                              refine Eq.trans (ev_iload_n (pc := 591) k_197_591 rfl rfl) ?_
                              refine Eq.trans (ev_iconst (pc := 592) (v := 2) k_197_592 rfl (by decide)) ?_
                              refine Eq.trans (ev_iadd (pc := 593) k_197_593 rfl) ?_
                              refine Eq.trans (ev_sld_c (pc := 594) k_197_594 rfl) (z_it1 ?_)
                              refine Eq.trans (ev_aload_n (pc := 595) (x := 1300) k_197_595 rfl rfl (by decide)) ?_
                              refine Eq.trans (ev_iload_n (pc := 596) k_197_596 rfl rfl) ?_
                              refine Eq.trans (ev_iconst (pc := 597) (v := 3) k_197_597 rfl (by decide)) ?_
                              refine Eq.trans (ev_iadd (pc := 598) k_197_598 rfl) ?_
                              refine Eq.trans (ev_sld_c (pc := 599) k_197_599 rfl) (z_it1 ?_)
                              refine Eq.trans (ev_aload_n (pc := 600) (x := 1300) k_197_600 rfl rfl (by decide)) ?_
                              refine Eq.trans (ev_iload_n (pc := 601) k_197_601 rfl rfl) ?_
                              refine Eq.trans (ev_iconst (pc := 602) (v := 4) k_197_602 rfl (by decide)) ?_
                              refine Eq.trans (ev_iadd (pc := 603) k_197_603 rfl) ?_
                              refine Eq.trans (ev_sld_c (pc := 604) k_197_604 rfl) (z_it1 ?_)
                              refine Eq.trans (ev_vi (pc := 605) (as := [.int (sc.2 (v3 + (1 : Int32)).toNatClampNeg), .int (sc.2 (v3 + (2 : Int32)).toNatClampNeg), .int (sc.2 (v3 + (3 : Int32)).toNatClampNeg), .int (sc.2 (v3 + (4 : Int32)).toNatClampNeg)]) (rest := [.int x25]) k_197_605 rfl zo_46 rfl rfl (Nat.le_of_ble_eq_true rfl) (Nat.le_of_ble_eq_true rfl)) (z_cbi fun x26 h26 => ?_)
                              refine Eq.trans (ev_iceq (pc := 608) k_197_608.1 rfl k_197_608.2) (z_ite ?_ ?_)
                              · refine Eq.trans (ev_iinc (pc := 1041) (v := 5) (lv' := [some (.ref 1300), some (.ref 0), some (.ref 46), some (.int (v3 + 5))]) k_197_1041 rfl rfl (by decide) rfl) ?_
                                refine Eq.trans (ev_goto (pc := 1044) k_197_1044.1 rfl k_197_1044.2) ?_
                                exact ev_mk kd_197_18 rfl
                              · refine Eq.trans (ev_iconst (pc := 611) (v := 0) k_197_611 rfl (by decide)) ?_
                                exact ev_ret_b1 k_197_612 rfl rt_197 (by decide)
                            · rw [if_neg e12]
                              by_cases e13 : ((sc.2 v3.toNatClampNeg) &&& (31 : Int32)) = 13
                              · rw [if_pos e13, e13]
                                refine Eq.trans (ev_sw (pc := 32) (t := 613) k_197_32 rfl ⟨rfl, rfl⟩ (z_tsI (o := 581) (by decide) (by decide) (by decide))) ?_
                                refine Eq.trans (ev_aload_n (pc := 613) (x := 0) k_197_613 rfl rfl (by decide)) ?_
                                refine Eq.trans (ev_aload_n (pc := 614) (x := 1300) k_197_614 rfl rfl (by decide)) ?_
                                refine Eq.trans (ev_iload_n (pc := 615) k_197_615 rfl rfl) ?_
                                refine Eq.trans (ev_iconst (pc := 616) (v := 1) k_197_616 rfl (by decide)) ?_
                                refine Eq.trans (ev_iadd (pc := 617) k_197_617 rfl) ?_
                                refine Eq.trans (ev_sld_c (pc := 618) k_197_618 rfl) (z_it1 ?_)
                                refine Eq.trans (ev_aload_n (pc := 619) (x := 1300) k_197_619 rfl rfl (by decide)) ?_
                                refine Eq.trans (ev_iload_n (pc := 620) k_197_620 rfl rfl) ?_
                                refine Eq.trans (ev_iconst (pc := 621) (v := 2) k_197_621 rfl (by decide)) ?_
                                refine Eq.trans (ev_iadd (pc := 622) k_197_622 rfl) ?_
                                refine Eq.trans (ev_sld_c (pc := 623) k_197_623 rfl) (z_it1 ?_)
                                refine Eq.trans (ev_vi (pc := 624) (as := [.int (sc.2 (v3 + (1 : Int32)).toNatClampNeg), .int (sc.2 (v3 + (2 : Int32)).toNatClampNeg)]) (rest := []) k_197_624 rfl zo_0 rfl rfl (Nat.le_of_ble_eq_true rfl) (Nat.le_of_ble_eq_true rfl)) (z_cbi fun x27 h27 => ?_)
                                refine Eq.trans (ev_aload_n (pc := 627) (x := 46) k_197_627 rfl rfl (by decide)) ?_
                                refine Eq.trans (ev_aload_n (pc := 628) (x := 1300) k_197_628 rfl rfl (by decide)) ?_
                                refine Eq.trans (ev_iload_n (pc := 629) k_197_629 rfl rfl) ?_
                                refine Eq.trans (ev_iconst (pc := 630) (v := 1) k_197_630 rfl (by decide)) ?_
                                refine Eq.trans (ev_iadd (pc := 631) k_197_631 rfl) ?_
                                refine Eq.trans (ev_sld_c (pc := 632) k_197_632 rfl) (z_it1 ?_)
                                refine Eq.trans (ev_aload_n (pc := 633) (x := 1300) k_197_633 rfl rfl (by decide)) ?_
                                refine Eq.trans (ev_iload_n (pc := 634) k_197_634 rfl rfl) ?_
                                refine Eq.trans (ev_iconst (pc := 635) (v := 2) k_197_635 rfl (by decide)) ?_
                                refine Eq.trans (ev_iadd (pc := 636) k_197_636 rfl) ?_
                                refine Eq.trans (ev_sld_c (pc := 637) k_197_637 rfl) (z_it1 ?_)
                                refine Eq.trans (ev_vi (pc := 638) (as := [.int (sc.2 (v3 + (1 : Int32)).toNatClampNeg), .int (sc.2 (v3 + (2 : Int32)).toNatClampNeg)]) (rest := [.int x27]) k_197_638 rfl zo_46 rfl rfl (Nat.le_of_ble_eq_true rfl) (Nat.le_of_ble_eq_true rfl)) (z_cbi fun x28 h28 => ?_)
                                refine Eq.trans (ev_iceq (pc := 641) k_197_641.1 rfl k_197_641.2) (z_ite ?_ ?_)
                                · refine Eq.trans (ev_iinc (pc := 1041) (v := 5) (lv' := [some (.ref 1300), some (.ref 0), some (.ref 46), some (.int (v3 + 5))]) k_197_1041 rfl rfl (by decide) rfl) ?_
                                  refine Eq.trans (ev_goto (pc := 1044) k_197_1044.1 rfl k_197_1044.2) ?_
                                  exact ev_mk kd_197_18 rfl
                                · refine Eq.trans (ev_iconst (pc := 644) (v := 0) k_197_644 rfl (by decide)) ?_
                                  exact ev_ret_b1 k_197_645 rfl rt_197 (by decide)
                              · rw [if_neg e13]
                                by_cases e14 : ((sc.2 v3.toNatClampNeg) &&& (31 : Int32)) = 14
                                · rw [if_pos e14, e14]
                                  refine Eq.trans (ev_sw (pc := 32) (t := 646) k_197_32 rfl ⟨rfl, rfl⟩ (z_tsI (o := 614) (by decide) (by decide) (by decide))) ?_
                                  refine Eq.trans (ev_aload_n (pc := 646) (x := 0) k_197_646 rfl rfl (by decide)) ?_
                                  refine Eq.trans (ev_vi (pc := 647) (as := []) (rest := []) k_197_647 rfl zo_0 rfl rfl (Nat.le_of_ble_eq_true rfl) (Nat.le_of_ble_eq_true rfl)) (z_cbi fun x29 h29 => ?_)
                                  refine Eq.trans (ev_aload_n (pc := 650) (x := 46) k_197_650 rfl rfl (by decide)) ?_
                                  refine Eq.trans (ev_vi (pc := 651) (as := []) (rest := [.int x29]) k_197_651 rfl zo_46 rfl rfl (Nat.le_of_ble_eq_true rfl) (Nat.le_of_ble_eq_true rfl)) (z_cbi fun x30 h30 => ?_)
                                  refine Eq.trans (ev_iceq (pc := 654) k_197_654.1 rfl k_197_654.2) (z_ite ?_ ?_)
                                  · refine Eq.trans (ev_iinc (pc := 1041) (v := 5) (lv' := [some (.ref 1300), some (.ref 0), some (.ref 46), some (.int (v3 + 5))]) k_197_1041 rfl rfl (by decide) rfl) ?_
                                    refine Eq.trans (ev_goto (pc := 1044) k_197_1044.1 rfl k_197_1044.2) ?_
                                    exact ev_mk kd_197_18 rfl
                                  · refine Eq.trans (ev_iconst (pc := 657) (v := 0) k_197_657 rfl (by decide)) ?_
                                    exact ev_ret_b1 k_197_658 rfl rt_197 (by decide)
                                · rw [if_neg e14]
                                  by_cases e15 : ((sc.2 v3.toNatClampNeg) &&& (31 : Int32)) = 15
                                  · rw [if_pos e15, e15]
                                    refine Eq.trans (ev_sw (pc := 32) (t := 659) k_197_32 rfl ⟨rfl, rfl⟩ (z_tsI (o := 627) (by decide) (by decide) (by decide))) ?_
                                    refine Eq.trans (ev_aload_n (pc := 659) (x := 0) k_197_659 rfl rfl (by decide)) ?_
                                    refine Eq.trans (ev_aload_n (pc := 660) (x := 1300) k_197_660 rfl rfl (by decide)) ?_
                                    refine Eq.trans (ev_iload_n (pc := 661) k_197_661 rfl rfl) ?_
                                    refine Eq.trans (ev_iconst (pc := 662) (v := 1) k_197_662 rfl (by decide)) ?_
                                    refine Eq.trans (ev_iadd (pc := 663) k_197_663 rfl) ?_
                                    refine Eq.trans (ev_sld_c (pc := 664) k_197_664 rfl) (z_it1 ?_)
                                    refine Eq.trans (ev_vi (pc := 665) (as := [.int (sc.2 (v3 + (1 : Int32)).toNatClampNeg)]) (rest := []) k_197_665 rfl zo_0 rfl rfl (Nat.le_of_ble_eq_true rfl) (Nat.le_of_ble_eq_true rfl)) (z_cbi fun x31 h31 => ?_)
                                    refine Eq.trans (ev_aload_n (pc := 668) (x := 46) k_197_668 rfl rfl (by decide)) ?_
                                    refine Eq.trans (ev_aload_n (pc := 669) (x := 1300) k_197_669 rfl rfl (by decide)) ?_
                                    refine Eq.trans (ev_iload_n (pc := 670) k_197_670 rfl rfl) ?_
                                    refine Eq.trans (ev_iconst (pc := 671) (v := 1) k_197_671 rfl (by decide)) ?_
                                    refine Eq.trans (ev_iadd (pc := 672) k_197_672 rfl) ?_
                                    refine Eq.trans (ev_sld_c (pc := 673) k_197_673 rfl) (z_it1 ?_)
                                    refine Eq.trans (ev_vi (pc := 674) (as := [.int (sc.2 (v3 + (1 : Int32)).toNatClampNeg)]) (rest := [.int x31]) k_197_674 rfl zo_46 rfl rfl (Nat.le_of_ble_eq_true rfl) (Nat.le_of_ble_eq_true rfl)) (z_cbi fun x32 h32 => ?_)
                                    refine Eq.trans (ev_iceq (pc := 677) k_197_677.1 rfl k_197_677.2) (z_ite ?_ ?_)
                                    · refine Eq.trans (ev_iinc (pc := 1041) (v := 5) (lv' := [some (.ref 1300), some (.ref 0), some (.ref 46), some (.int (v3 + 5))]) k_197_1041 rfl rfl (by decide) rfl) ?_
                                      refine Eq.trans (ev_goto (pc := 1044) k_197_1044.1 rfl k_197_1044.2) ?_
                                      exact ev_mk kd_197_18 rfl
                                    · refine Eq.trans (ev_iconst (pc := 680) (v := 0) k_197_680 rfl (by decide)) ?_
                                      exact ev_ret_b1 k_197_681 rfl rt_197 (by decide)
                                  · rw [if_neg e15]
                                    by_cases e16 : ((sc.2 v3.toNatClampNeg) &&& (31 : Int32)) = 16
                                    · rw [if_pos e16, e16]
                                      refine Eq.trans (ev_sw (pc := 32) (t := 682) k_197_32 rfl ⟨rfl, rfl⟩ (z_tsI (o := 650) (by decide) (by decide) (by decide))) ?_
                                      refine Eq.trans (ev_aload_n (pc := 682) (x := 0) k_197_682 rfl rfl (by decide)) ?_
                                      refine Eq.trans (ev_aload_n (pc := 683) (x := 1300) k_197_683 rfl rfl (by decide)) ?_
                                      refine Eq.trans (ev_iload_n (pc := 684) k_197_684 rfl rfl) ?_
                                      refine Eq.trans (ev_iconst (pc := 685) (v := 1) k_197_685 rfl (by decide)) ?_
                                      refine Eq.trans (ev_iadd (pc := 686) k_197_686 rfl) ?_
                                      refine Eq.trans (ev_sld_c (pc := 687) k_197_687 rfl) (z_it1 ?_)
                                      refine Eq.trans (ev_aload_n (pc := 688) (x := 1300) k_197_688 rfl rfl (by decide)) ?_
                                      refine Eq.trans (ev_iload_n (pc := 689) k_197_689 rfl rfl) ?_
                                      refine Eq.trans (ev_iconst (pc := 690) (v := 2) k_197_690 rfl (by decide)) ?_
                                      refine Eq.trans (ev_iadd (pc := 691) k_197_691 rfl) ?_
                                      refine Eq.trans (ev_sld_c (pc := 692) k_197_692 rfl) (z_it1 ?_)
                                      refine Eq.trans (ev_aload_n (pc := 693) (x := 1300) k_197_693 rfl rfl (by decide)) ?_
                                      refine Eq.trans (ev_iload_n (pc := 694) k_197_694 rfl rfl) ?_
                                      refine Eq.trans (ev_iconst (pc := 695) (v := 3) k_197_695 rfl (by decide)) ?_
                                      refine Eq.trans (ev_iadd (pc := 696) k_197_696 rfl) ?_
                                      refine Eq.trans (ev_sld_c (pc := 697) k_197_697 rfl) (z_it1 ?_)
                                      refine Eq.trans (ev_vi (pc := 698) (as := [.int (sc.2 (v3 + (1 : Int32)).toNatClampNeg), .int (sc.2 (v3 + (2 : Int32)).toNatClampNeg), .int (sc.2 (v3 + (3 : Int32)).toNatClampNeg)]) (rest := []) k_197_698 rfl zo_0 rfl rfl (Nat.le_of_ble_eq_true rfl) (Nat.le_of_ble_eq_true rfl)) (z_cbi fun x33 h33 => ?_)
                                      refine Eq.trans (ev_aload_n (pc := 701) (x := 46) k_197_701 rfl rfl (by decide)) ?_
                                      refine Eq.trans (ev_aload_n (pc := 702) (x := 1300) k_197_702 rfl rfl (by decide)) ?_
                                      refine Eq.trans (ev_iload_n (pc := 703) k_197_703 rfl rfl) ?_
                                      refine Eq.trans (ev_iconst (pc := 704) (v := 1) k_197_704 rfl (by decide)) ?_
                                      refine Eq.trans (ev_iadd (pc := 705) k_197_705 rfl) ?_
                                      refine Eq.trans (ev_sld_c (pc := 706) k_197_706 rfl) (z_it1 ?_)
                                      refine Eq.trans (ev_aload_n (pc := 707) (x := 1300) k_197_707 rfl rfl (by decide)) ?_
                                      refine Eq.trans (ev_iload_n (pc := 708) k_197_708 rfl rfl) ?_
                                      refine Eq.trans (ev_iconst (pc := 709) (v := 2) k_197_709 rfl (by decide)) ?_
                                      refine Eq.trans (ev_iadd (pc := 710) k_197_710 rfl) ?_
                                      refine Eq.trans (ev_sld_c (pc := 711) k_197_711 rfl) (z_it1 ?_)
                                      refine Eq.trans (ev_aload_n (pc := 712) (x := 1300) k_197_712 rfl rfl (by decide)) ?_
                                      refine Eq.trans (ev_iload_n (pc := 713) k_197_713 rfl rfl) ?_
                                      refine Eq.trans (ev_iconst (pc := 714) (v := 3) k_197_714 rfl (by decide)) ?_
                                      refine Eq.trans (ev_iadd (pc := 715) k_197_715 rfl) ?_
                                      refine Eq.trans (ev_sld_c (pc := 716) k_197_716 rfl) (z_it1 ?_)
                                      refine Eq.trans (ev_vi (pc := 717) (as := [.int (sc.2 (v3 + (1 : Int32)).toNatClampNeg), .int (sc.2 (v3 + (2 : Int32)).toNatClampNeg), .int (sc.2 (v3 + (3 : Int32)).toNatClampNeg)]) (rest := [.int x33]) k_197_717 rfl zo_46 rfl rfl (Nat.le_of_ble_eq_true rfl) (Nat.le_of_ble_eq_true rfl)) (z_cbi fun x34 h34 => ?_)
                                      refine Eq.trans (ev_iceq (pc := 720) k_197_720.1 rfl k_197_720.2) (z_ite ?_ ?_)
                                      · refine Eq.trans (ev_iinc (pc := 1041) (v := 5) (lv' := [some (.ref 1300), some (.ref 0), some (.ref 46), some (.int (v3 + 5))]) k_197_1041 rfl rfl (by decide) rfl) ?_
                                        refine Eq.trans (ev_goto (pc := 1044) k_197_1044.1 rfl k_197_1044.2) ?_
                                        exact ev_mk kd_197_18 rfl
                                      · refine Eq.trans (ev_iconst (pc := 723) (v := 0) k_197_723 rfl (by decide)) ?_
                                        exact ev_ret_b1 k_197_724 rfl rt_197 (by decide)
                                    · rw [if_neg e16]
                                      by_cases e17 : ((sc.2 v3.toNatClampNeg) &&& (31 : Int32)) = 17
                                      · rw [if_pos e17, e17]
                                        refine Eq.trans (ev_sw (pc := 32) (t := 725) k_197_32 rfl ⟨rfl, rfl⟩ (z_tsI (o := 693) (by decide) (by decide) (by decide))) ?_
                                        refine Eq.trans (ev_aload_n (pc := 725) (x := 0) k_197_725 rfl rfl (by decide)) ?_
                                        refine Eq.trans (ev_aload_n (pc := 726) (x := 1300) k_197_726 rfl rfl (by decide)) ?_
                                        refine Eq.trans (ev_iload_n (pc := 727) k_197_727 rfl rfl) ?_
                                        refine Eq.trans (ev_iconst (pc := 728) (v := 1) k_197_728 rfl (by decide)) ?_
                                        refine Eq.trans (ev_iadd (pc := 729) k_197_729 rfl) ?_
                                        refine Eq.trans (ev_sld_c (pc := 730) k_197_730 rfl) (z_it1 ?_)
                                        refine Eq.trans (ev_vi (pc := 731) (as := [.int (sc.2 (v3 + (1 : Int32)).toNatClampNeg)]) (rest := []) k_197_731 rfl zo_0 rfl rfl (Nat.le_of_ble_eq_true rfl) (Nat.le_of_ble_eq_true rfl)) (z_cbi fun x35 h35 => ?_)
                                        refine Eq.trans (ev_aload_n (pc := 734) (x := 46) k_197_734 rfl rfl (by decide)) ?_
                                        refine Eq.trans (ev_aload_n (pc := 735) (x := 1300) k_197_735 rfl rfl (by decide)) ?_
                                        refine Eq.trans (ev_iload_n (pc := 736) k_197_736 rfl rfl) ?_
                                        refine Eq.trans (ev_iconst (pc := 737) (v := 1) k_197_737 rfl (by decide)) ?_
                                        refine Eq.trans (ev_iadd (pc := 738) k_197_738 rfl) ?_
                                        refine Eq.trans (ev_sld_c (pc := 739) k_197_739 rfl) (z_it1 ?_)
                                        refine Eq.trans (ev_vi (pc := 740) (as := [.int (sc.2 (v3 + (1 : Int32)).toNatClampNeg)]) (rest := [.int x35]) k_197_740 rfl zo_46 rfl rfl (Nat.le_of_ble_eq_true rfl) (Nat.le_of_ble_eq_true rfl)) (z_cbi fun x36 h36 => ?_)
                                        refine Eq.trans (ev_iceq (pc := 743) k_197_743.1 rfl k_197_743.2) (z_ite ?_ ?_)
                                        · refine Eq.trans (ev_iinc (pc := 1041) (v := 5) (lv' := [some (.ref 1300), some (.ref 0), some (.ref 46), some (.int (v3 + 5))]) k_197_1041 rfl rfl (by decide) rfl) ?_
                                          refine Eq.trans (ev_goto (pc := 1044) k_197_1044.1 rfl k_197_1044.2) ?_
                                          exact ev_mk kd_197_18 rfl
                                        · refine Eq.trans (ev_iconst (pc := 746) (v := 0) k_197_746 rfl (by decide)) ?_
                                          exact ev_ret_b1 k_197_747 rfl rt_197 (by decide)
                                      · rw [if_neg e17]
                                        by_cases e18 : ((sc.2 v3.toNatClampNeg) &&& (31 : Int32)) = 18
                                        · rw [if_pos e18, e18]
                                          refine Eq.trans (ev_sw (pc := 32) (t := 748) k_197_32 rfl ⟨rfl, rfl⟩ (z_tsI (o := 716) (by decide) (by decide) (by decide))) ?_
                                          refine Eq.trans (ev_aload_n (pc := 748) (x := 0) k_197_748 rfl rfl (by decide)) ?_
                                          refine Eq.trans (ev_aload_n (pc := 749) (x := 1300) k_197_749 rfl rfl (by decide)) ?_
                                          refine Eq.trans (ev_iload_n (pc := 750) k_197_750 rfl rfl) ?_
                                          refine Eq.trans (ev_iconst (pc := 751) (v := 1) k_197_751 rfl (by decide)) ?_
                                          refine Eq.trans (ev_iadd (pc := 752) k_197_752 rfl) ?_
                                          refine Eq.trans (ev_sld_c (pc := 753) k_197_753 rfl) (z_it1 ?_)
                                          refine Eq.trans (ev_aload_n (pc := 754) (x := 1300) k_197_754 rfl rfl (by decide)) ?_
                                          refine Eq.trans (ev_iload_n (pc := 755) k_197_755 rfl rfl) ?_
                                          refine Eq.trans (ev_iconst (pc := 756) (v := 2) k_197_756 rfl (by decide)) ?_
                                          refine Eq.trans (ev_iadd (pc := 757) k_197_757 rfl) ?_
                                          refine Eq.trans (ev_sld_c (pc := 758) k_197_758 rfl) (z_it1 ?_)
                                          refine Eq.trans (ev_aload_n (pc := 759) (x := 1300) k_197_759 rfl rfl (by decide)) ?_
                                          refine Eq.trans (ev_iload_n (pc := 760) k_197_760 rfl rfl) ?_
                                          refine Eq.trans (ev_iconst (pc := 761) (v := 3) k_197_761 rfl (by decide)) ?_
                                          refine Eq.trans (ev_iadd (pc := 762) k_197_762 rfl) ?_
                                          refine Eq.trans (ev_sld_c (pc := 763) k_197_763 rfl) (z_it1 ?_)
                                          refine Eq.trans (ev_vi (pc := 764) (as := [.int (sc.2 (v3 + (1 : Int32)).toNatClampNeg), .int (sc.2 (v3 + (2 : Int32)).toNatClampNeg), .int (sc.2 (v3 + (3 : Int32)).toNatClampNeg)]) (rest := []) k_197_764 rfl zo_0 rfl rfl (Nat.le_of_ble_eq_true rfl) (Nat.le_of_ble_eq_true rfl)) (z_cbi fun x37 h37 => ?_)
                                          refine Eq.trans (ev_aload_n (pc := 767) (x := 46) k_197_767 rfl rfl (by decide)) ?_
                                          refine Eq.trans (ev_aload_n (pc := 768) (x := 1300) k_197_768 rfl rfl (by decide)) ?_
                                          refine Eq.trans (ev_iload_n (pc := 769) k_197_769 rfl rfl) ?_
                                          refine Eq.trans (ev_iconst (pc := 770) (v := 1) k_197_770 rfl (by decide)) ?_
                                          refine Eq.trans (ev_iadd (pc := 771) k_197_771 rfl) ?_
                                          refine Eq.trans (ev_sld_c (pc := 772) k_197_772 rfl) (z_it1 ?_)
                                          refine Eq.trans (ev_aload_n (pc := 773) (x := 1300) k_197_773 rfl rfl (by decide)) ?_
                                          refine Eq.trans (ev_iload_n (pc := 774) k_197_774 rfl rfl) ?_
                                          refine Eq.trans (ev_iconst (pc := 775) (v := 2) k_197_775 rfl (by decide)) ?_
                                          refine Eq.trans (ev_iadd (pc := 776) k_197_776 rfl) ?_
                                          refine Eq.trans (ev_sld_c (pc := 777) k_197_777 rfl) (z_it1 ?_)
                                          refine Eq.trans (ev_aload_n (pc := 778) (x := 1300) k_197_778 rfl rfl (by decide)) ?_
                                          refine Eq.trans (ev_iload_n (pc := 779) k_197_779 rfl rfl) ?_
                                          refine Eq.trans (ev_iconst (pc := 780) (v := 3) k_197_780 rfl (by decide)) ?_
                                          refine Eq.trans (ev_iadd (pc := 781) k_197_781 rfl) ?_
                                          refine Eq.trans (ev_sld_c (pc := 782) k_197_782 rfl) (z_it1 ?_)
                                          refine Eq.trans (ev_vi (pc := 783) (as := [.int (sc.2 (v3 + (1 : Int32)).toNatClampNeg), .int (sc.2 (v3 + (2 : Int32)).toNatClampNeg), .int (sc.2 (v3 + (3 : Int32)).toNatClampNeg)]) (rest := [.int x37]) k_197_783 rfl zo_46 rfl rfl (Nat.le_of_ble_eq_true rfl) (Nat.le_of_ble_eq_true rfl)) (z_cbi fun x38 h38 => ?_)
                                          refine Eq.trans (ev_iceq (pc := 786) k_197_786.1 rfl k_197_786.2) (z_ite ?_ ?_)
                                          · refine Eq.trans (ev_iinc (pc := 1041) (v := 5) (lv' := [some (.ref 1300), some (.ref 0), some (.ref 46), some (.int (v3 + 5))]) k_197_1041 rfl rfl (by decide) rfl) ?_
                                            refine Eq.trans (ev_goto (pc := 1044) k_197_1044.1 rfl k_197_1044.2) ?_
                                            exact ev_mk kd_197_18 rfl
                                          · refine Eq.trans (ev_iconst (pc := 789) (v := 0) k_197_789 rfl (by decide)) ?_
                                            exact ev_ret_b1 k_197_790 rfl rt_197 (by decide)
                                        · rw [if_neg e18]
                                          by_cases e19 : ((sc.2 v3.toNatClampNeg) &&& (31 : Int32)) = 19
                                          · rw [if_pos e19, e19]
                                            refine Eq.trans (ev_sw (pc := 32) (t := 791) k_197_32 rfl ⟨rfl, rfl⟩ (z_tsI (o := 759) (by decide) (by decide) (by decide))) ?_
                                            refine Eq.trans (ev_aload_n (pc := 791) (x := 0) k_197_791 rfl rfl (by decide)) ?_
                                            refine Eq.trans (ev_aload_n (pc := 792) (x := 1300) k_197_792 rfl rfl (by decide)) ?_
                                            refine Eq.trans (ev_iload_n (pc := 793) k_197_793 rfl rfl) ?_
                                            refine Eq.trans (ev_iconst (pc := 794) (v := 1) k_197_794 rfl (by decide)) ?_
                                            refine Eq.trans (ev_iadd (pc := 795) k_197_795 rfl) ?_
                                            refine Eq.trans (ev_sld_c (pc := 796) k_197_796 rfl) (z_it1 ?_)
                                            refine Eq.trans (ev_aload_n (pc := 797) (x := 1300) k_197_797 rfl rfl (by decide)) ?_
                                            refine Eq.trans (ev_iload_n (pc := 798) k_197_798 rfl rfl) ?_
                                            refine Eq.trans (ev_iconst (pc := 799) (v := 2) k_197_799 rfl (by decide)) ?_
                                            refine Eq.trans (ev_iadd (pc := 800) k_197_800 rfl) ?_
                                            refine Eq.trans (ev_sld_c (pc := 801) k_197_801 rfl) (z_it1 ?_)
                                            refine Eq.trans (ev_vi (pc := 802) (as := [.int (sc.2 (v3 + (1 : Int32)).toNatClampNeg), .int (sc.2 (v3 + (2 : Int32)).toNatClampNeg)]) (rest := []) k_197_802 rfl zo_0 rfl rfl (Nat.le_of_ble_eq_true rfl) (Nat.le_of_ble_eq_true rfl)) (z_cbi fun x39 h39 => ?_)
                                            refine Eq.trans (ev_aload_n (pc := 805) (x := 46) k_197_805 rfl rfl (by decide)) ?_
                                            refine Eq.trans (ev_aload_n (pc := 806) (x := 1300) k_197_806 rfl rfl (by decide)) ?_
                                            refine Eq.trans (ev_iload_n (pc := 807) k_197_807 rfl rfl) ?_
                                            refine Eq.trans (ev_iconst (pc := 808) (v := 1) k_197_808 rfl (by decide)) ?_
                                            refine Eq.trans (ev_iadd (pc := 809) k_197_809 rfl) ?_
                                            refine Eq.trans (ev_sld_c (pc := 810) k_197_810 rfl) (z_it1 ?_)
                                            refine Eq.trans (ev_aload_n (pc := 811) (x := 1300) k_197_811 rfl rfl (by decide)) ?_
                                            refine Eq.trans (ev_iload_n (pc := 812) k_197_812 rfl rfl) ?_
                                            refine Eq.trans (ev_iconst (pc := 813) (v := 2) k_197_813 rfl (by decide)) ?_
                                            refine Eq.trans (ev_iadd (pc := 814) k_197_814 rfl) ?_
                                            refine Eq.trans (ev_sld_c (pc := 815) k_197_815 rfl) (z_it1 ?_)
                                            refine Eq.trans (ev_vi (pc := 816) (as := [.int (sc.2 (v3 + (1 : Int32)).toNatClampNeg), .int (sc.2 (v3 + (2 : Int32)).toNatClampNeg)]) (rest := [.int x39]) k_197_816 rfl zo_46 rfl rfl (Nat.le_of_ble_eq_true rfl) (Nat.le_of_ble_eq_true rfl)) (z_cbi fun x40 h40 => ?_)
                                            refine Eq.trans (ev_iceq (pc := 819) k_197_819.1 rfl k_197_819.2) (z_ite ?_ ?_)
                                            · refine Eq.trans (ev_iinc (pc := 1041) (v := 5) (lv' := [some (.ref 1300), some (.ref 0), some (.ref 46), some (.int (v3 + 5))]) k_197_1041 rfl rfl (by decide) rfl) ?_
                                              refine Eq.trans (ev_goto (pc := 1044) k_197_1044.1 rfl k_197_1044.2) ?_
                                              exact ev_mk kd_197_18 rfl
                                            · refine Eq.trans (ev_iconst (pc := 822) (v := 0) k_197_822 rfl (by decide)) ?_
                                              exact ev_ret_b1 k_197_823 rfl rt_197 (by decide)
                                          · rw [if_neg e19]
                                            by_cases e20 : ((sc.2 v3.toNatClampNeg) &&& (31 : Int32)) = 20
                                            · rw [if_pos e20, e20]
                                              refine Eq.trans (ev_sw (pc := 32) (t := 824) k_197_32 rfl ⟨rfl, rfl⟩ (z_tsI (o := 792) (by decide) (by decide) (by decide))) ?_
                                              refine Eq.trans (ev_aload_n (pc := 824) (x := 0) k_197_824 rfl rfl (by decide)) ?_
                                              refine Eq.trans (ev_vi (pc := 825) (as := []) (rest := []) k_197_825 rfl zo_0 rfl rfl (Nat.le_of_ble_eq_true rfl) (Nat.le_of_ble_eq_true rfl)) (z_cbi fun x41 h41 => ?_)
                                              refine Eq.trans (ev_aload_n (pc := 828) (x := 46) k_197_828 rfl rfl (by decide)) ?_
                                              refine Eq.trans (ev_vi (pc := 829) (as := []) (rest := [.int x41]) k_197_829 rfl zo_46 rfl rfl (Nat.le_of_ble_eq_true rfl) (Nat.le_of_ble_eq_true rfl)) (z_cbi fun x42 h42 => ?_)
                                              refine Eq.trans (ev_iceq (pc := 832) k_197_832.1 rfl k_197_832.2) (z_ite ?_ ?_)
                                              · refine Eq.trans (ev_iinc (pc := 1041) (v := 5) (lv' := [some (.ref 1300), some (.ref 0), some (.ref 46), some (.int (v3 + 5))]) k_197_1041 rfl rfl (by decide) rfl) ?_
                                                refine Eq.trans (ev_goto (pc := 1044) k_197_1044.1 rfl k_197_1044.2) ?_
                                                exact ev_mk kd_197_18 rfl
                                              · refine Eq.trans (ev_iconst (pc := 835) (v := 0) k_197_835 rfl (by decide)) ?_
                                                exact ev_ret_b1 k_197_836 rfl rt_197 (by decide)
                                            · rw [if_neg e20]
                                              by_cases e21 : ((sc.2 v3.toNatClampNeg) &&& (31 : Int32)) = 21
                                              · rw [if_pos e21, e21]
                                                refine Eq.trans (ev_sw (pc := 32) (t := 837) k_197_32 rfl ⟨rfl, rfl⟩ (z_tsI (o := 805) (by decide) (by decide) (by decide))) ?_
                                                refine Eq.trans (ev_aload_n (pc := 837) (x := 0) k_197_837 rfl rfl (by decide)) ?_
                                                refine Eq.trans (ev_aload_n (pc := 838) (x := 1300) k_197_838 rfl rfl (by decide)) ?_
                                                refine Eq.trans (ev_iload_n (pc := 839) k_197_839 rfl rfl) ?_
                                                refine Eq.trans (ev_iconst (pc := 840) (v := 1) k_197_840 rfl (by decide)) ?_
                                                refine Eq.trans (ev_iadd (pc := 841) k_197_841 rfl) ?_
                                                refine Eq.trans (ev_sld_c (pc := 842) k_197_842 rfl) (z_it1 ?_)
                                                refine Eq.trans (ev_aload_n (pc := 843) (x := 1300) k_197_843 rfl rfl (by decide)) ?_
                                                refine Eq.trans (ev_iload_n (pc := 844) k_197_844 rfl rfl) ?_
                                                refine Eq.trans (ev_iconst (pc := 845) (v := 2) k_197_845 rfl (by decide)) ?_
                                                refine Eq.trans (ev_iadd (pc := 846) k_197_846 rfl) ?_
                                                refine Eq.trans (ev_sld_c (pc := 847) k_197_847 rfl) (z_it1 ?_)
                                                refine Eq.trans (ev_vi (pc := 848) (as := [.int (sc.2 (v3 + (1 : Int32)).toNatClampNeg), .int (sc.2 (v3 + (2 : Int32)).toNatClampNeg)]) (rest := []) k_197_848 rfl zo_0 rfl rfl (Nat.le_of_ble_eq_true rfl) (Nat.le_of_ble_eq_true rfl)) (z_cbi fun x43 h43 => ?_)
                                                refine Eq.trans (ev_aload_n (pc := 851) (x := 46) k_197_851 rfl rfl (by decide)) ?_
                                                refine Eq.trans (ev_aload_n (pc := 852) (x := 1300) k_197_852 rfl rfl (by decide)) ?_
                                                refine Eq.trans (ev_iload_n (pc := 853) k_197_853 rfl rfl) ?_
                                                refine Eq.trans (ev_iconst (pc := 854) (v := 1) k_197_854 rfl (by decide)) ?_
                                                refine Eq.trans (ev_iadd (pc := 855) k_197_855 rfl) ?_
                                                refine Eq.trans (ev_sld_c (pc := 856) k_197_856 rfl) (z_it1 ?_)
                                                refine Eq.trans (ev_aload_n (pc := 857) (x := 1300) k_197_857 rfl rfl (by decide)) ?_
                                                refine Eq.trans (ev_iload_n (pc := 858) k_197_858 rfl rfl) ?_
                                                refine Eq.trans (ev_iconst (pc := 859) (v := 2) k_197_859 rfl (by decide)) ?_
                                                refine Eq.trans (ev_iadd (pc := 860) k_197_860 rfl) ?_
                                                refine Eq.trans (ev_sld_c (pc := 861) k_197_861 rfl) (z_it1 ?_)
                                                refine Eq.trans (ev_vi (pc := 862) (as := [.int (sc.2 (v3 + (1 : Int32)).toNatClampNeg), .int (sc.2 (v3 + (2 : Int32)).toNatClampNeg)]) (rest := [.int x43]) k_197_862 rfl zo_46 rfl rfl (Nat.le_of_ble_eq_true rfl) (Nat.le_of_ble_eq_true rfl)) (z_cbi fun x44 h44 => ?_)
                                                refine Eq.trans (ev_iceq (pc := 865) k_197_865.1 rfl k_197_865.2) (z_ite ?_ ?_)
                                                · refine Eq.trans (ev_iinc (pc := 1041) (v := 5) (lv' := [some (.ref 1300), some (.ref 0), some (.ref 46), some (.int (v3 + 5))]) k_197_1041 rfl rfl (by decide) rfl) ?_
                                                  refine Eq.trans (ev_goto (pc := 1044) k_197_1044.1 rfl k_197_1044.2) ?_
                                                  exact ev_mk kd_197_18 rfl
                                                · refine Eq.trans (ev_iconst (pc := 868) (v := 0) k_197_868 rfl (by decide)) ?_
                                                  exact ev_ret_b1 k_197_869 rfl rt_197 (by decide)
                                              · rw [if_neg e21]
                                                by_cases e22 : ((sc.2 v3.toNatClampNeg) &&& (31 : Int32)) = 22
                                                · rw [if_pos e22, e22]
                                                  refine Eq.trans (ev_sw (pc := 32) (t := 870) k_197_32 rfl ⟨rfl, rfl⟩ (z_tsI (o := 838) (by decide) (by decide) (by decide))) ?_
                                                  refine Eq.trans (ev_aload_n (pc := 870) (x := 0) k_197_870 rfl rfl (by decide)) ?_
                                                  refine Eq.trans (ev_aload_n (pc := 871) (x := 1300) k_197_871 rfl rfl (by decide)) ?_
                                                  refine Eq.trans (ev_iload_n (pc := 872) k_197_872 rfl rfl) ?_
                                                  refine Eq.trans (ev_iconst (pc := 873) (v := 1) k_197_873 rfl (by decide)) ?_
                                                  refine Eq.trans (ev_iadd (pc := 874) k_197_874 rfl) ?_
                                                  refine Eq.trans (ev_sld_c (pc := 875) k_197_875 rfl) (z_it1 ?_)
                                                  refine Eq.trans (ev_aload_n (pc := 876) (x := 1300) k_197_876 rfl rfl (by decide)) ?_
                                                  refine Eq.trans (ev_iload_n (pc := 877) k_197_877 rfl rfl) ?_
                                                  refine Eq.trans (ev_iconst (pc := 878) (v := 2) k_197_878 rfl (by decide)) ?_
                                                  refine Eq.trans (ev_iadd (pc := 879) k_197_879 rfl) ?_
                                                  refine Eq.trans (ev_sld_c (pc := 880) k_197_880 rfl) (z_it1 ?_)
                                                  refine Eq.trans (ev_aload_n (pc := 881) (x := 1300) k_197_881 rfl rfl (by decide)) ?_
                                                  refine Eq.trans (ev_iload_n (pc := 882) k_197_882 rfl rfl) ?_
                                                  refine Eq.trans (ev_iconst (pc := 883) (v := 3) k_197_883 rfl (by decide)) ?_
                                                  refine Eq.trans (ev_iadd (pc := 884) k_197_884 rfl) ?_
                                                  refine Eq.trans (ev_sld_c (pc := 885) k_197_885 rfl) (z_it1 ?_)
                                                  refine Eq.trans (ev_vi (pc := 886) (as := [.int (sc.2 (v3 + (1 : Int32)).toNatClampNeg), .int (sc.2 (v3 + (2 : Int32)).toNatClampNeg), .int (sc.2 (v3 + (3 : Int32)).toNatClampNeg)]) (rest := []) k_197_886 rfl zo_0 rfl rfl (Nat.le_of_ble_eq_true rfl) (Nat.le_of_ble_eq_true rfl)) (z_cbi fun x45 h45 => ?_)
                                                  refine Eq.trans (ev_aload_n (pc := 889) (x := 46) k_197_889 rfl rfl (by decide)) ?_
                                                  refine Eq.trans (ev_aload_n (pc := 890) (x := 1300) k_197_890 rfl rfl (by decide)) ?_
                                                  refine Eq.trans (ev_iload_n (pc := 891) k_197_891 rfl rfl) ?_
                                                  refine Eq.trans (ev_iconst (pc := 892) (v := 1) k_197_892 rfl (by decide)) ?_
                                                  refine Eq.trans (ev_iadd (pc := 893) k_197_893 rfl) ?_
                                                  refine Eq.trans (ev_sld_c (pc := 894) k_197_894 rfl) (z_it1 ?_)
                                                  refine Eq.trans (ev_aload_n (pc := 895) (x := 1300) k_197_895 rfl rfl (by decide)) ?_
                                                  refine Eq.trans (ev_iload_n (pc := 896) k_197_896 rfl rfl) ?_
                                                  refine Eq.trans (ev_iconst (pc := 897) (v := 2) k_197_897 rfl (by decide)) ?_
                                                  refine Eq.trans (ev_iadd (pc := 898) k_197_898 rfl) ?_
                                                  refine Eq.trans (ev_sld_c (pc := 899) k_197_899 rfl) (z_it1 ?_)
                                                  refine Eq.trans (ev_aload_n (pc := 900) (x := 1300) k_197_900 rfl rfl (by decide)) ?_
                                                  refine Eq.trans (ev_iload_n (pc := 901) k_197_901 rfl rfl) ?_
                                                  refine Eq.trans (ev_iconst (pc := 902) (v := 3) k_197_902 rfl (by decide)) ?_
                                                  refine Eq.trans (ev_iadd (pc := 903) k_197_903 rfl) ?_
                                                  refine Eq.trans (ev_sld_c (pc := 904) k_197_904 rfl) (z_it1 ?_)
                                                  refine Eq.trans (ev_vi (pc := 905) (as := [.int (sc.2 (v3 + (1 : Int32)).toNatClampNeg), .int (sc.2 (v3 + (2 : Int32)).toNatClampNeg), .int (sc.2 (v3 + (3 : Int32)).toNatClampNeg)]) (rest := [.int x45]) k_197_905 rfl zo_46 rfl rfl (Nat.le_of_ble_eq_true rfl) (Nat.le_of_ble_eq_true rfl)) (z_cbi fun x46 h46 => ?_)
                                                  refine Eq.trans (ev_iceq (pc := 908) k_197_908.1 rfl k_197_908.2) (z_ite ?_ ?_)
                                                  · refine Eq.trans (ev_iinc (pc := 1041) (v := 5) (lv' := [some (.ref 1300), some (.ref 0), some (.ref 46), some (.int (v3 + 5))]) k_197_1041 rfl rfl (by decide) rfl) ?_
                                                    refine Eq.trans (ev_goto (pc := 1044) k_197_1044.1 rfl k_197_1044.2) ?_
                                                    exact ev_mk kd_197_18 rfl
                                                  · refine Eq.trans (ev_iconst (pc := 911) (v := 0) k_197_911 rfl (by decide)) ?_
                                                    exact ev_ret_b1 k_197_912 rfl rt_197 (by decide)
                                                · rw [if_neg e22]
                                                  by_cases e23 : ((sc.2 v3.toNatClampNeg) &&& (31 : Int32)) = 23
                                                  · rw [if_pos e23, e23]
                                                    refine Eq.trans (ev_sw (pc := 32) (t := 913) k_197_32 rfl ⟨rfl, rfl⟩ (z_tsI (o := 881) (by decide) (by decide) (by decide))) ?_
                                                    refine Eq.trans (ev_aload_n (pc := 913) (x := 0) k_197_913 rfl rfl (by decide)) ?_
                                                    refine Eq.trans (ev_vi (pc := 914) (as := []) (rest := []) k_197_914 rfl zo_0 rfl rfl (Nat.le_of_ble_eq_true rfl) (Nat.le_of_ble_eq_true rfl)) (z_cbi fun x47 h47 => ?_)
                                                    refine Eq.trans (ev_aload_n (pc := 917) (x := 46) k_197_917 rfl rfl (by decide)) ?_
                                                    refine Eq.trans (ev_vi (pc := 918) (as := []) (rest := [.int x47]) k_197_918 rfl zo_46 rfl rfl (Nat.le_of_ble_eq_true rfl) (Nat.le_of_ble_eq_true rfl)) (z_cbi fun x48 h48 => ?_)
                                                    refine Eq.trans (ev_iceq (pc := 921) k_197_921.1 rfl k_197_921.2) (z_ite ?_ ?_)
                                                    · refine Eq.trans (ev_iinc (pc := 1041) (v := 5) (lv' := [some (.ref 1300), some (.ref 0), some (.ref 46), some (.int (v3 + 5))]) k_197_1041 rfl rfl (by decide) rfl) ?_
                                                      refine Eq.trans (ev_goto (pc := 1044) k_197_1044.1 rfl k_197_1044.2) ?_
                                                      exact ev_mk kd_197_18 rfl
                                                    · refine Eq.trans (ev_iconst (pc := 924) (v := 0) k_197_924 rfl (by decide)) ?_
                                                      exact ev_ret_b1 k_197_925 rfl rt_197 (by decide)
                                                  · rw [if_neg e23]
                                                    by_cases e24 : ((sc.2 v3.toNatClampNeg) &&& (31 : Int32)) = 24
                                                    · rw [if_pos e24, e24]
                                                      refine Eq.trans (ev_sw (pc := 32) (t := 926) k_197_32 rfl ⟨rfl, rfl⟩ (z_tsI (o := 894) (by decide) (by decide) (by decide))) ?_
                                                      refine Eq.trans (ev_aload_n (pc := 926) (x := 0) k_197_926 rfl rfl (by decide)) ?_
                                                      refine Eq.trans (ev_vi (pc := 927) (as := []) (rest := []) k_197_927 rfl zo_0 rfl rfl (Nat.le_of_ble_eq_true rfl) (Nat.le_of_ble_eq_true rfl)) (z_cbi fun x49 h49 => ?_)
                                                      refine Eq.trans (ev_aload_n (pc := 930) (x := 46) k_197_930 rfl rfl (by decide)) ?_
                                                      refine Eq.trans (ev_vi (pc := 931) (as := []) (rest := [.int x49]) k_197_931 rfl zo_46 rfl rfl (Nat.le_of_ble_eq_true rfl) (Nat.le_of_ble_eq_true rfl)) (z_cbi fun x50 h50 => ?_)
                                                      refine Eq.trans (ev_iceq (pc := 934) k_197_934.1 rfl k_197_934.2) (z_ite ?_ ?_)
                                                      · refine Eq.trans (ev_iinc (pc := 1041) (v := 5) (lv' := [some (.ref 1300), some (.ref 0), some (.ref 46), some (.int (v3 + 5))]) k_197_1041 rfl rfl (by decide) rfl) ?_
                                                        refine Eq.trans (ev_goto (pc := 1044) k_197_1044.1 rfl k_197_1044.2) ?_
                                                        exact ev_mk kd_197_18 rfl
                                                      · refine Eq.trans (ev_iconst (pc := 937) (v := 0) k_197_937 rfl (by decide)) ?_
                                                        exact ev_ret_b1 k_197_938 rfl rt_197 (by decide)
                                                    · rw [if_neg e24]
                                                      by_cases e25 : ((sc.2 v3.toNatClampNeg) &&& (31 : Int32)) = 25
                                                      · rw [if_pos e25, e25]
                                                        refine Eq.trans (ev_sw (pc := 32) (t := 939) k_197_32 rfl ⟨rfl, rfl⟩ (z_tsI (o := 907) (by decide) (by decide) (by decide))) ?_
                                                        refine Eq.trans (ev_aload_n (pc := 939) (x := 0) k_197_939 rfl rfl (by decide)) ?_
                                                        refine Eq.trans (ev_aload_n (pc := 940) (x := 1300) k_197_940 rfl rfl (by decide)) ?_
                                                        refine Eq.trans (ev_iload_n (pc := 941) k_197_941 rfl rfl) ?_
                                                        refine Eq.trans (ev_iconst (pc := 942) (v := 1) k_197_942 rfl (by decide)) ?_
                                                        refine Eq.trans (ev_iadd (pc := 943) k_197_943 rfl) ?_
                                                        refine Eq.trans (ev_sld_c (pc := 944) k_197_944 rfl) (z_it1 ?_)
                                                        refine Eq.trans (ev_aload_n (pc := 945) (x := 1300) k_197_945 rfl rfl (by decide)) ?_
                                                        refine Eq.trans (ev_iload_n (pc := 946) k_197_946 rfl rfl) ?_
                                                        refine Eq.trans (ev_iconst (pc := 947) (v := 2) k_197_947 rfl (by decide)) ?_
                                                        refine Eq.trans (ev_iadd (pc := 948) k_197_948 rfl) ?_
                                                        refine Eq.trans (ev_sld_c (pc := 949) k_197_949 rfl) (z_it1 ?_)
                                                        refine Eq.trans (ev_vi (pc := 950) (as := [.int (sc.2 (v3 + (1 : Int32)).toNatClampNeg), .int (sc.2 (v3 + (2 : Int32)).toNatClampNeg)]) (rest := []) k_197_950 rfl zo_0 rfl rfl (Nat.le_of_ble_eq_true rfl) (Nat.le_of_ble_eq_true rfl)) (z_cbi fun x51 h51 => ?_)
                                                        refine Eq.trans (ev_aload_n (pc := 953) (x := 46) k_197_953 rfl rfl (by decide)) ?_
                                                        refine Eq.trans (ev_aload_n (pc := 954) (x := 1300) k_197_954 rfl rfl (by decide)) ?_
                                                        refine Eq.trans (ev_iload_n (pc := 955) k_197_955 rfl rfl) ?_
                                                        refine Eq.trans (ev_iconst (pc := 956) (v := 1) k_197_956 rfl (by decide)) ?_
                                                        refine Eq.trans (ev_iadd (pc := 957) k_197_957 rfl) ?_
                                                        refine Eq.trans (ev_sld_c (pc := 958) k_197_958 rfl) (z_it1 ?_)
                                                        refine Eq.trans (ev_aload_n (pc := 959) (x := 1300) k_197_959 rfl rfl (by decide)) ?_
                                                        refine Eq.trans (ev_iload_n (pc := 960) k_197_960 rfl rfl) ?_
                                                        refine Eq.trans (ev_iconst (pc := 961) (v := 2) k_197_961 rfl (by decide)) ?_
                                                        refine Eq.trans (ev_iadd (pc := 962) k_197_962 rfl) ?_
                                                        refine Eq.trans (ev_sld_c (pc := 963) k_197_963 rfl) (z_it1 ?_)
                                                        refine Eq.trans (ev_vi (pc := 964) (as := [.int (sc.2 (v3 + (1 : Int32)).toNatClampNeg), .int (sc.2 (v3 + (2 : Int32)).toNatClampNeg)]) (rest := [.int x51]) k_197_964 rfl zo_46 rfl rfl (Nat.le_of_ble_eq_true rfl) (Nat.le_of_ble_eq_true rfl)) (z_cbi fun x52 h52 => ?_)
                                                        refine Eq.trans (ev_iceq (pc := 967) k_197_967.1 rfl k_197_967.2) (z_ite ?_ ?_)
                                                        · refine Eq.trans (ev_iinc (pc := 1041) (v := 5) (lv' := [some (.ref 1300), some (.ref 0), some (.ref 46), some (.int (v3 + 5))]) k_197_1041 rfl rfl (by decide) rfl) ?_
                                                          refine Eq.trans (ev_goto (pc := 1044) k_197_1044.1 rfl k_197_1044.2) ?_
                                                          exact ev_mk kd_197_18 rfl
                                                        · refine Eq.trans (ev_iconst (pc := 970) (v := 0) k_197_970 rfl (by decide)) ?_
                                                          exact ev_ret_b1 k_197_971 rfl rt_197 (by decide)
                                                      · rw [if_neg e25]
                                                        by_cases e26 : ((sc.2 v3.toNatClampNeg) &&& (31 : Int32)) = 26
                                                        · rw [if_pos e26, e26]
                                                          refine Eq.trans (ev_sw (pc := 32) (t := 972) k_197_32 rfl ⟨rfl, rfl⟩ (z_tsI (o := 940) (by decide) (by decide) (by decide))) ?_
                                                          refine Eq.trans (ev_aload_n (pc := 972) (x := 0) k_197_972 rfl rfl (by decide)) ?_
                                                          refine Eq.trans (ev_aload_n (pc := 973) (x := 1300) k_197_973 rfl rfl (by decide)) ?_
                                                          refine Eq.trans (ev_iload_n (pc := 974) k_197_974 rfl rfl) ?_
                                                          refine Eq.trans (ev_iconst (pc := 975) (v := 1) k_197_975 rfl (by decide)) ?_
                                                          refine Eq.trans (ev_iadd (pc := 976) k_197_976 rfl) ?_
                                                          refine Eq.trans (ev_sld_c (pc := 977) k_197_977 rfl) (z_it1 ?_)
                                                          refine Eq.trans (ev_vi (pc := 978) (as := [.int (sc.2 (v3 + (1 : Int32)).toNatClampNeg)]) (rest := []) k_197_978 rfl zo_0 rfl rfl (Nat.le_of_ble_eq_true rfl) (Nat.le_of_ble_eq_true rfl)) (z_cbi fun x53 h53 => ?_)
                                                          refine Eq.trans (ev_aload_n (pc := 981) (x := 46) k_197_981 rfl rfl (by decide)) ?_
                                                          refine Eq.trans (ev_aload_n (pc := 982) (x := 1300) k_197_982 rfl rfl (by decide)) ?_
                                                          refine Eq.trans (ev_iload_n (pc := 983) k_197_983 rfl rfl) ?_
                                                          refine Eq.trans (ev_iconst (pc := 984) (v := 1) k_197_984 rfl (by decide)) ?_
                                                          refine Eq.trans (ev_iadd (pc := 985) k_197_985 rfl) ?_
                                                          refine Eq.trans (ev_sld_c (pc := 986) k_197_986 rfl) (z_it1 ?_)
                                                          refine Eq.trans (ev_vi (pc := 987) (as := [.int (sc.2 (v3 + (1 : Int32)).toNatClampNeg)]) (rest := [.int x53]) k_197_987 rfl zo_46 rfl rfl (Nat.le_of_ble_eq_true rfl) (Nat.le_of_ble_eq_true rfl)) (z_cbi fun x54 h54 => ?_)
                                                          refine Eq.trans (ev_iceq (pc := 990) k_197_990.1 rfl k_197_990.2) (z_ite ?_ ?_)
                                                          · refine Eq.trans (ev_iinc (pc := 1041) (v := 5) (lv' := [some (.ref 1300), some (.ref 0), some (.ref 46), some (.int (v3 + 5))]) k_197_1041 rfl rfl (by decide) rfl) ?_
                                                            refine Eq.trans (ev_goto (pc := 1044) k_197_1044.1 rfl k_197_1044.2) ?_
                                                            exact ev_mk kd_197_18 rfl
                                                          · refine Eq.trans (ev_iconst (pc := 993) (v := 0) k_197_993 rfl (by decide)) ?_
                                                            exact ev_ret_b1 k_197_994 rfl rt_197 (by decide)
                                                        · rw [if_neg e26]
                                                          by_cases e27 : ((sc.2 v3.toNatClampNeg) &&& (31 : Int32)) = 27
                                                          · rw [if_pos e27, e27]
                                                            refine Eq.trans (ev_sw (pc := 32) (t := 995) k_197_32 rfl ⟨rfl, rfl⟩ (z_tsI (o := 963) (by decide) (by decide) (by decide))) ?_
                                                            refine Eq.trans (ev_aload_n (pc := 995) (x := 0) k_197_995 rfl rfl (by decide)) ?_
                                                            refine Eq.trans (ev_aload_n (pc := 996) (x := 1300) k_197_996 rfl rfl (by decide)) ?_
                                                            refine Eq.trans (ev_iload_n (pc := 997) k_197_997 rfl rfl) ?_
                                                            refine Eq.trans (ev_iconst (pc := 998) (v := 1) k_197_998 rfl (by decide)) ?_
                                                            refine Eq.trans (ev_iadd (pc := 999) k_197_999 rfl) ?_
                                                            refine Eq.trans (ev_sld_c (pc := 1000) k_197_1000 rfl) (z_it1 ?_)
                                                            refine Eq.trans (ev_vi (pc := 1001) (as := [.int (sc.2 (v3 + (1 : Int32)).toNatClampNeg)]) (rest := []) k_197_1001 rfl zo_0 rfl rfl (Nat.le_of_ble_eq_true rfl) (Nat.le_of_ble_eq_true rfl)) (z_cbi fun x55 h55 => ?_)
                                                            refine Eq.trans (ev_aload_n (pc := 1004) (x := 46) k_197_1004 rfl rfl (by decide)) ?_
                                                            refine Eq.trans (ev_aload_n (pc := 1005) (x := 1300) k_197_1005 rfl rfl (by decide)) ?_
                                                            refine Eq.trans (ev_iload_n (pc := 1006) k_197_1006 rfl rfl) ?_
                                                            refine Eq.trans (ev_iconst (pc := 1007) (v := 1) k_197_1007 rfl (by decide)) ?_
                                                            refine Eq.trans (ev_iadd (pc := 1008) k_197_1008 rfl) ?_
                                                            refine Eq.trans (ev_sld_c (pc := 1009) k_197_1009 rfl) (z_it1 ?_)
                                                            refine Eq.trans (ev_vi (pc := 1010) (as := [.int (sc.2 (v3 + (1 : Int32)).toNatClampNeg)]) (rest := [.int x55]) k_197_1010 rfl zo_46 rfl rfl (Nat.le_of_ble_eq_true rfl) (Nat.le_of_ble_eq_true rfl)) (z_cbi fun x56 h56 => ?_)
                                                            refine Eq.trans (ev_iceq (pc := 1013) k_197_1013.1 rfl k_197_1013.2) (z_ite ?_ ?_)
                                                            · refine Eq.trans (ev_iinc (pc := 1041) (v := 5) (lv' := [some (.ref 1300), some (.ref 0), some (.ref 46), some (.int (v3 + 5))]) k_197_1041 rfl rfl (by decide) rfl) ?_
                                                              refine Eq.trans (ev_goto (pc := 1044) k_197_1044.1 rfl k_197_1044.2) ?_
                                                              exact ev_mk kd_197_18 rfl
                                                            · refine Eq.trans (ev_iconst (pc := 1016) (v := 0) k_197_1016 rfl (by decide)) ?_
                                                              exact ev_ret_b1 k_197_1017 rfl rt_197 (by decide)
                                                          · rw [if_neg e27]
                                                            by_cases e28 : ((sc.2 v3.toNatClampNeg) &&& (31 : Int32)) = 28
                                                            · rw [if_pos e28, e28]
                                                              refine Eq.trans (ev_sw (pc := 32) (t := 1018) k_197_32 rfl ⟨rfl, rfl⟩ (z_tsI (o := 986) (by decide) (by decide) (by decide))) ?_
                                                              refine Eq.trans (ev_aload_n (pc := 1018) (x := 0) k_197_1018 rfl rfl (by decide)) ?_
                                                              refine Eq.trans (ev_aload_n (pc := 1019) (x := 1300) k_197_1019 rfl rfl (by decide)) ?_
                                                              refine Eq.trans (ev_iload_n (pc := 1020) k_197_1020 rfl rfl) ?_
                                                              refine Eq.trans (ev_iconst (pc := 1021) (v := 1) k_197_1021 rfl (by decide)) ?_
                                                              refine Eq.trans (ev_iadd (pc := 1022) k_197_1022 rfl) ?_
                                                              refine Eq.trans (ev_sld_c (pc := 1023) k_197_1023 rfl) (z_it1 ?_)
                                                              refine Eq.trans (ev_vi (pc := 1024) (as := [.int (sc.2 (v3 + (1 : Int32)).toNatClampNeg)]) (rest := []) k_197_1024 rfl zo_0 rfl rfl (Nat.le_of_ble_eq_true rfl) (Nat.le_of_ble_eq_true rfl)) (z_cbi fun x57 h57 => ?_)
                                                              refine Eq.trans (ev_aload_n (pc := 1027) (x := 46) k_197_1027 rfl rfl (by decide)) ?_
                                                              refine Eq.trans (ev_aload_n (pc := 1028) (x := 1300) k_197_1028 rfl rfl (by decide)) ?_
                                                              refine Eq.trans (ev_iload_n (pc := 1029) k_197_1029 rfl rfl) ?_
                                                              refine Eq.trans (ev_iconst (pc := 1030) (v := 1) k_197_1030 rfl (by decide)) ?_
                                                              refine Eq.trans (ev_iadd (pc := 1031) k_197_1031 rfl) ?_
                                                              refine Eq.trans (ev_sld_c (pc := 1032) k_197_1032 rfl) (z_it1 ?_)
                                                              refine Eq.trans (ev_vi (pc := 1033) (as := [.int (sc.2 (v3 + (1 : Int32)).toNatClampNeg)]) (rest := [.int x57]) k_197_1033 rfl zo_46 rfl rfl (Nat.le_of_ble_eq_true rfl) (Nat.le_of_ble_eq_true rfl)) (z_cbi fun x58 h58 => ?_)
                                                              refine Eq.trans (ev_iceq (pc := 1036) k_197_1036.1 rfl k_197_1036.2) (z_ite ?_ ?_)
                                                              · refine Eq.trans (ev_iinc (pc := 1041) (v := 5) (lv' := [some (.ref 1300), some (.ref 0), some (.ref 46), some (.int (v3 + 5))]) k_197_1041 rfl rfl (by decide) rfl) ?_
                                                                refine Eq.trans (ev_goto (pc := 1044) k_197_1044.1 rfl k_197_1044.2) ?_
                                                                exact ev_mk kd_197_18 rfl
                                                              · refine Eq.trans (ev_iconst (pc := 1039) (v := 0) k_197_1039 rfl (by decide)) ?_
                                                                exact ev_ret_b1 k_197_1040 rfl rt_197 (by decide)
                                                            · rw [if_neg e28]
                                                              have f0 : (((sc.2 v3.toNatClampNeg) &&& (31 : Int32))).toInt ≠ 0 := fun z => e0 (Int32.toInt_inj.mp (z.trans (by decide)))
                                                              have f1 : (((sc.2 v3.toNatClampNeg) &&& (31 : Int32))).toInt ≠ 1 := fun z => e1 (Int32.toInt_inj.mp (z.trans (by decide)))
                                                              have f2 : (((sc.2 v3.toNatClampNeg) &&& (31 : Int32))).toInt ≠ 2 := fun z => e2 (Int32.toInt_inj.mp (z.trans (by decide)))
                                                              have f3 : (((sc.2 v3.toNatClampNeg) &&& (31 : Int32))).toInt ≠ 3 := fun z => e3 (Int32.toInt_inj.mp (z.trans (by decide)))
                                                              have f4 : (((sc.2 v3.toNatClampNeg) &&& (31 : Int32))).toInt ≠ 4 := fun z => e4 (Int32.toInt_inj.mp (z.trans (by decide)))
                                                              have f5 : (((sc.2 v3.toNatClampNeg) &&& (31 : Int32))).toInt ≠ 5 := fun z => e5 (Int32.toInt_inj.mp (z.trans (by decide)))
                                                              have f6 : (((sc.2 v3.toNatClampNeg) &&& (31 : Int32))).toInt ≠ 6 := fun z => e6 (Int32.toInt_inj.mp (z.trans (by decide)))
                                                              have f7 : (((sc.2 v3.toNatClampNeg) &&& (31 : Int32))).toInt ≠ 7 := fun z => e7 (Int32.toInt_inj.mp (z.trans (by decide)))
                                                              have f8 : (((sc.2 v3.toNatClampNeg) &&& (31 : Int32))).toInt ≠ 8 := fun z => e8 (Int32.toInt_inj.mp (z.trans (by decide)))
                                                              have f9 : (((sc.2 v3.toNatClampNeg) &&& (31 : Int32))).toInt ≠ 9 := fun z => e9 (Int32.toInt_inj.mp (z.trans (by decide)))
                                                              have f10 : (((sc.2 v3.toNatClampNeg) &&& (31 : Int32))).toInt ≠ 10 := fun z => e10 (Int32.toInt_inj.mp (z.trans (by decide)))
                                                              have f11 : (((sc.2 v3.toNatClampNeg) &&& (31 : Int32))).toInt ≠ 11 := fun z => e11 (Int32.toInt_inj.mp (z.trans (by decide)))
                                                              have f12 : (((sc.2 v3.toNatClampNeg) &&& (31 : Int32))).toInt ≠ 12 := fun z => e12 (Int32.toInt_inj.mp (z.trans (by decide)))
                                                              have f13 : (((sc.2 v3.toNatClampNeg) &&& (31 : Int32))).toInt ≠ 13 := fun z => e13 (Int32.toInt_inj.mp (z.trans (by decide)))
                                                              have f14 : (((sc.2 v3.toNatClampNeg) &&& (31 : Int32))).toInt ≠ 14 := fun z => e14 (Int32.toInt_inj.mp (z.trans (by decide)))
                                                              have f15 : (((sc.2 v3.toNatClampNeg) &&& (31 : Int32))).toInt ≠ 15 := fun z => e15 (Int32.toInt_inj.mp (z.trans (by decide)))
                                                              have f16 : (((sc.2 v3.toNatClampNeg) &&& (31 : Int32))).toInt ≠ 16 := fun z => e16 (Int32.toInt_inj.mp (z.trans (by decide)))
                                                              have f17 : (((sc.2 v3.toNatClampNeg) &&& (31 : Int32))).toInt ≠ 17 := fun z => e17 (Int32.toInt_inj.mp (z.trans (by decide)))
                                                              have f18 : (((sc.2 v3.toNatClampNeg) &&& (31 : Int32))).toInt ≠ 18 := fun z => e18 (Int32.toInt_inj.mp (z.trans (by decide)))
                                                              have f19 : (((sc.2 v3.toNatClampNeg) &&& (31 : Int32))).toInt ≠ 19 := fun z => e19 (Int32.toInt_inj.mp (z.trans (by decide)))
                                                              have f20 : (((sc.2 v3.toNatClampNeg) &&& (31 : Int32))).toInt ≠ 20 := fun z => e20 (Int32.toInt_inj.mp (z.trans (by decide)))
                                                              have f21 : (((sc.2 v3.toNatClampNeg) &&& (31 : Int32))).toInt ≠ 21 := fun z => e21 (Int32.toInt_inj.mp (z.trans (by decide)))
                                                              have f22 : (((sc.2 v3.toNatClampNeg) &&& (31 : Int32))).toInt ≠ 22 := fun z => e22 (Int32.toInt_inj.mp (z.trans (by decide)))
                                                              have f23 : (((sc.2 v3.toNatClampNeg) &&& (31 : Int32))).toInt ≠ 23 := fun z => e23 (Int32.toInt_inj.mp (z.trans (by decide)))
                                                              have f24 : (((sc.2 v3.toNatClampNeg) &&& (31 : Int32))).toInt ≠ 24 := fun z => e24 (Int32.toInt_inj.mp (z.trans (by decide)))
                                                              have f25 : (((sc.2 v3.toNatClampNeg) &&& (31 : Int32))).toInt ≠ 25 := fun z => e25 (Int32.toInt_inj.mp (z.trans (by decide)))
                                                              have f26 : (((sc.2 v3.toNatClampNeg) &&& (31 : Int32))).toInt ≠ 26 := fun z => e26 (Int32.toInt_inj.mp (z.trans (by decide)))
                                                              have f27 : (((sc.2 v3.toNatClampNeg) &&& (31 : Int32))).toInt ≠ 27 := fun z => e27 (Int32.toInt_inj.mp (z.trans (by decide)))
                                                              have f28 : (((sc.2 v3.toNatClampNeg) &&& (31 : Int32))).toInt ≠ 28 := fun z => e28 (Int32.toInt_inj.mp (z.trans (by decide)))
                                                              refine Eq.trans (ev_sw (pc := 32) (t := 1041) k_197_32 rfl ⟨rfl, rfl⟩ (z_tsO (by omega) (by decide))) ?_
                                                              refine Eq.trans (ev_iinc (pc := 1041) (v := 5) (lv' := [some (.ref 1300), some (.ref 0), some (.ref 46), some (.int (v3 + 5))]) k_197_1041 rfl rfl (by decide) rfl) ?_
                                                              refine Eq.trans (ev_goto (pc := 1044) k_197_1044.1 rfl k_197_1044.2) ?_
                                                              exact ev_mk kd_197_18 rfl
