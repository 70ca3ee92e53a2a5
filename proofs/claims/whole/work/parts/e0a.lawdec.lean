/-! PART e0a (by gen_law.py): the law, decoded -/
def y_Law_law : aw_Y := (⟨"AllWaysLaw", "law", "([I)Z"⟩, code, 7, some .boolean)
theorem d_Law_law_0 : decode y_Law_law.2.1 0 = .ok (.new 8, 3) := by decide +kernel
theorem d_Law_law_3 : decode y_Law_law.2.1 3 = .ok (.dup, 1) := by decide +kernel
theorem d_Law_law_4 : decode y_Law_law.2.1 4 = .ok (.invokespecial 15, 3) := by decide +kernel
theorem d_Law_law_7 : decode y_Law_law.2.1 7 = .ok (.astore_n 1, 1) := by decide +kernel
theorem d_Law_law_8 : decode y_Law_law.2.1 8 = .ok (.new 16, 3) := by decide +kernel
theorem d_Law_law_11 : decode y_Law_law.2.1 11 = .ok (.dup, 1) := by decide +kernel
theorem d_Law_law_12 : decode y_Law_law.2.1 12 = .ok (.invokespecial 18, 3) := by decide +kernel
theorem d_Law_law_15 : decode y_Law_law.2.1 15 = .ok (.astore_n 2, 1) := by decide +kernel
theorem d_Law_law_16 : decode y_Law_law.2.1 16 = .ok (.iconst 1, 1) := by decide +kernel
theorem d_Law_law_17 : decode y_Law_law.2.1 17 = .ok (.newarray .long, 2) := by decide +kernel
theorem d_Law_law_19 : decode y_Law_law.2.1 19 = .ok (.astore_n 3, 1) := by decide +kernel
theorem d_Law_law_20 : decode y_Law_law.2.1 20 = .ok (.iconst 0, 1) := by decide +kernel
theorem d_Law_law_21 : decode y_Law_law.2.1 21 = .ok (.istore 4, 2) := by decide +kernel
theorem d_Law_law_23 : decode y_Law_law.2.1 23 = .ok (.iload 4, 2) := by decide +kernel
theorem d_Law_law_25 : decode y_Law_law.2.1 25 = .ok (.aload_n 0, 1) := by decide +kernel
theorem d_Law_law_26 : decode y_Law_law.2.1 26 = .ok (.arraylength, 1) := by decide +kernel
theorem d_Law_law_27 : decode y_Law_law.2.1 27 = .ok (.bipush 6, 2) := by decide +kernel
theorem d_Law_law_29 : decode y_Law_law.2.1 29 = .ok (.isub, 1) := by decide +kernel
theorem d_Law_law_30 : decode y_Law_law.2.1 30 = .ok (.if_icmp .gt (1248), 3) := by decide +kernel
theorem d_Law_law_33 : decode y_Law_law.2.1 33 = .ok (.aload_n 0, 1) := by decide +kernel
theorem d_Law_law_34 : decode y_Law_law.2.1 34 = .ok (.iload 4, 2) := by decide +kernel
theorem d_Law_law_36 : decode y_Law_law.2.1 36 = .ok (.iaload, 1) := by decide +kernel
theorem d_Law_law_37 : decode y_Law_law.2.1 37 = .ok (.bipush 63, 2) := by decide +kernel
theorem d_Law_law_39 : decode y_Law_law.2.1 39 = .ok (.iand, 1) := by decide +kernel
theorem d_Law_law_40 : decode y_Law_law.2.1 40 = .ok (.tableswitch (1232) (0) (32) #[148, 221, 246, 271, 284, 333, 370, 438, 475, 500, 537, 586, 647, 660, 685, 734, 771, 784, 821, 858, 883, 908, 957, 1006, 1043, 1056, 1069, 1082, 1095, 1120, 1133, 1182, 1207], 148) := by decide +kernel
theorem d_Law_law_188 : decode y_Law_law.2.1 188 = .ok (.aload_n 1, 1) := by decide +kernel
theorem d_Law_law_189 : decode y_Law_law.2.1 189 = .ok (.aload_n 0, 1) := by decide +kernel
theorem d_Law_law_190 : decode y_Law_law.2.1 190 = .ok (.iload 4, 2) := by decide +kernel
theorem d_Law_law_192 : decode y_Law_law.2.1 192 = .ok (.iconst 1, 1) := by decide +kernel
theorem d_Law_law_193 : decode y_Law_law.2.1 193 = .ok (.iadd, 1) := by decide +kernel
theorem d_Law_law_194 : decode y_Law_law.2.1 194 = .ok (.iaload, 1) := by decide +kernel
theorem d_Law_law_195 : decode y_Law_law.2.1 195 = .ok (.aload_n 0, 1) := by decide +kernel
theorem d_Law_law_196 : decode y_Law_law.2.1 196 = .ok (.iload 4, 2) := by decide +kernel
theorem d_Law_law_198 : decode y_Law_law.2.1 198 = .ok (.iconst 2, 1) := by decide +kernel
theorem d_Law_law_199 : decode y_Law_law.2.1 199 = .ok (.iadd, 1) := by decide +kernel
theorem d_Law_law_200 : decode y_Law_law.2.1 200 = .ok (.iaload, 1) := by decide +kernel
theorem d_Law_law_201 : decode y_Law_law.2.1 201 = .ok (.aload_n 0, 1) := by decide +kernel
theorem d_Law_law_202 : decode y_Law_law.2.1 202 = .ok (.iload 4, 2) := by decide +kernel
theorem d_Law_law_204 : decode y_Law_law.2.1 204 = .ok (.iconst 3, 1) := by decide +kernel
theorem d_Law_law_205 : decode y_Law_law.2.1 205 = .ok (.iadd, 1) := by decide +kernel
theorem d_Law_law_206 : decode y_Law_law.2.1 206 = .ok (.iaload, 1) := by decide +kernel
theorem d_Law_law_207 : decode y_Law_law.2.1 207 = .ok (.aload_n 0, 1) := by decide +kernel
theorem d_Law_law_208 : decode y_Law_law.2.1 208 = .ok (.iload 4, 2) := by decide +kernel
theorem d_Law_law_210 : decode y_Law_law.2.1 210 = .ok (.iconst 4, 1) := by decide +kernel
theorem d_Law_law_211 : decode y_Law_law.2.1 211 = .ok (.iadd, 1) := by decide +kernel
theorem d_Law_law_212 : decode y_Law_law.2.1 212 = .ok (.iaload, 1) := by decide +kernel
theorem d_Law_law_213 : decode y_Law_law.2.1 213 = .ok (.aload_n 0, 1) := by decide +kernel
theorem d_Law_law_214 : decode y_Law_law.2.1 214 = .ok (.iload 4, 2) := by decide +kernel
theorem d_Law_law_216 : decode y_Law_law.2.1 216 = .ok (.iconst 5, 1) := by decide +kernel
theorem d_Law_law_217 : decode y_Law_law.2.1 217 = .ok (.iadd, 1) := by decide +kernel
theorem d_Law_law_218 : decode y_Law_law.2.1 218 = .ok (.iaload, 1) := by decide +kernel
theorem d_Law_law_219 : decode y_Law_law.2.1 219 = .ok (.invokevirtual 19, 3) := by decide +kernel
theorem d_Law_law_222 : decode y_Law_law.2.1 222 = .ok (.aload_n 2, 1) := by decide +kernel
theorem d_Law_law_223 : decode y_Law_law.2.1 223 = .ok (.aload_n 0, 1) := by decide +kernel
theorem d_Law_law_224 : decode y_Law_law.2.1 224 = .ok (.iload 4, 2) := by decide +kernel
theorem d_Law_law_226 : decode y_Law_law.2.1 226 = .ok (.iconst 1, 1) := by decide +kernel
theorem d_Law_law_227 : decode y_Law_law.2.1 227 = .ok (.iadd, 1) := by decide +kernel
theorem d_Law_law_228 : decode y_Law_law.2.1 228 = .ok (.iaload, 1) := by decide +kernel
theorem d_Law_law_229 : decode y_Law_law.2.1 229 = .ok (.aload_n 0, 1) := by decide +kernel
theorem d_Law_law_230 : decode y_Law_law.2.1 230 = .ok (.iload 4, 2) := by decide +kernel
theorem d_Law_law_232 : decode y_Law_law.2.1 232 = .ok (.iconst 2, 1) := by decide +kernel
theorem d_Law_law_233 : decode y_Law_law.2.1 233 = .ok (.iadd, 1) := by decide +kernel
theorem d_Law_law_234 : decode y_Law_law.2.1 234 = .ok (.iaload, 1) := by decide +kernel
theorem d_Law_law_235 : decode y_Law_law.2.1 235 = .ok (.aload_n 0, 1) := by decide +kernel
theorem d_Law_law_236 : decode y_Law_law.2.1 236 = .ok (.iload 4, 2) := by decide +kernel
theorem d_Law_law_238 : decode y_Law_law.2.1 238 = .ok (.iconst 3, 1) := by decide +kernel
theorem d_Law_law_239 : decode y_Law_law.2.1 239 = .ok (.iadd, 1) := by decide +kernel
theorem d_Law_law_240 : decode y_Law_law.2.1 240 = .ok (.iaload, 1) := by decide +kernel
theorem d_Law_law_241 : decode y_Law_law.2.1 241 = .ok (.aload_n 0, 1) := by decide +kernel
theorem d_Law_law_242 : decode y_Law_law.2.1 242 = .ok (.iload 4, 2) := by decide +kernel
theorem d_Law_law_244 : decode y_Law_law.2.1 244 = .ok (.iconst 4, 1) := by decide +kernel
theorem d_Law_law_245 : decode y_Law_law.2.1 245 = .ok (.iadd, 1) := by decide +kernel
theorem d_Law_law_246 : decode y_Law_law.2.1 246 = .ok (.iaload, 1) := by decide +kernel
theorem d_Law_law_247 : decode y_Law_law.2.1 247 = .ok (.aload_n 0, 1) := by decide +kernel
theorem d_Law_law_248 : decode y_Law_law.2.1 248 = .ok (.iload 4, 2) := by decide +kernel
theorem d_Law_law_250 : decode y_Law_law.2.1 250 = .ok (.iconst 5, 1) := by decide +kernel
theorem d_Law_law_251 : decode y_Law_law.2.1 251 = .ok (.iadd, 1) := by decide +kernel
theorem d_Law_law_252 : decode y_Law_law.2.1 252 = .ok (.iaload, 1) := by decide +kernel
theorem d_Law_law_253 : decode y_Law_law.2.1 253 = .ok (.invokevirtual 23, 3) := by decide +kernel
theorem d_Law_law_256 : decode y_Law_law.2.1 256 = .ok (.if_icmp .eq (1016), 3) := by decide +kernel
theorem d_Law_law_259 : decode y_Law_law.2.1 259 = .ok (.iconst 0, 1) := by decide +kernel
theorem d_Law_law_260 : decode y_Law_law.2.1 260 = .ok (.ireturn, 1) := by decide +kernel
theorem d_Law_law_261 : decode y_Law_law.2.1 261 = .ok (.aload_n 1, 1) := by decide +kernel
theorem d_Law_law_262 : decode y_Law_law.2.1 262 = .ok (.aload_n 0, 1) := by decide +kernel
theorem d_Law_law_263 : decode y_Law_law.2.1 263 = .ok (.iload 4, 2) := by decide +kernel
theorem d_Law_law_265 : decode y_Law_law.2.1 265 = .ok (.iconst 1, 1) := by decide +kernel
theorem d_Law_law_266 : decode y_Law_law.2.1 266 = .ok (.iadd, 1) := by decide +kernel
theorem d_Law_law_267 : decode y_Law_law.2.1 267 = .ok (.iaload, 1) := by decide +kernel
theorem d_Law_law_268 : decode y_Law_law.2.1 268 = .ok (.invokevirtual 24, 3) := by decide +kernel
theorem d_Law_law_271 : decode y_Law_law.2.1 271 = .ok (.aload_n 2, 1) := by decide +kernel
theorem d_Law_law_272 : decode y_Law_law.2.1 272 = .ok (.aload_n 0, 1) := by decide +kernel
theorem d_Law_law_273 : decode y_Law_law.2.1 273 = .ok (.iload 4, 2) := by decide +kernel
theorem d_Law_law_275 : decode y_Law_law.2.1 275 = .ok (.iconst 1, 1) := by decide +kernel
theorem d_Law_law_276 : decode y_Law_law.2.1 276 = .ok (.iadd, 1) := by decide +kernel
theorem d_Law_law_277 : decode y_Law_law.2.1 277 = .ok (.iaload, 1) := by decide +kernel
theorem d_Law_law_278 : decode y_Law_law.2.1 278 = .ok (.invokevirtual 28, 3) := by decide +kernel
theorem d_Law_law_281 : decode y_Law_law.2.1 281 = .ok (.if_icmp .eq (991), 3) := by decide +kernel
theorem d_Law_law_284 : decode y_Law_law.2.1 284 = .ok (.iconst 0, 1) := by decide +kernel
theorem d_Law_law_285 : decode y_Law_law.2.1 285 = .ok (.ireturn, 1) := by decide +kernel
theorem d_Law_law_286 : decode y_Law_law.2.1 286 = .ok (.aload_n 1, 1) := by decide +kernel
theorem d_Law_law_287 : decode y_Law_law.2.1 287 = .ok (.aload_n 0, 1) := by decide +kernel
theorem d_Law_law_288 : decode y_Law_law.2.1 288 = .ok (.iload 4, 2) := by decide +kernel
theorem d_Law_law_290 : decode y_Law_law.2.1 290 = .ok (.iconst 1, 1) := by decide +kernel
theorem d_Law_law_291 : decode y_Law_law.2.1 291 = .ok (.iadd, 1) := by decide +kernel
theorem d_Law_law_292 : decode y_Law_law.2.1 292 = .ok (.iaload, 1) := by decide +kernel
theorem d_Law_law_293 : decode y_Law_law.2.1 293 = .ok (.invokevirtual 29, 3) := by decide +kernel
theorem d_Law_law_296 : decode y_Law_law.2.1 296 = .ok (.aload_n 2, 1) := by decide +kernel
theorem d_Law_law_297 : decode y_Law_law.2.1 297 = .ok (.aload_n 0, 1) := by decide +kernel
theorem d_Law_law_298 : decode y_Law_law.2.1 298 = .ok (.iload 4, 2) := by decide +kernel
theorem d_Law_law_300 : decode y_Law_law.2.1 300 = .ok (.iconst 1, 1) := by decide +kernel
theorem d_Law_law_301 : decode y_Law_law.2.1 301 = .ok (.iadd, 1) := by decide +kernel
theorem d_Law_law_302 : decode y_Law_law.2.1 302 = .ok (.iaload, 1) := by decide +kernel
theorem d_Law_law_303 : decode y_Law_law.2.1 303 = .ok (.invokevirtual 33, 3) := by decide +kernel
theorem d_Law_law_306 : decode y_Law_law.2.1 306 = .ok (.if_icmp .eq (966), 3) := by decide +kernel
theorem d_Law_law_309 : decode y_Law_law.2.1 309 = .ok (.iconst 0, 1) := by decide +kernel
theorem d_Law_law_310 : decode y_Law_law.2.1 310 = .ok (.ireturn, 1) := by decide +kernel
theorem d_Law_law_311 : decode y_Law_law.2.1 311 = .ok (.aload_n 1, 1) := by decide +kernel
theorem d_Law_law_312 : decode y_Law_law.2.1 312 = .ok (.invokevirtual 34, 3) := by decide +kernel
theorem d_Law_law_315 : decode y_Law_law.2.1 315 = .ok (.aload_n 2, 1) := by decide +kernel
theorem d_Law_law_316 : decode y_Law_law.2.1 316 = .ok (.invokevirtual 38, 3) := by decide +kernel
theorem d_Law_law_319 : decode y_Law_law.2.1 319 = .ok (.if_icmp .eq (953), 3) := by decide +kernel
theorem d_Law_law_322 : decode y_Law_law.2.1 322 = .ok (.iconst 0, 1) := by decide +kernel
theorem d_Law_law_323 : decode y_Law_law.2.1 323 = .ok (.ireturn, 1) := by decide +kernel
theorem d_Law_law_324 : decode y_Law_law.2.1 324 = .ok (.aload_n 1, 1) := by decide +kernel
theorem d_Law_law_325 : decode y_Law_law.2.1 325 = .ok (.aload_n 0, 1) := by decide +kernel
theorem d_Law_law_326 : decode y_Law_law.2.1 326 = .ok (.iload 4, 2) := by decide +kernel
theorem d_Law_law_328 : decode y_Law_law.2.1 328 = .ok (.iconst 1, 1) := by decide +kernel
theorem d_Law_law_329 : decode y_Law_law.2.1 329 = .ok (.iadd, 1) := by decide +kernel
theorem d_Law_law_330 : decode y_Law_law.2.1 330 = .ok (.iaload, 1) := by decide +kernel
theorem d_Law_law_331 : decode y_Law_law.2.1 331 = .ok (.aload_n 0, 1) := by decide +kernel
theorem d_Law_law_332 : decode y_Law_law.2.1 332 = .ok (.iload 4, 2) := by decide +kernel
theorem d_Law_law_334 : decode y_Law_law.2.1 334 = .ok (.iconst 2, 1) := by decide +kernel
theorem d_Law_law_335 : decode y_Law_law.2.1 335 = .ok (.iadd, 1) := by decide +kernel
theorem d_Law_law_336 : decode y_Law_law.2.1 336 = .ok (.iaload, 1) := by decide +kernel
theorem d_Law_law_337 : decode y_Law_law.2.1 337 = .ok (.aload_n 0, 1) := by decide +kernel
theorem d_Law_law_338 : decode y_Law_law.2.1 338 = .ok (.iload 4, 2) := by decide +kernel
theorem d_Law_law_340 : decode y_Law_law.2.1 340 = .ok (.iconst 3, 1) := by decide +kernel
theorem d_Law_law_341 : decode y_Law_law.2.1 341 = .ok (.iadd, 1) := by decide +kernel
theorem d_Law_law_342 : decode y_Law_law.2.1 342 = .ok (.iaload, 1) := by decide +kernel
theorem d_Law_law_343 : decode y_Law_law.2.1 343 = .ok (.invokevirtual 39, 3) := by decide +kernel
theorem d_Law_law_346 : decode y_Law_law.2.1 346 = .ok (.aload_n 2, 1) := by decide +kernel
theorem d_Law_law_347 : decode y_Law_law.2.1 347 = .ok (.aload_n 0, 1) := by decide +kernel
theorem d_Law_law_348 : decode y_Law_law.2.1 348 = .ok (.iload 4, 2) := by decide +kernel
theorem d_Law_law_350 : decode y_Law_law.2.1 350 = .ok (.iconst 1, 1) := by decide +kernel
theorem d_Law_law_351 : decode y_Law_law.2.1 351 = .ok (.iadd, 1) := by decide +kernel
theorem d_Law_law_352 : decode y_Law_law.2.1 352 = .ok (.iaload, 1) := by decide +kernel
theorem d_Law_law_353 : decode y_Law_law.2.1 353 = .ok (.aload_n 0, 1) := by decide +kernel
theorem d_Law_law_354 : decode y_Law_law.2.1 354 = .ok (.iload 4, 2) := by decide +kernel
theorem d_Law_law_356 : decode y_Law_law.2.1 356 = .ok (.iconst 2, 1) := by decide +kernel
theorem d_Law_law_357 : decode y_Law_law.2.1 357 = .ok (.iadd, 1) := by decide +kernel
theorem d_Law_law_358 : decode y_Law_law.2.1 358 = .ok (.iaload, 1) := by decide +kernel
theorem d_Law_law_359 : decode y_Law_law.2.1 359 = .ok (.aload_n 0, 1) := by decide +kernel
theorem d_Law_law_360 : decode y_Law_law.2.1 360 = .ok (.iload 4, 2) := by decide +kernel
theorem d_Law_law_362 : decode y_Law_law.2.1 362 = .ok (.iconst 3, 1) := by decide +kernel
theorem d_Law_law_363 : decode y_Law_law.2.1 363 = .ok (.iadd, 1) := by decide +kernel
theorem d_Law_law_364 : decode y_Law_law.2.1 364 = .ok (.iaload, 1) := by decide +kernel
theorem d_Law_law_365 : decode y_Law_law.2.1 365 = .ok (.invokevirtual 43, 3) := by decide +kernel
theorem d_Law_law_368 : decode y_Law_law.2.1 368 = .ok (.if_icmp .eq (904), 3) := by decide +kernel
theorem d_Law_law_371 : decode y_Law_law.2.1 371 = .ok (.iconst 0, 1) := by decide +kernel
theorem d_Law_law_372 : decode y_Law_law.2.1 372 = .ok (.ireturn, 1) := by decide +kernel
theorem d_Law_law_373 : decode y_Law_law.2.1 373 = .ok (.aload_n 1, 1) := by decide +kernel
theorem d_Law_law_374 : decode y_Law_law.2.1 374 = .ok (.aload_n 0, 1) := by decide +kernel
theorem d_Law_law_375 : decode y_Law_law.2.1 375 = .ok (.iload 4, 2) := by decide +kernel
theorem d_Law_law_377 : decode y_Law_law.2.1 377 = .ok (.iconst 1, 1) := by decide +kernel
theorem d_Law_law_378 : decode y_Law_law.2.1 378 = .ok (.iadd, 1) := by decide +kernel
theorem d_Law_law_379 : decode y_Law_law.2.1 379 = .ok (.iaload, 1) := by decide +kernel
theorem d_Law_law_380 : decode y_Law_law.2.1 380 = .ok (.aload_n 0, 1) := by decide +kernel
theorem d_Law_law_381 : decode y_Law_law.2.1 381 = .ok (.iload 4, 2) := by decide +kernel
theorem d_Law_law_383 : decode y_Law_law.2.1 383 = .ok (.iconst 2, 1) := by decide +kernel
theorem d_Law_law_384 : decode y_Law_law.2.1 384 = .ok (.iadd, 1) := by decide +kernel
theorem d_Law_law_385 : decode y_Law_law.2.1 385 = .ok (.iaload, 1) := by decide +kernel
theorem d_Law_law_386 : decode y_Law_law.2.1 386 = .ok (.invokevirtual 44, 3) := by decide +kernel
theorem d_Law_law_389 : decode y_Law_law.2.1 389 = .ok (.aload_n 2, 1) := by decide +kernel
theorem d_Law_law_390 : decode y_Law_law.2.1 390 = .ok (.aload_n 0, 1) := by decide +kernel
theorem d_Law_law_391 : decode y_Law_law.2.1 391 = .ok (.iload 4, 2) := by decide +kernel
theorem d_Law_law_393 : decode y_Law_law.2.1 393 = .ok (.iconst 1, 1) := by decide +kernel
theorem d_Law_law_394 : decode y_Law_law.2.1 394 = .ok (.iadd, 1) := by decide +kernel
theorem d_Law_law_395 : decode y_Law_law.2.1 395 = .ok (.iaload, 1) := by decide +kernel
theorem d_Law_law_396 : decode y_Law_law.2.1 396 = .ok (.aload_n 0, 1) := by decide +kernel
theorem d_Law_law_397 : decode y_Law_law.2.1 397 = .ok (.iload 4, 2) := by decide +kernel
theorem d_Law_law_399 : decode y_Law_law.2.1 399 = .ok (.iconst 2, 1) := by decide +kernel
theorem d_Law_law_400 : decode y_Law_law.2.1 400 = .ok (.iadd, 1) := by decide +kernel
theorem d_Law_law_401 : decode y_Law_law.2.1 401 = .ok (.iaload, 1) := by decide +kernel
theorem d_Law_law_402 : decode y_Law_law.2.1 402 = .ok (.invokevirtual 47, 3) := by decide +kernel
theorem d_Law_law_405 : decode y_Law_law.2.1 405 = .ok (.if_icmp .eq (867), 3) := by decide +kernel
theorem d_Law_law_408 : decode y_Law_law.2.1 408 = .ok (.iconst 0, 1) := by decide +kernel
theorem d_Law_law_409 : decode y_Law_law.2.1 409 = .ok (.ireturn, 1) := by decide +kernel
theorem d_Law_law_410 : decode y_Law_law.2.1 410 = .ok (.aload_n 1, 1) := by decide +kernel
theorem d_Law_law_411 : decode y_Law_law.2.1 411 = .ok (.aload_n 0, 1) := by decide +kernel
theorem d_Law_law_412 : decode y_Law_law.2.1 412 = .ok (.iload 4, 2) := by decide +kernel
theorem d_Law_law_414 : decode y_Law_law.2.1 414 = .ok (.iconst 1, 1) := by decide +kernel
theorem d_Law_law_415 : decode y_Law_law.2.1 415 = .ok (.iadd, 1) := by decide +kernel
theorem d_Law_law_416 : decode y_Law_law.2.1 416 = .ok (.iaload, 1) := by decide +kernel
theorem d_Law_law_417 : decode y_Law_law.2.1 417 = .ok (.aload_n 0, 1) := by decide +kernel
theorem d_Law_law_418 : decode y_Law_law.2.1 418 = .ok (.iload 4, 2) := by decide +kernel
theorem d_Law_law_420 : decode y_Law_law.2.1 420 = .ok (.iconst 2, 1) := by decide +kernel
theorem d_Law_law_421 : decode y_Law_law.2.1 421 = .ok (.iadd, 1) := by decide +kernel
theorem d_Law_law_422 : decode y_Law_law.2.1 422 = .ok (.iaload, 1) := by decide +kernel
theorem d_Law_law_423 : decode y_Law_law.2.1 423 = .ok (.aload_n 3, 1) := by decide +kernel
theorem d_Law_law_424 : decode y_Law_law.2.1 424 = .ok (.invokestatic 48, 3) := by decide +kernel
