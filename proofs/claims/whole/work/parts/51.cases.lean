theorem l_bool {X : Cx} {Gc Gm : Gt} {b L : Nat} {xs : Nat → Int32} {Q : State → Prop} {mC mM : Mem} {pc p1 p2 p3 nx : Nat} {ls : List (Option Value)} {st : List Value} (h : OkL X Gc Gm b L xs) {x : Int32} {o1 o2 : Int} (d1 : DD code pc (.ifCond .eq o1) 3 p1) (d2 : DD code p1 (.iconst 1) 1 p2) (d3 : DD code p2 (.goto o2) 3 p3) (d4 : DD code p3 (.iconst 0) 1 nx) (h1 : (pc : Int) + o1 = (p3 : Int)) (h2 : (p2 : Int) + o2 = (nx : Int)) (k : JL X Gc Gm Q mC mM nx ls (.int (if x = 0 then 0 else 1) :: st)) : JL X Gc Gm Q mC mM pc ls (.int x :: st) := by
  refine l_ifeq h d1 h1 (fun c => ?_) (fun c => ?_)
  · refine l_iconst (v := 0) h d4 (by decide) ?_
    rw [if_pos c] at k
    exact k
  · refine l_iconst (v := 1) h d2 (by decide) ?_
    refine l_goto h d3 h2 ?_
    rw [if_neg c] at k
    exact k
theorem dL_0 : DD code 0 (.new 7) 3 3 := ⟨by decide +kernel, rfl⟩
theorem dL_3 : DD code 3 (.dup) 1 4 := ⟨by decide +kernel, rfl⟩
theorem dL_4 : DD code 4 (.invokespecial 9) 3 7 := ⟨by decide +kernel, rfl⟩
theorem dL_7 : DD code 7 (.astore_n 1) 1 8 := ⟨by decide +kernel, rfl⟩
theorem dL_8 : DD code 8 (.new 10) 3 11 := ⟨by decide +kernel, rfl⟩
theorem dL_11 : DD code 11 (.dup) 1 12 := ⟨by decide +kernel, rfl⟩
theorem dL_12 : DD code 12 (.invokespecial 12) 3 15 := ⟨by decide +kernel, rfl⟩
theorem dL_15 : DD code 15 (.astore_n 2) 1 16 := ⟨by decide +kernel, rfl⟩
theorem dL_16 : DD code 16 (.iconst 0) 1 17 := ⟨by decide +kernel, rfl⟩
theorem dL_17 : DD code 17 (.istore_n 3) 1 18 := ⟨by decide +kernel, rfl⟩
theorem dL_18 : DD code 18 (.iload_n 3) 1 19 := ⟨by decide +kernel, rfl⟩
theorem dL_19 : DD code 19 (.aload_n 0) 1 20 := ⟨by decide +kernel, rfl⟩
theorem dL_20 : DD code 20 (.arraylength) 1 21 := ⟨by decide +kernel, rfl⟩
theorem dL_21 : DD code 21 (.bipush 6) 2 23 := ⟨by decide +kernel, rfl⟩
theorem dL_23 : DD code 23 (.isub) 1 24 := ⟨by decide +kernel, rfl⟩
theorem dL_24 : DD code 24 (.if_icmp .gt 1353) 3 27 := ⟨by decide +kernel, rfl⟩
theorem dL_27 : DD code 27 (.aload_n 0) 1 28 := ⟨by decide +kernel, rfl⟩
theorem dL_28 : DD code 28 (.iload_n 3) 1 29 := ⟨by decide +kernel, rfl⟩
theorem dL_29 : DD code 29 (.iaload) 1 30 := ⟨by decide +kernel, rfl⟩
theorem dL_30 : DD code 30 (.bipush 63) 2 32 := ⟨by decide +kernel, rfl⟩
theorem dL_32 : DD code 32 (.iand) 1 33 := ⟨by decide +kernel, rfl⟩
theorem dL_33 : DD code 33 (.tableswitch 1338 0 40 #[179, 242, 265, 278, 301, 334, 367, 400, 433, 466, 499, 522, 535, 548, 561, 604, 627, 650, 673, 706, 729, 742, 775, 798, 821, 854, 867, 890, 923, 956, 999, 1042, 1065, 1124, 1147, 1170, 1193, 1226, 1269, 1292, 1315]) 179 212 := ⟨by decide +kernel, rfl⟩
theorem dL_212 : DD code 212 (.aload_n 1) 1 213 := ⟨by decide +kernel, rfl⟩
theorem dL_213 : DD code 213 (.aload_n 0) 1 214 := ⟨by decide +kernel, rfl⟩
theorem dL_214 : DD code 214 (.iload_n 3) 1 215 := ⟨by decide +kernel, rfl⟩
theorem dL_215 : DD code 215 (.iconst 1) 1 216 := ⟨by decide +kernel, rfl⟩
theorem dL_216 : DD code 216 (.iadd) 1 217 := ⟨by decide +kernel, rfl⟩
theorem dL_217 : DD code 217 (.iaload) 1 218 := ⟨by decide +kernel, rfl⟩
theorem dL_218 : DD code 218 (.aload_n 0) 1 219 := ⟨by decide +kernel, rfl⟩
theorem dL_219 : DD code 219 (.iload_n 3) 1 220 := ⟨by decide +kernel, rfl⟩
theorem dL_220 : DD code 220 (.iconst 2) 1 221 := ⟨by decide +kernel, rfl⟩
theorem dL_221 : DD code 221 (.iadd) 1 222 := ⟨by decide +kernel, rfl⟩
theorem dL_222 : DD code 222 (.iaload) 1 223 := ⟨by decide +kernel, rfl⟩
theorem dL_223 : DD code 223 (.aload_n 0) 1 224 := ⟨by decide +kernel, rfl⟩
theorem dL_224 : DD code 224 (.iload_n 3) 1 225 := ⟨by decide +kernel, rfl⟩
theorem dL_225 : DD code 225 (.iconst 3) 1 226 := ⟨by decide +kernel, rfl⟩
theorem dL_226 : DD code 226 (.iadd) 1 227 := ⟨by decide +kernel, rfl⟩
theorem dL_227 : DD code 227 (.iaload) 1 228 := ⟨by decide +kernel, rfl⟩
theorem dL_228 : DD code 228 (.aload_n 0) 1 229 := ⟨by decide +kernel, rfl⟩
theorem dL_229 : DD code 229 (.iload_n 3) 1 230 := ⟨by decide +kernel, rfl⟩
theorem dL_230 : DD code 230 (.iconst 4) 1 231 := ⟨by decide +kernel, rfl⟩
theorem dL_231 : DD code 231 (.iadd) 1 232 := ⟨by decide +kernel, rfl⟩
theorem dL_232 : DD code 232 (.iaload) 1 233 := ⟨by decide +kernel, rfl⟩
theorem dL_233 : DD code 233 (.aload_n 0) 1 234 := ⟨by decide +kernel, rfl⟩
theorem dL_234 : DD code 234 (.iload_n 3) 1 235 := ⟨by decide +kernel, rfl⟩
theorem dL_235 : DD code 235 (.iconst 5) 1 236 := ⟨by decide +kernel, rfl⟩
theorem dL_236 : DD code 236 (.iadd) 1 237 := ⟨by decide +kernel, rfl⟩
theorem dL_237 : DD code 237 (.iaload) 1 238 := ⟨by decide +kernel, rfl⟩
theorem dL_238 : DD code 238 (.invokevirtual 13) 3 241 := ⟨by decide +kernel, rfl⟩
theorem dL_241 : DD code 241 (.aload_n 2) 1 242 := ⟨by decide +kernel, rfl⟩
theorem dL_242 : DD code 242 (.aload_n 0) 1 243 := ⟨by decide +kernel, rfl⟩
theorem dL_243 : DD code 243 (.iload_n 3) 1 244 := ⟨by decide +kernel, rfl⟩
theorem dL_244 : DD code 244 (.iconst 1) 1 245 := ⟨by decide +kernel, rfl⟩
theorem dL_245 : DD code 245 (.iadd) 1 246 := ⟨by decide +kernel, rfl⟩
theorem dL_246 : DD code 246 (.iaload) 1 247 := ⟨by decide +kernel, rfl⟩
theorem dL_247 : DD code 247 (.aload_n 0) 1 248 := ⟨by decide +kernel, rfl⟩
theorem dL_248 : DD code 248 (.iload_n 3) 1 249 := ⟨by decide +kernel, rfl⟩
theorem dL_249 : DD code 249 (.iconst 2) 1 250 := ⟨by decide +kernel, rfl⟩
theorem dL_250 : DD code 250 (.iadd) 1 251 := ⟨by decide +kernel, rfl⟩
theorem dL_251 : DD code 251 (.iaload) 1 252 := ⟨by decide +kernel, rfl⟩
theorem dL_252 : DD code 252 (.aload_n 0) 1 253 := ⟨by decide +kernel, rfl⟩
theorem dL_253 : DD code 253 (.iload_n 3) 1 254 := ⟨by decide +kernel, rfl⟩
theorem dL_254 : DD code 254 (.iconst 3) 1 255 := ⟨by decide +kernel, rfl⟩
theorem dL_255 : DD code 255 (.iadd) 1 256 := ⟨by decide +kernel, rfl⟩
theorem dL_256 : DD code 256 (.iaload) 1 257 := ⟨by decide +kernel, rfl⟩
theorem dL_257 : DD code 257 (.aload_n 0) 1 258 := ⟨by decide +kernel, rfl⟩
theorem dL_258 : DD code 258 (.iload_n 3) 1 259 := ⟨by decide +kernel, rfl⟩
theorem dL_259 : DD code 259 (.iconst 4) 1 260 := ⟨by decide +kernel, rfl⟩
theorem dL_260 : DD code 260 (.iadd) 1 261 := ⟨by decide +kernel, rfl⟩
theorem dL_261 : DD code 261 (.iaload) 1 262 := ⟨by decide +kernel, rfl⟩
theorem dL_262 : DD code 262 (.aload_n 0) 1 263 := ⟨by decide +kernel, rfl⟩
theorem dL_263 : DD code 263 (.iload_n 3) 1 264 := ⟨by decide +kernel, rfl⟩
theorem dL_264 : DD code 264 (.iconst 5) 1 265 := ⟨by decide +kernel, rfl⟩
theorem dL_265 : DD code 265 (.iadd) 1 266 := ⟨by decide +kernel, rfl⟩
theorem dL_266 : DD code 266 (.iaload) 1 267 := ⟨by decide +kernel, rfl⟩
theorem dL_267 : DD code 267 (.invokevirtual 17) 3 270 := ⟨by decide +kernel, rfl⟩
theorem dL_270 : DD code 270 (.if_icmp .eq 1101) 3 273 := ⟨by decide +kernel, rfl⟩
theorem dL_273 : DD code 273 (.iconst 0) 1 274 := ⟨by decide +kernel, rfl⟩
theorem dL_274 : DD code 274 (.ireturn) 1 275 := ⟨by decide +kernel, rfl⟩
theorem dL_275 : DD code 275 (.aload_n 1) 1 276 := ⟨by decide +kernel, rfl⟩
theorem dL_276 : DD code 276 (.aload_n 0) 1 277 := ⟨by decide +kernel, rfl⟩
theorem dL_277 : DD code 277 (.iload_n 3) 1 278 := ⟨by decide +kernel, rfl⟩
theorem dL_278 : DD code 278 (.iconst 1) 1 279 := ⟨by decide +kernel, rfl⟩
theorem dL_279 : DD code 279 (.iadd) 1 280 := ⟨by decide +kernel, rfl⟩
theorem dL_280 : DD code 280 (.iaload) 1 281 := ⟨by decide +kernel, rfl⟩
theorem dL_281 : DD code 281 (.invokevirtual 18) 3 284 := ⟨by decide +kernel, rfl⟩
theorem dL_284 : DD code 284 (.aload_n 2) 1 285 := ⟨by decide +kernel, rfl⟩
theorem dL_285 : DD code 285 (.aload_n 0) 1 286 := ⟨by decide +kernel, rfl⟩
theorem dL_286 : DD code 286 (.iload_n 3) 1 287 := ⟨by decide +kernel, rfl⟩
theorem dL_287 : DD code 287 (.iconst 1) 1 288 := ⟨by decide +kernel, rfl⟩
theorem dL_288 : DD code 288 (.iadd) 1 289 := ⟨by decide +kernel, rfl⟩
theorem dL_289 : DD code 289 (.iaload) 1 290 := ⟨by decide +kernel, rfl⟩
theorem dL_290 : DD code 290 (.invokevirtual 22) 3 293 := ⟨by decide +kernel, rfl⟩
theorem dL_293 : DD code 293 (.if_icmp .eq 1078) 3 296 := ⟨by decide +kernel, rfl⟩
theorem dL_296 : DD code 296 (.iconst 0) 1 297 := ⟨by decide +kernel, rfl⟩
theorem dL_297 : DD code 297 (.ireturn) 1 298 := ⟨by decide +kernel, rfl⟩
theorem dL_298 : DD code 298 (.aload_n 1) 1 299 := ⟨by decide +kernel, rfl⟩
theorem dL_299 : DD code 299 (.invokevirtual 23) 3 302 := ⟨by decide +kernel, rfl⟩
theorem dL_302 : DD code 302 (.aload_n 2) 1 303 := ⟨by decide +kernel, rfl⟩
theorem dL_303 : DD code 303 (.invokevirtual 27) 3 306 := ⟨by decide +kernel, rfl⟩
theorem dL_306 : DD code 306 (.if_icmp .eq 1065) 3 309 := ⟨by decide +kernel, rfl⟩
theorem dL_309 : DD code 309 (.iconst 0) 1 310 := ⟨by decide +kernel, rfl⟩
theorem dL_310 : DD code 310 (.ireturn) 1 311 := ⟨by decide +kernel, rfl⟩
theorem dL_311 : DD code 311 (.aload_n 1) 1 312 := ⟨by decide +kernel, rfl⟩
theorem dL_312 : DD code 312 (.aload_n 0) 1 313 := ⟨by decide +kernel, rfl⟩
theorem dL_313 : DD code 313 (.iload_n 3) 1 314 := ⟨by decide +kernel, rfl⟩
theorem dL_314 : DD code 314 (.iconst 1) 1 315 := ⟨by decide +kernel, rfl⟩
theorem dL_315 : DD code 315 (.iadd) 1 316 := ⟨by decide +kernel, rfl⟩
theorem dL_316 : DD code 316 (.iaload) 1 317 := ⟨by decide +kernel, rfl⟩
theorem dL_317 : DD code 317 (.invokevirtual 28) 3 320 := ⟨by decide +kernel, rfl⟩
theorem dL_320 : DD code 320 (.aload_n 2) 1 321 := ⟨by decide +kernel, rfl⟩
theorem dL_321 : DD code 321 (.aload_n 0) 1 322 := ⟨by decide +kernel, rfl⟩
theorem dL_322 : DD code 322 (.iload_n 3) 1 323 := ⟨by decide +kernel, rfl⟩
theorem dL_323 : DD code 323 (.iconst 1) 1 324 := ⟨by decide +kernel, rfl⟩
theorem dL_324 : DD code 324 (.iadd) 1 325 := ⟨by decide +kernel, rfl⟩
theorem dL_325 : DD code 325 (.iaload) 1 326 := ⟨by decide +kernel, rfl⟩
theorem dL_326 : DD code 326 (.invokevirtual 31) 3 329 := ⟨by decide +kernel, rfl⟩
theorem dL_329 : DD code 329 (.if_icmp .eq 1042) 3 332 := ⟨by decide +kernel, rfl⟩
theorem dL_332 : DD code 332 (.iconst 0) 1 333 := ⟨by decide +kernel, rfl⟩
theorem dL_333 : DD code 333 (.ireturn) 1 334 := ⟨by decide +kernel, rfl⟩
theorem dL_334 : DD code 334 (.aload_n 1) 1 335 := ⟨by decide +kernel, rfl⟩
theorem dL_335 : DD code 335 (.aload_n 0) 1 336 := ⟨by decide +kernel, rfl⟩
theorem dL_336 : DD code 336 (.iload_n 3) 1 337 := ⟨by decide +kernel, rfl⟩
theorem dL_337 : DD code 337 (.iconst 1) 1 338 := ⟨by decide +kernel, rfl⟩
theorem dL_338 : DD code 338 (.iadd) 1 339 := ⟨by decide +kernel, rfl⟩
theorem dL_339 : DD code 339 (.iaload) 1 340 := ⟨by decide +kernel, rfl⟩
theorem dL_340 : DD code 340 (.aload_n 0) 1 341 := ⟨by decide +kernel, rfl⟩
theorem dL_341 : DD code 341 (.iload_n 3) 1 342 := ⟨by decide +kernel, rfl⟩
theorem dL_342 : DD code 342 (.iconst 2) 1 343 := ⟨by decide +kernel, rfl⟩
theorem dL_343 : DD code 343 (.iadd) 1 344 := ⟨by decide +kernel, rfl⟩
theorem dL_344 : DD code 344 (.iaload) 1 345 := ⟨by decide +kernel, rfl⟩
theorem dL_345 : DD code 345 (.invokevirtual 32) 3 348 := ⟨by decide +kernel, rfl⟩
theorem dL_348 : DD code 348 (.aload_n 2) 1 349 := ⟨by decide +kernel, rfl⟩
theorem dL_349 : DD code 349 (.aload_n 0) 1 350 := ⟨by decide +kernel, rfl⟩
theorem dL_350 : DD code 350 (.iload_n 3) 1 351 := ⟨by decide +kernel, rfl⟩
theorem dL_351 : DD code 351 (.iconst 1) 1 352 := ⟨by decide +kernel, rfl⟩
theorem dL_352 : DD code 352 (.iadd) 1 353 := ⟨by decide +kernel, rfl⟩
theorem dL_353 : DD code 353 (.iaload) 1 354 := ⟨by decide +kernel, rfl⟩
theorem dL_354 : DD code 354 (.aload_n 0) 1 355 := ⟨by decide +kernel, rfl⟩
theorem dL_355 : DD code 355 (.iload_n 3) 1 356 := ⟨by decide +kernel, rfl⟩
theorem dL_356 : DD code 356 (.iconst 2) 1 357 := ⟨by decide +kernel, rfl⟩
theorem dL_357 : DD code 357 (.iadd) 1 358 := ⟨by decide +kernel, rfl⟩
theorem dL_358 : DD code 358 (.iaload) 1 359 := ⟨by decide +kernel, rfl⟩
theorem dL_359 : DD code 359 (.invokevirtual 36) 3 362 := ⟨by decide +kernel, rfl⟩
theorem dL_362 : DD code 362 (.if_icmp .eq 1009) 3 365 := ⟨by decide +kernel, rfl⟩
theorem dL_365 : DD code 365 (.iconst 0) 1 366 := ⟨by decide +kernel, rfl⟩
theorem dL_366 : DD code 366 (.ireturn) 1 367 := ⟨by decide +kernel, rfl⟩
theorem dL_367 : DD code 367 (.aload_n 1) 1 368 := ⟨by decide +kernel, rfl⟩
theorem dL_368 : DD code 368 (.aload_n 0) 1 369 := ⟨by decide +kernel, rfl⟩
theorem dL_369 : DD code 369 (.iload_n 3) 1 370 := ⟨by decide +kernel, rfl⟩
theorem dL_370 : DD code 370 (.iconst 1) 1 371 := ⟨by decide +kernel, rfl⟩
theorem dL_371 : DD code 371 (.iadd) 1 372 := ⟨by decide +kernel, rfl⟩
theorem dL_372 : DD code 372 (.iaload) 1 373 := ⟨by decide +kernel, rfl⟩
theorem dL_373 : DD code 373 (.aload_n 0) 1 374 := ⟨by decide +kernel, rfl⟩
theorem dL_374 : DD code 374 (.iload_n 3) 1 375 := ⟨by decide +kernel, rfl⟩
theorem dL_375 : DD code 375 (.iconst 2) 1 376 := ⟨by decide +kernel, rfl⟩
theorem dL_376 : DD code 376 (.iadd) 1 377 := ⟨by decide +kernel, rfl⟩
theorem dL_377 : DD code 377 (.iaload) 1 378 := ⟨by decide +kernel, rfl⟩
theorem dL_378 : DD code 378 (.invokevirtual 37) 3 381 := ⟨by decide +kernel, rfl⟩
theorem dL_381 : DD code 381 (.aload_n 2) 1 382 := ⟨by decide +kernel, rfl⟩
theorem dL_382 : DD code 382 (.aload_n 0) 1 383 := ⟨by decide +kernel, rfl⟩
theorem dL_383 : DD code 383 (.iload_n 3) 1 384 := ⟨by decide +kernel, rfl⟩
theorem dL_384 : DD code 384 (.iconst 1) 1 385 := ⟨by decide +kernel, rfl⟩
theorem dL_385 : DD code 385 (.iadd) 1 386 := ⟨by decide +kernel, rfl⟩
theorem dL_386 : DD code 386 (.iaload) 1 387 := ⟨by decide +kernel, rfl⟩
theorem dL_387 : DD code 387 (.aload_n 0) 1 388 := ⟨by decide +kernel, rfl⟩
theorem dL_388 : DD code 388 (.iload_n 3) 1 389 := ⟨by decide +kernel, rfl⟩
theorem dL_389 : DD code 389 (.iconst 2) 1 390 := ⟨by decide +kernel, rfl⟩
theorem dL_390 : DD code 390 (.iadd) 1 391 := ⟨by decide +kernel, rfl⟩
theorem dL_391 : DD code 391 (.iaload) 1 392 := ⟨by decide +kernel, rfl⟩
theorem dL_392 : DD code 392 (.invokevirtual 40) 3 395 := ⟨by decide +kernel, rfl⟩
theorem dL_395 : DD code 395 (.if_icmp .eq 976) 3 398 := ⟨by decide +kernel, rfl⟩
theorem dL_398 : DD code 398 (.iconst 0) 1 399 := ⟨by decide +kernel, rfl⟩
theorem dL_399 : DD code 399 (.ireturn) 1 400 := ⟨by decide +kernel, rfl⟩
theorem dL_400 : DD code 400 (.aload_n 1) 1 401 := ⟨by decide +kernel, rfl⟩
theorem dL_401 : DD code 401 (.aload_n 0) 1 402 := ⟨by decide +kernel, rfl⟩
theorem dL_402 : DD code 402 (.iload_n 3) 1 403 := ⟨by decide +kernel, rfl⟩
theorem dL_403 : DD code 403 (.iconst 1) 1 404 := ⟨by decide +kernel, rfl⟩
theorem dL_404 : DD code 404 (.iadd) 1 405 := ⟨by decide +kernel, rfl⟩
theorem dL_405 : DD code 405 (.iaload) 1 406 := ⟨by decide +kernel, rfl⟩
theorem dL_406 : DD code 406 (.aload_n 0) 1 407 := ⟨by decide +kernel, rfl⟩
theorem dL_407 : DD code 407 (.iload_n 3) 1 408 := ⟨by decide +kernel, rfl⟩
theorem dL_408 : DD code 408 (.iconst 2) 1 409 := ⟨by decide +kernel, rfl⟩
theorem dL_409 : DD code 409 (.iadd) 1 410 := ⟨by decide +kernel, rfl⟩
theorem dL_410 : DD code 410 (.iaload) 1 411 := ⟨by decide +kernel, rfl⟩
theorem dL_411 : DD code 411 (.invokevirtual 41) 3 414 := ⟨by decide +kernel, rfl⟩
theorem dL_414 : DD code 414 (.aload_n 2) 1 415 := ⟨by decide +kernel, rfl⟩
theorem dL_415 : DD code 415 (.aload_n 0) 1 416 := ⟨by decide +kernel, rfl⟩
theorem dL_416 : DD code 416 (.iload_n 3) 1 417 := ⟨by decide +kernel, rfl⟩
theorem dL_417 : DD code 417 (.iconst 1) 1 418 := ⟨by decide +kernel, rfl⟩
theorem dL_418 : DD code 418 (.iadd) 1 419 := ⟨by decide +kernel, rfl⟩
theorem dL_419 : DD code 419 (.iaload) 1 420 := ⟨by decide +kernel, rfl⟩
theorem dL_420 : DD code 420 (.aload_n 0) 1 421 := ⟨by decide +kernel, rfl⟩
theorem dL_421 : DD code 421 (.iload_n 3) 1 422 := ⟨by decide +kernel, rfl⟩
theorem dL_422 : DD code 422 (.iconst 2) 1 423 := ⟨by decide +kernel, rfl⟩
theorem dL_423 : DD code 423 (.iadd) 1 424 := ⟨by decide +kernel, rfl⟩
theorem dL_424 : DD code 424 (.iaload) 1 425 := ⟨by decide +kernel, rfl⟩
theorem dL_425 : DD code 425 (.invokevirtual 44) 3 428 := ⟨by decide +kernel, rfl⟩
theorem dL_428 : DD code 428 (.if_icmp .eq 943) 3 431 := ⟨by decide +kernel, rfl⟩
theorem dL_431 : DD code 431 (.iconst 0) 1 432 := ⟨by decide +kernel, rfl⟩
theorem dL_432 : DD code 432 (.ireturn) 1 433 := ⟨by decide +kernel, rfl⟩
theorem dL_433 : DD code 433 (.aload_n 1) 1 434 := ⟨by decide +kernel, rfl⟩
theorem dL_434 : DD code 434 (.aload_n 0) 1 435 := ⟨by decide +kernel, rfl⟩
theorem dL_435 : DD code 435 (.iload_n 3) 1 436 := ⟨by decide +kernel, rfl⟩
theorem dL_436 : DD code 436 (.iconst 1) 1 437 := ⟨by decide +kernel, rfl⟩
theorem dL_437 : DD code 437 (.iadd) 1 438 := ⟨by decide +kernel, rfl⟩
theorem dL_438 : DD code 438 (.iaload) 1 439 := ⟨by decide +kernel, rfl⟩
theorem dL_439 : DD code 439 (.aload_n 0) 1 440 := ⟨by decide +kernel, rfl⟩
theorem dL_440 : DD code 440 (.iload_n 3) 1 441 := ⟨by decide +kernel, rfl⟩
theorem dL_441 : DD code 441 (.iconst 2) 1 442 := ⟨by decide +kernel, rfl⟩
theorem dL_442 : DD code 442 (.iadd) 1 443 := ⟨by decide +kernel, rfl⟩
theorem dL_443 : DD code 443 (.iaload) 1 444 := ⟨by decide +kernel, rfl⟩
theorem dL_444 : DD code 444 (.invokevirtual 45) 3 447 := ⟨by decide +kernel, rfl⟩
theorem dL_447 : DD code 447 (.aload_n 2) 1 448 := ⟨by decide +kernel, rfl⟩
theorem dL_448 : DD code 448 (.aload_n 0) 1 449 := ⟨by decide +kernel, rfl⟩
theorem dL_449 : DD code 449 (.iload_n 3) 1 450 := ⟨by decide +kernel, rfl⟩
theorem dL_450 : DD code 450 (.iconst 1) 1 451 := ⟨by decide +kernel, rfl⟩
theorem dL_451 : DD code 451 (.iadd) 1 452 := ⟨by decide +kernel, rfl⟩
theorem dL_452 : DD code 452 (.iaload) 1 453 := ⟨by decide +kernel, rfl⟩
theorem dL_453 : DD code 453 (.aload_n 0) 1 454 := ⟨by decide +kernel, rfl⟩
theorem dL_454 : DD code 454 (.iload_n 3) 1 455 := ⟨by decide +kernel, rfl⟩
theorem dL_455 : DD code 455 (.iconst 2) 1 456 := ⟨by decide +kernel, rfl⟩
theorem dL_456 : DD code 456 (.iadd) 1 457 := ⟨by decide +kernel, rfl⟩
theorem dL_457 : DD code 457 (.iaload) 1 458 := ⟨by decide +kernel, rfl⟩
theorem dL_458 : DD code 458 (.invokevirtual 48) 3 461 := ⟨by decide +kernel, rfl⟩
theorem dL_461 : DD code 461 (.if_icmp .eq 910) 3 464 := ⟨by decide +kernel, rfl⟩
theorem dL_464 : DD code 464 (.iconst 0) 1 465 := ⟨by decide +kernel, rfl⟩
theorem dL_465 : DD code 465 (.ireturn) 1 466 := ⟨by decide +kernel, rfl⟩
theorem dL_466 : DD code 466 (.aload_n 1) 1 467 := ⟨by decide +kernel, rfl⟩
theorem dL_467 : DD code 467 (.aload_n 0) 1 468 := ⟨by decide +kernel, rfl⟩
theorem dL_468 : DD code 468 (.iload_n 3) 1 469 := ⟨by decide +kernel, rfl⟩
theorem dL_469 : DD code 469 (.iconst 1) 1 470 := ⟨by decide +kernel, rfl⟩
theorem dL_470 : DD code 470 (.iadd) 1 471 := ⟨by decide +kernel, rfl⟩
theorem dL_471 : DD code 471 (.iaload) 1 472 := ⟨by decide +kernel, rfl⟩
theorem dL_472 : DD code 472 (.aload_n 0) 1 473 := ⟨by decide +kernel, rfl⟩
theorem dL_473 : DD code 473 (.iload_n 3) 1 474 := ⟨by decide +kernel, rfl⟩
theorem dL_474 : DD code 474 (.iconst 2) 1 475 := ⟨by decide +kernel, rfl⟩
theorem dL_475 : DD code 475 (.iadd) 1 476 := ⟨by decide +kernel, rfl⟩
theorem dL_476 : DD code 476 (.iaload) 1 477 := ⟨by decide +kernel, rfl⟩
theorem dL_477 : DD code 477 (.invokevirtual 49) 3 480 := ⟨by decide +kernel, rfl⟩
theorem dL_480 : DD code 480 (.aload_n 2) 1 481 := ⟨by decide +kernel, rfl⟩
theorem dL_481 : DD code 481 (.aload_n 0) 1 482 := ⟨by decide +kernel, rfl⟩
theorem dL_482 : DD code 482 (.iload_n 3) 1 483 := ⟨by decide +kernel, rfl⟩
theorem dL_483 : DD code 483 (.iconst 1) 1 484 := ⟨by decide +kernel, rfl⟩
theorem dL_484 : DD code 484 (.iadd) 1 485 := ⟨by decide +kernel, rfl⟩
theorem dL_485 : DD code 485 (.iaload) 1 486 := ⟨by decide +kernel, rfl⟩
theorem dL_486 : DD code 486 (.aload_n 0) 1 487 := ⟨by decide +kernel, rfl⟩
theorem dL_487 : DD code 487 (.iload_n 3) 1 488 := ⟨by decide +kernel, rfl⟩
theorem dL_488 : DD code 488 (.iconst 2) 1 489 := ⟨by decide +kernel, rfl⟩
theorem dL_489 : DD code 489 (.iadd) 1 490 := ⟨by decide +kernel, rfl⟩
theorem dL_490 : DD code 490 (.iaload) 1 491 := ⟨by decide +kernel, rfl⟩
theorem dL_491 : DD code 491 (.invokevirtual 52) 3 494 := ⟨by decide +kernel, rfl⟩
theorem dL_494 : DD code 494 (.if_icmp .eq 877) 3 497 := ⟨by decide +kernel, rfl⟩
theorem dL_497 : DD code 497 (.iconst 0) 1 498 := ⟨by decide +kernel, rfl⟩
theorem dL_498 : DD code 498 (.ireturn) 1 499 := ⟨by decide +kernel, rfl⟩
theorem dL_499 : DD code 499 (.aload_n 1) 1 500 := ⟨by decide +kernel, rfl⟩
theorem dL_500 : DD code 500 (.aload_n 0) 1 501 := ⟨by decide +kernel, rfl⟩
theorem dL_501 : DD code 501 (.iload_n 3) 1 502 := ⟨by decide +kernel, rfl⟩
theorem dL_502 : DD code 502 (.iconst 1) 1 503 := ⟨by decide +kernel, rfl⟩
theorem dL_503 : DD code 503 (.iadd) 1 504 := ⟨by decide +kernel, rfl⟩
theorem dL_504 : DD code 504 (.iaload) 1 505 := ⟨by decide +kernel, rfl⟩
theorem dL_505 : DD code 505 (.aload_n 0) 1 506 := ⟨by decide +kernel, rfl⟩
theorem dL_506 : DD code 506 (.iload_n 3) 1 507 := ⟨by decide +kernel, rfl⟩
theorem dL_507 : DD code 507 (.iconst 2) 1 508 := ⟨by decide +kernel, rfl⟩
theorem dL_508 : DD code 508 (.iadd) 1 509 := ⟨by decide +kernel, rfl⟩
theorem dL_509 : DD code 509 (.iaload) 1 510 := ⟨by decide +kernel, rfl⟩
theorem dL_510 : DD code 510 (.invokevirtual 53) 3 513 := ⟨by decide +kernel, rfl⟩
theorem dL_513 : DD code 513 (.aload_n 2) 1 514 := ⟨by decide +kernel, rfl⟩
theorem dL_514 : DD code 514 (.aload_n 0) 1 515 := ⟨by decide +kernel, rfl⟩
theorem dL_515 : DD code 515 (.iload_n 3) 1 516 := ⟨by decide +kernel, rfl⟩
theorem dL_516 : DD code 516 (.iconst 1) 1 517 := ⟨by decide +kernel, rfl⟩
theorem dL_517 : DD code 517 (.iadd) 1 518 := ⟨by decide +kernel, rfl⟩
theorem dL_518 : DD code 518 (.iaload) 1 519 := ⟨by decide +kernel, rfl⟩
theorem dL_519 : DD code 519 (.aload_n 0) 1 520 := ⟨by decide +kernel, rfl⟩
theorem dL_520 : DD code 520 (.iload_n 3) 1 521 := ⟨by decide +kernel, rfl⟩
theorem dL_521 : DD code 521 (.iconst 2) 1 522 := ⟨by decide +kernel, rfl⟩
theorem dL_522 : DD code 522 (.iadd) 1 523 := ⟨by decide +kernel, rfl⟩
theorem dL_523 : DD code 523 (.iaload) 1 524 := ⟨by decide +kernel, rfl⟩
theorem dL_524 : DD code 524 (.invokevirtual 56) 3 527 := ⟨by decide +kernel, rfl⟩
theorem dL_527 : DD code 527 (.if_icmp .eq 844) 3 530 := ⟨by decide +kernel, rfl⟩
theorem dL_530 : DD code 530 (.iconst 0) 1 531 := ⟨by decide +kernel, rfl⟩
theorem dL_531 : DD code 531 (.ireturn) 1 532 := ⟨by decide +kernel, rfl⟩
theorem dL_532 : DD code 532 (.aload_n 1) 1 533 := ⟨by decide +kernel, rfl⟩
theorem dL_533 : DD code 533 (.aload_n 0) 1 534 := ⟨by decide +kernel, rfl⟩
theorem dL_534 : DD code 534 (.iload_n 3) 1 535 := ⟨by decide +kernel, rfl⟩
theorem dL_535 : DD code 535 (.iconst 1) 1 536 := ⟨by decide +kernel, rfl⟩
theorem dL_536 : DD code 536 (.iadd) 1 537 := ⟨by decide +kernel, rfl⟩
theorem dL_537 : DD code 537 (.iaload) 1 538 := ⟨by decide +kernel, rfl⟩
theorem dL_538 : DD code 538 (.invokevirtual 57) 3 541 := ⟨by decide +kernel, rfl⟩
theorem dL_541 : DD code 541 (.aload_n 2) 1 542 := ⟨by decide +kernel, rfl⟩
theorem dL_542 : DD code 542 (.aload_n 0) 1 543 := ⟨by decide +kernel, rfl⟩
theorem dL_543 : DD code 543 (.iload_n 3) 1 544 := ⟨by decide +kernel, rfl⟩
theorem dL_544 : DD code 544 (.iconst 1) 1 545 := ⟨by decide +kernel, rfl⟩
theorem dL_545 : DD code 545 (.iadd) 1 546 := ⟨by decide +kernel, rfl⟩
theorem dL_546 : DD code 546 (.iaload) 1 547 := ⟨by decide +kernel, rfl⟩
theorem dL_547 : DD code 547 (.invokevirtual 60) 3 550 := ⟨by decide +kernel, rfl⟩
theorem dL_550 : DD code 550 (.if_icmp .eq 821) 3 553 := ⟨by decide +kernel, rfl⟩
theorem dL_553 : DD code 553 (.iconst 0) 1 554 := ⟨by decide +kernel, rfl⟩
theorem dL_554 : DD code 554 (.ireturn) 1 555 := ⟨by decide +kernel, rfl⟩
theorem dL_555 : DD code 555 (.aload_n 1) 1 556 := ⟨by decide +kernel, rfl⟩
theorem dL_556 : DD code 556 (.invokevirtual 61) 3 559 := ⟨by decide +kernel, rfl⟩
theorem dL_559 : DD code 559 (.aload_n 2) 1 560 := ⟨by decide +kernel, rfl⟩
theorem dL_560 : DD code 560 (.invokevirtual 64) 3 563 := ⟨by decide +kernel, rfl⟩
theorem dL_563 : DD code 563 (.if_icmp .eq 808) 3 566 := ⟨by decide +kernel, rfl⟩
theorem dL_566 : DD code 566 (.iconst 0) 1 567 := ⟨by decide +kernel, rfl⟩
theorem dL_567 : DD code 567 (.ireturn) 1 568 := ⟨by decide +kernel, rfl⟩
theorem dL_568 : DD code 568 (.aload_n 1) 1 569 := ⟨by decide +kernel, rfl⟩
theorem dL_569 : DD code 569 (.invokevirtual 65) 3 572 := ⟨by decide +kernel, rfl⟩
theorem dL_572 : DD code 572 (.aload_n 2) 1 573 := ⟨by decide +kernel, rfl⟩
theorem dL_573 : DD code 573 (.invokevirtual 69) 3 576 := ⟨by decide +kernel, rfl⟩
theorem dL_576 : DD code 576 (.if_icmp .eq 795) 3 579 := ⟨by decide +kernel, rfl⟩
theorem dL_579 : DD code 579 (.iconst 0) 1 580 := ⟨by decide +kernel, rfl⟩
theorem dL_580 : DD code 580 (.ireturn) 1 581 := ⟨by decide +kernel, rfl⟩
theorem dL_581 : DD code 581 (.aload_n 1) 1 582 := ⟨by decide +kernel, rfl⟩
theorem dL_582 : DD code 582 (.invokevirtual 70) 3 585 := ⟨by decide +kernel, rfl⟩
theorem dL_585 : DD code 585 (.aload_n 2) 1 586 := ⟨by decide +kernel, rfl⟩
theorem dL_586 : DD code 586 (.invokevirtual 73) 3 589 := ⟨by decide +kernel, rfl⟩
theorem dL_589 : DD code 589 (.if_icmp .eq 782) 3 592 := ⟨by decide +kernel, rfl⟩
theorem dL_592 : DD code 592 (.iconst 0) 1 593 := ⟨by decide +kernel, rfl⟩
theorem dL_593 : DD code 593 (.ireturn) 1 594 := ⟨by decide +kernel, rfl⟩
theorem dL_594 : DD code 594 (.aload_n 1) 1 595 := ⟨by decide +kernel, rfl⟩
theorem dL_595 : DD code 595 (.aload_n 0) 1 596 := ⟨by decide +kernel, rfl⟩
theorem dL_596 : DD code 596 (.iload_n 3) 1 597 := ⟨by decide +kernel, rfl⟩
theorem dL_597 : DD code 597 (.iconst 1) 1 598 := ⟨by decide +kernel, rfl⟩
theorem dL_598 : DD code 598 (.iadd) 1 599 := ⟨by decide +kernel, rfl⟩
theorem dL_599 : DD code 599 (.iaload) 1 600 := ⟨by decide +kernel, rfl⟩
theorem dL_600 : DD code 600 (.aload_n 0) 1 601 := ⟨by decide +kernel, rfl⟩
theorem dL_601 : DD code 601 (.iload_n 3) 1 602 := ⟨by decide +kernel, rfl⟩
theorem dL_602 : DD code 602 (.iconst 2) 1 603 := ⟨by decide +kernel, rfl⟩
theorem dL_603 : DD code 603 (.iadd) 1 604 := ⟨by decide +kernel, rfl⟩
theorem dL_604 : DD code 604 (.iaload) 1 605 := ⟨by decide +kernel, rfl⟩
theorem dL_605 : DD code 605 (.aload_n 0) 1 606 := ⟨by decide +kernel, rfl⟩
theorem dL_606 : DD code 606 (.iload_n 3) 1 607 := ⟨by decide +kernel, rfl⟩
theorem dL_607 : DD code 607 (.iconst 3) 1 608 := ⟨by decide +kernel, rfl⟩
theorem dL_608 : DD code 608 (.iadd) 1 609 := ⟨by decide +kernel, rfl⟩
theorem dL_609 : DD code 609 (.iaload) 1 610 := ⟨by decide +kernel, rfl⟩
theorem dL_610 : DD code 610 (.invokevirtual 74) 3 613 := ⟨by decide +kernel, rfl⟩
theorem dL_613 : DD code 613 (.aload_n 2) 1 614 := ⟨by decide +kernel, rfl⟩
theorem dL_614 : DD code 614 (.aload_n 0) 1 615 := ⟨by decide +kernel, rfl⟩
theorem dL_615 : DD code 615 (.iload_n 3) 1 616 := ⟨by decide +kernel, rfl⟩
theorem dL_616 : DD code 616 (.iconst 1) 1 617 := ⟨by decide +kernel, rfl⟩
theorem dL_617 : DD code 617 (.iadd) 1 618 := ⟨by decide +kernel, rfl⟩
theorem dL_618 : DD code 618 (.iaload) 1 619 := ⟨by decide +kernel, rfl⟩
theorem dL_619 : DD code 619 (.aload_n 0) 1 620 := ⟨by decide +kernel, rfl⟩
theorem dL_620 : DD code 620 (.iload_n 3) 1 621 := ⟨by decide +kernel, rfl⟩
theorem dL_621 : DD code 621 (.iconst 2) 1 622 := ⟨by decide +kernel, rfl⟩
theorem dL_622 : DD code 622 (.iadd) 1 623 := ⟨by decide +kernel, rfl⟩
theorem dL_623 : DD code 623 (.iaload) 1 624 := ⟨by decide +kernel, rfl⟩
theorem dL_624 : DD code 624 (.aload_n 0) 1 625 := ⟨by decide +kernel, rfl⟩
theorem dL_625 : DD code 625 (.iload_n 3) 1 626 := ⟨by decide +kernel, rfl⟩
theorem dL_626 : DD code 626 (.iconst 3) 1 627 := ⟨by decide +kernel, rfl⟩
theorem dL_627 : DD code 627 (.iadd) 1 628 := ⟨by decide +kernel, rfl⟩
theorem dL_628 : DD code 628 (.iaload) 1 629 := ⟨by decide +kernel, rfl⟩
theorem dL_629 : DD code 629 (.invokevirtual 78) 3 632 := ⟨by decide +kernel, rfl⟩
theorem dL_632 : DD code 632 (.if_icmp .eq 739) 3 635 := ⟨by decide +kernel, rfl⟩
theorem dL_635 : DD code 635 (.iconst 0) 1 636 := ⟨by decide +kernel, rfl⟩
theorem dL_636 : DD code 636 (.ireturn) 1 637 := ⟨by decide +kernel, rfl⟩
theorem dL_637 : DD code 637 (.aload_n 1) 1 638 := ⟨by decide +kernel, rfl⟩
theorem dL_638 : DD code 638 (.aload_n 0) 1 639 := ⟨by decide +kernel, rfl⟩
theorem dL_639 : DD code 639 (.iload_n 3) 1 640 := ⟨by decide +kernel, rfl⟩
theorem dL_640 : DD code 640 (.iconst 1) 1 641 := ⟨by decide +kernel, rfl⟩
theorem dL_641 : DD code 641 (.iadd) 1 642 := ⟨by decide +kernel, rfl⟩
theorem dL_642 : DD code 642 (.iaload) 1 643 := ⟨by decide +kernel, rfl⟩
theorem dL_643 : DD code 643 (.invokevirtual 79) 3 646 := ⟨by decide +kernel, rfl⟩
theorem dL_646 : DD code 646 (.aload_n 2) 1 647 := ⟨by decide +kernel, rfl⟩
theorem dL_647 : DD code 647 (.aload_n 0) 1 648 := ⟨by decide +kernel, rfl⟩
theorem dL_648 : DD code 648 (.iload_n 3) 1 649 := ⟨by decide +kernel, rfl⟩
theorem dL_649 : DD code 649 (.iconst 1) 1 650 := ⟨by decide +kernel, rfl⟩
theorem dL_650 : DD code 650 (.iadd) 1 651 := ⟨by decide +kernel, rfl⟩
theorem dL_651 : DD code 651 (.iaload) 1 652 := ⟨by decide +kernel, rfl⟩
theorem dL_652 : DD code 652 (.invokevirtual 82) 3 655 := ⟨by decide +kernel, rfl⟩
theorem dL_655 : DD code 655 (.if_icmp .eq 716) 3 658 := ⟨by decide +kernel, rfl⟩
theorem dL_658 : DD code 658 (.iconst 0) 1 659 := ⟨by decide +kernel, rfl⟩
theorem dL_659 : DD code 659 (.ireturn) 1 660 := ⟨by decide +kernel, rfl⟩
theorem dL_660 : DD code 660 (.aload_n 1) 1 661 := ⟨by decide +kernel, rfl⟩
theorem dL_661 : DD code 661 (.aload_n 0) 1 662 := ⟨by decide +kernel, rfl⟩
theorem dL_662 : DD code 662 (.iload_n 3) 1 663 := ⟨by decide +kernel, rfl⟩
theorem dL_663 : DD code 663 (.iconst 1) 1 664 := ⟨by decide +kernel, rfl⟩
theorem dL_664 : DD code 664 (.iadd) 1 665 := ⟨by decide +kernel, rfl⟩
theorem dL_665 : DD code 665 (.iaload) 1 666 := ⟨by decide +kernel, rfl⟩
theorem dL_666 : DD code 666 (.invokevirtual 83) 3 669 := ⟨by decide +kernel, rfl⟩
theorem dL_669 : DD code 669 (.aload_n 2) 1 670 := ⟨by decide +kernel, rfl⟩
theorem dL_670 : DD code 670 (.aload_n 0) 1 671 := ⟨by decide +kernel, rfl⟩
theorem dL_671 : DD code 671 (.iload_n 3) 1 672 := ⟨by decide +kernel, rfl⟩
theorem dL_672 : DD code 672 (.iconst 1) 1 673 := ⟨by decide +kernel, rfl⟩
theorem dL_673 : DD code 673 (.iadd) 1 674 := ⟨by decide +kernel, rfl⟩
theorem dL_674 : DD code 674 (.iaload) 1 675 := ⟨by decide +kernel, rfl⟩
theorem dL_675 : DD code 675 (.invokevirtual 86) 3 678 := ⟨by decide +kernel, rfl⟩
theorem dL_678 : DD code 678 (.if_icmp .eq 693) 3 681 := ⟨by decide +kernel, rfl⟩
theorem dL_681 : DD code 681 (.iconst 0) 1 682 := ⟨by decide +kernel, rfl⟩
theorem dL_682 : DD code 682 (.ireturn) 1 683 := ⟨by decide +kernel, rfl⟩
theorem dL_683 : DD code 683 (.aload_n 1) 1 684 := ⟨by decide +kernel, rfl⟩
theorem dL_684 : DD code 684 (.aload_n 0) 1 685 := ⟨by decide +kernel, rfl⟩
theorem dL_685 : DD code 685 (.iload_n 3) 1 686 := ⟨by decide +kernel, rfl⟩
theorem dL_686 : DD code 686 (.iconst 1) 1 687 := ⟨by decide +kernel, rfl⟩
theorem dL_687 : DD code 687 (.iadd) 1 688 := ⟨by decide +kernel, rfl⟩
theorem dL_688 : DD code 688 (.iaload) 1 689 := ⟨by decide +kernel, rfl⟩
theorem dL_689 : DD code 689 (.invokevirtual 87) 3 692 := ⟨by decide +kernel, rfl⟩
theorem dL_692 : DD code 692 (.aload_n 2) 1 693 := ⟨by decide +kernel, rfl⟩
theorem dL_693 : DD code 693 (.aload_n 0) 1 694 := ⟨by decide +kernel, rfl⟩
theorem dL_694 : DD code 694 (.iload_n 3) 1 695 := ⟨by decide +kernel, rfl⟩
theorem dL_695 : DD code 695 (.iconst 1) 1 696 := ⟨by decide +kernel, rfl⟩
theorem dL_696 : DD code 696 (.iadd) 1 697 := ⟨by decide +kernel, rfl⟩
theorem dL_697 : DD code 697 (.iaload) 1 698 := ⟨by decide +kernel, rfl⟩
theorem dL_698 : DD code 698 (.invokevirtual 90) 3 701 := ⟨by decide +kernel, rfl⟩
theorem dL_701 : DD code 701 (.if_icmp .eq 670) 3 704 := ⟨by decide +kernel, rfl⟩
theorem dL_704 : DD code 704 (.iconst 0) 1 705 := ⟨by decide +kernel, rfl⟩
theorem dL_705 : DD code 705 (.ireturn) 1 706 := ⟨by decide +kernel, rfl⟩
theorem dL_706 : DD code 706 (.aload_n 1) 1 707 := ⟨by decide +kernel, rfl⟩
theorem dL_707 : DD code 707 (.aload_n 0) 1 708 := ⟨by decide +kernel, rfl⟩
theorem dL_708 : DD code 708 (.iload_n 3) 1 709 := ⟨by decide +kernel, rfl⟩
theorem dL_709 : DD code 709 (.iconst 1) 1 710 := ⟨by decide +kernel, rfl⟩
theorem dL_710 : DD code 710 (.iadd) 1 711 := ⟨by decide +kernel, rfl⟩
theorem dL_711 : DD code 711 (.iaload) 1 712 := ⟨by decide +kernel, rfl⟩
theorem dL_712 : DD code 712 (.aload_n 0) 1 713 := ⟨by decide +kernel, rfl⟩
theorem dL_713 : DD code 713 (.iload_n 3) 1 714 := ⟨by decide +kernel, rfl⟩
theorem dL_714 : DD code 714 (.iconst 2) 1 715 := ⟨by decide +kernel, rfl⟩
theorem dL_715 : DD code 715 (.iadd) 1 716 := ⟨by decide +kernel, rfl⟩
theorem dL_716 : DD code 716 (.iaload) 1 717 := ⟨by decide +kernel, rfl⟩
theorem dL_717 : DD code 717 (.invokevirtual 91) 3 720 := ⟨by decide +kernel, rfl⟩
theorem dL_720 : DD code 720 (.aload_n 2) 1 721 := ⟨by decide +kernel, rfl⟩
theorem dL_721 : DD code 721 (.aload_n 0) 1 722 := ⟨by decide +kernel, rfl⟩
theorem dL_722 : DD code 722 (.iload_n 3) 1 723 := ⟨by decide +kernel, rfl⟩
theorem dL_723 : DD code 723 (.iconst 1) 1 724 := ⟨by decide +kernel, rfl⟩
theorem dL_724 : DD code 724 (.iadd) 1 725 := ⟨by decide +kernel, rfl⟩
theorem dL_725 : DD code 725 (.iaload) 1 726 := ⟨by decide +kernel, rfl⟩
theorem dL_726 : DD code 726 (.aload_n 0) 1 727 := ⟨by decide +kernel, rfl⟩
theorem dL_727 : DD code 727 (.iload_n 3) 1 728 := ⟨by decide +kernel, rfl⟩
theorem dL_728 : DD code 728 (.iconst 2) 1 729 := ⟨by decide +kernel, rfl⟩
theorem dL_729 : DD code 729 (.iadd) 1 730 := ⟨by decide +kernel, rfl⟩
theorem dL_730 : DD code 730 (.iaload) 1 731 := ⟨by decide +kernel, rfl⟩
theorem dL_731 : DD code 731 (.invokevirtual 94) 3 734 := ⟨by decide +kernel, rfl⟩
theorem dL_734 : DD code 734 (.if_icmp .eq 637) 3 737 := ⟨by decide +kernel, rfl⟩
theorem dL_737 : DD code 737 (.iconst 0) 1 738 := ⟨by decide +kernel, rfl⟩
theorem dL_738 : DD code 738 (.ireturn) 1 739 := ⟨by decide +kernel, rfl⟩
theorem dL_739 : DD code 739 (.aload_n 1) 1 740 := ⟨by decide +kernel, rfl⟩
theorem dL_740 : DD code 740 (.aload_n 0) 1 741 := ⟨by decide +kernel, rfl⟩
theorem dL_741 : DD code 741 (.iload_n 3) 1 742 := ⟨by decide +kernel, rfl⟩
theorem dL_742 : DD code 742 (.iconst 1) 1 743 := ⟨by decide +kernel, rfl⟩
theorem dL_743 : DD code 743 (.iadd) 1 744 := ⟨by decide +kernel, rfl⟩
theorem dL_744 : DD code 744 (.iaload) 1 745 := ⟨by decide +kernel, rfl⟩
theorem dL_745 : DD code 745 (.invokevirtual 95) 3 748 := ⟨by decide +kernel, rfl⟩
theorem dL_748 : DD code 748 (.aload_n 2) 1 749 := ⟨by decide +kernel, rfl⟩
theorem dL_749 : DD code 749 (.aload_n 0) 1 750 := ⟨by decide +kernel, rfl⟩
theorem dL_750 : DD code 750 (.iload_n 3) 1 751 := ⟨by decide +kernel, rfl⟩
theorem dL_751 : DD code 751 (.iconst 1) 1 752 := ⟨by decide +kernel, rfl⟩
theorem dL_752 : DD code 752 (.iadd) 1 753 := ⟨by decide +kernel, rfl⟩
theorem dL_753 : DD code 753 (.iaload) 1 754 := ⟨by decide +kernel, rfl⟩
theorem dL_754 : DD code 754 (.invokevirtual 98) 3 757 := ⟨by decide +kernel, rfl⟩
theorem dL_757 : DD code 757 (.if_icmp .eq 614) 3 760 := ⟨by decide +kernel, rfl⟩
theorem dL_760 : DD code 760 (.iconst 0) 1 761 := ⟨by decide +kernel, rfl⟩
theorem dL_761 : DD code 761 (.ireturn) 1 762 := ⟨by decide +kernel, rfl⟩
theorem dL_762 : DD code 762 (.aload_n 1) 1 763 := ⟨by decide +kernel, rfl⟩
theorem dL_763 : DD code 763 (.invokevirtual 99) 3 766 := ⟨by decide +kernel, rfl⟩
theorem dL_766 : DD code 766 (.aload_n 2) 1 767 := ⟨by decide +kernel, rfl⟩
theorem dL_767 : DD code 767 (.invokevirtual 102) 3 770 := ⟨by decide +kernel, rfl⟩
theorem dL_770 : DD code 770 (.if_icmp .eq 601) 3 773 := ⟨by decide +kernel, rfl⟩
theorem dL_773 : DD code 773 (.iconst 0) 1 774 := ⟨by decide +kernel, rfl⟩
theorem dL_774 : DD code 774 (.ireturn) 1 775 := ⟨by decide +kernel, rfl⟩
theorem dL_775 : DD code 775 (.aload_n 1) 1 776 := ⟨by decide +kernel, rfl⟩
theorem dL_776 : DD code 776 (.aload_n 0) 1 777 := ⟨by decide +kernel, rfl⟩
theorem dL_777 : DD code 777 (.iload_n 3) 1 778 := ⟨by decide +kernel, rfl⟩
theorem dL_778 : DD code 778 (.iconst 1) 1 779 := ⟨by decide +kernel, rfl⟩
theorem dL_779 : DD code 779 (.iadd) 1 780 := ⟨by decide +kernel, rfl⟩
theorem dL_780 : DD code 780 (.iaload) 1 781 := ⟨by decide +kernel, rfl⟩
theorem dL_781 : DD code 781 (.aload_n 0) 1 782 := ⟨by decide +kernel, rfl⟩
theorem dL_782 : DD code 782 (.iload_n 3) 1 783 := ⟨by decide +kernel, rfl⟩
theorem dL_783 : DD code 783 (.iconst 2) 1 784 := ⟨by decide +kernel, rfl⟩
theorem dL_784 : DD code 784 (.iadd) 1 785 := ⟨by decide +kernel, rfl⟩
theorem dL_785 : DD code 785 (.iaload) 1 786 := ⟨by decide +kernel, rfl⟩
theorem dL_786 : DD code 786 (.invokevirtual 103) 3 789 := ⟨by decide +kernel, rfl⟩
theorem dL_789 : DD code 789 (.aload_n 2) 1 790 := ⟨by decide +kernel, rfl⟩
theorem dL_790 : DD code 790 (.aload_n 0) 1 791 := ⟨by decide +kernel, rfl⟩
theorem dL_791 : DD code 791 (.iload_n 3) 1 792 := ⟨by decide +kernel, rfl⟩
theorem dL_792 : DD code 792 (.iconst 1) 1 793 := ⟨by decide +kernel, rfl⟩
theorem dL_793 : DD code 793 (.iadd) 1 794 := ⟨by decide +kernel, rfl⟩
theorem dL_794 : DD code 794 (.iaload) 1 795 := ⟨by decide +kernel, rfl⟩
theorem dL_795 : DD code 795 (.aload_n 0) 1 796 := ⟨by decide +kernel, rfl⟩
theorem dL_796 : DD code 796 (.iload_n 3) 1 797 := ⟨by decide +kernel, rfl⟩
theorem dL_797 : DD code 797 (.iconst 2) 1 798 := ⟨by decide +kernel, rfl⟩
theorem dL_798 : DD code 798 (.iadd) 1 799 := ⟨by decide +kernel, rfl⟩
theorem dL_799 : DD code 799 (.iaload) 1 800 := ⟨by decide +kernel, rfl⟩
theorem dL_800 : DD code 800 (.invokevirtual 106) 3 803 := ⟨by decide +kernel, rfl⟩
theorem dL_803 : DD code 803 (.if_icmp .eq 568) 3 806 := ⟨by decide +kernel, rfl⟩
theorem dL_806 : DD code 806 (.iconst 0) 1 807 := ⟨by decide +kernel, rfl⟩
theorem dL_807 : DD code 807 (.ireturn) 1 808 := ⟨by decide +kernel, rfl⟩
theorem dL_808 : DD code 808 (.aload_n 1) 1 809 := ⟨by decide +kernel, rfl⟩
theorem dL_809 : DD code 809 (.aload_n 0) 1 810 := ⟨by decide +kernel, rfl⟩
theorem dL_810 : DD code 810 (.iload_n 3) 1 811 := ⟨by decide +kernel, rfl⟩
theorem dL_811 : DD code 811 (.iconst 1) 1 812 := ⟨by decide +kernel, rfl⟩
theorem dL_812 : DD code 812 (.iadd) 1 813 := ⟨by decide +kernel, rfl⟩
theorem dL_813 : DD code 813 (.iaload) 1 814 := ⟨by decide +kernel, rfl⟩
theorem dL_814 : DD code 814 (.invokevirtual 107) 3 817 := ⟨by decide +kernel, rfl⟩
theorem dL_817 : DD code 817 (.aload_n 2) 1 818 := ⟨by decide +kernel, rfl⟩
theorem dL_818 : DD code 818 (.aload_n 0) 1 819 := ⟨by decide +kernel, rfl⟩
theorem dL_819 : DD code 819 (.iload_n 3) 1 820 := ⟨by decide +kernel, rfl⟩
theorem dL_820 : DD code 820 (.iconst 1) 1 821 := ⟨by decide +kernel, rfl⟩
theorem dL_821 : DD code 821 (.iadd) 1 822 := ⟨by decide +kernel, rfl⟩
theorem dL_822 : DD code 822 (.iaload) 1 823 := ⟨by decide +kernel, rfl⟩
theorem dL_823 : DD code 823 (.invokevirtual 110) 3 826 := ⟨by decide +kernel, rfl⟩
theorem dL_826 : DD code 826 (.if_icmp .eq 545) 3 829 := ⟨by decide +kernel, rfl⟩
theorem dL_829 : DD code 829 (.iconst 0) 1 830 := ⟨by decide +kernel, rfl⟩
theorem dL_830 : DD code 830 (.ireturn) 1 831 := ⟨by decide +kernel, rfl⟩
theorem dL_831 : DD code 831 (.aload_n 1) 1 832 := ⟨by decide +kernel, rfl⟩
theorem dL_832 : DD code 832 (.aload_n 0) 1 833 := ⟨by decide +kernel, rfl⟩
theorem dL_833 : DD code 833 (.iload_n 3) 1 834 := ⟨by decide +kernel, rfl⟩
theorem dL_834 : DD code 834 (.iconst 1) 1 835 := ⟨by decide +kernel, rfl⟩
theorem dL_835 : DD code 835 (.iadd) 1 836 := ⟨by decide +kernel, rfl⟩
theorem dL_836 : DD code 836 (.iaload) 1 837 := ⟨by decide +kernel, rfl⟩
theorem dL_837 : DD code 837 (.invokevirtual 111) 3 840 := ⟨by decide +kernel, rfl⟩
theorem dL_840 : DD code 840 (.aload_n 2) 1 841 := ⟨by decide +kernel, rfl⟩
theorem dL_841 : DD code 841 (.aload_n 0) 1 842 := ⟨by decide +kernel, rfl⟩
theorem dL_842 : DD code 842 (.iload_n 3) 1 843 := ⟨by decide +kernel, rfl⟩
theorem dL_843 : DD code 843 (.iconst 1) 1 844 := ⟨by decide +kernel, rfl⟩
theorem dL_844 : DD code 844 (.iadd) 1 845 := ⟨by decide +kernel, rfl⟩
theorem dL_845 : DD code 845 (.iaload) 1 846 := ⟨by decide +kernel, rfl⟩
theorem dL_846 : DD code 846 (.invokevirtual 114) 3 849 := ⟨by decide +kernel, rfl⟩
theorem dL_849 : DD code 849 (.if_icmp .eq 522) 3 852 := ⟨by decide +kernel, rfl⟩
theorem dL_852 : DD code 852 (.iconst 0) 1 853 := ⟨by decide +kernel, rfl⟩
theorem dL_853 : DD code 853 (.ireturn) 1 854 := ⟨by decide +kernel, rfl⟩
theorem dL_854 : DD code 854 (.aload_n 1) 1 855 := ⟨by decide +kernel, rfl⟩
theorem dL_855 : DD code 855 (.aload_n 0) 1 856 := ⟨by decide +kernel, rfl⟩
theorem dL_856 : DD code 856 (.iload_n 3) 1 857 := ⟨by decide +kernel, rfl⟩
theorem dL_857 : DD code 857 (.iconst 1) 1 858 := ⟨by decide +kernel, rfl⟩
theorem dL_858 : DD code 858 (.iadd) 1 859 := ⟨by decide +kernel, rfl⟩
theorem dL_859 : DD code 859 (.iaload) 1 860 := ⟨by decide +kernel, rfl⟩
theorem dL_860 : DD code 860 (.aload_n 0) 1 861 := ⟨by decide +kernel, rfl⟩
theorem dL_861 : DD code 861 (.iload_n 3) 1 862 := ⟨by decide +kernel, rfl⟩
theorem dL_862 : DD code 862 (.iconst 2) 1 863 := ⟨by decide +kernel, rfl⟩
theorem dL_863 : DD code 863 (.iadd) 1 864 := ⟨by decide +kernel, rfl⟩
theorem dL_864 : DD code 864 (.iaload) 1 865 := ⟨by decide +kernel, rfl⟩
theorem dL_865 : DD code 865 (.invokevirtual 115) 3 868 := ⟨by decide +kernel, rfl⟩
theorem dL_868 : DD code 868 (.aload_n 2) 1 869 := ⟨by decide +kernel, rfl⟩
theorem dL_869 : DD code 869 (.aload_n 0) 1 870 := ⟨by decide +kernel, rfl⟩
theorem dL_870 : DD code 870 (.iload_n 3) 1 871 := ⟨by decide +kernel, rfl⟩
theorem dL_871 : DD code 871 (.iconst 1) 1 872 := ⟨by decide +kernel, rfl⟩
theorem dL_872 : DD code 872 (.iadd) 1 873 := ⟨by decide +kernel, rfl⟩
theorem dL_873 : DD code 873 (.iaload) 1 874 := ⟨by decide +kernel, rfl⟩
theorem dL_874 : DD code 874 (.aload_n 0) 1 875 := ⟨by decide +kernel, rfl⟩
theorem dL_875 : DD code 875 (.iload_n 3) 1 876 := ⟨by decide +kernel, rfl⟩
theorem dL_876 : DD code 876 (.iconst 2) 1 877 := ⟨by decide +kernel, rfl⟩
theorem dL_877 : DD code 877 (.iadd) 1 878 := ⟨by decide +kernel, rfl⟩
theorem dL_878 : DD code 878 (.iaload) 1 879 := ⟨by decide +kernel, rfl⟩
theorem dL_879 : DD code 879 (.invokevirtual 118) 3 882 := ⟨by decide +kernel, rfl⟩
theorem dL_882 : DD code 882 (.if_icmp .eq 489) 3 885 := ⟨by decide +kernel, rfl⟩
theorem dL_885 : DD code 885 (.iconst 0) 1 886 := ⟨by decide +kernel, rfl⟩
theorem dL_886 : DD code 886 (.ireturn) 1 887 := ⟨by decide +kernel, rfl⟩
theorem dL_887 : DD code 887 (.aload_n 1) 1 888 := ⟨by decide +kernel, rfl⟩
theorem dL_888 : DD code 888 (.invokevirtual 119) 3 891 := ⟨by decide +kernel, rfl⟩
theorem dL_891 : DD code 891 (.aload_n 2) 1 892 := ⟨by decide +kernel, rfl⟩
theorem dL_892 : DD code 892 (.invokevirtual 122) 3 895 := ⟨by decide +kernel, rfl⟩
theorem dL_895 : DD code 895 (.if_icmp .eq 476) 3 898 := ⟨by decide +kernel, rfl⟩
theorem dL_898 : DD code 898 (.iconst 0) 1 899 := ⟨by decide +kernel, rfl⟩
theorem dL_899 : DD code 899 (.ireturn) 1 900 := ⟨by decide +kernel, rfl⟩
theorem dL_900 : DD code 900 (.aload_n 1) 1 901 := ⟨by decide +kernel, rfl⟩
theorem dL_901 : DD code 901 (.aload_n 0) 1 902 := ⟨by decide +kernel, rfl⟩
theorem dL_902 : DD code 902 (.iload_n 3) 1 903 := ⟨by decide +kernel, rfl⟩
theorem dL_903 : DD code 903 (.iconst 1) 1 904 := ⟨by decide +kernel, rfl⟩
theorem dL_904 : DD code 904 (.iadd) 1 905 := ⟨by decide +kernel, rfl⟩
theorem dL_905 : DD code 905 (.iaload) 1 906 := ⟨by decide +kernel, rfl⟩
theorem dL_906 : DD code 906 (.invokevirtual 123) 3 909 := ⟨by decide +kernel, rfl⟩
theorem dL_909 : DD code 909 (.aload_n 2) 1 910 := ⟨by decide +kernel, rfl⟩
theorem dL_910 : DD code 910 (.aload_n 0) 1 911 := ⟨by decide +kernel, rfl⟩
theorem dL_911 : DD code 911 (.iload_n 3) 1 912 := ⟨by decide +kernel, rfl⟩
theorem dL_912 : DD code 912 (.iconst 1) 1 913 := ⟨by decide +kernel, rfl⟩
theorem dL_913 : DD code 913 (.iadd) 1 914 := ⟨by decide +kernel, rfl⟩
theorem dL_914 : DD code 914 (.iaload) 1 915 := ⟨by decide +kernel, rfl⟩
theorem dL_915 : DD code 915 (.invokevirtual 126) 3 918 := ⟨by decide +kernel, rfl⟩
theorem dL_918 : DD code 918 (.if_icmp .eq 453) 3 921 := ⟨by decide +kernel, rfl⟩
theorem dL_921 : DD code 921 (.iconst 0) 1 922 := ⟨by decide +kernel, rfl⟩
theorem dL_922 : DD code 922 (.ireturn) 1 923 := ⟨by decide +kernel, rfl⟩
theorem dL_923 : DD code 923 (.aload_n 1) 1 924 := ⟨by decide +kernel, rfl⟩
theorem dL_924 : DD code 924 (.aload_n 0) 1 925 := ⟨by decide +kernel, rfl⟩
theorem dL_925 : DD code 925 (.iload_n 3) 1 926 := ⟨by decide +kernel, rfl⟩
theorem dL_926 : DD code 926 (.iconst 1) 1 927 := ⟨by decide +kernel, rfl⟩
theorem dL_927 : DD code 927 (.iadd) 1 928 := ⟨by decide +kernel, rfl⟩
theorem dL_928 : DD code 928 (.iaload) 1 929 := ⟨by decide +kernel, rfl⟩
theorem dL_929 : DD code 929 (.aload_n 0) 1 930 := ⟨by decide +kernel, rfl⟩
theorem dL_930 : DD code 930 (.iload_n 3) 1 931 := ⟨by decide +kernel, rfl⟩
theorem dL_931 : DD code 931 (.iconst 2) 1 932 := ⟨by decide +kernel, rfl⟩
theorem dL_932 : DD code 932 (.iadd) 1 933 := ⟨by decide +kernel, rfl⟩
theorem dL_933 : DD code 933 (.iaload) 1 934 := ⟨by decide +kernel, rfl⟩
theorem dL_934 : DD code 934 (.invokevirtual 127) 3 937 := ⟨by decide +kernel, rfl⟩
theorem dL_937 : DD code 937 (.aload_n 2) 1 938 := ⟨by decide +kernel, rfl⟩
theorem dL_938 : DD code 938 (.aload_n 0) 1 939 := ⟨by decide +kernel, rfl⟩
theorem dL_939 : DD code 939 (.iload_n 3) 1 940 := ⟨by decide +kernel, rfl⟩
theorem dL_940 : DD code 940 (.iconst 1) 1 941 := ⟨by decide +kernel, rfl⟩
theorem dL_941 : DD code 941 (.iadd) 1 942 := ⟨by decide +kernel, rfl⟩
theorem dL_942 : DD code 942 (.iaload) 1 943 := ⟨by decide +kernel, rfl⟩
theorem dL_943 : DD code 943 (.aload_n 0) 1 944 := ⟨by decide +kernel, rfl⟩
theorem dL_944 : DD code 944 (.iload_n 3) 1 945 := ⟨by decide +kernel, rfl⟩
theorem dL_945 : DD code 945 (.iconst 2) 1 946 := ⟨by decide +kernel, rfl⟩
theorem dL_946 : DD code 946 (.iadd) 1 947 := ⟨by decide +kernel, rfl⟩
theorem dL_947 : DD code 947 (.iaload) 1 948 := ⟨by decide +kernel, rfl⟩
theorem dL_948 : DD code 948 (.invokevirtual 130) 3 951 := ⟨by decide +kernel, rfl⟩
theorem dL_951 : DD code 951 (.if_icmp .eq 420) 3 954 := ⟨by decide +kernel, rfl⟩
theorem dL_954 : DD code 954 (.iconst 0) 1 955 := ⟨by decide +kernel, rfl⟩
theorem dL_955 : DD code 955 (.ireturn) 1 956 := ⟨by decide +kernel, rfl⟩
theorem dL_956 : DD code 956 (.aload_n 1) 1 957 := ⟨by decide +kernel, rfl⟩
theorem dL_957 : DD code 957 (.aload_n 0) 1 958 := ⟨by decide +kernel, rfl⟩
theorem dL_958 : DD code 958 (.iload_n 3) 1 959 := ⟨by decide +kernel, rfl⟩
theorem dL_959 : DD code 959 (.iconst 1) 1 960 := ⟨by decide +kernel, rfl⟩
theorem dL_960 : DD code 960 (.iadd) 1 961 := ⟨by decide +kernel, rfl⟩
theorem dL_961 : DD code 961 (.iaload) 1 962 := ⟨by decide +kernel, rfl⟩
theorem dL_962 : DD code 962 (.aload_n 0) 1 963 := ⟨by decide +kernel, rfl⟩
theorem dL_963 : DD code 963 (.iload_n 3) 1 964 := ⟨by decide +kernel, rfl⟩
theorem dL_964 : DD code 964 (.iconst 2) 1 965 := ⟨by decide +kernel, rfl⟩
theorem dL_965 : DD code 965 (.iadd) 1 966 := ⟨by decide +kernel, rfl⟩
theorem dL_966 : DD code 966 (.iaload) 1 967 := ⟨by decide +kernel, rfl⟩
theorem dL_967 : DD code 967 (.invokevirtual 131) 3 970 := ⟨by decide +kernel, rfl⟩
theorem dL_970 : DD code 970 (.aload_n 2) 1 971 := ⟨by decide +kernel, rfl⟩
theorem dL_971 : DD code 971 (.aload_n 0) 1 972 := ⟨by decide +kernel, rfl⟩
theorem dL_972 : DD code 972 (.iload_n 3) 1 973 := ⟨by decide +kernel, rfl⟩
theorem dL_973 : DD code 973 (.iconst 1) 1 974 := ⟨by decide +kernel, rfl⟩
theorem dL_974 : DD code 974 (.iadd) 1 975 := ⟨by decide +kernel, rfl⟩
theorem dL_975 : DD code 975 (.iaload) 1 976 := ⟨by decide +kernel, rfl⟩
theorem dL_976 : DD code 976 (.aload_n 0) 1 977 := ⟨by decide +kernel, rfl⟩
theorem dL_977 : DD code 977 (.iload_n 3) 1 978 := ⟨by decide +kernel, rfl⟩
theorem dL_978 : DD code 978 (.iconst 2) 1 979 := ⟨by decide +kernel, rfl⟩
theorem dL_979 : DD code 979 (.iadd) 1 980 := ⟨by decide +kernel, rfl⟩
theorem dL_980 : DD code 980 (.iaload) 1 981 := ⟨by decide +kernel, rfl⟩
theorem dL_981 : DD code 981 (.invokevirtual 134) 3 984 := ⟨by decide +kernel, rfl⟩
theorem dL_984 : DD code 984 (.if_icmp .eq 387) 3 987 := ⟨by decide +kernel, rfl⟩
theorem dL_987 : DD code 987 (.iconst 0) 1 988 := ⟨by decide +kernel, rfl⟩
theorem dL_988 : DD code 988 (.ireturn) 1 989 := ⟨by decide +kernel, rfl⟩
theorem dL_989 : DD code 989 (.aload_n 1) 1 990 := ⟨by decide +kernel, rfl⟩
theorem dL_990 : DD code 990 (.aload_n 0) 1 991 := ⟨by decide +kernel, rfl⟩
theorem dL_991 : DD code 991 (.iload_n 3) 1 992 := ⟨by decide +kernel, rfl⟩
theorem dL_992 : DD code 992 (.iconst 1) 1 993 := ⟨by decide +kernel, rfl⟩
theorem dL_993 : DD code 993 (.iadd) 1 994 := ⟨by decide +kernel, rfl⟩
theorem dL_994 : DD code 994 (.iaload) 1 995 := ⟨by decide +kernel, rfl⟩
theorem dL_995 : DD code 995 (.aload_n 0) 1 996 := ⟨by decide +kernel, rfl⟩
theorem dL_996 : DD code 996 (.iload_n 3) 1 997 := ⟨by decide +kernel, rfl⟩
theorem dL_997 : DD code 997 (.iconst 2) 1 998 := ⟨by decide +kernel, rfl⟩
theorem dL_998 : DD code 998 (.iadd) 1 999 := ⟨by decide +kernel, rfl⟩
theorem dL_999 : DD code 999 (.iaload) 1 1000 := ⟨by decide +kernel, rfl⟩
theorem dL_1000 : DD code 1000 (.aload_n 0) 1 1001 := ⟨by decide +kernel, rfl⟩
theorem dL_1001 : DD code 1001 (.iload_n 3) 1 1002 := ⟨by decide +kernel, rfl⟩
theorem dL_1002 : DD code 1002 (.iconst 3) 1 1003 := ⟨by decide +kernel, rfl⟩
theorem dL_1003 : DD code 1003 (.iadd) 1 1004 := ⟨by decide +kernel, rfl⟩
theorem dL_1004 : DD code 1004 (.iaload) 1 1005 := ⟨by decide +kernel, rfl⟩
theorem dL_1005 : DD code 1005 (.invokevirtual 135) 3 1008 := ⟨by decide +kernel, rfl⟩
theorem dL_1008 : DD code 1008 (.aload_n 2) 1 1009 := ⟨by decide +kernel, rfl⟩
theorem dL_1009 : DD code 1009 (.aload_n 0) 1 1010 := ⟨by decide +kernel, rfl⟩
theorem dL_1010 : DD code 1010 (.iload_n 3) 1 1011 := ⟨by decide +kernel, rfl⟩
theorem dL_1011 : DD code 1011 (.iconst 1) 1 1012 := ⟨by decide +kernel, rfl⟩
theorem dL_1012 : DD code 1012 (.iadd) 1 1013 := ⟨by decide +kernel, rfl⟩
theorem dL_1013 : DD code 1013 (.iaload) 1 1014 := ⟨by decide +kernel, rfl⟩
theorem dL_1014 : DD code 1014 (.aload_n 0) 1 1015 := ⟨by decide +kernel, rfl⟩
theorem dL_1015 : DD code 1015 (.iload_n 3) 1 1016 := ⟨by decide +kernel, rfl⟩
theorem dL_1016 : DD code 1016 (.iconst 2) 1 1017 := ⟨by decide +kernel, rfl⟩
theorem dL_1017 : DD code 1017 (.iadd) 1 1018 := ⟨by decide +kernel, rfl⟩
theorem dL_1018 : DD code 1018 (.iaload) 1 1019 := ⟨by decide +kernel, rfl⟩
theorem dL_1019 : DD code 1019 (.aload_n 0) 1 1020 := ⟨by decide +kernel, rfl⟩
theorem dL_1020 : DD code 1020 (.iload_n 3) 1 1021 := ⟨by decide +kernel, rfl⟩
theorem dL_1021 : DD code 1021 (.iconst 3) 1 1022 := ⟨by decide +kernel, rfl⟩
theorem dL_1022 : DD code 1022 (.iadd) 1 1023 := ⟨by decide +kernel, rfl⟩
theorem dL_1023 : DD code 1023 (.iaload) 1 1024 := ⟨by decide +kernel, rfl⟩
theorem dL_1024 : DD code 1024 (.invokevirtual 138) 3 1027 := ⟨by decide +kernel, rfl⟩
theorem dL_1027 : DD code 1027 (.if_icmp .eq 344) 3 1030 := ⟨by decide +kernel, rfl⟩
theorem dL_1030 : DD code 1030 (.iconst 0) 1 1031 := ⟨by decide +kernel, rfl⟩
theorem dL_1031 : DD code 1031 (.ireturn) 1 1032 := ⟨by decide +kernel, rfl⟩
theorem dL_1032 : DD code 1032 (.aload_n 1) 1 1033 := ⟨by decide +kernel, rfl⟩
theorem dL_1033 : DD code 1033 (.aload_n 0) 1 1034 := ⟨by decide +kernel, rfl⟩
theorem dL_1034 : DD code 1034 (.iload_n 3) 1 1035 := ⟨by decide +kernel, rfl⟩
theorem dL_1035 : DD code 1035 (.iconst 1) 1 1036 := ⟨by decide +kernel, rfl⟩
theorem dL_1036 : DD code 1036 (.iadd) 1 1037 := ⟨by decide +kernel, rfl⟩
theorem dL_1037 : DD code 1037 (.iaload) 1 1038 := ⟨by decide +kernel, rfl⟩
theorem dL_1038 : DD code 1038 (.aload_n 0) 1 1039 := ⟨by decide +kernel, rfl⟩
theorem dL_1039 : DD code 1039 (.iload_n 3) 1 1040 := ⟨by decide +kernel, rfl⟩
theorem dL_1040 : DD code 1040 (.iconst 2) 1 1041 := ⟨by decide +kernel, rfl⟩
theorem dL_1041 : DD code 1041 (.iadd) 1 1042 := ⟨by decide +kernel, rfl⟩
theorem dL_1042 : DD code 1042 (.iaload) 1 1043 := ⟨by decide +kernel, rfl⟩
theorem dL_1043 : DD code 1043 (.aload_n 0) 1 1044 := ⟨by decide +kernel, rfl⟩
theorem dL_1044 : DD code 1044 (.iload_n 3) 1 1045 := ⟨by decide +kernel, rfl⟩
theorem dL_1045 : DD code 1045 (.iconst 3) 1 1046 := ⟨by decide +kernel, rfl⟩
theorem dL_1046 : DD code 1046 (.iadd) 1 1047 := ⟨by decide +kernel, rfl⟩
theorem dL_1047 : DD code 1047 (.iaload) 1 1048 := ⟨by decide +kernel, rfl⟩
theorem dL_1048 : DD code 1048 (.invokevirtual 139) 3 1051 := ⟨by decide +kernel, rfl⟩
theorem dL_1051 : DD code 1051 (.aload_n 2) 1 1052 := ⟨by decide +kernel, rfl⟩
theorem dL_1052 : DD code 1052 (.aload_n 0) 1 1053 := ⟨by decide +kernel, rfl⟩
theorem dL_1053 : DD code 1053 (.iload_n 3) 1 1054 := ⟨by decide +kernel, rfl⟩
theorem dL_1054 : DD code 1054 (.iconst 1) 1 1055 := ⟨by decide +kernel, rfl⟩
theorem dL_1055 : DD code 1055 (.iadd) 1 1056 := ⟨by decide +kernel, rfl⟩
theorem dL_1056 : DD code 1056 (.iaload) 1 1057 := ⟨by decide +kernel, rfl⟩
theorem dL_1057 : DD code 1057 (.aload_n 0) 1 1058 := ⟨by decide +kernel, rfl⟩
theorem dL_1058 : DD code 1058 (.iload_n 3) 1 1059 := ⟨by decide +kernel, rfl⟩
theorem dL_1059 : DD code 1059 (.iconst 2) 1 1060 := ⟨by decide +kernel, rfl⟩
theorem dL_1060 : DD code 1060 (.iadd) 1 1061 := ⟨by decide +kernel, rfl⟩
theorem dL_1061 : DD code 1061 (.iaload) 1 1062 := ⟨by decide +kernel, rfl⟩
theorem dL_1062 : DD code 1062 (.aload_n 0) 1 1063 := ⟨by decide +kernel, rfl⟩
theorem dL_1063 : DD code 1063 (.iload_n 3) 1 1064 := ⟨by decide +kernel, rfl⟩
theorem dL_1064 : DD code 1064 (.iconst 3) 1 1065 := ⟨by decide +kernel, rfl⟩
theorem dL_1065 : DD code 1065 (.iadd) 1 1066 := ⟨by decide +kernel, rfl⟩
theorem dL_1066 : DD code 1066 (.iaload) 1 1067 := ⟨by decide +kernel, rfl⟩
theorem dL_1067 : DD code 1067 (.invokevirtual 142) 3 1070 := ⟨by decide +kernel, rfl⟩
theorem dL_1070 : DD code 1070 (.if_icmp .eq 301) 3 1073 := ⟨by decide +kernel, rfl⟩
theorem dL_1073 : DD code 1073 (.iconst 0) 1 1074 := ⟨by decide +kernel, rfl⟩
theorem dL_1074 : DD code 1074 (.ireturn) 1 1075 := ⟨by decide +kernel, rfl⟩
theorem dL_1075 : DD code 1075 (.aload_n 1) 1 1076 := ⟨by decide +kernel, rfl⟩
theorem dL_1076 : DD code 1076 (.aload_n 0) 1 1077 := ⟨by decide +kernel, rfl⟩
theorem dL_1077 : DD code 1077 (.iload_n 3) 1 1078 := ⟨by decide +kernel, rfl⟩
theorem dL_1078 : DD code 1078 (.iconst 1) 1 1079 := ⟨by decide +kernel, rfl⟩
theorem dL_1079 : DD code 1079 (.iadd) 1 1080 := ⟨by decide +kernel, rfl⟩
theorem dL_1080 : DD code 1080 (.iaload) 1 1081 := ⟨by decide +kernel, rfl⟩
theorem dL_1081 : DD code 1081 (.invokevirtual 143) 3 1084 := ⟨by decide +kernel, rfl⟩
theorem dL_1084 : DD code 1084 (.aload_n 2) 1 1085 := ⟨by decide +kernel, rfl⟩
theorem dL_1085 : DD code 1085 (.aload_n 0) 1 1086 := ⟨by decide +kernel, rfl⟩
theorem dL_1086 : DD code 1086 (.iload_n 3) 1 1087 := ⟨by decide +kernel, rfl⟩
theorem dL_1087 : DD code 1087 (.iconst 1) 1 1088 := ⟨by decide +kernel, rfl⟩
theorem dL_1088 : DD code 1088 (.iadd) 1 1089 := ⟨by decide +kernel, rfl⟩
theorem dL_1089 : DD code 1089 (.iaload) 1 1090 := ⟨by decide +kernel, rfl⟩
theorem dL_1090 : DD code 1090 (.invokevirtual 146) 3 1093 := ⟨by decide +kernel, rfl⟩
theorem dL_1093 : DD code 1093 (.if_icmp .eq 278) 3 1096 := ⟨by decide +kernel, rfl⟩
theorem dL_1096 : DD code 1096 (.iconst 0) 1 1097 := ⟨by decide +kernel, rfl⟩
theorem dL_1097 : DD code 1097 (.ireturn) 1 1098 := ⟨by decide +kernel, rfl⟩
theorem dL_1098 : DD code 1098 (.aload_n 1) 1 1099 := ⟨by decide +kernel, rfl⟩
theorem dL_1099 : DD code 1099 (.aload_n 0) 1 1100 := ⟨by decide +kernel, rfl⟩
theorem dL_1100 : DD code 1100 (.iload_n 3) 1 1101 := ⟨by decide +kernel, rfl⟩
theorem dL_1101 : DD code 1101 (.iconst 1) 1 1102 := ⟨by decide +kernel, rfl⟩
theorem dL_1102 : DD code 1102 (.iadd) 1 1103 := ⟨by decide +kernel, rfl⟩
theorem dL_1103 : DD code 1103 (.iaload) 1 1104 := ⟨by decide +kernel, rfl⟩
theorem dL_1104 : DD code 1104 (.aload_n 0) 1 1105 := ⟨by decide +kernel, rfl⟩
theorem dL_1105 : DD code 1105 (.iload_n 3) 1 1106 := ⟨by decide +kernel, rfl⟩
theorem dL_1106 : DD code 1106 (.iconst 2) 1 1107 := ⟨by decide +kernel, rfl⟩
theorem dL_1107 : DD code 1107 (.iadd) 1 1108 := ⟨by decide +kernel, rfl⟩
theorem dL_1108 : DD code 1108 (.iaload) 1 1109 := ⟨by decide +kernel, rfl⟩
theorem dL_1109 : DD code 1109 (.aload_n 0) 1 1110 := ⟨by decide +kernel, rfl⟩
theorem dL_1110 : DD code 1110 (.iload_n 3) 1 1111 := ⟨by decide +kernel, rfl⟩
theorem dL_1111 : DD code 1111 (.iconst 3) 1 1112 := ⟨by decide +kernel, rfl⟩
theorem dL_1112 : DD code 1112 (.iadd) 1 1113 := ⟨by decide +kernel, rfl⟩
theorem dL_1113 : DD code 1113 (.iaload) 1 1114 := ⟨by decide +kernel, rfl⟩
theorem dL_1114 : DD code 1114 (.ifCond .eq 7) 3 1117 := ⟨by decide +kernel, rfl⟩
theorem dL_1117 : DD code 1117 (.iconst 1) 1 1118 := ⟨by decide +kernel, rfl⟩
theorem dL_1118 : DD code 1118 (.goto 4) 3 1121 := ⟨by decide +kernel, rfl⟩
theorem dL_1121 : DD code 1121 (.iconst 0) 1 1122 := ⟨by decide +kernel, rfl⟩
theorem dL_1122 : DD code 1122 (.invokevirtual 147) 3 1125 := ⟨by decide +kernel, rfl⟩
theorem dL_1125 : DD code 1125 (.aload_n 2) 1 1126 := ⟨by decide +kernel, rfl⟩
theorem dL_1126 : DD code 1126 (.aload_n 0) 1 1127 := ⟨by decide +kernel, rfl⟩
theorem dL_1127 : DD code 1127 (.iload_n 3) 1 1128 := ⟨by decide +kernel, rfl⟩
theorem dL_1128 : DD code 1128 (.iconst 1) 1 1129 := ⟨by decide +kernel, rfl⟩
theorem dL_1129 : DD code 1129 (.iadd) 1 1130 := ⟨by decide +kernel, rfl⟩
theorem dL_1130 : DD code 1130 (.iaload) 1 1131 := ⟨by decide +kernel, rfl⟩
theorem dL_1131 : DD code 1131 (.aload_n 0) 1 1132 := ⟨by decide +kernel, rfl⟩
theorem dL_1132 : DD code 1132 (.iload_n 3) 1 1133 := ⟨by decide +kernel, rfl⟩
theorem dL_1133 : DD code 1133 (.iconst 2) 1 1134 := ⟨by decide +kernel, rfl⟩
theorem dL_1134 : DD code 1134 (.iadd) 1 1135 := ⟨by decide +kernel, rfl⟩
theorem dL_1135 : DD code 1135 (.iaload) 1 1136 := ⟨by decide +kernel, rfl⟩
theorem dL_1136 : DD code 1136 (.aload_n 0) 1 1137 := ⟨by decide +kernel, rfl⟩
theorem dL_1137 : DD code 1137 (.iload_n 3) 1 1138 := ⟨by decide +kernel, rfl⟩
theorem dL_1138 : DD code 1138 (.iconst 3) 1 1139 := ⟨by decide +kernel, rfl⟩
theorem dL_1139 : DD code 1139 (.iadd) 1 1140 := ⟨by decide +kernel, rfl⟩
theorem dL_1140 : DD code 1140 (.iaload) 1 1141 := ⟨by decide +kernel, rfl⟩
theorem dL_1141 : DD code 1141 (.ifCond .eq 7) 3 1144 := ⟨by decide +kernel, rfl⟩
theorem dL_1144 : DD code 1144 (.iconst 1) 1 1145 := ⟨by decide +kernel, rfl⟩
theorem dL_1145 : DD code 1145 (.goto 4) 3 1148 := ⟨by decide +kernel, rfl⟩
theorem dL_1148 : DD code 1148 (.iconst 0) 1 1149 := ⟨by decide +kernel, rfl⟩
theorem dL_1149 : DD code 1149 (.invokevirtual 151) 3 1152 := ⟨by decide +kernel, rfl⟩
theorem dL_1152 : DD code 1152 (.if_icmp .eq 219) 3 1155 := ⟨by decide +kernel, rfl⟩
theorem dL_1155 : DD code 1155 (.iconst 0) 1 1156 := ⟨by decide +kernel, rfl⟩
theorem dL_1156 : DD code 1156 (.ireturn) 1 1157 := ⟨by decide +kernel, rfl⟩
theorem dL_1157 : DD code 1157 (.aload_n 1) 1 1158 := ⟨by decide +kernel, rfl⟩
theorem dL_1158 : DD code 1158 (.aload_n 0) 1 1159 := ⟨by decide +kernel, rfl⟩
theorem dL_1159 : DD code 1159 (.iload_n 3) 1 1160 := ⟨by decide +kernel, rfl⟩
theorem dL_1160 : DD code 1160 (.iconst 1) 1 1161 := ⟨by decide +kernel, rfl⟩
theorem dL_1161 : DD code 1161 (.iadd) 1 1162 := ⟨by decide +kernel, rfl⟩
theorem dL_1162 : DD code 1162 (.iaload) 1 1163 := ⟨by decide +kernel, rfl⟩
theorem dL_1163 : DD code 1163 (.invokevirtual 152) 3 1166 := ⟨by decide +kernel, rfl⟩
theorem dL_1166 : DD code 1166 (.aload_n 2) 1 1167 := ⟨by decide +kernel, rfl⟩
theorem dL_1167 : DD code 1167 (.aload_n 0) 1 1168 := ⟨by decide +kernel, rfl⟩
theorem dL_1168 : DD code 1168 (.iload_n 3) 1 1169 := ⟨by decide +kernel, rfl⟩
theorem dL_1169 : DD code 1169 (.iconst 1) 1 1170 := ⟨by decide +kernel, rfl⟩
theorem dL_1170 : DD code 1170 (.iadd) 1 1171 := ⟨by decide +kernel, rfl⟩
theorem dL_1171 : DD code 1171 (.iaload) 1 1172 := ⟨by decide +kernel, rfl⟩
theorem dL_1172 : DD code 1172 (.invokevirtual 156) 3 1175 := ⟨by decide +kernel, rfl⟩
theorem dL_1175 : DD code 1175 (.if_icmp .eq 196) 3 1178 := ⟨by decide +kernel, rfl⟩
theorem dL_1178 : DD code 1178 (.iconst 0) 1 1179 := ⟨by decide +kernel, rfl⟩
theorem dL_1179 : DD code 1179 (.ireturn) 1 1180 := ⟨by decide +kernel, rfl⟩
theorem dL_1180 : DD code 1180 (.aload_n 1) 1 1181 := ⟨by decide +kernel, rfl⟩
theorem dL_1181 : DD code 1181 (.aload_n 0) 1 1182 := ⟨by decide +kernel, rfl⟩
theorem dL_1182 : DD code 1182 (.iload_n 3) 1 1183 := ⟨by decide +kernel, rfl⟩
theorem dL_1183 : DD code 1183 (.iconst 1) 1 1184 := ⟨by decide +kernel, rfl⟩
theorem dL_1184 : DD code 1184 (.iadd) 1 1185 := ⟨by decide +kernel, rfl⟩
theorem dL_1185 : DD code 1185 (.iaload) 1 1186 := ⟨by decide +kernel, rfl⟩
theorem dL_1186 : DD code 1186 (.invokevirtual 157) 3 1189 := ⟨by decide +kernel, rfl⟩
theorem dL_1189 : DD code 1189 (.aload_n 2) 1 1190 := ⟨by decide +kernel, rfl⟩
theorem dL_1190 : DD code 1190 (.aload_n 0) 1 1191 := ⟨by decide +kernel, rfl⟩
theorem dL_1191 : DD code 1191 (.iload_n 3) 1 1192 := ⟨by decide +kernel, rfl⟩
theorem dL_1192 : DD code 1192 (.iconst 1) 1 1193 := ⟨by decide +kernel, rfl⟩
theorem dL_1193 : DD code 1193 (.iadd) 1 1194 := ⟨by decide +kernel, rfl⟩
theorem dL_1194 : DD code 1194 (.iaload) 1 1195 := ⟨by decide +kernel, rfl⟩
theorem dL_1195 : DD code 1195 (.invokevirtual 160) 3 1198 := ⟨by decide +kernel, rfl⟩
theorem dL_1198 : DD code 1198 (.if_icmp .eq 173) 3 1201 := ⟨by decide +kernel, rfl⟩
theorem dL_1201 : DD code 1201 (.iconst 0) 1 1202 := ⟨by decide +kernel, rfl⟩
theorem dL_1202 : DD code 1202 (.ireturn) 1 1203 := ⟨by decide +kernel, rfl⟩
theorem dL_1203 : DD code 1203 (.aload_n 1) 1 1204 := ⟨by decide +kernel, rfl⟩
theorem dL_1204 : DD code 1204 (.aload_n 0) 1 1205 := ⟨by decide +kernel, rfl⟩
theorem dL_1205 : DD code 1205 (.iload_n 3) 1 1206 := ⟨by decide +kernel, rfl⟩
theorem dL_1206 : DD code 1206 (.iconst 1) 1 1207 := ⟨by decide +kernel, rfl⟩
theorem dL_1207 : DD code 1207 (.iadd) 1 1208 := ⟨by decide +kernel, rfl⟩
theorem dL_1208 : DD code 1208 (.iaload) 1 1209 := ⟨by decide +kernel, rfl⟩
theorem dL_1209 : DD code 1209 (.invokevirtual 161) 3 1212 := ⟨by decide +kernel, rfl⟩
theorem dL_1212 : DD code 1212 (.aload_n 2) 1 1213 := ⟨by decide +kernel, rfl⟩
theorem dL_1213 : DD code 1213 (.aload_n 0) 1 1214 := ⟨by decide +kernel, rfl⟩
theorem dL_1214 : DD code 1214 (.iload_n 3) 1 1215 := ⟨by decide +kernel, rfl⟩
theorem dL_1215 : DD code 1215 (.iconst 1) 1 1216 := ⟨by decide +kernel, rfl⟩
theorem dL_1216 : DD code 1216 (.iadd) 1 1217 := ⟨by decide +kernel, rfl⟩
theorem dL_1217 : DD code 1217 (.iaload) 1 1218 := ⟨by decide +kernel, rfl⟩
theorem dL_1218 : DD code 1218 (.invokevirtual 164) 3 1221 := ⟨by decide +kernel, rfl⟩
theorem dL_1221 : DD code 1221 (.if_icmp .eq 150) 3 1224 := ⟨by decide +kernel, rfl⟩
theorem dL_1224 : DD code 1224 (.iconst 0) 1 1225 := ⟨by decide +kernel, rfl⟩
theorem dL_1225 : DD code 1225 (.ireturn) 1 1226 := ⟨by decide +kernel, rfl⟩
theorem dL_1226 : DD code 1226 (.aload_n 1) 1 1227 := ⟨by decide +kernel, rfl⟩
theorem dL_1227 : DD code 1227 (.aload_n 0) 1 1228 := ⟨by decide +kernel, rfl⟩
theorem dL_1228 : DD code 1228 (.iload_n 3) 1 1229 := ⟨by decide +kernel, rfl⟩
theorem dL_1229 : DD code 1229 (.iconst 1) 1 1230 := ⟨by decide +kernel, rfl⟩
theorem dL_1230 : DD code 1230 (.iadd) 1 1231 := ⟨by decide +kernel, rfl⟩
theorem dL_1231 : DD code 1231 (.iaload) 1 1232 := ⟨by decide +kernel, rfl⟩
theorem dL_1232 : DD code 1232 (.aload_n 0) 1 1233 := ⟨by decide +kernel, rfl⟩
theorem dL_1233 : DD code 1233 (.iload_n 3) 1 1234 := ⟨by decide +kernel, rfl⟩
theorem dL_1234 : DD code 1234 (.iconst 2) 1 1235 := ⟨by decide +kernel, rfl⟩
theorem dL_1235 : DD code 1235 (.iadd) 1 1236 := ⟨by decide +kernel, rfl⟩
theorem dL_1236 : DD code 1236 (.iaload) 1 1237 := ⟨by decide +kernel, rfl⟩
theorem dL_1237 : DD code 1237 (.invokevirtual 165) 3 1240 := ⟨by decide +kernel, rfl⟩
theorem dL_1240 : DD code 1240 (.aload_n 2) 1 1241 := ⟨by decide +kernel, rfl⟩
theorem dL_1241 : DD code 1241 (.aload_n 0) 1 1242 := ⟨by decide +kernel, rfl⟩
theorem dL_1242 : DD code 1242 (.iload_n 3) 1 1243 := ⟨by decide +kernel, rfl⟩
theorem dL_1243 : DD code 1243 (.iconst 1) 1 1244 := ⟨by decide +kernel, rfl⟩
theorem dL_1244 : DD code 1244 (.iadd) 1 1245 := ⟨by decide +kernel, rfl⟩
theorem dL_1245 : DD code 1245 (.iaload) 1 1246 := ⟨by decide +kernel, rfl⟩
theorem dL_1246 : DD code 1246 (.aload_n 0) 1 1247 := ⟨by decide +kernel, rfl⟩
theorem dL_1247 : DD code 1247 (.iload_n 3) 1 1248 := ⟨by decide +kernel, rfl⟩
theorem dL_1248 : DD code 1248 (.iconst 2) 1 1249 := ⟨by decide +kernel, rfl⟩
theorem dL_1249 : DD code 1249 (.iadd) 1 1250 := ⟨by decide +kernel, rfl⟩
theorem dL_1250 : DD code 1250 (.iaload) 1 1251 := ⟨by decide +kernel, rfl⟩
theorem dL_1251 : DD code 1251 (.invokevirtual 168) 3 1254 := ⟨by decide +kernel, rfl⟩
theorem dL_1254 : DD code 1254 (.if_icmp .eq 117) 3 1257 := ⟨by decide +kernel, rfl⟩
theorem dL_1257 : DD code 1257 (.iconst 0) 1 1258 := ⟨by decide +kernel, rfl⟩
theorem dL_1258 : DD code 1258 (.ireturn) 1 1259 := ⟨by decide +kernel, rfl⟩
theorem dL_1259 : DD code 1259 (.aload_n 1) 1 1260 := ⟨by decide +kernel, rfl⟩
theorem dL_1260 : DD code 1260 (.aload_n 0) 1 1261 := ⟨by decide +kernel, rfl⟩
theorem dL_1261 : DD code 1261 (.iload_n 3) 1 1262 := ⟨by decide +kernel, rfl⟩
theorem dL_1262 : DD code 1262 (.iconst 1) 1 1263 := ⟨by decide +kernel, rfl⟩
theorem dL_1263 : DD code 1263 (.iadd) 1 1264 := ⟨by decide +kernel, rfl⟩
theorem dL_1264 : DD code 1264 (.iaload) 1 1265 := ⟨by decide +kernel, rfl⟩
theorem dL_1265 : DD code 1265 (.aload_n 0) 1 1266 := ⟨by decide +kernel, rfl⟩
theorem dL_1266 : DD code 1266 (.iload_n 3) 1 1267 := ⟨by decide +kernel, rfl⟩
theorem dL_1267 : DD code 1267 (.iconst 2) 1 1268 := ⟨by decide +kernel, rfl⟩
theorem dL_1268 : DD code 1268 (.iadd) 1 1269 := ⟨by decide +kernel, rfl⟩
theorem dL_1269 : DD code 1269 (.iaload) 1 1270 := ⟨by decide +kernel, rfl⟩
theorem dL_1270 : DD code 1270 (.aload_n 0) 1 1271 := ⟨by decide +kernel, rfl⟩
theorem dL_1271 : DD code 1271 (.iload_n 3) 1 1272 := ⟨by decide +kernel, rfl⟩
theorem dL_1272 : DD code 1272 (.iconst 3) 1 1273 := ⟨by decide +kernel, rfl⟩
theorem dL_1273 : DD code 1273 (.iadd) 1 1274 := ⟨by decide +kernel, rfl⟩
theorem dL_1274 : DD code 1274 (.iaload) 1 1275 := ⟨by decide +kernel, rfl⟩
theorem dL_1275 : DD code 1275 (.invokevirtual 169) 3 1278 := ⟨by decide +kernel, rfl⟩
theorem dL_1278 : DD code 1278 (.aload_n 2) 1 1279 := ⟨by decide +kernel, rfl⟩
theorem dL_1279 : DD code 1279 (.aload_n 0) 1 1280 := ⟨by decide +kernel, rfl⟩
theorem dL_1280 : DD code 1280 (.iload_n 3) 1 1281 := ⟨by decide +kernel, rfl⟩
theorem dL_1281 : DD code 1281 (.iconst 1) 1 1282 := ⟨by decide +kernel, rfl⟩
theorem dL_1282 : DD code 1282 (.iadd) 1 1283 := ⟨by decide +kernel, rfl⟩
theorem dL_1283 : DD code 1283 (.iaload) 1 1284 := ⟨by decide +kernel, rfl⟩
theorem dL_1284 : DD code 1284 (.aload_n 0) 1 1285 := ⟨by decide +kernel, rfl⟩
theorem dL_1285 : DD code 1285 (.iload_n 3) 1 1286 := ⟨by decide +kernel, rfl⟩
theorem dL_1286 : DD code 1286 (.iconst 2) 1 1287 := ⟨by decide +kernel, rfl⟩
theorem dL_1287 : DD code 1287 (.iadd) 1 1288 := ⟨by decide +kernel, rfl⟩
theorem dL_1288 : DD code 1288 (.iaload) 1 1289 := ⟨by decide +kernel, rfl⟩
theorem dL_1289 : DD code 1289 (.aload_n 0) 1 1290 := ⟨by decide +kernel, rfl⟩
theorem dL_1290 : DD code 1290 (.iload_n 3) 1 1291 := ⟨by decide +kernel, rfl⟩
theorem dL_1291 : DD code 1291 (.iconst 3) 1 1292 := ⟨by decide +kernel, rfl⟩
theorem dL_1292 : DD code 1292 (.iadd) 1 1293 := ⟨by decide +kernel, rfl⟩
theorem dL_1293 : DD code 1293 (.iaload) 1 1294 := ⟨by decide +kernel, rfl⟩
theorem dL_1294 : DD code 1294 (.invokevirtual 172) 3 1297 := ⟨by decide +kernel, rfl⟩
theorem dL_1297 : DD code 1297 (.if_icmp .eq 74) 3 1300 := ⟨by decide +kernel, rfl⟩
theorem dL_1300 : DD code 1300 (.iconst 0) 1 1301 := ⟨by decide +kernel, rfl⟩
theorem dL_1301 : DD code 1301 (.ireturn) 1 1302 := ⟨by decide +kernel, rfl⟩
theorem dL_1302 : DD code 1302 (.aload_n 1) 1 1303 := ⟨by decide +kernel, rfl⟩
theorem dL_1303 : DD code 1303 (.aload_n 0) 1 1304 := ⟨by decide +kernel, rfl⟩
theorem dL_1304 : DD code 1304 (.iload_n 3) 1 1305 := ⟨by decide +kernel, rfl⟩
theorem dL_1305 : DD code 1305 (.iconst 1) 1 1306 := ⟨by decide +kernel, rfl⟩
theorem dL_1306 : DD code 1306 (.iadd) 1 1307 := ⟨by decide +kernel, rfl⟩
theorem dL_1307 : DD code 1307 (.iaload) 1 1308 := ⟨by decide +kernel, rfl⟩
theorem dL_1308 : DD code 1308 (.invokevirtual 173) 3 1311 := ⟨by decide +kernel, rfl⟩
theorem dL_1311 : DD code 1311 (.aload_n 2) 1 1312 := ⟨by decide +kernel, rfl⟩
theorem dL_1312 : DD code 1312 (.aload_n 0) 1 1313 := ⟨by decide +kernel, rfl⟩
theorem dL_1313 : DD code 1313 (.iload_n 3) 1 1314 := ⟨by decide +kernel, rfl⟩
theorem dL_1314 : DD code 1314 (.iconst 1) 1 1315 := ⟨by decide +kernel, rfl⟩
theorem dL_1315 : DD code 1315 (.iadd) 1 1316 := ⟨by decide +kernel, rfl⟩
theorem dL_1316 : DD code 1316 (.iaload) 1 1317 := ⟨by decide +kernel, rfl⟩
theorem dL_1317 : DD code 1317 (.invokevirtual 176) 3 1320 := ⟨by decide +kernel, rfl⟩
theorem dL_1320 : DD code 1320 (.if_icmp .eq 51) 3 1323 := ⟨by decide +kernel, rfl⟩
theorem dL_1323 : DD code 1323 (.iconst 0) 1 1324 := ⟨by decide +kernel, rfl⟩
theorem dL_1324 : DD code 1324 (.ireturn) 1 1325 := ⟨by decide +kernel, rfl⟩
theorem dL_1325 : DD code 1325 (.aload_n 1) 1 1326 := ⟨by decide +kernel, rfl⟩
theorem dL_1326 : DD code 1326 (.aload_n 0) 1 1327 := ⟨by decide +kernel, rfl⟩
theorem dL_1327 : DD code 1327 (.iload_n 3) 1 1328 := ⟨by decide +kernel, rfl⟩
theorem dL_1328 : DD code 1328 (.iconst 1) 1 1329 := ⟨by decide +kernel, rfl⟩
theorem dL_1329 : DD code 1329 (.iadd) 1 1330 := ⟨by decide +kernel, rfl⟩
theorem dL_1330 : DD code 1330 (.iaload) 1 1331 := ⟨by decide +kernel, rfl⟩
theorem dL_1331 : DD code 1331 (.invokevirtual 177) 3 1334 := ⟨by decide +kernel, rfl⟩
theorem dL_1334 : DD code 1334 (.aload_n 2) 1 1335 := ⟨by decide +kernel, rfl⟩
theorem dL_1335 : DD code 1335 (.aload_n 0) 1 1336 := ⟨by decide +kernel, rfl⟩
theorem dL_1336 : DD code 1336 (.iload_n 3) 1 1337 := ⟨by decide +kernel, rfl⟩
theorem dL_1337 : DD code 1337 (.iconst 1) 1 1338 := ⟨by decide +kernel, rfl⟩
theorem dL_1338 : DD code 1338 (.iadd) 1 1339 := ⟨by decide +kernel, rfl⟩
theorem dL_1339 : DD code 1339 (.iaload) 1 1340 := ⟨by decide +kernel, rfl⟩
theorem dL_1340 : DD code 1340 (.invokevirtual 180) 3 1343 := ⟨by decide +kernel, rfl⟩
theorem dL_1343 : DD code 1343 (.if_icmp .eq 28) 3 1346 := ⟨by decide +kernel, rfl⟩
theorem dL_1346 : DD code 1346 (.iconst 0) 1 1347 := ⟨by decide +kernel, rfl⟩
theorem dL_1347 : DD code 1347 (.ireturn) 1 1348 := ⟨by decide +kernel, rfl⟩
theorem dL_1348 : DD code 1348 (.aload_n 1) 1 1349 := ⟨by decide +kernel, rfl⟩
theorem dL_1349 : DD code 1349 (.aload_n 0) 1 1350 := ⟨by decide +kernel, rfl⟩
theorem dL_1350 : DD code 1350 (.iload_n 3) 1 1351 := ⟨by decide +kernel, rfl⟩
theorem dL_1351 : DD code 1351 (.iconst 1) 1 1352 := ⟨by decide +kernel, rfl⟩
theorem dL_1352 : DD code 1352 (.iadd) 1 1353 := ⟨by decide +kernel, rfl⟩
theorem dL_1353 : DD code 1353 (.iaload) 1 1354 := ⟨by decide +kernel, rfl⟩
theorem dL_1354 : DD code 1354 (.invokevirtual 181) 3 1357 := ⟨by decide +kernel, rfl⟩
theorem dL_1357 : DD code 1357 (.aload_n 2) 1 1358 := ⟨by decide +kernel, rfl⟩
theorem dL_1358 : DD code 1358 (.aload_n 0) 1 1359 := ⟨by decide +kernel, rfl⟩
theorem dL_1359 : DD code 1359 (.iload_n 3) 1 1360 := ⟨by decide +kernel, rfl⟩
theorem dL_1360 : DD code 1360 (.iconst 1) 1 1361 := ⟨by decide +kernel, rfl⟩
theorem dL_1361 : DD code 1361 (.iadd) 1 1362 := ⟨by decide +kernel, rfl⟩
theorem dL_1362 : DD code 1362 (.iaload) 1 1363 := ⟨by decide +kernel, rfl⟩
theorem dL_1363 : DD code 1363 (.invokevirtual 184) 3 1366 := ⟨by decide +kernel, rfl⟩
theorem dL_1366 : DD code 1366 (.if_icmp .eq 5) 3 1369 := ⟨by decide +kernel, rfl⟩
theorem dL_1369 : DD code 1369 (.iconst 0) 1 1370 := ⟨by decide +kernel, rfl⟩
theorem dL_1370 : DD code 1370 (.ireturn) 1 1371 := ⟨by decide +kernel, rfl⟩
theorem dL_1371 : DD code 1371 (.iinc 3 6) 3 1374 := ⟨by decide +kernel, rfl⟩
theorem dL_1374 : DD code 1374 (.goto (-1356)) 3 1377 := ⟨by decide +kernel, rfl⟩
theorem dL_1377 : DD code 1377 (.iconst 1) 1 1378 := ⟨by decide +kernel, rfl⟩
theorem dL_1378 : DD code 1378 (.ireturn) 1 1379 := ⟨by decide +kernel, rfl⟩
theorem mlL_13 : Cond.methodLink R_law 13 yX11_feed ∈ WT := wt_mem 624 (by decide +kernel) rfl
theorem mlL_17 : Cond.methodLink R_law 17 yX12_feed ∈ WT := wt_mem 1559 (by decide +kernel) rfl
set_option maxHeartbeats 4000000 in
theorem case_feed {X : Cx} {Gc Gm : Gt} {b L i : Nat} {xs : Nat → Int32} {Q : State → Prop} {mC mM : Mem} {Rel : Mem → Mem → Prop} (h : OkL X Gc Gm b L xs) (hi : i + 6 ≤ L) (hL : L < 2 ^ 31) (hO : ∃ r mC2 mM2, fX11_feed mC (xs (i + 1)) (xs (i + 2)) (xs (i + 3)) (xs (i + 4)) (xs (i + 5)) = some (r, mC2) ∧ fX12_feed mM (xs (i + 1)) (xs (i + 2)) (xs (i + 3)) (xs (i + 4)) (xs (i + 5)) = some (r, mM2) ∧ Rel mC2 mM2) (kk : ∀ mC mM, Rel mC mM → JL X Gc Gm Q mC mM 1371 [some (.ref b), some (.ref (Gc.2.2 0)), some (.ref (Gm.2.2 0)), some (.int (nI i))] []) : JL X Gc Gm Q mC mM 212 [some (.ref b), some (.ref (Gc.2.2 0)), some (.ref (Gm.2.2 0)), some (.int (nI i))] [] := by
  obtain ⟨r, mC2, mM2, e1, e2, hR⟩ := hO
  refine l_aload h dL_212 rfl ?_
  refine l_arg (k := 1) h (by decide) (by omega) hL rfl rfl dL_213 dL_214 dL_215 dL_216 dL_217 ?_
  refine l_arg (k := 2) h (by decide) (by omega) hL rfl rfl dL_218 dL_219 dL_220 dL_221 dL_222 ?_
  refine l_arg (k := 3) h (by decide) (by omega) hL rfl rfl dL_223 dL_224 dL_225 dL_226 dL_227 ?_
  refine l_arg (k := 4) h (by decide) (by omega) hL rfl rfl dL_228 dL_229 dL_230 dL_231 dL_232 ?_
  refine l_arg (k := 5) h (by decide) (by omega) hL rfl rfl dL_233 dL_234 dL_235 dL_236 dL_237 ?_
  refine l_callC h [.int (xs (i + 1)), .int (xs (i + 2)), .int (xs (i + 3)), .int (xs (i + 4)), .int (xs (i + 5))] (fun hDD => kX11_feed _ _ hDD mC (xs (i + 1)) (xs (i + 2)) (xs (i + 3)) (xs (i + 4)) (xs (i + 5)) _ e1) okX11_feed inX11_feed mlL_13 rfl rfl rfl (by decide) (by decide) (Nat.le_of_ble_eq_true rfl) rfl dL_238 ?_
  refine l_aload h dL_241 rfl ?_
  refine l_arg (k := 1) h (by decide) (by omega) hL rfl rfl dL_242 dL_243 dL_244 dL_245 dL_246 ?_
  refine l_arg (k := 2) h (by decide) (by omega) hL rfl rfl dL_247 dL_248 dL_249 dL_250 dL_251 ?_
  refine l_arg (k := 3) h (by decide) (by omega) hL rfl rfl dL_252 dL_253 dL_254 dL_255 dL_256 ?_
  refine l_arg (k := 4) h (by decide) (by omega) hL rfl rfl dL_257 dL_258 dL_259 dL_260 dL_261 ?_
  refine l_arg (k := 5) h (by decide) (by omega) hL rfl rfl dL_262 dL_263 dL_264 dL_265 dL_266 ?_
  refine l_callM h [.int (xs (i + 1)), .int (xs (i + 2)), .int (xs (i + 3)), .int (xs (i + 4)), .int (xs (i + 5))] (fun hDD => kX12_feed _ _ hDD mM (xs (i + 1)) (xs (i + 2)) (xs (i + 3)) (xs (i + 4)) (xs (i + 5)) _ e2) okX12_feed inX12_feed mlL_17 rfl rfl rfl (by decide) (by decide) (Nat.le_of_ble_eq_true rfl) rfl dL_267 ?_
  refine l_eqT (tgt := 1371) h dL_270 (by decide) ?_
  exact kk _ _ hR
theorem mlL_18 : Cond.methodLink R_law 18 yX11_end ∈ WT := wt_mem 632 (by decide +kernel) rfl
theorem mlL_22 : Cond.methodLink R_law 22 yX12_end ∈ WT := wt_mem 1567 (by decide +kernel) rfl
set_option maxHeartbeats 4000000 in
theorem case_end {X : Cx} {Gc Gm : Gt} {b L i : Nat} {xs : Nat → Int32} {Q : State → Prop} {mC mM : Mem} {Rel : Mem → Mem → Prop} (h : OkL X Gc Gm b L xs) (hi : i + 6 ≤ L) (hL : L < 2 ^ 31) (hO : ∃ r mC2 mM2, fX11_end mC (xs (i + 1)) = some (r, mC2) ∧ fX12_end mM (xs (i + 1)) = some (r, mM2) ∧ Rel mC2 mM2) (kk : ∀ mC mM, Rel mC mM → JL X Gc Gm Q mC mM 1371 [some (.ref b), some (.ref (Gc.2.2 0)), some (.ref (Gm.2.2 0)), some (.int (nI i))] []) : JL X Gc Gm Q mC mM 275 [some (.ref b), some (.ref (Gc.2.2 0)), some (.ref (Gm.2.2 0)), some (.int (nI i))] [] := by
  obtain ⟨r, mC2, mM2, e1, e2, hR⟩ := hO
  refine l_aload h dL_275 rfl ?_
  refine l_arg (k := 1) h (by decide) (by omega) hL rfl rfl dL_276 dL_277 dL_278 dL_279 dL_280 ?_
  refine l_callC h [.int (xs (i + 1))] (fun hDD => kX11_end _ _ hDD mC (xs (i + 1)) _ e1) okX11_end inX11_end mlL_18 rfl rfl rfl (by decide) (by decide) (Nat.le_of_ble_eq_true rfl) rfl dL_281 ?_
  refine l_aload h dL_284 rfl ?_
  refine l_arg (k := 1) h (by decide) (by omega) hL rfl rfl dL_285 dL_286 dL_287 dL_288 dL_289 ?_
  refine l_callM h [.int (xs (i + 1))] (fun hDD => kX12_end _ _ hDD mM (xs (i + 1)) _ e2) okX12_end inX12_end mlL_22 rfl rfl rfl (by decide) (by decide) (Nat.le_of_ble_eq_true rfl) rfl dL_290 ?_
  refine l_eqT (tgt := 1371) h dL_293 (by decide) ?_
  exact kk _ _ hR
theorem mlL_23 : Cond.methodLink R_law 23 yX11_town ∈ WT := wt_mem 636 (by decide +kernel) rfl
theorem mlL_27 : Cond.methodLink R_law 27 yX12_town ∈ WT := wt_mem 1571 (by decide +kernel) rfl
set_option maxHeartbeats 4000000 in
theorem case_town {X : Cx} {Gc Gm : Gt} {b L i : Nat} {xs : Nat → Int32} {Q : State → Prop} {mC mM : Mem} {Rel : Mem → Mem → Prop} (h : OkL X Gc Gm b L xs) (hi : i + 6 ≤ L) (hL : L < 2 ^ 31) (hO : ∃ r mC2 mM2, fX11_town mC = some (r, mC2) ∧ fX12_town mM = some (r, mM2) ∧ Rel mC2 mM2) (kk : ∀ mC mM, Rel mC mM → JL X Gc Gm Q mC mM 1371 [some (.ref b), some (.ref (Gc.2.2 0)), some (.ref (Gm.2.2 0)), some (.int (nI i))] []) : JL X Gc Gm Q mC mM 298 [some (.ref b), some (.ref (Gc.2.2 0)), some (.ref (Gm.2.2 0)), some (.int (nI i))] [] := by
  obtain ⟨r, mC2, mM2, e1, e2, hR⟩ := hO
  refine l_aload h dL_298 rfl ?_
  refine l_callC h [] (fun hDD => kX11_town _ _ hDD mC _ e1) okX11_town inX11_town mlL_23 rfl rfl rfl (by decide) (by decide) (Nat.le_of_ble_eq_true rfl) rfl dL_299 ?_
  refine l_aload h dL_302 rfl ?_
  refine l_callM h [] (fun hDD => kX12_town _ _ hDD mM _ e2) okX12_town inX12_town mlL_27 rfl rfl rfl (by decide) (by decide) (Nat.le_of_ble_eq_true rfl) rfl dL_303 ?_
  refine l_eqT (tgt := 1371) h dL_306 (by decide) ?_
  exact kk _ _ hR
theorem mlL_28 : Cond.methodLink R_law 28 yX11_fault ∈ WT := wt_mem 866 (by decide +kernel) rfl
theorem mlL_31 : Cond.methodLink R_law 31 yX12_fault ∈ WT := wt_mem 1730 (by decide +kernel) rfl
set_option maxHeartbeats 4000000 in
theorem case_fault {X : Cx} {Gc Gm : Gt} {b L i : Nat} {xs : Nat → Int32} {Q : State → Prop} {mC mM : Mem} {Rel : Mem → Mem → Prop} (h : OkL X Gc Gm b L xs) (hi : i + 6 ≤ L) (hL : L < 2 ^ 31) (hO : ∃ r, fX11_fault mC (xs (i + 1)) = some r ∧ fX12_fault mM (xs (i + 1)) = some r ∧ Rel mC mM) (kk : ∀ mC mM, Rel mC mM → JL X Gc Gm Q mC mM 1371 [some (.ref b), some (.ref (Gc.2.2 0)), some (.ref (Gm.2.2 0)), some (.int (nI i))] []) : JL X Gc Gm Q mC mM 311 [some (.ref b), some (.ref (Gc.2.2 0)), some (.ref (Gm.2.2 0)), some (.int (nI i))] [] := by
  obtain ⟨r, e1, e2, hR⟩ := hO
  refine l_aload h dL_311 rfl ?_
  refine l_arg (k := 1) h (by decide) (by omega) hL rfl rfl dL_312 dL_313 dL_314 dL_315 dL_316 ?_
  refine l_callC h [.int (xs (i + 1))] (fun hDD => kX11_fault _ _ hDD mC (xs (i + 1)) _ e1) okX11_fault inX11_fault mlL_28 rfl rfl rfl (by decide) (by decide) (Nat.le_of_ble_eq_true rfl) rfl dL_317 ?_
  refine l_aload h dL_320 rfl ?_
  refine l_arg (k := 1) h (by decide) (by omega) hL rfl rfl dL_321 dL_322 dL_323 dL_324 dL_325 ?_
  refine l_callM h [.int (xs (i + 1))] (fun hDD => kX12_fault _ _ hDD mM (xs (i + 1)) _ e2) okX12_fault inX12_fault mlL_31 rfl rfl rfl (by decide) (by decide) (Nat.le_of_ble_eq_true rfl) rfl dL_326 ?_
  refine l_eqT (tgt := 1371) h dL_329 (by decide) ?_
  exact kk _ _ hR
theorem mlL_32 : Cond.methodLink R_law 32 yX11_person ∈ WT := wt_mem 870 (by decide +kernel) rfl
theorem mlL_36 : Cond.methodLink R_law 36 yX12_person ∈ WT := wt_mem 1734 (by decide +kernel) rfl
set_option maxHeartbeats 4000000 in
theorem case_person {X : Cx} {Gc Gm : Gt} {b L i : Nat} {xs : Nat → Int32} {Q : State → Prop} {mC mM : Mem} {Rel : Mem → Mem → Prop} (h : OkL X Gc Gm b L xs) (hi : i + 6 ≤ L) (hL : L < 2 ^ 31) (hO : ∃ r mC2 mM2, fX11_person mC (xs (i + 1)) (xs (i + 2)) = some (r, mC2) ∧ fX12_person mM (xs (i + 1)) (xs (i + 2)) = some (r, mM2) ∧ Rel mC2 mM2) (kk : ∀ mC mM, Rel mC mM → JL X Gc Gm Q mC mM 1371 [some (.ref b), some (.ref (Gc.2.2 0)), some (.ref (Gm.2.2 0)), some (.int (nI i))] []) : JL X Gc Gm Q mC mM 334 [some (.ref b), some (.ref (Gc.2.2 0)), some (.ref (Gm.2.2 0)), some (.int (nI i))] [] := by
  obtain ⟨r, mC2, mM2, e1, e2, hR⟩ := hO
  refine l_aload h dL_334 rfl ?_
  refine l_arg (k := 1) h (by decide) (by omega) hL rfl rfl dL_335 dL_336 dL_337 dL_338 dL_339 ?_
  refine l_arg (k := 2) h (by decide) (by omega) hL rfl rfl dL_340 dL_341 dL_342 dL_343 dL_344 ?_
  refine l_callC h [.int (xs (i + 1)), .int (xs (i + 2))] (fun hDD => kX11_person _ _ hDD mC (xs (i + 1)) (xs (i + 2)) _ e1) okX11_person inX11_person mlL_32 rfl rfl rfl (by decide) (by decide) (Nat.le_of_ble_eq_true rfl) rfl dL_345 ?_
  refine l_aload h dL_348 rfl ?_
  refine l_arg (k := 1) h (by decide) (by omega) hL rfl rfl dL_349 dL_350 dL_351 dL_352 dL_353 ?_
  refine l_arg (k := 2) h (by decide) (by omega) hL rfl rfl dL_354 dL_355 dL_356 dL_357 dL_358 ?_
  refine l_callM h [.int (xs (i + 1)), .int (xs (i + 2))] (fun hDD => kX12_person _ _ hDD mM (xs (i + 1)) (xs (i + 2)) _ e2) okX12_person inX12_person mlL_36 rfl rfl rfl (by decide) (by decide) (Nat.le_of_ble_eq_true rfl) rfl dL_359 ?_
  refine l_eqT (tgt := 1371) h dL_362 (by decide) ?_
  exact kk _ _ hR
theorem mlL_37 : Cond.methodLink R_law 37 yX11_meet ∈ WT := wt_mem 947 (by decide +kernel) rfl
theorem mlL_40 : Cond.methodLink R_law 40 yX12_meet ∈ WT := wt_mem 1797 (by decide +kernel) rfl
set_option maxHeartbeats 4000000 in
theorem case_meet {X : Cx} {Gc Gm : Gt} {b L i : Nat} {xs : Nat → Int32} {Q : State → Prop} {mC mM : Mem} {Rel : Mem → Mem → Prop} (h : OkL X Gc Gm b L xs) (hi : i + 6 ≤ L) (hL : L < 2 ^ 31) (hO : ∃ r mC2 mM2, fX11_meet mC (xs (i + 1)) (xs (i + 2)) = some (r, mC2) ∧ fX12_meet mM (xs (i + 1)) (xs (i + 2)) = some (r, mM2) ∧ Rel mC2 mM2) (kk : ∀ mC mM, Rel mC mM → JL X Gc Gm Q mC mM 1371 [some (.ref b), some (.ref (Gc.2.2 0)), some (.ref (Gm.2.2 0)), some (.int (nI i))] []) : JL X Gc Gm Q mC mM 367 [some (.ref b), some (.ref (Gc.2.2 0)), some (.ref (Gm.2.2 0)), some (.int (nI i))] [] := by
  obtain ⟨r, mC2, mM2, e1, e2, hR⟩ := hO
  refine l_aload h dL_367 rfl ?_
  refine l_arg (k := 1) h (by decide) (by omega) hL rfl rfl dL_368 dL_369 dL_370 dL_371 dL_372 ?_
  refine l_arg (k := 2) h (by decide) (by omega) hL rfl rfl dL_373 dL_374 dL_375 dL_376 dL_377 ?_
  refine l_callC h [.int (xs (i + 1)), .int (xs (i + 2))] (fun hDD => kX11_meet _ _ hDD mC (xs (i + 1)) (xs (i + 2)) _ e1) okX11_meet inX11_meet mlL_37 rfl rfl rfl (by decide) (by decide) (Nat.le_of_ble_eq_true rfl) rfl dL_378 ?_
  refine l_aload h dL_381 rfl ?_
  refine l_arg (k := 1) h (by decide) (by omega) hL rfl rfl dL_382 dL_383 dL_384 dL_385 dL_386 ?_
  refine l_arg (k := 2) h (by decide) (by omega) hL rfl rfl dL_387 dL_388 dL_389 dL_390 dL_391 ?_
  refine l_callM h [.int (xs (i + 1)), .int (xs (i + 2))] (fun hDD => kX12_meet _ _ hDD mM (xs (i + 1)) (xs (i + 2)) _ e2) okX12_meet inX12_meet mlL_40 rfl rfl rfl (by decide) (by decide) (Nat.le_of_ble_eq_true rfl) rfl dL_392 ?_
  refine l_eqT (tgt := 1371) h dL_395 (by decide) ?_
  exact kk _ _ hR
theorem mlL_41 : Cond.methodLink R_law 41 yX11_light ∈ WT := wt_mem 973 (by decide +kernel) rfl
theorem mlL_44 : Cond.methodLink R_law 44 yX12_light ∈ WT := wt_mem 1816 (by decide +kernel) rfl
set_option maxHeartbeats 4000000 in
theorem case_light {X : Cx} {Gc Gm : Gt} {b L i : Nat} {xs : Nat → Int32} {Q : State → Prop} {mC mM : Mem} {Rel : Mem → Mem → Prop} (h : OkL X Gc Gm b L xs) (hi : i + 6 ≤ L) (hL : L < 2 ^ 31) (hO : ∃ r mC2 mM2, fX11_light mC (xs (i + 1)) (xs (i + 2)) = some (r, mC2) ∧ fX12_light mM (xs (i + 1)) (xs (i + 2)) = some (r, mM2) ∧ Rel mC2 mM2) (kk : ∀ mC mM, Rel mC mM → JL X Gc Gm Q mC mM 1371 [some (.ref b), some (.ref (Gc.2.2 0)), some (.ref (Gm.2.2 0)), some (.int (nI i))] []) : JL X Gc Gm Q mC mM 400 [some (.ref b), some (.ref (Gc.2.2 0)), some (.ref (Gm.2.2 0)), some (.int (nI i))] [] := by
  obtain ⟨r, mC2, mM2, e1, e2, hR⟩ := hO
  refine l_aload h dL_400 rfl ?_
  refine l_arg (k := 1) h (by decide) (by omega) hL rfl rfl dL_401 dL_402 dL_403 dL_404 dL_405 ?_
  refine l_arg (k := 2) h (by decide) (by omega) hL rfl rfl dL_406 dL_407 dL_408 dL_409 dL_410 ?_
  refine l_callC h [.int (xs (i + 1)), .int (xs (i + 2))] (fun hDD => kX11_light _ _ hDD mC (xs (i + 1)) (xs (i + 2)) _ e1) okX11_light inX11_light mlL_41 rfl rfl rfl (by decide) (by decide) (Nat.le_of_ble_eq_true rfl) rfl dL_411 ?_
  refine l_aload h dL_414 rfl ?_
  refine l_arg (k := 1) h (by decide) (by omega) hL rfl rfl dL_415 dL_416 dL_417 dL_418 dL_419 ?_
  refine l_arg (k := 2) h (by decide) (by omega) hL rfl rfl dL_420 dL_421 dL_422 dL_423 dL_424 ?_
  refine l_callM h [.int (xs (i + 1)), .int (xs (i + 2))] (fun hDD => kX12_light _ _ hDD mM (xs (i + 1)) (xs (i + 2)) _ e2) okX12_light inX12_light mlL_44 rfl rfl rfl (by decide) (by decide) (Nat.le_of_ble_eq_true rfl) rfl dL_425 ?_
  refine l_eqT (tgt := 1371) h dL_428 (by decide) ?_
  exact kk _ _ hR
theorem mlL_45 : Cond.methodLink R_law 45 yX11_awake ∈ WT := wt_mem 981 (by decide +kernel) rfl
theorem mlL_48 : Cond.methodLink R_law 48 yX12_awake ∈ WT := wt_mem 1823 (by decide +kernel) rfl
set_option maxHeartbeats 4000000 in
theorem case_awake {X : Cx} {Gc Gm : Gt} {b L i : Nat} {xs : Nat → Int32} {Q : State → Prop} {mC mM : Mem} {Rel : Mem → Mem → Prop} (h : OkL X Gc Gm b L xs) (hi : i + 6 ≤ L) (hL : L < 2 ^ 31) (hO : ∃ r mC2 mM2, fX11_awake mC (xs (i + 1)) (xs (i + 2)) = some (r, mC2) ∧ fX12_awake mM (xs (i + 1)) (xs (i + 2)) = some (r, mM2) ∧ Rel mC2 mM2) (kk : ∀ mC mM, Rel mC mM → JL X Gc Gm Q mC mM 1371 [some (.ref b), some (.ref (Gc.2.2 0)), some (.ref (Gm.2.2 0)), some (.int (nI i))] []) : JL X Gc Gm Q mC mM 433 [some (.ref b), some (.ref (Gc.2.2 0)), some (.ref (Gm.2.2 0)), some (.int (nI i))] [] := by
  obtain ⟨r, mC2, mM2, e1, e2, hR⟩ := hO
  refine l_aload h dL_433 rfl ?_
  refine l_arg (k := 1) h (by decide) (by omega) hL rfl rfl dL_434 dL_435 dL_436 dL_437 dL_438 ?_
  refine l_arg (k := 2) h (by decide) (by omega) hL rfl rfl dL_439 dL_440 dL_441 dL_442 dL_443 ?_
  refine l_callC h [.int (xs (i + 1)), .int (xs (i + 2))] (fun hDD => kX11_awake _ _ hDD mC (xs (i + 1)) (xs (i + 2)) _ e1) okX11_awake inX11_awake mlL_45 rfl rfl rfl (by decide) (by decide) (Nat.le_of_ble_eq_true rfl) rfl dL_444 ?_
  refine l_aload h dL_447 rfl ?_
  refine l_arg (k := 1) h (by decide) (by omega) hL rfl rfl dL_448 dL_449 dL_450 dL_451 dL_452 ?_
  refine l_arg (k := 2) h (by decide) (by omega) hL rfl rfl dL_453 dL_454 dL_455 dL_456 dL_457 ?_
  refine l_callM h [.int (xs (i + 1)), .int (xs (i + 2))] (fun hDD => kX12_awake _ _ hDD mM (xs (i + 1)) (xs (i + 2)) _ e2) okX12_awake inX12_awake mlL_48 rfl rfl rfl (by decide) (by decide) (Nat.le_of_ble_eq_true rfl) rfl dL_458 ?_
  refine l_eqT (tgt := 1371) h dL_461 (by decide) ?_
  exact kk _ _ hR
theorem mlL_49 : Cond.methodLink R_law 49 yX11_noise ∈ WT := wt_mem 992 (by decide +kernel) rfl
theorem mlL_52 : Cond.methodLink R_law 52 yX12_noise ∈ WT := wt_mem 1831 (by decide +kernel) rfl
set_option maxHeartbeats 4000000 in
theorem case_noise {X : Cx} {Gc Gm : Gt} {b L i : Nat} {xs : Nat → Int32} {Q : State → Prop} {mC mM : Mem} {Rel : Mem → Mem → Prop} (h : OkL X Gc Gm b L xs) (hi : i + 6 ≤ L) (hL : L < 2 ^ 31) (hO : ∃ r, fX11_noise mC (xs (i + 1)) (xs (i + 2)) = some r ∧ fX12_noise mM (xs (i + 1)) (xs (i + 2)) = some r ∧ Rel mC mM) (kk : ∀ mC mM, Rel mC mM → JL X Gc Gm Q mC mM 1371 [some (.ref b), some (.ref (Gc.2.2 0)), some (.ref (Gm.2.2 0)), some (.int (nI i))] []) : JL X Gc Gm Q mC mM 466 [some (.ref b), some (.ref (Gc.2.2 0)), some (.ref (Gm.2.2 0)), some (.int (nI i))] [] := by
  obtain ⟨r, e1, e2, hR⟩ := hO
  refine l_aload h dL_466 rfl ?_
  refine l_arg (k := 1) h (by decide) (by omega) hL rfl rfl dL_467 dL_468 dL_469 dL_470 dL_471 ?_
  refine l_arg (k := 2) h (by decide) (by omega) hL rfl rfl dL_472 dL_473 dL_474 dL_475 dL_476 ?_
  refine l_callC h [.int (xs (i + 1)), .int (xs (i + 2))] (fun hDD => kX11_noise _ _ hDD mC (xs (i + 1)) (xs (i + 2)) _ e1) okX11_noise inX11_noise mlL_49 rfl rfl rfl (by decide) (by decide) (Nat.le_of_ble_eq_true rfl) rfl dL_477 ?_
  refine l_aload h dL_480 rfl ?_
  refine l_arg (k := 1) h (by decide) (by omega) hL rfl rfl dL_481 dL_482 dL_483 dL_484 dL_485 ?_
  refine l_arg (k := 2) h (by decide) (by omega) hL rfl rfl dL_486 dL_487 dL_488 dL_489 dL_490 ?_
  refine l_callM h [.int (xs (i + 1)), .int (xs (i + 2))] (fun hDD => kX12_noise _ _ hDD mM (xs (i + 1)) (xs (i + 2)) _ e2) okX12_noise inX12_noise mlL_52 rfl rfl rfl (by decide) (by decide) (Nat.le_of_ble_eq_true rfl) rfl dL_491 ?_
  refine l_eqT (tgt := 1371) h dL_494 (by decide) ?_
  exact kk _ _ hR
theorem mlL_53 : Cond.methodLink R_law 53 yX11_go ∈ WT := wt_mem 997 (by decide +kernel) rfl
theorem mlL_56 : Cond.methodLink R_law 56 yX12_go ∈ WT := wt_mem 1835 (by decide +kernel) rfl
set_option maxHeartbeats 4000000 in
theorem case_go {X : Cx} {Gc Gm : Gt} {b L i : Nat} {xs : Nat → Int32} {Q : State → Prop} {mC mM : Mem} {Rel : Mem → Mem → Prop} (h : OkL X Gc Gm b L xs) (hi : i + 6 ≤ L) (hL : L < 2 ^ 31) (hO : ∃ r mC2 mM2, fX11_go mC (xs (i + 1)) (xs (i + 2)) = some (r, mC2) ∧ fX12_go mM (xs (i + 1)) (xs (i + 2)) = some (r, mM2) ∧ Rel mC2 mM2) (kk : ∀ mC mM, Rel mC mM → JL X Gc Gm Q mC mM 1371 [some (.ref b), some (.ref (Gc.2.2 0)), some (.ref (Gm.2.2 0)), some (.int (nI i))] []) : JL X Gc Gm Q mC mM 499 [some (.ref b), some (.ref (Gc.2.2 0)), some (.ref (Gm.2.2 0)), some (.int (nI i))] [] := by
  obtain ⟨r, mC2, mM2, e1, e2, hR⟩ := hO
  refine l_aload h dL_499 rfl ?_
  refine l_arg (k := 1) h (by decide) (by omega) hL rfl rfl dL_500 dL_501 dL_502 dL_503 dL_504 ?_
  refine l_arg (k := 2) h (by decide) (by omega) hL rfl rfl dL_505 dL_506 dL_507 dL_508 dL_509 ?_
  refine l_callC h [.int (xs (i + 1)), .int (xs (i + 2))] (fun hDD => kX11_go _ _ hDD mC (xs (i + 1)) (xs (i + 2)) _ e1) okX11_go inX11_go mlL_53 rfl rfl rfl (by decide) (by decide) (Nat.le_of_ble_eq_true rfl) rfl dL_510 ?_
  refine l_aload h dL_513 rfl ?_
  refine l_arg (k := 1) h (by decide) (by omega) hL rfl rfl dL_514 dL_515 dL_516 dL_517 dL_518 ?_
  refine l_arg (k := 2) h (by decide) (by omega) hL rfl rfl dL_519 dL_520 dL_521 dL_522 dL_523 ?_
  refine l_callM h [.int (xs (i + 1)), .int (xs (i + 2))] (fun hDD => kX12_go _ _ hDD mM (xs (i + 1)) (xs (i + 2)) _ e2) okX12_go inX12_go mlL_56 rfl rfl rfl (by decide) (by decide) (Nat.le_of_ble_eq_true rfl) rfl dL_524 ?_
  refine l_eqT (tgt := 1371) h dL_527 (by decide) ?_
  exact kk _ _ hR
theorem mlL_57 : Cond.methodLink R_law 57 yX11_hush ∈ WT := wt_mem 1006 (by decide +kernel) rfl
theorem mlL_60 : Cond.methodLink R_law 60 yX12_hush ∈ WT := wt_mem 1843 (by decide +kernel) rfl
set_option maxHeartbeats 4000000 in
theorem case_hush {X : Cx} {Gc Gm : Gt} {b L i : Nat} {xs : Nat → Int32} {Q : State → Prop} {mC mM : Mem} {Rel : Mem → Mem → Prop} (h : OkL X Gc Gm b L xs) (hi : i + 6 ≤ L) (hL : L < 2 ^ 31) (hO : ∃ r mC2 mM2, fX11_hush mC (xs (i + 1)) = some (r, mC2) ∧ fX12_hush mM (xs (i + 1)) = some (r, mM2) ∧ Rel mC2 mM2) (kk : ∀ mC mM, Rel mC mM → JL X Gc Gm Q mC mM 1371 [some (.ref b), some (.ref (Gc.2.2 0)), some (.ref (Gm.2.2 0)), some (.int (nI i))] []) : JL X Gc Gm Q mC mM 532 [some (.ref b), some (.ref (Gc.2.2 0)), some (.ref (Gm.2.2 0)), some (.int (nI i))] [] := by
  obtain ⟨r, mC2, mM2, e1, e2, hR⟩ := hO
  refine l_aload h dL_532 rfl ?_
  refine l_arg (k := 1) h (by decide) (by omega) hL rfl rfl dL_533 dL_534 dL_535 dL_536 dL_537 ?_
  refine l_callC h [.int (xs (i + 1))] (fun hDD => kX11_hush _ _ hDD mC (xs (i + 1)) _ e1) okX11_hush inX11_hush mlL_57 rfl rfl rfl (by decide) (by decide) (Nat.le_of_ble_eq_true rfl) rfl dL_538 ?_
  refine l_aload h dL_541 rfl ?_
  refine l_arg (k := 1) h (by decide) (by omega) hL rfl rfl dL_542 dL_543 dL_544 dL_545 dL_546 ?_
  refine l_callM h [.int (xs (i + 1))] (fun hDD => kX12_hush _ _ hDD mM (xs (i + 1)) _ e2) okX12_hush inX12_hush mlL_60 rfl rfl rfl (by decide) (by decide) (Nat.le_of_ble_eq_true rfl) rfl dL_547 ?_
  refine l_eqT (tgt := 1371) h dL_550 (by decide) ?_
  exact kk _ _ hR
theorem mlL_61 : Cond.methodLink R_law 61 yX11_hour ∈ WT := wt_mem 1010 (by decide +kernel) rfl
theorem mlL_64 : Cond.methodLink R_law 64 yX12_hour ∈ WT := wt_mem 1847 (by decide +kernel) rfl
set_option maxHeartbeats 4000000 in
theorem case_hour {X : Cx} {Gc Gm : Gt} {b L i : Nat} {xs : Nat → Int32} {Q : State → Prop} {mC mM : Mem} {Rel : Mem → Mem → Prop} (h : OkL X Gc Gm b L xs) (hi : i + 6 ≤ L) (hL : L < 2 ^ 31) (hO : ∃ r mC2 mM2, fX11_hour mC = some (r, mC2) ∧ fX12_hour mM = some (r, mM2) ∧ Rel mC2 mM2) (kk : ∀ mC mM, Rel mC mM → JL X Gc Gm Q mC mM 1371 [some (.ref b), some (.ref (Gc.2.2 0)), some (.ref (Gm.2.2 0)), some (.int (nI i))] []) : JL X Gc Gm Q mC mM 555 [some (.ref b), some (.ref (Gc.2.2 0)), some (.ref (Gm.2.2 0)), some (.int (nI i))] [] := by
  obtain ⟨r, mC2, mM2, e1, e2, hR⟩ := hO
  refine l_aload h dL_555 rfl ?_
  refine l_callC h [] (fun hDD => kX11_hour _ _ hDD mC _ e1) okX11_hour inX11_hour mlL_61 rfl rfl rfl (by decide) (by decide) (Nat.le_of_ble_eq_true rfl) rfl dL_556 ?_
  refine l_aload h dL_559 rfl ?_
  refine l_callM h [] (fun hDD => kX12_hour _ _ hDD mM _ e2) okX12_hour inX12_hour mlL_64 rfl rfl rfl (by decide) (by decide) (Nat.le_of_ble_eq_true rfl) rfl dL_560 ?_
  refine l_eqT (tgt := 1371) h dL_563 (by decide) ?_
  exact kk _ _ hR
theorem mlL_65 : Cond.methodLink R_law 65 yX11_undo ∈ WT := wt_mem 1026 (by decide +kernel) rfl
theorem mlL_69 : Cond.methodLink R_law 69 yX12_undo ∈ WT := wt_mem 1855 (by decide +kernel) rfl
set_option maxHeartbeats 4000000 in
theorem case_undo {X : Cx} {Gc Gm : Gt} {b L i : Nat} {xs : Nat → Int32} {Q : State → Prop} {mC mM : Mem} {Rel : Mem → Mem → Prop} (h : OkL X Gc Gm b L xs) (hi : i + 6 ≤ L) (hL : L < 2 ^ 31) (hO : ∃ r mC2 mM2, fX11_undo mC = some (r, mC2) ∧ fX12_undo mM = some (r, mM2) ∧ Rel mC2 mM2) (kk : ∀ mC mM, Rel mC mM → JL X Gc Gm Q mC mM 1371 [some (.ref b), some (.ref (Gc.2.2 0)), some (.ref (Gm.2.2 0)), some (.int (nI i))] []) : JL X Gc Gm Q mC mM 568 [some (.ref b), some (.ref (Gc.2.2 0)), some (.ref (Gm.2.2 0)), some (.int (nI i))] [] := by
  obtain ⟨r, mC2, mM2, e1, e2, hR⟩ := hO
  refine l_aload h dL_568 rfl ?_
  refine l_callC h [] (fun hDD => kX11_undo _ _ hDD mC _ e1) okX11_undo inX11_undo mlL_65 rfl rfl rfl (by decide) (by decide) (Nat.le_of_ble_eq_true rfl) rfl dL_569 ?_
  refine l_aload h dL_572 rfl ?_
  refine l_callM h [] (fun hDD => kX12_undo _ _ hDD mM _ e2) okX12_undo inX12_undo mlL_69 rfl rfl rfl (by decide) (by decide) (Nat.le_of_ble_eq_true rfl) rfl dL_573 ?_
  refine l_eqT (tgt := 1371) h dL_576 (by decide) ?_
  exact kk _ _ hR
theorem mlL_70 : Cond.methodLink R_law 70 yX11_redo ∈ WT := wt_mem 1038 (by decide +kernel) rfl
theorem mlL_73 : Cond.methodLink R_law 73 yX12_redo ∈ WT := wt_mem 1863 (by decide +kernel) rfl
set_option maxHeartbeats 4000000 in
theorem case_redo {X : Cx} {Gc Gm : Gt} {b L i : Nat} {xs : Nat → Int32} {Q : State → Prop} {mC mM : Mem} {Rel : Mem → Mem → Prop} (h : OkL X Gc Gm b L xs) (hi : i + 6 ≤ L) (hL : L < 2 ^ 31) (hO : ∃ r mC2 mM2, fX11_redo mC = some (r, mC2) ∧ fX12_redo mM = some (r, mM2) ∧ Rel mC2 mM2) (kk : ∀ mC mM, Rel mC mM → JL X Gc Gm Q mC mM 1371 [some (.ref b), some (.ref (Gc.2.2 0)), some (.ref (Gm.2.2 0)), some (.int (nI i))] []) : JL X Gc Gm Q mC mM 581 [some (.ref b), some (.ref (Gc.2.2 0)), some (.ref (Gm.2.2 0)), some (.int (nI i))] [] := by
  obtain ⟨r, mC2, mM2, e1, e2, hR⟩ := hO
  refine l_aload h dL_581 rfl ?_
  refine l_callC h [] (fun hDD => kX11_redo _ _ hDD mC _ e1) okX11_redo inX11_redo mlL_70 rfl rfl rfl (by decide) (by decide) (Nat.le_of_ble_eq_true rfl) rfl dL_582 ?_
  refine l_aload h dL_585 rfl ?_
  refine l_callM h [] (fun hDD => kX12_redo _ _ hDD mM _ e2) okX12_redo inX12_redo mlL_73 rfl rfl rfl (by decide) (by decide) (Nat.le_of_ble_eq_true rfl) rfl dL_586 ?_
  refine l_eqT (tgt := 1371) h dL_589 (by decide) ?_
  exact kk _ _ hR
theorem mlL_74 : Cond.methodLink R_law 74 yX11_common ∈ WT := wt_mem 1046 (by decide +kernel) rfl
theorem mlL_78 : Cond.methodLink R_law 78 yX12_common ∈ WT := wt_mem 1867 (by decide +kernel) rfl
set_option maxHeartbeats 4000000 in
theorem case_common {X : Cx} {Gc Gm : Gt} {b L i : Nat} {xs : Nat → Int32} {Q : State → Prop} {mC mM : Mem} {Rel : Mem → Mem → Prop} (h : OkL X Gc Gm b L xs) (hi : i + 6 ≤ L) (hL : L < 2 ^ 31) (hO : ∃ r mC2 mM2, fX11_common mC (xs (i + 1)) (xs (i + 2)) (xs (i + 3)) = some (r, mC2) ∧ fX12_common mM (xs (i + 1)) (xs (i + 2)) (xs (i + 3)) = some (r, mM2) ∧ Rel mC2 mM2) (kk : ∀ mC mM, Rel mC mM → JL X Gc Gm Q mC mM 1371 [some (.ref b), some (.ref (Gc.2.2 0)), some (.ref (Gm.2.2 0)), some (.int (nI i))] []) : JL X Gc Gm Q mC mM 594 [some (.ref b), some (.ref (Gc.2.2 0)), some (.ref (Gm.2.2 0)), some (.int (nI i))] [] := by
  obtain ⟨r, mC2, mM2, e1, e2, hR⟩ := hO
  refine l_aload h dL_594 rfl ?_
  refine l_arg (k := 1) h (by decide) (by omega) hL rfl rfl dL_595 dL_596 dL_597 dL_598 dL_599 ?_
  refine l_arg (k := 2) h (by decide) (by omega) hL rfl rfl dL_600 dL_601 dL_602 dL_603 dL_604 ?_
  refine l_arg (k := 3) h (by decide) (by omega) hL rfl rfl dL_605 dL_606 dL_607 dL_608 dL_609 ?_
  refine l_callC h [.int (xs (i + 1)), .int (xs (i + 2)), .int (xs (i + 3))] (fun hDD => kX11_common _ _ hDD mC (xs (i + 1)) (xs (i + 2)) (xs (i + 3)) _ e1) okX11_common inX11_common mlL_74 rfl rfl rfl (by decide) (by decide) (Nat.le_of_ble_eq_true rfl) rfl dL_610 ?_
  refine l_aload h dL_613 rfl ?_
  refine l_arg (k := 1) h (by decide) (by omega) hL rfl rfl dL_614 dL_615 dL_616 dL_617 dL_618 ?_
  refine l_arg (k := 2) h (by decide) (by omega) hL rfl rfl dL_619 dL_620 dL_621 dL_622 dL_623 ?_
  refine l_arg (k := 3) h (by decide) (by omega) hL rfl rfl dL_624 dL_625 dL_626 dL_627 dL_628 ?_
  refine l_callM h [.int (xs (i + 1)), .int (xs (i + 2)), .int (xs (i + 3))] (fun hDD => kX12_common _ _ hDD mM (xs (i + 1)) (xs (i + 2)) (xs (i + 3)) _ e2) okX12_common inX12_common mlL_78 rfl rfl rfl (by decide) (by decide) (Nat.le_of_ble_eq_true rfl) rfl dL_629 ?_
  refine l_eqT (tgt := 1371) h dL_632 (by decide) ?_
  exact kk _ _ hR
theorem mlL_79 : Cond.methodLink R_law 79 yX11_can ∈ WT := wt_mem 1051 (by decide +kernel) rfl
theorem mlL_82 : Cond.methodLink R_law 82 yX12_can ∈ WT := wt_mem 1871 (by decide +kernel) rfl
set_option maxHeartbeats 4000000 in
theorem case_can {X : Cx} {Gc Gm : Gt} {b L i : Nat} {xs : Nat → Int32} {Q : State → Prop} {mC mM : Mem} {Rel : Mem → Mem → Prop} (h : OkL X Gc Gm b L xs) (hi : i + 6 ≤ L) (hL : L < 2 ^ 31) (hO : ∃ r mC2 mM2, fX11_can mC (xs (i + 1)) = some (r, mC2) ∧ fX12_can mM (xs (i + 1)) = some (r, mM2) ∧ Rel mC2 mM2) (kk : ∀ mC mM, Rel mC mM → JL X Gc Gm Q mC mM 1371 [some (.ref b), some (.ref (Gc.2.2 0)), some (.ref (Gm.2.2 0)), some (.int (nI i))] []) : JL X Gc Gm Q mC mM 637 [some (.ref b), some (.ref (Gc.2.2 0)), some (.ref (Gm.2.2 0)), some (.int (nI i))] [] := by
  obtain ⟨r, mC2, mM2, e1, e2, hR⟩ := hO
  refine l_aload h dL_637 rfl ?_
  refine l_arg (k := 1) h (by decide) (by omega) hL rfl rfl dL_638 dL_639 dL_640 dL_641 dL_642 ?_
  refine l_callC h [.int (xs (i + 1))] (fun hDD => kX11_can _ _ hDD mC (xs (i + 1)) _ e1) okX11_can inX11_can mlL_79 rfl rfl rfl (by decide) (by decide) (Nat.le_of_ble_eq_true rfl) rfl dL_643 ?_
  refine l_aload h dL_646 rfl ?_
  refine l_arg (k := 1) h (by decide) (by omega) hL rfl rfl dL_647 dL_648 dL_649 dL_650 dL_651 ?_
  refine l_callM h [.int (xs (i + 1))] (fun hDD => kX12_can _ _ hDD mM (xs (i + 1)) _ e2) okX12_can inX12_can mlL_82 rfl rfl rfl (by decide) (by decide) (Nat.le_of_ble_eq_true rfl) rfl dL_652 ?_
  refine l_eqT (tgt := 1371) h dL_655 (by decide) ?_
  exact kk _ _ hR
theorem mlL_83 : Cond.methodLink R_law 83 yX11_never ∈ WT := wt_mem 1055 (by decide +kernel) rfl
theorem mlL_86 : Cond.methodLink R_law 86 yX12_never ∈ WT := wt_mem 1879 (by decide +kernel) rfl
set_option maxHeartbeats 4000000 in
theorem case_never {X : Cx} {Gc Gm : Gt} {b L i : Nat} {xs : Nat → Int32} {Q : State → Prop} {mC mM : Mem} {Rel : Mem → Mem → Prop} (h : OkL X Gc Gm b L xs) (hi : i + 6 ≤ L) (hL : L < 2 ^ 31) (hO : ∃ r mC2 mM2, fX11_never mC (xs (i + 1)) = some (r, mC2) ∧ fX12_never mM (xs (i + 1)) = some (r, mM2) ∧ Rel mC2 mM2) (kk : ∀ mC mM, Rel mC mM → JL X Gc Gm Q mC mM 1371 [some (.ref b), some (.ref (Gc.2.2 0)), some (.ref (Gm.2.2 0)), some (.int (nI i))] []) : JL X Gc Gm Q mC mM 660 [some (.ref b), some (.ref (Gc.2.2 0)), some (.ref (Gm.2.2 0)), some (.int (nI i))] [] := by
  obtain ⟨r, mC2, mM2, e1, e2, hR⟩ := hO
  refine l_aload h dL_660 rfl ?_
  refine l_arg (k := 1) h (by decide) (by omega) hL rfl rfl dL_661 dL_662 dL_663 dL_664 dL_665 ?_
  refine l_callC h [.int (xs (i + 1))] (fun hDD => kX11_never _ _ hDD mC (xs (i + 1)) _ e1) okX11_never inX11_never mlL_83 rfl rfl rfl (by decide) (by decide) (Nat.le_of_ble_eq_true rfl) rfl dL_666 ?_
  refine l_aload h dL_669 rfl ?_
  refine l_arg (k := 1) h (by decide) (by omega) hL rfl rfl dL_670 dL_671 dL_672 dL_673 dL_674 ?_
  refine l_callM h [.int (xs (i + 1))] (fun hDD => kX12_never _ _ hDD mM (xs (i + 1)) _ e2) okX12_never inX12_never mlL_86 rfl rfl rfl (by decide) (by decide) (Nat.le_of_ble_eq_true rfl) rfl dL_675 ?_
  refine l_eqT (tgt := 1371) h dL_678 (by decide) ?_
  exact kk _ _ hR
theorem mlL_87 : Cond.methodLink R_law 87 yX11_dates ∈ WT := wt_mem 1059 (by decide +kernel) rfl
theorem mlL_90 : Cond.methodLink R_law 90 yX12_dates ∈ WT := wt_mem 1887 (by decide +kernel) rfl
set_option maxHeartbeats 4000000 in
theorem case_dates {X : Cx} {Gc Gm : Gt} {b L i : Nat} {xs : Nat → Int32} {Q : State → Prop} {mC mM : Mem} {Rel : Mem → Mem → Prop} (h : OkL X Gc Gm b L xs) (hi : i + 6 ≤ L) (hL : L < 2 ^ 31) (hO : ∃ r mC2 mM2, fX11_dates mC (xs (i + 1)) = some (r, mC2) ∧ fX12_dates mM (xs (i + 1)) = some (r, mM2) ∧ Rel mC2 mM2) (kk : ∀ mC mM, Rel mC mM → JL X Gc Gm Q mC mM 1371 [some (.ref b), some (.ref (Gc.2.2 0)), some (.ref (Gm.2.2 0)), some (.int (nI i))] []) : JL X Gc Gm Q mC mM 683 [some (.ref b), some (.ref (Gc.2.2 0)), some (.ref (Gm.2.2 0)), some (.int (nI i))] [] := by
  obtain ⟨r, mC2, mM2, e1, e2, hR⟩ := hO
  refine l_aload h dL_683 rfl ?_
  refine l_arg (k := 1) h (by decide) (by omega) hL rfl rfl dL_684 dL_685 dL_686 dL_687 dL_688 ?_
  refine l_callC h [.int (xs (i + 1))] (fun hDD => kX11_dates _ _ hDD mC (xs (i + 1)) _ e1) okX11_dates inX11_dates mlL_87 rfl rfl rfl (by decide) (by decide) (Nat.le_of_ble_eq_true rfl) rfl dL_689 ?_
  refine l_aload h dL_692 rfl ?_
  refine l_arg (k := 1) h (by decide) (by omega) hL rfl rfl dL_693 dL_694 dL_695 dL_696 dL_697 ?_
  refine l_callM h [.int (xs (i + 1))] (fun hDD => kX12_dates _ _ hDD mM (xs (i + 1)) _ e2) okX12_dates inX12_dates mlL_90 rfl rfl rfl (by decide) (by decide) (Nat.le_of_ble_eq_true rfl) rfl dL_698 ?_
  refine l_eqT (tgt := 1371) h dL_701 (by decide) ?_
  exact kk _ _ hR
theorem mlL_91 : Cond.methodLink R_law 91 yX11_harmed ∈ WT := wt_mem 1063 (by decide +kernel) rfl
theorem mlL_94 : Cond.methodLink R_law 94 yX12_harmed ∈ WT := wt_mem 1891 (by decide +kernel) rfl
set_option maxHeartbeats 4000000 in
theorem case_harmed {X : Cx} {Gc Gm : Gt} {b L i : Nat} {xs : Nat → Int32} {Q : State → Prop} {mC mM : Mem} {Rel : Mem → Mem → Prop} (h : OkL X Gc Gm b L xs) (hi : i + 6 ≤ L) (hL : L < 2 ^ 31) (hO : ∃ r mC2 mM2, fX11_harmed mC (xs (i + 1)) (xs (i + 2)) = some (r, mC2) ∧ fX12_harmed mM (xs (i + 1)) (xs (i + 2)) = some (r, mM2) ∧ Rel mC2 mM2) (kk : ∀ mC mM, Rel mC mM → JL X Gc Gm Q mC mM 1371 [some (.ref b), some (.ref (Gc.2.2 0)), some (.ref (Gm.2.2 0)), some (.int (nI i))] []) : JL X Gc Gm Q mC mM 706 [some (.ref b), some (.ref (Gc.2.2 0)), some (.ref (Gm.2.2 0)), some (.int (nI i))] [] := by
  obtain ⟨r, mC2, mM2, e1, e2, hR⟩ := hO
  refine l_aload h dL_706 rfl ?_
  refine l_arg (k := 1) h (by decide) (by omega) hL rfl rfl dL_707 dL_708 dL_709 dL_710 dL_711 ?_
  refine l_arg (k := 2) h (by decide) (by omega) hL rfl rfl dL_712 dL_713 dL_714 dL_715 dL_716 ?_
  refine l_callC h [.int (xs (i + 1)), .int (xs (i + 2))] (fun hDD => kX11_harmed _ _ hDD mC (xs (i + 1)) (xs (i + 2)) _ e1) okX11_harmed inX11_harmed mlL_91 rfl rfl rfl (by decide) (by decide) (Nat.le_of_ble_eq_true rfl) rfl dL_717 ?_
  refine l_aload h dL_720 rfl ?_
  refine l_arg (k := 1) h (by decide) (by omega) hL rfl rfl dL_721 dL_722 dL_723 dL_724 dL_725 ?_
  refine l_arg (k := 2) h (by decide) (by omega) hL rfl rfl dL_726 dL_727 dL_728 dL_729 dL_730 ?_
  refine l_callM h [.int (xs (i + 1)), .int (xs (i + 2))] (fun hDD => kX12_harmed _ _ hDD mM (xs (i + 1)) (xs (i + 2)) _ e2) okX12_harmed inX12_harmed mlL_94 rfl rfl rfl (by decide) (by decide) (Nat.le_of_ble_eq_true rfl) rfl dL_731 ?_
  refine l_eqT (tgt := 1371) h dL_734 (by decide) ?_
  exact kk _ _ hR
theorem mlW_95 : Cond.methodLink R_law 95 yX11_bliss ∈ WT := wt_mem 1071 (by decide +kernel) rfl
theorem mlL_98 : Cond.methodLink R_law 98 yX12_bliss ∈ WT := wt_mem 1899 (by decide +kernel) rfl
set_option maxHeartbeats 4000000 in
theorem case_bliss {X : Cx} {Gc Gm : Gt} {b L i : Nat} {xs : Nat → Int32} {Q : State → Prop} {mC mM : Mem} {Rel : Mem → Mem → Prop} (h : OkL X Gc Gm b L xs) (hi : i + 6 ≤ L) (hL : L < 2 ^ 31) (hO : ∃ r mC2 mM2, fX11_bliss mC (xs (i + 1)) = some (r, mC2) ∧ fX12_bliss mM (xs (i + 1)) = some (r, mM2) ∧ Rel mC2 mM2) (kk : ∀ mC mM, Rel mC mM → JL X Gc Gm Q mC mM 1371 [some (.ref b), some (.ref (Gc.2.2 0)), some (.ref (Gm.2.2 0)), some (.int (nI i))] []) : JL X Gc Gm Q mC mM 739 [some (.ref b), some (.ref (Gc.2.2 0)), some (.ref (Gm.2.2 0)), some (.int (nI i))] [] := by
  obtain ⟨r, mC2, mM2, e1, e2, hR⟩ := hO
  refine l_aload h dL_739 rfl ?_
  refine l_arg (k := 1) h (by decide) (by omega) hL rfl rfl dL_740 dL_741 dL_742 dL_743 dL_744 ?_
  refine l_callC h [.int (xs (i + 1))] (fun hDD => kX11_bliss _ _ hDD mC (xs (i + 1)) _ e1) okX11_bliss inX11_bliss mlW_95 rfl rfl rfl (by decide) (by decide) (Nat.le_of_ble_eq_true rfl) rfl dL_745 ?_
  refine l_aload h dL_748 rfl ?_
  refine l_arg (k := 1) h (by decide) (by omega) hL rfl rfl dL_749 dL_750 dL_751 dL_752 dL_753 ?_
  refine l_callM h [.int (xs (i + 1))] (fun hDD => kX12_bliss _ _ hDD mM (xs (i + 1)) _ e2) okX12_bliss inX12_bliss mlL_98 rfl rfl rfl (by decide) (by decide) (Nat.le_of_ble_eq_true rfl) rfl dL_754 ?_
  refine l_eqT (tgt := 1371) h dL_757 (by decide) ?_
  exact kk _ _ hR
theorem mlL_99 : Cond.methodLink R_law 99 yX11_cut ∈ WT := wt_mem 1090 (by decide +kernel) rfl
theorem mlL_102 : Cond.methodLink R_law 102 yX12_cut ∈ WT := wt_mem 1912 (by decide +kernel) rfl
set_option maxHeartbeats 4000000 in
theorem case_cut {X : Cx} {Gc Gm : Gt} {b L i : Nat} {xs : Nat → Int32} {Q : State → Prop} {mC mM : Mem} {Rel : Mem → Mem → Prop} (h : OkL X Gc Gm b L xs) (hi : i + 6 ≤ L) (hL : L < 2 ^ 31) (hO : ∃ r mC2 mM2, fX11_cut mC = some (r, mC2) ∧ fX12_cut mM = some (r, mM2) ∧ Rel mC2 mM2) (kk : ∀ mC mM, Rel mC mM → JL X Gc Gm Q mC mM 1371 [some (.ref b), some (.ref (Gc.2.2 0)), some (.ref (Gm.2.2 0)), some (.int (nI i))] []) : JL X Gc Gm Q mC mM 762 [some (.ref b), some (.ref (Gc.2.2 0)), some (.ref (Gm.2.2 0)), some (.int (nI i))] [] := by
  obtain ⟨r, mC2, mM2, e1, e2, hR⟩ := hO
  refine l_aload h dL_762 rfl ?_
  refine l_callC h [] (fun hDD => kX11_cut _ _ hDD mC _ e1) okX11_cut inX11_cut mlL_99 rfl rfl rfl (by decide) (by decide) (Nat.le_of_ble_eq_true rfl) rfl dL_763 ?_
  refine l_aload h dL_766 rfl ?_
  refine l_callM h [] (fun hDD => kX12_cut _ _ hDD mM _ e2) okX12_cut inX12_cut mlL_102 rfl rfl rfl (by decide) (by decide) (Nat.le_of_ble_eq_true rfl) rfl dL_767 ?_
  refine l_eqT (tgt := 1371) h dL_770 (by decide) ?_
  exact kk _ _ hR
theorem mlL_103 : Cond.methodLink R_law 103 yX11_joy ∈ WT := wt_mem 1128 (by decide +kernel) rfl
theorem mlL_106 : Cond.methodLink R_law 106 yX12_joy ∈ WT := wt_mem 1924 (by decide +kernel) rfl
set_option maxHeartbeats 4000000 in
theorem case_joy {X : Cx} {Gc Gm : Gt} {b L i : Nat} {xs : Nat → Int32} {Q : State → Prop} {mC mM : Mem} {Rel : Mem → Mem → Prop} (h : OkL X Gc Gm b L xs) (hi : i + 6 ≤ L) (hL : L < 2 ^ 31) (hO : ∃ r mC2 mM2, fX11_joy mC (xs (i + 1)) (xs (i + 2)) = some (r, mC2) ∧ fX12_joy mM (xs (i + 1)) (xs (i + 2)) = some (r, mM2) ∧ Rel mC2 mM2) (kk : ∀ mC mM, Rel mC mM → JL X Gc Gm Q mC mM 1371 [some (.ref b), some (.ref (Gc.2.2 0)), some (.ref (Gm.2.2 0)), some (.int (nI i))] []) : JL X Gc Gm Q mC mM 775 [some (.ref b), some (.ref (Gc.2.2 0)), some (.ref (Gm.2.2 0)), some (.int (nI i))] [] := by
  obtain ⟨r, mC2, mM2, e1, e2, hR⟩ := hO
  refine l_aload h dL_775 rfl ?_
  refine l_arg (k := 1) h (by decide) (by omega) hL rfl rfl dL_776 dL_777 dL_778 dL_779 dL_780 ?_
  refine l_arg (k := 2) h (by decide) (by omega) hL rfl rfl dL_781 dL_782 dL_783 dL_784 dL_785 ?_
  refine l_callC h [.int (xs (i + 1)), .int (xs (i + 2))] (fun hDD => kX11_joy _ _ hDD mC (xs (i + 1)) (xs (i + 2)) _ e1) okX11_joy inX11_joy mlL_103 rfl rfl rfl (by decide) (by decide) (Nat.le_of_ble_eq_true rfl) rfl dL_786 ?_
  refine l_aload h dL_789 rfl ?_
  refine l_arg (k := 1) h (by decide) (by omega) hL rfl rfl dL_790 dL_791 dL_792 dL_793 dL_794 ?_
  refine l_arg (k := 2) h (by decide) (by omega) hL rfl rfl dL_795 dL_796 dL_797 dL_798 dL_799 ?_
  refine l_callM h [.int (xs (i + 1)), .int (xs (i + 2))] (fun hDD => kX12_joy _ _ hDD mM (xs (i + 1)) (xs (i + 2)) _ e2) okX12_joy inX12_joy mlL_106 rfl rfl rfl (by decide) (by decide) (Nat.le_of_ble_eq_true rfl) rfl dL_800 ?_
  refine l_eqT (tgt := 1371) h dL_803 (by decide) ?_
  exact kk _ _ hR
theorem mlL_107 : Cond.methodLink R_law 107 yX11_lonely ∈ WT := wt_mem 1136 (by decide +kernel) rfl
theorem mlL_110 : Cond.methodLink R_law 110 yX12_lonely ∈ WT := wt_mem 1932 (by decide +kernel) rfl
set_option maxHeartbeats 4000000 in
theorem case_lonely {X : Cx} {Gc Gm : Gt} {b L i : Nat} {xs : Nat → Int32} {Q : State → Prop} {mC mM : Mem} {Rel : Mem → Mem → Prop} (h : OkL X Gc Gm b L xs) (hi : i + 6 ≤ L) (hL : L < 2 ^ 31) (hO : ∃ r mC2 mM2, fX11_lonely mC (xs (i + 1)) = some (r, mC2) ∧ fX12_lonely mM (xs (i + 1)) = some (r, mM2) ∧ Rel mC2 mM2) (kk : ∀ mC mM, Rel mC mM → JL X Gc Gm Q mC mM 1371 [some (.ref b), some (.ref (Gc.2.2 0)), some (.ref (Gm.2.2 0)), some (.int (nI i))] []) : JL X Gc Gm Q mC mM 808 [some (.ref b), some (.ref (Gc.2.2 0)), some (.ref (Gm.2.2 0)), some (.int (nI i))] [] := by
  obtain ⟨r, mC2, mM2, e1, e2, hR⟩ := hO
  refine l_aload h dL_808 rfl ?_
  refine l_arg (k := 1) h (by decide) (by omega) hL rfl rfl dL_809 dL_810 dL_811 dL_812 dL_813 ?_
  refine l_callC h [.int (xs (i + 1))] (fun hDD => kX11_lonely _ _ hDD mC (xs (i + 1)) _ e1) okX11_lonely inX11_lonely mlL_107 rfl rfl rfl (by decide) (by decide) (Nat.le_of_ble_eq_true rfl) rfl dL_814 ?_
  refine l_aload h dL_817 rfl ?_
  refine l_arg (k := 1) h (by decide) (by omega) hL rfl rfl dL_818 dL_819 dL_820 dL_821 dL_822 ?_
  refine l_callM h [.int (xs (i + 1))] (fun hDD => kX12_lonely _ _ hDD mM (xs (i + 1)) _ e2) okX12_lonely inX12_lonely mlL_110 rfl rfl rfl (by decide) (by decide) (Nat.le_of_ble_eq_true rfl) rfl dL_823 ?_
  refine l_eqT (tgt := 1371) h dL_826 (by decide) ?_
  exact kk _ _ hR
theorem mlL_111 : Cond.methodLink R_law 111 yX11_hinges ∈ WT := wt_mem 1142 (by decide +kernel) rfl
theorem mlL_114 : Cond.methodLink R_law 114 yX12_hinges ∈ WT := wt_mem 1936 (by decide +kernel) rfl
set_option maxHeartbeats 4000000 in
theorem case_hinges {X : Cx} {Gc Gm : Gt} {b L i : Nat} {xs : Nat → Int32} {Q : State → Prop} {mC mM : Mem} {Rel : Mem → Mem → Prop} (h : OkL X Gc Gm b L xs) (hi : i + 6 ≤ L) (hL : L < 2 ^ 31) (hO : ∃ r mC2 mM2, fX11_hinges mC (xs (i + 1)) = some (r, mC2) ∧ fX12_hinges mM (xs (i + 1)) = some (r, mM2) ∧ Rel mC2 mM2) (kk : ∀ mC mM, Rel mC mM → JL X Gc Gm Q mC mM 1371 [some (.ref b), some (.ref (Gc.2.2 0)), some (.ref (Gm.2.2 0)), some (.int (nI i))] []) : JL X Gc Gm Q mC mM 831 [some (.ref b), some (.ref (Gc.2.2 0)), some (.ref (Gm.2.2 0)), some (.int (nI i))] [] := by
  obtain ⟨r, mC2, mM2, e1, e2, hR⟩ := hO
  refine l_aload h dL_831 rfl ?_
  refine l_arg (k := 1) h (by decide) (by omega) hL rfl rfl dL_832 dL_833 dL_834 dL_835 dL_836 ?_
  refine l_callC h [.int (xs (i + 1))] (fun hDD => kX11_hinges _ _ hDD mC (xs (i + 1)) _ e1) okX11_hinges inX11_hinges mlL_111 rfl rfl rfl (by decide) (by decide) (Nat.le_of_ble_eq_true rfl) rfl dL_837 ?_
  refine l_aload h dL_840 rfl ?_
  refine l_arg (k := 1) h (by decide) (by omega) hL rfl rfl dL_841 dL_842 dL_843 dL_844 dL_845 ?_
  refine l_callM h [.int (xs (i + 1))] (fun hDD => kX12_hinges _ _ hDD mM (xs (i + 1)) _ e2) okX12_hinges inX12_hinges mlL_114 rfl rfl rfl (by decide) (by decide) (Nat.le_of_ble_eq_true rfl) rfl dL_846 ?_
  refine l_eqT (tgt := 1371) h dL_849 (by decide) ?_
  exact kk _ _ hR
theorem mlL_115 : Cond.methodLink R_law 115 yX11_loudest ∈ WT := wt_mem 1148 (by decide +kernel) rfl
theorem mlL_118 : Cond.methodLink R_law 118 yX12_loudest ∈ WT := wt_mem 1941 (by decide +kernel) rfl
set_option maxHeartbeats 4000000 in
theorem case_loudest {X : Cx} {Gc Gm : Gt} {b L i : Nat} {xs : Nat → Int32} {Q : State → Prop} {mC mM : Mem} {Rel : Mem → Mem → Prop} (h : OkL X Gc Gm b L xs) (hi : i + 6 ≤ L) (hL : L < 2 ^ 31) (hO : ∃ r mC2 mM2, fX11_loudest mC (xs (i + 1)) (xs (i + 2)) = some (r, mC2) ∧ fX12_loudest mM (xs (i + 1)) (xs (i + 2)) = some (r, mM2) ∧ Rel mC2 mM2) (kk : ∀ mC mM, Rel mC mM → JL X Gc Gm Q mC mM 1371 [some (.ref b), some (.ref (Gc.2.2 0)), some (.ref (Gm.2.2 0)), some (.int (nI i))] []) : JL X Gc Gm Q mC mM 854 [some (.ref b), some (.ref (Gc.2.2 0)), some (.ref (Gm.2.2 0)), some (.int (nI i))] [] := by
  obtain ⟨r, mC2, mM2, e1, e2, hR⟩ := hO
  refine l_aload h dL_854 rfl ?_
  refine l_arg (k := 1) h (by decide) (by omega) hL rfl rfl dL_855 dL_856 dL_857 dL_858 dL_859 ?_
  refine l_arg (k := 2) h (by decide) (by omega) hL rfl rfl dL_860 dL_861 dL_862 dL_863 dL_864 ?_
  refine l_callC h [.int (xs (i + 1)), .int (xs (i + 2))] (fun hDD => kX11_loudest _ _ hDD mC (xs (i + 1)) (xs (i + 2)) _ e1) okX11_loudest inX11_loudest mlL_115 rfl rfl rfl (by decide) (by decide) (Nat.le_of_ble_eq_true rfl) rfl dL_865 ?_
  refine l_aload h dL_868 rfl ?_
  refine l_arg (k := 1) h (by decide) (by omega) hL rfl rfl dL_869 dL_870 dL_871 dL_872 dL_873 ?_
  refine l_arg (k := 2) h (by decide) (by omega) hL rfl rfl dL_874 dL_875 dL_876 dL_877 dL_878 ?_
  refine l_callM h [.int (xs (i + 1)), .int (xs (i + 2))] (fun hDD => kX12_loudest _ _ hDD mM (xs (i + 1)) (xs (i + 2)) _ e2) okX12_loudest inX12_loudest mlL_118 rfl rfl rfl (by decide) (by decide) (Nat.le_of_ble_eq_true rfl) rfl dL_879 ?_
  refine l_eqT (tgt := 1371) h dL_882 (by decide) ?_
  exact kk _ _ hR
theorem mlL_119 : Cond.methodLink R_law 119 yX11_rest ∈ WT := wt_mem 1156 (by decide +kernel) rfl
theorem mlL_122 : Cond.methodLink R_law 122 yX12_rest ∈ WT := wt_mem 1945 (by decide +kernel) rfl
set_option maxHeartbeats 4000000 in
theorem case_rest {X : Cx} {Gc Gm : Gt} {b L i : Nat} {xs : Nat → Int32} {Q : State → Prop} {mC mM : Mem} {Rel : Mem → Mem → Prop} (h : OkL X Gc Gm b L xs) (hi : i + 6 ≤ L) (hL : L < 2 ^ 31) (hO : ∃ r mC2 mM2, fX11_rest mC = some (r, mC2) ∧ fX12_rest mM = some (r, mM2) ∧ Rel mC2 mM2) (kk : ∀ mC mM, Rel mC mM → JL X Gc Gm Q mC mM 1371 [some (.ref b), some (.ref (Gc.2.2 0)), some (.ref (Gm.2.2 0)), some (.int (nI i))] []) : JL X Gc Gm Q mC mM 887 [some (.ref b), some (.ref (Gc.2.2 0)), some (.ref (Gm.2.2 0)), some (.int (nI i))] [] := by
  obtain ⟨r, mC2, mM2, e1, e2, hR⟩ := hO
  refine l_aload h dL_887 rfl ?_
  refine l_callC h [] (fun hDD => kX11_rest _ _ hDD mC _ e1) okX11_rest inX11_rest mlL_119 rfl rfl rfl (by decide) (by decide) (Nat.le_of_ble_eq_true rfl) rfl dL_888 ?_
  refine l_aload h dL_891 rfl ?_
  refine l_callM h [] (fun hDD => kX12_rest _ _ hDD mM _ e2) okX12_rest inX12_rest mlL_122 rfl rfl rfl (by decide) (by decide) (Nat.le_of_ble_eq_true rfl) rfl dL_892 ?_
  refine l_eqT (tgt := 1371) h dL_895 (by decide) ?_
  exact kk _ _ hR
theorem mlL_123 : Cond.methodLink R_law 123 yX11_shop ∈ WT := wt_mem 1172 (by decide +kernel) rfl
theorem mlL_126 : Cond.methodLink R_law 126 yX12_shop ∈ WT := wt_mem 1953 (by decide +kernel) rfl
set_option maxHeartbeats 4000000 in
theorem case_shop {X : Cx} {Gc Gm : Gt} {b L i : Nat} {xs : Nat → Int32} {Q : State → Prop} {mC mM : Mem} {Rel : Mem → Mem → Prop} (h : OkL X Gc Gm b L xs) (hi : i + 6 ≤ L) (hL : L < 2 ^ 31) (hO : ∃ r mC2 mM2, fX11_shop mC (xs (i + 1)) = some (r, mC2) ∧ fX12_shop mM (xs (i + 1)) = some (r, mM2) ∧ Rel mC2 mM2) (kk : ∀ mC mM, Rel mC mM → JL X Gc Gm Q mC mM 1371 [some (.ref b), some (.ref (Gc.2.2 0)), some (.ref (Gm.2.2 0)), some (.int (nI i))] []) : JL X Gc Gm Q mC mM 900 [some (.ref b), some (.ref (Gc.2.2 0)), some (.ref (Gm.2.2 0)), some (.int (nI i))] [] := by
  obtain ⟨r, mC2, mM2, e1, e2, hR⟩ := hO
  refine l_aload h dL_900 rfl ?_
  refine l_arg (k := 1) h (by decide) (by omega) hL rfl rfl dL_901 dL_902 dL_903 dL_904 dL_905 ?_
  refine l_callC h [.int (xs (i + 1))] (fun hDD => kX11_shop _ _ hDD mC (xs (i + 1)) _ e1) okX11_shop inX11_shop mlL_123 rfl rfl rfl (by decide) (by decide) (Nat.le_of_ble_eq_true rfl) rfl dL_906 ?_
  refine l_aload h dL_909 rfl ?_
  refine l_arg (k := 1) h (by decide) (by omega) hL rfl rfl dL_910 dL_911 dL_912 dL_913 dL_914 ?_
  refine l_callM h [.int (xs (i + 1))] (fun hDD => kX12_shop _ _ hDD mM (xs (i + 1)) _ e2) okX12_shop inX12_shop mlL_126 rfl rfl rfl (by decide) (by decide) (Nat.le_of_ble_eq_true rfl) rfl dL_915 ?_
  refine l_eqT (tgt := 1371) h dL_918 (by decide) ?_
  exact kk _ _ hR
theorem mlL_127 : Cond.methodLink R_law 127 yX11_post ∈ WT := wt_mem 1180 (by decide +kernel) rfl
theorem mlL_130 : Cond.methodLink R_law 130 yX12_post ∈ WT := wt_mem 1961 (by decide +kernel) rfl
set_option maxHeartbeats 4000000 in
theorem case_post {X : Cx} {Gc Gm : Gt} {b L i : Nat} {xs : Nat → Int32} {Q : State → Prop} {mC mM : Mem} {Rel : Mem → Mem → Prop} (h : OkL X Gc Gm b L xs) (hi : i + 6 ≤ L) (hL : L < 2 ^ 31) (hO : ∃ r mC2 mM2, fX11_post mC (xs (i + 1)) (xs (i + 2)) = some (r, mC2) ∧ fX12_post mM (xs (i + 1)) (xs (i + 2)) = some (r, mM2) ∧ Rel mC2 mM2) (kk : ∀ mC mM, Rel mC mM → JL X Gc Gm Q mC mM 1371 [some (.ref b), some (.ref (Gc.2.2 0)), some (.ref (Gm.2.2 0)), some (.int (nI i))] []) : JL X Gc Gm Q mC mM 923 [some (.ref b), some (.ref (Gc.2.2 0)), some (.ref (Gm.2.2 0)), some (.int (nI i))] [] := by
  obtain ⟨r, mC2, mM2, e1, e2, hR⟩ := hO
  refine l_aload h dL_923 rfl ?_
  refine l_arg (k := 1) h (by decide) (by omega) hL rfl rfl dL_924 dL_925 dL_926 dL_927 dL_928 ?_
  refine l_arg (k := 2) h (by decide) (by omega) hL rfl rfl dL_929 dL_930 dL_931 dL_932 dL_933 ?_
  refine l_callC h [.int (xs (i + 1)), .int (xs (i + 2))] (fun hDD => kX11_post _ _ hDD mC (xs (i + 1)) (xs (i + 2)) _ e1) okX11_post inX11_post mlL_127 rfl rfl rfl (by decide) (by decide) (Nat.le_of_ble_eq_true rfl) rfl dL_934 ?_
  refine l_aload h dL_937 rfl ?_
  refine l_arg (k := 1) h (by decide) (by omega) hL rfl rfl dL_938 dL_939 dL_940 dL_941 dL_942 ?_
  refine l_arg (k := 2) h (by decide) (by omega) hL rfl rfl dL_943 dL_944 dL_945 dL_946 dL_947 ?_
  refine l_callM h [.int (xs (i + 1)), .int (xs (i + 2))] (fun hDD => kX12_post _ _ hDD mM (xs (i + 1)) (xs (i + 2)) _ e2) okX12_post inX12_post mlL_130 rfl rfl rfl (by decide) (by decide) (Nat.le_of_ble_eq_true rfl) rfl dL_948 ?_
  refine l_eqT (tgt := 1371) h dL_951 (by decide) ?_
  exact kk _ _ hR
theorem mlL_131 : Cond.methodLink R_law 131 yX11_spread ∈ WT := wt_mem 1196 (by decide +kernel) rfl
theorem mlL_134 : Cond.methodLink R_law 134 yX12_spread ∈ WT := wt_mem 1977 (by decide +kernel) rfl
set_option maxHeartbeats 4000000 in
theorem case_spread {X : Cx} {Gc Gm : Gt} {b L i : Nat} {xs : Nat → Int32} {Q : State → Prop} {mC mM : Mem} {Rel : Mem → Mem → Prop} (h : OkL X Gc Gm b L xs) (hi : i + 6 ≤ L) (hL : L < 2 ^ 31) (hO : ∃ r mC2 mM2, fX11_spread mC (xs (i + 1)) (xs (i + 2)) = some (r, mC2) ∧ fX12_spread mM (xs (i + 1)) (xs (i + 2)) = some (r, mM2) ∧ Rel mC2 mM2) (kk : ∀ mC mM, Rel mC mM → JL X Gc Gm Q mC mM 1371 [some (.ref b), some (.ref (Gc.2.2 0)), some (.ref (Gm.2.2 0)), some (.int (nI i))] []) : JL X Gc Gm Q mC mM 956 [some (.ref b), some (.ref (Gc.2.2 0)), some (.ref (Gm.2.2 0)), some (.int (nI i))] [] := by
  obtain ⟨r, mC2, mM2, e1, e2, hR⟩ := hO
  refine l_aload h dL_956 rfl ?_
  refine l_arg (k := 1) h (by decide) (by omega) hL rfl rfl dL_957 dL_958 dL_959 dL_960 dL_961 ?_
  refine l_arg (k := 2) h (by decide) (by omega) hL rfl rfl dL_962 dL_963 dL_964 dL_965 dL_966 ?_
  refine l_callC h [.int (xs (i + 1)), .int (xs (i + 2))] (fun hDD => kX11_spread _ _ hDD mC (xs (i + 1)) (xs (i + 2)) _ e1) okX11_spread inX11_spread mlL_131 rfl rfl rfl (by decide) (by decide) (Nat.le_of_ble_eq_true rfl) rfl dL_967 ?_
  refine l_aload h dL_970 rfl ?_
  refine l_arg (k := 1) h (by decide) (by omega) hL rfl rfl dL_971 dL_972 dL_973 dL_974 dL_975 ?_
  refine l_arg (k := 2) h (by decide) (by omega) hL rfl rfl dL_976 dL_977 dL_978 dL_979 dL_980 ?_
  refine l_callM h [.int (xs (i + 1)), .int (xs (i + 2))] (fun hDD => kX12_spread _ _ hDD mM (xs (i + 1)) (xs (i + 2)) _ e2) okX12_spread inX12_spread mlL_134 rfl rfl rfl (by decide) (by decide) (Nat.le_of_ble_eq_true rfl) rfl dL_981 ?_
  refine l_eqT (tgt := 1371) h dL_984 (by decide) ?_
  exact kk _ _ hR
theorem mlL_135 : Cond.methodLink R_law 135 yX11_wake ∈ WT := wt_mem 1203 (by decide +kernel) rfl
theorem mlL_138 : Cond.methodLink R_law 138 yX12_wake ∈ WT := wt_mem 1981 (by decide +kernel) rfl
set_option maxHeartbeats 4000000 in
theorem case_wake {X : Cx} {Gc Gm : Gt} {b L i : Nat} {xs : Nat → Int32} {Q : State → Prop} {mC mM : Mem} {Rel : Mem → Mem → Prop} (h : OkL X Gc Gm b L xs) (hi : i + 6 ≤ L) (hL : L < 2 ^ 31) (hO : ∃ r mC2 mM2, fX11_wake mC (xs (i + 1)) (xs (i + 2)) (xs (i + 3)) = some (r, mC2) ∧ fX12_wake mM (xs (i + 1)) (xs (i + 2)) (xs (i + 3)) = some (r, mM2) ∧ Rel mC2 mM2) (kk : ∀ mC mM, Rel mC mM → JL X Gc Gm Q mC mM 1371 [some (.ref b), some (.ref (Gc.2.2 0)), some (.ref (Gm.2.2 0)), some (.int (nI i))] []) : JL X Gc Gm Q mC mM 989 [some (.ref b), some (.ref (Gc.2.2 0)), some (.ref (Gm.2.2 0)), some (.int (nI i))] [] := by
  obtain ⟨r, mC2, mM2, e1, e2, hR⟩ := hO
  refine l_aload h dL_989 rfl ?_
  refine l_arg (k := 1) h (by decide) (by omega) hL rfl rfl dL_990 dL_991 dL_992 dL_993 dL_994 ?_
  refine l_arg (k := 2) h (by decide) (by omega) hL rfl rfl dL_995 dL_996 dL_997 dL_998 dL_999 ?_
  refine l_arg (k := 3) h (by decide) (by omega) hL rfl rfl dL_1000 dL_1001 dL_1002 dL_1003 dL_1004 ?_
  refine l_callC h [.int (xs (i + 1)), .int (xs (i + 2)), .int (xs (i + 3))] (fun hDD => kX11_wake _ _ hDD mC (xs (i + 1)) (xs (i + 2)) (xs (i + 3)) _ e1) okX11_wake inX11_wake mlL_135 rfl rfl rfl (by decide) (by decide) (Nat.le_of_ble_eq_true rfl) rfl dL_1005 ?_
  refine l_aload h dL_1008 rfl ?_
  refine l_arg (k := 1) h (by decide) (by omega) hL rfl rfl dL_1009 dL_1010 dL_1011 dL_1012 dL_1013 ?_
  refine l_arg (k := 2) h (by decide) (by omega) hL rfl rfl dL_1014 dL_1015 dL_1016 dL_1017 dL_1018 ?_
  refine l_arg (k := 3) h (by decide) (by omega) hL rfl rfl dL_1019 dL_1020 dL_1021 dL_1022 dL_1023 ?_
  refine l_callM h [.int (xs (i + 1)), .int (xs (i + 2)), .int (xs (i + 3))] (fun hDD => kX12_wake _ _ hDD mM (xs (i + 1)) (xs (i + 2)) (xs (i + 3)) _ e2) okX12_wake inX12_wake mlL_138 rfl rfl rfl (by decide) (by decide) (Nat.le_of_ble_eq_true rfl) rfl dL_1024 ?_
  refine l_eqT (tgt := 1371) h dL_1027 (by decide) ?_
  exact kk _ _ hR
theorem mlL_139 : Cond.methodLink R_law 139 yX11_odds ∈ WT := wt_mem 1213 (by decide +kernel) rfl
theorem mlL_142 : Cond.methodLink R_law 142 yX12_odds ∈ WT := wt_mem 1985 (by decide +kernel) rfl
set_option maxHeartbeats 4000000 in
theorem case_odds {X : Cx} {Gc Gm : Gt} {b L i : Nat} {xs : Nat → Int32} {Q : State → Prop} {mC mM : Mem} {Rel : Mem → Mem → Prop} (h : OkL X Gc Gm b L xs) (hi : i + 6 ≤ L) (hL : L < 2 ^ 31) (hO : ∃ r mC2 mM2, fX11_odds mC (xs (i + 1)) (xs (i + 2)) (xs (i + 3)) = some (r, mC2) ∧ fX12_odds mM (xs (i + 1)) (xs (i + 2)) (xs (i + 3)) = some (r, mM2) ∧ Rel mC2 mM2) (kk : ∀ mC mM, Rel mC mM → JL X Gc Gm Q mC mM 1371 [some (.ref b), some (.ref (Gc.2.2 0)), some (.ref (Gm.2.2 0)), some (.int (nI i))] []) : JL X Gc Gm Q mC mM 1032 [some (.ref b), some (.ref (Gc.2.2 0)), some (.ref (Gm.2.2 0)), some (.int (nI i))] [] := by
  obtain ⟨r, mC2, mM2, e1, e2, hR⟩ := hO
  refine l_aload h dL_1032 rfl ?_
  refine l_arg (k := 1) h (by decide) (by omega) hL rfl rfl dL_1033 dL_1034 dL_1035 dL_1036 dL_1037 ?_
  refine l_arg (k := 2) h (by decide) (by omega) hL rfl rfl dL_1038 dL_1039 dL_1040 dL_1041 dL_1042 ?_
  refine l_arg (k := 3) h (by decide) (by omega) hL rfl rfl dL_1043 dL_1044 dL_1045 dL_1046 dL_1047 ?_
  refine l_callC h [.int (xs (i + 1)), .int (xs (i + 2)), .int (xs (i + 3))] (fun hDD => kX11_odds _ _ hDD mC (xs (i + 1)) (xs (i + 2)) (xs (i + 3)) _ e1) okX11_odds inX11_odds mlL_139 rfl rfl rfl (by decide) (by decide) (Nat.le_of_ble_eq_true rfl) rfl dL_1048 ?_
  refine l_aload h dL_1051 rfl ?_
  refine l_arg (k := 1) h (by decide) (by omega) hL rfl rfl dL_1052 dL_1053 dL_1054 dL_1055 dL_1056 ?_
  refine l_arg (k := 2) h (by decide) (by omega) hL rfl rfl dL_1057 dL_1058 dL_1059 dL_1060 dL_1061 ?_
  refine l_arg (k := 3) h (by decide) (by omega) hL rfl rfl dL_1062 dL_1063 dL_1064 dL_1065 dL_1066 ?_
  refine l_callM h [.int (xs (i + 1)), .int (xs (i + 2)), .int (xs (i + 3))] (fun hDD => kX12_odds _ _ hDD mM (xs (i + 1)) (xs (i + 2)) (xs (i + 3)) _ e2) okX12_odds inX12_odds mlL_142 rfl rfl rfl (by decide) (by decide) (Nat.le_of_ble_eq_true rfl) rfl dL_1067 ?_
  refine l_eqT (tgt := 1371) h dL_1070 (by decide) ?_
  exact kk _ _ hR
theorem mlL_143 : Cond.methodLink R_law 143 yX11_lies ∈ WT := wt_mem 1234 (by decide +kernel) rfl
theorem mlL_146 : Cond.methodLink R_law 146 yX12_lies ∈ WT := wt_mem 1992 (by decide +kernel) rfl
set_option maxHeartbeats 4000000 in
theorem case_lies {X : Cx} {Gc Gm : Gt} {b L i : Nat} {xs : Nat → Int32} {Q : State → Prop} {mC mM : Mem} {Rel : Mem → Mem → Prop} (h : OkL X Gc Gm b L xs) (hi : i + 6 ≤ L) (hL : L < 2 ^ 31) (hO : ∃ r, fX11_lies mC (xs (i + 1)) = some r ∧ fX12_lies mM (xs (i + 1)) = some r ∧ Rel mC mM) (kk : ∀ mC mM, Rel mC mM → JL X Gc Gm Q mC mM 1371 [some (.ref b), some (.ref (Gc.2.2 0)), some (.ref (Gm.2.2 0)), some (.int (nI i))] []) : JL X Gc Gm Q mC mM 1075 [some (.ref b), some (.ref (Gc.2.2 0)), some (.ref (Gm.2.2 0)), some (.int (nI i))] [] := by
  obtain ⟨r, e1, e2, hR⟩ := hO
  refine l_aload h dL_1075 rfl ?_
  refine l_arg (k := 1) h (by decide) (by omega) hL rfl rfl dL_1076 dL_1077 dL_1078 dL_1079 dL_1080 ?_
  refine l_callC h [.int (xs (i + 1))] (fun hDD => kX11_lies _ _ hDD mC (xs (i + 1)) _ e1) okX11_lies inX11_lies mlL_143 rfl rfl rfl (by decide) (by decide) (Nat.le_of_ble_eq_true rfl) rfl dL_1081 ?_
  refine l_aload h dL_1084 rfl ?_
  refine l_arg (k := 1) h (by decide) (by omega) hL rfl rfl dL_1085 dL_1086 dL_1087 dL_1088 dL_1089 ?_
  refine l_callM h [.int (xs (i + 1))] (fun hDD => kX12_lies _ _ hDD mM (xs (i + 1)) _ e2) okX12_lies inX12_lies mlL_146 rfl rfl rfl (by decide) (by decide) (Nat.le_of_ble_eq_true rfl) rfl dL_1090 ?_
  refine l_eqT (tgt := 1371) h dL_1093 (by decide) ?_
  exact kk _ _ hR
theorem mlL_147 : Cond.methodLink R_law 147 yX11_lit ∈ WT := wt_mem 1238 (by decide +kernel) rfl
theorem mlL_151 : Cond.methodLink R_law 151 yX12_lit ∈ WT := wt_mem 1996 (by decide +kernel) rfl
set_option maxHeartbeats 4000000 in
theorem case_lit {X : Cx} {Gc Gm : Gt} {b L i : Nat} {xs : Nat → Int32} {Q : State → Prop} {mC mM : Mem} {Rel : Mem → Mem → Prop} (h : OkL X Gc Gm b L xs) (hi : i + 6 ≤ L) (hL : L < 2 ^ 31) (hO : ∃ r mC2 mM2, fX11_lit mC (xs (i + 1)) (xs (i + 2)) (if (xs (i + 3)) = 0 then 0 else 1) = some (r, mC2) ∧ fX12_lit mM (xs (i + 1)) (xs (i + 2)) (if (xs (i + 3)) = 0 then 0 else 1) = some (r, mM2) ∧ Rel mC2 mM2) (kk : ∀ mC mM, Rel mC mM → JL X Gc Gm Q mC mM 1371 [some (.ref b), some (.ref (Gc.2.2 0)), some (.ref (Gm.2.2 0)), some (.int (nI i))] []) : JL X Gc Gm Q mC mM 1098 [some (.ref b), some (.ref (Gc.2.2 0)), some (.ref (Gm.2.2 0)), some (.int (nI i))] [] := by
  obtain ⟨r, mC2, mM2, e1, e2, hR⟩ := hO
  refine l_aload h dL_1098 rfl ?_
  refine l_arg (k := 1) h (by decide) (by omega) hL rfl rfl dL_1099 dL_1100 dL_1101 dL_1102 dL_1103 ?_
  refine l_arg (k := 2) h (by decide) (by omega) hL rfl rfl dL_1104 dL_1105 dL_1106 dL_1107 dL_1108 ?_
  refine l_arg (k := 3) h (by decide) (by omega) hL rfl rfl dL_1109 dL_1110 dL_1111 dL_1112 dL_1113 ?_
  refine l_bool h dL_1114 dL_1117 dL_1118 dL_1121 (by decide) (by decide) ?_
  refine l_callC h [.int (xs (i + 1)), .int (xs (i + 2)), .int (if (xs (i + 3)) = 0 then 0 else 1)] (fun hDD => kX11_lit _ _ hDD mC (xs (i + 1)) (xs (i + 2)) (if (xs (i + 3)) = 0 then 0 else 1) _ e1) okX11_lit inX11_lit mlL_147 rfl rfl rfl (by decide) (by decide) (Nat.le_of_ble_eq_true rfl) rfl dL_1122 ?_
  refine l_aload h dL_1125 rfl ?_
  refine l_arg (k := 1) h (by decide) (by omega) hL rfl rfl dL_1126 dL_1127 dL_1128 dL_1129 dL_1130 ?_
  refine l_arg (k := 2) h (by decide) (by omega) hL rfl rfl dL_1131 dL_1132 dL_1133 dL_1134 dL_1135 ?_
  refine l_arg (k := 3) h (by decide) (by omega) hL rfl rfl dL_1136 dL_1137 dL_1138 dL_1139 dL_1140 ?_
  refine l_bool h dL_1141 dL_1144 dL_1145 dL_1148 (by decide) (by decide) ?_
  refine l_callM h [.int (xs (i + 1)), .int (xs (i + 2)), .int (if (xs (i + 3)) = 0 then 0 else 1)] (fun hDD => kX12_lit _ _ hDD mM (xs (i + 1)) (xs (i + 2)) (if (xs (i + 3)) = 0 then 0 else 1) _ e2) okX12_lit inX12_lit mlL_151 rfl rfl rfl (by decide) (by decide) (Nat.le_of_ble_eq_true rfl) rfl dL_1149 ?_
  refine l_eqT (tgt := 1371) h dL_1152 (by decide) ?_
  exact kk _ _ hR
theorem mlL_152 : Cond.methodLink R_law 152 yX11_untell ∈ WT := wt_mem 1249 (by decide +kernel) rfl
theorem mlL_156 : Cond.methodLink R_law 156 yX12_untell ∈ WT := wt_mem 2003 (by decide +kernel) rfl
set_option maxHeartbeats 4000000 in
theorem case_untell {X : Cx} {Gc Gm : Gt} {b L i : Nat} {xs : Nat → Int32} {Q : State → Prop} {mC mM : Mem} {Rel : Mem → Mem → Prop} (h : OkL X Gc Gm b L xs) (hi : i + 6 ≤ L) (hL : L < 2 ^ 31) (hO : ∃ r mC2 mM2, fX11_untell mC (xs (i + 1)) = some (r, mC2) ∧ fX12_untell mM (xs (i + 1)) = some (r, mM2) ∧ Rel mC2 mM2) (kk : ∀ mC mM, Rel mC mM → JL X Gc Gm Q mC mM 1371 [some (.ref b), some (.ref (Gc.2.2 0)), some (.ref (Gm.2.2 0)), some (.int (nI i))] []) : JL X Gc Gm Q mC mM 1157 [some (.ref b), some (.ref (Gc.2.2 0)), some (.ref (Gm.2.2 0)), some (.int (nI i))] [] := by
  obtain ⟨r, mC2, mM2, e1, e2, hR⟩ := hO
  refine l_aload h dL_1157 rfl ?_
  refine l_arg (k := 1) h (by decide) (by omega) hL rfl rfl dL_1158 dL_1159 dL_1160 dL_1161 dL_1162 ?_
  refine l_callC h [.int (xs (i + 1))] (fun hDD => kX11_untell _ _ hDD mC (xs (i + 1)) _ e1) okX11_untell inX11_untell mlL_152 rfl rfl rfl (by decide) (by decide) (Nat.le_of_ble_eq_true rfl) rfl dL_1163 ?_
  refine l_aload h dL_1166 rfl ?_
  refine l_arg (k := 1) h (by decide) (by omega) hL rfl rfl dL_1167 dL_1168 dL_1169 dL_1170 dL_1171 ?_
  refine l_callM h [.int (xs (i + 1))] (fun hDD => kX12_untell _ _ hDD mM (xs (i + 1)) _ e2) okX12_untell inX12_untell mlL_156 rfl rfl rfl (by decide) (by decide) (Nat.le_of_ble_eq_true rfl) rfl dL_1172 ?_
  refine l_eqT (tgt := 1371) h dL_1175 (by decide) ?_
  exact kk _ _ hR
theorem mlL_157 : Cond.methodLink R_law 157 yX11_later ∈ WT := wt_mem 1257 (by decide +kernel) rfl
theorem mlL_160 : Cond.methodLink R_law 160 yX12_later ∈ WT := wt_mem 2007 (by decide +kernel) rfl
set_option maxHeartbeats 4000000 in
theorem case_later {X : Cx} {Gc Gm : Gt} {b L i : Nat} {xs : Nat → Int32} {Q : State → Prop} {mC mM : Mem} {Rel : Mem → Mem → Prop} (h : OkL X Gc Gm b L xs) (hi : i + 6 ≤ L) (hL : L < 2 ^ 31) (hO : ∃ r mC2 mM2, fX11_later mC (xs (i + 1)) = some (r, mC2) ∧ fX12_later mM (xs (i + 1)) = some (r, mM2) ∧ Rel mC2 mM2) (kk : ∀ mC mM, Rel mC mM → JL X Gc Gm Q mC mM 1371 [some (.ref b), some (.ref (Gc.2.2 0)), some (.ref (Gm.2.2 0)), some (.int (nI i))] []) : JL X Gc Gm Q mC mM 1180 [some (.ref b), some (.ref (Gc.2.2 0)), some (.ref (Gm.2.2 0)), some (.int (nI i))] [] := by
  obtain ⟨r, mC2, mM2, e1, e2, hR⟩ := hO
  refine l_aload h dL_1180 rfl ?_
  refine l_arg (k := 1) h (by decide) (by omega) hL rfl rfl dL_1181 dL_1182 dL_1183 dL_1184 dL_1185 ?_
  refine l_callC h [.int (xs (i + 1))] (fun hDD => kX11_later _ _ hDD mC (xs (i + 1)) _ e1) okX11_later inX11_later mlL_157 rfl rfl rfl (by decide) (by decide) (Nat.le_of_ble_eq_true rfl) rfl dL_1186 ?_
  refine l_aload h dL_1189 rfl ?_
  refine l_arg (k := 1) h (by decide) (by omega) hL rfl rfl dL_1190 dL_1191 dL_1192 dL_1193 dL_1194 ?_
  refine l_callM h [.int (xs (i + 1))] (fun hDD => kX12_later _ _ hDD mM (xs (i + 1)) _ e2) okX12_later inX12_later mlL_160 rfl rfl rfl (by decide) (by decide) (Nat.le_of_ble_eq_true rfl) rfl dL_1195 ?_
  refine l_eqT (tgt := 1371) h dL_1198 (by decide) ?_
  exact kk _ _ hR
theorem mlL_161 : Cond.methodLink R_law 161 yX11_fits ∈ WT := wt_mem 1266 (by decide +kernel) rfl
theorem mlL_164 : Cond.methodLink R_law 164 yX12_fits ∈ WT := wt_mem 2012 (by decide +kernel) rfl
set_option maxHeartbeats 4000000 in
theorem case_fits {X : Cx} {Gc Gm : Gt} {b L i : Nat} {xs : Nat → Int32} {Q : State → Prop} {mC mM : Mem} {Rel : Mem → Mem → Prop} (h : OkL X Gc Gm b L xs) (hi : i + 6 ≤ L) (hL : L < 2 ^ 31) (hO : ∃ r mC2 mM2, fX11_fits mC (xs (i + 1)) = some (r, mC2) ∧ fX12_fits mM (xs (i + 1)) = some (r, mM2) ∧ Rel mC2 mM2) (kk : ∀ mC mM, Rel mC mM → JL X Gc Gm Q mC mM 1371 [some (.ref b), some (.ref (Gc.2.2 0)), some (.ref (Gm.2.2 0)), some (.int (nI i))] []) : JL X Gc Gm Q mC mM 1203 [some (.ref b), some (.ref (Gc.2.2 0)), some (.ref (Gm.2.2 0)), some (.int (nI i))] [] := by
  obtain ⟨r, mC2, mM2, e1, e2, hR⟩ := hO
  refine l_aload h dL_1203 rfl ?_
  refine l_arg (k := 1) h (by decide) (by omega) hL rfl rfl dL_1204 dL_1205 dL_1206 dL_1207 dL_1208 ?_
  refine l_callC h [.int (xs (i + 1))] (fun hDD => kX11_fits _ _ hDD mC (xs (i + 1)) _ e1) okX11_fits inX11_fits mlL_161 rfl rfl rfl (by decide) (by decide) (Nat.le_of_ble_eq_true rfl) rfl dL_1209 ?_
  refine l_aload h dL_1212 rfl ?_
  refine l_arg (k := 1) h (by decide) (by omega) hL rfl rfl dL_1213 dL_1214 dL_1215 dL_1216 dL_1217 ?_
  refine l_callM h [.int (xs (i + 1))] (fun hDD => kX12_fits _ _ hDD mM (xs (i + 1)) _ e2) okX12_fits inX12_fits mlL_164 rfl rfl rfl (by decide) (by decide) (Nat.le_of_ble_eq_true rfl) rfl dL_1218 ?_
  refine l_eqT (tgt := 1371) h dL_1221 (by decide) ?_
  exact kk _ _ hR
theorem mlL_165 : Cond.methodLink R_law 165 yX11_sure ∈ WT := wt_mem 1288 (by decide +kernel) rfl
theorem mlL_168 : Cond.methodLink R_law 168 yX12_sure ∈ WT := wt_mem 2028 (by decide +kernel) rfl
set_option maxHeartbeats 4000000 in
theorem case_sure {X : Cx} {Gc Gm : Gt} {b L i : Nat} {xs : Nat → Int32} {Q : State → Prop} {mC mM : Mem} {Rel : Mem → Mem → Prop} (h : OkL X Gc Gm b L xs) (hi : i + 6 ≤ L) (hL : L < 2 ^ 31) (hO : ∃ r mC2 mM2, fX11_sure mC (xs (i + 1)) (xs (i + 2)) = some (r, mC2) ∧ fX12_sure mM (xs (i + 1)) (xs (i + 2)) = some (r, mM2) ∧ Rel mC2 mM2) (kk : ∀ mC mM, Rel mC mM → JL X Gc Gm Q mC mM 1371 [some (.ref b), some (.ref (Gc.2.2 0)), some (.ref (Gm.2.2 0)), some (.int (nI i))] []) : JL X Gc Gm Q mC mM 1226 [some (.ref b), some (.ref (Gc.2.2 0)), some (.ref (Gm.2.2 0)), some (.int (nI i))] [] := by
  obtain ⟨r, mC2, mM2, e1, e2, hR⟩ := hO
  refine l_aload h dL_1226 rfl ?_
  refine l_arg (k := 1) h (by decide) (by omega) hL rfl rfl dL_1227 dL_1228 dL_1229 dL_1230 dL_1231 ?_
  refine l_arg (k := 2) h (by decide) (by omega) hL rfl rfl dL_1232 dL_1233 dL_1234 dL_1235 dL_1236 ?_
  refine l_callC h [.int (xs (i + 1)), .int (xs (i + 2))] (fun hDD => kX11_sure _ _ hDD mC (xs (i + 1)) (xs (i + 2)) _ e1) okX11_sure inX11_sure mlL_165 rfl rfl rfl (by decide) (by decide) (Nat.le_of_ble_eq_true rfl) rfl dL_1237 ?_
  refine l_aload h dL_1240 rfl ?_
  refine l_arg (k := 1) h (by decide) (by omega) hL rfl rfl dL_1241 dL_1242 dL_1243 dL_1244 dL_1245 ?_
  refine l_arg (k := 2) h (by decide) (by omega) hL rfl rfl dL_1246 dL_1247 dL_1248 dL_1249 dL_1250 ?_
  refine l_callM h [.int (xs (i + 1)), .int (xs (i + 2))] (fun hDD => kX12_sure _ _ hDD mM (xs (i + 1)) (xs (i + 2)) _ e2) okX12_sure inX12_sure mlL_168 rfl rfl rfl (by decide) (by decide) (Nat.le_of_ble_eq_true rfl) rfl dL_1251 ?_
  refine l_eqT (tgt := 1371) h dL_1254 (by decide) ?_
  exact kk _ _ hR
theorem mlL_169 : Cond.methodLink R_law 169 yX11_ask ∈ WT := wt_mem 1296 (by decide +kernel) rfl
theorem mlL_172 : Cond.methodLink R_law 172 yX12_ask ∈ WT := wt_mem 2032 (by decide +kernel) rfl
set_option maxHeartbeats 4000000 in
theorem case_ask {X : Cx} {Gc Gm : Gt} {b L i : Nat} {xs : Nat → Int32} {Q : State → Prop} {mC mM : Mem} {Rel : Mem → Mem → Prop} (h : OkL X Gc Gm b L xs) (hi : i + 6 ≤ L) (hL : L < 2 ^ 31) (hO : ∃ r mC2 mM2, fX11_ask mC (xs (i + 1)) (xs (i + 2)) (xs (i + 3)) = some (r, mC2) ∧ fX12_ask mM (xs (i + 1)) (xs (i + 2)) (xs (i + 3)) = some (r, mM2) ∧ Rel mC2 mM2) (kk : ∀ mC mM, Rel mC mM → JL X Gc Gm Q mC mM 1371 [some (.ref b), some (.ref (Gc.2.2 0)), some (.ref (Gm.2.2 0)), some (.int (nI i))] []) : JL X Gc Gm Q mC mM 1259 [some (.ref b), some (.ref (Gc.2.2 0)), some (.ref (Gm.2.2 0)), some (.int (nI i))] [] := by
  obtain ⟨r, mC2, mM2, e1, e2, hR⟩ := hO
  refine l_aload h dL_1259 rfl ?_
  refine l_arg (k := 1) h (by decide) (by omega) hL rfl rfl dL_1260 dL_1261 dL_1262 dL_1263 dL_1264 ?_
  refine l_arg (k := 2) h (by decide) (by omega) hL rfl rfl dL_1265 dL_1266 dL_1267 dL_1268 dL_1269 ?_
  refine l_arg (k := 3) h (by decide) (by omega) hL rfl rfl dL_1270 dL_1271 dL_1272 dL_1273 dL_1274 ?_
  refine l_callC h [.int (xs (i + 1)), .int (xs (i + 2)), .int (xs (i + 3))] (fun hDD => kX11_ask _ _ hDD mC (xs (i + 1)) (xs (i + 2)) (xs (i + 3)) _ e1) okX11_ask inX11_ask mlL_169 rfl rfl rfl (by decide) (by decide) (Nat.le_of_ble_eq_true rfl) rfl dL_1275 ?_
  refine l_aload h dL_1278 rfl ?_
  refine l_arg (k := 1) h (by decide) (by omega) hL rfl rfl dL_1279 dL_1280 dL_1281 dL_1282 dL_1283 ?_
  refine l_arg (k := 2) h (by decide) (by omega) hL rfl rfl dL_1284 dL_1285 dL_1286 dL_1287 dL_1288 ?_
  refine l_arg (k := 3) h (by decide) (by omega) hL rfl rfl dL_1289 dL_1290 dL_1291 dL_1292 dL_1293 ?_
  refine l_callM h [.int (xs (i + 1)), .int (xs (i + 2)), .int (xs (i + 3))] (fun hDD => kX12_ask _ _ hDD mM (xs (i + 1)) (xs (i + 2)) (xs (i + 3)) _ e2) okX12_ask inX12_ask mlL_172 rfl rfl rfl (by decide) (by decide) (Nat.le_of_ble_eq_true rfl) rfl dL_1294 ?_
  refine l_eqT (tgt := 1371) h dL_1297 (by decide) ?_
  exact kk _ _ hR
theorem mlL_173 : Cond.methodLink R_law 173 yX11_image ∈ WT := wt_mem 1310 (by decide +kernel) rfl
theorem mlL_176 : Cond.methodLink R_law 176 yX12_image ∈ WT := wt_mem 2036 (by decide +kernel) rfl
set_option maxHeartbeats 4000000 in
theorem case_image {X : Cx} {Gc Gm : Gt} {b L i : Nat} {xs : Nat → Int32} {Q : State → Prop} {mC mM : Mem} {Rel : Mem → Mem → Prop} (h : OkL X Gc Gm b L xs) (hi : i + 6 ≤ L) (hL : L < 2 ^ 31) (hO : ∃ r mC2 mM2, fX11_image mC (xs (i + 1)) = some (r, mC2) ∧ fX12_image mM (xs (i + 1)) = some (r, mM2) ∧ Rel mC2 mM2) (kk : ∀ mC mM, Rel mC mM → JL X Gc Gm Q mC mM 1371 [some (.ref b), some (.ref (Gc.2.2 0)), some (.ref (Gm.2.2 0)), some (.int (nI i))] []) : JL X Gc Gm Q mC mM 1302 [some (.ref b), some (.ref (Gc.2.2 0)), some (.ref (Gm.2.2 0)), some (.int (nI i))] [] := by
  obtain ⟨r, mC2, mM2, e1, e2, hR⟩ := hO
  refine l_aload h dL_1302 rfl ?_
  refine l_arg (k := 1) h (by decide) (by omega) hL rfl rfl dL_1303 dL_1304 dL_1305 dL_1306 dL_1307 ?_
  refine l_callC h [.int (xs (i + 1))] (fun hDD => kX11_image _ _ hDD mC (xs (i + 1)) _ e1) okX11_image inX11_image mlL_173 rfl rfl rfl (by decide) (by decide) (Nat.le_of_ble_eq_true rfl) rfl dL_1308 ?_
  refine l_aload h dL_1311 rfl ?_
  refine l_arg (k := 1) h (by decide) (by omega) hL rfl rfl dL_1312 dL_1313 dL_1314 dL_1315 dL_1316 ?_
  refine l_callM h [.int (xs (i + 1))] (fun hDD => kX12_image _ _ hDD mM (xs (i + 1)) _ e2) okX12_image inX12_image mlL_176 rfl rfl rfl (by decide) (by decide) (Nat.le_of_ble_eq_true rfl) rfl dL_1317 ?_
  refine l_eqT (tgt := 1371) h dL_1320 (by decide) ?_
  exact kk _ _ hR
theorem mlL_177 : Cond.methodLink R_law 177 yX11_back ∈ WT := wt_mem 1318 (by decide +kernel) rfl
theorem mlL_180 : Cond.methodLink R_law 180 yX12_back ∈ WT := wt_mem 2043 (by decide +kernel) rfl
set_option maxHeartbeats 4000000 in
theorem case_back {X : Cx} {Gc Gm : Gt} {b L i : Nat} {xs : Nat → Int32} {Q : State → Prop} {mC mM : Mem} {Rel : Mem → Mem → Prop} (h : OkL X Gc Gm b L xs) (hi : i + 6 ≤ L) (hL : L < 2 ^ 31) (hO : ∃ r mC2 mM2, fX11_back mC (xs (i + 1)) = some (r, mC2) ∧ fX12_back mM (xs (i + 1)) = some (r, mM2) ∧ Rel mC2 mM2) (kk : ∀ mC mM, Rel mC mM → JL X Gc Gm Q mC mM 1371 [some (.ref b), some (.ref (Gc.2.2 0)), some (.ref (Gm.2.2 0)), some (.int (nI i))] []) : JL X Gc Gm Q mC mM 1325 [some (.ref b), some (.ref (Gc.2.2 0)), some (.ref (Gm.2.2 0)), some (.int (nI i))] [] := by
  obtain ⟨r, mC2, mM2, e1, e2, hR⟩ := hO
  refine l_aload h dL_1325 rfl ?_
  refine l_arg (k := 1) h (by decide) (by omega) hL rfl rfl dL_1326 dL_1327 dL_1328 dL_1329 dL_1330 ?_
  refine l_callC h [.int (xs (i + 1))] (fun hDD => kX11_back _ _ hDD mC (xs (i + 1)) _ e1) okX11_back inX11_back mlL_177 rfl rfl rfl (by decide) (by decide) (Nat.le_of_ble_eq_true rfl) rfl dL_1331 ?_
  refine l_aload h dL_1334 rfl ?_
  refine l_arg (k := 1) h (by decide) (by omega) hL rfl rfl dL_1335 dL_1336 dL_1337 dL_1338 dL_1339 ?_
  refine l_callM h [.int (xs (i + 1))] (fun hDD => kX12_back _ _ hDD mM (xs (i + 1)) _ e2) okX12_back inX12_back mlL_180 rfl rfl rfl (by decide) (by decide) (Nat.le_of_ble_eq_true rfl) rfl dL_1340 ?_
  refine l_eqT (tgt := 1371) h dL_1343 (by decide) ?_
  exact kk _ _ hR
theorem mlL_181 : Cond.methodLink R_law 181 yX11_about ∈ WT := wt_mem 1323 (by decide +kernel) rfl
theorem mlL_184 : Cond.methodLink R_law 184 yX12_about ∈ WT := wt_mem 2047 (by decide +kernel) rfl
set_option maxHeartbeats 4000000 in
theorem case_about {X : Cx} {Gc Gm : Gt} {b L i : Nat} {xs : Nat → Int32} {Q : State → Prop} {mC mM : Mem} {Rel : Mem → Mem → Prop} (h : OkL X Gc Gm b L xs) (hi : i + 6 ≤ L) (hL : L < 2 ^ 31) (hO : ∃ r, fX11_about mC (xs (i + 1)) = some r ∧ fX12_about mM (xs (i + 1)) = some r ∧ Rel mC mM) (kk : ∀ mC mM, Rel mC mM → JL X Gc Gm Q mC mM 1371 [some (.ref b), some (.ref (Gc.2.2 0)), some (.ref (Gm.2.2 0)), some (.int (nI i))] []) : JL X Gc Gm Q mC mM 1348 [some (.ref b), some (.ref (Gc.2.2 0)), some (.ref (Gm.2.2 0)), some (.int (nI i))] [] := by
  obtain ⟨r, e1, e2, hR⟩ := hO
  refine l_aload h dL_1348 rfl ?_
  refine l_arg (k := 1) h (by decide) (by omega) hL rfl rfl dL_1349 dL_1350 dL_1351 dL_1352 dL_1353 ?_
  refine l_callC h [.int (xs (i + 1))] (fun hDD => kX11_about _ _ hDD mC (xs (i + 1)) _ e1) okX11_about inX11_about mlL_181 rfl rfl rfl (by decide) (by decide) (Nat.le_of_ble_eq_true rfl) rfl dL_1354 ?_
  refine l_aload h dL_1357 rfl ?_
  refine l_arg (k := 1) h (by decide) (by omega) hL rfl rfl dL_1358 dL_1359 dL_1360 dL_1361 dL_1362 ?_
  refine l_callM h [.int (xs (i + 1))] (fun hDD => kX12_about _ _ hDD mM (xs (i + 1)) _ e2) okX12_about inX12_about mlL_184 rfl rfl rfl (by decide) (by decide) (Nat.le_of_ble_eq_true rfl) rfl dL_1363 ?_
  refine l_eqT (tgt := 1371) h dL_1366 (by decide) ?_
  exact kk _ _ hR
