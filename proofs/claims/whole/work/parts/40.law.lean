/-! the law's loop -/
def inS (i n : Int32) : Bool := decide (0 ≤ i ∧ i < n)
theorem inS_ok {i n : Int32} (h : inS i n = true) : ∀ N : Nat, N ≤ 384 → n = nI N → vp_in i N := by
  intro N hN e
  subst e
  obtain ⟨h0, h1⟩ := of_decide_eq_true h
  obtain ⟨j, hj, rfl⟩ := nI_of (Int32.not_lt.mpr h0)
  exact vp_in_nI ((nI_ltI hj (by omega)).mp h1) (by omega)
theorem aL_law_16 : At cL_law 16 (.iconst 0) 1 17 := ⟨by decide +kernel, rfl⟩
theorem aL_law_17 : At cL_law 17 (.istore_n 3) 1 18 := ⟨by decide +kernel, rfl⟩
theorem aL_law_18 : At cL_law 18 (.iload_n 3) 1 19 := ⟨by decide +kernel, rfl⟩
theorem aL_law_19 : At cL_law 19 (.aload_n 0) 1 20 := ⟨by decide +kernel, rfl⟩
theorem aL_law_20 : At cL_law 20 (.arraylength) 1 21 := ⟨by decide +kernel, rfl⟩
theorem aL_law_21 : At cL_law 21 (.bipush 6) 2 23 := ⟨by decide +kernel, rfl⟩
theorem aL_law_23 : At cL_law 23 (.isub) 1 24 := ⟨by decide +kernel, rfl⟩
theorem aL_law_24 : At cL_law 24 (.if_icmp .gt 1225) 3 27 := ⟨by decide +kernel, rfl⟩
theorem aL_law_27 : At cL_law 27 (.aload_n 0) 1 28 := ⟨by decide +kernel, rfl⟩
theorem aL_law_28 : At cL_law 28 (.iload_n 3) 1 29 := ⟨by decide +kernel, rfl⟩
theorem aL_law_29 : At cL_law 29 (.iaload) 1 30 := ⟨by decide +kernel, rfl⟩
theorem aL_law_30 : At cL_law 30 (.bipush 63) 2 32 := ⟨by decide +kernel, rfl⟩
theorem aL_law_32 : At cL_law 32 (.iand) 1 33 := ⟨by decide +kernel, rfl⟩
theorem aL_law_33 : At cL_law 33 (.tableswitch 1210 0 38 #[171, 184, 227, 270, 293, 316, 329, 342, 365, 388, 401, 434, 467, 500, 533, 556, 579, 602, 615, 638, 651, 684, 717, 750, 813, 866, 889, 912, 935, 958, 981, 1014, 1047, 1080, 1104, 1127, 1150, 1173, 1196]) 171 204 := ⟨by decide +kernel, rfl⟩
theorem aL_law_204 : At cL_law 204 (.aload_n 1) 1 205 := ⟨by decide +kernel, rfl⟩
theorem aL_law_205 : At cL_law 205 (.invokevirtual 13) 3 208 := ⟨by decide +kernel, rfl⟩
theorem aL_law_208 : At cL_law 208 (.aload_n 2) 1 209 := ⟨by decide +kernel, rfl⟩
theorem aL_law_209 : At cL_law 209 (.invokevirtual 17) 3 212 := ⟨by decide +kernel, rfl⟩
theorem aL_law_212 : At cL_law 212 (.if_icmp .eq 1031) 3 215 := ⟨by decide +kernel, rfl⟩
theorem aL_law_215 : At cL_law 215 (.iconst 0) 1 216 := ⟨by decide +kernel, rfl⟩
theorem aL_law_216 : At cL_law 216 (.ireturn) 1 217 := ⟨by decide +kernel, rfl⟩
theorem aL_law_217 : At cL_law 217 (.aload_n 1) 1 218 := ⟨by decide +kernel, rfl⟩
theorem aL_law_218 : At cL_law 218 (.aload_n 0) 1 219 := ⟨by decide +kernel, rfl⟩
theorem aL_law_219 : At cL_law 219 (.iload_n 3) 1 220 := ⟨by decide +kernel, rfl⟩
theorem aL_law_220 : At cL_law 220 (.iconst 1) 1 221 := ⟨by decide +kernel, rfl⟩
theorem aL_law_221 : At cL_law 221 (.iadd) 1 222 := ⟨by decide +kernel, rfl⟩
theorem aL_law_222 : At cL_law 222 (.iaload) 1 223 := ⟨by decide +kernel, rfl⟩
theorem aL_law_223 : At cL_law 223 (.aload_n 0) 1 224 := ⟨by decide +kernel, rfl⟩
theorem aL_law_224 : At cL_law 224 (.iload_n 3) 1 225 := ⟨by decide +kernel, rfl⟩
theorem aL_law_225 : At cL_law 225 (.iconst 2) 1 226 := ⟨by decide +kernel, rfl⟩
theorem aL_law_226 : At cL_law 226 (.iadd) 1 227 := ⟨by decide +kernel, rfl⟩
theorem aL_law_227 : At cL_law 227 (.iaload) 1 228 := ⟨by decide +kernel, rfl⟩
theorem aL_law_228 : At cL_law 228 (.aload_n 0) 1 229 := ⟨by decide +kernel, rfl⟩
theorem aL_law_229 : At cL_law 229 (.iload_n 3) 1 230 := ⟨by decide +kernel, rfl⟩
theorem aL_law_230 : At cL_law 230 (.iconst 3) 1 231 := ⟨by decide +kernel, rfl⟩
theorem aL_law_231 : At cL_law 231 (.iadd) 1 232 := ⟨by decide +kernel, rfl⟩
theorem aL_law_232 : At cL_law 232 (.iaload) 1 233 := ⟨by decide +kernel, rfl⟩
theorem aL_law_233 : At cL_law 233 (.invokevirtual 18) 3 236 := ⟨by decide +kernel, rfl⟩
theorem aL_law_236 : At cL_law 236 (.aload_n 2) 1 237 := ⟨by decide +kernel, rfl⟩
theorem aL_law_237 : At cL_law 237 (.aload_n 0) 1 238 := ⟨by decide +kernel, rfl⟩
theorem aL_law_238 : At cL_law 238 (.iload_n 3) 1 239 := ⟨by decide +kernel, rfl⟩
theorem aL_law_239 : At cL_law 239 (.iconst 1) 1 240 := ⟨by decide +kernel, rfl⟩
theorem aL_law_240 : At cL_law 240 (.iadd) 1 241 := ⟨by decide +kernel, rfl⟩
theorem aL_law_241 : At cL_law 241 (.iaload) 1 242 := ⟨by decide +kernel, rfl⟩
theorem aL_law_242 : At cL_law 242 (.aload_n 0) 1 243 := ⟨by decide +kernel, rfl⟩
theorem aL_law_243 : At cL_law 243 (.iload_n 3) 1 244 := ⟨by decide +kernel, rfl⟩
theorem aL_law_244 : At cL_law 244 (.iconst 2) 1 245 := ⟨by decide +kernel, rfl⟩
theorem aL_law_245 : At cL_law 245 (.iadd) 1 246 := ⟨by decide +kernel, rfl⟩
theorem aL_law_246 : At cL_law 246 (.iaload) 1 247 := ⟨by decide +kernel, rfl⟩
theorem aL_law_247 : At cL_law 247 (.aload_n 0) 1 248 := ⟨by decide +kernel, rfl⟩
theorem aL_law_248 : At cL_law 248 (.iload_n 3) 1 249 := ⟨by decide +kernel, rfl⟩
theorem aL_law_249 : At cL_law 249 (.iconst 3) 1 250 := ⟨by decide +kernel, rfl⟩
theorem aL_law_250 : At cL_law 250 (.iadd) 1 251 := ⟨by decide +kernel, rfl⟩
theorem aL_law_251 : At cL_law 251 (.iaload) 1 252 := ⟨by decide +kernel, rfl⟩
theorem aL_law_252 : At cL_law 252 (.invokevirtual 22) 3 255 := ⟨by decide +kernel, rfl⟩
theorem aL_law_255 : At cL_law 255 (.if_icmp .eq 988) 3 258 := ⟨by decide +kernel, rfl⟩
theorem aL_law_258 : At cL_law 258 (.iconst 0) 1 259 := ⟨by decide +kernel, rfl⟩
theorem aL_law_259 : At cL_law 259 (.ireturn) 1 260 := ⟨by decide +kernel, rfl⟩
theorem aL_law_260 : At cL_law 260 (.aload_n 1) 1 261 := ⟨by decide +kernel, rfl⟩
theorem aL_law_261 : At cL_law 261 (.aload_n 0) 1 262 := ⟨by decide +kernel, rfl⟩
theorem aL_law_262 : At cL_law 262 (.iload_n 3) 1 263 := ⟨by decide +kernel, rfl⟩
theorem aL_law_263 : At cL_law 263 (.iconst 1) 1 264 := ⟨by decide +kernel, rfl⟩
theorem aL_law_264 : At cL_law 264 (.iadd) 1 265 := ⟨by decide +kernel, rfl⟩
theorem aL_law_265 : At cL_law 265 (.iaload) 1 266 := ⟨by decide +kernel, rfl⟩
theorem aL_law_266 : At cL_law 266 (.aload_n 0) 1 267 := ⟨by decide +kernel, rfl⟩
theorem aL_law_267 : At cL_law 267 (.iload_n 3) 1 268 := ⟨by decide +kernel, rfl⟩
theorem aL_law_268 : At cL_law 268 (.iconst 2) 1 269 := ⟨by decide +kernel, rfl⟩
theorem aL_law_269 : At cL_law 269 (.iadd) 1 270 := ⟨by decide +kernel, rfl⟩
theorem aL_law_270 : At cL_law 270 (.iaload) 1 271 := ⟨by decide +kernel, rfl⟩
theorem aL_law_271 : At cL_law 271 (.aload_n 0) 1 272 := ⟨by decide +kernel, rfl⟩
theorem aL_law_272 : At cL_law 272 (.iload_n 3) 1 273 := ⟨by decide +kernel, rfl⟩
theorem aL_law_273 : At cL_law 273 (.iconst 3) 1 274 := ⟨by decide +kernel, rfl⟩
theorem aL_law_274 : At cL_law 274 (.iadd) 1 275 := ⟨by decide +kernel, rfl⟩
theorem aL_law_275 : At cL_law 275 (.iaload) 1 276 := ⟨by decide +kernel, rfl⟩
theorem aL_law_276 : At cL_law 276 (.invokevirtual 23) 3 279 := ⟨by decide +kernel, rfl⟩
theorem aL_law_279 : At cL_law 279 (.aload_n 2) 1 280 := ⟨by decide +kernel, rfl⟩
theorem aL_law_280 : At cL_law 280 (.aload_n 0) 1 281 := ⟨by decide +kernel, rfl⟩
theorem aL_law_281 : At cL_law 281 (.iload_n 3) 1 282 := ⟨by decide +kernel, rfl⟩
theorem aL_law_282 : At cL_law 282 (.iconst 1) 1 283 := ⟨by decide +kernel, rfl⟩
theorem aL_law_283 : At cL_law 283 (.iadd) 1 284 := ⟨by decide +kernel, rfl⟩
theorem aL_law_284 : At cL_law 284 (.iaload) 1 285 := ⟨by decide +kernel, rfl⟩
theorem aL_law_285 : At cL_law 285 (.aload_n 0) 1 286 := ⟨by decide +kernel, rfl⟩
theorem aL_law_286 : At cL_law 286 (.iload_n 3) 1 287 := ⟨by decide +kernel, rfl⟩
theorem aL_law_287 : At cL_law 287 (.iconst 2) 1 288 := ⟨by decide +kernel, rfl⟩
theorem aL_law_288 : At cL_law 288 (.iadd) 1 289 := ⟨by decide +kernel, rfl⟩
theorem aL_law_289 : At cL_law 289 (.iaload) 1 290 := ⟨by decide +kernel, rfl⟩
theorem aL_law_290 : At cL_law 290 (.aload_n 0) 1 291 := ⟨by decide +kernel, rfl⟩
theorem aL_law_291 : At cL_law 291 (.iload_n 3) 1 292 := ⟨by decide +kernel, rfl⟩
theorem aL_law_292 : At cL_law 292 (.iconst 3) 1 293 := ⟨by decide +kernel, rfl⟩
theorem aL_law_293 : At cL_law 293 (.iadd) 1 294 := ⟨by decide +kernel, rfl⟩
theorem aL_law_294 : At cL_law 294 (.iaload) 1 295 := ⟨by decide +kernel, rfl⟩
theorem aL_law_295 : At cL_law 295 (.invokevirtual 26) 3 298 := ⟨by decide +kernel, rfl⟩
theorem aL_law_298 : At cL_law 298 (.if_icmp .eq 945) 3 301 := ⟨by decide +kernel, rfl⟩
theorem aL_law_301 : At cL_law 301 (.iconst 0) 1 302 := ⟨by decide +kernel, rfl⟩
theorem aL_law_302 : At cL_law 302 (.ireturn) 1 303 := ⟨by decide +kernel, rfl⟩
theorem aL_law_303 : At cL_law 303 (.aload_n 1) 1 304 := ⟨by decide +kernel, rfl⟩
theorem aL_law_304 : At cL_law 304 (.aload_n 0) 1 305 := ⟨by decide +kernel, rfl⟩
theorem aL_law_305 : At cL_law 305 (.iload_n 3) 1 306 := ⟨by decide +kernel, rfl⟩
theorem aL_law_306 : At cL_law 306 (.iconst 1) 1 307 := ⟨by decide +kernel, rfl⟩
theorem aL_law_307 : At cL_law 307 (.iadd) 1 308 := ⟨by decide +kernel, rfl⟩
theorem aL_law_308 : At cL_law 308 (.iaload) 1 309 := ⟨by decide +kernel, rfl⟩
theorem aL_law_309 : At cL_law 309 (.invokevirtual 27) 3 312 := ⟨by decide +kernel, rfl⟩
theorem aL_law_312 : At cL_law 312 (.aload_n 2) 1 313 := ⟨by decide +kernel, rfl⟩
theorem aL_law_313 : At cL_law 313 (.aload_n 0) 1 314 := ⟨by decide +kernel, rfl⟩
theorem aL_law_314 : At cL_law 314 (.iload_n 3) 1 315 := ⟨by decide +kernel, rfl⟩
theorem aL_law_315 : At cL_law 315 (.iconst 1) 1 316 := ⟨by decide +kernel, rfl⟩
theorem aL_law_316 : At cL_law 316 (.iadd) 1 317 := ⟨by decide +kernel, rfl⟩
theorem aL_law_317 : At cL_law 317 (.iaload) 1 318 := ⟨by decide +kernel, rfl⟩
theorem aL_law_318 : At cL_law 318 (.invokevirtual 31) 3 321 := ⟨by decide +kernel, rfl⟩
theorem aL_law_321 : At cL_law 321 (.if_icmp .eq 922) 3 324 := ⟨by decide +kernel, rfl⟩
theorem aL_law_324 : At cL_law 324 (.iconst 0) 1 325 := ⟨by decide +kernel, rfl⟩
theorem aL_law_325 : At cL_law 325 (.ireturn) 1 326 := ⟨by decide +kernel, rfl⟩
theorem aL_law_326 : At cL_law 326 (.aload_n 1) 1 327 := ⟨by decide +kernel, rfl⟩
theorem aL_law_327 : At cL_law 327 (.aload_n 0) 1 328 := ⟨by decide +kernel, rfl⟩
theorem aL_law_328 : At cL_law 328 (.iload_n 3) 1 329 := ⟨by decide +kernel, rfl⟩
theorem aL_law_329 : At cL_law 329 (.iconst 1) 1 330 := ⟨by decide +kernel, rfl⟩
theorem aL_law_330 : At cL_law 330 (.iadd) 1 331 := ⟨by decide +kernel, rfl⟩
theorem aL_law_331 : At cL_law 331 (.iaload) 1 332 := ⟨by decide +kernel, rfl⟩
theorem aL_law_332 : At cL_law 332 (.invokevirtual 32) 3 335 := ⟨by decide +kernel, rfl⟩
theorem aL_law_335 : At cL_law 335 (.aload_n 2) 1 336 := ⟨by decide +kernel, rfl⟩
theorem aL_law_336 : At cL_law 336 (.aload_n 0) 1 337 := ⟨by decide +kernel, rfl⟩
theorem aL_law_337 : At cL_law 337 (.iload_n 3) 1 338 := ⟨by decide +kernel, rfl⟩
theorem aL_law_338 : At cL_law 338 (.iconst 1) 1 339 := ⟨by decide +kernel, rfl⟩
theorem aL_law_339 : At cL_law 339 (.iadd) 1 340 := ⟨by decide +kernel, rfl⟩
theorem aL_law_340 : At cL_law 340 (.iaload) 1 341 := ⟨by decide +kernel, rfl⟩
theorem aL_law_341 : At cL_law 341 (.invokevirtual 35) 3 344 := ⟨by decide +kernel, rfl⟩
theorem aL_law_344 : At cL_law 344 (.if_icmp .eq 899) 3 347 := ⟨by decide +kernel, rfl⟩
theorem aL_law_347 : At cL_law 347 (.iconst 0) 1 348 := ⟨by decide +kernel, rfl⟩
theorem aL_law_348 : At cL_law 348 (.ireturn) 1 349 := ⟨by decide +kernel, rfl⟩
theorem aL_law_349 : At cL_law 349 (.aload_n 1) 1 350 := ⟨by decide +kernel, rfl⟩
theorem aL_law_350 : At cL_law 350 (.invokevirtual 36) 3 353 := ⟨by decide +kernel, rfl⟩
theorem aL_law_353 : At cL_law 353 (.aload_n 2) 1 354 := ⟨by decide +kernel, rfl⟩
theorem aL_law_354 : At cL_law 354 (.invokevirtual 39) 3 357 := ⟨by decide +kernel, rfl⟩
theorem aL_law_357 : At cL_law 357 (.if_icmp .eq 886) 3 360 := ⟨by decide +kernel, rfl⟩
theorem aL_law_360 : At cL_law 360 (.iconst 0) 1 361 := ⟨by decide +kernel, rfl⟩
theorem aL_law_361 : At cL_law 361 (.ireturn) 1 362 := ⟨by decide +kernel, rfl⟩
theorem aL_law_362 : At cL_law 362 (.aload_n 1) 1 363 := ⟨by decide +kernel, rfl⟩
theorem aL_law_363 : At cL_law 363 (.invokevirtual 40) 3 366 := ⟨by decide +kernel, rfl⟩
theorem aL_law_366 : At cL_law 366 (.aload_n 2) 1 367 := ⟨by decide +kernel, rfl⟩
theorem aL_law_367 : At cL_law 367 (.invokevirtual 43) 3 370 := ⟨by decide +kernel, rfl⟩
theorem aL_law_370 : At cL_law 370 (.if_icmp .eq 873) 3 373 := ⟨by decide +kernel, rfl⟩
theorem aL_law_373 : At cL_law 373 (.iconst 0) 1 374 := ⟨by decide +kernel, rfl⟩
theorem aL_law_374 : At cL_law 374 (.ireturn) 1 375 := ⟨by decide +kernel, rfl⟩
theorem aL_law_375 : At cL_law 375 (.aload_n 1) 1 376 := ⟨by decide +kernel, rfl⟩
theorem aL_law_376 : At cL_law 376 (.aload_n 0) 1 377 := ⟨by decide +kernel, rfl⟩
theorem aL_law_377 : At cL_law 377 (.iload_n 3) 1 378 := ⟨by decide +kernel, rfl⟩
theorem aL_law_378 : At cL_law 378 (.iconst 1) 1 379 := ⟨by decide +kernel, rfl⟩
theorem aL_law_379 : At cL_law 379 (.iadd) 1 380 := ⟨by decide +kernel, rfl⟩
theorem aL_law_380 : At cL_law 380 (.iaload) 1 381 := ⟨by decide +kernel, rfl⟩
theorem aL_law_381 : At cL_law 381 (.invokevirtual 44) 3 384 := ⟨by decide +kernel, rfl⟩
theorem aL_law_384 : At cL_law 384 (.aload_n 2) 1 385 := ⟨by decide +kernel, rfl⟩
theorem aL_law_385 : At cL_law 385 (.aload_n 0) 1 386 := ⟨by decide +kernel, rfl⟩
theorem aL_law_386 : At cL_law 386 (.iload_n 3) 1 387 := ⟨by decide +kernel, rfl⟩
theorem aL_law_387 : At cL_law 387 (.iconst 1) 1 388 := ⟨by decide +kernel, rfl⟩
theorem aL_law_388 : At cL_law 388 (.iadd) 1 389 := ⟨by decide +kernel, rfl⟩
theorem aL_law_389 : At cL_law 389 (.iaload) 1 390 := ⟨by decide +kernel, rfl⟩
theorem aL_law_390 : At cL_law 390 (.invokevirtual 47) 3 393 := ⟨by decide +kernel, rfl⟩
theorem aL_law_393 : At cL_law 393 (.if_icmp .eq 850) 3 396 := ⟨by decide +kernel, rfl⟩
theorem aL_law_396 : At cL_law 396 (.iconst 0) 1 397 := ⟨by decide +kernel, rfl⟩
theorem aL_law_397 : At cL_law 397 (.ireturn) 1 398 := ⟨by decide +kernel, rfl⟩
theorem aL_law_398 : At cL_law 398 (.aload_n 1) 1 399 := ⟨by decide +kernel, rfl⟩
theorem aL_law_399 : At cL_law 399 (.aload_n 0) 1 400 := ⟨by decide +kernel, rfl⟩
theorem aL_law_400 : At cL_law 400 (.iload_n 3) 1 401 := ⟨by decide +kernel, rfl⟩
theorem aL_law_401 : At cL_law 401 (.iconst 1) 1 402 := ⟨by decide +kernel, rfl⟩
theorem aL_law_402 : At cL_law 402 (.iadd) 1 403 := ⟨by decide +kernel, rfl⟩
theorem aL_law_403 : At cL_law 403 (.iaload) 1 404 := ⟨by decide +kernel, rfl⟩
theorem aL_law_404 : At cL_law 404 (.invokevirtual 48) 3 407 := ⟨by decide +kernel, rfl⟩
theorem aL_law_407 : At cL_law 407 (.aload_n 2) 1 408 := ⟨by decide +kernel, rfl⟩
theorem aL_law_408 : At cL_law 408 (.aload_n 0) 1 409 := ⟨by decide +kernel, rfl⟩
theorem aL_law_409 : At cL_law 409 (.iload_n 3) 1 410 := ⟨by decide +kernel, rfl⟩
theorem aL_law_410 : At cL_law 410 (.iconst 1) 1 411 := ⟨by decide +kernel, rfl⟩
theorem aL_law_411 : At cL_law 411 (.iadd) 1 412 := ⟨by decide +kernel, rfl⟩
theorem aL_law_412 : At cL_law 412 (.iaload) 1 413 := ⟨by decide +kernel, rfl⟩
theorem aL_law_413 : At cL_law 413 (.invokevirtual 51) 3 416 := ⟨by decide +kernel, rfl⟩
theorem aL_law_416 : At cL_law 416 (.if_icmp .eq 827) 3 419 := ⟨by decide +kernel, rfl⟩
theorem aL_law_419 : At cL_law 419 (.iconst 0) 1 420 := ⟨by decide +kernel, rfl⟩
theorem aL_law_420 : At cL_law 420 (.ireturn) 1 421 := ⟨by decide +kernel, rfl⟩
theorem aL_law_421 : At cL_law 421 (.aload_n 1) 1 422 := ⟨by decide +kernel, rfl⟩
theorem aL_law_422 : At cL_law 422 (.invokevirtual 52) 3 425 := ⟨by decide +kernel, rfl⟩
theorem aL_law_425 : At cL_law 425 (.aload_n 2) 1 426 := ⟨by decide +kernel, rfl⟩
theorem aL_law_426 : At cL_law 426 (.invokevirtual 55) 3 429 := ⟨by decide +kernel, rfl⟩
theorem aL_law_429 : At cL_law 429 (.if_icmp .eq 814) 3 432 := ⟨by decide +kernel, rfl⟩
theorem aL_law_432 : At cL_law 432 (.iconst 0) 1 433 := ⟨by decide +kernel, rfl⟩
theorem aL_law_433 : At cL_law 433 (.ireturn) 1 434 := ⟨by decide +kernel, rfl⟩
theorem aL_law_434 : At cL_law 434 (.aload_n 1) 1 435 := ⟨by decide +kernel, rfl⟩
theorem aL_law_435 : At cL_law 435 (.aload_n 0) 1 436 := ⟨by decide +kernel, rfl⟩
theorem aL_law_436 : At cL_law 436 (.iload_n 3) 1 437 := ⟨by decide +kernel, rfl⟩
theorem aL_law_437 : At cL_law 437 (.iconst 1) 1 438 := ⟨by decide +kernel, rfl⟩
theorem aL_law_438 : At cL_law 438 (.iadd) 1 439 := ⟨by decide +kernel, rfl⟩
theorem aL_law_439 : At cL_law 439 (.iaload) 1 440 := ⟨by decide +kernel, rfl⟩
theorem aL_law_440 : At cL_law 440 (.aload_n 0) 1 441 := ⟨by decide +kernel, rfl⟩
theorem aL_law_441 : At cL_law 441 (.iload_n 3) 1 442 := ⟨by decide +kernel, rfl⟩
theorem aL_law_442 : At cL_law 442 (.iconst 2) 1 443 := ⟨by decide +kernel, rfl⟩
theorem aL_law_443 : At cL_law 443 (.iadd) 1 444 := ⟨by decide +kernel, rfl⟩
theorem aL_law_444 : At cL_law 444 (.iaload) 1 445 := ⟨by decide +kernel, rfl⟩
theorem aL_law_445 : At cL_law 445 (.invokevirtual 56) 3 448 := ⟨by decide +kernel, rfl⟩
theorem aL_law_448 : At cL_law 448 (.aload_n 2) 1 449 := ⟨by decide +kernel, rfl⟩
theorem aL_law_449 : At cL_law 449 (.aload_n 0) 1 450 := ⟨by decide +kernel, rfl⟩
theorem aL_law_450 : At cL_law 450 (.iload_n 3) 1 451 := ⟨by decide +kernel, rfl⟩
theorem aL_law_451 : At cL_law 451 (.iconst 1) 1 452 := ⟨by decide +kernel, rfl⟩
theorem aL_law_452 : At cL_law 452 (.iadd) 1 453 := ⟨by decide +kernel, rfl⟩
theorem aL_law_453 : At cL_law 453 (.iaload) 1 454 := ⟨by decide +kernel, rfl⟩
theorem aL_law_454 : At cL_law 454 (.aload_n 0) 1 455 := ⟨by decide +kernel, rfl⟩
theorem aL_law_455 : At cL_law 455 (.iload_n 3) 1 456 := ⟨by decide +kernel, rfl⟩
theorem aL_law_456 : At cL_law 456 (.iconst 2) 1 457 := ⟨by decide +kernel, rfl⟩
theorem aL_law_457 : At cL_law 457 (.iadd) 1 458 := ⟨by decide +kernel, rfl⟩
theorem aL_law_458 : At cL_law 458 (.iaload) 1 459 := ⟨by decide +kernel, rfl⟩
theorem aL_law_459 : At cL_law 459 (.invokevirtual 60) 3 462 := ⟨by decide +kernel, rfl⟩
theorem aL_law_462 : At cL_law 462 (.if_icmp .eq 781) 3 465 := ⟨by decide +kernel, rfl⟩
theorem aL_law_465 : At cL_law 465 (.iconst 0) 1 466 := ⟨by decide +kernel, rfl⟩
theorem aL_law_466 : At cL_law 466 (.ireturn) 1 467 := ⟨by decide +kernel, rfl⟩
theorem aL_law_467 : At cL_law 467 (.aload_n 1) 1 468 := ⟨by decide +kernel, rfl⟩
theorem aL_law_468 : At cL_law 468 (.aload_n 0) 1 469 := ⟨by decide +kernel, rfl⟩
theorem aL_law_469 : At cL_law 469 (.iload_n 3) 1 470 := ⟨by decide +kernel, rfl⟩
theorem aL_law_470 : At cL_law 470 (.iconst 1) 1 471 := ⟨by decide +kernel, rfl⟩
theorem aL_law_471 : At cL_law 471 (.iadd) 1 472 := ⟨by decide +kernel, rfl⟩
theorem aL_law_472 : At cL_law 472 (.iaload) 1 473 := ⟨by decide +kernel, rfl⟩
theorem aL_law_473 : At cL_law 473 (.aload_n 0) 1 474 := ⟨by decide +kernel, rfl⟩
theorem aL_law_474 : At cL_law 474 (.iload_n 3) 1 475 := ⟨by decide +kernel, rfl⟩
theorem aL_law_475 : At cL_law 475 (.iconst 2) 1 476 := ⟨by decide +kernel, rfl⟩
theorem aL_law_476 : At cL_law 476 (.iadd) 1 477 := ⟨by decide +kernel, rfl⟩
theorem aL_law_477 : At cL_law 477 (.iaload) 1 478 := ⟨by decide +kernel, rfl⟩
theorem aL_law_478 : At cL_law 478 (.invokevirtual 61) 3 481 := ⟨by decide +kernel, rfl⟩
theorem aL_law_481 : At cL_law 481 (.aload_n 2) 1 482 := ⟨by decide +kernel, rfl⟩
theorem aL_law_482 : At cL_law 482 (.aload_n 0) 1 483 := ⟨by decide +kernel, rfl⟩
theorem aL_law_483 : At cL_law 483 (.iload_n 3) 1 484 := ⟨by decide +kernel, rfl⟩
theorem aL_law_484 : At cL_law 484 (.iconst 1) 1 485 := ⟨by decide +kernel, rfl⟩
theorem aL_law_485 : At cL_law 485 (.iadd) 1 486 := ⟨by decide +kernel, rfl⟩
theorem aL_law_486 : At cL_law 486 (.iaload) 1 487 := ⟨by decide +kernel, rfl⟩
theorem aL_law_487 : At cL_law 487 (.aload_n 0) 1 488 := ⟨by decide +kernel, rfl⟩
theorem aL_law_488 : At cL_law 488 (.iload_n 3) 1 489 := ⟨by decide +kernel, rfl⟩
theorem aL_law_489 : At cL_law 489 (.iconst 2) 1 490 := ⟨by decide +kernel, rfl⟩
theorem aL_law_490 : At cL_law 490 (.iadd) 1 491 := ⟨by decide +kernel, rfl⟩
theorem aL_law_491 : At cL_law 491 (.iaload) 1 492 := ⟨by decide +kernel, rfl⟩
theorem aL_law_492 : At cL_law 492 (.invokevirtual 64) 3 495 := ⟨by decide +kernel, rfl⟩
theorem aL_law_495 : At cL_law 495 (.if_icmp .eq 748) 3 498 := ⟨by decide +kernel, rfl⟩
theorem aL_law_498 : At cL_law 498 (.iconst 0) 1 499 := ⟨by decide +kernel, rfl⟩
theorem aL_law_499 : At cL_law 499 (.ireturn) 1 500 := ⟨by decide +kernel, rfl⟩
theorem aL_law_500 : At cL_law 500 (.aload_n 1) 1 501 := ⟨by decide +kernel, rfl⟩
theorem aL_law_501 : At cL_law 501 (.aload_n 0) 1 502 := ⟨by decide +kernel, rfl⟩
theorem aL_law_502 : At cL_law 502 (.iload_n 3) 1 503 := ⟨by decide +kernel, rfl⟩
theorem aL_law_503 : At cL_law 503 (.iconst 1) 1 504 := ⟨by decide +kernel, rfl⟩
theorem aL_law_504 : At cL_law 504 (.iadd) 1 505 := ⟨by decide +kernel, rfl⟩
theorem aL_law_505 : At cL_law 505 (.iaload) 1 506 := ⟨by decide +kernel, rfl⟩
theorem aL_law_506 : At cL_law 506 (.aload_n 0) 1 507 := ⟨by decide +kernel, rfl⟩
theorem aL_law_507 : At cL_law 507 (.iload_n 3) 1 508 := ⟨by decide +kernel, rfl⟩
theorem aL_law_508 : At cL_law 508 (.iconst 2) 1 509 := ⟨by decide +kernel, rfl⟩
theorem aL_law_509 : At cL_law 509 (.iadd) 1 510 := ⟨by decide +kernel, rfl⟩
theorem aL_law_510 : At cL_law 510 (.iaload) 1 511 := ⟨by decide +kernel, rfl⟩
theorem aL_law_511 : At cL_law 511 (.invokevirtual 65) 3 514 := ⟨by decide +kernel, rfl⟩
theorem aL_law_514 : At cL_law 514 (.aload_n 2) 1 515 := ⟨by decide +kernel, rfl⟩
theorem aL_law_515 : At cL_law 515 (.aload_n 0) 1 516 := ⟨by decide +kernel, rfl⟩
theorem aL_law_516 : At cL_law 516 (.iload_n 3) 1 517 := ⟨by decide +kernel, rfl⟩
theorem aL_law_517 : At cL_law 517 (.iconst 1) 1 518 := ⟨by decide +kernel, rfl⟩
theorem aL_law_518 : At cL_law 518 (.iadd) 1 519 := ⟨by decide +kernel, rfl⟩
theorem aL_law_519 : At cL_law 519 (.iaload) 1 520 := ⟨by decide +kernel, rfl⟩
theorem aL_law_520 : At cL_law 520 (.aload_n 0) 1 521 := ⟨by decide +kernel, rfl⟩
theorem aL_law_521 : At cL_law 521 (.iload_n 3) 1 522 := ⟨by decide +kernel, rfl⟩
theorem aL_law_522 : At cL_law 522 (.iconst 2) 1 523 := ⟨by decide +kernel, rfl⟩
theorem aL_law_523 : At cL_law 523 (.iadd) 1 524 := ⟨by decide +kernel, rfl⟩
theorem aL_law_524 : At cL_law 524 (.iaload) 1 525 := ⟨by decide +kernel, rfl⟩
theorem aL_law_525 : At cL_law 525 (.invokevirtual 68) 3 528 := ⟨by decide +kernel, rfl⟩
theorem aL_law_528 : At cL_law 528 (.if_icmp .eq 715) 3 531 := ⟨by decide +kernel, rfl⟩
theorem aL_law_531 : At cL_law 531 (.iconst 0) 1 532 := ⟨by decide +kernel, rfl⟩
theorem aL_law_532 : At cL_law 532 (.ireturn) 1 533 := ⟨by decide +kernel, rfl⟩
theorem aL_law_533 : At cL_law 533 (.aload_n 1) 1 534 := ⟨by decide +kernel, rfl⟩
theorem aL_law_534 : At cL_law 534 (.aload_n 0) 1 535 := ⟨by decide +kernel, rfl⟩
theorem aL_law_535 : At cL_law 535 (.iload_n 3) 1 536 := ⟨by decide +kernel, rfl⟩
theorem aL_law_536 : At cL_law 536 (.iconst 1) 1 537 := ⟨by decide +kernel, rfl⟩
theorem aL_law_537 : At cL_law 537 (.iadd) 1 538 := ⟨by decide +kernel, rfl⟩
theorem aL_law_538 : At cL_law 538 (.iaload) 1 539 := ⟨by decide +kernel, rfl⟩
theorem aL_law_539 : At cL_law 539 (.aload_n 0) 1 540 := ⟨by decide +kernel, rfl⟩
theorem aL_law_540 : At cL_law 540 (.iload_n 3) 1 541 := ⟨by decide +kernel, rfl⟩
theorem aL_law_541 : At cL_law 541 (.iconst 2) 1 542 := ⟨by decide +kernel, rfl⟩
theorem aL_law_542 : At cL_law 542 (.iadd) 1 543 := ⟨by decide +kernel, rfl⟩
theorem aL_law_543 : At cL_law 543 (.iaload) 1 544 := ⟨by decide +kernel, rfl⟩
theorem aL_law_544 : At cL_law 544 (.invokevirtual 69) 3 547 := ⟨by decide +kernel, rfl⟩
theorem aL_law_547 : At cL_law 547 (.aload_n 2) 1 548 := ⟨by decide +kernel, rfl⟩
theorem aL_law_548 : At cL_law 548 (.aload_n 0) 1 549 := ⟨by decide +kernel, rfl⟩
theorem aL_law_549 : At cL_law 549 (.iload_n 3) 1 550 := ⟨by decide +kernel, rfl⟩
theorem aL_law_550 : At cL_law 550 (.iconst 1) 1 551 := ⟨by decide +kernel, rfl⟩
theorem aL_law_551 : At cL_law 551 (.iadd) 1 552 := ⟨by decide +kernel, rfl⟩
theorem aL_law_552 : At cL_law 552 (.iaload) 1 553 := ⟨by decide +kernel, rfl⟩
theorem aL_law_553 : At cL_law 553 (.aload_n 0) 1 554 := ⟨by decide +kernel, rfl⟩
theorem aL_law_554 : At cL_law 554 (.iload_n 3) 1 555 := ⟨by decide +kernel, rfl⟩
theorem aL_law_555 : At cL_law 555 (.iconst 2) 1 556 := ⟨by decide +kernel, rfl⟩
theorem aL_law_556 : At cL_law 556 (.iadd) 1 557 := ⟨by decide +kernel, rfl⟩
theorem aL_law_557 : At cL_law 557 (.iaload) 1 558 := ⟨by decide +kernel, rfl⟩
theorem aL_law_558 : At cL_law 558 (.invokevirtual 72) 3 561 := ⟨by decide +kernel, rfl⟩
theorem aL_law_561 : At cL_law 561 (.if_icmp .eq 682) 3 564 := ⟨by decide +kernel, rfl⟩
theorem aL_law_564 : At cL_law 564 (.iconst 0) 1 565 := ⟨by decide +kernel, rfl⟩
theorem aL_law_565 : At cL_law 565 (.ireturn) 1 566 := ⟨by decide +kernel, rfl⟩
theorem aL_law_566 : At cL_law 566 (.aload_n 1) 1 567 := ⟨by decide +kernel, rfl⟩
theorem aL_law_567 : At cL_law 567 (.aload_n 0) 1 568 := ⟨by decide +kernel, rfl⟩
theorem aL_law_568 : At cL_law 568 (.iload_n 3) 1 569 := ⟨by decide +kernel, rfl⟩
theorem aL_law_569 : At cL_law 569 (.iconst 1) 1 570 := ⟨by decide +kernel, rfl⟩
theorem aL_law_570 : At cL_law 570 (.iadd) 1 571 := ⟨by decide +kernel, rfl⟩
theorem aL_law_571 : At cL_law 571 (.iaload) 1 572 := ⟨by decide +kernel, rfl⟩
theorem aL_law_572 : At cL_law 572 (.invokevirtual 73) 3 575 := ⟨by decide +kernel, rfl⟩
theorem aL_law_575 : At cL_law 575 (.aload_n 2) 1 576 := ⟨by decide +kernel, rfl⟩
theorem aL_law_576 : At cL_law 576 (.aload_n 0) 1 577 := ⟨by decide +kernel, rfl⟩
theorem aL_law_577 : At cL_law 577 (.iload_n 3) 1 578 := ⟨by decide +kernel, rfl⟩
theorem aL_law_578 : At cL_law 578 (.iconst 1) 1 579 := ⟨by decide +kernel, rfl⟩
theorem aL_law_579 : At cL_law 579 (.iadd) 1 580 := ⟨by decide +kernel, rfl⟩
theorem aL_law_580 : At cL_law 580 (.iaload) 1 581 := ⟨by decide +kernel, rfl⟩
theorem aL_law_581 : At cL_law 581 (.invokevirtual 76) 3 584 := ⟨by decide +kernel, rfl⟩
theorem aL_law_584 : At cL_law 584 (.if_icmp .eq 659) 3 587 := ⟨by decide +kernel, rfl⟩
theorem aL_law_587 : At cL_law 587 (.iconst 0) 1 588 := ⟨by decide +kernel, rfl⟩
theorem aL_law_588 : At cL_law 588 (.ireturn) 1 589 := ⟨by decide +kernel, rfl⟩
theorem aL_law_589 : At cL_law 589 (.aload_n 1) 1 590 := ⟨by decide +kernel, rfl⟩
theorem aL_law_590 : At cL_law 590 (.aload_n 0) 1 591 := ⟨by decide +kernel, rfl⟩
theorem aL_law_591 : At cL_law 591 (.iload_n 3) 1 592 := ⟨by decide +kernel, rfl⟩
theorem aL_law_592 : At cL_law 592 (.iconst 1) 1 593 := ⟨by decide +kernel, rfl⟩
theorem aL_law_593 : At cL_law 593 (.iadd) 1 594 := ⟨by decide +kernel, rfl⟩
theorem aL_law_594 : At cL_law 594 (.iaload) 1 595 := ⟨by decide +kernel, rfl⟩
theorem aL_law_595 : At cL_law 595 (.invokevirtual 77) 3 598 := ⟨by decide +kernel, rfl⟩
theorem aL_law_598 : At cL_law 598 (.aload_n 2) 1 599 := ⟨by decide +kernel, rfl⟩
theorem aL_law_599 : At cL_law 599 (.aload_n 0) 1 600 := ⟨by decide +kernel, rfl⟩
theorem aL_law_600 : At cL_law 600 (.iload_n 3) 1 601 := ⟨by decide +kernel, rfl⟩
theorem aL_law_601 : At cL_law 601 (.iconst 1) 1 602 := ⟨by decide +kernel, rfl⟩
theorem aL_law_602 : At cL_law 602 (.iadd) 1 603 := ⟨by decide +kernel, rfl⟩
theorem aL_law_603 : At cL_law 603 (.iaload) 1 604 := ⟨by decide +kernel, rfl⟩
theorem aL_law_604 : At cL_law 604 (.invokevirtual 80) 3 607 := ⟨by decide +kernel, rfl⟩
theorem aL_law_607 : At cL_law 607 (.if_icmp .eq 636) 3 610 := ⟨by decide +kernel, rfl⟩
theorem aL_law_610 : At cL_law 610 (.iconst 0) 1 611 := ⟨by decide +kernel, rfl⟩
theorem aL_law_611 : At cL_law 611 (.ireturn) 1 612 := ⟨by decide +kernel, rfl⟩
theorem aL_law_612 : At cL_law 612 (.aload_n 1) 1 613 := ⟨by decide +kernel, rfl⟩
theorem aL_law_613 : At cL_law 613 (.aload_n 0) 1 614 := ⟨by decide +kernel, rfl⟩
theorem aL_law_614 : At cL_law 614 (.iload_n 3) 1 615 := ⟨by decide +kernel, rfl⟩
theorem aL_law_615 : At cL_law 615 (.iconst 1) 1 616 := ⟨by decide +kernel, rfl⟩
theorem aL_law_616 : At cL_law 616 (.iadd) 1 617 := ⟨by decide +kernel, rfl⟩
theorem aL_law_617 : At cL_law 617 (.iaload) 1 618 := ⟨by decide +kernel, rfl⟩
theorem aL_law_618 : At cL_law 618 (.invokevirtual 81) 3 621 := ⟨by decide +kernel, rfl⟩
theorem aL_law_621 : At cL_law 621 (.aload_n 2) 1 622 := ⟨by decide +kernel, rfl⟩
theorem aL_law_622 : At cL_law 622 (.aload_n 0) 1 623 := ⟨by decide +kernel, rfl⟩
theorem aL_law_623 : At cL_law 623 (.iload_n 3) 1 624 := ⟨by decide +kernel, rfl⟩
theorem aL_law_624 : At cL_law 624 (.iconst 1) 1 625 := ⟨by decide +kernel, rfl⟩
theorem aL_law_625 : At cL_law 625 (.iadd) 1 626 := ⟨by decide +kernel, rfl⟩
theorem aL_law_626 : At cL_law 626 (.iaload) 1 627 := ⟨by decide +kernel, rfl⟩
theorem aL_law_627 : At cL_law 627 (.invokevirtual 84) 3 630 := ⟨by decide +kernel, rfl⟩
theorem aL_law_630 : At cL_law 630 (.if_icmp .eq 613) 3 633 := ⟨by decide +kernel, rfl⟩
theorem aL_law_633 : At cL_law 633 (.iconst 0) 1 634 := ⟨by decide +kernel, rfl⟩
theorem aL_law_634 : At cL_law 634 (.ireturn) 1 635 := ⟨by decide +kernel, rfl⟩
theorem aL_law_635 : At cL_law 635 (.aload_n 1) 1 636 := ⟨by decide +kernel, rfl⟩
theorem aL_law_636 : At cL_law 636 (.invokevirtual 85) 3 639 := ⟨by decide +kernel, rfl⟩
theorem aL_law_639 : At cL_law 639 (.aload_n 2) 1 640 := ⟨by decide +kernel, rfl⟩
theorem aL_law_640 : At cL_law 640 (.invokevirtual 88) 3 643 := ⟨by decide +kernel, rfl⟩
theorem aL_law_643 : At cL_law 643 (.if_icmp .eq 600) 3 646 := ⟨by decide +kernel, rfl⟩
theorem aL_law_646 : At cL_law 646 (.iconst 0) 1 647 := ⟨by decide +kernel, rfl⟩
theorem aL_law_647 : At cL_law 647 (.ireturn) 1 648 := ⟨by decide +kernel, rfl⟩
theorem aL_law_648 : At cL_law 648 (.aload_n 1) 1 649 := ⟨by decide +kernel, rfl⟩
theorem aL_law_649 : At cL_law 649 (.aload_n 0) 1 650 := ⟨by decide +kernel, rfl⟩
theorem aL_law_650 : At cL_law 650 (.iload_n 3) 1 651 := ⟨by decide +kernel, rfl⟩
theorem aL_law_651 : At cL_law 651 (.iconst 1) 1 652 := ⟨by decide +kernel, rfl⟩
theorem aL_law_652 : At cL_law 652 (.iadd) 1 653 := ⟨by decide +kernel, rfl⟩
theorem aL_law_653 : At cL_law 653 (.iaload) 1 654 := ⟨by decide +kernel, rfl⟩
theorem aL_law_654 : At cL_law 654 (.invokevirtual 89) 3 657 := ⟨by decide +kernel, rfl⟩
theorem aL_law_657 : At cL_law 657 (.aload_n 2) 1 658 := ⟨by decide +kernel, rfl⟩
theorem aL_law_658 : At cL_law 658 (.aload_n 0) 1 659 := ⟨by decide +kernel, rfl⟩
theorem aL_law_659 : At cL_law 659 (.iload_n 3) 1 660 := ⟨by decide +kernel, rfl⟩
theorem aL_law_660 : At cL_law 660 (.iconst 1) 1 661 := ⟨by decide +kernel, rfl⟩
theorem aL_law_661 : At cL_law 661 (.iadd) 1 662 := ⟨by decide +kernel, rfl⟩
theorem aL_law_662 : At cL_law 662 (.iaload) 1 663 := ⟨by decide +kernel, rfl⟩
theorem aL_law_663 : At cL_law 663 (.invokevirtual 92) 3 666 := ⟨by decide +kernel, rfl⟩
theorem aL_law_666 : At cL_law 666 (.if_icmp .eq 577) 3 669 := ⟨by decide +kernel, rfl⟩
theorem aL_law_669 : At cL_law 669 (.iconst 0) 1 670 := ⟨by decide +kernel, rfl⟩
theorem aL_law_670 : At cL_law 670 (.ireturn) 1 671 := ⟨by decide +kernel, rfl⟩
theorem aL_law_671 : At cL_law 671 (.aload_n 1) 1 672 := ⟨by decide +kernel, rfl⟩
theorem aL_law_672 : At cL_law 672 (.invokevirtual 93) 3 675 := ⟨by decide +kernel, rfl⟩
theorem aL_law_675 : At cL_law 675 (.aload_n 2) 1 676 := ⟨by decide +kernel, rfl⟩
theorem aL_law_676 : At cL_law 676 (.invokevirtual 96) 3 679 := ⟨by decide +kernel, rfl⟩
theorem aL_law_679 : At cL_law 679 (.if_icmp .eq 564) 3 682 := ⟨by decide +kernel, rfl⟩
theorem aL_law_682 : At cL_law 682 (.iconst 0) 1 683 := ⟨by decide +kernel, rfl⟩
theorem aL_law_683 : At cL_law 683 (.ireturn) 1 684 := ⟨by decide +kernel, rfl⟩
theorem aL_law_684 : At cL_law 684 (.aload_n 1) 1 685 := ⟨by decide +kernel, rfl⟩
theorem aL_law_685 : At cL_law 685 (.aload_n 0) 1 686 := ⟨by decide +kernel, rfl⟩
theorem aL_law_686 : At cL_law 686 (.iload_n 3) 1 687 := ⟨by decide +kernel, rfl⟩
theorem aL_law_687 : At cL_law 687 (.iconst 1) 1 688 := ⟨by decide +kernel, rfl⟩
theorem aL_law_688 : At cL_law 688 (.iadd) 1 689 := ⟨by decide +kernel, rfl⟩
theorem aL_law_689 : At cL_law 689 (.iaload) 1 690 := ⟨by decide +kernel, rfl⟩
theorem aL_law_690 : At cL_law 690 (.aload_n 0) 1 691 := ⟨by decide +kernel, rfl⟩
theorem aL_law_691 : At cL_law 691 (.iload_n 3) 1 692 := ⟨by decide +kernel, rfl⟩
theorem aL_law_692 : At cL_law 692 (.iconst 2) 1 693 := ⟨by decide +kernel, rfl⟩
theorem aL_law_693 : At cL_law 693 (.iadd) 1 694 := ⟨by decide +kernel, rfl⟩
theorem aL_law_694 : At cL_law 694 (.iaload) 1 695 := ⟨by decide +kernel, rfl⟩
theorem aL_law_695 : At cL_law 695 (.invokevirtual 97) 3 698 := ⟨by decide +kernel, rfl⟩
theorem aL_law_698 : At cL_law 698 (.aload_n 2) 1 699 := ⟨by decide +kernel, rfl⟩
theorem aL_law_699 : At cL_law 699 (.aload_n 0) 1 700 := ⟨by decide +kernel, rfl⟩
theorem aL_law_700 : At cL_law 700 (.iload_n 3) 1 701 := ⟨by decide +kernel, rfl⟩
theorem aL_law_701 : At cL_law 701 (.iconst 1) 1 702 := ⟨by decide +kernel, rfl⟩
theorem aL_law_702 : At cL_law 702 (.iadd) 1 703 := ⟨by decide +kernel, rfl⟩
theorem aL_law_703 : At cL_law 703 (.iaload) 1 704 := ⟨by decide +kernel, rfl⟩
theorem aL_law_704 : At cL_law 704 (.aload_n 0) 1 705 := ⟨by decide +kernel, rfl⟩
theorem aL_law_705 : At cL_law 705 (.iload_n 3) 1 706 := ⟨by decide +kernel, rfl⟩
theorem aL_law_706 : At cL_law 706 (.iconst 2) 1 707 := ⟨by decide +kernel, rfl⟩
theorem aL_law_707 : At cL_law 707 (.iadd) 1 708 := ⟨by decide +kernel, rfl⟩
theorem aL_law_708 : At cL_law 708 (.iaload) 1 709 := ⟨by decide +kernel, rfl⟩
theorem aL_law_709 : At cL_law 709 (.invokevirtual 100) 3 712 := ⟨by decide +kernel, rfl⟩
theorem aL_law_712 : At cL_law 712 (.if_icmp .eq 531) 3 715 := ⟨by decide +kernel, rfl⟩
theorem aL_law_715 : At cL_law 715 (.iconst 0) 1 716 := ⟨by decide +kernel, rfl⟩
theorem aL_law_716 : At cL_law 716 (.ireturn) 1 717 := ⟨by decide +kernel, rfl⟩
theorem aL_law_717 : At cL_law 717 (.aload_n 1) 1 718 := ⟨by decide +kernel, rfl⟩
theorem aL_law_718 : At cL_law 718 (.aload_n 0) 1 719 := ⟨by decide +kernel, rfl⟩
theorem aL_law_719 : At cL_law 719 (.iload_n 3) 1 720 := ⟨by decide +kernel, rfl⟩
theorem aL_law_720 : At cL_law 720 (.iconst 1) 1 721 := ⟨by decide +kernel, rfl⟩
theorem aL_law_721 : At cL_law 721 (.iadd) 1 722 := ⟨by decide +kernel, rfl⟩
theorem aL_law_722 : At cL_law 722 (.iaload) 1 723 := ⟨by decide +kernel, rfl⟩
theorem aL_law_723 : At cL_law 723 (.aload_n 0) 1 724 := ⟨by decide +kernel, rfl⟩
theorem aL_law_724 : At cL_law 724 (.iload_n 3) 1 725 := ⟨by decide +kernel, rfl⟩
theorem aL_law_725 : At cL_law 725 (.iconst 2) 1 726 := ⟨by decide +kernel, rfl⟩
theorem aL_law_726 : At cL_law 726 (.iadd) 1 727 := ⟨by decide +kernel, rfl⟩
theorem aL_law_727 : At cL_law 727 (.iaload) 1 728 := ⟨by decide +kernel, rfl⟩
theorem aL_law_728 : At cL_law 728 (.invokevirtual 101) 3 731 := ⟨by decide +kernel, rfl⟩
theorem aL_law_731 : At cL_law 731 (.aload_n 2) 1 732 := ⟨by decide +kernel, rfl⟩
theorem aL_law_732 : At cL_law 732 (.aload_n 0) 1 733 := ⟨by decide +kernel, rfl⟩
theorem aL_law_733 : At cL_law 733 (.iload_n 3) 1 734 := ⟨by decide +kernel, rfl⟩
theorem aL_law_734 : At cL_law 734 (.iconst 1) 1 735 := ⟨by decide +kernel, rfl⟩
theorem aL_law_735 : At cL_law 735 (.iadd) 1 736 := ⟨by decide +kernel, rfl⟩
theorem aL_law_736 : At cL_law 736 (.iaload) 1 737 := ⟨by decide +kernel, rfl⟩
theorem aL_law_737 : At cL_law 737 (.aload_n 0) 1 738 := ⟨by decide +kernel, rfl⟩
theorem aL_law_738 : At cL_law 738 (.iload_n 3) 1 739 := ⟨by decide +kernel, rfl⟩
theorem aL_law_739 : At cL_law 739 (.iconst 2) 1 740 := ⟨by decide +kernel, rfl⟩
theorem aL_law_740 : At cL_law 740 (.iadd) 1 741 := ⟨by decide +kernel, rfl⟩
theorem aL_law_741 : At cL_law 741 (.iaload) 1 742 := ⟨by decide +kernel, rfl⟩
theorem aL_law_742 : At cL_law 742 (.invokevirtual 104) 3 745 := ⟨by decide +kernel, rfl⟩
theorem aL_law_745 : At cL_law 745 (.if_icmp .eq 498) 3 748 := ⟨by decide +kernel, rfl⟩
theorem aL_law_748 : At cL_law 748 (.iconst 0) 1 749 := ⟨by decide +kernel, rfl⟩
theorem aL_law_749 : At cL_law 749 (.ireturn) 1 750 := ⟨by decide +kernel, rfl⟩
theorem aL_law_750 : At cL_law 750 (.aload_n 1) 1 751 := ⟨by decide +kernel, rfl⟩
theorem aL_law_751 : At cL_law 751 (.aload_n 0) 1 752 := ⟨by decide +kernel, rfl⟩
theorem aL_law_752 : At cL_law 752 (.iload_n 3) 1 753 := ⟨by decide +kernel, rfl⟩
theorem aL_law_753 : At cL_law 753 (.iconst 1) 1 754 := ⟨by decide +kernel, rfl⟩
theorem aL_law_754 : At cL_law 754 (.iadd) 1 755 := ⟨by decide +kernel, rfl⟩
theorem aL_law_755 : At cL_law 755 (.iaload) 1 756 := ⟨by decide +kernel, rfl⟩
theorem aL_law_756 : At cL_law 756 (.aload_n 0) 1 757 := ⟨by decide +kernel, rfl⟩
theorem aL_law_757 : At cL_law 757 (.iload_n 3) 1 758 := ⟨by decide +kernel, rfl⟩
theorem aL_law_758 : At cL_law 758 (.iconst 2) 1 759 := ⟨by decide +kernel, rfl⟩
theorem aL_law_759 : At cL_law 759 (.iadd) 1 760 := ⟨by decide +kernel, rfl⟩
theorem aL_law_760 : At cL_law 760 (.iaload) 1 761 := ⟨by decide +kernel, rfl⟩
theorem aL_law_761 : At cL_law 761 (.invokevirtual 105) 3 764 := ⟨by decide +kernel, rfl⟩
theorem aL_law_764 : At cL_law 764 (.aload_n 2) 1 765 := ⟨by decide +kernel, rfl⟩
theorem aL_law_765 : At cL_law 765 (.aload_n 0) 1 766 := ⟨by decide +kernel, rfl⟩
theorem aL_law_766 : At cL_law 766 (.iload_n 3) 1 767 := ⟨by decide +kernel, rfl⟩
theorem aL_law_767 : At cL_law 767 (.iconst 1) 1 768 := ⟨by decide +kernel, rfl⟩
theorem aL_law_768 : At cL_law 768 (.iadd) 1 769 := ⟨by decide +kernel, rfl⟩
theorem aL_law_769 : At cL_law 769 (.iaload) 1 770 := ⟨by decide +kernel, rfl⟩
theorem aL_law_770 : At cL_law 770 (.aload_n 0) 1 771 := ⟨by decide +kernel, rfl⟩
theorem aL_law_771 : At cL_law 771 (.iload_n 3) 1 772 := ⟨by decide +kernel, rfl⟩
theorem aL_law_772 : At cL_law 772 (.iconst 2) 1 773 := ⟨by decide +kernel, rfl⟩
theorem aL_law_773 : At cL_law 773 (.iadd) 1 774 := ⟨by decide +kernel, rfl⟩
theorem aL_law_774 : At cL_law 774 (.iaload) 1 775 := ⟨by decide +kernel, rfl⟩
theorem aL_law_775 : At cL_law 775 (.invokevirtual 108) 3 778 := ⟨by decide +kernel, rfl⟩
theorem aL_law_778 : At cL_law 778 (.if_icmp .eq 465) 3 781 := ⟨by decide +kernel, rfl⟩
theorem aL_law_781 : At cL_law 781 (.iconst 0) 1 782 := ⟨by decide +kernel, rfl⟩
theorem aL_law_782 : At cL_law 782 (.ireturn) 1 783 := ⟨by decide +kernel, rfl⟩
theorem aL_law_783 : At cL_law 783 (.aload_n 1) 1 784 := ⟨by decide +kernel, rfl⟩
theorem aL_law_784 : At cL_law 784 (.aload_n 0) 1 785 := ⟨by decide +kernel, rfl⟩
theorem aL_law_785 : At cL_law 785 (.iload_n 3) 1 786 := ⟨by decide +kernel, rfl⟩
theorem aL_law_786 : At cL_law 786 (.iconst 1) 1 787 := ⟨by decide +kernel, rfl⟩
theorem aL_law_787 : At cL_law 787 (.iadd) 1 788 := ⟨by decide +kernel, rfl⟩
theorem aL_law_788 : At cL_law 788 (.iaload) 1 789 := ⟨by decide +kernel, rfl⟩
theorem aL_law_789 : At cL_law 789 (.aload_n 0) 1 790 := ⟨by decide +kernel, rfl⟩
theorem aL_law_790 : At cL_law 790 (.iload_n 3) 1 791 := ⟨by decide +kernel, rfl⟩
theorem aL_law_791 : At cL_law 791 (.iconst 2) 1 792 := ⟨by decide +kernel, rfl⟩
theorem aL_law_792 : At cL_law 792 (.iadd) 1 793 := ⟨by decide +kernel, rfl⟩
theorem aL_law_793 : At cL_law 793 (.iaload) 1 794 := ⟨by decide +kernel, rfl⟩
theorem aL_law_794 : At cL_law 794 (.aload_n 0) 1 795 := ⟨by decide +kernel, rfl⟩
theorem aL_law_795 : At cL_law 795 (.iload_n 3) 1 796 := ⟨by decide +kernel, rfl⟩
theorem aL_law_796 : At cL_law 796 (.iconst 3) 1 797 := ⟨by decide +kernel, rfl⟩
theorem aL_law_797 : At cL_law 797 (.iadd) 1 798 := ⟨by decide +kernel, rfl⟩
theorem aL_law_798 : At cL_law 798 (.iaload) 1 799 := ⟨by decide +kernel, rfl⟩
theorem aL_law_799 : At cL_law 799 (.aload_n 0) 1 800 := ⟨by decide +kernel, rfl⟩
theorem aL_law_800 : At cL_law 800 (.iload_n 3) 1 801 := ⟨by decide +kernel, rfl⟩
theorem aL_law_801 : At cL_law 801 (.iconst 4) 1 802 := ⟨by decide +kernel, rfl⟩
theorem aL_law_802 : At cL_law 802 (.iadd) 1 803 := ⟨by decide +kernel, rfl⟩
theorem aL_law_803 : At cL_law 803 (.iaload) 1 804 := ⟨by decide +kernel, rfl⟩
theorem aL_law_804 : At cL_law 804 (.aload_n 0) 1 805 := ⟨by decide +kernel, rfl⟩
theorem aL_law_805 : At cL_law 805 (.iload_n 3) 1 806 := ⟨by decide +kernel, rfl⟩
theorem aL_law_806 : At cL_law 806 (.iconst 5) 1 807 := ⟨by decide +kernel, rfl⟩
theorem aL_law_807 : At cL_law 807 (.iadd) 1 808 := ⟨by decide +kernel, rfl⟩
theorem aL_law_808 : At cL_law 808 (.iaload) 1 809 := ⟨by decide +kernel, rfl⟩
theorem aL_law_809 : At cL_law 809 (.invokevirtual 109) 3 812 := ⟨by decide +kernel, rfl⟩
theorem aL_law_812 : At cL_law 812 (.aload_n 2) 1 813 := ⟨by decide +kernel, rfl⟩
theorem aL_law_813 : At cL_law 813 (.aload_n 0) 1 814 := ⟨by decide +kernel, rfl⟩
theorem aL_law_814 : At cL_law 814 (.iload_n 3) 1 815 := ⟨by decide +kernel, rfl⟩
theorem aL_law_815 : At cL_law 815 (.iconst 1) 1 816 := ⟨by decide +kernel, rfl⟩
theorem aL_law_816 : At cL_law 816 (.iadd) 1 817 := ⟨by decide +kernel, rfl⟩
theorem aL_law_817 : At cL_law 817 (.iaload) 1 818 := ⟨by decide +kernel, rfl⟩
theorem aL_law_818 : At cL_law 818 (.aload_n 0) 1 819 := ⟨by decide +kernel, rfl⟩
theorem aL_law_819 : At cL_law 819 (.iload_n 3) 1 820 := ⟨by decide +kernel, rfl⟩
theorem aL_law_820 : At cL_law 820 (.iconst 2) 1 821 := ⟨by decide +kernel, rfl⟩
theorem aL_law_821 : At cL_law 821 (.iadd) 1 822 := ⟨by decide +kernel, rfl⟩
theorem aL_law_822 : At cL_law 822 (.iaload) 1 823 := ⟨by decide +kernel, rfl⟩
theorem aL_law_823 : At cL_law 823 (.aload_n 0) 1 824 := ⟨by decide +kernel, rfl⟩
theorem aL_law_824 : At cL_law 824 (.iload_n 3) 1 825 := ⟨by decide +kernel, rfl⟩
theorem aL_law_825 : At cL_law 825 (.iconst 3) 1 826 := ⟨by decide +kernel, rfl⟩
theorem aL_law_826 : At cL_law 826 (.iadd) 1 827 := ⟨by decide +kernel, rfl⟩
theorem aL_law_827 : At cL_law 827 (.iaload) 1 828 := ⟨by decide +kernel, rfl⟩
theorem aL_law_828 : At cL_law 828 (.aload_n 0) 1 829 := ⟨by decide +kernel, rfl⟩
theorem aL_law_829 : At cL_law 829 (.iload_n 3) 1 830 := ⟨by decide +kernel, rfl⟩
theorem aL_law_830 : At cL_law 830 (.iconst 4) 1 831 := ⟨by decide +kernel, rfl⟩
theorem aL_law_831 : At cL_law 831 (.iadd) 1 832 := ⟨by decide +kernel, rfl⟩
theorem aL_law_832 : At cL_law 832 (.iaload) 1 833 := ⟨by decide +kernel, rfl⟩
theorem aL_law_833 : At cL_law 833 (.aload_n 0) 1 834 := ⟨by decide +kernel, rfl⟩
theorem aL_law_834 : At cL_law 834 (.iload_n 3) 1 835 := ⟨by decide +kernel, rfl⟩
theorem aL_law_835 : At cL_law 835 (.iconst 5) 1 836 := ⟨by decide +kernel, rfl⟩
theorem aL_law_836 : At cL_law 836 (.iadd) 1 837 := ⟨by decide +kernel, rfl⟩
theorem aL_law_837 : At cL_law 837 (.iaload) 1 838 := ⟨by decide +kernel, rfl⟩
theorem aL_law_838 : At cL_law 838 (.invokevirtual 113) 3 841 := ⟨by decide +kernel, rfl⟩
theorem aL_law_841 : At cL_law 841 (.if_icmp .eq 402) 3 844 := ⟨by decide +kernel, rfl⟩
theorem aL_law_844 : At cL_law 844 (.iconst 0) 1 845 := ⟨by decide +kernel, rfl⟩
theorem aL_law_845 : At cL_law 845 (.ireturn) 1 846 := ⟨by decide +kernel, rfl⟩
theorem aL_law_846 : At cL_law 846 (.aload_n 1) 1 847 := ⟨by decide +kernel, rfl⟩
theorem aL_law_847 : At cL_law 847 (.aload_n 0) 1 848 := ⟨by decide +kernel, rfl⟩
theorem aL_law_848 : At cL_law 848 (.iload_n 3) 1 849 := ⟨by decide +kernel, rfl⟩
theorem aL_law_849 : At cL_law 849 (.iconst 1) 1 850 := ⟨by decide +kernel, rfl⟩
theorem aL_law_850 : At cL_law 850 (.iadd) 1 851 := ⟨by decide +kernel, rfl⟩
theorem aL_law_851 : At cL_law 851 (.iaload) 1 852 := ⟨by decide +kernel, rfl⟩
theorem aL_law_852 : At cL_law 852 (.aload_n 0) 1 853 := ⟨by decide +kernel, rfl⟩
theorem aL_law_853 : At cL_law 853 (.iload_n 3) 1 854 := ⟨by decide +kernel, rfl⟩
theorem aL_law_854 : At cL_law 854 (.iconst 2) 1 855 := ⟨by decide +kernel, rfl⟩
theorem aL_law_855 : At cL_law 855 (.iadd) 1 856 := ⟨by decide +kernel, rfl⟩
theorem aL_law_856 : At cL_law 856 (.iaload) 1 857 := ⟨by decide +kernel, rfl⟩
theorem aL_law_857 : At cL_law 857 (.aload_n 0) 1 858 := ⟨by decide +kernel, rfl⟩
theorem aL_law_858 : At cL_law 858 (.iload_n 3) 1 859 := ⟨by decide +kernel, rfl⟩
theorem aL_law_859 : At cL_law 859 (.iconst 3) 1 860 := ⟨by decide +kernel, rfl⟩
theorem aL_law_860 : At cL_law 860 (.iadd) 1 861 := ⟨by decide +kernel, rfl⟩
theorem aL_law_861 : At cL_law 861 (.iaload) 1 862 := ⟨by decide +kernel, rfl⟩
theorem aL_law_862 : At cL_law 862 (.aload_n 0) 1 863 := ⟨by decide +kernel, rfl⟩
theorem aL_law_863 : At cL_law 863 (.iload_n 3) 1 864 := ⟨by decide +kernel, rfl⟩
theorem aL_law_864 : At cL_law 864 (.iconst 4) 1 865 := ⟨by decide +kernel, rfl⟩
theorem aL_law_865 : At cL_law 865 (.iadd) 1 866 := ⟨by decide +kernel, rfl⟩
theorem aL_law_866 : At cL_law 866 (.iaload) 1 867 := ⟨by decide +kernel, rfl⟩
theorem aL_law_867 : At cL_law 867 (.invokevirtual 114) 3 870 := ⟨by decide +kernel, rfl⟩
theorem aL_law_870 : At cL_law 870 (.aload_n 2) 1 871 := ⟨by decide +kernel, rfl⟩
theorem aL_law_871 : At cL_law 871 (.aload_n 0) 1 872 := ⟨by decide +kernel, rfl⟩
theorem aL_law_872 : At cL_law 872 (.iload_n 3) 1 873 := ⟨by decide +kernel, rfl⟩
theorem aL_law_873 : At cL_law 873 (.iconst 1) 1 874 := ⟨by decide +kernel, rfl⟩
theorem aL_law_874 : At cL_law 874 (.iadd) 1 875 := ⟨by decide +kernel, rfl⟩
theorem aL_law_875 : At cL_law 875 (.iaload) 1 876 := ⟨by decide +kernel, rfl⟩
theorem aL_law_876 : At cL_law 876 (.aload_n 0) 1 877 := ⟨by decide +kernel, rfl⟩
theorem aL_law_877 : At cL_law 877 (.iload_n 3) 1 878 := ⟨by decide +kernel, rfl⟩
theorem aL_law_878 : At cL_law 878 (.iconst 2) 1 879 := ⟨by decide +kernel, rfl⟩
theorem aL_law_879 : At cL_law 879 (.iadd) 1 880 := ⟨by decide +kernel, rfl⟩
theorem aL_law_880 : At cL_law 880 (.iaload) 1 881 := ⟨by decide +kernel, rfl⟩
theorem aL_law_881 : At cL_law 881 (.aload_n 0) 1 882 := ⟨by decide +kernel, rfl⟩
theorem aL_law_882 : At cL_law 882 (.iload_n 3) 1 883 := ⟨by decide +kernel, rfl⟩
theorem aL_law_883 : At cL_law 883 (.iconst 3) 1 884 := ⟨by decide +kernel, rfl⟩
theorem aL_law_884 : At cL_law 884 (.iadd) 1 885 := ⟨by decide +kernel, rfl⟩
theorem aL_law_885 : At cL_law 885 (.iaload) 1 886 := ⟨by decide +kernel, rfl⟩
theorem aL_law_886 : At cL_law 886 (.aload_n 0) 1 887 := ⟨by decide +kernel, rfl⟩
theorem aL_law_887 : At cL_law 887 (.iload_n 3) 1 888 := ⟨by decide +kernel, rfl⟩
theorem aL_law_888 : At cL_law 888 (.iconst 4) 1 889 := ⟨by decide +kernel, rfl⟩
theorem aL_law_889 : At cL_law 889 (.iadd) 1 890 := ⟨by decide +kernel, rfl⟩
theorem aL_law_890 : At cL_law 890 (.iaload) 1 891 := ⟨by decide +kernel, rfl⟩
theorem aL_law_891 : At cL_law 891 (.invokevirtual 118) 3 894 := ⟨by decide +kernel, rfl⟩
theorem aL_law_894 : At cL_law 894 (.if_icmp .eq 349) 3 897 := ⟨by decide +kernel, rfl⟩
theorem aL_law_897 : At cL_law 897 (.iconst 0) 1 898 := ⟨by decide +kernel, rfl⟩
theorem aL_law_898 : At cL_law 898 (.ireturn) 1 899 := ⟨by decide +kernel, rfl⟩
theorem aL_law_899 : At cL_law 899 (.aload_n 1) 1 900 := ⟨by decide +kernel, rfl⟩
theorem aL_law_900 : At cL_law 900 (.aload_n 0) 1 901 := ⟨by decide +kernel, rfl⟩
theorem aL_law_901 : At cL_law 901 (.iload_n 3) 1 902 := ⟨by decide +kernel, rfl⟩
theorem aL_law_902 : At cL_law 902 (.iconst 1) 1 903 := ⟨by decide +kernel, rfl⟩
theorem aL_law_903 : At cL_law 903 (.iadd) 1 904 := ⟨by decide +kernel, rfl⟩
theorem aL_law_904 : At cL_law 904 (.iaload) 1 905 := ⟨by decide +kernel, rfl⟩
theorem aL_law_905 : At cL_law 905 (.invokevirtual 119) 3 908 := ⟨by decide +kernel, rfl⟩
theorem aL_law_908 : At cL_law 908 (.aload_n 2) 1 909 := ⟨by decide +kernel, rfl⟩
theorem aL_law_909 : At cL_law 909 (.aload_n 0) 1 910 := ⟨by decide +kernel, rfl⟩
theorem aL_law_910 : At cL_law 910 (.iload_n 3) 1 911 := ⟨by decide +kernel, rfl⟩
theorem aL_law_911 : At cL_law 911 (.iconst 1) 1 912 := ⟨by decide +kernel, rfl⟩
theorem aL_law_912 : At cL_law 912 (.iadd) 1 913 := ⟨by decide +kernel, rfl⟩
theorem aL_law_913 : At cL_law 913 (.iaload) 1 914 := ⟨by decide +kernel, rfl⟩
theorem aL_law_914 : At cL_law 914 (.invokevirtual 122) 3 917 := ⟨by decide +kernel, rfl⟩
theorem aL_law_917 : At cL_law 917 (.if_icmp .eq 326) 3 920 := ⟨by decide +kernel, rfl⟩
theorem aL_law_920 : At cL_law 920 (.iconst 0) 1 921 := ⟨by decide +kernel, rfl⟩
theorem aL_law_921 : At cL_law 921 (.ireturn) 1 922 := ⟨by decide +kernel, rfl⟩
theorem aL_law_922 : At cL_law 922 (.aload_n 1) 1 923 := ⟨by decide +kernel, rfl⟩
theorem aL_law_923 : At cL_law 923 (.aload_n 0) 1 924 := ⟨by decide +kernel, rfl⟩
theorem aL_law_924 : At cL_law 924 (.iload_n 3) 1 925 := ⟨by decide +kernel, rfl⟩
theorem aL_law_925 : At cL_law 925 (.iconst 1) 1 926 := ⟨by decide +kernel, rfl⟩
theorem aL_law_926 : At cL_law 926 (.iadd) 1 927 := ⟨by decide +kernel, rfl⟩
theorem aL_law_927 : At cL_law 927 (.iaload) 1 928 := ⟨by decide +kernel, rfl⟩
theorem aL_law_928 : At cL_law 928 (.invokevirtual 123) 3 931 := ⟨by decide +kernel, rfl⟩
theorem aL_law_931 : At cL_law 931 (.aload_n 2) 1 932 := ⟨by decide +kernel, rfl⟩
theorem aL_law_932 : At cL_law 932 (.aload_n 0) 1 933 := ⟨by decide +kernel, rfl⟩
theorem aL_law_933 : At cL_law 933 (.iload_n 3) 1 934 := ⟨by decide +kernel, rfl⟩
theorem aL_law_934 : At cL_law 934 (.iconst 1) 1 935 := ⟨by decide +kernel, rfl⟩
theorem aL_law_935 : At cL_law 935 (.iadd) 1 936 := ⟨by decide +kernel, rfl⟩
theorem aL_law_936 : At cL_law 936 (.iaload) 1 937 := ⟨by decide +kernel, rfl⟩
theorem aL_law_937 : At cL_law 937 (.invokevirtual 126) 3 940 := ⟨by decide +kernel, rfl⟩
theorem aL_law_940 : At cL_law 940 (.if_icmp .eq 303) 3 943 := ⟨by decide +kernel, rfl⟩
theorem aL_law_943 : At cL_law 943 (.iconst 0) 1 944 := ⟨by decide +kernel, rfl⟩
theorem aL_law_944 : At cL_law 944 (.ireturn) 1 945 := ⟨by decide +kernel, rfl⟩
theorem aL_law_945 : At cL_law 945 (.aload_n 1) 1 946 := ⟨by decide +kernel, rfl⟩
theorem aL_law_946 : At cL_law 946 (.aload_n 0) 1 947 := ⟨by decide +kernel, rfl⟩
theorem aL_law_947 : At cL_law 947 (.iload_n 3) 1 948 := ⟨by decide +kernel, rfl⟩
theorem aL_law_948 : At cL_law 948 (.iconst 1) 1 949 := ⟨by decide +kernel, rfl⟩
theorem aL_law_949 : At cL_law 949 (.iadd) 1 950 := ⟨by decide +kernel, rfl⟩
theorem aL_law_950 : At cL_law 950 (.iaload) 1 951 := ⟨by decide +kernel, rfl⟩
theorem aL_law_951 : At cL_law 951 (.invokevirtual 127) 3 954 := ⟨by decide +kernel, rfl⟩
theorem aL_law_954 : At cL_law 954 (.aload_n 2) 1 955 := ⟨by decide +kernel, rfl⟩
theorem aL_law_955 : At cL_law 955 (.aload_n 0) 1 956 := ⟨by decide +kernel, rfl⟩
theorem aL_law_956 : At cL_law 956 (.iload_n 3) 1 957 := ⟨by decide +kernel, rfl⟩
theorem aL_law_957 : At cL_law 957 (.iconst 1) 1 958 := ⟨by decide +kernel, rfl⟩
theorem aL_law_958 : At cL_law 958 (.iadd) 1 959 := ⟨by decide +kernel, rfl⟩
theorem aL_law_959 : At cL_law 959 (.iaload) 1 960 := ⟨by decide +kernel, rfl⟩
theorem aL_law_960 : At cL_law 960 (.invokevirtual 130) 3 963 := ⟨by decide +kernel, rfl⟩
theorem aL_law_963 : At cL_law 963 (.if_icmp .eq 280) 3 966 := ⟨by decide +kernel, rfl⟩
theorem aL_law_966 : At cL_law 966 (.iconst 0) 1 967 := ⟨by decide +kernel, rfl⟩
theorem aL_law_967 : At cL_law 967 (.ireturn) 1 968 := ⟨by decide +kernel, rfl⟩
theorem aL_law_968 : At cL_law 968 (.aload_n 1) 1 969 := ⟨by decide +kernel, rfl⟩
theorem aL_law_969 : At cL_law 969 (.aload_n 0) 1 970 := ⟨by decide +kernel, rfl⟩
theorem aL_law_970 : At cL_law 970 (.iload_n 3) 1 971 := ⟨by decide +kernel, rfl⟩
theorem aL_law_971 : At cL_law 971 (.iconst 1) 1 972 := ⟨by decide +kernel, rfl⟩
theorem aL_law_972 : At cL_law 972 (.iadd) 1 973 := ⟨by decide +kernel, rfl⟩
theorem aL_law_973 : At cL_law 973 (.iaload) 1 974 := ⟨by decide +kernel, rfl⟩
theorem aL_law_974 : At cL_law 974 (.invokevirtual 131) 3 977 := ⟨by decide +kernel, rfl⟩
theorem aL_law_977 : At cL_law 977 (.aload_n 2) 1 978 := ⟨by decide +kernel, rfl⟩
theorem aL_law_978 : At cL_law 978 (.aload_n 0) 1 979 := ⟨by decide +kernel, rfl⟩
theorem aL_law_979 : At cL_law 979 (.iload_n 3) 1 980 := ⟨by decide +kernel, rfl⟩
theorem aL_law_980 : At cL_law 980 (.iconst 1) 1 981 := ⟨by decide +kernel, rfl⟩
theorem aL_law_981 : At cL_law 981 (.iadd) 1 982 := ⟨by decide +kernel, rfl⟩
theorem aL_law_982 : At cL_law 982 (.iaload) 1 983 := ⟨by decide +kernel, rfl⟩
theorem aL_law_983 : At cL_law 983 (.invokevirtual 134) 3 986 := ⟨by decide +kernel, rfl⟩
theorem aL_law_986 : At cL_law 986 (.if_icmp .eq 257) 3 989 := ⟨by decide +kernel, rfl⟩
theorem aL_law_989 : At cL_law 989 (.iconst 0) 1 990 := ⟨by decide +kernel, rfl⟩
theorem aL_law_990 : At cL_law 990 (.ireturn) 1 991 := ⟨by decide +kernel, rfl⟩
theorem aL_law_991 : At cL_law 991 (.aload_n 1) 1 992 := ⟨by decide +kernel, rfl⟩
theorem aL_law_992 : At cL_law 992 (.aload_n 0) 1 993 := ⟨by decide +kernel, rfl⟩
theorem aL_law_993 : At cL_law 993 (.iload_n 3) 1 994 := ⟨by decide +kernel, rfl⟩
theorem aL_law_994 : At cL_law 994 (.iconst 1) 1 995 := ⟨by decide +kernel, rfl⟩
theorem aL_law_995 : At cL_law 995 (.iadd) 1 996 := ⟨by decide +kernel, rfl⟩
theorem aL_law_996 : At cL_law 996 (.iaload) 1 997 := ⟨by decide +kernel, rfl⟩
theorem aL_law_997 : At cL_law 997 (.invokevirtual 135) 3 1000 := ⟨by decide +kernel, rfl⟩
theorem aL_law_1000 : At cL_law 1000 (.aload_n 2) 1 1001 := ⟨by decide +kernel, rfl⟩
theorem aL_law_1001 : At cL_law 1001 (.aload_n 0) 1 1002 := ⟨by decide +kernel, rfl⟩
theorem aL_law_1002 : At cL_law 1002 (.iload_n 3) 1 1003 := ⟨by decide +kernel, rfl⟩
theorem aL_law_1003 : At cL_law 1003 (.iconst 1) 1 1004 := ⟨by decide +kernel, rfl⟩
theorem aL_law_1004 : At cL_law 1004 (.iadd) 1 1005 := ⟨by decide +kernel, rfl⟩
theorem aL_law_1005 : At cL_law 1005 (.iaload) 1 1006 := ⟨by decide +kernel, rfl⟩
theorem aL_law_1006 : At cL_law 1006 (.invokevirtual 138) 3 1009 := ⟨by decide +kernel, rfl⟩
theorem aL_law_1009 : At cL_law 1009 (.if_icmp .eq 234) 3 1012 := ⟨by decide +kernel, rfl⟩
theorem aL_law_1012 : At cL_law 1012 (.iconst 0) 1 1013 := ⟨by decide +kernel, rfl⟩
theorem aL_law_1013 : At cL_law 1013 (.ireturn) 1 1014 := ⟨by decide +kernel, rfl⟩
theorem aL_law_1014 : At cL_law 1014 (.aload_n 1) 1 1015 := ⟨by decide +kernel, rfl⟩
theorem aL_law_1015 : At cL_law 1015 (.aload_n 0) 1 1016 := ⟨by decide +kernel, rfl⟩
theorem aL_law_1016 : At cL_law 1016 (.iload_n 3) 1 1017 := ⟨by decide +kernel, rfl⟩
theorem aL_law_1017 : At cL_law 1017 (.iconst 1) 1 1018 := ⟨by decide +kernel, rfl⟩
theorem aL_law_1018 : At cL_law 1018 (.iadd) 1 1019 := ⟨by decide +kernel, rfl⟩
theorem aL_law_1019 : At cL_law 1019 (.iaload) 1 1020 := ⟨by decide +kernel, rfl⟩
theorem aL_law_1020 : At cL_law 1020 (.aload_n 0) 1 1021 := ⟨by decide +kernel, rfl⟩
theorem aL_law_1021 : At cL_law 1021 (.iload_n 3) 1 1022 := ⟨by decide +kernel, rfl⟩
theorem aL_law_1022 : At cL_law 1022 (.iconst 2) 1 1023 := ⟨by decide +kernel, rfl⟩
theorem aL_law_1023 : At cL_law 1023 (.iadd) 1 1024 := ⟨by decide +kernel, rfl⟩
theorem aL_law_1024 : At cL_law 1024 (.iaload) 1 1025 := ⟨by decide +kernel, rfl⟩
theorem aL_law_1025 : At cL_law 1025 (.invokevirtual 139) 3 1028 := ⟨by decide +kernel, rfl⟩
theorem aL_law_1028 : At cL_law 1028 (.aload_n 2) 1 1029 := ⟨by decide +kernel, rfl⟩
theorem aL_law_1029 : At cL_law 1029 (.aload_n 0) 1 1030 := ⟨by decide +kernel, rfl⟩
theorem aL_law_1030 : At cL_law 1030 (.iload_n 3) 1 1031 := ⟨by decide +kernel, rfl⟩
theorem aL_law_1031 : At cL_law 1031 (.iconst 1) 1 1032 := ⟨by decide +kernel, rfl⟩
theorem aL_law_1032 : At cL_law 1032 (.iadd) 1 1033 := ⟨by decide +kernel, rfl⟩
theorem aL_law_1033 : At cL_law 1033 (.iaload) 1 1034 := ⟨by decide +kernel, rfl⟩
theorem aL_law_1034 : At cL_law 1034 (.aload_n 0) 1 1035 := ⟨by decide +kernel, rfl⟩
theorem aL_law_1035 : At cL_law 1035 (.iload_n 3) 1 1036 := ⟨by decide +kernel, rfl⟩
theorem aL_law_1036 : At cL_law 1036 (.iconst 2) 1 1037 := ⟨by decide +kernel, rfl⟩
theorem aL_law_1037 : At cL_law 1037 (.iadd) 1 1038 := ⟨by decide +kernel, rfl⟩
theorem aL_law_1038 : At cL_law 1038 (.iaload) 1 1039 := ⟨by decide +kernel, rfl⟩
theorem aL_law_1039 : At cL_law 1039 (.invokevirtual 142) 3 1042 := ⟨by decide +kernel, rfl⟩
theorem aL_law_1042 : At cL_law 1042 (.if_icmp .eq 201) 3 1045 := ⟨by decide +kernel, rfl⟩
theorem aL_law_1045 : At cL_law 1045 (.iconst 0) 1 1046 := ⟨by decide +kernel, rfl⟩
theorem aL_law_1046 : At cL_law 1046 (.ireturn) 1 1047 := ⟨by decide +kernel, rfl⟩
theorem aL_law_1047 : At cL_law 1047 (.aload_n 1) 1 1048 := ⟨by decide +kernel, rfl⟩
theorem aL_law_1048 : At cL_law 1048 (.aload_n 0) 1 1049 := ⟨by decide +kernel, rfl⟩
theorem aL_law_1049 : At cL_law 1049 (.iload_n 3) 1 1050 := ⟨by decide +kernel, rfl⟩
theorem aL_law_1050 : At cL_law 1050 (.iconst 1) 1 1051 := ⟨by decide +kernel, rfl⟩
theorem aL_law_1051 : At cL_law 1051 (.iadd) 1 1052 := ⟨by decide +kernel, rfl⟩
theorem aL_law_1052 : At cL_law 1052 (.iaload) 1 1053 := ⟨by decide +kernel, rfl⟩
theorem aL_law_1053 : At cL_law 1053 (.aload_n 0) 1 1054 := ⟨by decide +kernel, rfl⟩
theorem aL_law_1054 : At cL_law 1054 (.iload_n 3) 1 1055 := ⟨by decide +kernel, rfl⟩
theorem aL_law_1055 : At cL_law 1055 (.iconst 2) 1 1056 := ⟨by decide +kernel, rfl⟩
theorem aL_law_1056 : At cL_law 1056 (.iadd) 1 1057 := ⟨by decide +kernel, rfl⟩
theorem aL_law_1057 : At cL_law 1057 (.iaload) 1 1058 := ⟨by decide +kernel, rfl⟩
theorem aL_law_1058 : At cL_law 1058 (.invokevirtual 143) 3 1061 := ⟨by decide +kernel, rfl⟩
theorem aL_law_1061 : At cL_law 1061 (.aload_n 2) 1 1062 := ⟨by decide +kernel, rfl⟩
theorem aL_law_1062 : At cL_law 1062 (.aload_n 0) 1 1063 := ⟨by decide +kernel, rfl⟩
theorem aL_law_1063 : At cL_law 1063 (.iload_n 3) 1 1064 := ⟨by decide +kernel, rfl⟩
theorem aL_law_1064 : At cL_law 1064 (.iconst 1) 1 1065 := ⟨by decide +kernel, rfl⟩
theorem aL_law_1065 : At cL_law 1065 (.iadd) 1 1066 := ⟨by decide +kernel, rfl⟩
theorem aL_law_1066 : At cL_law 1066 (.iaload) 1 1067 := ⟨by decide +kernel, rfl⟩
theorem aL_law_1067 : At cL_law 1067 (.aload_n 0) 1 1068 := ⟨by decide +kernel, rfl⟩
theorem aL_law_1068 : At cL_law 1068 (.iload_n 3) 1 1069 := ⟨by decide +kernel, rfl⟩
theorem aL_law_1069 : At cL_law 1069 (.iconst 2) 1 1070 := ⟨by decide +kernel, rfl⟩
theorem aL_law_1070 : At cL_law 1070 (.iadd) 1 1071 := ⟨by decide +kernel, rfl⟩
theorem aL_law_1071 : At cL_law 1071 (.iaload) 1 1072 := ⟨by decide +kernel, rfl⟩
theorem aL_law_1072 : At cL_law 1072 (.invokevirtual 146) 3 1075 := ⟨by decide +kernel, rfl⟩
theorem aL_law_1075 : At cL_law 1075 (.if_icmp .eq 168) 3 1078 := ⟨by decide +kernel, rfl⟩
theorem aL_law_1078 : At cL_law 1078 (.iconst 0) 1 1079 := ⟨by decide +kernel, rfl⟩
theorem aL_law_1079 : At cL_law 1079 (.ireturn) 1 1080 := ⟨by decide +kernel, rfl⟩
theorem aL_law_1080 : At cL_law 1080 (.aload_n 1) 1 1081 := ⟨by decide +kernel, rfl⟩
theorem aL_law_1081 : At cL_law 1081 (.aload_n 0) 1 1082 := ⟨by decide +kernel, rfl⟩
theorem aL_law_1082 : At cL_law 1082 (.iload_n 3) 1 1083 := ⟨by decide +kernel, rfl⟩
theorem aL_law_1083 : At cL_law 1083 (.iconst 1) 1 1084 := ⟨by decide +kernel, rfl⟩
theorem aL_law_1084 : At cL_law 1084 (.iadd) 1 1085 := ⟨by decide +kernel, rfl⟩
theorem aL_law_1085 : At cL_law 1085 (.iaload) 1 1086 := ⟨by decide +kernel, rfl⟩
theorem aL_law_1086 : At cL_law 1086 (.aload_n 0) 1 1087 := ⟨by decide +kernel, rfl⟩
theorem aL_law_1087 : At cL_law 1087 (.iload_n 3) 1 1088 := ⟨by decide +kernel, rfl⟩
theorem aL_law_1088 : At cL_law 1088 (.iconst 2) 1 1089 := ⟨by decide +kernel, rfl⟩
theorem aL_law_1089 : At cL_law 1089 (.iadd) 1 1090 := ⟨by decide +kernel, rfl⟩
theorem aL_law_1090 : At cL_law 1090 (.iaload) 1 1091 := ⟨by decide +kernel, rfl⟩
theorem aL_law_1091 : At cL_law 1091 (.invokevirtual 147) 3 1094 := ⟨by decide +kernel, rfl⟩
theorem aL_law_1094 : At cL_law 1094 (.aload_n 2) 1 1095 := ⟨by decide +kernel, rfl⟩
theorem aL_law_1095 : At cL_law 1095 (.aload_n 0) 1 1096 := ⟨by decide +kernel, rfl⟩
theorem aL_law_1096 : At cL_law 1096 (.iload_n 3) 1 1097 := ⟨by decide +kernel, rfl⟩
theorem aL_law_1097 : At cL_law 1097 (.iconst 1) 1 1098 := ⟨by decide +kernel, rfl⟩
theorem aL_law_1098 : At cL_law 1098 (.iadd) 1 1099 := ⟨by decide +kernel, rfl⟩
theorem aL_law_1099 : At cL_law 1099 (.iaload) 1 1100 := ⟨by decide +kernel, rfl⟩
theorem aL_law_1100 : At cL_law 1100 (.aload_n 0) 1 1101 := ⟨by decide +kernel, rfl⟩
theorem aL_law_1101 : At cL_law 1101 (.iload_n 3) 1 1102 := ⟨by decide +kernel, rfl⟩
theorem aL_law_1102 : At cL_law 1102 (.iconst 2) 1 1103 := ⟨by decide +kernel, rfl⟩
theorem aL_law_1103 : At cL_law 1103 (.iadd) 1 1104 := ⟨by decide +kernel, rfl⟩
theorem aL_law_1104 : At cL_law 1104 (.iaload) 1 1105 := ⟨by decide +kernel, rfl⟩
theorem aL_law_1105 : At cL_law 1105 (.invokevirtual 150) 3 1108 := ⟨by decide +kernel, rfl⟩
theorem aL_law_1108 : At cL_law 1108 (.if_icmp .eq 135) 3 1111 := ⟨by decide +kernel, rfl⟩
theorem aL_law_1111 : At cL_law 1111 (.iconst 0) 1 1112 := ⟨by decide +kernel, rfl⟩
theorem aL_law_1112 : At cL_law 1112 (.ireturn) 1 1113 := ⟨by decide +kernel, rfl⟩
theorem aL_law_1113 : At cL_law 1113 (.aload_n 1) 1 1114 := ⟨by decide +kernel, rfl⟩
theorem aL_law_1114 : At cL_law 1114 (.aload_n 0) 1 1115 := ⟨by decide +kernel, rfl⟩
theorem aL_law_1115 : At cL_law 1115 (.iload_n 3) 1 1116 := ⟨by decide +kernel, rfl⟩
theorem aL_law_1116 : At cL_law 1116 (.iconst 1) 1 1117 := ⟨by decide +kernel, rfl⟩
theorem aL_law_1117 : At cL_law 1117 (.iadd) 1 1118 := ⟨by decide +kernel, rfl⟩
theorem aL_law_1118 : At cL_law 1118 (.iaload) 1 1119 := ⟨by decide +kernel, rfl⟩
theorem aL_law_1119 : At cL_law 1119 (.invokevirtual 151) 3 1122 := ⟨by decide +kernel, rfl⟩
theorem aL_law_1122 : At cL_law 1122 (.aload_n 2) 1 1123 := ⟨by decide +kernel, rfl⟩
theorem aL_law_1123 : At cL_law 1123 (.aload_n 0) 1 1124 := ⟨by decide +kernel, rfl⟩
theorem aL_law_1124 : At cL_law 1124 (.iload_n 3) 1 1125 := ⟨by decide +kernel, rfl⟩
theorem aL_law_1125 : At cL_law 1125 (.iconst 1) 1 1126 := ⟨by decide +kernel, rfl⟩
theorem aL_law_1126 : At cL_law 1126 (.iadd) 1 1127 := ⟨by decide +kernel, rfl⟩
theorem aL_law_1127 : At cL_law 1127 (.iaload) 1 1128 := ⟨by decide +kernel, rfl⟩
theorem aL_law_1128 : At cL_law 1128 (.invokevirtual 155) 3 1131 := ⟨by decide +kernel, rfl⟩
theorem aL_law_1131 : At cL_law 1131 (.lcmp) 1 1132 := ⟨by decide +kernel, rfl⟩
theorem aL_law_1132 : At cL_law 1132 (.ifCond .eq 111) 3 1135 := ⟨by decide +kernel, rfl⟩
theorem aL_law_1135 : At cL_law 1135 (.iconst 0) 1 1136 := ⟨by decide +kernel, rfl⟩
theorem aL_law_1136 : At cL_law 1136 (.ireturn) 1 1137 := ⟨by decide +kernel, rfl⟩
theorem aL_law_1137 : At cL_law 1137 (.aload_n 1) 1 1138 := ⟨by decide +kernel, rfl⟩
theorem aL_law_1138 : At cL_law 1138 (.aload_n 0) 1 1139 := ⟨by decide +kernel, rfl⟩
theorem aL_law_1139 : At cL_law 1139 (.iload_n 3) 1 1140 := ⟨by decide +kernel, rfl⟩
theorem aL_law_1140 : At cL_law 1140 (.iconst 1) 1 1141 := ⟨by decide +kernel, rfl⟩
theorem aL_law_1141 : At cL_law 1141 (.iadd) 1 1142 := ⟨by decide +kernel, rfl⟩
theorem aL_law_1142 : At cL_law 1142 (.iaload) 1 1143 := ⟨by decide +kernel, rfl⟩
theorem aL_law_1143 : At cL_law 1143 (.invokevirtual 156) 3 1146 := ⟨by decide +kernel, rfl⟩
theorem aL_law_1146 : At cL_law 1146 (.aload_n 2) 1 1147 := ⟨by decide +kernel, rfl⟩
theorem aL_law_1147 : At cL_law 1147 (.aload_n 0) 1 1148 := ⟨by decide +kernel, rfl⟩
theorem aL_law_1148 : At cL_law 1148 (.iload_n 3) 1 1149 := ⟨by decide +kernel, rfl⟩
theorem aL_law_1149 : At cL_law 1149 (.iconst 1) 1 1150 := ⟨by decide +kernel, rfl⟩
theorem aL_law_1150 : At cL_law 1150 (.iadd) 1 1151 := ⟨by decide +kernel, rfl⟩
theorem aL_law_1151 : At cL_law 1151 (.iaload) 1 1152 := ⟨by decide +kernel, rfl⟩
theorem aL_law_1152 : At cL_law 1152 (.invokevirtual 159) 3 1155 := ⟨by decide +kernel, rfl⟩
theorem aL_law_1155 : At cL_law 1155 (.if_icmp .eq 88) 3 1158 := ⟨by decide +kernel, rfl⟩
theorem aL_law_1158 : At cL_law 1158 (.iconst 0) 1 1159 := ⟨by decide +kernel, rfl⟩
theorem aL_law_1159 : At cL_law 1159 (.ireturn) 1 1160 := ⟨by decide +kernel, rfl⟩
theorem aL_law_1160 : At cL_law 1160 (.aload_n 1) 1 1161 := ⟨by decide +kernel, rfl⟩
theorem aL_law_1161 : At cL_law 1161 (.aload_n 0) 1 1162 := ⟨by decide +kernel, rfl⟩
theorem aL_law_1162 : At cL_law 1162 (.iload_n 3) 1 1163 := ⟨by decide +kernel, rfl⟩
theorem aL_law_1163 : At cL_law 1163 (.iconst 1) 1 1164 := ⟨by decide +kernel, rfl⟩
theorem aL_law_1164 : At cL_law 1164 (.iadd) 1 1165 := ⟨by decide +kernel, rfl⟩
theorem aL_law_1165 : At cL_law 1165 (.iaload) 1 1166 := ⟨by decide +kernel, rfl⟩
theorem aL_law_1166 : At cL_law 1166 (.invokevirtual 160) 3 1169 := ⟨by decide +kernel, rfl⟩
theorem aL_law_1169 : At cL_law 1169 (.aload_n 2) 1 1170 := ⟨by decide +kernel, rfl⟩
theorem aL_law_1170 : At cL_law 1170 (.aload_n 0) 1 1171 := ⟨by decide +kernel, rfl⟩
theorem aL_law_1171 : At cL_law 1171 (.iload_n 3) 1 1172 := ⟨by decide +kernel, rfl⟩
theorem aL_law_1172 : At cL_law 1172 (.iconst 1) 1 1173 := ⟨by decide +kernel, rfl⟩
theorem aL_law_1173 : At cL_law 1173 (.iadd) 1 1174 := ⟨by decide +kernel, rfl⟩
theorem aL_law_1174 : At cL_law 1174 (.iaload) 1 1175 := ⟨by decide +kernel, rfl⟩
theorem aL_law_1175 : At cL_law 1175 (.invokevirtual 163) 3 1178 := ⟨by decide +kernel, rfl⟩
theorem aL_law_1178 : At cL_law 1178 (.if_icmp .eq 65) 3 1181 := ⟨by decide +kernel, rfl⟩
theorem aL_law_1181 : At cL_law 1181 (.iconst 0) 1 1182 := ⟨by decide +kernel, rfl⟩
theorem aL_law_1182 : At cL_law 1182 (.ireturn) 1 1183 := ⟨by decide +kernel, rfl⟩
theorem aL_law_1183 : At cL_law 1183 (.aload_n 1) 1 1184 := ⟨by decide +kernel, rfl⟩
theorem aL_law_1184 : At cL_law 1184 (.aload_n 0) 1 1185 := ⟨by decide +kernel, rfl⟩
theorem aL_law_1185 : At cL_law 1185 (.iload_n 3) 1 1186 := ⟨by decide +kernel, rfl⟩
theorem aL_law_1186 : At cL_law 1186 (.iconst 1) 1 1187 := ⟨by decide +kernel, rfl⟩
theorem aL_law_1187 : At cL_law 1187 (.iadd) 1 1188 := ⟨by decide +kernel, rfl⟩
theorem aL_law_1188 : At cL_law 1188 (.iaload) 1 1189 := ⟨by decide +kernel, rfl⟩
theorem aL_law_1189 : At cL_law 1189 (.invokevirtual 164) 3 1192 := ⟨by decide +kernel, rfl⟩
theorem aL_law_1192 : At cL_law 1192 (.aload_n 2) 1 1193 := ⟨by decide +kernel, rfl⟩
theorem aL_law_1193 : At cL_law 1193 (.aload_n 0) 1 1194 := ⟨by decide +kernel, rfl⟩
theorem aL_law_1194 : At cL_law 1194 (.iload_n 3) 1 1195 := ⟨by decide +kernel, rfl⟩
theorem aL_law_1195 : At cL_law 1195 (.iconst 1) 1 1196 := ⟨by decide +kernel, rfl⟩
theorem aL_law_1196 : At cL_law 1196 (.iadd) 1 1197 := ⟨by decide +kernel, rfl⟩
theorem aL_law_1197 : At cL_law 1197 (.iaload) 1 1198 := ⟨by decide +kernel, rfl⟩
theorem aL_law_1198 : At cL_law 1198 (.invokevirtual 167) 3 1201 := ⟨by decide +kernel, rfl⟩
theorem aL_law_1201 : At cL_law 1201 (.if_icmp .eq 42) 3 1204 := ⟨by decide +kernel, rfl⟩
theorem aL_law_1204 : At cL_law 1204 (.iconst 0) 1 1205 := ⟨by decide +kernel, rfl⟩
theorem aL_law_1205 : At cL_law 1205 (.ireturn) 1 1206 := ⟨by decide +kernel, rfl⟩
theorem aL_law_1206 : At cL_law 1206 (.aload_n 1) 1 1207 := ⟨by decide +kernel, rfl⟩
theorem aL_law_1207 : At cL_law 1207 (.aload_n 0) 1 1208 := ⟨by decide +kernel, rfl⟩
theorem aL_law_1208 : At cL_law 1208 (.iload_n 3) 1 1209 := ⟨by decide +kernel, rfl⟩
theorem aL_law_1209 : At cL_law 1209 (.iconst 1) 1 1210 := ⟨by decide +kernel, rfl⟩
theorem aL_law_1210 : At cL_law 1210 (.iadd) 1 1211 := ⟨by decide +kernel, rfl⟩
theorem aL_law_1211 : At cL_law 1211 (.iaload) 1 1212 := ⟨by decide +kernel, rfl⟩
theorem aL_law_1212 : At cL_law 1212 (.invokevirtual 168) 3 1215 := ⟨by decide +kernel, rfl⟩
theorem aL_law_1215 : At cL_law 1215 (.aload_n 2) 1 1216 := ⟨by decide +kernel, rfl⟩
theorem aL_law_1216 : At cL_law 1216 (.aload_n 0) 1 1217 := ⟨by decide +kernel, rfl⟩
theorem aL_law_1217 : At cL_law 1217 (.iload_n 3) 1 1218 := ⟨by decide +kernel, rfl⟩
theorem aL_law_1218 : At cL_law 1218 (.iconst 1) 1 1219 := ⟨by decide +kernel, rfl⟩
theorem aL_law_1219 : At cL_law 1219 (.iadd) 1 1220 := ⟨by decide +kernel, rfl⟩
theorem aL_law_1220 : At cL_law 1220 (.iaload) 1 1221 := ⟨by decide +kernel, rfl⟩
theorem aL_law_1221 : At cL_law 1221 (.invokevirtual 171) 3 1224 := ⟨by decide +kernel, rfl⟩
theorem aL_law_1224 : At cL_law 1224 (.if_icmp .eq 19) 3 1227 := ⟨by decide +kernel, rfl⟩
theorem aL_law_1227 : At cL_law 1227 (.iconst 0) 1 1228 := ⟨by decide +kernel, rfl⟩
theorem aL_law_1228 : At cL_law 1228 (.ireturn) 1 1229 := ⟨by decide +kernel, rfl⟩
theorem aL_law_1229 : At cL_law 1229 (.aload_n 1) 1 1230 := ⟨by decide +kernel, rfl⟩
theorem aL_law_1230 : At cL_law 1230 (.invokevirtual 172) 3 1233 := ⟨by decide +kernel, rfl⟩
theorem aL_law_1233 : At cL_law 1233 (.aload_n 2) 1 1234 := ⟨by decide +kernel, rfl⟩
theorem aL_law_1234 : At cL_law 1234 (.invokevirtual 176) 3 1237 := ⟨by decide +kernel, rfl⟩
theorem aL_law_1237 : At cL_law 1237 (.lcmp) 1 1238 := ⟨by decide +kernel, rfl⟩
theorem aL_law_1238 : At cL_law 1238 (.ifCond .eq 5) 3 1241 := ⟨by decide +kernel, rfl⟩
theorem aL_law_1241 : At cL_law 1241 (.iconst 0) 1 1242 := ⟨by decide +kernel, rfl⟩
theorem aL_law_1242 : At cL_law 1242 (.ireturn) 1 1243 := ⟨by decide +kernel, rfl⟩
theorem aL_law_1243 : At cL_law 1243 (.iinc 3 6) 3 1246 := ⟨by decide +kernel, rfl⟩
theorem aL_law_1246 : At cL_law 1246 (.goto (-1228)) 3 1249 := ⟨by decide +kernel, rfl⟩
theorem aL_law_1249 : At cL_law 1249 (.iconst 1) 1 1250 := ⟨by decide +kernel, rfl⟩
theorem aL_law_1250 : At cL_law 1250 (.ireturn) 1 1251 := ⟨by decide +kernel, rfl⟩
set_option maxHeartbeats 4000000 in
set_option maxRecDepth 20000 in
def lL_law_18  : Nat → Int32 → Mem → Option ((Int32 × Mem) ⊕ (Int32 × Mem))
  | 0, _, _ => none
  | n + 1, x3, σ =>
  if ((σ.1 24 1 0) - 6) < x3 then
  (some (.inl (x3, σ)))
  else
  (ck (inS x3 (σ.1 24 1 0)) <|
  if ((σ.1 24 0 (x3 : Int32).toNatClampNeg) &&& 63) = 0 then
  (bnd (f10_village 0 σ) fun w2 =>
  bnd (f11_village 0 w2.2) fun w4 =>
  if w2.1 = w4.1 then
  (lL_law_18  n (x3 + 6) w4.2)
  else
  (some (.inr (0, w4.2))))
  else if ((σ.1 24 0 (x3 : Int32).toNatClampNeg) &&& 63) = 1 then
  (ck (inS (x3 + 1) (σ.1 24 1 0)) <|
  ck (inS (x3 + 2) (σ.1 24 1 0)) <|
  ck (inS (x3 + 3) (σ.1 24 1 0)) <|
  bnd (f10_storm 0 (σ.1 24 0 ((x3 + 1) : Int32).toNatClampNeg) (σ.1 24 0 ((x3 + 2) : Int32).toNatClampNeg) (σ.1 24 0 ((x3 + 3) : Int32).toNatClampNeg) σ) fun w10 =>
  ck (inS (x3 + 1) (w10.2.1 24 1 0)) <|
  ck (inS (x3 + 2) (w10.2.1 24 1 0)) <|
  ck (inS (x3 + 3) (w10.2.1 24 1 0)) <|
  bnd (f11_storm 0 (w10.2.1 24 0 ((x3 + 1) : Int32).toNatClampNeg) (w10.2.1 24 0 ((x3 + 2) : Int32).toNatClampNeg) (w10.2.1 24 0 ((x3 + 3) : Int32).toNatClampNeg) w10.2) fun w15 =>
  if w10.1 = w15.1 then
  (lL_law_18  n (x3 + 6) w15.2)
  else
  (some (.inr (0, w15.2))))
  else if ((σ.1 24 0 (x3 : Int32).toNatClampNeg) &&& 63) = 2 then
  (ck (inS (x3 + 1) (σ.1 24 1 0)) <|
  ck (inS (x3 + 2) (σ.1 24 1 0)) <|
  ck (inS (x3 + 3) (σ.1 24 1 0)) <|
  bnd (f10_thing 0 (σ.1 24 0 ((x3 + 1) : Int32).toNatClampNeg) (σ.1 24 0 ((x3 + 2) : Int32).toNatClampNeg) (σ.1 24 0 ((x3 + 3) : Int32).toNatClampNeg) σ) fun w21 =>
  ck (inS (x3 + 1) (w21.2.1 24 1 0)) <|
  ck (inS (x3 + 2) (w21.2.1 24 1 0)) <|
  ck (inS (x3 + 3) (w21.2.1 24 1 0)) <|
  bnd (f11_thing 0 (w21.2.1 24 0 ((x3 + 1) : Int32).toNatClampNeg) (w21.2.1 24 0 ((x3 + 2) : Int32).toNatClampNeg) (w21.2.1 24 0 ((x3 + 3) : Int32).toNatClampNeg) w21.2) fun w26 =>
  if w21.1 = w26.1 then
  (lL_law_18  n (x3 + 6) w26.2)
  else
  (some (.inr (0, w26.2))))
  else if ((σ.1 24 0 (x3 : Int32).toNatClampNeg) &&& 63) = 3 then
  (ck (inS (x3 + 1) (σ.1 24 1 0)) <|
  bnd (f10_body 0 (σ.1 24 0 ((x3 + 1) : Int32).toNatClampNeg) σ) fun w30 =>
  ck (inS (x3 + 1) (w30.2.1 24 1 0)) <|
  bnd (f11_body 0 (w30.2.1 24 0 ((x3 + 1) : Int32).toNatClampNeg) w30.2) fun w33 =>
  if w30.1 = w33.1 then
  (lL_law_18  n (x3 + 6) w33.2)
  else
  (some (.inr (0, w33.2))))
  else if ((σ.1 24 0 (x3 : Int32).toNatClampNeg) &&& 63) = 4 then
  (ck (inS (x3 + 1) (σ.1 24 1 0)) <|
  bnd (f10_type 0 (σ.1 24 0 ((x3 + 1) : Int32).toNatClampNeg) σ) fun w37 =>
  ck (inS (x3 + 1) (w37.2.1 24 1 0)) <|
  bnd (f11_type 0 (w37.2.1 24 0 ((x3 + 1) : Int32).toNatClampNeg) w37.2) fun w40 =>
  if w37.1 = w40.1 then
  (lL_law_18  n (x3 + 6) w40.2)
  else
  (some (.inr (0, w40.2))))
  else if ((σ.1 24 0 (x3 : Int32).toNatClampNeg) &&& 63) = 5 then
  (lt (f10_clear 0 σ) fun w43 =>
  lt (f11_clear 0 w43.2) fun w45 =>
  if w43.1 = w45.1 then
  (lL_law_18  n (x3 + 6) w45.2)
  else
  (some (.inr (0, w45.2))))
  else if ((σ.1 24 0 (x3 : Int32).toNatClampNeg) &&& 63) = 6 then
  (bnd (f10_read 0 σ) fun w48 =>
  bnd (f11_read 0 w48.2) fun w50 =>
  if w48.1 = w50.1 then
  (lL_law_18  n (x3 + 6) w50.2)
  else
  (some (.inr (0, w50.2))))
  else if ((σ.1 24 0 (x3 : Int32).toNatClampNeg) &&& 63) = 7 then
  (ck (inS (x3 + 1) (σ.1 24 1 0)) <|
  bnd (f10_summers 0 (σ.1 24 0 ((x3 + 1) : Int32).toNatClampNeg) σ) fun w54 =>
  ck (inS (x3 + 1) (w54.2.1 24 1 0)) <|
  bnd (f11_summers 0 (w54.2.1 24 0 ((x3 + 1) : Int32).toNatClampNeg) w54.2) fun w57 =>
  if w54.1 = w57.1 then
  (lL_law_18  n (x3 + 6) w57.2)
  else
  (some (.inr (0, w57.2))))
  else if ((σ.1 24 0 (x3 : Int32).toNatClampNeg) &&& 63) = 8 then
  (ck (inS (x3 + 1) (σ.1 24 1 0)) <|
  bnd (f10_takes 0 (σ.1 24 0 ((x3 + 1) : Int32).toNatClampNeg) σ) fun w61 =>
  ck (inS (x3 + 1) (w61.2.1 24 1 0)) <|
  bnd (f11_takes 0 (w61.2.1 24 0 ((x3 + 1) : Int32).toNatClampNeg) w61.2) fun w64 =>
  if w61.1 = w64.1 then
  (lL_law_18  n (x3 + 6) w64.2)
  else
  (some (.inr (0, w64.2))))
  else if ((σ.1 24 0 (x3 : Int32).toNatClampNeg) &&& 63) = 9 then
  (bnd (f10_undo 0 σ) fun w67 =>
  bnd (f11_undo 0 w67.2) fun w69 =>
  if w67.1 = w69.1 then
  (lL_law_18  n (x3 + 6) w69.2)
  else
  (some (.inr (0, w69.2))))
  else if ((σ.1 24 0 (x3 : Int32).toNatClampNeg) &&& 63) = 10 then
  (ck (inS (x3 + 1) (σ.1 24 1 0)) <|
  ck (inS (x3 + 2) (σ.1 24 1 0)) <|
  bnd (f10_of 0 (σ.1 24 0 ((x3 + 1) : Int32).toNatClampNeg) (σ.1 24 0 ((x3 + 2) : Int32).toNatClampNeg) σ) fun w74 =>
  ck (inS (x3 + 1) (w74.2.1 24 1 0)) <|
  ck (inS (x3 + 2) (w74.2.1 24 1 0)) <|
  bnd (f11_of 0 (w74.2.1 24 0 ((x3 + 1) : Int32).toNatClampNeg) (w74.2.1 24 0 ((x3 + 2) : Int32).toNatClampNeg) w74.2) fun w78 =>
  if w74.1 = w78.1 then
  (lL_law_18  n (x3 + 6) w78.2)
  else
  (some (.inr (0, w78.2))))
  else if ((σ.1 24 0 (x3 : Int32).toNatClampNeg) &&& 63) = 11 then
  (ck (inS (x3 + 1) (σ.1 24 1 0)) <|
  ck (inS (x3 + 2) (σ.1 24 1 0)) <|
  bnd (f10_about 0 (σ.1 24 0 ((x3 + 1) : Int32).toNatClampNeg) (σ.1 24 0 ((x3 + 2) : Int32).toNatClampNeg) σ) fun w83 =>
  ck (inS (x3 + 1) (w83.2.1 24 1 0)) <|
  ck (inS (x3 + 2) (w83.2.1 24 1 0)) <|
  bnd (f11_about 0 (w83.2.1 24 0 ((x3 + 1) : Int32).toNatClampNeg) (w83.2.1 24 0 ((x3 + 2) : Int32).toNatClampNeg) w83.2) fun w87 =>
  if w83.1 = w87.1 then
  (lL_law_18  n (x3 + 6) w87.2)
  else
  (some (.inr (0, w87.2))))
  else if ((σ.1 24 0 (x3 : Int32).toNatClampNeg) &&& 63) = 12 then
  (ck (inS (x3 + 1) (σ.1 24 1 0)) <|
  ck (inS (x3 + 2) (σ.1 24 1 0)) <|
  bnd (f10_weather 0 (σ.1 24 0 ((x3 + 1) : Int32).toNatClampNeg) (σ.1 24 0 ((x3 + 2) : Int32).toNatClampNeg) σ) fun w92 =>
  ck (inS (x3 + 1) (w92.2.1 24 1 0)) <|
  ck (inS (x3 + 2) (w92.2.1 24 1 0)) <|
  bnd (f11_weather 0 (w92.2.1 24 0 ((x3 + 1) : Int32).toNatClampNeg) (w92.2.1 24 0 ((x3 + 2) : Int32).toNatClampNeg) w92.2) fun w96 =>
  if w92.1 = w96.1 then
  (lL_law_18  n (x3 + 6) w96.2)
  else
  (some (.inr (0, w96.2))))
  else if ((σ.1 24 0 (x3 : Int32).toNatClampNeg) &&& 63) = 13 then
  (ck (inS (x3 + 1) (σ.1 24 1 0)) <|
  ck (inS (x3 + 2) (σ.1 24 1 0)) <|
  bnd (f10_draws 0 (σ.1 24 0 ((x3 + 1) : Int32).toNatClampNeg) (σ.1 24 0 ((x3 + 2) : Int32).toNatClampNeg) σ) fun w101 =>
  ck (inS (x3 + 1) (w101.2.1 24 1 0)) <|
  ck (inS (x3 + 2) (w101.2.1 24 1 0)) <|
  bnd (f11_draws 0 (w101.2.1 24 0 ((x3 + 1) : Int32).toNatClampNeg) (w101.2.1 24 0 ((x3 + 2) : Int32).toNatClampNeg) w101.2) fun w105 =>
  if w101.1 = w105.1 then
  (lL_law_18  n (x3 + 6) w105.2)
  else
  (some (.inr (0, w105.2))))
  else if ((σ.1 24 0 (x3 : Int32).toNatClampNeg) &&& 63) = 14 then
  (ck (inS (x3 + 1) (σ.1 24 1 0)) <|
  bnd (f10_struck 0 (σ.1 24 0 ((x3 + 1) : Int32).toNatClampNeg) σ) fun w109 =>
  ck (inS (x3 + 1) (w109.2.1 24 1 0)) <|
  bnd (f11_struck 0 (w109.2.1 24 0 ((x3 + 1) : Int32).toNatClampNeg) w109.2) fun w112 =>
  if w109.1 = w112.1 then
  (lL_law_18  n (x3 + 6) w112.2)
  else
  (some (.inr (0, w112.2))))
  else if ((σ.1 24 0 (x3 : Int32).toNatClampNeg) &&& 63) = 15 then
  (ck (inS (x3 + 1) (σ.1 24 1 0)) <|
  bnd (f10_then 0 (σ.1 24 0 ((x3 + 1) : Int32).toNatClampNeg) σ) fun w116 =>
  ck (inS (x3 + 1) (w116.2.1 24 1 0)) <|
  bnd (f11_then 0 (w116.2.1 24 0 ((x3 + 1) : Int32).toNatClampNeg) w116.2) fun w119 =>
  if w116.1 = w119.1 then
  (lL_law_18  n (x3 + 6) w119.2)
  else
  (some (.inr (0, w119.2))))
  else if ((σ.1 24 0 (x3 : Int32).toNatClampNeg) &&& 63) = 16 then
  (ck (inS (x3 + 1) (σ.1 24 1 0)) <|
  bnd (f10_when 0 (σ.1 24 0 ((x3 + 1) : Int32).toNatClampNeg) σ) fun w123 =>
  ck (inS (x3 + 1) (w123.2.1 24 1 0)) <|
  bnd (f11_when 0 (w123.2.1 24 0 ((x3 + 1) : Int32).toNatClampNeg) w123.2) fun w126 =>
  if w123.1 = w126.1 then
  (lL_law_18  n (x3 + 6) w126.2)
  else
  (some (.inr (0, w126.2))))
  else if ((σ.1 24 0 (x3 : Int32).toNatClampNeg) &&& 63) = 17 then
  (bnd (f10_whence 0 σ) fun w129 =>
  bnd (f11_whence 0 σ) fun w131 =>
  if w129 = w131 then
  (lL_law_18  n (x3 + 6) σ)
  else
  (some (.inr (0, σ))))
  else if ((σ.1 24 0 (x3 : Int32).toNatClampNeg) &&& 63) = 18 then
  (ck (inS (x3 + 1) (σ.1 24 1 0)) <|
  bnd (f10_lead 0 (σ.1 24 0 ((x3 + 1) : Int32).toNatClampNeg) σ) fun w135 =>
  ck (inS (x3 + 1) (w135.2.1 24 1 0)) <|
  bnd (f11_lead 0 (w135.2.1 24 0 ((x3 + 1) : Int32).toNatClampNeg) w135.2) fun w138 =>
  if w135.1 = w138.1 then
  (lL_law_18  n (x3 + 6) w138.2)
  else
  (some (.inr (0, w138.2))))
  else if ((σ.1 24 0 (x3 : Int32).toNatClampNeg) &&& 63) = 19 then
  (bnd (f10_spare 0 σ) fun w141 =>
  bnd (f11_spare 0 w141.2) fun w143 =>
  if w141.1 = w143 then
  (lL_law_18  n (x3 + 6) w141.2)
  else
  (some (.inr (0, w141.2))))
  else if ((σ.1 24 0 (x3 : Int32).toNatClampNeg) &&& 63) = 20 then
  (ck (inS (x3 + 1) (σ.1 24 1 0)) <|
  ck (inS (x3 + 2) (σ.1 24 1 0)) <|
  bnd (f10_order 0 (σ.1 24 0 ((x3 + 1) : Int32).toNatClampNeg) (σ.1 24 0 ((x3 + 2) : Int32).toNatClampNeg) σ) fun w148 =>
  ck (inS (x3 + 1) (w148.2.1 24 1 0)) <|
  ck (inS (x3 + 2) (w148.2.1 24 1 0)) <|
  bnd (f11_order 0 (w148.2.1 24 0 ((x3 + 1) : Int32).toNatClampNeg) (w148.2.1 24 0 ((x3 + 2) : Int32).toNatClampNeg) w148.2) fun w152 =>
  if w148.1 = w152.1 then
  (lL_law_18  n (x3 + 6) w152.2)
  else
  (some (.inr (0, w152.2))))
  else if ((σ.1 24 0 (x3 : Int32).toNatClampNeg) &&& 63) = 21 then
  (ck (inS (x3 + 1) (σ.1 24 1 0)) <|
  ck (inS (x3 + 2) (σ.1 24 1 0)) <|
  bnd (f10_seen 0 (σ.1 24 0 ((x3 + 1) : Int32).toNatClampNeg) (σ.1 24 0 ((x3 + 2) : Int32).toNatClampNeg) σ) fun w157 =>
  ck (inS (x3 + 1) (w157.2.1 24 1 0)) <|
  ck (inS (x3 + 2) (w157.2.1 24 1 0)) <|
  bnd (f11_seen 0 (w157.2.1 24 0 ((x3 + 1) : Int32).toNatClampNeg) (w157.2.1 24 0 ((x3 + 2) : Int32).toNatClampNeg) w157.2) fun w161 =>
  if w157.1 = w161.1 then
  (lL_law_18  n (x3 + 6) w161.2)
  else
  (some (.inr (0, w161.2))))
  else if ((σ.1 24 0 (x3 : Int32).toNatClampNeg) &&& 63) = 22 then
  (ck (inS (x3 + 1) (σ.1 24 1 0)) <|
  ck (inS (x3 + 2) (σ.1 24 1 0)) <|
  bnd (f10_tall 0 (σ.1 24 0 ((x3 + 1) : Int32).toNatClampNeg) (σ.1 24 0 ((x3 + 2) : Int32).toNatClampNeg) σ) fun w166 =>
  ck (inS (x3 + 1) (w166.2.1 24 1 0)) <|
  ck (inS (x3 + 2) (w166.2.1 24 1 0)) <|
  bnd (f11_tall 0 (w166.2.1 24 0 ((x3 + 1) : Int32).toNatClampNeg) (w166.2.1 24 0 ((x3 + 2) : Int32).toNatClampNeg) w166.2) fun w170 =>
  if w166.1 = w170.1 then
  (lL_law_18  n (x3 + 6) w170.2)
  else
  (some (.inr (0, w170.2))))
  else if ((σ.1 24 0 (x3 : Int32).toNatClampNeg) &&& 63) = 23 then
  (ck (inS (x3 + 1) (σ.1 24 1 0)) <|
  ck (inS (x3 + 2) (σ.1 24 1 0)) <|
  ck (inS (x3 + 3) (σ.1 24 1 0)) <|
  ck (inS (x3 + 4) (σ.1 24 1 0)) <|
  ck (inS (x3 + 5) (σ.1 24 1 0)) <|
  bnd (f10_note 0 (σ.1 24 0 ((x3 + 1) : Int32).toNatClampNeg) (σ.1 24 0 ((x3 + 2) : Int32).toNatClampNeg) (σ.1 24 0 ((x3 + 3) : Int32).toNatClampNeg) (σ.1 24 0 ((x3 + 4) : Int32).toNatClampNeg) (σ.1 24 0 ((x3 + 5) : Int32).toNatClampNeg) σ) fun w178 =>
  ck (inS (x3 + 1) (w178.2.1 24 1 0)) <|
  ck (inS (x3 + 2) (w178.2.1 24 1 0)) <|
  ck (inS (x3 + 3) (w178.2.1 24 1 0)) <|
  ck (inS (x3 + 4) (w178.2.1 24 1 0)) <|
  ck (inS (x3 + 5) (w178.2.1 24 1 0)) <|
  bnd (f11_note 0 (w178.2.1 24 0 ((x3 + 1) : Int32).toNatClampNeg) (w178.2.1 24 0 ((x3 + 2) : Int32).toNatClampNeg) (w178.2.1 24 0 ((x3 + 3) : Int32).toNatClampNeg) (w178.2.1 24 0 ((x3 + 4) : Int32).toNatClampNeg) (w178.2.1 24 0 ((x3 + 5) : Int32).toNatClampNeg) w178.2) fun w185 =>
  if w178.1 = w185.1 then
  (lL_law_18  n (x3 + 6) w185.2)
  else
  (some (.inr (0, w185.2))))
  else if ((σ.1 24 0 (x3 : Int32).toNatClampNeg) &&& 63) = 24 then
  (ck (inS (x3 + 1) (σ.1 24 1 0)) <|
  ck (inS (x3 + 2) (σ.1 24 1 0)) <|
  ck (inS (x3 + 3) (σ.1 24 1 0)) <|
  ck (inS (x3 + 4) (σ.1 24 1 0)) <|
  bnd (f10_mark 0 (σ.1 24 0 ((x3 + 1) : Int32).toNatClampNeg) (σ.1 24 0 ((x3 + 2) : Int32).toNatClampNeg) (σ.1 24 0 ((x3 + 3) : Int32).toNatClampNeg) (σ.1 24 0 ((x3 + 4) : Int32).toNatClampNeg) σ) fun w192 =>
  ck (inS (x3 + 1) (w192.2.1 24 1 0)) <|
  ck (inS (x3 + 2) (w192.2.1 24 1 0)) <|
  ck (inS (x3 + 3) (w192.2.1 24 1 0)) <|
  ck (inS (x3 + 4) (w192.2.1 24 1 0)) <|
  bnd (f11_mark 0 (w192.2.1 24 0 ((x3 + 1) : Int32).toNatClampNeg) (w192.2.1 24 0 ((x3 + 2) : Int32).toNatClampNeg) (w192.2.1 24 0 ((x3 + 3) : Int32).toNatClampNeg) (w192.2.1 24 0 ((x3 + 4) : Int32).toNatClampNeg) w192.2) fun w198 =>
  if w192.1 = w198.1 then
  (lL_law_18  n (x3 + 6) w198.2)
  else
  (some (.inr (0, w198.2))))
  else if ((σ.1 24 0 (x3 : Int32).toNatClampNeg) &&& 63) = 25 then
  (ck (inS (x3 + 1) (σ.1 24 1 0)) <|
  lt (f10_forget 0 (σ.1 24 0 ((x3 + 1) : Int32).toNatClampNeg) σ) fun w202 =>
  ck (inS (x3 + 1) (w202.2.1 24 1 0)) <|
  bnd (f11_forget 0 (w202.2.1 24 0 ((x3 + 1) : Int32).toNatClampNeg) w202.2) fun w205 =>
  if w202.1 = w205.1 then
  (lL_law_18  n (x3 + 6) w205.2)
  else
  (some (.inr (0, w205.2))))
  else if ((σ.1 24 0 (x3 : Int32).toNatClampNeg) &&& 63) = 26 then
  (ck (inS (x3 + 1) (σ.1 24 1 0)) <|
  bnd (f10_is 0 (σ.1 24 0 ((x3 + 1) : Int32).toNatClampNeg) σ) fun w209 =>
  ck (inS (x3 + 1) (w209.2.1 24 1 0)) <|
  bnd (f11_is 0 (w209.2.1 24 0 ((x3 + 1) : Int32).toNatClampNeg) w209.2) fun w212 =>
  if w209.1 = w212.1 then
  (lL_law_18  n (x3 + 6) w212.2)
  else
  (some (.inr (0, w212.2))))
  else if ((σ.1 24 0 (x3 : Int32).toNatClampNeg) &&& 63) = 27 then
  (ck (inS (x3 + 1) (σ.1 24 1 0)) <|
  bnd (f10_look 0 (σ.1 24 0 ((x3 + 1) : Int32).toNatClampNeg) σ) fun w216 =>
  ck (inS (x3 + 1) (w216.2.1 24 1 0)) <|
  bnd (f11_look 0 (w216.2.1 24 0 ((x3 + 1) : Int32).toNatClampNeg) w216.2) fun w219 =>
  if w216.1 = w219.1 then
  (lL_law_18  n (x3 + 6) w219.2)
  else
  (some (.inr (0, w219.2))))
  else if ((σ.1 24 0 (x3 : Int32).toNatClampNeg) &&& 63) = 28 then
  (ck (inS (x3 + 1) (σ.1 24 1 0)) <|
  bnd (f10_kinds 0 (σ.1 24 0 ((x3 + 1) : Int32).toNatClampNeg) σ) fun w223 =>
  ck (inS (x3 + 1) (w223.2.1 24 1 0)) <|
  bnd (f11_kinds 0 (w223.2.1 24 0 ((x3 + 1) : Int32).toNatClampNeg) w223.2) fun w226 =>
  if w223.1 = w226.1 then
  (lL_law_18  n (x3 + 6) w226.2)
  else
  (some (.inr (0, w226.2))))
  else if ((σ.1 24 0 (x3 : Int32).toNatClampNeg) &&& 63) = 29 then
  (ck (inS (x3 + 1) (σ.1 24 1 0)) <|
  bnd (f10_ask 0 (σ.1 24 0 ((x3 + 1) : Int32).toNatClampNeg) σ) fun w230 =>
  ck (inS (x3 + 1) (w230.2.1 24 1 0)) <|
  bnd (f11_ask 0 (w230.2.1 24 0 ((x3 + 1) : Int32).toNatClampNeg) w230.2) fun w233 =>
  if w230.1 = w233.1 then
  (lL_law_18  n (x3 + 6) w233.2)
  else
  (some (.inr (0, w233.2))))
  else if ((σ.1 24 0 (x3 : Int32).toNatClampNeg) &&& 63) = 30 then
  (ck (inS (x3 + 1) (σ.1 24 1 0)) <|
  ck (inS (x3 + 2) (σ.1 24 1 0)) <|
  bnd (f10_sweep 0 (σ.1 24 0 ((x3 + 1) : Int32).toNatClampNeg) (σ.1 24 0 ((x3 + 2) : Int32).toNatClampNeg) σ) fun w238 =>
  ck (inS (x3 + 1) (w238.2.1 24 1 0)) <|
  ck (inS (x3 + 2) (w238.2.1 24 1 0)) <|
  bnd (f11_sweep 0 (w238.2.1 24 0 ((x3 + 1) : Int32).toNatClampNeg) (w238.2.1 24 0 ((x3 + 2) : Int32).toNatClampNeg) w238.2) fun w242 =>
  if w238.1 = w242.1 then
  (lL_law_18  n (x3 + 6) w242.2)
  else
  (some (.inr (0, w242.2))))
  else if ((σ.1 24 0 (x3 : Int32).toNatClampNeg) &&& 63) = 31 then
  (ck (inS (x3 + 1) (σ.1 24 1 0)) <|
  ck (inS (x3 + 2) (σ.1 24 1 0)) <|
  bnd (f10_falls 0 (σ.1 24 0 ((x3 + 1) : Int32).toNatClampNeg) (σ.1 24 0 ((x3 + 2) : Int32).toNatClampNeg) σ) fun w247 =>
  ck (inS (x3 + 1) (w247.2.1 24 1 0)) <|
  ck (inS (x3 + 2) (w247.2.1 24 1 0)) <|
  bnd (f11_falls 0 (w247.2.1 24 0 ((x3 + 1) : Int32).toNatClampNeg) (w247.2.1 24 0 ((x3 + 2) : Int32).toNatClampNeg) w247.2) fun w251 =>
  if w247.1 = w251.1 then
  (lL_law_18  n (x3 + 6) w251.2)
  else
  (some (.inr (0, w251.2))))
  else if ((σ.1 24 0 (x3 : Int32).toNatClampNeg) &&& 63) = 32 then
  (ck (inS (x3 + 1) (σ.1 24 1 0)) <|
  ck (inS (x3 + 2) (σ.1 24 1 0)) <|
  bnd (f10_septembers 0 (σ.1 24 0 ((x3 + 1) : Int32).toNatClampNeg) (σ.1 24 0 ((x3 + 2) : Int32).toNatClampNeg) σ) fun w256 =>
  ck (inS (x3 + 1) (w256.2.1 24 1 0)) <|
  ck (inS (x3 + 2) (w256.2.1 24 1 0)) <|
  bnd (f11_septembers 0 (w256.2.1 24 0 ((x3 + 1) : Int32).toNatClampNeg) (w256.2.1 24 0 ((x3 + 2) : Int32).toNatClampNeg) w256.2) fun w260 =>
  if w256.1 = w260.1 then
  (lL_law_18  n (x3 + 6) w260.2)
  else
  (some (.inr (0, w260.2))))
  else if ((σ.1 24 0 (x3 : Int32).toNatClampNeg) &&& 63) = 33 then
  (ck (inS (x3 + 1) (σ.1 24 1 0)) <|
  lt (f10_part 0 (σ.1 24 0 ((x3 + 1) : Int32).toNatClampNeg) σ) fun w264 =>
  ck (inS (x3 + 1) (w264.2.1 24 1 0)) <|
  lt (f11_part 0 (w264.2.1 24 0 ((x3 + 1) : Int32).toNatClampNeg) w264.2) fun w267 =>
  if (lg_cmp w264.1 w267.1) = 0 then
  (lL_law_18  n (x3 + 6) w267.2)
  else
  (some (.inr (0, w267.2))))
  else if ((σ.1 24 0 (x3 : Int32).toNatClampNeg) &&& 63) = 34 then
  (ck (inS (x3 + 1) (σ.1 24 1 0)) <|
  bnd (f10_image 0 (σ.1 24 0 ((x3 + 1) : Int32).toNatClampNeg) σ) fun w271 =>
  ck (inS (x3 + 1) (w271.2.1 24 1 0)) <|
  bnd (f11_image 0 (w271.2.1 24 0 ((x3 + 1) : Int32).toNatClampNeg) w271.2) fun w274 =>
  if w271.1 = w274.1 then
  (lL_law_18  n (x3 + 6) w274.2)
  else
  (some (.inr (0, w274.2))))
  else if ((σ.1 24 0 (x3 : Int32).toNatClampNeg) &&& 63) = 35 then
  (ck (inS (x3 + 1) (σ.1 24 1 0)) <|
  bnd (f10_from 0 (σ.1 24 0 ((x3 + 1) : Int32).toNatClampNeg) σ) fun w278 =>
  ck (inS (x3 + 1) (w278.2.1 24 1 0)) <|
  bnd (f11_from 0 (w278.2.1 24 0 ((x3 + 1) : Int32).toNatClampNeg) w278.2) fun w281 =>
  if w278.1 = w281.1 then
  (lL_law_18  n (x3 + 6) w281.2)
  else
  (some (.inr (0, w281.2))))
  else if ((σ.1 24 0 (x3 : Int32).toNatClampNeg) &&& 63) = 36 then
  (ck (inS (x3 + 1) (σ.1 24 1 0)) <|
  lt (f10_status 0 (σ.1 24 0 ((x3 + 1) : Int32).toNatClampNeg) σ) fun w285 =>
  ck (inS (x3 + 1) (w285.2.1 24 1 0)) <|
  bnd (f11_status 0 (w285.2.1 24 0 ((x3 + 1) : Int32).toNatClampNeg) w285.2) fun w288 =>
  if w285.1 = w288.1 then
  (lL_law_18  n (x3 + 6) w288.2)
  else
  (some (.inr (0, w288.2))))
  else if ((σ.1 24 0 (x3 : Int32).toNatClampNeg) &&& 63) = 37 then
  (ck (inS (x3 + 1) (σ.1 24 1 0)) <|
  lt (f10_count 0 (σ.1 24 0 ((x3 + 1) : Int32).toNatClampNeg) σ) fun w292 =>
  ck (inS (x3 + 1) (w292.2.1 24 1 0)) <|
  bnd (f11_count 0 (w292.2.1 24 0 ((x3 + 1) : Int32).toNatClampNeg) w292.2) fun w295 =>
  if w292.1 = w295.1 then
  (lL_law_18  n (x3 + 6) w295.2)
  else
  (some (.inr (0, w295.2))))
  else if ((σ.1 24 0 (x3 : Int32).toNatClampNeg) &&& 63) = 38 then
  (bnd (f10_digest 0 σ) fun w298 =>
  bnd (f11_digest 0 σ) fun w300 =>
  if (lg_cmp w298 w300) = 0 then
  (lL_law_18  n (x3 + 6) σ)
  else
  (some (.inr (0, σ))))
  else 
  (lL_law_18  n (x3 + 6) σ))
set_option maxHeartbeats 8000000 in
set_option maxRecDepth 20000 in
theorem lEL_law_18 {V : Option AV} {S : Mem}  : ∀ (n : Nat) (x3 : Int32) (σ : Mem) {w : (Int32 × Mem) ⊕ (Int32 × Mem)}, lL_law_18  n x3 σ = some w → (∀ u, w = .inl u → Go mL_law 1249 [some (.inr (.inr (24, 0))), some (.inr (.inr (10, 0))), some (.inr (.inr (11, 0))), some (.inl u.1)] [] u.2 V S) → (∀ u, w = .inr u → (some (.inl u.1) : Option AV) = V ∧ u.2 = S) → Go mL_law 18 [some (.inr (.inr (24, 0))), some (.inr (.inr (10, 0))), some (.inr (.inr (11, 0))), some (.inl x3)] [] σ V S
  | 0, x3, σ, w, h, K1, K2 => by cases h
  | n + 1, x3, σ, w, h, K1, K2 => by
    rw [lL_law_18] at h
    refine g_iload_n aL_law_18 rfl ?_
    refine g_aload_n aL_law_19 rfl ?_
    refine g_slen (x := (σ.1 24 1 0)) rfl aL_law_20 rfl ?_
    refine g_bipush (v := 6) aL_law_21 rfl ?_
    refine g_isub aL_law_23 ?_
    refine g_icmp_gt (tgt := 1249) aL_law_24 rfl (fun c342 => ?_) (fun c342 => ?_)
    · have h := (if_pos c342).symm.trans h
      have h := Option.some.inj h
      subst h
      exact g_weak (K1 _ rfl) ⟨rfl, rfl, rfl, rfl, trivial⟩
    · have h := (if_neg c342).symm.trans h
      refine g_aload_n aL_law_27 rfl ?_
      refine g_iload_n aL_law_28 rfl ?_
      obtain ⟨q1, h⟩ := ck_inv h
      refine g_sld (x := (σ.1 24 0 (x3 : Int32).toNatClampNeg)) rfl aL_law_29 (inS_ok q1) rfl ?_
      refine g_bipush (v := 63) aL_law_30 rfl ?_
      refine g_iand aL_law_32 ?_
      rcases Decidable.em (((σ.1 24 0 (x3 : Int32).toNatClampNeg) &&& 63) = 0) with c303 | c303
      · have h := (if_pos c303).symm.trans h
        refine g_tsIn (tgt := 204) (off := 171) aL_law_33 (by rw [c303]; decide) (by rw [c303]; decide) (by rw [c303]; rfl) rfl ?_
        refine g_aload_n aL_law_204 rfl ?_
        obtain ⟨w2, hw2, h⟩ := bnd_inv h
        refine g_V0s (v1 := .inl w2.1) (σ1 := w2.2) aL_law_205 cvL_13 (E10_village hw2) rfl (fun o3 => ?_)
        refine g_aload_n aL_law_208 rfl ?_
        obtain ⟨w4, hw4, h⟩ := bnd_inv h
        refine g_V0s (v1 := .inl w4.1) (σ1 := w4.2) aL_law_209 cvL_17 (E11_village hw4) rfl (fun o5 => ?_)
        refine g_icmp_eq (tgt := 1243) aL_law_212 rfl (fun c6 => ?_) (fun c6 => ?_)
        · have h := (if_pos c6).symm.trans h
          refine g_iinc (v := (x3 + 6)) (L' := [some (.inr (.inr (24, 0))), some (.inr (.inr (10, 0))), some (.inr (.inr (11, 0))), some (.inl (x3 + 6))]) aL_law_1243 rfl rfl (Nat.le_of_ble_eq_true rfl) rfl rfl ?_
          refine g_goto (tgt := 18) aL_law_1246 rfl ?_
          exact g_weak (lEL_law_18 (V := V) (S := S)   n _ _ h K1 K2) ⟨rfl, rfl, rfl, rfl, trivial⟩
        · have h := (if_neg c6).symm.trans h
          refine g_iconst (v := 0) aL_law_215 rfl ?_
          have h := Option.some.inj h
          subst h
          obtain ⟨hV, hS⟩ := K2 _ rfl
          subst hV; subst hS
          exact g_retE aL_law_216 (Or.inl rfl) rfl rfl
      have h := (if_neg c303).symm.trans h
      rcases Decidable.em (((σ.1 24 0 (x3 : Int32).toNatClampNeg) &&& 63) = 1) with c304 | c304
      · have h := (if_pos c304).symm.trans h
        refine g_tsIn (tgt := 217) (off := 184) aL_law_33 (by rw [c304]; decide) (by rw [c304]; decide) (by rw [c304]; rfl) rfl ?_
        refine g_aload_n aL_law_217 rfl ?_
        refine g_aload_n aL_law_218 rfl ?_
        refine g_iload_n aL_law_219 rfl ?_
        refine g_iconst (v := 1) aL_law_220 rfl ?_
        refine g_iadd aL_law_221 ?_
        obtain ⟨q7, h⟩ := ck_inv h
        refine g_sld (x := (σ.1 24 0 ((x3 + 1) : Int32).toNatClampNeg)) rfl aL_law_222 (inS_ok q7) rfl ?_
        refine g_aload_n aL_law_223 rfl ?_
        refine g_iload_n aL_law_224 rfl ?_
        refine g_iconst (v := 2) aL_law_225 rfl ?_
        refine g_iadd aL_law_226 ?_
        obtain ⟨q8, h⟩ := ck_inv h
        refine g_sld (x := (σ.1 24 0 ((x3 + 2) : Int32).toNatClampNeg)) rfl aL_law_227 (inS_ok q8) rfl ?_
        refine g_aload_n aL_law_228 rfl ?_
        refine g_iload_n aL_law_229 rfl ?_
        refine g_iconst (v := 3) aL_law_230 rfl ?_
        refine g_iadd aL_law_231 ?_
        obtain ⟨q9, h⟩ := ck_inv h
        refine g_sld (x := (σ.1 24 0 ((x3 + 3) : Int32).toNatClampNeg)) rfl aL_law_232 (inS_ok q9) rfl ?_
        obtain ⟨w10, hw10, h⟩ := bnd_inv h
        refine g_V3s (v1 := .inl w10.1) (σ1 := w10.2) aL_law_233 cvL_18 (E10_storm hw10) rfl (fun o11 => ?_)
        refine g_aload_n aL_law_236 rfl ?_
        refine g_aload_n aL_law_237 rfl ?_
        refine g_iload_n aL_law_238 rfl ?_
        refine g_iconst (v := 1) aL_law_239 rfl ?_
        refine g_iadd aL_law_240 ?_
        obtain ⟨q12, h⟩ := ck_inv h
        refine g_sld (x := (w10.2.1 24 0 ((x3 + 1) : Int32).toNatClampNeg)) rfl aL_law_241 (inS_ok q12) rfl ?_
        refine g_aload_n aL_law_242 rfl ?_
        refine g_iload_n aL_law_243 rfl ?_
        refine g_iconst (v := 2) aL_law_244 rfl ?_
        refine g_iadd aL_law_245 ?_
        obtain ⟨q13, h⟩ := ck_inv h
        refine g_sld (x := (w10.2.1 24 0 ((x3 + 2) : Int32).toNatClampNeg)) rfl aL_law_246 (inS_ok q13) rfl ?_
        refine g_aload_n aL_law_247 rfl ?_
        refine g_iload_n aL_law_248 rfl ?_
        refine g_iconst (v := 3) aL_law_249 rfl ?_
        refine g_iadd aL_law_250 ?_
        obtain ⟨q14, h⟩ := ck_inv h
        refine g_sld (x := (w10.2.1 24 0 ((x3 + 3) : Int32).toNatClampNeg)) rfl aL_law_251 (inS_ok q14) rfl ?_
        obtain ⟨w15, hw15, h⟩ := bnd_inv h
        refine g_V3s (v1 := .inl w15.1) (σ1 := w15.2) aL_law_252 cvL_22 (E11_storm hw15) rfl (fun o16 => ?_)
        refine g_icmp_eq (tgt := 1243) aL_law_255 rfl (fun c17 => ?_) (fun c17 => ?_)
        · have h := (if_pos c17).symm.trans h
          refine g_iinc (v := (x3 + 6)) (L' := [some (.inr (.inr (24, 0))), some (.inr (.inr (10, 0))), some (.inr (.inr (11, 0))), some (.inl (x3 + 6))]) aL_law_1243 rfl rfl (Nat.le_of_ble_eq_true rfl) rfl rfl ?_
          refine g_goto (tgt := 18) aL_law_1246 rfl ?_
          exact g_weak (lEL_law_18 (V := V) (S := S)   n _ _ h K1 K2) ⟨rfl, rfl, rfl, rfl, trivial⟩
        · have h := (if_neg c17).symm.trans h
          refine g_iconst (v := 0) aL_law_258 rfl ?_
          have h := Option.some.inj h
          subst h
          obtain ⟨hV, hS⟩ := K2 _ rfl
          subst hV; subst hS
          exact g_retE aL_law_259 (Or.inl rfl) rfl rfl
      have h := (if_neg c304).symm.trans h
      rcases Decidable.em (((σ.1 24 0 (x3 : Int32).toNatClampNeg) &&& 63) = 2) with c305 | c305
      · have h := (if_pos c305).symm.trans h
        refine g_tsIn (tgt := 260) (off := 227) aL_law_33 (by rw [c305]; decide) (by rw [c305]; decide) (by rw [c305]; rfl) rfl ?_
        refine g_aload_n aL_law_260 rfl ?_
        refine g_aload_n aL_law_261 rfl ?_
        refine g_iload_n aL_law_262 rfl ?_
        refine g_iconst (v := 1) aL_law_263 rfl ?_
        refine g_iadd aL_law_264 ?_
        obtain ⟨q18, h⟩ := ck_inv h
        refine g_sld (x := (σ.1 24 0 ((x3 + 1) : Int32).toNatClampNeg)) rfl aL_law_265 (inS_ok q18) rfl ?_
        refine g_aload_n aL_law_266 rfl ?_
        refine g_iload_n aL_law_267 rfl ?_
        refine g_iconst (v := 2) aL_law_268 rfl ?_
        refine g_iadd aL_law_269 ?_
        obtain ⟨q19, h⟩ := ck_inv h
        refine g_sld (x := (σ.1 24 0 ((x3 + 2) : Int32).toNatClampNeg)) rfl aL_law_270 (inS_ok q19) rfl ?_
        refine g_aload_n aL_law_271 rfl ?_
        refine g_iload_n aL_law_272 rfl ?_
        refine g_iconst (v := 3) aL_law_273 rfl ?_
        refine g_iadd aL_law_274 ?_
        obtain ⟨q20, h⟩ := ck_inv h
        refine g_sld (x := (σ.1 24 0 ((x3 + 3) : Int32).toNatClampNeg)) rfl aL_law_275 (inS_ok q20) rfl ?_
        obtain ⟨w21, hw21, h⟩ := bnd_inv h
        refine g_V3s (v1 := .inl w21.1) (σ1 := w21.2) aL_law_276 cvL_23 (E10_thing hw21) rfl (fun o22 => ?_)
        refine g_aload_n aL_law_279 rfl ?_
        refine g_aload_n aL_law_280 rfl ?_
        refine g_iload_n aL_law_281 rfl ?_
        refine g_iconst (v := 1) aL_law_282 rfl ?_
        refine g_iadd aL_law_283 ?_
        obtain ⟨q23, h⟩ := ck_inv h
        refine g_sld (x := (w21.2.1 24 0 ((x3 + 1) : Int32).toNatClampNeg)) rfl aL_law_284 (inS_ok q23) rfl ?_
        refine g_aload_n aL_law_285 rfl ?_
        refine g_iload_n aL_law_286 rfl ?_
        refine g_iconst (v := 2) aL_law_287 rfl ?_
        refine g_iadd aL_law_288 ?_
        obtain ⟨q24, h⟩ := ck_inv h
        refine g_sld (x := (w21.2.1 24 0 ((x3 + 2) : Int32).toNatClampNeg)) rfl aL_law_289 (inS_ok q24) rfl ?_
        refine g_aload_n aL_law_290 rfl ?_
        refine g_iload_n aL_law_291 rfl ?_
        refine g_iconst (v := 3) aL_law_292 rfl ?_
        refine g_iadd aL_law_293 ?_
        obtain ⟨q25, h⟩ := ck_inv h
        refine g_sld (x := (w21.2.1 24 0 ((x3 + 3) : Int32).toNatClampNeg)) rfl aL_law_294 (inS_ok q25) rfl ?_
        obtain ⟨w26, hw26, h⟩ := bnd_inv h
        refine g_V3s (v1 := .inl w26.1) (σ1 := w26.2) aL_law_295 cvL_26 (E11_thing hw26) rfl (fun o27 => ?_)
        refine g_icmp_eq (tgt := 1243) aL_law_298 rfl (fun c28 => ?_) (fun c28 => ?_)
        · have h := (if_pos c28).symm.trans h
          refine g_iinc (v := (x3 + 6)) (L' := [some (.inr (.inr (24, 0))), some (.inr (.inr (10, 0))), some (.inr (.inr (11, 0))), some (.inl (x3 + 6))]) aL_law_1243 rfl rfl (Nat.le_of_ble_eq_true rfl) rfl rfl ?_
          refine g_goto (tgt := 18) aL_law_1246 rfl ?_
          exact g_weak (lEL_law_18 (V := V) (S := S)   n _ _ h K1 K2) ⟨rfl, rfl, rfl, rfl, trivial⟩
        · have h := (if_neg c28).symm.trans h
          refine g_iconst (v := 0) aL_law_301 rfl ?_
          have h := Option.some.inj h
          subst h
          obtain ⟨hV, hS⟩ := K2 _ rfl
          subst hV; subst hS
          exact g_retE aL_law_302 (Or.inl rfl) rfl rfl
      have h := (if_neg c305).symm.trans h
      rcases Decidable.em (((σ.1 24 0 (x3 : Int32).toNatClampNeg) &&& 63) = 3) with c306 | c306
      · have h := (if_pos c306).symm.trans h
        refine g_tsIn (tgt := 303) (off := 270) aL_law_33 (by rw [c306]; decide) (by rw [c306]; decide) (by rw [c306]; rfl) rfl ?_
        refine g_aload_n aL_law_303 rfl ?_
        refine g_aload_n aL_law_304 rfl ?_
        refine g_iload_n aL_law_305 rfl ?_
        refine g_iconst (v := 1) aL_law_306 rfl ?_
        refine g_iadd aL_law_307 ?_
        obtain ⟨q29, h⟩ := ck_inv h
        refine g_sld (x := (σ.1 24 0 ((x3 + 1) : Int32).toNatClampNeg)) rfl aL_law_308 (inS_ok q29) rfl ?_
        obtain ⟨w30, hw30, h⟩ := bnd_inv h
        refine g_V1s (v1 := .inl w30.1) (σ1 := w30.2) aL_law_309 cvL_27 (E10_body hw30) rfl (fun o31 => ?_)
        refine g_aload_n aL_law_312 rfl ?_
        refine g_aload_n aL_law_313 rfl ?_
        refine g_iload_n aL_law_314 rfl ?_
        refine g_iconst (v := 1) aL_law_315 rfl ?_
        refine g_iadd aL_law_316 ?_
        obtain ⟨q32, h⟩ := ck_inv h
        refine g_sld (x := (w30.2.1 24 0 ((x3 + 1) : Int32).toNatClampNeg)) rfl aL_law_317 (inS_ok q32) rfl ?_
        obtain ⟨w33, hw33, h⟩ := bnd_inv h
        refine g_V1s (v1 := .inl w33.1) (σ1 := w33.2) aL_law_318 cvL_31 (E11_body hw33) rfl (fun o34 => ?_)
        refine g_icmp_eq (tgt := 1243) aL_law_321 rfl (fun c35 => ?_) (fun c35 => ?_)
        · have h := (if_pos c35).symm.trans h
          refine g_iinc (v := (x3 + 6)) (L' := [some (.inr (.inr (24, 0))), some (.inr (.inr (10, 0))), some (.inr (.inr (11, 0))), some (.inl (x3 + 6))]) aL_law_1243 rfl rfl (Nat.le_of_ble_eq_true rfl) rfl rfl ?_
          refine g_goto (tgt := 18) aL_law_1246 rfl ?_
          exact g_weak (lEL_law_18 (V := V) (S := S)   n _ _ h K1 K2) ⟨rfl, rfl, rfl, rfl, trivial⟩
        · have h := (if_neg c35).symm.trans h
          refine g_iconst (v := 0) aL_law_324 rfl ?_
          have h := Option.some.inj h
          subst h
          obtain ⟨hV, hS⟩ := K2 _ rfl
          subst hV; subst hS
          exact g_retE aL_law_325 (Or.inl rfl) rfl rfl
      have h := (if_neg c306).symm.trans h
      rcases Decidable.em (((σ.1 24 0 (x3 : Int32).toNatClampNeg) &&& 63) = 4) with c307 | c307
      · have h := (if_pos c307).symm.trans h
        refine g_tsIn (tgt := 326) (off := 293) aL_law_33 (by rw [c307]; decide) (by rw [c307]; decide) (by rw [c307]; rfl) rfl ?_
        refine g_aload_n aL_law_326 rfl ?_
        refine g_aload_n aL_law_327 rfl ?_
        refine g_iload_n aL_law_328 rfl ?_
        refine g_iconst (v := 1) aL_law_329 rfl ?_
        refine g_iadd aL_law_330 ?_
        obtain ⟨q36, h⟩ := ck_inv h
        refine g_sld (x := (σ.1 24 0 ((x3 + 1) : Int32).toNatClampNeg)) rfl aL_law_331 (inS_ok q36) rfl ?_
        obtain ⟨w37, hw37, h⟩ := bnd_inv h
        refine g_V1s (v1 := .inl w37.1) (σ1 := w37.2) aL_law_332 cvL_32 (E10_type hw37) rfl (fun o38 => ?_)
        refine g_aload_n aL_law_335 rfl ?_
        refine g_aload_n aL_law_336 rfl ?_
        refine g_iload_n aL_law_337 rfl ?_
        refine g_iconst (v := 1) aL_law_338 rfl ?_
        refine g_iadd aL_law_339 ?_
        obtain ⟨q39, h⟩ := ck_inv h
        refine g_sld (x := (w37.2.1 24 0 ((x3 + 1) : Int32).toNatClampNeg)) rfl aL_law_340 (inS_ok q39) rfl ?_
        obtain ⟨w40, hw40, h⟩ := bnd_inv h
        refine g_V1s (v1 := .inl w40.1) (σ1 := w40.2) aL_law_341 cvL_35 (E11_type hw40) rfl (fun o41 => ?_)
        refine g_icmp_eq (tgt := 1243) aL_law_344 rfl (fun c42 => ?_) (fun c42 => ?_)
        · have h := (if_pos c42).symm.trans h
          refine g_iinc (v := (x3 + 6)) (L' := [some (.inr (.inr (24, 0))), some (.inr (.inr (10, 0))), some (.inr (.inr (11, 0))), some (.inl (x3 + 6))]) aL_law_1243 rfl rfl (Nat.le_of_ble_eq_true rfl) rfl rfl ?_
          refine g_goto (tgt := 18) aL_law_1246 rfl ?_
          exact g_weak (lEL_law_18 (V := V) (S := S)   n _ _ h K1 K2) ⟨rfl, rfl, rfl, rfl, trivial⟩
        · have h := (if_neg c42).symm.trans h
          refine g_iconst (v := 0) aL_law_347 rfl ?_
          have h := Option.some.inj h
          subst h
          obtain ⟨hV, hS⟩ := K2 _ rfl
          subst hV; subst hS
          exact g_retE aL_law_348 (Or.inl rfl) rfl rfl
      have h := (if_neg c307).symm.trans h
      rcases Decidable.em (((σ.1 24 0 (x3 : Int32).toNatClampNeg) &&& 63) = 5) with c308 | c308
      · have h := (if_pos c308).symm.trans h
        refine g_tsIn (tgt := 349) (off := 316) aL_law_33 (by rw [c308]; decide) (by rw [c308]; decide) (by rw [c308]; rfl) rfl ?_
        refine g_aload_n aL_law_349 rfl ?_
        obtain ⟨w43, hw43, h⟩ := lt_inv h
        refine g_V0s (v1 := .inl w43.1) (σ1 := w43.2) aL_law_350 cvL_36 (by rw [← hw43]; exact E10_clear _ _) rfl (fun o44 => ?_)
        refine g_aload_n aL_law_353 rfl ?_
        obtain ⟨w45, hw45, h⟩ := lt_inv h
        refine g_V0s (v1 := .inl w45.1) (σ1 := w45.2) aL_law_354 cvL_39 (by rw [← hw45]; exact E11_clear _ _) rfl (fun o46 => ?_)
        refine g_icmp_eq (tgt := 1243) aL_law_357 rfl (fun c47 => ?_) (fun c47 => ?_)
        · have h := (if_pos c47).symm.trans h
          refine g_iinc (v := (x3 + 6)) (L' := [some (.inr (.inr (24, 0))), some (.inr (.inr (10, 0))), some (.inr (.inr (11, 0))), some (.inl (x3 + 6))]) aL_law_1243 rfl rfl (Nat.le_of_ble_eq_true rfl) rfl rfl ?_
          refine g_goto (tgt := 18) aL_law_1246 rfl ?_
          exact g_weak (lEL_law_18 (V := V) (S := S)   n _ _ h K1 K2) ⟨rfl, rfl, rfl, rfl, trivial⟩
        · have h := (if_neg c47).symm.trans h
          refine g_iconst (v := 0) aL_law_360 rfl ?_
          have h := Option.some.inj h
          subst h
          obtain ⟨hV, hS⟩ := K2 _ rfl
          subst hV; subst hS
          exact g_retE aL_law_361 (Or.inl rfl) rfl rfl
      have h := (if_neg c308).symm.trans h
      rcases Decidable.em (((σ.1 24 0 (x3 : Int32).toNatClampNeg) &&& 63) = 6) with c309 | c309
      · have h := (if_pos c309).symm.trans h
        refine g_tsIn (tgt := 362) (off := 329) aL_law_33 (by rw [c309]; decide) (by rw [c309]; decide) (by rw [c309]; rfl) rfl ?_
        refine g_aload_n aL_law_362 rfl ?_
        obtain ⟨w48, hw48, h⟩ := bnd_inv h
        refine g_V0s (v1 := .inl w48.1) (σ1 := w48.2) aL_law_363 cvL_40 (E10_read hw48) rfl (fun o49 => ?_)
        refine g_aload_n aL_law_366 rfl ?_
        obtain ⟨w50, hw50, h⟩ := bnd_inv h
        refine g_V0s (v1 := .inl w50.1) (σ1 := w50.2) aL_law_367 cvL_43 (E11_read hw50) rfl (fun o51 => ?_)
        refine g_icmp_eq (tgt := 1243) aL_law_370 rfl (fun c52 => ?_) (fun c52 => ?_)
        · have h := (if_pos c52).symm.trans h
          refine g_iinc (v := (x3 + 6)) (L' := [some (.inr (.inr (24, 0))), some (.inr (.inr (10, 0))), some (.inr (.inr (11, 0))), some (.inl (x3 + 6))]) aL_law_1243 rfl rfl (Nat.le_of_ble_eq_true rfl) rfl rfl ?_
          refine g_goto (tgt := 18) aL_law_1246 rfl ?_
          exact g_weak (lEL_law_18 (V := V) (S := S)   n _ _ h K1 K2) ⟨rfl, rfl, rfl, rfl, trivial⟩
        · have h := (if_neg c52).symm.trans h
          refine g_iconst (v := 0) aL_law_373 rfl ?_
          have h := Option.some.inj h
          subst h
          obtain ⟨hV, hS⟩ := K2 _ rfl
          subst hV; subst hS
          exact g_retE aL_law_374 (Or.inl rfl) rfl rfl
      have h := (if_neg c309).symm.trans h
      rcases Decidable.em (((σ.1 24 0 (x3 : Int32).toNatClampNeg) &&& 63) = 7) with c310 | c310
      · have h := (if_pos c310).symm.trans h
        refine g_tsIn (tgt := 375) (off := 342) aL_law_33 (by rw [c310]; decide) (by rw [c310]; decide) (by rw [c310]; rfl) rfl ?_
        refine g_aload_n aL_law_375 rfl ?_
        refine g_aload_n aL_law_376 rfl ?_
        refine g_iload_n aL_law_377 rfl ?_
        refine g_iconst (v := 1) aL_law_378 rfl ?_
        refine g_iadd aL_law_379 ?_
        obtain ⟨q53, h⟩ := ck_inv h
        refine g_sld (x := (σ.1 24 0 ((x3 + 1) : Int32).toNatClampNeg)) rfl aL_law_380 (inS_ok q53) rfl ?_
        obtain ⟨w54, hw54, h⟩ := bnd_inv h
        refine g_V1s (v1 := .inl w54.1) (σ1 := w54.2) aL_law_381 cvL_44 (E10_summers hw54) rfl (fun o55 => ?_)
        refine g_aload_n aL_law_384 rfl ?_
        refine g_aload_n aL_law_385 rfl ?_
        refine g_iload_n aL_law_386 rfl ?_
        refine g_iconst (v := 1) aL_law_387 rfl ?_
        refine g_iadd aL_law_388 ?_
        obtain ⟨q56, h⟩ := ck_inv h
        refine g_sld (x := (w54.2.1 24 0 ((x3 + 1) : Int32).toNatClampNeg)) rfl aL_law_389 (inS_ok q56) rfl ?_
        obtain ⟨w57, hw57, h⟩ := bnd_inv h
        refine g_V1s (v1 := .inl w57.1) (σ1 := w57.2) aL_law_390 cvL_47 (E11_summers hw57) rfl (fun o58 => ?_)
        refine g_icmp_eq (tgt := 1243) aL_law_393 rfl (fun c59 => ?_) (fun c59 => ?_)
        · have h := (if_pos c59).symm.trans h
          refine g_iinc (v := (x3 + 6)) (L' := [some (.inr (.inr (24, 0))), some (.inr (.inr (10, 0))), some (.inr (.inr (11, 0))), some (.inl (x3 + 6))]) aL_law_1243 rfl rfl (Nat.le_of_ble_eq_true rfl) rfl rfl ?_
          refine g_goto (tgt := 18) aL_law_1246 rfl ?_
          exact g_weak (lEL_law_18 (V := V) (S := S)   n _ _ h K1 K2) ⟨rfl, rfl, rfl, rfl, trivial⟩
        · have h := (if_neg c59).symm.trans h
          refine g_iconst (v := 0) aL_law_396 rfl ?_
          have h := Option.some.inj h
          subst h
          obtain ⟨hV, hS⟩ := K2 _ rfl
          subst hV; subst hS
          exact g_retE aL_law_397 (Or.inl rfl) rfl rfl
      have h := (if_neg c310).symm.trans h
      rcases Decidable.em (((σ.1 24 0 (x3 : Int32).toNatClampNeg) &&& 63) = 8) with c311 | c311
      · have h := (if_pos c311).symm.trans h
        refine g_tsIn (tgt := 398) (off := 365) aL_law_33 (by rw [c311]; decide) (by rw [c311]; decide) (by rw [c311]; rfl) rfl ?_
        refine g_aload_n aL_law_398 rfl ?_
        refine g_aload_n aL_law_399 rfl ?_
        refine g_iload_n aL_law_400 rfl ?_
        refine g_iconst (v := 1) aL_law_401 rfl ?_
        refine g_iadd aL_law_402 ?_
        obtain ⟨q60, h⟩ := ck_inv h
        refine g_sld (x := (σ.1 24 0 ((x3 + 1) : Int32).toNatClampNeg)) rfl aL_law_403 (inS_ok q60) rfl ?_
        obtain ⟨w61, hw61, h⟩ := bnd_inv h
        refine g_V1s (v1 := .inl w61.1) (σ1 := w61.2) aL_law_404 cvL_48 (E10_takes hw61) rfl (fun o62 => ?_)
        refine g_aload_n aL_law_407 rfl ?_
        refine g_aload_n aL_law_408 rfl ?_
        refine g_iload_n aL_law_409 rfl ?_
        refine g_iconst (v := 1) aL_law_410 rfl ?_
        refine g_iadd aL_law_411 ?_
        obtain ⟨q63, h⟩ := ck_inv h
        refine g_sld (x := (w61.2.1 24 0 ((x3 + 1) : Int32).toNatClampNeg)) rfl aL_law_412 (inS_ok q63) rfl ?_
        obtain ⟨w64, hw64, h⟩ := bnd_inv h
        refine g_V1s (v1 := .inl w64.1) (σ1 := w64.2) aL_law_413 cvL_51 (E11_takes hw64) rfl (fun o65 => ?_)
        refine g_icmp_eq (tgt := 1243) aL_law_416 rfl (fun c66 => ?_) (fun c66 => ?_)
        · have h := (if_pos c66).symm.trans h
          refine g_iinc (v := (x3 + 6)) (L' := [some (.inr (.inr (24, 0))), some (.inr (.inr (10, 0))), some (.inr (.inr (11, 0))), some (.inl (x3 + 6))]) aL_law_1243 rfl rfl (Nat.le_of_ble_eq_true rfl) rfl rfl ?_
          refine g_goto (tgt := 18) aL_law_1246 rfl ?_
          exact g_weak (lEL_law_18 (V := V) (S := S)   n _ _ h K1 K2) ⟨rfl, rfl, rfl, rfl, trivial⟩
        · have h := (if_neg c66).symm.trans h
          refine g_iconst (v := 0) aL_law_419 rfl ?_
          have h := Option.some.inj h
          subst h
          obtain ⟨hV, hS⟩ := K2 _ rfl
          subst hV; subst hS
          exact g_retE aL_law_420 (Or.inl rfl) rfl rfl
      have h := (if_neg c311).symm.trans h
      rcases Decidable.em (((σ.1 24 0 (x3 : Int32).toNatClampNeg) &&& 63) = 9) with c312 | c312
      · have h := (if_pos c312).symm.trans h
        refine g_tsIn (tgt := 421) (off := 388) aL_law_33 (by rw [c312]; decide) (by rw [c312]; decide) (by rw [c312]; rfl) rfl ?_
        refine g_aload_n aL_law_421 rfl ?_
        obtain ⟨w67, hw67, h⟩ := bnd_inv h
        refine g_V0s (v1 := .inl w67.1) (σ1 := w67.2) aL_law_422 cvL_52 (E10_undo hw67) rfl (fun o68 => ?_)
        refine g_aload_n aL_law_425 rfl ?_
        obtain ⟨w69, hw69, h⟩ := bnd_inv h
        refine g_V0s (v1 := .inl w69.1) (σ1 := w69.2) aL_law_426 cvL_55 (E11_undo hw69) rfl (fun o70 => ?_)
        refine g_icmp_eq (tgt := 1243) aL_law_429 rfl (fun c71 => ?_) (fun c71 => ?_)
        · have h := (if_pos c71).symm.trans h
          refine g_iinc (v := (x3 + 6)) (L' := [some (.inr (.inr (24, 0))), some (.inr (.inr (10, 0))), some (.inr (.inr (11, 0))), some (.inl (x3 + 6))]) aL_law_1243 rfl rfl (Nat.le_of_ble_eq_true rfl) rfl rfl ?_
          refine g_goto (tgt := 18) aL_law_1246 rfl ?_
          exact g_weak (lEL_law_18 (V := V) (S := S)   n _ _ h K1 K2) ⟨rfl, rfl, rfl, rfl, trivial⟩
        · have h := (if_neg c71).symm.trans h
          refine g_iconst (v := 0) aL_law_432 rfl ?_
          have h := Option.some.inj h
          subst h
          obtain ⟨hV, hS⟩ := K2 _ rfl
          subst hV; subst hS
          exact g_retE aL_law_433 (Or.inl rfl) rfl rfl
      have h := (if_neg c312).symm.trans h
      rcases Decidable.em (((σ.1 24 0 (x3 : Int32).toNatClampNeg) &&& 63) = 10) with c313 | c313
      · have h := (if_pos c313).symm.trans h
        refine g_tsIn (tgt := 434) (off := 401) aL_law_33 (by rw [c313]; decide) (by rw [c313]; decide) (by rw [c313]; rfl) rfl ?_
        refine g_aload_n aL_law_434 rfl ?_
        refine g_aload_n aL_law_435 rfl ?_
        refine g_iload_n aL_law_436 rfl ?_
        refine g_iconst (v := 1) aL_law_437 rfl ?_
        refine g_iadd aL_law_438 ?_
        obtain ⟨q72, h⟩ := ck_inv h
        refine g_sld (x := (σ.1 24 0 ((x3 + 1) : Int32).toNatClampNeg)) rfl aL_law_439 (inS_ok q72) rfl ?_
        refine g_aload_n aL_law_440 rfl ?_
        refine g_iload_n aL_law_441 rfl ?_
        refine g_iconst (v := 2) aL_law_442 rfl ?_
        refine g_iadd aL_law_443 ?_
        obtain ⟨q73, h⟩ := ck_inv h
        refine g_sld (x := (σ.1 24 0 ((x3 + 2) : Int32).toNatClampNeg)) rfl aL_law_444 (inS_ok q73) rfl ?_
        obtain ⟨w74, hw74, h⟩ := bnd_inv h
        refine g_V2s (v1 := .inl w74.1) (σ1 := w74.2) aL_law_445 cvL_56 (E10_of hw74) rfl (fun o75 => ?_)
        refine g_aload_n aL_law_448 rfl ?_
        refine g_aload_n aL_law_449 rfl ?_
        refine g_iload_n aL_law_450 rfl ?_
        refine g_iconst (v := 1) aL_law_451 rfl ?_
        refine g_iadd aL_law_452 ?_
        obtain ⟨q76, h⟩ := ck_inv h
        refine g_sld (x := (w74.2.1 24 0 ((x3 + 1) : Int32).toNatClampNeg)) rfl aL_law_453 (inS_ok q76) rfl ?_
        refine g_aload_n aL_law_454 rfl ?_
        refine g_iload_n aL_law_455 rfl ?_
        refine g_iconst (v := 2) aL_law_456 rfl ?_
        refine g_iadd aL_law_457 ?_
        obtain ⟨q77, h⟩ := ck_inv h
        refine g_sld (x := (w74.2.1 24 0 ((x3 + 2) : Int32).toNatClampNeg)) rfl aL_law_458 (inS_ok q77) rfl ?_
        obtain ⟨w78, hw78, h⟩ := bnd_inv h
        refine g_V2s (v1 := .inl w78.1) (σ1 := w78.2) aL_law_459 cvL_60 (E11_of hw78) rfl (fun o79 => ?_)
        refine g_icmp_eq (tgt := 1243) aL_law_462 rfl (fun c80 => ?_) (fun c80 => ?_)
        · have h := (if_pos c80).symm.trans h
          refine g_iinc (v := (x3 + 6)) (L' := [some (.inr (.inr (24, 0))), some (.inr (.inr (10, 0))), some (.inr (.inr (11, 0))), some (.inl (x3 + 6))]) aL_law_1243 rfl rfl (Nat.le_of_ble_eq_true rfl) rfl rfl ?_
          refine g_goto (tgt := 18) aL_law_1246 rfl ?_
          exact g_weak (lEL_law_18 (V := V) (S := S)   n _ _ h K1 K2) ⟨rfl, rfl, rfl, rfl, trivial⟩
        · have h := (if_neg c80).symm.trans h
          refine g_iconst (v := 0) aL_law_465 rfl ?_
          have h := Option.some.inj h
          subst h
          obtain ⟨hV, hS⟩ := K2 _ rfl
          subst hV; subst hS
          exact g_retE aL_law_466 (Or.inl rfl) rfl rfl
      have h := (if_neg c313).symm.trans h
      rcases Decidable.em (((σ.1 24 0 (x3 : Int32).toNatClampNeg) &&& 63) = 11) with c314 | c314
      · have h := (if_pos c314).symm.trans h
        refine g_tsIn (tgt := 467) (off := 434) aL_law_33 (by rw [c314]; decide) (by rw [c314]; decide) (by rw [c314]; rfl) rfl ?_
        refine g_aload_n aL_law_467 rfl ?_
        refine g_aload_n aL_law_468 rfl ?_
        refine g_iload_n aL_law_469 rfl ?_
        refine g_iconst (v := 1) aL_law_470 rfl ?_
        refine g_iadd aL_law_471 ?_
        obtain ⟨q81, h⟩ := ck_inv h
        refine g_sld (x := (σ.1 24 0 ((x3 + 1) : Int32).toNatClampNeg)) rfl aL_law_472 (inS_ok q81) rfl ?_
        refine g_aload_n aL_law_473 rfl ?_
        refine g_iload_n aL_law_474 rfl ?_
        refine g_iconst (v := 2) aL_law_475 rfl ?_
        refine g_iadd aL_law_476 ?_
        obtain ⟨q82, h⟩ := ck_inv h
        refine g_sld (x := (σ.1 24 0 ((x3 + 2) : Int32).toNatClampNeg)) rfl aL_law_477 (inS_ok q82) rfl ?_
        obtain ⟨w83, hw83, h⟩ := bnd_inv h
        refine g_V2s (v1 := .inl w83.1) (σ1 := w83.2) aL_law_478 cvL_61 (E10_about hw83) rfl (fun o84 => ?_)
        refine g_aload_n aL_law_481 rfl ?_
        refine g_aload_n aL_law_482 rfl ?_
        refine g_iload_n aL_law_483 rfl ?_
        refine g_iconst (v := 1) aL_law_484 rfl ?_
        refine g_iadd aL_law_485 ?_
        obtain ⟨q85, h⟩ := ck_inv h
        refine g_sld (x := (w83.2.1 24 0 ((x3 + 1) : Int32).toNatClampNeg)) rfl aL_law_486 (inS_ok q85) rfl ?_
        refine g_aload_n aL_law_487 rfl ?_
        refine g_iload_n aL_law_488 rfl ?_
        refine g_iconst (v := 2) aL_law_489 rfl ?_
        refine g_iadd aL_law_490 ?_
        obtain ⟨q86, h⟩ := ck_inv h
        refine g_sld (x := (w83.2.1 24 0 ((x3 + 2) : Int32).toNatClampNeg)) rfl aL_law_491 (inS_ok q86) rfl ?_
        obtain ⟨w87, hw87, h⟩ := bnd_inv h
        refine g_V2s (v1 := .inl w87.1) (σ1 := w87.2) aL_law_492 cvL_64 (E11_about hw87) rfl (fun o88 => ?_)
        refine g_icmp_eq (tgt := 1243) aL_law_495 rfl (fun c89 => ?_) (fun c89 => ?_)
        · have h := (if_pos c89).symm.trans h
          refine g_iinc (v := (x3 + 6)) (L' := [some (.inr (.inr (24, 0))), some (.inr (.inr (10, 0))), some (.inr (.inr (11, 0))), some (.inl (x3 + 6))]) aL_law_1243 rfl rfl (Nat.le_of_ble_eq_true rfl) rfl rfl ?_
          refine g_goto (tgt := 18) aL_law_1246 rfl ?_
          exact g_weak (lEL_law_18 (V := V) (S := S)   n _ _ h K1 K2) ⟨rfl, rfl, rfl, rfl, trivial⟩
        · have h := (if_neg c89).symm.trans h
          refine g_iconst (v := 0) aL_law_498 rfl ?_
          have h := Option.some.inj h
          subst h
          obtain ⟨hV, hS⟩ := K2 _ rfl
          subst hV; subst hS
          exact g_retE aL_law_499 (Or.inl rfl) rfl rfl
      have h := (if_neg c314).symm.trans h
      rcases Decidable.em (((σ.1 24 0 (x3 : Int32).toNatClampNeg) &&& 63) = 12) with c315 | c315
      · have h := (if_pos c315).symm.trans h
        refine g_tsIn (tgt := 500) (off := 467) aL_law_33 (by rw [c315]; decide) (by rw [c315]; decide) (by rw [c315]; rfl) rfl ?_
        refine g_aload_n aL_law_500 rfl ?_
        refine g_aload_n aL_law_501 rfl ?_
        refine g_iload_n aL_law_502 rfl ?_
        refine g_iconst (v := 1) aL_law_503 rfl ?_
        refine g_iadd aL_law_504 ?_
        obtain ⟨q90, h⟩ := ck_inv h
        refine g_sld (x := (σ.1 24 0 ((x3 + 1) : Int32).toNatClampNeg)) rfl aL_law_505 (inS_ok q90) rfl ?_
        refine g_aload_n aL_law_506 rfl ?_
        refine g_iload_n aL_law_507 rfl ?_
        refine g_iconst (v := 2) aL_law_508 rfl ?_
        refine g_iadd aL_law_509 ?_
        obtain ⟨q91, h⟩ := ck_inv h
        refine g_sld (x := (σ.1 24 0 ((x3 + 2) : Int32).toNatClampNeg)) rfl aL_law_510 (inS_ok q91) rfl ?_
        obtain ⟨w92, hw92, h⟩ := bnd_inv h
        refine g_V2s (v1 := .inl w92.1) (σ1 := w92.2) aL_law_511 cvL_65 (E10_weather hw92) rfl (fun o93 => ?_)
        refine g_aload_n aL_law_514 rfl ?_
        refine g_aload_n aL_law_515 rfl ?_
        refine g_iload_n aL_law_516 rfl ?_
        refine g_iconst (v := 1) aL_law_517 rfl ?_
        refine g_iadd aL_law_518 ?_
        obtain ⟨q94, h⟩ := ck_inv h
        refine g_sld (x := (w92.2.1 24 0 ((x3 + 1) : Int32).toNatClampNeg)) rfl aL_law_519 (inS_ok q94) rfl ?_
        refine g_aload_n aL_law_520 rfl ?_
        refine g_iload_n aL_law_521 rfl ?_
        refine g_iconst (v := 2) aL_law_522 rfl ?_
        refine g_iadd aL_law_523 ?_
        obtain ⟨q95, h⟩ := ck_inv h
        refine g_sld (x := (w92.2.1 24 0 ((x3 + 2) : Int32).toNatClampNeg)) rfl aL_law_524 (inS_ok q95) rfl ?_
        obtain ⟨w96, hw96, h⟩ := bnd_inv h
        refine g_V2s (v1 := .inl w96.1) (σ1 := w96.2) aL_law_525 cvL_68 (E11_weather hw96) rfl (fun o97 => ?_)
        refine g_icmp_eq (tgt := 1243) aL_law_528 rfl (fun c98 => ?_) (fun c98 => ?_)
        · have h := (if_pos c98).symm.trans h
          refine g_iinc (v := (x3 + 6)) (L' := [some (.inr (.inr (24, 0))), some (.inr (.inr (10, 0))), some (.inr (.inr (11, 0))), some (.inl (x3 + 6))]) aL_law_1243 rfl rfl (Nat.le_of_ble_eq_true rfl) rfl rfl ?_
          refine g_goto (tgt := 18) aL_law_1246 rfl ?_
          exact g_weak (lEL_law_18 (V := V) (S := S)   n _ _ h K1 K2) ⟨rfl, rfl, rfl, rfl, trivial⟩
        · have h := (if_neg c98).symm.trans h
          refine g_iconst (v := 0) aL_law_531 rfl ?_
          have h := Option.some.inj h
          subst h
          obtain ⟨hV, hS⟩ := K2 _ rfl
          subst hV; subst hS
          exact g_retE aL_law_532 (Or.inl rfl) rfl rfl
      have h := (if_neg c315).symm.trans h
      rcases Decidable.em (((σ.1 24 0 (x3 : Int32).toNatClampNeg) &&& 63) = 13) with c316 | c316
      · have h := (if_pos c316).symm.trans h
        refine g_tsIn (tgt := 533) (off := 500) aL_law_33 (by rw [c316]; decide) (by rw [c316]; decide) (by rw [c316]; rfl) rfl ?_
        refine g_aload_n aL_law_533 rfl ?_
        refine g_aload_n aL_law_534 rfl ?_
        refine g_iload_n aL_law_535 rfl ?_
        refine g_iconst (v := 1) aL_law_536 rfl ?_
        refine g_iadd aL_law_537 ?_
        obtain ⟨q99, h⟩ := ck_inv h
        refine g_sld (x := (σ.1 24 0 ((x3 + 1) : Int32).toNatClampNeg)) rfl aL_law_538 (inS_ok q99) rfl ?_
        refine g_aload_n aL_law_539 rfl ?_
        refine g_iload_n aL_law_540 rfl ?_
        refine g_iconst (v := 2) aL_law_541 rfl ?_
        refine g_iadd aL_law_542 ?_
        obtain ⟨q100, h⟩ := ck_inv h
        refine g_sld (x := (σ.1 24 0 ((x3 + 2) : Int32).toNatClampNeg)) rfl aL_law_543 (inS_ok q100) rfl ?_
        obtain ⟨w101, hw101, h⟩ := bnd_inv h
        refine g_V2s (v1 := .inl w101.1) (σ1 := w101.2) aL_law_544 cvL_69 (E10_draws hw101) rfl (fun o102 => ?_)
        refine g_aload_n aL_law_547 rfl ?_
        refine g_aload_n aL_law_548 rfl ?_
        refine g_iload_n aL_law_549 rfl ?_
        refine g_iconst (v := 1) aL_law_550 rfl ?_
        refine g_iadd aL_law_551 ?_
        obtain ⟨q103, h⟩ := ck_inv h
        refine g_sld (x := (w101.2.1 24 0 ((x3 + 1) : Int32).toNatClampNeg)) rfl aL_law_552 (inS_ok q103) rfl ?_
        refine g_aload_n aL_law_553 rfl ?_
        refine g_iload_n aL_law_554 rfl ?_
        refine g_iconst (v := 2) aL_law_555 rfl ?_
        refine g_iadd aL_law_556 ?_
        obtain ⟨q104, h⟩ := ck_inv h
        refine g_sld (x := (w101.2.1 24 0 ((x3 + 2) : Int32).toNatClampNeg)) rfl aL_law_557 (inS_ok q104) rfl ?_
        obtain ⟨w105, hw105, h⟩ := bnd_inv h
        refine g_V2s (v1 := .inl w105.1) (σ1 := w105.2) aL_law_558 cvL_72 (E11_draws hw105) rfl (fun o106 => ?_)
        refine g_icmp_eq (tgt := 1243) aL_law_561 rfl (fun c107 => ?_) (fun c107 => ?_)
        · have h := (if_pos c107).symm.trans h
          refine g_iinc (v := (x3 + 6)) (L' := [some (.inr (.inr (24, 0))), some (.inr (.inr (10, 0))), some (.inr (.inr (11, 0))), some (.inl (x3 + 6))]) aL_law_1243 rfl rfl (Nat.le_of_ble_eq_true rfl) rfl rfl ?_
          refine g_goto (tgt := 18) aL_law_1246 rfl ?_
          exact g_weak (lEL_law_18 (V := V) (S := S)   n _ _ h K1 K2) ⟨rfl, rfl, rfl, rfl, trivial⟩
        · have h := (if_neg c107).symm.trans h
          refine g_iconst (v := 0) aL_law_564 rfl ?_
          have h := Option.some.inj h
          subst h
          obtain ⟨hV, hS⟩ := K2 _ rfl
          subst hV; subst hS
          exact g_retE aL_law_565 (Or.inl rfl) rfl rfl
      have h := (if_neg c316).symm.trans h
      rcases Decidable.em (((σ.1 24 0 (x3 : Int32).toNatClampNeg) &&& 63) = 14) with c317 | c317
      · have h := (if_pos c317).symm.trans h
        refine g_tsIn (tgt := 566) (off := 533) aL_law_33 (by rw [c317]; decide) (by rw [c317]; decide) (by rw [c317]; rfl) rfl ?_
        refine g_aload_n aL_law_566 rfl ?_
        refine g_aload_n aL_law_567 rfl ?_
        refine g_iload_n aL_law_568 rfl ?_
        refine g_iconst (v := 1) aL_law_569 rfl ?_
        refine g_iadd aL_law_570 ?_
        obtain ⟨q108, h⟩ := ck_inv h
        refine g_sld (x := (σ.1 24 0 ((x3 + 1) : Int32).toNatClampNeg)) rfl aL_law_571 (inS_ok q108) rfl ?_
        obtain ⟨w109, hw109, h⟩ := bnd_inv h
        refine g_V1s (v1 := .inl w109.1) (σ1 := w109.2) aL_law_572 cvL_73 (E10_struck hw109) rfl (fun o110 => ?_)
        refine g_aload_n aL_law_575 rfl ?_
        refine g_aload_n aL_law_576 rfl ?_
        refine g_iload_n aL_law_577 rfl ?_
        refine g_iconst (v := 1) aL_law_578 rfl ?_
        refine g_iadd aL_law_579 ?_
        obtain ⟨q111, h⟩ := ck_inv h
        refine g_sld (x := (w109.2.1 24 0 ((x3 + 1) : Int32).toNatClampNeg)) rfl aL_law_580 (inS_ok q111) rfl ?_
        obtain ⟨w112, hw112, h⟩ := bnd_inv h
        refine g_V1s (v1 := .inl w112.1) (σ1 := w112.2) aL_law_581 cvL_76 (E11_struck hw112) rfl (fun o113 => ?_)
        refine g_icmp_eq (tgt := 1243) aL_law_584 rfl (fun c114 => ?_) (fun c114 => ?_)
        · have h := (if_pos c114).symm.trans h
          refine g_iinc (v := (x3 + 6)) (L' := [some (.inr (.inr (24, 0))), some (.inr (.inr (10, 0))), some (.inr (.inr (11, 0))), some (.inl (x3 + 6))]) aL_law_1243 rfl rfl (Nat.le_of_ble_eq_true rfl) rfl rfl ?_
          refine g_goto (tgt := 18) aL_law_1246 rfl ?_
          exact g_weak (lEL_law_18 (V := V) (S := S)   n _ _ h K1 K2) ⟨rfl, rfl, rfl, rfl, trivial⟩
        · have h := (if_neg c114).symm.trans h
          refine g_iconst (v := 0) aL_law_587 rfl ?_
          have h := Option.some.inj h
          subst h
          obtain ⟨hV, hS⟩ := K2 _ rfl
          subst hV; subst hS
          exact g_retE aL_law_588 (Or.inl rfl) rfl rfl
      have h := (if_neg c317).symm.trans h
      rcases Decidable.em (((σ.1 24 0 (x3 : Int32).toNatClampNeg) &&& 63) = 15) with c318 | c318
      · have h := (if_pos c318).symm.trans h
        refine g_tsIn (tgt := 589) (off := 556) aL_law_33 (by rw [c318]; decide) (by rw [c318]; decide) (by rw [c318]; rfl) rfl ?_
        refine g_aload_n aL_law_589 rfl ?_
        refine g_aload_n aL_law_590 rfl ?_
        refine g_iload_n aL_law_591 rfl ?_
        refine g_iconst (v := 1) aL_law_592 rfl ?_
        refine g_iadd aL_law_593 ?_
        obtain ⟨q115, h⟩ := ck_inv h
        refine g_sld (x := (σ.1 24 0 ((x3 + 1) : Int32).toNatClampNeg)) rfl aL_law_594 (inS_ok q115) rfl ?_
        obtain ⟨w116, hw116, h⟩ := bnd_inv h
        refine g_V1s (v1 := .inl w116.1) (σ1 := w116.2) aL_law_595 cvL_77 (E10_then hw116) rfl (fun o117 => ?_)
        refine g_aload_n aL_law_598 rfl ?_
        refine g_aload_n aL_law_599 rfl ?_
        refine g_iload_n aL_law_600 rfl ?_
        refine g_iconst (v := 1) aL_law_601 rfl ?_
        refine g_iadd aL_law_602 ?_
        obtain ⟨q118, h⟩ := ck_inv h
        refine g_sld (x := (w116.2.1 24 0 ((x3 + 1) : Int32).toNatClampNeg)) rfl aL_law_603 (inS_ok q118) rfl ?_
        obtain ⟨w119, hw119, h⟩ := bnd_inv h
        refine g_V1s (v1 := .inl w119.1) (σ1 := w119.2) aL_law_604 cvL_80 (E11_then hw119) rfl (fun o120 => ?_)
        refine g_icmp_eq (tgt := 1243) aL_law_607 rfl (fun c121 => ?_) (fun c121 => ?_)
        · have h := (if_pos c121).symm.trans h
          refine g_iinc (v := (x3 + 6)) (L' := [some (.inr (.inr (24, 0))), some (.inr (.inr (10, 0))), some (.inr (.inr (11, 0))), some (.inl (x3 + 6))]) aL_law_1243 rfl rfl (Nat.le_of_ble_eq_true rfl) rfl rfl ?_
          refine g_goto (tgt := 18) aL_law_1246 rfl ?_
          exact g_weak (lEL_law_18 (V := V) (S := S)   n _ _ h K1 K2) ⟨rfl, rfl, rfl, rfl, trivial⟩
        · have h := (if_neg c121).symm.trans h
          refine g_iconst (v := 0) aL_law_610 rfl ?_
          have h := Option.some.inj h
          subst h
          obtain ⟨hV, hS⟩ := K2 _ rfl
          subst hV; subst hS
          exact g_retE aL_law_611 (Or.inl rfl) rfl rfl
      have h := (if_neg c318).symm.trans h
      rcases Decidable.em (((σ.1 24 0 (x3 : Int32).toNatClampNeg) &&& 63) = 16) with c319 | c319
      · have h := (if_pos c319).symm.trans h
        refine g_tsIn (tgt := 612) (off := 579) aL_law_33 (by rw [c319]; decide) (by rw [c319]; decide) (by rw [c319]; rfl) rfl ?_
        refine g_aload_n aL_law_612 rfl ?_
        refine g_aload_n aL_law_613 rfl ?_
        refine g_iload_n aL_law_614 rfl ?_
        refine g_iconst (v := 1) aL_law_615 rfl ?_
        refine g_iadd aL_law_616 ?_
        obtain ⟨q122, h⟩ := ck_inv h
        refine g_sld (x := (σ.1 24 0 ((x3 + 1) : Int32).toNatClampNeg)) rfl aL_law_617 (inS_ok q122) rfl ?_
        obtain ⟨w123, hw123, h⟩ := bnd_inv h
        refine g_V1s (v1 := .inl w123.1) (σ1 := w123.2) aL_law_618 cvL_81 (E10_when hw123) rfl (fun o124 => ?_)
        refine g_aload_n aL_law_621 rfl ?_
        refine g_aload_n aL_law_622 rfl ?_
        refine g_iload_n aL_law_623 rfl ?_
        refine g_iconst (v := 1) aL_law_624 rfl ?_
        refine g_iadd aL_law_625 ?_
        obtain ⟨q125, h⟩ := ck_inv h
        refine g_sld (x := (w123.2.1 24 0 ((x3 + 1) : Int32).toNatClampNeg)) rfl aL_law_626 (inS_ok q125) rfl ?_
        obtain ⟨w126, hw126, h⟩ := bnd_inv h
        refine g_V1s (v1 := .inl w126.1) (σ1 := w126.2) aL_law_627 cvL_84 (E11_when hw126) rfl (fun o127 => ?_)
        refine g_icmp_eq (tgt := 1243) aL_law_630 rfl (fun c128 => ?_) (fun c128 => ?_)
        · have h := (if_pos c128).symm.trans h
          refine g_iinc (v := (x3 + 6)) (L' := [some (.inr (.inr (24, 0))), some (.inr (.inr (10, 0))), some (.inr (.inr (11, 0))), some (.inl (x3 + 6))]) aL_law_1243 rfl rfl (Nat.le_of_ble_eq_true rfl) rfl rfl ?_
          refine g_goto (tgt := 18) aL_law_1246 rfl ?_
          exact g_weak (lEL_law_18 (V := V) (S := S)   n _ _ h K1 K2) ⟨rfl, rfl, rfl, rfl, trivial⟩
        · have h := (if_neg c128).symm.trans h
          refine g_iconst (v := 0) aL_law_633 rfl ?_
          have h := Option.some.inj h
          subst h
          obtain ⟨hV, hS⟩ := K2 _ rfl
          subst hV; subst hS
          exact g_retE aL_law_634 (Or.inl rfl) rfl rfl
      have h := (if_neg c319).symm.trans h
      rcases Decidable.em (((σ.1 24 0 (x3 : Int32).toNatClampNeg) &&& 63) = 17) with c320 | c320
      · have h := (if_pos c320).symm.trans h
        refine g_tsIn (tgt := 635) (off := 602) aL_law_33 (by rw [c320]; decide) (by rw [c320]; decide) (by rw [c320]; rfl) rfl ?_
        refine g_aload_n aL_law_635 rfl ?_
        obtain ⟨w129, hw129, h⟩ := bnd_inv h
        refine g_V0s (v1 := .inl w129) (σ1 := σ) aL_law_636 cvL_85 (E10_whence hw129) rfl (fun o130 => ?_)
        refine g_aload_n aL_law_639 rfl ?_
        obtain ⟨w131, hw131, h⟩ := bnd_inv h
        refine g_V0s (v1 := .inl w131) (σ1 := σ) aL_law_640 cvL_88 (E11_whence hw131) rfl (fun o132 => ?_)
        refine g_icmp_eq (tgt := 1243) aL_law_643 rfl (fun c133 => ?_) (fun c133 => ?_)
        · have h := (if_pos c133).symm.trans h
          refine g_iinc (v := (x3 + 6)) (L' := [some (.inr (.inr (24, 0))), some (.inr (.inr (10, 0))), some (.inr (.inr (11, 0))), some (.inl (x3 + 6))]) aL_law_1243 rfl rfl (Nat.le_of_ble_eq_true rfl) rfl rfl ?_
          refine g_goto (tgt := 18) aL_law_1246 rfl ?_
          exact g_weak (lEL_law_18 (V := V) (S := S)   n _ _ h K1 K2) ⟨rfl, rfl, rfl, rfl, trivial⟩
        · have h := (if_neg c133).symm.trans h
          refine g_iconst (v := 0) aL_law_646 rfl ?_
          have h := Option.some.inj h
          subst h
          obtain ⟨hV, hS⟩ := K2 _ rfl
          subst hV; subst hS
          exact g_retE aL_law_647 (Or.inl rfl) rfl rfl
      have h := (if_neg c320).symm.trans h
      rcases Decidable.em (((σ.1 24 0 (x3 : Int32).toNatClampNeg) &&& 63) = 18) with c321 | c321
      · have h := (if_pos c321).symm.trans h
        refine g_tsIn (tgt := 648) (off := 615) aL_law_33 (by rw [c321]; decide) (by rw [c321]; decide) (by rw [c321]; rfl) rfl ?_
        refine g_aload_n aL_law_648 rfl ?_
        refine g_aload_n aL_law_649 rfl ?_
        refine g_iload_n aL_law_650 rfl ?_
        refine g_iconst (v := 1) aL_law_651 rfl ?_
        refine g_iadd aL_law_652 ?_
        obtain ⟨q134, h⟩ := ck_inv h
        refine g_sld (x := (σ.1 24 0 ((x3 + 1) : Int32).toNatClampNeg)) rfl aL_law_653 (inS_ok q134) rfl ?_
        obtain ⟨w135, hw135, h⟩ := bnd_inv h
        refine g_V1s (v1 := .inl w135.1) (σ1 := w135.2) aL_law_654 cvL_89 (E10_lead hw135) rfl (fun o136 => ?_)
        refine g_aload_n aL_law_657 rfl ?_
        refine g_aload_n aL_law_658 rfl ?_
        refine g_iload_n aL_law_659 rfl ?_
        refine g_iconst (v := 1) aL_law_660 rfl ?_
        refine g_iadd aL_law_661 ?_
        obtain ⟨q137, h⟩ := ck_inv h
        refine g_sld (x := (w135.2.1 24 0 ((x3 + 1) : Int32).toNatClampNeg)) rfl aL_law_662 (inS_ok q137) rfl ?_
        obtain ⟨w138, hw138, h⟩ := bnd_inv h
        refine g_V1s (v1 := .inl w138.1) (σ1 := w138.2) aL_law_663 cvL_92 (E11_lead hw138) rfl (fun o139 => ?_)
        refine g_icmp_eq (tgt := 1243) aL_law_666 rfl (fun c140 => ?_) (fun c140 => ?_)
        · have h := (if_pos c140).symm.trans h
          refine g_iinc (v := (x3 + 6)) (L' := [some (.inr (.inr (24, 0))), some (.inr (.inr (10, 0))), some (.inr (.inr (11, 0))), some (.inl (x3 + 6))]) aL_law_1243 rfl rfl (Nat.le_of_ble_eq_true rfl) rfl rfl ?_
          refine g_goto (tgt := 18) aL_law_1246 rfl ?_
          exact g_weak (lEL_law_18 (V := V) (S := S)   n _ _ h K1 K2) ⟨rfl, rfl, rfl, rfl, trivial⟩
        · have h := (if_neg c140).symm.trans h
          refine g_iconst (v := 0) aL_law_669 rfl ?_
          have h := Option.some.inj h
          subst h
          obtain ⟨hV, hS⟩ := K2 _ rfl
          subst hV; subst hS
          exact g_retE aL_law_670 (Or.inl rfl) rfl rfl
      have h := (if_neg c321).symm.trans h
      rcases Decidable.em (((σ.1 24 0 (x3 : Int32).toNatClampNeg) &&& 63) = 19) with c322 | c322
      · have h := (if_pos c322).symm.trans h
        refine g_tsIn (tgt := 671) (off := 638) aL_law_33 (by rw [c322]; decide) (by rw [c322]; decide) (by rw [c322]; rfl) rfl ?_
        refine g_aload_n aL_law_671 rfl ?_
        obtain ⟨w141, hw141, h⟩ := bnd_inv h
        refine g_V0s (v1 := .inl w141.1) (σ1 := w141.2) aL_law_672 cvL_93 (E10_spare hw141) rfl (fun o142 => ?_)
        refine g_aload_n aL_law_675 rfl ?_
        obtain ⟨w143, hw143, h⟩ := bnd_inv h
        refine g_V0s (v1 := .inl w143) (σ1 := w141.2) aL_law_676 cvL_96 (E11_spare hw143) rfl (fun o144 => ?_)
        refine g_icmp_eq (tgt := 1243) aL_law_679 rfl (fun c145 => ?_) (fun c145 => ?_)
        · have h := (if_pos c145).symm.trans h
          refine g_iinc (v := (x3 + 6)) (L' := [some (.inr (.inr (24, 0))), some (.inr (.inr (10, 0))), some (.inr (.inr (11, 0))), some (.inl (x3 + 6))]) aL_law_1243 rfl rfl (Nat.le_of_ble_eq_true rfl) rfl rfl ?_
          refine g_goto (tgt := 18) aL_law_1246 rfl ?_
          exact g_weak (lEL_law_18 (V := V) (S := S)   n _ _ h K1 K2) ⟨rfl, rfl, rfl, rfl, trivial⟩
        · have h := (if_neg c145).symm.trans h
          refine g_iconst (v := 0) aL_law_682 rfl ?_
          have h := Option.some.inj h
          subst h
          obtain ⟨hV, hS⟩ := K2 _ rfl
          subst hV; subst hS
          exact g_retE aL_law_683 (Or.inl rfl) rfl rfl
      have h := (if_neg c322).symm.trans h
      rcases Decidable.em (((σ.1 24 0 (x3 : Int32).toNatClampNeg) &&& 63) = 20) with c323 | c323
      · have h := (if_pos c323).symm.trans h
        refine g_tsIn (tgt := 684) (off := 651) aL_law_33 (by rw [c323]; decide) (by rw [c323]; decide) (by rw [c323]; rfl) rfl ?_
        refine g_aload_n aL_law_684 rfl ?_
        refine g_aload_n aL_law_685 rfl ?_
        refine g_iload_n aL_law_686 rfl ?_
        refine g_iconst (v := 1) aL_law_687 rfl ?_
        refine g_iadd aL_law_688 ?_
        obtain ⟨q146, h⟩ := ck_inv h
        refine g_sld (x := (σ.1 24 0 ((x3 + 1) : Int32).toNatClampNeg)) rfl aL_law_689 (inS_ok q146) rfl ?_
        refine g_aload_n aL_law_690 rfl ?_
        refine g_iload_n aL_law_691 rfl ?_
        refine g_iconst (v := 2) aL_law_692 rfl ?_
        refine g_iadd aL_law_693 ?_
        obtain ⟨q147, h⟩ := ck_inv h
        refine g_sld (x := (σ.1 24 0 ((x3 + 2) : Int32).toNatClampNeg)) rfl aL_law_694 (inS_ok q147) rfl ?_
        obtain ⟨w148, hw148, h⟩ := bnd_inv h
        refine g_V2s (v1 := .inl w148.1) (σ1 := w148.2) aL_law_695 cvL_97 (E10_order hw148) rfl (fun o149 => ?_)
        refine g_aload_n aL_law_698 rfl ?_
        refine g_aload_n aL_law_699 rfl ?_
        refine g_iload_n aL_law_700 rfl ?_
        refine g_iconst (v := 1) aL_law_701 rfl ?_
        refine g_iadd aL_law_702 ?_
        obtain ⟨q150, h⟩ := ck_inv h
        refine g_sld (x := (w148.2.1 24 0 ((x3 + 1) : Int32).toNatClampNeg)) rfl aL_law_703 (inS_ok q150) rfl ?_
        refine g_aload_n aL_law_704 rfl ?_
        refine g_iload_n aL_law_705 rfl ?_
        refine g_iconst (v := 2) aL_law_706 rfl ?_
        refine g_iadd aL_law_707 ?_
        obtain ⟨q151, h⟩ := ck_inv h
        refine g_sld (x := (w148.2.1 24 0 ((x3 + 2) : Int32).toNatClampNeg)) rfl aL_law_708 (inS_ok q151) rfl ?_
        obtain ⟨w152, hw152, h⟩ := bnd_inv h
        refine g_V2s (v1 := .inl w152.1) (σ1 := w152.2) aL_law_709 cvL_100 (E11_order hw152) rfl (fun o153 => ?_)
        refine g_icmp_eq (tgt := 1243) aL_law_712 rfl (fun c154 => ?_) (fun c154 => ?_)
        · have h := (if_pos c154).symm.trans h
          refine g_iinc (v := (x3 + 6)) (L' := [some (.inr (.inr (24, 0))), some (.inr (.inr (10, 0))), some (.inr (.inr (11, 0))), some (.inl (x3 + 6))]) aL_law_1243 rfl rfl (Nat.le_of_ble_eq_true rfl) rfl rfl ?_
          refine g_goto (tgt := 18) aL_law_1246 rfl ?_
          exact g_weak (lEL_law_18 (V := V) (S := S)   n _ _ h K1 K2) ⟨rfl, rfl, rfl, rfl, trivial⟩
        · have h := (if_neg c154).symm.trans h
          refine g_iconst (v := 0) aL_law_715 rfl ?_
          have h := Option.some.inj h
          subst h
          obtain ⟨hV, hS⟩ := K2 _ rfl
          subst hV; subst hS
          exact g_retE aL_law_716 (Or.inl rfl) rfl rfl
      have h := (if_neg c323).symm.trans h
      rcases Decidable.em (((σ.1 24 0 (x3 : Int32).toNatClampNeg) &&& 63) = 21) with c324 | c324
      · have h := (if_pos c324).symm.trans h
        refine g_tsIn (tgt := 717) (off := 684) aL_law_33 (by rw [c324]; decide) (by rw [c324]; decide) (by rw [c324]; rfl) rfl ?_
        refine g_aload_n aL_law_717 rfl ?_
        refine g_aload_n aL_law_718 rfl ?_
        refine g_iload_n aL_law_719 rfl ?_
        refine g_iconst (v := 1) aL_law_720 rfl ?_
        refine g_iadd aL_law_721 ?_
        obtain ⟨q155, h⟩ := ck_inv h
        refine g_sld (x := (σ.1 24 0 ((x3 + 1) : Int32).toNatClampNeg)) rfl aL_law_722 (inS_ok q155) rfl ?_
        refine g_aload_n aL_law_723 rfl ?_
        refine g_iload_n aL_law_724 rfl ?_
        refine g_iconst (v := 2) aL_law_725 rfl ?_
        refine g_iadd aL_law_726 ?_
        obtain ⟨q156, h⟩ := ck_inv h
        refine g_sld (x := (σ.1 24 0 ((x3 + 2) : Int32).toNatClampNeg)) rfl aL_law_727 (inS_ok q156) rfl ?_
        obtain ⟨w157, hw157, h⟩ := bnd_inv h
        refine g_V2s (v1 := .inl w157.1) (σ1 := w157.2) aL_law_728 cvL_101 (E10_seen hw157) rfl (fun o158 => ?_)
        refine g_aload_n aL_law_731 rfl ?_
        refine g_aload_n aL_law_732 rfl ?_
        refine g_iload_n aL_law_733 rfl ?_
        refine g_iconst (v := 1) aL_law_734 rfl ?_
        refine g_iadd aL_law_735 ?_
        obtain ⟨q159, h⟩ := ck_inv h
        refine g_sld (x := (w157.2.1 24 0 ((x3 + 1) : Int32).toNatClampNeg)) rfl aL_law_736 (inS_ok q159) rfl ?_
        refine g_aload_n aL_law_737 rfl ?_
        refine g_iload_n aL_law_738 rfl ?_
        refine g_iconst (v := 2) aL_law_739 rfl ?_
        refine g_iadd aL_law_740 ?_
        obtain ⟨q160, h⟩ := ck_inv h
        refine g_sld (x := (w157.2.1 24 0 ((x3 + 2) : Int32).toNatClampNeg)) rfl aL_law_741 (inS_ok q160) rfl ?_
        obtain ⟨w161, hw161, h⟩ := bnd_inv h
        refine g_V2s (v1 := .inl w161.1) (σ1 := w161.2) aL_law_742 cvL_104 (E11_seen hw161) rfl (fun o162 => ?_)
        refine g_icmp_eq (tgt := 1243) aL_law_745 rfl (fun c163 => ?_) (fun c163 => ?_)
        · have h := (if_pos c163).symm.trans h
          refine g_iinc (v := (x3 + 6)) (L' := [some (.inr (.inr (24, 0))), some (.inr (.inr (10, 0))), some (.inr (.inr (11, 0))), some (.inl (x3 + 6))]) aL_law_1243 rfl rfl (Nat.le_of_ble_eq_true rfl) rfl rfl ?_
          refine g_goto (tgt := 18) aL_law_1246 rfl ?_
          exact g_weak (lEL_law_18 (V := V) (S := S)   n _ _ h K1 K2) ⟨rfl, rfl, rfl, rfl, trivial⟩
        · have h := (if_neg c163).symm.trans h
          refine g_iconst (v := 0) aL_law_748 rfl ?_
          have h := Option.some.inj h
          subst h
          obtain ⟨hV, hS⟩ := K2 _ rfl
          subst hV; subst hS
          exact g_retE aL_law_749 (Or.inl rfl) rfl rfl
      have h := (if_neg c324).symm.trans h
      rcases Decidable.em (((σ.1 24 0 (x3 : Int32).toNatClampNeg) &&& 63) = 22) with c325 | c325
      · have h := (if_pos c325).symm.trans h
        refine g_tsIn (tgt := 750) (off := 717) aL_law_33 (by rw [c325]; decide) (by rw [c325]; decide) (by rw [c325]; rfl) rfl ?_
        refine g_aload_n aL_law_750 rfl ?_
        refine g_aload_n aL_law_751 rfl ?_
        refine g_iload_n aL_law_752 rfl ?_
        refine g_iconst (v := 1) aL_law_753 rfl ?_
        refine g_iadd aL_law_754 ?_
        obtain ⟨q164, h⟩ := ck_inv h
        refine g_sld (x := (σ.1 24 0 ((x3 + 1) : Int32).toNatClampNeg)) rfl aL_law_755 (inS_ok q164) rfl ?_
        refine g_aload_n aL_law_756 rfl ?_
        refine g_iload_n aL_law_757 rfl ?_
        refine g_iconst (v := 2) aL_law_758 rfl ?_
        refine g_iadd aL_law_759 ?_
        obtain ⟨q165, h⟩ := ck_inv h
        refine g_sld (x := (σ.1 24 0 ((x3 + 2) : Int32).toNatClampNeg)) rfl aL_law_760 (inS_ok q165) rfl ?_
        obtain ⟨w166, hw166, h⟩ := bnd_inv h
        refine g_V2s (v1 := .inl w166.1) (σ1 := w166.2) aL_law_761 cvL_105 (E10_tall hw166) rfl (fun o167 => ?_)
        refine g_aload_n aL_law_764 rfl ?_
        refine g_aload_n aL_law_765 rfl ?_
        refine g_iload_n aL_law_766 rfl ?_
        refine g_iconst (v := 1) aL_law_767 rfl ?_
        refine g_iadd aL_law_768 ?_
        obtain ⟨q168, h⟩ := ck_inv h
        refine g_sld (x := (w166.2.1 24 0 ((x3 + 1) : Int32).toNatClampNeg)) rfl aL_law_769 (inS_ok q168) rfl ?_
        refine g_aload_n aL_law_770 rfl ?_
        refine g_iload_n aL_law_771 rfl ?_
        refine g_iconst (v := 2) aL_law_772 rfl ?_
        refine g_iadd aL_law_773 ?_
        obtain ⟨q169, h⟩ := ck_inv h
        refine g_sld (x := (w166.2.1 24 0 ((x3 + 2) : Int32).toNatClampNeg)) rfl aL_law_774 (inS_ok q169) rfl ?_
        obtain ⟨w170, hw170, h⟩ := bnd_inv h
        refine g_V2s (v1 := .inl w170.1) (σ1 := w170.2) aL_law_775 cvL_108 (E11_tall hw170) rfl (fun o171 => ?_)
        refine g_icmp_eq (tgt := 1243) aL_law_778 rfl (fun c172 => ?_) (fun c172 => ?_)
        · have h := (if_pos c172).symm.trans h
          refine g_iinc (v := (x3 + 6)) (L' := [some (.inr (.inr (24, 0))), some (.inr (.inr (10, 0))), some (.inr (.inr (11, 0))), some (.inl (x3 + 6))]) aL_law_1243 rfl rfl (Nat.le_of_ble_eq_true rfl) rfl rfl ?_
          refine g_goto (tgt := 18) aL_law_1246 rfl ?_
          exact g_weak (lEL_law_18 (V := V) (S := S)   n _ _ h K1 K2) ⟨rfl, rfl, rfl, rfl, trivial⟩
        · have h := (if_neg c172).symm.trans h
          refine g_iconst (v := 0) aL_law_781 rfl ?_
          have h := Option.some.inj h
          subst h
          obtain ⟨hV, hS⟩ := K2 _ rfl
          subst hV; subst hS
          exact g_retE aL_law_782 (Or.inl rfl) rfl rfl
      have h := (if_neg c325).symm.trans h
      rcases Decidable.em (((σ.1 24 0 (x3 : Int32).toNatClampNeg) &&& 63) = 23) with c326 | c326
      · have h := (if_pos c326).symm.trans h
        refine g_tsIn (tgt := 783) (off := 750) aL_law_33 (by rw [c326]; decide) (by rw [c326]; decide) (by rw [c326]; rfl) rfl ?_
        refine g_aload_n aL_law_783 rfl ?_
        refine g_aload_n aL_law_784 rfl ?_
        refine g_iload_n aL_law_785 rfl ?_
        refine g_iconst (v := 1) aL_law_786 rfl ?_
        refine g_iadd aL_law_787 ?_
        obtain ⟨q173, h⟩ := ck_inv h
        refine g_sld (x := (σ.1 24 0 ((x3 + 1) : Int32).toNatClampNeg)) rfl aL_law_788 (inS_ok q173) rfl ?_
        refine g_aload_n aL_law_789 rfl ?_
        refine g_iload_n aL_law_790 rfl ?_
        refine g_iconst (v := 2) aL_law_791 rfl ?_
        refine g_iadd aL_law_792 ?_
        obtain ⟨q174, h⟩ := ck_inv h
        refine g_sld (x := (σ.1 24 0 ((x3 + 2) : Int32).toNatClampNeg)) rfl aL_law_793 (inS_ok q174) rfl ?_
        refine g_aload_n aL_law_794 rfl ?_
        refine g_iload_n aL_law_795 rfl ?_
        refine g_iconst (v := 3) aL_law_796 rfl ?_
        refine g_iadd aL_law_797 ?_
        obtain ⟨q175, h⟩ := ck_inv h
        refine g_sld (x := (σ.1 24 0 ((x3 + 3) : Int32).toNatClampNeg)) rfl aL_law_798 (inS_ok q175) rfl ?_
        refine g_aload_n aL_law_799 rfl ?_
        refine g_iload_n aL_law_800 rfl ?_
        refine g_iconst (v := 4) aL_law_801 rfl ?_
        refine g_iadd aL_law_802 ?_
        obtain ⟨q176, h⟩ := ck_inv h
        refine g_sld (x := (σ.1 24 0 ((x3 + 4) : Int32).toNatClampNeg)) rfl aL_law_803 (inS_ok q176) rfl ?_
        refine g_aload_n aL_law_804 rfl ?_
        refine g_iload_n aL_law_805 rfl ?_
        refine g_iconst (v := 5) aL_law_806 rfl ?_
        refine g_iadd aL_law_807 ?_
        obtain ⟨q177, h⟩ := ck_inv h
        refine g_sld (x := (σ.1 24 0 ((x3 + 5) : Int32).toNatClampNeg)) rfl aL_law_808 (inS_ok q177) rfl ?_
        obtain ⟨w178, hw178, h⟩ := bnd_inv h
        refine g_V5s (v1 := .inl w178.1) (σ1 := w178.2) aL_law_809 cvL_109 (E10_note hw178) rfl (fun o179 => ?_)
        refine g_aload_n aL_law_812 rfl ?_
        refine g_aload_n aL_law_813 rfl ?_
        refine g_iload_n aL_law_814 rfl ?_
        refine g_iconst (v := 1) aL_law_815 rfl ?_
        refine g_iadd aL_law_816 ?_
        obtain ⟨q180, h⟩ := ck_inv h
        refine g_sld (x := (w178.2.1 24 0 ((x3 + 1) : Int32).toNatClampNeg)) rfl aL_law_817 (inS_ok q180) rfl ?_
        refine g_aload_n aL_law_818 rfl ?_
        refine g_iload_n aL_law_819 rfl ?_
        refine g_iconst (v := 2) aL_law_820 rfl ?_
        refine g_iadd aL_law_821 ?_
        obtain ⟨q181, h⟩ := ck_inv h
        refine g_sld (x := (w178.2.1 24 0 ((x3 + 2) : Int32).toNatClampNeg)) rfl aL_law_822 (inS_ok q181) rfl ?_
        refine g_aload_n aL_law_823 rfl ?_
        refine g_iload_n aL_law_824 rfl ?_
        refine g_iconst (v := 3) aL_law_825 rfl ?_
        refine g_iadd aL_law_826 ?_
        obtain ⟨q182, h⟩ := ck_inv h
        refine g_sld (x := (w178.2.1 24 0 ((x3 + 3) : Int32).toNatClampNeg)) rfl aL_law_827 (inS_ok q182) rfl ?_
        refine g_aload_n aL_law_828 rfl ?_
        refine g_iload_n aL_law_829 rfl ?_
        refine g_iconst (v := 4) aL_law_830 rfl ?_
        refine g_iadd aL_law_831 ?_
        obtain ⟨q183, h⟩ := ck_inv h
        refine g_sld (x := (w178.2.1 24 0 ((x3 + 4) : Int32).toNatClampNeg)) rfl aL_law_832 (inS_ok q183) rfl ?_
        refine g_aload_n aL_law_833 rfl ?_
        refine g_iload_n aL_law_834 rfl ?_
        refine g_iconst (v := 5) aL_law_835 rfl ?_
        refine g_iadd aL_law_836 ?_
        obtain ⟨q184, h⟩ := ck_inv h
        refine g_sld (x := (w178.2.1 24 0 ((x3 + 5) : Int32).toNatClampNeg)) rfl aL_law_837 (inS_ok q184) rfl ?_
        obtain ⟨w185, hw185, h⟩ := bnd_inv h
        refine g_V5s (v1 := .inl w185.1) (σ1 := w185.2) aL_law_838 cvL_113 (E11_note hw185) rfl (fun o186 => ?_)
        refine g_icmp_eq (tgt := 1243) aL_law_841 rfl (fun c187 => ?_) (fun c187 => ?_)
        · have h := (if_pos c187).symm.trans h
          refine g_iinc (v := (x3 + 6)) (L' := [some (.inr (.inr (24, 0))), some (.inr (.inr (10, 0))), some (.inr (.inr (11, 0))), some (.inl (x3 + 6))]) aL_law_1243 rfl rfl (Nat.le_of_ble_eq_true rfl) rfl rfl ?_
          refine g_goto (tgt := 18) aL_law_1246 rfl ?_
          exact g_weak (lEL_law_18 (V := V) (S := S)   n _ _ h K1 K2) ⟨rfl, rfl, rfl, rfl, trivial⟩
        · have h := (if_neg c187).symm.trans h
          refine g_iconst (v := 0) aL_law_844 rfl ?_
          have h := Option.some.inj h
          subst h
          obtain ⟨hV, hS⟩ := K2 _ rfl
          subst hV; subst hS
          exact g_retE aL_law_845 (Or.inl rfl) rfl rfl
      have h := (if_neg c326).symm.trans h
      rcases Decidable.em (((σ.1 24 0 (x3 : Int32).toNatClampNeg) &&& 63) = 24) with c327 | c327
      · have h := (if_pos c327).symm.trans h
        refine g_tsIn (tgt := 846) (off := 813) aL_law_33 (by rw [c327]; decide) (by rw [c327]; decide) (by rw [c327]; rfl) rfl ?_
        refine g_aload_n aL_law_846 rfl ?_
        refine g_aload_n aL_law_847 rfl ?_
        refine g_iload_n aL_law_848 rfl ?_
        refine g_iconst (v := 1) aL_law_849 rfl ?_
        refine g_iadd aL_law_850 ?_
        obtain ⟨q188, h⟩ := ck_inv h
        refine g_sld (x := (σ.1 24 0 ((x3 + 1) : Int32).toNatClampNeg)) rfl aL_law_851 (inS_ok q188) rfl ?_
        refine g_aload_n aL_law_852 rfl ?_
        refine g_iload_n aL_law_853 rfl ?_
        refine g_iconst (v := 2) aL_law_854 rfl ?_
        refine g_iadd aL_law_855 ?_
        obtain ⟨q189, h⟩ := ck_inv h
        refine g_sld (x := (σ.1 24 0 ((x3 + 2) : Int32).toNatClampNeg)) rfl aL_law_856 (inS_ok q189) rfl ?_
        refine g_aload_n aL_law_857 rfl ?_
        refine g_iload_n aL_law_858 rfl ?_
        refine g_iconst (v := 3) aL_law_859 rfl ?_
        refine g_iadd aL_law_860 ?_
        obtain ⟨q190, h⟩ := ck_inv h
        refine g_sld (x := (σ.1 24 0 ((x3 + 3) : Int32).toNatClampNeg)) rfl aL_law_861 (inS_ok q190) rfl ?_
        refine g_aload_n aL_law_862 rfl ?_
        refine g_iload_n aL_law_863 rfl ?_
        refine g_iconst (v := 4) aL_law_864 rfl ?_
        refine g_iadd aL_law_865 ?_
        obtain ⟨q191, h⟩ := ck_inv h
        refine g_sld (x := (σ.1 24 0 ((x3 + 4) : Int32).toNatClampNeg)) rfl aL_law_866 (inS_ok q191) rfl ?_
        obtain ⟨w192, hw192, h⟩ := bnd_inv h
        refine g_V4s (v1 := .inl w192.1) (σ1 := w192.2) aL_law_867 cvL_114 (E10_mark hw192) rfl (fun o193 => ?_)
        refine g_aload_n aL_law_870 rfl ?_
        refine g_aload_n aL_law_871 rfl ?_
        refine g_iload_n aL_law_872 rfl ?_
        refine g_iconst (v := 1) aL_law_873 rfl ?_
        refine g_iadd aL_law_874 ?_
        obtain ⟨q194, h⟩ := ck_inv h
        refine g_sld (x := (w192.2.1 24 0 ((x3 + 1) : Int32).toNatClampNeg)) rfl aL_law_875 (inS_ok q194) rfl ?_
        refine g_aload_n aL_law_876 rfl ?_
        refine g_iload_n aL_law_877 rfl ?_
        refine g_iconst (v := 2) aL_law_878 rfl ?_
        refine g_iadd aL_law_879 ?_
        obtain ⟨q195, h⟩ := ck_inv h
        refine g_sld (x := (w192.2.1 24 0 ((x3 + 2) : Int32).toNatClampNeg)) rfl aL_law_880 (inS_ok q195) rfl ?_
        refine g_aload_n aL_law_881 rfl ?_
        refine g_iload_n aL_law_882 rfl ?_
        refine g_iconst (v := 3) aL_law_883 rfl ?_
        refine g_iadd aL_law_884 ?_
        obtain ⟨q196, h⟩ := ck_inv h
        refine g_sld (x := (w192.2.1 24 0 ((x3 + 3) : Int32).toNatClampNeg)) rfl aL_law_885 (inS_ok q196) rfl ?_
        refine g_aload_n aL_law_886 rfl ?_
        refine g_iload_n aL_law_887 rfl ?_
        refine g_iconst (v := 4) aL_law_888 rfl ?_
        refine g_iadd aL_law_889 ?_
        obtain ⟨q197, h⟩ := ck_inv h
        refine g_sld (x := (w192.2.1 24 0 ((x3 + 4) : Int32).toNatClampNeg)) rfl aL_law_890 (inS_ok q197) rfl ?_
        obtain ⟨w198, hw198, h⟩ := bnd_inv h
        refine g_V4s (v1 := .inl w198.1) (σ1 := w198.2) aL_law_891 cvL_118 (E11_mark hw198) rfl (fun o199 => ?_)
        refine g_icmp_eq (tgt := 1243) aL_law_894 rfl (fun c200 => ?_) (fun c200 => ?_)
        · have h := (if_pos c200).symm.trans h
          refine g_iinc (v := (x3 + 6)) (L' := [some (.inr (.inr (24, 0))), some (.inr (.inr (10, 0))), some (.inr (.inr (11, 0))), some (.inl (x3 + 6))]) aL_law_1243 rfl rfl (Nat.le_of_ble_eq_true rfl) rfl rfl ?_
          refine g_goto (tgt := 18) aL_law_1246 rfl ?_
          exact g_weak (lEL_law_18 (V := V) (S := S)   n _ _ h K1 K2) ⟨rfl, rfl, rfl, rfl, trivial⟩
        · have h := (if_neg c200).symm.trans h
          refine g_iconst (v := 0) aL_law_897 rfl ?_
          have h := Option.some.inj h
          subst h
          obtain ⟨hV, hS⟩ := K2 _ rfl
          subst hV; subst hS
          exact g_retE aL_law_898 (Or.inl rfl) rfl rfl
      have h := (if_neg c327).symm.trans h
      rcases Decidable.em (((σ.1 24 0 (x3 : Int32).toNatClampNeg) &&& 63) = 25) with c328 | c328
      · have h := (if_pos c328).symm.trans h
        refine g_tsIn (tgt := 899) (off := 866) aL_law_33 (by rw [c328]; decide) (by rw [c328]; decide) (by rw [c328]; rfl) rfl ?_
        refine g_aload_n aL_law_899 rfl ?_
        refine g_aload_n aL_law_900 rfl ?_
        refine g_iload_n aL_law_901 rfl ?_
        refine g_iconst (v := 1) aL_law_902 rfl ?_
        refine g_iadd aL_law_903 ?_
        obtain ⟨q201, h⟩ := ck_inv h
        refine g_sld (x := (σ.1 24 0 ((x3 + 1) : Int32).toNatClampNeg)) rfl aL_law_904 (inS_ok q201) rfl ?_
        obtain ⟨w202, hw202, h⟩ := lt_inv h
        refine g_V1s (v1 := .inl w202.1) (σ1 := w202.2) aL_law_905 cvL_119 (by rw [← hw202]; exact E10_forget _ _ _) rfl (fun o203 => ?_)
        refine g_aload_n aL_law_908 rfl ?_
        refine g_aload_n aL_law_909 rfl ?_
        refine g_iload_n aL_law_910 rfl ?_
        refine g_iconst (v := 1) aL_law_911 rfl ?_
        refine g_iadd aL_law_912 ?_
        obtain ⟨q204, h⟩ := ck_inv h
        refine g_sld (x := (w202.2.1 24 0 ((x3 + 1) : Int32).toNatClampNeg)) rfl aL_law_913 (inS_ok q204) rfl ?_
        obtain ⟨w205, hw205, h⟩ := bnd_inv h
        refine g_V1s (v1 := .inl w205.1) (σ1 := w205.2) aL_law_914 cvL_122 (E11_forget hw205) rfl (fun o206 => ?_)
        refine g_icmp_eq (tgt := 1243) aL_law_917 rfl (fun c207 => ?_) (fun c207 => ?_)
        · have h := (if_pos c207).symm.trans h
          refine g_iinc (v := (x3 + 6)) (L' := [some (.inr (.inr (24, 0))), some (.inr (.inr (10, 0))), some (.inr (.inr (11, 0))), some (.inl (x3 + 6))]) aL_law_1243 rfl rfl (Nat.le_of_ble_eq_true rfl) rfl rfl ?_
          refine g_goto (tgt := 18) aL_law_1246 rfl ?_
          exact g_weak (lEL_law_18 (V := V) (S := S)   n _ _ h K1 K2) ⟨rfl, rfl, rfl, rfl, trivial⟩
        · have h := (if_neg c207).symm.trans h
          refine g_iconst (v := 0) aL_law_920 rfl ?_
          have h := Option.some.inj h
          subst h
          obtain ⟨hV, hS⟩ := K2 _ rfl
          subst hV; subst hS
          exact g_retE aL_law_921 (Or.inl rfl) rfl rfl
      have h := (if_neg c328).symm.trans h
      rcases Decidable.em (((σ.1 24 0 (x3 : Int32).toNatClampNeg) &&& 63) = 26) with c329 | c329
      · have h := (if_pos c329).symm.trans h
        refine g_tsIn (tgt := 922) (off := 889) aL_law_33 (by rw [c329]; decide) (by rw [c329]; decide) (by rw [c329]; rfl) rfl ?_
        refine g_aload_n aL_law_922 rfl ?_
        refine g_aload_n aL_law_923 rfl ?_
        refine g_iload_n aL_law_924 rfl ?_
        refine g_iconst (v := 1) aL_law_925 rfl ?_
        refine g_iadd aL_law_926 ?_
        obtain ⟨q208, h⟩ := ck_inv h
        refine g_sld (x := (σ.1 24 0 ((x3 + 1) : Int32).toNatClampNeg)) rfl aL_law_927 (inS_ok q208) rfl ?_
        obtain ⟨w209, hw209, h⟩ := bnd_inv h
        refine g_V1s (v1 := .inl w209.1) (σ1 := w209.2) aL_law_928 cvL_123 (E10_is hw209) rfl (fun o210 => ?_)
        refine g_aload_n aL_law_931 rfl ?_
        refine g_aload_n aL_law_932 rfl ?_
        refine g_iload_n aL_law_933 rfl ?_
        refine g_iconst (v := 1) aL_law_934 rfl ?_
        refine g_iadd aL_law_935 ?_
        obtain ⟨q211, h⟩ := ck_inv h
        refine g_sld (x := (w209.2.1 24 0 ((x3 + 1) : Int32).toNatClampNeg)) rfl aL_law_936 (inS_ok q211) rfl ?_
        obtain ⟨w212, hw212, h⟩ := bnd_inv h
        refine g_V1s (v1 := .inl w212.1) (σ1 := w212.2) aL_law_937 cvL_126 (E11_is hw212) rfl (fun o213 => ?_)
        refine g_icmp_eq (tgt := 1243) aL_law_940 rfl (fun c214 => ?_) (fun c214 => ?_)
        · have h := (if_pos c214).symm.trans h
          refine g_iinc (v := (x3 + 6)) (L' := [some (.inr (.inr (24, 0))), some (.inr (.inr (10, 0))), some (.inr (.inr (11, 0))), some (.inl (x3 + 6))]) aL_law_1243 rfl rfl (Nat.le_of_ble_eq_true rfl) rfl rfl ?_
          refine g_goto (tgt := 18) aL_law_1246 rfl ?_
          exact g_weak (lEL_law_18 (V := V) (S := S)   n _ _ h K1 K2) ⟨rfl, rfl, rfl, rfl, trivial⟩
        · have h := (if_neg c214).symm.trans h
          refine g_iconst (v := 0) aL_law_943 rfl ?_
          have h := Option.some.inj h
          subst h
          obtain ⟨hV, hS⟩ := K2 _ rfl
          subst hV; subst hS
          exact g_retE aL_law_944 (Or.inl rfl) rfl rfl
      have h := (if_neg c329).symm.trans h
      rcases Decidable.em (((σ.1 24 0 (x3 : Int32).toNatClampNeg) &&& 63) = 27) with c330 | c330
      · have h := (if_pos c330).symm.trans h
        refine g_tsIn (tgt := 945) (off := 912) aL_law_33 (by rw [c330]; decide) (by rw [c330]; decide) (by rw [c330]; rfl) rfl ?_
        refine g_aload_n aL_law_945 rfl ?_
        refine g_aload_n aL_law_946 rfl ?_
        refine g_iload_n aL_law_947 rfl ?_
        refine g_iconst (v := 1) aL_law_948 rfl ?_
        refine g_iadd aL_law_949 ?_
        obtain ⟨q215, h⟩ := ck_inv h
        refine g_sld (x := (σ.1 24 0 ((x3 + 1) : Int32).toNatClampNeg)) rfl aL_law_950 (inS_ok q215) rfl ?_
        obtain ⟨w216, hw216, h⟩ := bnd_inv h
        refine g_V1s (v1 := .inl w216.1) (σ1 := w216.2) aL_law_951 cvL_127 (E10_look hw216) rfl (fun o217 => ?_)
        refine g_aload_n aL_law_954 rfl ?_
        refine g_aload_n aL_law_955 rfl ?_
        refine g_iload_n aL_law_956 rfl ?_
        refine g_iconst (v := 1) aL_law_957 rfl ?_
        refine g_iadd aL_law_958 ?_
        obtain ⟨q218, h⟩ := ck_inv h
        refine g_sld (x := (w216.2.1 24 0 ((x3 + 1) : Int32).toNatClampNeg)) rfl aL_law_959 (inS_ok q218) rfl ?_
        obtain ⟨w219, hw219, h⟩ := bnd_inv h
        refine g_V1s (v1 := .inl w219.1) (σ1 := w219.2) aL_law_960 cvL_130 (E11_look hw219) rfl (fun o220 => ?_)
        refine g_icmp_eq (tgt := 1243) aL_law_963 rfl (fun c221 => ?_) (fun c221 => ?_)
        · have h := (if_pos c221).symm.trans h
          refine g_iinc (v := (x3 + 6)) (L' := [some (.inr (.inr (24, 0))), some (.inr (.inr (10, 0))), some (.inr (.inr (11, 0))), some (.inl (x3 + 6))]) aL_law_1243 rfl rfl (Nat.le_of_ble_eq_true rfl) rfl rfl ?_
          refine g_goto (tgt := 18) aL_law_1246 rfl ?_
          exact g_weak (lEL_law_18 (V := V) (S := S)   n _ _ h K1 K2) ⟨rfl, rfl, rfl, rfl, trivial⟩
        · have h := (if_neg c221).symm.trans h
          refine g_iconst (v := 0) aL_law_966 rfl ?_
          have h := Option.some.inj h
          subst h
          obtain ⟨hV, hS⟩ := K2 _ rfl
          subst hV; subst hS
          exact g_retE aL_law_967 (Or.inl rfl) rfl rfl
      have h := (if_neg c330).symm.trans h
      rcases Decidable.em (((σ.1 24 0 (x3 : Int32).toNatClampNeg) &&& 63) = 28) with c331 | c331
      · have h := (if_pos c331).symm.trans h
        refine g_tsIn (tgt := 968) (off := 935) aL_law_33 (by rw [c331]; decide) (by rw [c331]; decide) (by rw [c331]; rfl) rfl ?_
        refine g_aload_n aL_law_968 rfl ?_
        refine g_aload_n aL_law_969 rfl ?_
        refine g_iload_n aL_law_970 rfl ?_
        refine g_iconst (v := 1) aL_law_971 rfl ?_
        refine g_iadd aL_law_972 ?_
        obtain ⟨q222, h⟩ := ck_inv h
        refine g_sld (x := (σ.1 24 0 ((x3 + 1) : Int32).toNatClampNeg)) rfl aL_law_973 (inS_ok q222) rfl ?_
        obtain ⟨w223, hw223, h⟩ := bnd_inv h
        refine g_V1s (v1 := .inl w223.1) (σ1 := w223.2) aL_law_974 cvL_131 (E10_kinds hw223) rfl (fun o224 => ?_)
        refine g_aload_n aL_law_977 rfl ?_
        refine g_aload_n aL_law_978 rfl ?_
        refine g_iload_n aL_law_979 rfl ?_
        refine g_iconst (v := 1) aL_law_980 rfl ?_
        refine g_iadd aL_law_981 ?_
        obtain ⟨q225, h⟩ := ck_inv h
        refine g_sld (x := (w223.2.1 24 0 ((x3 + 1) : Int32).toNatClampNeg)) rfl aL_law_982 (inS_ok q225) rfl ?_
        obtain ⟨w226, hw226, h⟩ := bnd_inv h
        refine g_V1s (v1 := .inl w226.1) (σ1 := w226.2) aL_law_983 cvL_134 (E11_kinds hw226) rfl (fun o227 => ?_)
        refine g_icmp_eq (tgt := 1243) aL_law_986 rfl (fun c228 => ?_) (fun c228 => ?_)
        · have h := (if_pos c228).symm.trans h
          refine g_iinc (v := (x3 + 6)) (L' := [some (.inr (.inr (24, 0))), some (.inr (.inr (10, 0))), some (.inr (.inr (11, 0))), some (.inl (x3 + 6))]) aL_law_1243 rfl rfl (Nat.le_of_ble_eq_true rfl) rfl rfl ?_
          refine g_goto (tgt := 18) aL_law_1246 rfl ?_
          exact g_weak (lEL_law_18 (V := V) (S := S)   n _ _ h K1 K2) ⟨rfl, rfl, rfl, rfl, trivial⟩
        · have h := (if_neg c228).symm.trans h
          refine g_iconst (v := 0) aL_law_989 rfl ?_
          have h := Option.some.inj h
          subst h
          obtain ⟨hV, hS⟩ := K2 _ rfl
          subst hV; subst hS
          exact g_retE aL_law_990 (Or.inl rfl) rfl rfl
      have h := (if_neg c331).symm.trans h
      rcases Decidable.em (((σ.1 24 0 (x3 : Int32).toNatClampNeg) &&& 63) = 29) with c332 | c332
      · have h := (if_pos c332).symm.trans h
        refine g_tsIn (tgt := 991) (off := 958) aL_law_33 (by rw [c332]; decide) (by rw [c332]; decide) (by rw [c332]; rfl) rfl ?_
        refine g_aload_n aL_law_991 rfl ?_
        refine g_aload_n aL_law_992 rfl ?_
        refine g_iload_n aL_law_993 rfl ?_
        refine g_iconst (v := 1) aL_law_994 rfl ?_
        refine g_iadd aL_law_995 ?_
        obtain ⟨q229, h⟩ := ck_inv h
        refine g_sld (x := (σ.1 24 0 ((x3 + 1) : Int32).toNatClampNeg)) rfl aL_law_996 (inS_ok q229) rfl ?_
        obtain ⟨w230, hw230, h⟩ := bnd_inv h
        refine g_V1s (v1 := .inl w230.1) (σ1 := w230.2) aL_law_997 cvL_135 (E10_ask hw230) rfl (fun o231 => ?_)
        refine g_aload_n aL_law_1000 rfl ?_
        refine g_aload_n aL_law_1001 rfl ?_
        refine g_iload_n aL_law_1002 rfl ?_
        refine g_iconst (v := 1) aL_law_1003 rfl ?_
        refine g_iadd aL_law_1004 ?_
        obtain ⟨q232, h⟩ := ck_inv h
        refine g_sld (x := (w230.2.1 24 0 ((x3 + 1) : Int32).toNatClampNeg)) rfl aL_law_1005 (inS_ok q232) rfl ?_
        obtain ⟨w233, hw233, h⟩ := bnd_inv h
        refine g_V1s (v1 := .inl w233.1) (σ1 := w233.2) aL_law_1006 cvL_138 (E11_ask hw233) rfl (fun o234 => ?_)
        refine g_icmp_eq (tgt := 1243) aL_law_1009 rfl (fun c235 => ?_) (fun c235 => ?_)
        · have h := (if_pos c235).symm.trans h
          refine g_iinc (v := (x3 + 6)) (L' := [some (.inr (.inr (24, 0))), some (.inr (.inr (10, 0))), some (.inr (.inr (11, 0))), some (.inl (x3 + 6))]) aL_law_1243 rfl rfl (Nat.le_of_ble_eq_true rfl) rfl rfl ?_
          refine g_goto (tgt := 18) aL_law_1246 rfl ?_
          exact g_weak (lEL_law_18 (V := V) (S := S)   n _ _ h K1 K2) ⟨rfl, rfl, rfl, rfl, trivial⟩
        · have h := (if_neg c235).symm.trans h
          refine g_iconst (v := 0) aL_law_1012 rfl ?_
          have h := Option.some.inj h
          subst h
          obtain ⟨hV, hS⟩ := K2 _ rfl
          subst hV; subst hS
          exact g_retE aL_law_1013 (Or.inl rfl) rfl rfl
      have h := (if_neg c332).symm.trans h
      rcases Decidable.em (((σ.1 24 0 (x3 : Int32).toNatClampNeg) &&& 63) = 30) with c333 | c333
      · have h := (if_pos c333).symm.trans h
        refine g_tsIn (tgt := 1014) (off := 981) aL_law_33 (by rw [c333]; decide) (by rw [c333]; decide) (by rw [c333]; rfl) rfl ?_
        refine g_aload_n aL_law_1014 rfl ?_
        refine g_aload_n aL_law_1015 rfl ?_
        refine g_iload_n aL_law_1016 rfl ?_
        refine g_iconst (v := 1) aL_law_1017 rfl ?_
        refine g_iadd aL_law_1018 ?_
        obtain ⟨q236, h⟩ := ck_inv h
        refine g_sld (x := (σ.1 24 0 ((x3 + 1) : Int32).toNatClampNeg)) rfl aL_law_1019 (inS_ok q236) rfl ?_
        refine g_aload_n aL_law_1020 rfl ?_
        refine g_iload_n aL_law_1021 rfl ?_
        refine g_iconst (v := 2) aL_law_1022 rfl ?_
        refine g_iadd aL_law_1023 ?_
        obtain ⟨q237, h⟩ := ck_inv h
        refine g_sld (x := (σ.1 24 0 ((x3 + 2) : Int32).toNatClampNeg)) rfl aL_law_1024 (inS_ok q237) rfl ?_
        obtain ⟨w238, hw238, h⟩ := bnd_inv h
        refine g_V2s (v1 := .inl w238.1) (σ1 := w238.2) aL_law_1025 cvL_139 (E10_sweep hw238) rfl (fun o239 => ?_)
        refine g_aload_n aL_law_1028 rfl ?_
        refine g_aload_n aL_law_1029 rfl ?_
        refine g_iload_n aL_law_1030 rfl ?_
        refine g_iconst (v := 1) aL_law_1031 rfl ?_
        refine g_iadd aL_law_1032 ?_
        obtain ⟨q240, h⟩ := ck_inv h
        refine g_sld (x := (w238.2.1 24 0 ((x3 + 1) : Int32).toNatClampNeg)) rfl aL_law_1033 (inS_ok q240) rfl ?_
        refine g_aload_n aL_law_1034 rfl ?_
        refine g_iload_n aL_law_1035 rfl ?_
        refine g_iconst (v := 2) aL_law_1036 rfl ?_
        refine g_iadd aL_law_1037 ?_
        obtain ⟨q241, h⟩ := ck_inv h
        refine g_sld (x := (w238.2.1 24 0 ((x3 + 2) : Int32).toNatClampNeg)) rfl aL_law_1038 (inS_ok q241) rfl ?_
        obtain ⟨w242, hw242, h⟩ := bnd_inv h
        refine g_V2s (v1 := .inl w242.1) (σ1 := w242.2) aL_law_1039 cvL_142 (E11_sweep hw242) rfl (fun o243 => ?_)
        refine g_icmp_eq (tgt := 1243) aL_law_1042 rfl (fun c244 => ?_) (fun c244 => ?_)
        · have h := (if_pos c244).symm.trans h
          refine g_iinc (v := (x3 + 6)) (L' := [some (.inr (.inr (24, 0))), some (.inr (.inr (10, 0))), some (.inr (.inr (11, 0))), some (.inl (x3 + 6))]) aL_law_1243 rfl rfl (Nat.le_of_ble_eq_true rfl) rfl rfl ?_
          refine g_goto (tgt := 18) aL_law_1246 rfl ?_
          exact g_weak (lEL_law_18 (V := V) (S := S)   n _ _ h K1 K2) ⟨rfl, rfl, rfl, rfl, trivial⟩
        · have h := (if_neg c244).symm.trans h
          refine g_iconst (v := 0) aL_law_1045 rfl ?_
          have h := Option.some.inj h
          subst h
          obtain ⟨hV, hS⟩ := K2 _ rfl
          subst hV; subst hS
          exact g_retE aL_law_1046 (Or.inl rfl) rfl rfl
      have h := (if_neg c333).symm.trans h
      rcases Decidable.em (((σ.1 24 0 (x3 : Int32).toNatClampNeg) &&& 63) = 31) with c334 | c334
      · have h := (if_pos c334).symm.trans h
        refine g_tsIn (tgt := 1047) (off := 1014) aL_law_33 (by rw [c334]; decide) (by rw [c334]; decide) (by rw [c334]; rfl) rfl ?_
        refine g_aload_n aL_law_1047 rfl ?_
        refine g_aload_n aL_law_1048 rfl ?_
        refine g_iload_n aL_law_1049 rfl ?_
        refine g_iconst (v := 1) aL_law_1050 rfl ?_
        refine g_iadd aL_law_1051 ?_
        obtain ⟨q245, h⟩ := ck_inv h
        refine g_sld (x := (σ.1 24 0 ((x3 + 1) : Int32).toNatClampNeg)) rfl aL_law_1052 (inS_ok q245) rfl ?_
        refine g_aload_n aL_law_1053 rfl ?_
        refine g_iload_n aL_law_1054 rfl ?_
        refine g_iconst (v := 2) aL_law_1055 rfl ?_
        refine g_iadd aL_law_1056 ?_
        obtain ⟨q246, h⟩ := ck_inv h
        refine g_sld (x := (σ.1 24 0 ((x3 + 2) : Int32).toNatClampNeg)) rfl aL_law_1057 (inS_ok q246) rfl ?_
        obtain ⟨w247, hw247, h⟩ := bnd_inv h
        refine g_V2s (v1 := .inl w247.1) (σ1 := w247.2) aL_law_1058 cvL_143 (E10_falls hw247) rfl (fun o248 => ?_)
        refine g_aload_n aL_law_1061 rfl ?_
        refine g_aload_n aL_law_1062 rfl ?_
        refine g_iload_n aL_law_1063 rfl ?_
        refine g_iconst (v := 1) aL_law_1064 rfl ?_
        refine g_iadd aL_law_1065 ?_
        obtain ⟨q249, h⟩ := ck_inv h
        refine g_sld (x := (w247.2.1 24 0 ((x3 + 1) : Int32).toNatClampNeg)) rfl aL_law_1066 (inS_ok q249) rfl ?_
        refine g_aload_n aL_law_1067 rfl ?_
        refine g_iload_n aL_law_1068 rfl ?_
        refine g_iconst (v := 2) aL_law_1069 rfl ?_
        refine g_iadd aL_law_1070 ?_
        obtain ⟨q250, h⟩ := ck_inv h
        refine g_sld (x := (w247.2.1 24 0 ((x3 + 2) : Int32).toNatClampNeg)) rfl aL_law_1071 (inS_ok q250) rfl ?_
        obtain ⟨w251, hw251, h⟩ := bnd_inv h
        refine g_V2s (v1 := .inl w251.1) (σ1 := w251.2) aL_law_1072 cvL_146 (E11_falls hw251) rfl (fun o252 => ?_)
        refine g_icmp_eq (tgt := 1243) aL_law_1075 rfl (fun c253 => ?_) (fun c253 => ?_)
        · have h := (if_pos c253).symm.trans h
          refine g_iinc (v := (x3 + 6)) (L' := [some (.inr (.inr (24, 0))), some (.inr (.inr (10, 0))), some (.inr (.inr (11, 0))), some (.inl (x3 + 6))]) aL_law_1243 rfl rfl (Nat.le_of_ble_eq_true rfl) rfl rfl ?_
          refine g_goto (tgt := 18) aL_law_1246 rfl ?_
          exact g_weak (lEL_law_18 (V := V) (S := S)   n _ _ h K1 K2) ⟨rfl, rfl, rfl, rfl, trivial⟩
        · have h := (if_neg c253).symm.trans h
          refine g_iconst (v := 0) aL_law_1078 rfl ?_
          have h := Option.some.inj h
          subst h
          obtain ⟨hV, hS⟩ := K2 _ rfl
          subst hV; subst hS
          exact g_retE aL_law_1079 (Or.inl rfl) rfl rfl
      have h := (if_neg c334).symm.trans h
      rcases Decidable.em (((σ.1 24 0 (x3 : Int32).toNatClampNeg) &&& 63) = 32) with c335 | c335
      · have h := (if_pos c335).symm.trans h
        refine g_tsIn (tgt := 1080) (off := 1047) aL_law_33 (by rw [c335]; decide) (by rw [c335]; decide) (by rw [c335]; rfl) rfl ?_
        refine g_aload_n aL_law_1080 rfl ?_
        refine g_aload_n aL_law_1081 rfl ?_
        refine g_iload_n aL_law_1082 rfl ?_
        refine g_iconst (v := 1) aL_law_1083 rfl ?_
        refine g_iadd aL_law_1084 ?_
        obtain ⟨q254, h⟩ := ck_inv h
        refine g_sld (x := (σ.1 24 0 ((x3 + 1) : Int32).toNatClampNeg)) rfl aL_law_1085 (inS_ok q254) rfl ?_
        refine g_aload_n aL_law_1086 rfl ?_
        refine g_iload_n aL_law_1087 rfl ?_
        refine g_iconst (v := 2) aL_law_1088 rfl ?_
        refine g_iadd aL_law_1089 ?_
        obtain ⟨q255, h⟩ := ck_inv h
        refine g_sld (x := (σ.1 24 0 ((x3 + 2) : Int32).toNatClampNeg)) rfl aL_law_1090 (inS_ok q255) rfl ?_
        obtain ⟨w256, hw256, h⟩ := bnd_inv h
        refine g_V2s (v1 := .inl w256.1) (σ1 := w256.2) aL_law_1091 cvL_147 (E10_septembers hw256) rfl (fun o257 => ?_)
        refine g_aload_n aL_law_1094 rfl ?_
        refine g_aload_n aL_law_1095 rfl ?_
        refine g_iload_n aL_law_1096 rfl ?_
        refine g_iconst (v := 1) aL_law_1097 rfl ?_
        refine g_iadd aL_law_1098 ?_
        obtain ⟨q258, h⟩ := ck_inv h
        refine g_sld (x := (w256.2.1 24 0 ((x3 + 1) : Int32).toNatClampNeg)) rfl aL_law_1099 (inS_ok q258) rfl ?_
        refine g_aload_n aL_law_1100 rfl ?_
        refine g_iload_n aL_law_1101 rfl ?_
        refine g_iconst (v := 2) aL_law_1102 rfl ?_
        refine g_iadd aL_law_1103 ?_
        obtain ⟨q259, h⟩ := ck_inv h
        refine g_sld (x := (w256.2.1 24 0 ((x3 + 2) : Int32).toNatClampNeg)) rfl aL_law_1104 (inS_ok q259) rfl ?_
        obtain ⟨w260, hw260, h⟩ := bnd_inv h
        refine g_V2s (v1 := .inl w260.1) (σ1 := w260.2) aL_law_1105 cvL_150 (E11_septembers hw260) rfl (fun o261 => ?_)
        refine g_icmp_eq (tgt := 1243) aL_law_1108 rfl (fun c262 => ?_) (fun c262 => ?_)
        · have h := (if_pos c262).symm.trans h
          refine g_iinc (v := (x3 + 6)) (L' := [some (.inr (.inr (24, 0))), some (.inr (.inr (10, 0))), some (.inr (.inr (11, 0))), some (.inl (x3 + 6))]) aL_law_1243 rfl rfl (Nat.le_of_ble_eq_true rfl) rfl rfl ?_
          refine g_goto (tgt := 18) aL_law_1246 rfl ?_
          exact g_weak (lEL_law_18 (V := V) (S := S)   n _ _ h K1 K2) ⟨rfl, rfl, rfl, rfl, trivial⟩
        · have h := (if_neg c262).symm.trans h
          refine g_iconst (v := 0) aL_law_1111 rfl ?_
          have h := Option.some.inj h
          subst h
          obtain ⟨hV, hS⟩ := K2 _ rfl
          subst hV; subst hS
          exact g_retE aL_law_1112 (Or.inl rfl) rfl rfl
      have h := (if_neg c335).symm.trans h
      rcases Decidable.em (((σ.1 24 0 (x3 : Int32).toNatClampNeg) &&& 63) = 33) with c336 | c336
      · have h := (if_pos c336).symm.trans h
        refine g_tsIn (tgt := 1113) (off := 1080) aL_law_33 (by rw [c336]; decide) (by rw [c336]; decide) (by rw [c336]; rfl) rfl ?_
        refine g_aload_n aL_law_1113 rfl ?_
        refine g_aload_n aL_law_1114 rfl ?_
        refine g_iload_n aL_law_1115 rfl ?_
        refine g_iconst (v := 1) aL_law_1116 rfl ?_
        refine g_iadd aL_law_1117 ?_
        obtain ⟨q263, h⟩ := ck_inv h
        refine g_sld (x := (σ.1 24 0 ((x3 + 1) : Int32).toNatClampNeg)) rfl aL_law_1118 (inS_ok q263) rfl ?_
        obtain ⟨w264, hw264, h⟩ := lt_inv h
        refine g_V1s (v1 := .inr (.inl w264.1)) (σ1 := w264.2) aL_law_1119 cvL_151 (by rw [← hw264]; exact E10_part _ _ _) rfl (fun o265 => ?_)
        refine g_aload_n aL_law_1122 rfl ?_
        refine g_aload_n aL_law_1123 rfl ?_
        refine g_iload_n aL_law_1124 rfl ?_
        refine g_iconst (v := 1) aL_law_1125 rfl ?_
        refine g_iadd aL_law_1126 ?_
        obtain ⟨q266, h⟩ := ck_inv h
        refine g_sld (x := (w264.2.1 24 0 ((x3 + 1) : Int32).toNatClampNeg)) rfl aL_law_1127 (inS_ok q266) rfl ?_
        obtain ⟨w267, hw267, h⟩ := lt_inv h
        refine g_V1s (v1 := .inr (.inl w267.1)) (σ1 := w267.2) aL_law_1128 cvL_155 (by rw [← hw267]; exact E11_part _ _ _) rfl (fun o268 => ?_)
        refine g_lcmp aL_law_1131 ?_
        refine g_if_eq (tgt := 1243) aL_law_1132 rfl (fun c269 => ?_) (fun c269 => ?_)
        · have h := (if_pos c269).symm.trans h
          refine g_iinc (v := (x3 + 6)) (L' := [some (.inr (.inr (24, 0))), some (.inr (.inr (10, 0))), some (.inr (.inr (11, 0))), some (.inl (x3 + 6))]) aL_law_1243 rfl rfl (Nat.le_of_ble_eq_true rfl) rfl rfl ?_
          refine g_goto (tgt := 18) aL_law_1246 rfl ?_
          exact g_weak (lEL_law_18 (V := V) (S := S)   n _ _ h K1 K2) ⟨rfl, rfl, rfl, rfl, trivial⟩
        · have h := (if_neg c269).symm.trans h
          refine g_iconst (v := 0) aL_law_1135 rfl ?_
          have h := Option.some.inj h
          subst h
          obtain ⟨hV, hS⟩ := K2 _ rfl
          subst hV; subst hS
          exact g_retE aL_law_1136 (Or.inl rfl) rfl rfl
      have h := (if_neg c336).symm.trans h
      rcases Decidable.em (((σ.1 24 0 (x3 : Int32).toNatClampNeg) &&& 63) = 34) with c337 | c337
      · have h := (if_pos c337).symm.trans h
        refine g_tsIn (tgt := 1137) (off := 1104) aL_law_33 (by rw [c337]; decide) (by rw [c337]; decide) (by rw [c337]; rfl) rfl ?_
        refine g_aload_n aL_law_1137 rfl ?_
        refine g_aload_n aL_law_1138 rfl ?_
        refine g_iload_n aL_law_1139 rfl ?_
        refine g_iconst (v := 1) aL_law_1140 rfl ?_
        refine g_iadd aL_law_1141 ?_
        obtain ⟨q270, h⟩ := ck_inv h
        refine g_sld (x := (σ.1 24 0 ((x3 + 1) : Int32).toNatClampNeg)) rfl aL_law_1142 (inS_ok q270) rfl ?_
        obtain ⟨w271, hw271, h⟩ := bnd_inv h
        refine g_V1s (v1 := .inl w271.1) (σ1 := w271.2) aL_law_1143 cvL_156 (E10_image hw271) rfl (fun o272 => ?_)
        refine g_aload_n aL_law_1146 rfl ?_
        refine g_aload_n aL_law_1147 rfl ?_
        refine g_iload_n aL_law_1148 rfl ?_
        refine g_iconst (v := 1) aL_law_1149 rfl ?_
        refine g_iadd aL_law_1150 ?_
        obtain ⟨q273, h⟩ := ck_inv h
        refine g_sld (x := (w271.2.1 24 0 ((x3 + 1) : Int32).toNatClampNeg)) rfl aL_law_1151 (inS_ok q273) rfl ?_
        obtain ⟨w274, hw274, h⟩ := bnd_inv h
        refine g_V1s (v1 := .inl w274.1) (σ1 := w274.2) aL_law_1152 cvL_159 (E11_image hw274) rfl (fun o275 => ?_)
        refine g_icmp_eq (tgt := 1243) aL_law_1155 rfl (fun c276 => ?_) (fun c276 => ?_)
        · have h := (if_pos c276).symm.trans h
          refine g_iinc (v := (x3 + 6)) (L' := [some (.inr (.inr (24, 0))), some (.inr (.inr (10, 0))), some (.inr (.inr (11, 0))), some (.inl (x3 + 6))]) aL_law_1243 rfl rfl (Nat.le_of_ble_eq_true rfl) rfl rfl ?_
          refine g_goto (tgt := 18) aL_law_1246 rfl ?_
          exact g_weak (lEL_law_18 (V := V) (S := S)   n _ _ h K1 K2) ⟨rfl, rfl, rfl, rfl, trivial⟩
        · have h := (if_neg c276).symm.trans h
          refine g_iconst (v := 0) aL_law_1158 rfl ?_
          have h := Option.some.inj h
          subst h
          obtain ⟨hV, hS⟩ := K2 _ rfl
          subst hV; subst hS
          exact g_retE aL_law_1159 (Or.inl rfl) rfl rfl
      have h := (if_neg c337).symm.trans h
      rcases Decidable.em (((σ.1 24 0 (x3 : Int32).toNatClampNeg) &&& 63) = 35) with c338 | c338
      · have h := (if_pos c338).symm.trans h
        refine g_tsIn (tgt := 1160) (off := 1127) aL_law_33 (by rw [c338]; decide) (by rw [c338]; decide) (by rw [c338]; rfl) rfl ?_
        refine g_aload_n aL_law_1160 rfl ?_
        refine g_aload_n aL_law_1161 rfl ?_
        refine g_iload_n aL_law_1162 rfl ?_
        refine g_iconst (v := 1) aL_law_1163 rfl ?_
        refine g_iadd aL_law_1164 ?_
        obtain ⟨q277, h⟩ := ck_inv h
        refine g_sld (x := (σ.1 24 0 ((x3 + 1) : Int32).toNatClampNeg)) rfl aL_law_1165 (inS_ok q277) rfl ?_
        obtain ⟨w278, hw278, h⟩ := bnd_inv h
        refine g_V1s (v1 := .inl w278.1) (σ1 := w278.2) aL_law_1166 cvL_160 (E10_from hw278) rfl (fun o279 => ?_)
        refine g_aload_n aL_law_1169 rfl ?_
        refine g_aload_n aL_law_1170 rfl ?_
        refine g_iload_n aL_law_1171 rfl ?_
        refine g_iconst (v := 1) aL_law_1172 rfl ?_
        refine g_iadd aL_law_1173 ?_
        obtain ⟨q280, h⟩ := ck_inv h
        refine g_sld (x := (w278.2.1 24 0 ((x3 + 1) : Int32).toNatClampNeg)) rfl aL_law_1174 (inS_ok q280) rfl ?_
        obtain ⟨w281, hw281, h⟩ := bnd_inv h
        refine g_V1s (v1 := .inl w281.1) (σ1 := w281.2) aL_law_1175 cvL_163 (E11_from hw281) rfl (fun o282 => ?_)
        refine g_icmp_eq (tgt := 1243) aL_law_1178 rfl (fun c283 => ?_) (fun c283 => ?_)
        · have h := (if_pos c283).symm.trans h
          refine g_iinc (v := (x3 + 6)) (L' := [some (.inr (.inr (24, 0))), some (.inr (.inr (10, 0))), some (.inr (.inr (11, 0))), some (.inl (x3 + 6))]) aL_law_1243 rfl rfl (Nat.le_of_ble_eq_true rfl) rfl rfl ?_
          refine g_goto (tgt := 18) aL_law_1246 rfl ?_
          exact g_weak (lEL_law_18 (V := V) (S := S)   n _ _ h K1 K2) ⟨rfl, rfl, rfl, rfl, trivial⟩
        · have h := (if_neg c283).symm.trans h
          refine g_iconst (v := 0) aL_law_1181 rfl ?_
          have h := Option.some.inj h
          subst h
          obtain ⟨hV, hS⟩ := K2 _ rfl
          subst hV; subst hS
          exact g_retE aL_law_1182 (Or.inl rfl) rfl rfl
      have h := (if_neg c338).symm.trans h
      rcases Decidable.em (((σ.1 24 0 (x3 : Int32).toNatClampNeg) &&& 63) = 36) with c339 | c339
      · have h := (if_pos c339).symm.trans h
        refine g_tsIn (tgt := 1183) (off := 1150) aL_law_33 (by rw [c339]; decide) (by rw [c339]; decide) (by rw [c339]; rfl) rfl ?_
        refine g_aload_n aL_law_1183 rfl ?_
        refine g_aload_n aL_law_1184 rfl ?_
        refine g_iload_n aL_law_1185 rfl ?_
        refine g_iconst (v := 1) aL_law_1186 rfl ?_
        refine g_iadd aL_law_1187 ?_
        obtain ⟨q284, h⟩ := ck_inv h
        refine g_sld (x := (σ.1 24 0 ((x3 + 1) : Int32).toNatClampNeg)) rfl aL_law_1188 (inS_ok q284) rfl ?_
        obtain ⟨w285, hw285, h⟩ := lt_inv h
        refine g_V1s (v1 := .inl w285.1) (σ1 := w285.2) aL_law_1189 cvL_164 (by rw [← hw285]; exact E10_status _ _ _) rfl (fun o286 => ?_)
        refine g_aload_n aL_law_1192 rfl ?_
        refine g_aload_n aL_law_1193 rfl ?_
        refine g_iload_n aL_law_1194 rfl ?_
        refine g_iconst (v := 1) aL_law_1195 rfl ?_
        refine g_iadd aL_law_1196 ?_
        obtain ⟨q287, h⟩ := ck_inv h
        refine g_sld (x := (w285.2.1 24 0 ((x3 + 1) : Int32).toNatClampNeg)) rfl aL_law_1197 (inS_ok q287) rfl ?_
        obtain ⟨w288, hw288, h⟩ := bnd_inv h
        refine g_V1s (v1 := .inl w288.1) (σ1 := w288.2) aL_law_1198 cvL_167 (E11_status hw288) rfl (fun o289 => ?_)
        refine g_icmp_eq (tgt := 1243) aL_law_1201 rfl (fun c290 => ?_) (fun c290 => ?_)
        · have h := (if_pos c290).symm.trans h
          refine g_iinc (v := (x3 + 6)) (L' := [some (.inr (.inr (24, 0))), some (.inr (.inr (10, 0))), some (.inr (.inr (11, 0))), some (.inl (x3 + 6))]) aL_law_1243 rfl rfl (Nat.le_of_ble_eq_true rfl) rfl rfl ?_
          refine g_goto (tgt := 18) aL_law_1246 rfl ?_
          exact g_weak (lEL_law_18 (V := V) (S := S)   n _ _ h K1 K2) ⟨rfl, rfl, rfl, rfl, trivial⟩
        · have h := (if_neg c290).symm.trans h
          refine g_iconst (v := 0) aL_law_1204 rfl ?_
          have h := Option.some.inj h
          subst h
          obtain ⟨hV, hS⟩ := K2 _ rfl
          subst hV; subst hS
          exact g_retE aL_law_1205 (Or.inl rfl) rfl rfl
      have h := (if_neg c339).symm.trans h
      rcases Decidable.em (((σ.1 24 0 (x3 : Int32).toNatClampNeg) &&& 63) = 37) with c340 | c340
      · have h := (if_pos c340).symm.trans h
        refine g_tsIn (tgt := 1206) (off := 1173) aL_law_33 (by rw [c340]; decide) (by rw [c340]; decide) (by rw [c340]; rfl) rfl ?_
        refine g_aload_n aL_law_1206 rfl ?_
        refine g_aload_n aL_law_1207 rfl ?_
        refine g_iload_n aL_law_1208 rfl ?_
        refine g_iconst (v := 1) aL_law_1209 rfl ?_
        refine g_iadd aL_law_1210 ?_
        obtain ⟨q291, h⟩ := ck_inv h
        refine g_sld (x := (σ.1 24 0 ((x3 + 1) : Int32).toNatClampNeg)) rfl aL_law_1211 (inS_ok q291) rfl ?_
        obtain ⟨w292, hw292, h⟩ := lt_inv h
        refine g_V1s (v1 := .inl w292.1) (σ1 := w292.2) aL_law_1212 cvL_168 (by rw [← hw292]; exact E10_count _ _ _) rfl (fun o293 => ?_)
        refine g_aload_n aL_law_1215 rfl ?_
        refine g_aload_n aL_law_1216 rfl ?_
        refine g_iload_n aL_law_1217 rfl ?_
        refine g_iconst (v := 1) aL_law_1218 rfl ?_
        refine g_iadd aL_law_1219 ?_
        obtain ⟨q294, h⟩ := ck_inv h
        refine g_sld (x := (w292.2.1 24 0 ((x3 + 1) : Int32).toNatClampNeg)) rfl aL_law_1220 (inS_ok q294) rfl ?_
        obtain ⟨w295, hw295, h⟩ := bnd_inv h
        refine g_V1s (v1 := .inl w295.1) (σ1 := w295.2) aL_law_1221 cvL_171 (E11_count hw295) rfl (fun o296 => ?_)
        refine g_icmp_eq (tgt := 1243) aL_law_1224 rfl (fun c297 => ?_) (fun c297 => ?_)
        · have h := (if_pos c297).symm.trans h
          refine g_iinc (v := (x3 + 6)) (L' := [some (.inr (.inr (24, 0))), some (.inr (.inr (10, 0))), some (.inr (.inr (11, 0))), some (.inl (x3 + 6))]) aL_law_1243 rfl rfl (Nat.le_of_ble_eq_true rfl) rfl rfl ?_
          refine g_goto (tgt := 18) aL_law_1246 rfl ?_
          exact g_weak (lEL_law_18 (V := V) (S := S)   n _ _ h K1 K2) ⟨rfl, rfl, rfl, rfl, trivial⟩
        · have h := (if_neg c297).symm.trans h
          refine g_iconst (v := 0) aL_law_1227 rfl ?_
          have h := Option.some.inj h
          subst h
          obtain ⟨hV, hS⟩ := K2 _ rfl
          subst hV; subst hS
          exact g_retE aL_law_1228 (Or.inl rfl) rfl rfl
      have h := (if_neg c340).symm.trans h
      rcases Decidable.em (((σ.1 24 0 (x3 : Int32).toNatClampNeg) &&& 63) = 38) with c341 | c341
      · have h := (if_pos c341).symm.trans h
        refine g_tsIn (tgt := 1229) (off := 1196) aL_law_33 (by rw [c341]; decide) (by rw [c341]; decide) (by rw [c341]; rfl) rfl ?_
        refine g_aload_n aL_law_1229 rfl ?_
        obtain ⟨w298, hw298, h⟩ := bnd_inv h
        refine g_V0s (v1 := .inr (.inl w298)) (σ1 := σ) aL_law_1230 cvL_172 (E10_digest hw298) rfl (fun o299 => ?_)
        refine g_aload_n aL_law_1233 rfl ?_
        obtain ⟨w300, hw300, h⟩ := bnd_inv h
        refine g_V0s (v1 := .inr (.inl w300)) (σ1 := σ) aL_law_1234 cvL_176 (E11_digest hw300) rfl (fun o301 => ?_)
        refine g_lcmp aL_law_1237 ?_
        refine g_if_eq (tgt := 1243) aL_law_1238 rfl (fun c302 => ?_) (fun c302 => ?_)
        · have h := (if_pos c302).symm.trans h
          refine g_iinc (v := (x3 + 6)) (L' := [some (.inr (.inr (24, 0))), some (.inr (.inr (10, 0))), some (.inr (.inr (11, 0))), some (.inl (x3 + 6))]) aL_law_1243 rfl rfl (Nat.le_of_ble_eq_true rfl) rfl rfl ?_
          refine g_goto (tgt := 18) aL_law_1246 rfl ?_
          exact g_weak (lEL_law_18 (V := V) (S := S)   n _ _ h K1 K2) ⟨rfl, rfl, rfl, rfl, trivial⟩
        · have h := (if_neg c302).symm.trans h
          refine g_iconst (v := 0) aL_law_1241 rfl ?_
          have h := Option.some.inj h
          subst h
          obtain ⟨hV, hS⟩ := K2 _ rfl
          subst hV; subst hS
          exact g_retE aL_law_1242 (Or.inl rfl) rfl rfl
      have h := (if_neg c341).symm.trans h
      have tc303 := lv_neT c303 (a := 0) rfl
      have tc304 := lv_neT c304 (a := 1) rfl
      have tc305 := lv_neT c305 (a := 2) rfl
      have tc306 := lv_neT c306 (a := 3) rfl
      have tc307 := lv_neT c307 (a := 4) rfl
      have tc308 := lv_neT c308 (a := 5) rfl
      have tc309 := lv_neT c309 (a := 6) rfl
      have tc310 := lv_neT c310 (a := 7) rfl
      have tc311 := lv_neT c311 (a := 8) rfl
      have tc312 := lv_neT c312 (a := 9) rfl
      have tc313 := lv_neT c313 (a := 10) rfl
      have tc314 := lv_neT c314 (a := 11) rfl
      have tc315 := lv_neT c315 (a := 12) rfl
      have tc316 := lv_neT c316 (a := 13) rfl
      have tc317 := lv_neT c317 (a := 14) rfl
      have tc318 := lv_neT c318 (a := 15) rfl
      have tc319 := lv_neT c319 (a := 16) rfl
      have tc320 := lv_neT c320 (a := 17) rfl
      have tc321 := lv_neT c321 (a := 18) rfl
      have tc322 := lv_neT c322 (a := 19) rfl
      have tc323 := lv_neT c323 (a := 20) rfl
      have tc324 := lv_neT c324 (a := 21) rfl
      have tc325 := lv_neT c325 (a := 22) rfl
      have tc326 := lv_neT c326 (a := 23) rfl
      have tc327 := lv_neT c327 (a := 24) rfl
      have tc328 := lv_neT c328 (a := 25) rfl
      have tc329 := lv_neT c329 (a := 26) rfl
      have tc330 := lv_neT c330 (a := 27) rfl
      have tc331 := lv_neT c331 (a := 28) rfl
      have tc332 := lv_neT c332 (a := 29) rfl
      have tc333 := lv_neT c333 (a := 30) rfl
      have tc334 := lv_neT c334 (a := 31) rfl
      have tc335 := lv_neT c335 (a := 32) rfl
      have tc336 := lv_neT c336 (a := 33) rfl
      have tc337 := lv_neT c337 (a := 34) rfl
      have tc338 := lv_neT c338 (a := 35) rfl
      have tc339 := lv_neT c339 (a := 36) rfl
      have tc340 := lv_neT c340 (a := 37) rfl
      have tc341 := lv_neT c341 (a := 38) rfl
      refine g_tsOut (tgt := 1243) aL_law_33 (by omega) rfl ?_
      refine g_iinc (v := (x3 + 6)) (L' := [some (.inr (.inr (24, 0))), some (.inr (.inr (10, 0))), some (.inr (.inr (11, 0))), some (.inl (x3 + 6))]) aL_law_1243 rfl rfl (Nat.le_of_ble_eq_true rfl) rfl rfl ?_
      refine g_goto (tgt := 18) aL_law_1246 rfl ?_
      exact g_weak (lEL_law_18 (V := V) (S := S)   n _ _ h K1 K2) ⟨rfl, rfl, rfl, rfl, trivial⟩
def fL_law (σ : Mem) : Option (Int32 × Mem) :=
  bnd (lL_law_18  2000 0 σ) fun w343 =>
  sm w343 (fun u344 =>
  some (1, u344.2)) (fun u344 => some u344)
set_option maxRecDepth 20000 in
theorem EL_law {σ : Mem} {w : Int32 × Mem} (h : fL_law σ = some w) : Go mL_law 16 [some (.inr (.inr (24, 0))), some (.inr (.inr (10, 0))), some (.inr (.inr (11, 0))), none] [] σ (some (.inl w.1) : Option AV) w.2 := by
  unfold fL_law at h
  refine g_iconst (v := 0) aL_law_16 rfl ?_
  refine g_istore_n (L' := [some (.inr (.inr (24, 0))), some (.inr (.inr (10, 0))), some (.inr (.inr (11, 0))), some (.inl 0)]) aL_law_17 (Nat.le_of_ble_eq_true rfl) rfl rfl ?_
  obtain ⟨w343, hw343, h⟩ := bnd_inv h
  rcases w343 with u344 | u344
  · have h := sm_l h
    refine g_weak (lEL_law_18  2000 _ _ hw343 (fun _ e => ?_) (fun _ e => by cases e)) ⟨rfl, rfl, rfl, rfl, trivial⟩
    cases e
    refine g_iconst (v := 1) aL_law_1249 rfl ?_
    have h := Option.some.inj h
    subst h
    exact g_retE aL_law_1250 (Or.inr rfl) rfl rfl
  · have h := sm_r h
    have h := Option.some.inj h
    subst h
    exact g_weak (lEL_law_18  2000 _ _ hw343 (fun _ e => by cases e) (fun _ e => by cases e; exact ⟨rfl, rfl⟩)) ⟨rfl, rfl, rfl, rfl, trivial⟩
