theorem dL_law_0 : decode cL_law 0 = .ok (.new 7, 3) := by decide +kernel
theorem dL_law_3 : decode cL_law 3 = .ok (.dup, 1) := by decide +kernel
theorem dL_law_4 : decode cL_law 4 = .ok (.invokespecial 9, 3) := by decide +kernel
theorem dL_law_7 : decode cL_law 7 = .ok (.astore_n 1, 1) := by decide +kernel
theorem dL_law_8 : decode cL_law 8 = .ok (.new 10, 3) := by decide +kernel
theorem dL_law_11 : decode cL_law 11 = .ok (.dup, 1) := by decide +kernel
theorem dL_law_12 : decode cL_law 12 = .ok (.invokespecial 12, 3) := by decide +kernel
theorem dL_law_15 : decode cL_law 15 = .ok (.astore_n 2, 1) := by decide +kernel
theorem dL_law_16 : decode cL_law 16 = .ok (.iconst 0, 1) := by decide +kernel
theorem dL_law_17 : decode cL_law 17 = .ok (.istore_n 3, 1) := by decide +kernel
theorem dL_law_18 : decode cL_law 18 = .ok (.iload_n 3, 1) := by decide +kernel
theorem dL_law_19 : decode cL_law 19 = .ok (.aload_n 0, 1) := by decide +kernel
theorem dL_law_20 : decode cL_law 20 = .ok (.arraylength, 1) := by decide +kernel
theorem dL_law_21 : decode cL_law 21 = .ok (.iconst 4, 1) := by decide +kernel
theorem dL_law_22 : decode cL_law 22 = .ok (.isub, 1) := by decide +kernel
theorem dL_law_23 : decode cL_law 23 = .ok (.if_icmp .gt 876, 3) := by decide +kernel
theorem dL_law_26 : decode cL_law 26 = .ok (.aload_n 0, 1) := by decide +kernel
theorem dL_law_27 : decode cL_law 27 = .ok (.iload_n 3, 1) := by decide +kernel
theorem dL_law_28 : decode cL_law 28 = .ok (.iaload, 1) := by decide +kernel
theorem dL_law_29 : decode cL_law 29 = .ok (.bipush 31, 2) := by decide +kernel
theorem dL_law_31 : decode cL_law 31 = .ok (.iand, 1) := by decide +kernel
theorem dL_law_32 : decode cL_law 32 = .ok (.tableswitch 861 0 27 #[128, 151, 164, 177, 190, 223, 256, 289, 302, 325, 338, 361, 384, 443, 476, 525, 538, 561, 574, 623, 656, 669, 682, 715, 769, 792, 815, 838], 128) := by decide +kernel
theorem dL_law_160 : decode cL_law 160 = .ok (.aload_n 1, 1) := by decide +kernel
theorem dL_law_161 : decode cL_law 161 = .ok (.aload_n 0, 1) := by decide +kernel
theorem dL_law_162 : decode cL_law 162 = .ok (.iload_n 3, 1) := by decide +kernel
theorem dL_law_163 : decode cL_law 163 = .ok (.iconst 1, 1) := by decide +kernel
theorem dL_law_164 : decode cL_law 164 = .ok (.iadd, 1) := by decide +kernel
theorem dL_law_165 : decode cL_law 165 = .ok (.iaload, 1) := by decide +kernel
theorem dL_law_166 : decode cL_law 166 = .ok (.invokevirtual 13, 3) := by decide +kernel
theorem dL_law_169 : decode cL_law 169 = .ok (.aload_n 2, 1) := by decide +kernel
theorem dL_law_170 : decode cL_law 170 = .ok (.aload_n 0, 1) := by decide +kernel
theorem dL_law_171 : decode cL_law 171 = .ok (.iload_n 3, 1) := by decide +kernel
theorem dL_law_172 : decode cL_law 172 = .ok (.iconst 1, 1) := by decide +kernel
theorem dL_law_173 : decode cL_law 173 = .ok (.iadd, 1) := by decide +kernel
theorem dL_law_174 : decode cL_law 174 = .ok (.iaload, 1) := by decide +kernel
theorem dL_law_175 : decode cL_law 175 = .ok (.invokevirtual 17, 3) := by decide +kernel
theorem dL_law_178 : decode cL_law 178 = .ok (.if_icmp .eq 715, 3) := by decide +kernel
theorem dL_law_181 : decode cL_law 181 = .ok (.iconst 0, 1) := by decide +kernel
theorem dL_law_182 : decode cL_law 182 = .ok (.ireturn, 1) := by decide +kernel
theorem dL_law_183 : decode cL_law 183 = .ok (.aload_n 1, 1) := by decide +kernel
theorem dL_law_184 : decode cL_law 184 = .ok (.invokevirtual 18, 3) := by decide +kernel
theorem dL_law_187 : decode cL_law 187 = .ok (.aload_n 2, 1) := by decide +kernel
theorem dL_law_188 : decode cL_law 188 = .ok (.invokevirtual 22, 3) := by decide +kernel
theorem dL_law_191 : decode cL_law 191 = .ok (.if_icmp .eq 702, 3) := by decide +kernel
theorem dL_law_194 : decode cL_law 194 = .ok (.iconst 0, 1) := by decide +kernel
theorem dL_law_195 : decode cL_law 195 = .ok (.ireturn, 1) := by decide +kernel
theorem dL_law_196 : decode cL_law 196 = .ok (.aload_n 1, 1) := by decide +kernel
theorem dL_law_197 : decode cL_law 197 = .ok (.invokevirtual 23, 3) := by decide +kernel
theorem dL_law_200 : decode cL_law 200 = .ok (.aload_n 2, 1) := by decide +kernel
theorem dL_law_201 : decode cL_law 201 = .ok (.invokevirtual 26, 3) := by decide +kernel
theorem dL_law_204 : decode cL_law 204 = .ok (.if_icmp .eq 689, 3) := by decide +kernel
theorem dL_law_207 : decode cL_law 207 = .ok (.iconst 0, 1) := by decide +kernel
theorem dL_law_208 : decode cL_law 208 = .ok (.ireturn, 1) := by decide +kernel
theorem dL_law_209 : decode cL_law 209 = .ok (.aload_n 1, 1) := by decide +kernel
theorem dL_law_210 : decode cL_law 210 = .ok (.invokevirtual 27, 3) := by decide +kernel
theorem dL_law_213 : decode cL_law 213 = .ok (.aload_n 2, 1) := by decide +kernel
theorem dL_law_214 : decode cL_law 214 = .ok (.invokevirtual 30, 3) := by decide +kernel
theorem dL_law_217 : decode cL_law 217 = .ok (.if_icmp .eq 676, 3) := by decide +kernel
theorem dL_law_220 : decode cL_law 220 = .ok (.iconst 0, 1) := by decide +kernel
theorem dL_law_221 : decode cL_law 221 = .ok (.ireturn, 1) := by decide +kernel
theorem dL_law_222 : decode cL_law 222 = .ok (.aload_n 1, 1) := by decide +kernel
theorem dL_law_223 : decode cL_law 223 = .ok (.aload_n 0, 1) := by decide +kernel
theorem dL_law_224 : decode cL_law 224 = .ok (.iload_n 3, 1) := by decide +kernel
theorem dL_law_225 : decode cL_law 225 = .ok (.iconst 1, 1) := by decide +kernel
theorem dL_law_226 : decode cL_law 226 = .ok (.iadd, 1) := by decide +kernel
theorem dL_law_227 : decode cL_law 227 = .ok (.iaload, 1) := by decide +kernel
theorem dL_law_228 : decode cL_law 228 = .ok (.aload_n 0, 1) := by decide +kernel
theorem dL_law_229 : decode cL_law 229 = .ok (.iload_n 3, 1) := by decide +kernel
theorem dL_law_230 : decode cL_law 230 = .ok (.iconst 2, 1) := by decide +kernel
theorem dL_law_231 : decode cL_law 231 = .ok (.iadd, 1) := by decide +kernel
theorem dL_law_232 : decode cL_law 232 = .ok (.iaload, 1) := by decide +kernel
theorem dL_law_233 : decode cL_law 233 = .ok (.invokevirtual 31, 3) := by decide +kernel
theorem dL_law_236 : decode cL_law 236 = .ok (.aload_n 2, 1) := by decide +kernel
theorem dL_law_237 : decode cL_law 237 = .ok (.aload_n 0, 1) := by decide +kernel
theorem dL_law_238 : decode cL_law 238 = .ok (.iload_n 3, 1) := by decide +kernel
theorem dL_law_239 : decode cL_law 239 = .ok (.iconst 1, 1) := by decide +kernel
theorem dL_law_240 : decode cL_law 240 = .ok (.iadd, 1) := by decide +kernel
theorem dL_law_241 : decode cL_law 241 = .ok (.iaload, 1) := by decide +kernel
theorem dL_law_242 : decode cL_law 242 = .ok (.aload_n 0, 1) := by decide +kernel
theorem dL_law_243 : decode cL_law 243 = .ok (.iload_n 3, 1) := by decide +kernel
theorem dL_law_244 : decode cL_law 244 = .ok (.iconst 2, 1) := by decide +kernel
theorem dL_law_245 : decode cL_law 245 = .ok (.iadd, 1) := by decide +kernel
theorem dL_law_246 : decode cL_law 246 = .ok (.iaload, 1) := by decide +kernel
theorem dL_law_247 : decode cL_law 247 = .ok (.invokevirtual 35, 3) := by decide +kernel
theorem dL_law_250 : decode cL_law 250 = .ok (.if_icmp .eq 643, 3) := by decide +kernel
theorem dL_law_253 : decode cL_law 253 = .ok (.iconst 0, 1) := by decide +kernel
theorem dL_law_254 : decode cL_law 254 = .ok (.ireturn, 1) := by decide +kernel
theorem dL_law_255 : decode cL_law 255 = .ok (.aload_n 1, 1) := by decide +kernel
theorem dL_law_256 : decode cL_law 256 = .ok (.aload_n 0, 1) := by decide +kernel
theorem dL_law_257 : decode cL_law 257 = .ok (.iload_n 3, 1) := by decide +kernel
theorem dL_law_258 : decode cL_law 258 = .ok (.iconst 1, 1) := by decide +kernel
theorem dL_law_259 : decode cL_law 259 = .ok (.iadd, 1) := by decide +kernel
theorem dL_law_260 : decode cL_law 260 = .ok (.iaload, 1) := by decide +kernel
theorem dL_law_261 : decode cL_law 261 = .ok (.aload_n 0, 1) := by decide +kernel
theorem dL_law_262 : decode cL_law 262 = .ok (.iload_n 3, 1) := by decide +kernel
theorem dL_law_263 : decode cL_law 263 = .ok (.iconst 2, 1) := by decide +kernel
theorem dL_law_264 : decode cL_law 264 = .ok (.iadd, 1) := by decide +kernel
theorem dL_law_265 : decode cL_law 265 = .ok (.iaload, 1) := by decide +kernel
theorem dL_law_266 : decode cL_law 266 = .ok (.invokevirtual 36, 3) := by decide +kernel
theorem dL_law_269 : decode cL_law 269 = .ok (.aload_n 2, 1) := by decide +kernel
theorem dL_law_270 : decode cL_law 270 = .ok (.aload_n 0, 1) := by decide +kernel
theorem dL_law_271 : decode cL_law 271 = .ok (.iload_n 3, 1) := by decide +kernel
theorem dL_law_272 : decode cL_law 272 = .ok (.iconst 1, 1) := by decide +kernel
theorem dL_law_273 : decode cL_law 273 = .ok (.iadd, 1) := by decide +kernel
theorem dL_law_274 : decode cL_law 274 = .ok (.iaload, 1) := by decide +kernel
theorem dL_law_275 : decode cL_law 275 = .ok (.aload_n 0, 1) := by decide +kernel
theorem dL_law_276 : decode cL_law 276 = .ok (.iload_n 3, 1) := by decide +kernel
theorem dL_law_277 : decode cL_law 277 = .ok (.iconst 2, 1) := by decide +kernel
theorem dL_law_278 : decode cL_law 278 = .ok (.iadd, 1) := by decide +kernel
theorem dL_law_279 : decode cL_law 279 = .ok (.iaload, 1) := by decide +kernel
theorem dL_law_280 : decode cL_law 280 = .ok (.invokevirtual 39, 3) := by decide +kernel
theorem dL_law_283 : decode cL_law 283 = .ok (.if_icmp .eq 610, 3) := by decide +kernel
theorem dL_law_286 : decode cL_law 286 = .ok (.iconst 0, 1) := by decide +kernel
theorem dL_law_287 : decode cL_law 287 = .ok (.ireturn, 1) := by decide +kernel
theorem dL_law_288 : decode cL_law 288 = .ok (.aload_n 1, 1) := by decide +kernel
theorem dL_law_289 : decode cL_law 289 = .ok (.aload_n 0, 1) := by decide +kernel
theorem dL_law_290 : decode cL_law 290 = .ok (.iload_n 3, 1) := by decide +kernel
theorem dL_law_291 : decode cL_law 291 = .ok (.iconst 1, 1) := by decide +kernel
theorem dL_law_292 : decode cL_law 292 = .ok (.iadd, 1) := by decide +kernel
theorem dL_law_293 : decode cL_law 293 = .ok (.iaload, 1) := by decide +kernel
theorem dL_law_294 : decode cL_law 294 = .ok (.aload_n 0, 1) := by decide +kernel
theorem dL_law_295 : decode cL_law 295 = .ok (.iload_n 3, 1) := by decide +kernel
theorem dL_law_296 : decode cL_law 296 = .ok (.iconst 2, 1) := by decide +kernel
theorem dL_law_297 : decode cL_law 297 = .ok (.iadd, 1) := by decide +kernel
theorem dL_law_298 : decode cL_law 298 = .ok (.iaload, 1) := by decide +kernel
theorem dL_law_299 : decode cL_law 299 = .ok (.invokevirtual 40, 3) := by decide +kernel
theorem dL_law_302 : decode cL_law 302 = .ok (.aload_n 2, 1) := by decide +kernel
theorem dL_law_303 : decode cL_law 303 = .ok (.aload_n 0, 1) := by decide +kernel
theorem dL_law_304 : decode cL_law 304 = .ok (.iload_n 3, 1) := by decide +kernel
theorem dL_law_305 : decode cL_law 305 = .ok (.iconst 1, 1) := by decide +kernel
theorem dL_law_306 : decode cL_law 306 = .ok (.iadd, 1) := by decide +kernel
theorem dL_law_307 : decode cL_law 307 = .ok (.iaload, 1) := by decide +kernel
theorem dL_law_308 : decode cL_law 308 = .ok (.aload_n 0, 1) := by decide +kernel
theorem dL_law_309 : decode cL_law 309 = .ok (.iload_n 3, 1) := by decide +kernel
theorem dL_law_310 : decode cL_law 310 = .ok (.iconst 2, 1) := by decide +kernel
theorem dL_law_311 : decode cL_law 311 = .ok (.iadd, 1) := by decide +kernel
theorem dL_law_312 : decode cL_law 312 = .ok (.iaload, 1) := by decide +kernel
theorem dL_law_313 : decode cL_law 313 = .ok (.invokevirtual 43, 3) := by decide +kernel
theorem dL_law_316 : decode cL_law 316 = .ok (.if_icmp .eq 577, 3) := by decide +kernel
theorem dL_law_319 : decode cL_law 319 = .ok (.iconst 0, 1) := by decide +kernel
theorem dL_law_320 : decode cL_law 320 = .ok (.ireturn, 1) := by decide +kernel
theorem dL_law_321 : decode cL_law 321 = .ok (.aload_n 1, 1) := by decide +kernel
theorem dL_law_322 : decode cL_law 322 = .ok (.invokevirtual 44, 3) := by decide +kernel
theorem dL_law_325 : decode cL_law 325 = .ok (.aload_n 2, 1) := by decide +kernel
theorem dL_law_326 : decode cL_law 326 = .ok (.invokevirtual 47, 3) := by decide +kernel
theorem dL_law_329 : decode cL_law 329 = .ok (.if_icmp .eq 564, 3) := by decide +kernel
theorem dL_law_332 : decode cL_law 332 = .ok (.iconst 0, 1) := by decide +kernel
theorem dL_law_333 : decode cL_law 333 = .ok (.ireturn, 1) := by decide +kernel
theorem dL_law_334 : decode cL_law 334 = .ok (.aload_n 1, 1) := by decide +kernel
theorem dL_law_335 : decode cL_law 335 = .ok (.aload_n 0, 1) := by decide +kernel
theorem dL_law_336 : decode cL_law 336 = .ok (.iload_n 3, 1) := by decide +kernel
theorem dL_law_337 : decode cL_law 337 = .ok (.iconst 1, 1) := by decide +kernel
theorem dL_law_338 : decode cL_law 338 = .ok (.iadd, 1) := by decide +kernel
theorem dL_law_339 : decode cL_law 339 = .ok (.iaload, 1) := by decide +kernel
theorem dL_law_340 : decode cL_law 340 = .ok (.invokevirtual 48, 3) := by decide +kernel
theorem dL_law_343 : decode cL_law 343 = .ok (.aload_n 2, 1) := by decide +kernel
theorem dL_law_344 : decode cL_law 344 = .ok (.aload_n 0, 1) := by decide +kernel
theorem dL_law_345 : decode cL_law 345 = .ok (.iload_n 3, 1) := by decide +kernel
theorem dL_law_346 : decode cL_law 346 = .ok (.iconst 1, 1) := by decide +kernel
theorem dL_law_347 : decode cL_law 347 = .ok (.iadd, 1) := by decide +kernel
theorem dL_law_348 : decode cL_law 348 = .ok (.iaload, 1) := by decide +kernel
theorem dL_law_349 : decode cL_law 349 = .ok (.invokevirtual 51, 3) := by decide +kernel
theorem dL_law_352 : decode cL_law 352 = .ok (.if_icmp .eq 541, 3) := by decide +kernel
theorem dL_law_355 : decode cL_law 355 = .ok (.iconst 0, 1) := by decide +kernel
theorem dL_law_356 : decode cL_law 356 = .ok (.ireturn, 1) := by decide +kernel
theorem dL_law_357 : decode cL_law 357 = .ok (.aload_n 1, 1) := by decide +kernel
theorem dL_law_358 : decode cL_law 358 = .ok (.invokevirtual 52, 3) := by decide +kernel
theorem dL_law_361 : decode cL_law 361 = .ok (.aload_n 2, 1) := by decide +kernel
theorem dL_law_362 : decode cL_law 362 = .ok (.invokevirtual 55, 3) := by decide +kernel
theorem dL_law_365 : decode cL_law 365 = .ok (.if_icmp .eq 528, 3) := by decide +kernel
theorem dL_law_368 : decode cL_law 368 = .ok (.iconst 0, 1) := by decide +kernel
theorem dL_law_369 : decode cL_law 369 = .ok (.ireturn, 1) := by decide +kernel
theorem dL_law_370 : decode cL_law 370 = .ok (.aload_n 1, 1) := by decide +kernel
theorem dL_law_371 : decode cL_law 371 = .ok (.aload_n 0, 1) := by decide +kernel
theorem dL_law_372 : decode cL_law 372 = .ok (.iload_n 3, 1) := by decide +kernel
theorem dL_law_373 : decode cL_law 373 = .ok (.iconst 1, 1) := by decide +kernel
theorem dL_law_374 : decode cL_law 374 = .ok (.iadd, 1) := by decide +kernel
theorem dL_law_375 : decode cL_law 375 = .ok (.iaload, 1) := by decide +kernel
theorem dL_law_376 : decode cL_law 376 = .ok (.invokevirtual 56, 3) := by decide +kernel
theorem dL_law_379 : decode cL_law 379 = .ok (.aload_n 2, 1) := by decide +kernel
theorem dL_law_380 : decode cL_law 380 = .ok (.aload_n 0, 1) := by decide +kernel
theorem dL_law_381 : decode cL_law 381 = .ok (.iload_n 3, 1) := by decide +kernel
theorem dL_law_382 : decode cL_law 382 = .ok (.iconst 1, 1) := by decide +kernel
theorem dL_law_383 : decode cL_law 383 = .ok (.iadd, 1) := by decide +kernel
theorem dL_law_384 : decode cL_law 384 = .ok (.iaload, 1) := by decide +kernel
theorem dL_law_385 : decode cL_law 385 = .ok (.invokevirtual 59, 3) := by decide +kernel
theorem dL_law_388 : decode cL_law 388 = .ok (.if_icmp .eq 505, 3) := by decide +kernel
theorem dL_law_391 : decode cL_law 391 = .ok (.iconst 0, 1) := by decide +kernel
theorem dL_law_392 : decode cL_law 392 = .ok (.ireturn, 1) := by decide +kernel
theorem dL_law_393 : decode cL_law 393 = .ok (.aload_n 1, 1) := by decide +kernel
theorem dL_law_394 : decode cL_law 394 = .ok (.aload_n 0, 1) := by decide +kernel
theorem dL_law_395 : decode cL_law 395 = .ok (.iload_n 3, 1) := by decide +kernel
theorem dL_law_396 : decode cL_law 396 = .ok (.iconst 1, 1) := by decide +kernel
theorem dL_law_397 : decode cL_law 397 = .ok (.iadd, 1) := by decide +kernel
theorem dL_law_398 : decode cL_law 398 = .ok (.iaload, 1) := by decide +kernel
theorem dL_law_399 : decode cL_law 399 = .ok (.invokevirtual 60, 3) := by decide +kernel
theorem dL_law_402 : decode cL_law 402 = .ok (.aload_n 2, 1) := by decide +kernel
theorem dL_law_403 : decode cL_law 403 = .ok (.aload_n 0, 1) := by decide +kernel
theorem dL_law_404 : decode cL_law 404 = .ok (.iload_n 3, 1) := by decide +kernel
theorem dL_law_405 : decode cL_law 405 = .ok (.iconst 1, 1) := by decide +kernel
theorem dL_law_406 : decode cL_law 406 = .ok (.iadd, 1) := by decide +kernel
theorem dL_law_407 : decode cL_law 407 = .ok (.iaload, 1) := by decide +kernel
theorem dL_law_408 : decode cL_law 408 = .ok (.invokevirtual 63, 3) := by decide +kernel
theorem dL_law_411 : decode cL_law 411 = .ok (.if_icmp .eq 482, 3) := by decide +kernel
theorem dL_law_414 : decode cL_law 414 = .ok (.iconst 0, 1) := by decide +kernel
theorem dL_law_415 : decode cL_law 415 = .ok (.ireturn, 1) := by decide +kernel
theorem dL_law_416 : decode cL_law 416 = .ok (.aload_n 1, 1) := by decide +kernel
theorem dL_law_417 : decode cL_law 417 = .ok (.aload_n 0, 1) := by decide +kernel
theorem dL_law_418 : decode cL_law 418 = .ok (.iload_n 3, 1) := by decide +kernel
theorem dL_law_419 : decode cL_law 419 = .ok (.iconst 1, 1) := by decide +kernel
theorem dL_law_420 : decode cL_law 420 = .ok (.iadd, 1) := by decide +kernel
theorem dL_law_421 : decode cL_law 421 = .ok (.iaload, 1) := by decide +kernel
theorem dL_law_422 : decode cL_law 422 = .ok (.aload_n 0, 1) := by decide +kernel
theorem dL_law_423 : decode cL_law 423 = .ok (.iload_n 3, 1) := by decide +kernel
theorem dL_law_424 : decode cL_law 424 = .ok (.iconst 2, 1) := by decide +kernel
theorem dL_law_425 : decode cL_law 425 = .ok (.iadd, 1) := by decide +kernel
theorem dL_law_426 : decode cL_law 426 = .ok (.iaload, 1) := by decide +kernel
theorem dL_law_427 : decode cL_law 427 = .ok (.aload_n 0, 1) := by decide +kernel
theorem dL_law_428 : decode cL_law 428 = .ok (.iload_n 3, 1) := by decide +kernel
theorem dL_law_429 : decode cL_law 429 = .ok (.iconst 3, 1) := by decide +kernel
theorem dL_law_430 : decode cL_law 430 = .ok (.iadd, 1) := by decide +kernel
theorem dL_law_431 : decode cL_law 431 = .ok (.iaload, 1) := by decide +kernel
theorem dL_law_432 : decode cL_law 432 = .ok (.ifCond .eq 7, 3) := by decide +kernel
theorem dL_law_435 : decode cL_law 435 = .ok (.iconst 1, 1) := by decide +kernel
theorem dL_law_436 : decode cL_law 436 = .ok (.goto 4, 3) := by decide +kernel
theorem dL_law_439 : decode cL_law 439 = .ok (.iconst 0, 1) := by decide +kernel
theorem dL_law_440 : decode cL_law 440 = .ok (.invokevirtual 64, 3) := by decide +kernel
theorem dL_law_443 : decode cL_law 443 = .ok (.aload_n 2, 1) := by decide +kernel
theorem dL_law_444 : decode cL_law 444 = .ok (.aload_n 0, 1) := by decide +kernel
theorem dL_law_445 : decode cL_law 445 = .ok (.iload_n 3, 1) := by decide +kernel
theorem dL_law_446 : decode cL_law 446 = .ok (.iconst 1, 1) := by decide +kernel
theorem dL_law_447 : decode cL_law 447 = .ok (.iadd, 1) := by decide +kernel
theorem dL_law_448 : decode cL_law 448 = .ok (.iaload, 1) := by decide +kernel
theorem dL_law_449 : decode cL_law 449 = .ok (.aload_n 0, 1) := by decide +kernel
theorem dL_law_450 : decode cL_law 450 = .ok (.iload_n 3, 1) := by decide +kernel
theorem dL_law_451 : decode cL_law 451 = .ok (.iconst 2, 1) := by decide +kernel
theorem dL_law_452 : decode cL_law 452 = .ok (.iadd, 1) := by decide +kernel
theorem dL_law_453 : decode cL_law 453 = .ok (.iaload, 1) := by decide +kernel
theorem dL_law_454 : decode cL_law 454 = .ok (.aload_n 0, 1) := by decide +kernel
theorem dL_law_455 : decode cL_law 455 = .ok (.iload_n 3, 1) := by decide +kernel
theorem dL_law_456 : decode cL_law 456 = .ok (.iconst 3, 1) := by decide +kernel
theorem dL_law_457 : decode cL_law 457 = .ok (.iadd, 1) := by decide +kernel
theorem dL_law_458 : decode cL_law 458 = .ok (.iaload, 1) := by decide +kernel
theorem dL_law_459 : decode cL_law 459 = .ok (.ifCond .eq 7, 3) := by decide +kernel
theorem dL_law_462 : decode cL_law 462 = .ok (.iconst 1, 1) := by decide +kernel
theorem dL_law_463 : decode cL_law 463 = .ok (.goto 4, 3) := by decide +kernel
theorem dL_law_466 : decode cL_law 466 = .ok (.iconst 0, 1) := by decide +kernel
theorem dL_law_467 : decode cL_law 467 = .ok (.invokevirtual 68, 3) := by decide +kernel
theorem dL_law_470 : decode cL_law 470 = .ok (.if_icmp .eq 423, 3) := by decide +kernel
theorem dL_law_473 : decode cL_law 473 = .ok (.iconst 0, 1) := by decide +kernel
theorem dL_law_474 : decode cL_law 474 = .ok (.ireturn, 1) := by decide +kernel
theorem dL_law_475 : decode cL_law 475 = .ok (.aload_n 1, 1) := by decide +kernel
theorem dL_law_476 : decode cL_law 476 = .ok (.aload_n 0, 1) := by decide +kernel
theorem dL_law_477 : decode cL_law 477 = .ok (.iload_n 3, 1) := by decide +kernel
theorem dL_law_478 : decode cL_law 478 = .ok (.iconst 1, 1) := by decide +kernel
theorem dL_law_479 : decode cL_law 479 = .ok (.iadd, 1) := by decide +kernel
theorem dL_law_480 : decode cL_law 480 = .ok (.iaload, 1) := by decide +kernel
theorem dL_law_481 : decode cL_law 481 = .ok (.aload_n 0, 1) := by decide +kernel
theorem dL_law_482 : decode cL_law 482 = .ok (.iload_n 3, 1) := by decide +kernel
theorem dL_law_483 : decode cL_law 483 = .ok (.iconst 2, 1) := by decide +kernel
theorem dL_law_484 : decode cL_law 484 = .ok (.iadd, 1) := by decide +kernel
theorem dL_law_485 : decode cL_law 485 = .ok (.iaload, 1) := by decide +kernel
theorem dL_law_486 : decode cL_law 486 = .ok (.invokevirtual 69, 3) := by decide +kernel
theorem dL_law_489 : decode cL_law 489 = .ok (.aload_n 2, 1) := by decide +kernel
theorem dL_law_490 : decode cL_law 490 = .ok (.aload_n 0, 1) := by decide +kernel
theorem dL_law_491 : decode cL_law 491 = .ok (.iload_n 3, 1) := by decide +kernel
theorem dL_law_492 : decode cL_law 492 = .ok (.iconst 1, 1) := by decide +kernel
theorem dL_law_493 : decode cL_law 493 = .ok (.iadd, 1) := by decide +kernel
theorem dL_law_494 : decode cL_law 494 = .ok (.iaload, 1) := by decide +kernel
theorem dL_law_495 : decode cL_law 495 = .ok (.aload_n 0, 1) := by decide +kernel
theorem dL_law_496 : decode cL_law 496 = .ok (.iload_n 3, 1) := by decide +kernel
theorem dL_law_497 : decode cL_law 497 = .ok (.iconst 2, 1) := by decide +kernel
theorem dL_law_498 : decode cL_law 498 = .ok (.iadd, 1) := by decide +kernel
theorem dL_law_499 : decode cL_law 499 = .ok (.iaload, 1) := by decide +kernel
theorem dL_law_500 : decode cL_law 500 = .ok (.invokevirtual 72, 3) := by decide +kernel
theorem dL_law_503 : decode cL_law 503 = .ok (.if_icmp .eq 390, 3) := by decide +kernel
theorem dL_law_506 : decode cL_law 506 = .ok (.iconst 0, 1) := by decide +kernel
theorem dL_law_507 : decode cL_law 507 = .ok (.ireturn, 1) := by decide +kernel
theorem dL_law_508 : decode cL_law 508 = .ok (.aload_n 1, 1) := by decide +kernel
theorem dL_law_509 : decode cL_law 509 = .ok (.aload_n 0, 1) := by decide +kernel
theorem dL_law_510 : decode cL_law 510 = .ok (.iload_n 3, 1) := by decide +kernel
theorem dL_law_511 : decode cL_law 511 = .ok (.iconst 1, 1) := by decide +kernel
theorem dL_law_512 : decode cL_law 512 = .ok (.iadd, 1) := by decide +kernel
theorem dL_law_513 : decode cL_law 513 = .ok (.iaload, 1) := by decide +kernel
theorem dL_law_514 : decode cL_law 514 = .ok (.aload_n 0, 1) := by decide +kernel
theorem dL_law_515 : decode cL_law 515 = .ok (.iload_n 3, 1) := by decide +kernel
theorem dL_law_516 : decode cL_law 516 = .ok (.iconst 2, 1) := by decide +kernel
theorem dL_law_517 : decode cL_law 517 = .ok (.iadd, 1) := by decide +kernel
theorem dL_law_518 : decode cL_law 518 = .ok (.iaload, 1) := by decide +kernel
theorem dL_law_519 : decode cL_law 519 = .ok (.ifCond .eq 7, 3) := by decide +kernel
theorem dL_law_522 : decode cL_law 522 = .ok (.iconst 1, 1) := by decide +kernel
theorem dL_law_523 : decode cL_law 523 = .ok (.goto 4, 3) := by decide +kernel
theorem dL_law_526 : decode cL_law 526 = .ok (.iconst 0, 1) := by decide +kernel
theorem dL_law_527 : decode cL_law 527 = .ok (.invokevirtual 73, 3) := by decide +kernel
theorem dL_law_530 : decode cL_law 530 = .ok (.aload_n 2, 1) := by decide +kernel
theorem dL_law_531 : decode cL_law 531 = .ok (.aload_n 0, 1) := by decide +kernel
theorem dL_law_532 : decode cL_law 532 = .ok (.iload_n 3, 1) := by decide +kernel
theorem dL_law_533 : decode cL_law 533 = .ok (.iconst 1, 1) := by decide +kernel
theorem dL_law_534 : decode cL_law 534 = .ok (.iadd, 1) := by decide +kernel
theorem dL_law_535 : decode cL_law 535 = .ok (.iaload, 1) := by decide +kernel
theorem dL_law_536 : decode cL_law 536 = .ok (.aload_n 0, 1) := by decide +kernel
theorem dL_law_537 : decode cL_law 537 = .ok (.iload_n 3, 1) := by decide +kernel
theorem dL_law_538 : decode cL_law 538 = .ok (.iconst 2, 1) := by decide +kernel
theorem dL_law_539 : decode cL_law 539 = .ok (.iadd, 1) := by decide +kernel
theorem dL_law_540 : decode cL_law 540 = .ok (.iaload, 1) := by decide +kernel
theorem dL_law_541 : decode cL_law 541 = .ok (.ifCond .eq 7, 3) := by decide +kernel
theorem dL_law_544 : decode cL_law 544 = .ok (.iconst 1, 1) := by decide +kernel
theorem dL_law_545 : decode cL_law 545 = .ok (.goto 4, 3) := by decide +kernel
theorem dL_law_548 : decode cL_law 548 = .ok (.iconst 0, 1) := by decide +kernel
theorem dL_law_549 : decode cL_law 549 = .ok (.invokevirtual 77, 3) := by decide +kernel
theorem dL_law_552 : decode cL_law 552 = .ok (.if_icmp .eq 341, 3) := by decide +kernel
theorem dL_law_555 : decode cL_law 555 = .ok (.iconst 0, 1) := by decide +kernel
theorem dL_law_556 : decode cL_law 556 = .ok (.ireturn, 1) := by decide +kernel
theorem dL_law_557 : decode cL_law 557 = .ok (.aload_n 1, 1) := by decide +kernel
theorem dL_law_558 : decode cL_law 558 = .ok (.invokevirtual 78, 3) := by decide +kernel
theorem dL_law_561 : decode cL_law 561 = .ok (.aload_n 2, 1) := by decide +kernel
theorem dL_law_562 : decode cL_law 562 = .ok (.invokevirtual 81, 3) := by decide +kernel
theorem dL_law_565 : decode cL_law 565 = .ok (.if_icmp .eq 328, 3) := by decide +kernel
theorem dL_law_568 : decode cL_law 568 = .ok (.iconst 0, 1) := by decide +kernel
theorem dL_law_569 : decode cL_law 569 = .ok (.ireturn, 1) := by decide +kernel
theorem dL_law_570 : decode cL_law 570 = .ok (.aload_n 1, 1) := by decide +kernel
theorem dL_law_571 : decode cL_law 571 = .ok (.aload_n 0, 1) := by decide +kernel
theorem dL_law_572 : decode cL_law 572 = .ok (.iload_n 3, 1) := by decide +kernel
theorem dL_law_573 : decode cL_law 573 = .ok (.iconst 1, 1) := by decide +kernel
theorem dL_law_574 : decode cL_law 574 = .ok (.iadd, 1) := by decide +kernel
theorem dL_law_575 : decode cL_law 575 = .ok (.iaload, 1) := by decide +kernel
theorem dL_law_576 : decode cL_law 576 = .ok (.invokevirtual 82, 3) := by decide +kernel
theorem dL_law_579 : decode cL_law 579 = .ok (.aload_n 2, 1) := by decide +kernel
theorem dL_law_580 : decode cL_law 580 = .ok (.aload_n 0, 1) := by decide +kernel
theorem dL_law_581 : decode cL_law 581 = .ok (.iload_n 3, 1) := by decide +kernel
theorem dL_law_582 : decode cL_law 582 = .ok (.iconst 1, 1) := by decide +kernel
theorem dL_law_583 : decode cL_law 583 = .ok (.iadd, 1) := by decide +kernel
theorem dL_law_584 : decode cL_law 584 = .ok (.iaload, 1) := by decide +kernel
theorem dL_law_585 : decode cL_law 585 = .ok (.invokevirtual 85, 3) := by decide +kernel
theorem dL_law_588 : decode cL_law 588 = .ok (.if_icmp .eq 305, 3) := by decide +kernel
theorem dL_law_591 : decode cL_law 591 = .ok (.iconst 0, 1) := by decide +kernel
theorem dL_law_592 : decode cL_law 592 = .ok (.ireturn, 1) := by decide +kernel
theorem dL_law_593 : decode cL_law 593 = .ok (.aload_n 1, 1) := by decide +kernel
theorem dL_law_594 : decode cL_law 594 = .ok (.invokevirtual 86, 3) := by decide +kernel
theorem dL_law_597 : decode cL_law 597 = .ok (.aload_n 2, 1) := by decide +kernel
theorem dL_law_598 : decode cL_law 598 = .ok (.invokevirtual 89, 3) := by decide +kernel
theorem dL_law_601 : decode cL_law 601 = .ok (.if_icmp .eq 292, 3) := by decide +kernel
theorem dL_law_604 : decode cL_law 604 = .ok (.iconst 0, 1) := by decide +kernel
theorem dL_law_605 : decode cL_law 605 = .ok (.ireturn, 1) := by decide +kernel
theorem dL_law_606 : decode cL_law 606 = .ok (.aload_n 1, 1) := by decide +kernel
theorem dL_law_607 : decode cL_law 607 = .ok (.aload_n 0, 1) := by decide +kernel
theorem dL_law_608 : decode cL_law 608 = .ok (.iload_n 3, 1) := by decide +kernel
theorem dL_law_609 : decode cL_law 609 = .ok (.iconst 1, 1) := by decide +kernel
theorem dL_law_610 : decode cL_law 610 = .ok (.iadd, 1) := by decide +kernel
theorem dL_law_611 : decode cL_law 611 = .ok (.iaload, 1) := by decide +kernel
theorem dL_law_612 : decode cL_law 612 = .ok (.aload_n 0, 1) := by decide +kernel
theorem dL_law_613 : decode cL_law 613 = .ok (.iload_n 3, 1) := by decide +kernel
theorem dL_law_614 : decode cL_law 614 = .ok (.iconst 2, 1) := by decide +kernel
theorem dL_law_615 : decode cL_law 615 = .ok (.iadd, 1) := by decide +kernel
theorem dL_law_616 : decode cL_law 616 = .ok (.iaload, 1) := by decide +kernel
theorem dL_law_617 : decode cL_law 617 = .ok (.ifCond .eq 7, 3) := by decide +kernel
theorem dL_law_620 : decode cL_law 620 = .ok (.iconst 1, 1) := by decide +kernel
theorem dL_law_621 : decode cL_law 621 = .ok (.goto 4, 3) := by decide +kernel
theorem dL_law_624 : decode cL_law 624 = .ok (.iconst 0, 1) := by decide +kernel
theorem dL_law_625 : decode cL_law 625 = .ok (.invokevirtual 90, 3) := by decide +kernel
theorem dL_law_628 : decode cL_law 628 = .ok (.aload_n 2, 1) := by decide +kernel
theorem dL_law_629 : decode cL_law 629 = .ok (.aload_n 0, 1) := by decide +kernel
theorem dL_law_630 : decode cL_law 630 = .ok (.iload_n 3, 1) := by decide +kernel
theorem dL_law_631 : decode cL_law 631 = .ok (.iconst 1, 1) := by decide +kernel
theorem dL_law_632 : decode cL_law 632 = .ok (.iadd, 1) := by decide +kernel
theorem dL_law_633 : decode cL_law 633 = .ok (.iaload, 1) := by decide +kernel
theorem dL_law_634 : decode cL_law 634 = .ok (.aload_n 0, 1) := by decide +kernel
theorem dL_law_635 : decode cL_law 635 = .ok (.iload_n 3, 1) := by decide +kernel
theorem dL_law_636 : decode cL_law 636 = .ok (.iconst 2, 1) := by decide +kernel
theorem dL_law_637 : decode cL_law 637 = .ok (.iadd, 1) := by decide +kernel
theorem dL_law_638 : decode cL_law 638 = .ok (.iaload, 1) := by decide +kernel
theorem dL_law_639 : decode cL_law 639 = .ok (.ifCond .eq 7, 3) := by decide +kernel
theorem dL_law_642 : decode cL_law 642 = .ok (.iconst 1, 1) := by decide +kernel
theorem dL_law_643 : decode cL_law 643 = .ok (.goto 4, 3) := by decide +kernel
theorem dL_law_646 : decode cL_law 646 = .ok (.iconst 0, 1) := by decide +kernel
theorem dL_law_647 : decode cL_law 647 = .ok (.invokevirtual 93, 3) := by decide +kernel
theorem dL_law_650 : decode cL_law 650 = .ok (.if_icmp .eq 243, 3) := by decide +kernel
theorem dL_law_653 : decode cL_law 653 = .ok (.iconst 0, 1) := by decide +kernel
theorem dL_law_654 : decode cL_law 654 = .ok (.ireturn, 1) := by decide +kernel
theorem dL_law_655 : decode cL_law 655 = .ok (.aload_n 1, 1) := by decide +kernel
theorem dL_law_656 : decode cL_law 656 = .ok (.aload_n 0, 1) := by decide +kernel
theorem dL_law_657 : decode cL_law 657 = .ok (.iload_n 3, 1) := by decide +kernel
theorem dL_law_658 : decode cL_law 658 = .ok (.iconst 1, 1) := by decide +kernel
theorem dL_law_659 : decode cL_law 659 = .ok (.iadd, 1) := by decide +kernel
theorem dL_law_660 : decode cL_law 660 = .ok (.iaload, 1) := by decide +kernel
theorem dL_law_661 : decode cL_law 661 = .ok (.aload_n 0, 1) := by decide +kernel
theorem dL_law_662 : decode cL_law 662 = .ok (.iload_n 3, 1) := by decide +kernel
theorem dL_law_663 : decode cL_law 663 = .ok (.iconst 2, 1) := by decide +kernel
theorem dL_law_664 : decode cL_law 664 = .ok (.iadd, 1) := by decide +kernel
theorem dL_law_665 : decode cL_law 665 = .ok (.iaload, 1) := by decide +kernel
theorem dL_law_666 : decode cL_law 666 = .ok (.invokevirtual 94, 3) := by decide +kernel
theorem dL_law_669 : decode cL_law 669 = .ok (.aload_n 2, 1) := by decide +kernel
theorem dL_law_670 : decode cL_law 670 = .ok (.aload_n 0, 1) := by decide +kernel
theorem dL_law_671 : decode cL_law 671 = .ok (.iload_n 3, 1) := by decide +kernel
theorem dL_law_672 : decode cL_law 672 = .ok (.iconst 1, 1) := by decide +kernel
theorem dL_law_673 : decode cL_law 673 = .ok (.iadd, 1) := by decide +kernel
theorem dL_law_674 : decode cL_law 674 = .ok (.iaload, 1) := by decide +kernel
theorem dL_law_675 : decode cL_law 675 = .ok (.aload_n 0, 1) := by decide +kernel
theorem dL_law_676 : decode cL_law 676 = .ok (.iload_n 3, 1) := by decide +kernel
theorem dL_law_677 : decode cL_law 677 = .ok (.iconst 2, 1) := by decide +kernel
theorem dL_law_678 : decode cL_law 678 = .ok (.iadd, 1) := by decide +kernel
theorem dL_law_679 : decode cL_law 679 = .ok (.iaload, 1) := by decide +kernel
theorem dL_law_680 : decode cL_law 680 = .ok (.invokevirtual 97, 3) := by decide +kernel
theorem dL_law_683 : decode cL_law 683 = .ok (.if_icmp .eq 210, 3) := by decide +kernel
theorem dL_law_686 : decode cL_law 686 = .ok (.iconst 0, 1) := by decide +kernel
theorem dL_law_687 : decode cL_law 687 = .ok (.ireturn, 1) := by decide +kernel
theorem dL_law_688 : decode cL_law 688 = .ok (.aload_n 1, 1) := by decide +kernel
theorem dL_law_689 : decode cL_law 689 = .ok (.invokevirtual 98, 3) := by decide +kernel
theorem dL_law_692 : decode cL_law 692 = .ok (.aload_n 2, 1) := by decide +kernel
theorem dL_law_693 : decode cL_law 693 = .ok (.invokevirtual 101, 3) := by decide +kernel
theorem dL_law_696 : decode cL_law 696 = .ok (.if_icmp .eq 197, 3) := by decide +kernel
theorem dL_law_699 : decode cL_law 699 = .ok (.iconst 0, 1) := by decide +kernel
theorem dL_law_700 : decode cL_law 700 = .ok (.ireturn, 1) := by decide +kernel
theorem dL_law_701 : decode cL_law 701 = .ok (.aload_n 1, 1) := by decide +kernel
theorem dL_law_702 : decode cL_law 702 = .ok (.invokevirtual 102, 3) := by decide +kernel
theorem dL_law_705 : decode cL_law 705 = .ok (.aload_n 2, 1) := by decide +kernel
theorem dL_law_706 : decode cL_law 706 = .ok (.invokevirtual 105, 3) := by decide +kernel
theorem dL_law_709 : decode cL_law 709 = .ok (.if_icmp .eq 184, 3) := by decide +kernel
theorem dL_law_712 : decode cL_law 712 = .ok (.iconst 0, 1) := by decide +kernel
theorem dL_law_713 : decode cL_law 713 = .ok (.ireturn, 1) := by decide +kernel
theorem dL_law_714 : decode cL_law 714 = .ok (.aload_n 1, 1) := by decide +kernel
theorem dL_law_715 : decode cL_law 715 = .ok (.aload_n 0, 1) := by decide +kernel
theorem dL_law_716 : decode cL_law 716 = .ok (.iload_n 3, 1) := by decide +kernel
theorem dL_law_717 : decode cL_law 717 = .ok (.iconst 1, 1) := by decide +kernel
theorem dL_law_718 : decode cL_law 718 = .ok (.iadd, 1) := by decide +kernel
theorem dL_law_719 : decode cL_law 719 = .ok (.iaload, 1) := by decide +kernel
theorem dL_law_720 : decode cL_law 720 = .ok (.aload_n 0, 1) := by decide +kernel
theorem dL_law_721 : decode cL_law 721 = .ok (.iload_n 3, 1) := by decide +kernel
theorem dL_law_722 : decode cL_law 722 = .ok (.iconst 2, 1) := by decide +kernel
theorem dL_law_723 : decode cL_law 723 = .ok (.iadd, 1) := by decide +kernel
theorem dL_law_724 : decode cL_law 724 = .ok (.iaload, 1) := by decide +kernel
theorem dL_law_725 : decode cL_law 725 = .ok (.invokevirtual 106, 3) := by decide +kernel
theorem dL_law_728 : decode cL_law 728 = .ok (.aload_n 2, 1) := by decide +kernel
theorem dL_law_729 : decode cL_law 729 = .ok (.aload_n 0, 1) := by decide +kernel
theorem dL_law_730 : decode cL_law 730 = .ok (.iload_n 3, 1) := by decide +kernel
theorem dL_law_731 : decode cL_law 731 = .ok (.iconst 1, 1) := by decide +kernel
theorem dL_law_732 : decode cL_law 732 = .ok (.iadd, 1) := by decide +kernel
theorem dL_law_733 : decode cL_law 733 = .ok (.iaload, 1) := by decide +kernel
theorem dL_law_734 : decode cL_law 734 = .ok (.aload_n 0, 1) := by decide +kernel
theorem dL_law_735 : decode cL_law 735 = .ok (.iload_n 3, 1) := by decide +kernel
theorem dL_law_736 : decode cL_law 736 = .ok (.iconst 2, 1) := by decide +kernel
theorem dL_law_737 : decode cL_law 737 = .ok (.iadd, 1) := by decide +kernel
theorem dL_law_738 : decode cL_law 738 = .ok (.iaload, 1) := by decide +kernel
theorem dL_law_739 : decode cL_law 739 = .ok (.invokevirtual 109, 3) := by decide +kernel
theorem dL_law_742 : decode cL_law 742 = .ok (.if_icmp .eq 151, 3) := by decide +kernel
theorem dL_law_745 : decode cL_law 745 = .ok (.iconst 0, 1) := by decide +kernel
theorem dL_law_746 : decode cL_law 746 = .ok (.ireturn, 1) := by decide +kernel
theorem dL_law_747 : decode cL_law 747 = .ok (.aload_n 1, 1) := by decide +kernel
theorem dL_law_748 : decode cL_law 748 = .ok (.aload_n 0, 1) := by decide +kernel
theorem dL_law_749 : decode cL_law 749 = .ok (.iload_n 3, 1) := by decide +kernel
theorem dL_law_750 : decode cL_law 750 = .ok (.iconst 1, 1) := by decide +kernel
theorem dL_law_751 : decode cL_law 751 = .ok (.iadd, 1) := by decide +kernel
theorem dL_law_752 : decode cL_law 752 = .ok (.iaload, 1) := by decide +kernel
theorem dL_law_753 : decode cL_law 753 = .ok (.i2l, 1) := by decide +kernel
theorem dL_law_754 : decode cL_law 754 = .ok (.bipush 32, 2) := by decide +kernel
theorem dL_law_756 : decode cL_law 756 = .ok (.lshl, 1) := by decide +kernel
theorem dL_law_757 : decode cL_law 757 = .ok (.aload_n 0, 1) := by decide +kernel
theorem dL_law_758 : decode cL_law 758 = .ok (.iload_n 3, 1) := by decide +kernel
theorem dL_law_759 : decode cL_law 759 = .ok (.iconst 2, 1) := by decide +kernel
theorem dL_law_760 : decode cL_law 760 = .ok (.iadd, 1) := by decide +kernel
theorem dL_law_761 : decode cL_law 761 = .ok (.iaload, 1) := by decide +kernel
theorem dL_law_762 : decode cL_law 762 = .ok (.i2l, 1) := by decide +kernel
theorem dL_law_763 : decode cL_law 763 = .ok (.ldc2_w 110, 3) := by decide +kernel
theorem dL_law_766 : decode cL_law 766 = .ok (.land, 1) := by decide +kernel
theorem dL_law_767 : decode cL_law 767 = .ok (.lor, 1) := by decide +kernel
theorem dL_law_768 : decode cL_law 768 = .ok (.invokevirtual 112, 3) := by decide +kernel
theorem dL_law_771 : decode cL_law 771 = .ok (.aload_n 2, 1) := by decide +kernel
theorem dL_law_772 : decode cL_law 772 = .ok (.aload_n 0, 1) := by decide +kernel
theorem dL_law_773 : decode cL_law 773 = .ok (.iload_n 3, 1) := by decide +kernel
theorem dL_law_774 : decode cL_law 774 = .ok (.iconst 1, 1) := by decide +kernel
theorem dL_law_775 : decode cL_law 775 = .ok (.iadd, 1) := by decide +kernel
theorem dL_law_776 : decode cL_law 776 = .ok (.iaload, 1) := by decide +kernel
theorem dL_law_777 : decode cL_law 777 = .ok (.i2l, 1) := by decide +kernel
theorem dL_law_778 : decode cL_law 778 = .ok (.bipush 32, 2) := by decide +kernel
theorem dL_law_780 : decode cL_law 780 = .ok (.lshl, 1) := by decide +kernel
theorem dL_law_781 : decode cL_law 781 = .ok (.aload_n 0, 1) := by decide +kernel
theorem dL_law_782 : decode cL_law 782 = .ok (.iload_n 3, 1) := by decide +kernel
theorem dL_law_783 : decode cL_law 783 = .ok (.iconst 2, 1) := by decide +kernel
theorem dL_law_784 : decode cL_law 784 = .ok (.iadd, 1) := by decide +kernel
theorem dL_law_785 : decode cL_law 785 = .ok (.iaload, 1) := by decide +kernel
theorem dL_law_786 : decode cL_law 786 = .ok (.i2l, 1) := by decide +kernel
theorem dL_law_787 : decode cL_law 787 = .ok (.ldc2_w 110, 3) := by decide +kernel
theorem dL_law_790 : decode cL_law 790 = .ok (.land, 1) := by decide +kernel
theorem dL_law_791 : decode cL_law 791 = .ok (.lor, 1) := by decide +kernel
theorem dL_law_792 : decode cL_law 792 = .ok (.invokevirtual 116, 3) := by decide +kernel
theorem dL_law_795 : decode cL_law 795 = .ok (.lcmp, 1) := by decide +kernel
theorem dL_law_796 : decode cL_law 796 = .ok (.ifCond .eq 97, 3) := by decide +kernel
theorem dL_law_799 : decode cL_law 799 = .ok (.iconst 0, 1) := by decide +kernel
theorem dL_law_800 : decode cL_law 800 = .ok (.ireturn, 1) := by decide +kernel
theorem dL_law_801 : decode cL_law 801 = .ok (.aload_n 1, 1) := by decide +kernel
theorem dL_law_802 : decode cL_law 802 = .ok (.aload_n 0, 1) := by decide +kernel
theorem dL_law_803 : decode cL_law 803 = .ok (.iload_n 3, 1) := by decide +kernel
theorem dL_law_804 : decode cL_law 804 = .ok (.iconst 1, 1) := by decide +kernel
theorem dL_law_805 : decode cL_law 805 = .ok (.iadd, 1) := by decide +kernel
theorem dL_law_806 : decode cL_law 806 = .ok (.iaload, 1) := by decide +kernel
theorem dL_law_807 : decode cL_law 807 = .ok (.invokevirtual 117, 3) := by decide +kernel
theorem dL_law_810 : decode cL_law 810 = .ok (.aload_n 2, 1) := by decide +kernel
theorem dL_law_811 : decode cL_law 811 = .ok (.aload_n 0, 1) := by decide +kernel
theorem dL_law_812 : decode cL_law 812 = .ok (.iload_n 3, 1) := by decide +kernel
theorem dL_law_813 : decode cL_law 813 = .ok (.iconst 1, 1) := by decide +kernel
theorem dL_law_814 : decode cL_law 814 = .ok (.iadd, 1) := by decide +kernel
theorem dL_law_815 : decode cL_law 815 = .ok (.iaload, 1) := by decide +kernel
theorem dL_law_816 : decode cL_law 816 = .ok (.invokevirtual 120, 3) := by decide +kernel
theorem dL_law_819 : decode cL_law 819 = .ok (.if_icmp .eq 74, 3) := by decide +kernel
theorem dL_law_822 : decode cL_law 822 = .ok (.iconst 0, 1) := by decide +kernel
theorem dL_law_823 : decode cL_law 823 = .ok (.ireturn, 1) := by decide +kernel
theorem dL_law_824 : decode cL_law 824 = .ok (.aload_n 1, 1) := by decide +kernel
theorem dL_law_825 : decode cL_law 825 = .ok (.aload_n 0, 1) := by decide +kernel
theorem dL_law_826 : decode cL_law 826 = .ok (.iload_n 3, 1) := by decide +kernel
theorem dL_law_827 : decode cL_law 827 = .ok (.iconst 1, 1) := by decide +kernel
theorem dL_law_828 : decode cL_law 828 = .ok (.iadd, 1) := by decide +kernel
theorem dL_law_829 : decode cL_law 829 = .ok (.iaload, 1) := by decide +kernel
theorem dL_law_830 : decode cL_law 830 = .ok (.invokevirtual 121, 3) := by decide +kernel
theorem dL_law_833 : decode cL_law 833 = .ok (.aload_n 2, 1) := by decide +kernel
theorem dL_law_834 : decode cL_law 834 = .ok (.aload_n 0, 1) := by decide +kernel
theorem dL_law_835 : decode cL_law 835 = .ok (.iload_n 3, 1) := by decide +kernel
theorem dL_law_836 : decode cL_law 836 = .ok (.iconst 1, 1) := by decide +kernel
theorem dL_law_837 : decode cL_law 837 = .ok (.iadd, 1) := by decide +kernel
theorem dL_law_838 : decode cL_law 838 = .ok (.iaload, 1) := by decide +kernel
theorem dL_law_839 : decode cL_law 839 = .ok (.invokevirtual 124, 3) := by decide +kernel
theorem dL_law_842 : decode cL_law 842 = .ok (.if_icmp .eq 51, 3) := by decide +kernel
theorem dL_law_845 : decode cL_law 845 = .ok (.iconst 0, 1) := by decide +kernel
theorem dL_law_846 : decode cL_law 846 = .ok (.ireturn, 1) := by decide +kernel
theorem dL_law_847 : decode cL_law 847 = .ok (.aload_n 1, 1) := by decide +kernel
theorem dL_law_848 : decode cL_law 848 = .ok (.aload_n 0, 1) := by decide +kernel
theorem dL_law_849 : decode cL_law 849 = .ok (.iload_n 3, 1) := by decide +kernel
theorem dL_law_850 : decode cL_law 850 = .ok (.iconst 1, 1) := by decide +kernel
theorem dL_law_851 : decode cL_law 851 = .ok (.iadd, 1) := by decide +kernel
theorem dL_law_852 : decode cL_law 852 = .ok (.iaload, 1) := by decide +kernel
theorem dL_law_853 : decode cL_law 853 = .ok (.invokevirtual 125, 3) := by decide +kernel
theorem dL_law_856 : decode cL_law 856 = .ok (.aload_n 2, 1) := by decide +kernel
theorem dL_law_857 : decode cL_law 857 = .ok (.aload_n 0, 1) := by decide +kernel
theorem dL_law_858 : decode cL_law 858 = .ok (.iload_n 3, 1) := by decide +kernel
theorem dL_law_859 : decode cL_law 859 = .ok (.iconst 1, 1) := by decide +kernel
theorem dL_law_860 : decode cL_law 860 = .ok (.iadd, 1) := by decide +kernel
theorem dL_law_861 : decode cL_law 861 = .ok (.iaload, 1) := by decide +kernel
theorem dL_law_862 : decode cL_law 862 = .ok (.invokevirtual 128, 3) := by decide +kernel
theorem dL_law_865 : decode cL_law 865 = .ok (.if_icmp .eq 28, 3) := by decide +kernel
theorem dL_law_868 : decode cL_law 868 = .ok (.iconst 0, 1) := by decide +kernel
theorem dL_law_869 : decode cL_law 869 = .ok (.ireturn, 1) := by decide +kernel
theorem dL_law_870 : decode cL_law 870 = .ok (.aload_n 1, 1) := by decide +kernel
theorem dL_law_871 : decode cL_law 871 = .ok (.aload_n 0, 1) := by decide +kernel
theorem dL_law_872 : decode cL_law 872 = .ok (.iload_n 3, 1) := by decide +kernel
theorem dL_law_873 : decode cL_law 873 = .ok (.iconst 1, 1) := by decide +kernel
theorem dL_law_874 : decode cL_law 874 = .ok (.iadd, 1) := by decide +kernel
theorem dL_law_875 : decode cL_law 875 = .ok (.iaload, 1) := by decide +kernel
theorem dL_law_876 : decode cL_law 876 = .ok (.invokevirtual 129, 3) := by decide +kernel
theorem dL_law_879 : decode cL_law 879 = .ok (.aload_n 2, 1) := by decide +kernel
theorem dL_law_880 : decode cL_law 880 = .ok (.aload_n 0, 1) := by decide +kernel
theorem dL_law_881 : decode cL_law 881 = .ok (.iload_n 3, 1) := by decide +kernel
theorem dL_law_882 : decode cL_law 882 = .ok (.iconst 1, 1) := by decide +kernel
theorem dL_law_883 : decode cL_law 883 = .ok (.iadd, 1) := by decide +kernel
theorem dL_law_884 : decode cL_law 884 = .ok (.iaload, 1) := by decide +kernel
theorem dL_law_885 : decode cL_law 885 = .ok (.invokevirtual 132, 3) := by decide +kernel
theorem dL_law_888 : decode cL_law 888 = .ok (.if_icmp .eq 5, 3) := by decide +kernel
theorem dL_law_891 : decode cL_law 891 = .ok (.iconst 0, 1) := by decide +kernel
theorem dL_law_892 : decode cL_law 892 = .ok (.ireturn, 1) := by decide +kernel
theorem dL_law_893 : decode cL_law 893 = .ok (.iinc 3 4, 3) := by decide +kernel
theorem dL_law_896 : decode cL_law 896 = .ok (.goto (-878), 3) := by decide +kernel
theorem dL_law_899 : decode cL_law 899 = .ok (.iconst 1, 1) := by decide +kernel
theorem dL_law_900 : decode cL_law 900 = .ok (.ireturn, 1) := by decide +kernel
def mk_tb : Nat → List Cond := fun k => match k with
  | 0 => k2_sels lw_privs
  | 1 => tables_1_1
  | 2 => tables_1_2
  | 3 => tables_1_3
  | 4 => tables_1_4
  | _ => tables_1_5
theorem mk_tbin (k : Nat) : ∀ w ∈ mk_tb k, w ∈ lw_tbl := by
  intro w h
  show w ∈ k2_sels lw_privs ++ (tables_1_1 ++ (tables_1_2 ++ (tables_1_3 ++ (tables_1_4 ++ tables_1_5))))
  match k, h with
  | 0, h => exact List.mem_append_left _ h
  | 1, h => exact List.mem_append_right _ (List.mem_append_left _ h)
  | 2, h => exact List.mem_append_right _ (List.mem_append_right _ (List.mem_append_left _ h))
  | 3, h => exact List.mem_append_right _ (List.mem_append_right _ (List.mem_append_right _ (List.mem_append_left _ h)))
  | 4, h => exact List.mem_append_right _ (List.mem_append_right _ (List.mem_append_right _ (List.mem_append_right _ (List.mem_append_left _ h))))
  | k + 5, h => exact List.mem_append_right _ (List.mem_append_right _ (List.mem_append_right _ (List.mem_append_right _ (List.mem_append_right _ h))))
theorem mk_tbm (k i : Nat) {w : Cond} (h : (mk_tb k)[i]? = some w) : w ∈ lw_tbl := mk_tbin k w (List.mem_of_getElem? h)
theorem goodIn_t (ws : List Cond) (ps : List (Nat × Nat)) (hp : ws = ps.filterMap (fun p => (mk_tb p.1)[p.2]?)) (h : ws.all goodWord = true) : GoodIn lw_tbl ws := by
  intro w hw
  have h1 := List.all_eq_true.mp h w hw
  rw [hp] at hw
  obtain ⟨i, -, hi⟩ := List.mem_filterMap.mp hw
  exact ⟨mk_tbm i.1 i.2 hi, good_of_word h1⟩
set_option maxRecDepth 40000 in
theorem kL_X6_write : GoodIn lw_tbl (wsV RL 13 RX6 yX6_write wsX6_write) := goodIn_t _ [(2, 2), (2, 3), (2, 4), (1, 1), (2, 5), (1, 206), (1, 205), (1, 217), (1, 219), (1, 221), (1, 223), (1, 225), (1, 227), (1, 229), (1, 231), (1, 233), (1, 235), (1, 237), (1, 239)] rfl (by decide +kernel)
set_option maxRecDepth 40000 in
theorem kL_X7_write : GoodIn lw_tbl (wsV RL 17 RX7 yX7_write wsX7_write) := goodIn_t _ [(4, 52), (4, 53), (4, 54), (1, 8), (4, 55), (4, 56), (3, 209), (3, 208), (4, 57), (4, 58), (1, 8), (4, 59), (3, 224), (3, 226), (3, 228), (3, 230), (3, 232), (3, 234), (3, 236), (3, 238), (4, 0), (4, 2), (4, 4), (4, 6), (4, 8), (4, 10), (4, 12), (4, 14), (4, 16), (4, 18), (4, 20), (4, 22), (4, 24), (4, 26), (4, 28), (4, 30), (4, 32), (4, 34), (4, 36), (4, 38), (4, 40), (4, 42), (4, 44), (4, 46), (4, 48)] rfl (by decide +kernel)
set_option maxRecDepth 40000 in
theorem kL_X6_wipe : GoodIn lw_tbl (wsV RL 18 RX6 yX6_wipe wsX6_wipe) := goodIn_t _ [(2, 6), (2, 7), (2, 8), (1, 1), (2, 9), (1, 206), (1, 217), (1, 219), (1, 221), (1, 223), (1, 225), (1, 227), (1, 229), (1, 231), (1, 233), (1, 235), (1, 237), (1, 239)] rfl (by decide +kernel)
set_option maxRecDepth 40000 in
theorem kL_X7_wipe : GoodIn lw_tbl (wsV RL 22 RX7 yX7_wipe wsX7_wipe) := goodIn_t _ [(4, 60), (4, 61), (4, 62), (1, 8), (4, 63), (3, 209), (3, 224), (3, 226), (3, 228), (3, 230), (3, 232), (3, 234), (3, 236), (3, 238), (4, 0), (4, 2), (4, 4), (4, 6), (4, 8), (4, 10), (4, 12), (4, 14), (4, 16), (4, 18), (4, 20), (4, 22), (4, 24), (4, 26), (4, 28), (4, 30), (4, 32), (4, 34), (4, 36), (4, 38), (4, 40), (4, 42), (4, 44), (4, 46), (4, 48)] rfl (by decide +kernel)
set_option maxRecDepth 40000 in
theorem kL_X6_fault : GoodIn lw_tbl (wsV RL 23 RX6 yX6_fault wsX6_fault) := goodIn_t _ [(2, 10), (2, 11), (2, 12), (1, 1), (2, 13), (2, 14), (2, 16), (0, 0), (1, 1), (2, 17), (1, 207), (1, 209), (1, 206), (1, 205), (2, 18), (2, 19), (2, 20), (1, 2), (2, 21), (1, 25), (1, 26), (2, 22), (2, 23), (2, 24), (1, 3), (2, 25), (1, 69), (1, 73), (1, 81), (1, 87), (2, 26), (2, 27), (2, 28), (2, 29), (1, 27), (2, 30), (2, 32), (0, 1), (2, 33), (2, 34), (2, 35), (2, 36), (2, 37), (2, 38), (2, 39), (2, 40), (2, 41), (2, 42), (2, 43), (2, 44), (2, 45), (2, 46), (2, 47), (2, 48), (2, 49), (2, 50), (2, 51), (2, 52), (2, 53), (1, 85), (1, 86), (2, 54), (2, 55), (2, 56), (2, 57), (1, 53), (1, 54), (1, 55), (1, 56), (2, 58), (2, 60), (0, 2), (2, 61), (1, 28), (2, 62), (2, 64), (0, 3), (2, 65), (2, 66), (2, 68), (0, 4), (2, 69), (2, 70), (2, 71), (2, 72), (2, 73), (2, 75), (0, 5), (2, 76), (2, 77), (2, 78), (2, 79), (2, 80), (1, 61), (1, 63), (1, 65), (1, 67), (2, 81), (2, 82), (2, 83), (2, 84), (2, 85), (1, 75), (1, 78), (2, 86), (2, 87), (2, 88), (2, 89), (2, 90), (2, 91), (2, 92), (2, 93), (1, 217), (1, 219), (1, 221), (1, 223), (1, 225), (1, 227), (1, 229), (1, 231), (1, 233), (1, 235), (1, 237), (1, 239), (1, 29), (1, 31), (1, 33), (1, 35), (1, 92), (1, 94), (1, 96), (1, 98), (1, 100), (1, 102), (1, 104), (1, 106), (1, 108), (1, 110), (1, 112), (1, 114), (1, 116), (1, 118)] rfl (by decide +kernel)
set_option maxRecDepth 40000 in
theorem kL_X7_fault : GoodIn lw_tbl (wsV RL 26 RX7 yX7_fault wsX7_fault) := goodIn_t _ [(4, 64), (4, 65), (4, 66), (1, 8), (4, 67), (4, 68), (4, 70), (0, 24), (1, 8), (4, 71), (3, 210), (3, 211), (3, 204), (3, 205), (3, 206), (3, 209), (3, 208), (4, 72), (4, 74), (0, 25), (4, 75), (3, 199), (3, 200), (3, 201), (3, 202), (3, 203), (4, 76), (4, 78), (0, 26), (4, 79), (4, 57), (4, 58), (4, 59), (4, 80), (4, 82), (0, 27), (4, 83), (4, 84), (4, 86), (0, 28), (4, 87), (4, 88), (4, 90), (0, 29), (4, 91), (4, 92), (4, 93), (4, 94), (4, 95), (3, 224), (3, 226), (3, 228), (3, 230), (3, 232), (3, 234), (3, 236), (3, 238), (4, 0), (4, 2), (4, 4), (4, 6), (4, 8), (4, 10), (4, 12), (4, 14), (4, 16), (4, 18), (4, 20), (4, 22), (4, 24), (4, 26), (4, 28), (4, 30), (4, 32), (4, 34), (4, 36), (4, 38), (4, 40), (4, 42), (4, 44), (4, 46), (4, 48)] rfl (by decide +kernel)
set_option maxRecDepth 40000 in
theorem kL_X6_town : GoodIn lw_tbl (wsV RL 27 RX6 yX6_town wsX6_town) := goodIn_t _ [(2, 94), (2, 95), (2, 96), (1, 1), (2, 97), (1, 208), (1, 209), (1, 210), (1, 211), (1, 167), (1, 71), (1, 83), (2, 14), (2, 16), (0, 0), (1, 1), (2, 17), (1, 207), (1, 206), (1, 205), (2, 18), (2, 19), (2, 20), (1, 2), (2, 21), (1, 25), (1, 26), (2, 22), (2, 23), (2, 24), (1, 3), (2, 25), (1, 69), (1, 73), (1, 81), (1, 87), (2, 26), (2, 27), (2, 28), (2, 29), (1, 27), (2, 30), (2, 32), (0, 1), (2, 33), (2, 34), (2, 35), (2, 36), (2, 37), (2, 38), (2, 39), (2, 40), (2, 41), (2, 42), (2, 43), (2, 44), (2, 45), (2, 46), (2, 47), (2, 48), (2, 49), (2, 50), (2, 51), (2, 52), (2, 53), (1, 85), (1, 86), (2, 54), (2, 55), (2, 56), (2, 57), (1, 53), (1, 54), (1, 55), (1, 56), (2, 58), (2, 60), (0, 2), (2, 61), (1, 28), (2, 62), (2, 64), (0, 3), (2, 65), (2, 66), (2, 68), (0, 4), (2, 69), (2, 70), (2, 71), (2, 72), (2, 73), (2, 75), (0, 5), (2, 76), (2, 77), (2, 78), (2, 79), (2, 80), (1, 61), (1, 63), (1, 65), (1, 67), (2, 81), (2, 82), (2, 83), (2, 84), (2, 85), (1, 75), (1, 78), (2, 86), (2, 87), (2, 88), (2, 89), (2, 90), (2, 91), (2, 92), (2, 93), (2, 98), (1, 46), (1, 47), (1, 48), (1, 90), (1, 89), (1, 49), (1, 50), (1, 51), (1, 52), (1, 57), (1, 58), (1, 59), (1, 60), (2, 99), (1, 128), (1, 129), (1, 4), (1, 130), (1, 131), (1, 135), (1, 138), (1, 141), (2, 100), (2, 102), (0, 6), (2, 103), (1, 212), (1, 145), (2, 104), (2, 106), (0, 7), (2, 107), (1, 217), (1, 219), (1, 221), (1, 223), (1, 225), (1, 227), (1, 229), (1, 231), (1, 233), (1, 235), (1, 237), (1, 239), (1, 168), (1, 170), (1, 172), (1, 174), (1, 92), (1, 94), (1, 96), (1, 98), (1, 100), (1, 102), (1, 104), (1, 106), (1, 108), (1, 110), (1, 112), (1, 114), (1, 116), (1, 118), (1, 29), (1, 31), (1, 33), (1, 35), (1, 146), (1, 148), (1, 150), (1, 152), (1, 154)] rfl (by decide +kernel)
set_option maxRecDepth 40000 in
theorem kL_X7_town : GoodIn lw_tbl (wsV RL 30 RX7 yX7_town wsX7_town) := goodIn_t _ [(4, 96), (4, 97), (4, 98), (1, 8), (4, 99), (3, 204), (3, 191), (3, 205), (3, 192), (3, 206), (3, 193), (3, 194), (3, 199), (3, 195), (3, 200), (3, 196), (3, 201), (3, 197), (3, 202), (3, 198), (3, 203), (3, 212), (3, 222), (4, 68), (4, 70), (0, 24), (1, 8), (4, 71), (3, 210), (3, 211), (3, 209), (3, 208), (4, 72), (4, 74), (0, 25), (4, 75), (4, 76), (4, 78), (0, 26), (4, 79), (4, 57), (4, 58), (4, 59), (4, 80), (4, 82), (0, 27), (4, 83), (4, 84), (4, 86), (0, 28), (4, 87), (4, 88), (4, 90), (0, 29), (4, 91), (4, 92), (4, 93), (4, 94), (4, 95), (3, 187), (3, 189), (0, 23), (3, 190), (3, 207), (3, 224), (3, 226), (3, 228), (3, 230), (3, 232), (3, 234), (3, 236), (3, 238), (4, 0), (4, 2), (4, 4), (4, 6), (4, 8), (4, 10), (4, 12), (4, 14), (4, 16), (4, 18), (4, 20), (4, 22), (4, 24), (4, 26), (4, 28), (4, 30), (4, 32), (4, 34), (4, 36), (4, 38), (4, 40), (4, 42), (4, 44), (4, 46), (4, 48)] rfl (by decide +kernel)
set_option maxRecDepth 40000 in
theorem kL_X6_thing : GoodIn lw_tbl (wsV RL 31 RX6 yX6_thing wsX6_thing) := goodIn_t _ [(2, 108), (2, 109), (2, 110), (1, 1), (2, 111), (1, 208), (1, 62), (1, 64), (1, 66), (1, 68), (1, 210), (1, 143), (2, 112), (2, 55), (2, 56), (1, 3), (2, 57), (1, 69), (2, 113), (2, 115), (0, 8), (1, 1), (2, 116), (1, 134), (2, 117), (2, 118), (2, 119), (2, 120), (1, 73), (2, 121), (2, 122), (2, 123), (2, 124), (1, 63), (1, 61), (1, 57), (1, 58), (1, 59), (1, 60), (2, 125), (2, 127), (0, 9), (2, 128), (2, 129), (2, 130), (2, 131), (1, 4), (2, 132), (2, 133), (2, 135), (0, 10), (2, 136), (1, 138), (1, 217), (1, 219), (1, 221), (1, 223), (1, 225), (1, 227), (1, 229), (1, 231), (1, 233), (1, 235), (1, 237), (1, 239), (1, 92), (1, 94), (1, 96), (1, 98), (1, 100), (1, 102), (1, 104), (1, 106), (1, 108), (1, 110), (1, 112), (1, 114), (1, 116), (1, 118), (1, 146), (1, 148), (1, 150), (1, 152), (1, 154)] rfl (by decide +kernel)
set_option maxRecDepth 40000 in
theorem kL_X7_thing : GoodIn lw_tbl (wsV RL 35 RX7 yX7_thing wsX7_thing) := goodIn_t _ [(4, 100), (4, 101), (4, 102), (1, 8), (4, 103), (3, 207), (3, 194), (4, 104), (4, 106), (0, 30), (1, 8), (4, 107), (3, 191), (4, 57), (4, 58), (4, 59), (4, 108), (4, 110), (0, 31), (4, 111), (4, 112), (4, 114), (0, 32), (4, 115), (3, 192), (4, 93), (4, 94), (4, 95), (3, 224), (3, 226), (3, 228), (3, 230), (3, 232), (3, 234), (3, 236), (3, 238), (4, 0), (4, 2), (4, 4), (4, 6), (4, 8), (4, 10), (4, 12), (4, 14), (4, 16), (4, 18), (4, 20), (4, 22), (4, 24), (4, 26), (4, 28), (4, 30), (4, 32), (4, 34), (4, 36), (4, 38), (4, 40), (4, 42), (4, 44), (4, 46), (4, 48)] rfl (by decide +kernel)
set_option maxRecDepth 40000 in
theorem kL_X6_asker : GoodIn lw_tbl (wsV RL 36 RX6 yX6_asker wsX6_asker) := goodIn_t _ [(2, 137), (2, 138), (2, 139), (1, 1), (2, 140), (1, 208), (1, 77), (1, 80), (1, 210), (1, 140), (2, 141), (2, 142), (2, 143), (1, 3), (2, 144), (1, 81), (2, 145), (2, 146), (2, 147), (1, 4), (2, 148), (2, 133), (2, 135), (0, 10), (2, 136), (1, 138), (1, 217), (1, 219), (1, 221), (1, 223), (1, 225), (1, 227), (1, 229), (1, 231), (1, 233), (1, 235), (1, 237), (1, 239), (1, 92), (1, 94), (1, 96), (1, 98), (1, 100), (1, 102), (1, 104), (1, 106), (1, 108), (1, 110), (1, 112), (1, 114), (1, 116), (1, 118), (1, 146), (1, 148), (1, 150), (1, 152), (1, 154)] rfl (by decide +kernel)
set_option maxRecDepth 40000 in
theorem kL_X7_asker : GoodIn lw_tbl (wsV RL 39 RX7 yX7_asker wsX7_asker) := goodIn_t _ [(4, 116), (4, 117), (4, 118), (1, 8), (4, 119), (3, 195), (3, 196), (3, 207), (4, 120), (4, 122), (0, 33), (1, 8), (4, 123), (3, 192), (4, 57), (4, 58), (4, 59), (4, 124), (4, 126), (0, 34), (4, 127), (3, 224), (3, 226), (3, 228), (3, 230), (3, 232), (3, 234), (3, 236), (3, 238), (4, 0), (4, 2), (4, 4), (4, 6), (4, 8), (4, 10), (4, 12), (4, 14), (4, 16), (4, 18), (4, 20), (4, 22), (4, 24), (4, 26), (4, 28), (4, 30), (4, 32), (4, 34), (4, 36), (4, 38), (4, 40), (4, 42), (4, 44), (4, 46), (4, 48)] rfl (by decide +kernel)
set_option maxRecDepth 40000 in
theorem kL_X6_ask : GoodIn lw_tbl (wsV RL 40 RX6 yX6_ask wsX6_ask) := goodIn_t _ [(2, 149), (2, 150), (2, 151), (1, 1), (2, 152), (1, 208), (1, 77), (1, 80), (1, 210), (1, 140), (1, 211), (2, 141), (2, 142), (2, 143), (1, 3), (2, 144), (1, 81), (2, 112), (2, 55), (2, 56), (2, 57), (1, 69), (2, 153), (2, 154), (2, 155), (1, 5), (2, 156), (1, 166), (1, 163), (1, 164), (1, 165), (2, 157), (2, 159), (0, 11), (2, 160), (2, 161), (2, 163), (2, 162), (1, 9), (2, 117), (2, 118), (2, 119), (2, 120), (1, 73), (2, 121), (2, 122), (2, 123), (2, 124), (1, 63), (1, 61), (1, 57), (1, 58), (1, 59), (1, 60), (1, 217), (1, 219), (1, 221), (1, 223), (1, 225), (1, 227), (1, 229), (1, 231), (1, 233), (1, 235), (1, 237), (1, 239), (1, 92), (1, 94), (1, 96), (1, 98), (1, 100), (1, 102), (1, 104), (1, 106), (1, 108), (1, 110), (1, 112), (1, 114), (1, 116), (1, 118), (1, 146), (1, 148), (1, 150), (1, 152), (1, 154), (1, 168), (1, 170), (1, 172), (1, 174)] rfl (by decide +kernel)
set_option maxRecDepth 40000 in
theorem kL_X7_ask : GoodIn lw_tbl (wsV RL 43 RX7 yX7_ask wsX7_ask) := goodIn_t _ [(4, 128), (4, 129), (4, 130), (1, 8), (4, 131), (3, 195), (3, 196), (3, 207), (4, 120), (4, 122), (0, 33), (1, 8), (4, 123), (3, 192), (4, 57), (4, 58), (4, 59), (4, 104), (4, 106), (0, 30), (4, 107), (3, 191), (4, 132), (4, 134), (0, 35), (4, 135), (3, 214), (3, 213), (3, 212), (4, 108), (4, 110), (0, 31), (4, 111), (3, 194), (3, 224), (3, 226), (3, 228), (3, 230), (3, 232), (3, 234), (3, 236), (3, 238), (4, 0), (4, 2), (4, 4), (4, 6), (4, 8), (4, 10), (4, 12), (4, 14), (4, 16), (4, 18), (4, 20), (4, 22), (4, 24), (4, 26), (4, 28), (4, 30), (4, 32), (4, 34), (4, 36), (4, 38), (4, 40), (4, 42), (4, 44), (4, 46), (4, 48)] rfl (by decide +kernel)
set_option maxRecDepth 40000 in
theorem kL_X6_day : GoodIn lw_tbl (wsV RL 44 RX6 yX6_day wsX6_day) := goodIn_t _ [(2, 164), (2, 165), (2, 166), (1, 1), (2, 167), (1, 210), (1, 134), (1, 208), (1, 71), (1, 143), (1, 137), (1, 211), (2, 113), (2, 115), (0, 8), (1, 1), (2, 116), (2, 117), (2, 118), (2, 119), (1, 3), (2, 120), (1, 73), (2, 121), (2, 122), (2, 123), (2, 124), (1, 63), (1, 61), (1, 57), (1, 58), (1, 59), (1, 60), (2, 153), (2, 154), (2, 155), (1, 5), (2, 156), (1, 166), (1, 163), (1, 164), (1, 165), (2, 157), (2, 159), (0, 11), (2, 160), (2, 161), (2, 163), (2, 162), (1, 9), (1, 217), (1, 219), (1, 221), (1, 223), (1, 225), (1, 227), (1, 229), (1, 231), (1, 233), (1, 235), (1, 237), (1, 239), (1, 146), (1, 148), (1, 150), (1, 152), (1, 154), (1, 92), (1, 94), (1, 96), (1, 98), (1, 100), (1, 102), (1, 104), (1, 106), (1, 108), (1, 110), (1, 112), (1, 114), (1, 116), (1, 118), (1, 168), (1, 170), (1, 172), (1, 174)] rfl (by decide +kernel)
set_option maxRecDepth 40000 in
theorem kL_X7_day : GoodIn lw_tbl (wsV RL 47 RX7 yX7_day wsX7_day) := goodIn_t _ [(4, 136), (4, 137), (4, 138), (1, 8), (4, 139), (3, 207), (3, 191), (4, 132), (4, 134), (0, 35), (1, 8), (4, 135), (3, 214), (3, 213), (3, 212), (4, 108), (4, 110), (0, 31), (4, 111), (3, 194), (3, 224), (3, 226), (3, 228), (3, 230), (3, 232), (3, 234), (3, 236), (3, 238), (4, 0), (4, 2), (4, 4), (4, 6), (4, 8), (4, 10), (4, 12), (4, 14), (4, 16), (4, 18), (4, 20), (4, 22), (4, 24), (4, 26), (4, 28), (4, 30), (4, 32), (4, 34), (4, 36), (4, 38), (4, 40), (4, 42), (4, 44), (4, 46), (4, 48)] rfl (by decide +kernel)
set_option maxRecDepth 40000 in
theorem kL_X6_sell : GoodIn lw_tbl (wsV RL 48 RX6 yX6_sell wsX6_sell) := goodIn_t _ [(2, 168), (2, 169), (2, 170), (1, 1), (2, 171), (1, 208), (1, 210), (1, 143), (1, 68), (1, 134), (1, 137), (1, 211), (2, 112), (2, 55), (2, 56), (1, 3), (2, 57), (1, 69), (2, 113), (2, 115), (0, 8), (1, 1), (2, 116), (2, 117), (2, 118), (2, 119), (2, 120), (1, 73), (2, 121), (2, 122), (2, 123), (2, 124), (1, 63), (1, 61), (1, 57), (1, 58), (1, 59), (1, 60), (2, 153), (2, 154), (2, 155), (1, 5), (2, 156), (1, 166), (1, 163), (1, 164), (1, 165), (2, 157), (2, 159), (0, 11), (2, 160), (2, 161), (2, 163), (2, 162), (1, 9), (1, 217), (1, 219), (1, 221), (1, 223), (1, 225), (1, 227), (1, 229), (1, 231), (1, 233), (1, 235), (1, 237), (1, 239), (1, 146), (1, 148), (1, 150), (1, 152), (1, 154), (1, 92), (1, 94), (1, 96), (1, 98), (1, 100), (1, 102), (1, 104), (1, 106), (1, 108), (1, 110), (1, 112), (1, 114), (1, 116), (1, 118), (1, 168), (1, 170), (1, 172), (1, 174)] rfl (by decide +kernel)
set_option maxRecDepth 40000 in
theorem kL_X7_sell : GoodIn lw_tbl (wsV RL 51 RX7 yX7_sell wsX7_sell) := goodIn_t _ [(4, 140), (4, 141), (4, 142), (1, 8), (4, 143), (3, 207), (3, 194), (4, 104), (4, 106), (0, 30), (1, 8), (4, 107), (3, 191), (4, 57), (4, 58), (4, 59), (4, 132), (4, 134), (0, 35), (4, 135), (3, 214), (3, 213), (3, 212), (4, 108), (4, 110), (0, 31), (4, 111), (3, 224), (3, 226), (3, 228), (3, 230), (3, 232), (3, 234), (3, 236), (3, 238), (4, 0), (4, 2), (4, 4), (4, 6), (4, 8), (4, 10), (4, 12), (4, 14), (4, 16), (4, 18), (4, 20), (4, 22), (4, 24), (4, 26), (4, 28), (4, 30), (4, 32), (4, 34), (4, 36), (4, 38), (4, 40), (4, 42), (4, 44), (4, 46), (4, 48)] rfl (by decide +kernel)
set_option maxRecDepth 40000 in
theorem kL_X6_undo : GoodIn lw_tbl (wsV RL 52 RX6 yX6_undo wsX6_undo) := goodIn_t _ [(2, 172), (2, 173), (2, 174), (1, 1), (2, 175), (1, 211), (1, 167), (1, 210), (2, 176), (2, 177), (2, 178), (1, 5), (2, 179), (1, 166), (1, 136), (1, 165), (1, 163), (1, 133), (1, 142), (1, 164), (1, 139), (1, 217), (1, 219), (1, 221), (1, 223), (1, 225), (1, 227), (1, 229), (1, 231), (1, 233), (1, 235), (1, 237), (1, 239), (1, 168), (1, 170), (1, 172), (1, 174), (1, 146), (1, 148), (1, 150), (1, 152), (1, 154)] rfl (by decide +kernel)
set_option maxRecDepth 40000 in
theorem kL_X7_undo : GoodIn lw_tbl (wsV RL 55 RX7 yX7_undo wsX7_undo) := goodIn_t _ [(4, 144), (4, 145), (4, 146), (1, 8), (4, 147), (3, 212), (3, 213), (3, 207), (3, 214), (3, 224), (3, 226), (3, 228), (3, 230), (3, 232), (3, 234), (3, 236), (3, 238), (4, 0), (4, 2), (4, 4), (4, 6), (4, 8), (4, 10), (4, 12), (4, 14), (4, 16), (4, 18), (4, 20), (4, 22), (4, 24), (4, 26), (4, 28), (4, 30), (4, 32), (4, 34), (4, 36), (4, 38), (4, 40), (4, 42), (4, 44), (4, 46), (4, 48)] rfl (by decide +kernel)
set_option maxRecDepth 40000 in
theorem kL_X6_worlds : GoodIn lw_tbl (wsV RL 56 RX6 yX6_worlds wsX6_worlds) := goodIn_t _ [(2, 180), (2, 181), (2, 182), (1, 1), (2, 183), (1, 208), (1, 91), (1, 210), (1, 134), (2, 184), (2, 185), (1, 10), (2, 186), (2, 187), (2, 188), (2, 189), (2, 190), (2, 191), (2, 192), (1, 3), (2, 193), (1, 90), (1, 73), (1, 69), (2, 194), (2, 195), (2, 196), (2, 197), (2, 198), (2, 118), (2, 119), (2, 120), (2, 121), (2, 122), (2, 123), (2, 124), (1, 63), (1, 61), (1, 57), (1, 58), (1, 59), (1, 60), (2, 199), (2, 200), (2, 201), (2, 202), (2, 203), (2, 205), (0, 12), (2, 206), (2, 207), (2, 208), (2, 209), (2, 210), (1, 89), (1, 217), (1, 219), (1, 221), (1, 223), (1, 225), (1, 227), (1, 229), (1, 231), (1, 233), (1, 235), (1, 237), (1, 239), (1, 92), (1, 94), (1, 96), (1, 98), (1, 100), (1, 102), (1, 104), (1, 106), (1, 108), (1, 110), (1, 112), (1, 114), (1, 116), (1, 118), (1, 146), (1, 148), (1, 150), (1, 152), (1, 154)] rfl (by decide +kernel)
set_option maxRecDepth 40000 in
theorem kL_X7_worlds : GoodIn lw_tbl (wsV RL 59 RX7 yX7_worlds wsX7_worlds) := goodIn_t _ [(4, 148), (4, 149), (4, 150), (1, 8), (4, 151), (4, 152), (3, 191), (3, 207), (4, 57), (4, 58), (1, 8), (4, 59), (4, 153), (4, 155), (0, 36), (4, 156), (3, 193), (3, 197), (3, 198), (4, 93), (4, 94), (4, 95), (4, 157), (4, 159), (0, 37), (4, 160), (4, 161), (4, 163), (0, 38), (4, 164), (3, 194), (4, 108), (4, 110), (0, 31), (4, 111), (4, 165), (4, 167), (0, 39), (4, 168), (3, 224), (3, 226), (3, 228), (3, 230), (3, 232), (3, 234), (3, 236), (3, 238), (4, 0), (4, 2), (4, 4), (4, 6), (4, 8), (4, 10), (4, 12), (4, 14), (4, 16), (4, 18), (4, 20), (4, 22), (4, 24), (4, 26), (4, 28), (4, 30), (4, 32), (4, 34), (4, 36), (4, 38), (4, 40), (4, 42), (4, 44), (4, 46), (4, 48)] rfl (by decide +kernel)
set_option maxRecDepth 40000 in
theorem kL_X6_holds : GoodIn lw_tbl (wsV RL 60 RX6 yX6_holds wsX6_holds) := goodIn_t _ [(2, 211), (2, 212), (2, 213), (1, 1), (2, 214), (1, 208), (2, 141), (2, 142), (2, 143), (1, 3), (2, 144), (1, 81), (2, 215), (2, 217), (0, 13), (1, 1), (2, 218), (1, 210), (1, 134), (1, 74), (2, 190), (2, 191), (2, 192), (2, 193), (1, 90), (1, 73), (1, 69), (2, 194), (2, 195), (2, 196), (2, 197), (2, 198), (2, 118), (2, 119), (2, 120), (2, 121), (2, 122), (2, 123), (2, 124), (1, 63), (1, 61), (1, 57), (1, 58), (1, 59), (1, 60), (2, 199), (2, 200), (2, 201), (2, 202), (2, 203), (2, 205), (0, 12), (2, 206), (2, 145), (2, 146), (2, 147), (1, 4), (2, 148), (2, 133), (2, 135), (0, 10), (2, 136), (1, 138), (2, 219), (2, 184), (2, 185), (1, 10), (2, 186), (2, 187), (2, 188), (2, 189), (1, 217), (1, 219), (1, 221), (1, 223), (1, 225), (1, 227), (1, 229), (1, 231), (1, 233), (1, 235), (1, 237), (1, 239), (1, 92), (1, 94), (1, 96), (1, 98), (1, 100), (1, 102), (1, 104), (1, 106), (1, 108), (1, 110), (1, 112), (1, 114), (1, 116), (1, 118), (1, 146), (1, 148), (1, 150), (1, 152), (1, 154)] rfl (by decide +kernel)
set_option maxRecDepth 40000 in
theorem kL_X7_holds : GoodIn lw_tbl (wsV RL 63 RX7 yX7_holds wsX7_holds) := goodIn_t _ [(4, 169), (4, 170), (4, 171), (1, 8), (4, 172), (3, 191), (3, 207), (4, 120), (4, 122), (0, 33), (1, 8), (4, 123), (3, 192), (4, 57), (4, 58), (4, 59), (4, 124), (4, 126), (0, 34), (4, 127), (4, 173), (4, 175), (0, 40), (4, 176), (4, 157), (4, 159), (0, 37), (4, 160), (4, 153), (4, 155), (0, 36), (4, 156), (3, 193), (3, 197), (3, 198), (4, 93), (4, 94), (4, 95), (4, 161), (4, 163), (0, 38), (4, 164), (3, 194), (4, 108), (4, 110), (0, 31), (4, 111), (4, 177), (4, 179), (0, 41), (4, 180), (3, 224), (3, 226), (3, 228), (3, 230), (3, 232), (3, 234), (3, 236), (3, 238), (4, 0), (4, 2), (4, 4), (4, 6), (4, 8), (4, 10), (4, 12), (4, 14), (4, 16), (4, 18), (4, 20), (4, 22), (4, 24), (4, 26), (4, 28), (4, 30), (4, 32), (4, 34), (4, 36), (4, 38), (4, 40), (4, 42), (4, 44), (4, 46), (4, 48)] rfl (by decide +kernel)
set_option maxRecDepth 40000 in
theorem kL_X6_likely : GoodIn lw_tbl (wsV RL 64 RX6 yX6_likely wsX6_likely) := goodIn_t _ [(2, 220), (2, 221), (2, 222), (1, 1), (2, 223), (1, 208), (2, 141), (2, 142), (2, 143), (1, 3), (2, 144), (1, 81), (2, 112), (2, 55), (2, 56), (2, 57), (1, 69), (2, 215), (2, 217), (0, 13), (1, 1), (2, 218), (1, 210), (1, 134), (1, 74), (2, 190), (2, 191), (2, 192), (2, 193), (1, 90), (1, 73), (2, 194), (2, 195), (2, 196), (2, 197), (2, 198), (2, 118), (2, 119), (2, 120), (2, 121), (2, 122), (2, 123), (2, 124), (1, 63), (1, 61), (1, 57), (1, 58), (1, 59), (1, 60), (2, 199), (2, 200), (2, 201), (2, 202), (2, 203), (2, 205), (0, 12), (2, 206), (2, 145), (2, 146), (2, 147), (1, 4), (2, 148), (2, 133), (2, 135), (0, 10), (2, 136), (1, 138), (2, 219), (2, 207), (2, 208), (2, 209), (2, 210), (1, 89), (2, 224), (2, 225), (2, 226), (2, 227), (2, 228), (2, 229), (2, 230), (2, 231), (2, 232), (2, 233), (1, 217), (1, 219), (1, 221), (1, 223), (1, 225), (1, 227), (1, 229), (1, 231), (1, 233), (1, 235), (1, 237), (1, 239), (1, 92), (1, 94), (1, 96), (1, 98), (1, 100), (1, 102), (1, 104), (1, 106), (1, 108), (1, 110), (1, 112), (1, 114), (1, 116), (1, 118), (1, 146), (1, 148), (1, 150), (1, 152), (1, 154)] rfl (by decide +kernel)
set_option maxRecDepth 40000 in
theorem kL_X7_likely : GoodIn lw_tbl (wsV RL 68 RX7 yX7_likely wsX7_likely) := goodIn_t _ [(4, 181), (4, 182), (4, 183), (1, 8), (4, 184), (3, 207), (3, 191), (4, 120), (4, 122), (0, 33), (1, 8), (4, 123), (3, 192), (4, 57), (4, 58), (4, 59), (4, 104), (4, 106), (0, 30), (4, 107), (4, 124), (4, 126), (0, 34), (4, 127), (4, 185), (4, 187), (0, 42), (4, 188), (4, 173), (4, 175), (0, 40), (4, 176), (4, 157), (4, 159), (0, 37), (4, 160), (4, 153), (4, 155), (0, 36), (4, 156), (3, 193), (3, 197), (3, 198), (4, 93), (4, 94), (4, 95), (4, 161), (4, 163), (0, 38), (4, 164), (3, 194), (4, 108), (4, 110), (0, 31), (4, 111), (4, 177), (4, 179), (0, 41), (4, 180), (4, 165), (4, 167), (0, 39), (4, 168), (4, 189), (4, 190), (4, 191), (3, 224), (3, 226), (3, 228), (3, 230), (3, 232), (3, 234), (3, 236), (3, 238), (4, 0), (4, 2), (4, 4), (4, 6), (4, 8), (4, 10), (4, 12), (4, 14), (4, 16), (4, 18), (4, 20), (4, 22), (4, 24), (4, 26), (4, 28), (4, 30), (4, 32), (4, 34), (4, 36), (4, 38), (4, 40), (4, 42), (4, 44), (4, 46), (4, 48)] rfl (by decide +kernel)
set_option maxRecDepth 40000 in
theorem kL_X6_wise : GoodIn lw_tbl (wsV RL 69 RX6 yX6_wise wsX6_wise) := goodIn_t _ [(2, 234), (2, 235), (2, 236), (1, 1), (2, 237), (1, 208), (1, 210), (1, 143), (1, 134), (2, 141), (2, 142), (2, 143), (1, 3), (2, 144), (1, 81), (2, 112), (2, 55), (2, 56), (2, 57), (1, 69), (2, 215), (2, 217), (0, 13), (1, 1), (2, 218), (1, 74), (2, 190), (2, 191), (2, 192), (2, 193), (1, 90), (1, 73), (2, 194), (2, 195), (2, 196), (2, 197), (2, 198), (2, 118), (2, 119), (2, 120), (2, 121), (2, 122), (2, 123), (2, 124), (1, 63), (1, 61), (1, 57), (1, 58), (1, 59), (1, 60), (2, 199), (2, 200), (2, 201), (2, 202), (2, 203), (2, 205), (0, 12), (2, 206), (2, 145), (2, 146), (2, 147), (1, 4), (2, 148), (2, 133), (2, 135), (0, 10), (2, 136), (1, 138), (2, 219), (2, 207), (2, 208), (2, 209), (2, 210), (1, 89), (2, 238), (2, 239), (3, 0), (3, 1), (3, 2), (2, 225), (2, 226), (2, 227), (3, 3), (3, 4), (3, 6), (0, 14), (3, 7), (3, 8), (3, 10), (0, 15), (3, 11), (3, 12), (3, 13), (3, 14), (3, 15), (1, 67), (1, 217), (1, 219), (1, 221), (1, 223), (1, 225), (1, 227), (1, 229), (1, 231), (1, 233), (1, 235), (1, 237), (1, 239), (1, 146), (1, 148), (1, 150), (1, 152), (1, 154), (1, 92), (1, 94), (1, 96), (1, 98), (1, 100), (1, 102), (1, 104), (1, 106), (1, 108), (1, 110), (1, 112), (1, 114), (1, 116), (1, 118)] rfl (by decide +kernel)
set_option maxRecDepth 40000 in
theorem kL_X7_wise : GoodIn lw_tbl (wsV RL 72 RX7 yX7_wise wsX7_wise) := goodIn_t _ [(4, 192), (4, 193), (4, 194), (1, 8), (4, 195), (3, 207), (4, 120), (4, 122), (0, 33), (1, 8), (4, 123), (3, 192), (4, 57), (4, 58), (4, 59), (4, 104), (4, 106), (0, 30), (4, 107), (3, 191), (4, 124), (4, 126), (0, 34), (4, 127), (4, 185), (4, 187), (0, 42), (4, 188), (4, 173), (4, 175), (0, 40), (4, 176), (4, 157), (4, 159), (0, 37), (4, 160), (4, 153), (4, 155), (0, 36), (4, 156), (3, 193), (3, 197), (3, 198), (4, 93), (4, 94), (4, 95), (4, 161), (4, 163), (0, 38), (4, 164), (3, 194), (4, 108), (4, 110), (0, 31), (4, 111), (4, 177), (4, 179), (0, 41), (4, 180), (4, 165), (4, 167), (0, 39), (4, 168), (4, 196), (4, 198), (0, 43), (4, 199), (3, 215), (4, 200), (4, 202), (0, 44), (4, 203), (4, 204), (4, 206), (0, 45), (4, 207), (4, 208), (4, 210), (0, 46), (4, 211), (3, 224), (3, 226), (3, 228), (3, 230), (3, 232), (3, 234), (3, 236), (3, 238), (4, 0), (4, 2), (4, 4), (4, 6), (4, 8), (4, 10), (4, 12), (4, 14), (4, 16), (4, 18), (4, 20), (4, 22), (4, 24), (4, 26), (4, 28), (4, 30), (4, 32), (4, 34), (4, 36), (4, 38), (4, 40), (4, 42), (4, 44), (4, 46), (4, 48)] rfl (by decide +kernel)
set_option maxRecDepth 40000 in
theorem kL_X6_worth : GoodIn lw_tbl (wsV RL 73 RX6 yX6_worth wsX6_worth) := goodIn_t _ [(3, 16), (3, 17), (3, 18), (1, 1), (3, 19), (1, 208), (1, 71), (1, 210), (1, 134), (1, 214), (2, 190), (2, 191), (2, 192), (1, 3), (2, 193), (1, 90), (1, 73), (1, 69), (2, 194), (2, 195), (2, 196), (2, 197), (2, 198), (2, 118), (2, 119), (2, 120), (2, 121), (2, 122), (2, 123), (2, 124), (1, 63), (1, 61), (1, 57), (1, 58), (1, 59), (1, 60), (2, 199), (2, 200), (2, 201), (2, 202), (2, 203), (2, 205), (0, 12), (2, 206), (2, 207), (2, 208), (2, 209), (2, 210), (1, 89), (3, 20), (3, 21), (3, 22), (1, 7), (3, 23), (1, 70), (1, 132), (3, 24), (3, 25), (3, 26), (1, 4), (3, 27), (1, 72), (1, 141), (3, 28), (3, 29), (3, 30), (3, 31), (3, 32), (3, 2), (2, 225), (2, 226), (2, 227), (3, 3), (3, 4), (3, 6), (0, 14), (3, 7), (3, 8), (3, 10), (0, 15), (3, 11), (3, 12), (3, 13), (3, 14), (3, 15), (1, 67), (2, 228), (2, 229), (1, 1), (2, 230), (2, 231), (2, 232), (2, 233), (1, 217), (1, 219), (1, 221), (1, 223), (1, 225), (1, 227), (1, 229), (1, 231), (1, 233), (1, 235), (1, 237), (1, 239), (1, 92), (1, 94), (1, 96), (1, 98), (1, 100), (1, 102), (1, 104), (1, 106), (1, 108), (1, 110), (1, 112), (1, 114), (1, 116), (1, 118), (1, 146), (1, 148), (1, 150), (1, 152), (1, 154)] rfl (by decide +kernel)
set_option maxRecDepth 40000 in
theorem kL_X7_worth : GoodIn lw_tbl (wsV RL 77 RX7 yX7_worth wsX7_worth) := goodIn_t _ [(4, 212), (4, 213), (4, 214), (1, 8), (4, 215), (3, 191), (3, 207), (4, 57), (4, 58), (1, 8), (4, 59), (4, 185), (4, 187), (0, 42), (4, 188), (4, 173), (4, 175), (0, 40), (4, 176), (4, 157), (4, 159), (0, 37), (4, 160), (4, 153), (4, 155), (0, 36), (4, 156), (3, 193), (3, 197), (3, 198), (4, 93), (4, 94), (4, 95), (4, 161), (4, 163), (0, 38), (4, 164), (3, 194), (4, 108), (4, 110), (0, 31), (4, 111), (4, 177), (4, 179), (0, 41), (4, 180), (4, 165), (4, 167), (0, 39), (4, 168), (4, 216), (4, 218), (0, 47), (4, 219), (3, 215), (4, 196), (4, 198), (0, 43), (4, 199), (4, 200), (4, 202), (0, 44), (4, 203), (4, 204), (4, 206), (0, 45), (4, 207), (4, 208), (4, 210), (0, 46), (4, 211), (4, 189), (4, 190), (4, 191), (3, 224), (3, 226), (3, 228), (3, 230), (3, 232), (3, 234), (3, 236), (3, 238), (4, 0), (4, 2), (4, 4), (4, 6), (4, 8), (4, 10), (4, 12), (4, 14), (4, 16), (4, 18), (4, 20), (4, 22), (4, 24), (4, 26), (4, 28), (4, 30), (4, 32), (4, 34), (4, 36), (4, 38), (4, 40), (4, 42), (4, 44), (4, 46), (4, 48)] rfl (by decide +kernel)
set_option maxRecDepth 40000 in
theorem kL_X6_toAsk : GoodIn lw_tbl (wsV RL 78 RX6 yX6_toAsk wsX6_toAsk) := goodIn_t _ [(3, 33), (3, 34), (3, 35), (1, 1), (3, 36), (1, 214), (1, 208), (1, 210), (3, 37), (3, 39), (0, 16), (1, 1), (3, 40), (1, 134), (2, 190), (2, 191), (2, 192), (1, 3), (2, 193), (1, 90), (1, 73), (1, 69), (2, 194), (2, 195), (2, 196), (2, 197), (2, 198), (2, 118), (2, 119), (2, 120), (2, 121), (2, 122), (2, 123), (2, 124), (1, 63), (1, 61), (1, 57), (1, 58), (1, 59), (1, 60), (2, 199), (2, 200), (2, 201), (2, 202), (2, 203), (2, 205), (0, 12), (2, 206), (2, 207), (2, 208), (2, 209), (2, 210), (1, 89), (3, 41), (3, 42), (3, 43), (1, 7), (3, 44), (1, 132), (1, 70), (1, 201), (3, 45), (3, 46), (3, 21), (3, 22), (3, 23), (3, 24), (3, 25), (3, 26), (1, 4), (3, 27), (1, 72), (1, 141), (3, 28), (3, 29), (3, 30), (3, 31), (3, 32), (3, 2), (2, 225), (2, 226), (2, 227), (3, 3), (3, 4), (3, 6), (0, 14), (3, 7), (3, 8), (3, 10), (0, 15), (3, 11), (3, 12), (3, 13), (3, 14), (3, 15), (1, 67), (3, 47), (3, 48), (3, 49), (3, 50), (3, 51), (3, 52), (3, 53), (3, 54), (1, 84), (1, 138), (3, 55), (3, 57), (0, 17), (3, 58), (1, 82), (3, 59), (3, 61), (0, 18), (3, 62), (1, 76), (1, 79), (3, 63), (3, 65), (0, 19), (3, 66), (3, 67), (2, 185), (1, 10), (2, 186), (2, 187), (2, 188), (2, 189), (1, 217), (1, 219), (1, 221), (1, 223), (1, 225), (1, 227), (1, 229), (1, 231), (1, 233), (1, 235), (1, 237), (1, 239), (1, 146), (1, 148), (1, 150), (1, 152), (1, 154), (1, 92), (1, 94), (1, 96), (1, 98), (1, 100), (1, 102), (1, 104), (1, 106), (1, 108), (1, 110), (1, 112), (1, 114), (1, 116), (1, 118), (1, 202)] rfl (by decide +kernel)
set_option maxRecDepth 40000 in
theorem kL_X7_toAsk : GoodIn lw_tbl (wsV RL 81 RX7 yX7_toAsk wsX7_toAsk) := goodIn_t _ [(4, 220), (4, 221), (4, 222), (1, 8), (4, 223), (3, 207), (4, 185), (4, 187), (0, 42), (1, 8), (4, 188), (3, 191), (4, 173), (4, 175), (0, 40), (4, 176), (4, 157), (4, 159), (0, 37), (4, 160), (4, 153), (4, 155), (0, 36), (4, 156), (3, 193), (3, 197), (3, 198), (4, 93), (4, 94), (4, 95), (4, 161), (4, 163), (0, 38), (4, 164), (3, 194), (4, 108), (4, 110), (0, 31), (4, 111), (4, 177), (4, 179), (0, 41), (4, 180), (4, 165), (4, 167), (0, 39), (4, 168), (4, 224), (4, 226), (0, 48), (4, 227), (3, 216), (4, 216), (4, 218), (0, 47), (4, 219), (3, 215), (4, 196), (4, 198), (0, 43), (4, 199), (4, 200), (4, 202), (0, 44), (4, 203), (4, 204), (4, 206), (0, 45), (4, 207), (4, 208), (4, 210), (0, 46), (4, 211), (4, 228), (4, 230), (0, 49), (4, 231), (3, 192), (4, 232), (4, 234), (0, 50), (4, 235), (4, 236), (4, 238), (0, 51), (4, 239), (3, 195), (3, 196), (5, 0), (5, 1), (5, 2), (4, 104), (4, 106), (0, 30), (4, 107), (4, 57), (4, 58), (4, 59), (5, 3), (5, 4), (5, 5), (3, 224), (3, 226), (3, 228), (3, 230), (3, 232), (3, 234), (3, 236), (3, 238), (4, 0), (4, 2), (4, 4), (4, 6), (4, 8), (4, 10), (4, 12), (4, 14), (4, 16), (4, 18), (4, 20), (4, 22), (4, 24), (4, 26), (4, 28), (4, 30), (4, 32), (4, 34), (4, 36), (4, 38), (4, 40), (4, 42), (4, 44), (4, 46), (4, 48)] rfl (by decide +kernel)
set_option maxRecDepth 40000 in
theorem kL_X6_by : GoodIn lw_tbl (wsV RL 82 RX6 yX6_by wsX6_by) := goodIn_t _ [(3, 68), (3, 69), (3, 70), (1, 1), (3, 71), (1, 208), (1, 214), (1, 210), (2, 141), (2, 142), (2, 143), (1, 3), (2, 144), (1, 81), (3, 37), (3, 39), (0, 16), (1, 1), (3, 40), (1, 134), (2, 190), (2, 191), (2, 192), (2, 193), (1, 90), (1, 73), (1, 69), (2, 194), (2, 195), (2, 196), (2, 197), (2, 198), (2, 118), (2, 119), (2, 120), (2, 121), (2, 122), (2, 123), (2, 124), (1, 63), (1, 61), (1, 57), (1, 58), (1, 59), (1, 60), (2, 199), (2, 200), (2, 201), (2, 202), (2, 203), (2, 205), (0, 12), (2, 206), (2, 207), (2, 208), (2, 209), (2, 210), (1, 89), (3, 41), (3, 42), (3, 43), (1, 7), (3, 44), (1, 132), (1, 70), (1, 201), (3, 45), (3, 46), (3, 21), (3, 22), (3, 23), (3, 24), (3, 25), (3, 26), (1, 4), (3, 27), (1, 72), (1, 141), (3, 28), (3, 29), (3, 30), (3, 31), (3, 32), (3, 2), (2, 225), (2, 226), (2, 227), (3, 3), (3, 4), (3, 6), (0, 14), (3, 7), (3, 8), (3, 10), (0, 15), (3, 11), (3, 12), (3, 13), (3, 14), (3, 15), (1, 67), (3, 72), (3, 73), (3, 74), (3, 75), (3, 76), (3, 48), (3, 49), (3, 50), (3, 51), (3, 52), (3, 53), (3, 54), (1, 84), (1, 138), (3, 55), (3, 57), (0, 17), (3, 58), (1, 82), (3, 59), (3, 61), (0, 18), (3, 62), (1, 76), (1, 79), (3, 63), (3, 65), (0, 19), (3, 66), (3, 67), (2, 185), (1, 10), (2, 186), (2, 187), (2, 188), (2, 189), (3, 77), (3, 79), (0, 20), (3, 80), (1, 217), (1, 219), (1, 221), (1, 223), (1, 225), (1, 227), (1, 229), (1, 231), (1, 233), (1, 235), (1, 237), (1, 239), (1, 92), (1, 94), (1, 96), (1, 98), (1, 100), (1, 102), (1, 104), (1, 106), (1, 108), (1, 110), (1, 112), (1, 114), (1, 116), (1, 118), (1, 146), (1, 148), (1, 150), (1, 152), (1, 154), (1, 202)] rfl (by decide +kernel)
set_option maxRecDepth 40000 in
theorem kL_X7_by : GoodIn lw_tbl (wsV RL 85 RX7 yX7_by wsX7_by) := goodIn_t _ [(5, 6), (5, 7), (5, 8), (1, 8), (5, 9), (3, 207), (4, 120), (4, 122), (0, 33), (1, 8), (4, 123), (3, 192), (4, 57), (4, 58), (4, 59), (4, 185), (4, 187), (0, 42), (4, 188), (3, 191), (4, 173), (4, 175), (0, 40), (4, 176), (4, 157), (4, 159), (0, 37), (4, 160), (4, 153), (4, 155), (0, 36), (4, 156), (3, 193), (3, 197), (3, 198), (4, 93), (4, 94), (4, 95), (4, 161), (4, 163), (0, 38), (4, 164), (3, 194), (4, 108), (4, 110), (0, 31), (4, 111), (4, 177), (4, 179), (0, 41), (4, 180), (4, 165), (4, 167), (0, 39), (4, 168), (4, 224), (4, 226), (0, 48), (4, 227), (3, 216), (4, 216), (4, 218), (0, 47), (4, 219), (3, 215), (4, 196), (4, 198), (0, 43), (4, 199), (4, 200), (4, 202), (0, 44), (4, 203), (4, 204), (4, 206), (0, 45), (4, 207), (4, 208), (4, 210), (0, 46), (4, 211), (4, 228), (4, 230), (0, 49), (4, 231), (4, 232), (4, 234), (0, 50), (4, 235), (4, 236), (4, 238), (0, 51), (4, 239), (3, 195), (3, 196), (5, 0), (5, 1), (5, 2), (4, 104), (4, 106), (0, 30), (4, 107), (5, 3), (5, 4), (5, 5), (3, 224), (3, 226), (3, 228), (3, 230), (3, 232), (3, 234), (3, 236), (3, 238), (4, 0), (4, 2), (4, 4), (4, 6), (4, 8), (4, 10), (4, 12), (4, 14), (4, 16), (4, 18), (4, 20), (4, 22), (4, 24), (4, 26), (4, 28), (4, 30), (4, 32), (4, 34), (4, 36), (4, 38), (4, 40), (4, 42), (4, 44), (4, 46), (4, 48)] rfl (by decide +kernel)
set_option maxRecDepth 40000 in
theorem kL_X6_fewest : GoodIn lw_tbl (wsV RL 86 RX6 yX6_fewest wsX6_fewest) := goodIn_t _ [(3, 81), (3, 82), (3, 83), (1, 1), (3, 84), (1, 208), (1, 210), (1, 134), (1, 71), (2, 190), (2, 191), (2, 192), (1, 3), (2, 193), (1, 90), (1, 73), (1, 69), (2, 194), (2, 195), (2, 196), (2, 197), (2, 198), (2, 118), (2, 119), (2, 120), (2, 121), (2, 122), (2, 123), (2, 124), (1, 63), (1, 61), (1, 57), (1, 58), (1, 59), (1, 60), (2, 199), (2, 200), (2, 201), (2, 202), (2, 203), (2, 205), (0, 12), (2, 206), (2, 184), (2, 185), (1, 10), (2, 186), (2, 187), (2, 188), (2, 189), (3, 85), (3, 86), (3, 87), (3, 88), (3, 89), (1, 217), (1, 219), (1, 221), (1, 223), (1, 225), (1, 227), (1, 229), (1, 231), (1, 233), (1, 235), (1, 237), (1, 239), (1, 146), (1, 148), (1, 150), (1, 152), (1, 154), (1, 92), (1, 94), (1, 96), (1, 98), (1, 100), (1, 102), (1, 104), (1, 106), (1, 108), (1, 110), (1, 112), (1, 114), (1, 116), (1, 118)] rfl (by decide +kernel)
set_option maxRecDepth 40000 in
theorem kL_X7_fewest : GoodIn lw_tbl (wsV RL 89 RX7 yX7_fewest wsX7_fewest) := goodIn_t _ [(5, 10), (5, 11), (5, 12), (1, 8), (5, 13), (3, 191), (3, 207), (5, 3), (5, 4), (1, 8), (5, 5), (4, 157), (4, 159), (0, 37), (4, 160), (4, 153), (4, 155), (0, 36), (4, 156), (3, 193), (3, 197), (3, 198), (4, 93), (4, 94), (4, 95), (4, 161), (4, 163), (0, 38), (4, 164), (3, 194), (4, 108), (4, 110), (0, 31), (4, 111), (3, 224), (3, 226), (3, 228), (3, 230), (3, 232), (3, 234), (3, 236), (3, 238), (4, 0), (4, 2), (4, 4), (4, 6), (4, 8), (4, 10), (4, 12), (4, 14), (4, 16), (4, 18), (4, 20), (4, 22), (4, 24), (4, 26), (4, 28), (4, 30), (4, 32), (4, 34), (4, 36), (4, 38), (4, 40), (4, 42), (4, 44), (4, 46), (4, 48)] rfl (by decide +kernel)
set_option maxRecDepth 40000 in
theorem kL_X6_share : GoodIn lw_tbl (wsV RL 90 RX6 yX6_share wsX6_share) := goodIn_t _ [(3, 90), (3, 91), (3, 92), (1, 1), (3, 93), (1, 208), (1, 210), (1, 214), (2, 141), (2, 142), (2, 143), (1, 3), (2, 144), (1, 81), (3, 37), (3, 39), (0, 16), (1, 1), (3, 40), (1, 134), (2, 190), (2, 191), (2, 192), (2, 193), (1, 90), (1, 73), (1, 69), (2, 194), (2, 195), (2, 196), (2, 197), (2, 198), (2, 118), (2, 119), (2, 120), (2, 121), (2, 122), (2, 123), (2, 124), (1, 63), (1, 61), (1, 57), (1, 58), (1, 59), (1, 60), (2, 199), (2, 200), (2, 201), (2, 202), (2, 203), (2, 205), (0, 12), (2, 206), (2, 207), (2, 208), (2, 209), (2, 210), (1, 89), (3, 94), (3, 52), (3, 53), (1, 4), (3, 54), (1, 84), (1, 138), (2, 228), (2, 229), (2, 230), (2, 231), (2, 232), (2, 233), (3, 41), (3, 42), (3, 43), (1, 7), (3, 44), (1, 132), (1, 70), (1, 201), (3, 45), (3, 46), (3, 21), (3, 22), (3, 23), (3, 24), (3, 25), (3, 26), (3, 27), (1, 72), (1, 141), (3, 28), (3, 29), (3, 30), (3, 31), (3, 32), (3, 2), (2, 225), (2, 226), (2, 227), (3, 3), (3, 4), (3, 6), (0, 14), (3, 7), (3, 8), (3, 10), (0, 15), (3, 11), (3, 12), (3, 13), (3, 14), (3, 15), (1, 67), (3, 95), (3, 96), (3, 97), (3, 98), (1, 82), (3, 67), (2, 185), (1, 10), (2, 186), (2, 187), (2, 188), (2, 189), (3, 55), (3, 57), (0, 17), (3, 58), (3, 59), (3, 61), (0, 18), (3, 62), (1, 76), (1, 79), (3, 63), (3, 65), (0, 19), (3, 66), (3, 99), (3, 100), (3, 101), (3, 102), (2, 184), (3, 104), (1, 217), (1, 219), (1, 221), (1, 223), (1, 225), (1, 227), (1, 229), (1, 231), (1, 233), (1, 235), (1, 237), (1, 239), (1, 92), (1, 94), (1, 96), (1, 98), (1, 100), (1, 102), (1, 104), (1, 106), (1, 108), (1, 110), (1, 112), (1, 114), (1, 116), (1, 118), (1, 146), (1, 148), (1, 150), (1, 152), (1, 154), (1, 202)] rfl (by decide +kernel)
set_option maxRecDepth 40000 in
theorem kL_X7_share : GoodIn lw_tbl (wsV RL 93 RX7 yX7_share wsX7_share) := goodIn_t _ [(5, 14), (5, 15), (5, 16), (1, 8), (5, 17), (3, 207), (3, 216), (4, 120), (4, 122), (0, 33), (1, 8), (4, 123), (3, 192), (4, 57), (4, 58), (4, 59), (4, 185), (4, 187), (0, 42), (4, 188), (3, 191), (4, 173), (4, 175), (0, 40), (4, 176), (4, 157), (4, 159), (0, 37), (4, 160), (4, 153), (4, 155), (0, 36), (4, 156), (3, 193), (3, 197), (3, 198), (4, 93), (4, 94), (4, 95), (4, 161), (4, 163), (0, 38), (4, 164), (3, 194), (4, 108), (4, 110), (0, 31), (4, 111), (4, 177), (4, 179), (0, 41), (4, 180), (4, 165), (4, 167), (0, 39), (4, 168), (4, 224), (4, 226), (0, 48), (4, 227), (4, 216), (4, 218), (0, 47), (4, 219), (3, 215), (4, 196), (4, 198), (0, 43), (4, 199), (4, 200), (4, 202), (0, 44), (4, 203), (4, 204), (4, 206), (0, 45), (4, 207), (4, 208), (4, 210), (0, 46), (4, 211), (4, 228), (4, 230), (0, 49), (4, 231), (5, 3), (5, 4), (5, 5), (5, 18), (5, 19), (5, 20), (4, 232), (4, 234), (0, 50), (4, 235), (4, 236), (4, 238), (0, 51), (4, 239), (3, 195), (3, 196), (5, 0), (5, 1), (5, 2), (4, 104), (4, 106), (0, 30), (4, 107), (4, 189), (4, 190), (4, 191), (3, 224), (3, 226), (3, 228), (3, 230), (3, 232), (3, 234), (3, 236), (3, 238), (4, 0), (4, 2), (4, 4), (4, 6), (4, 8), (4, 10), (4, 12), (4, 14), (4, 16), (4, 18), (4, 20), (4, 22), (4, 24), (4, 26), (4, 28), (4, 30), (4, 32), (4, 34), (4, 36), (4, 38), (4, 40), (4, 42), (4, 44), (4, 46), (4, 48)] rfl (by decide +kernel)
set_option maxRecDepth 40000 in
theorem kL_X6_see : GoodIn lw_tbl (wsV RL 94 RX6 yX6_see wsX6_see) := goodIn_t _ [(3, 105), (3, 106), (3, 107), (1, 1), (3, 108), (1, 208), (1, 213), (1, 187), (2, 112), (2, 55), (2, 56), (1, 3), (2, 57), (1, 69), (3, 109), (3, 110), (3, 111), (1, 6), (3, 112), (1, 186), (1, 184), (1, 185), (1, 217), (1, 219), (1, 221), (1, 223), (1, 225), (1, 227), (1, 229), (1, 231), (1, 233), (1, 235), (1, 237), (1, 239), (1, 188), (1, 190), (1, 192), (1, 92), (1, 94), (1, 96), (1, 98), (1, 100), (1, 102), (1, 104), (1, 106), (1, 108), (1, 110), (1, 112), (1, 114), (1, 116), (1, 118)] rfl (by decide +kernel)
set_option maxRecDepth 40000 in
theorem kL_X7_see : GoodIn lw_tbl (wsV RL 97 RX7 yX7_see wsX7_see) := goodIn_t _ [(5, 21), (5, 22), (5, 23), (1, 8), (5, 24), (4, 92), (3, 217), (3, 218), (3, 219), (4, 104), (4, 106), (0, 30), (1, 8), (4, 107), (3, 191), (4, 57), (4, 58), (4, 59), (3, 224), (3, 226), (3, 228), (3, 230), (3, 232), (3, 234), (3, 236), (3, 238), (4, 0), (4, 2), (4, 4), (4, 6), (4, 8), (4, 10), (4, 12), (4, 14), (4, 16), (4, 18), (4, 20), (4, 22), (4, 24), (4, 26), (4, 28), (4, 30), (4, 32), (4, 34), (4, 36), (4, 38), (4, 40), (4, 42), (4, 44), (4, 46), (4, 48)] rfl (by decide +kernel)
set_option maxRecDepth 40000 in
theorem kL_X6_unsee : GoodIn lw_tbl (wsV RL 98 RX6 yX6_unsee wsX6_unsee) := goodIn_t _ [(3, 113), (3, 114), (3, 115), (1, 1), (3, 116), (1, 213), (1, 187), (1, 217), (1, 219), (1, 221), (1, 223), (1, 225), (1, 227), (1, 229), (1, 231), (1, 233), (1, 235), (1, 237), (1, 239), (1, 188), (1, 190), (1, 192)] rfl (by decide +kernel)
set_option maxRecDepth 40000 in
theorem kL_X7_unsee : GoodIn lw_tbl (wsV RL 101 RX7 yX7_unsee wsX7_unsee) := goodIn_t _ [(5, 25), (5, 26), (5, 27), (1, 8), (5, 28), (3, 217), (3, 224), (3, 226), (3, 228), (3, 230), (3, 232), (3, 234), (3, 236), (3, 238), (4, 0), (4, 2), (4, 4), (4, 6), (4, 8), (4, 10), (4, 12), (4, 14), (4, 16), (4, 18), (4, 20), (4, 22), (4, 24), (4, 26), (4, 28), (4, 30), (4, 32), (4, 34), (4, 36), (4, 38), (4, 40), (4, 42), (4, 44), (4, 46), (4, 48)] rfl (by decide +kernel)
set_option maxRecDepth 40000 in
theorem kL_X6_which : GoodIn lw_tbl (wsV RL 102 RX6 yX6_which wsX6_which) := goodIn_t _ [(3, 117), (3, 118), (3, 119), (1, 1), (3, 120), (1, 213), (1, 208), (1, 91), (1, 71), (1, 74), (3, 121), (3, 122), (3, 123), (1, 6), (3, 124), (1, 186), (1, 184), (1, 185), (3, 125), (2, 55), (2, 56), (1, 3), (2, 57), (1, 69), (3, 126), (2, 239), (3, 0), (3, 1), (3, 2), (2, 225), (2, 226), (2, 227), (1, 89), (1, 57), (1, 58), (1, 59), (1, 60), (3, 3), (2, 208), (2, 209), (2, 210), (3, 4), (3, 6), (0, 14), (3, 7), (3, 8), (3, 10), (0, 15), (3, 11), (1, 61), (1, 63), (3, 12), (3, 13), (3, 14), (3, 15), (1, 67), (2, 219), (2, 200), (2, 201), (2, 202), (2, 207), (1, 217), (1, 219), (1, 221), (1, 223), (1, 225), (1, 227), (1, 229), (1, 231), (1, 233), (1, 235), (1, 237), (1, 239), (1, 92), (1, 94), (1, 96), (1, 98), (1, 100), (1, 102), (1, 104), (1, 106), (1, 108), (1, 110), (1, 112), (1, 114), (1, 116), (1, 118), (1, 188), (1, 190), (1, 192)] rfl (by decide +kernel)
set_option maxRecDepth 40000 in
theorem kL_X7_which : GoodIn lw_tbl (wsV RL 105 RX7 yX7_which wsX7_which) := goodIn_t _ [(5, 29), (5, 30), (5, 31), (1, 8), (5, 32), (4, 104), (4, 106), (0, 30), (1, 8), (4, 107), (3, 191), (4, 57), (4, 58), (4, 59), (5, 33), (5, 35), (0, 52), (5, 36), (3, 215), (3, 217), (3, 218), (3, 219), (5, 37), (5, 39), (0, 53), (5, 40), (4, 153), (4, 155), (0, 36), (4, 156), (3, 193), (3, 197), (3, 198), (4, 93), (4, 94), (4, 95), (4, 177), (4, 179), (0, 41), (4, 180), (3, 194), (4, 165), (4, 167), (0, 39), (4, 168), (4, 200), (4, 202), (0, 44), (4, 203), (4, 204), (4, 206), (0, 45), (4, 207), (4, 161), (4, 163), (0, 38), (4, 164), (4, 208), (4, 210), (0, 46), (4, 211), (3, 224), (3, 226), (3, 228), (3, 230), (3, 232), (3, 234), (3, 236), (3, 238), (4, 0), (4, 2), (4, 4), (4, 6), (4, 8), (4, 10), (4, 12), (4, 14), (4, 16), (4, 18), (4, 20), (4, 22), (4, 24), (4, 26), (4, 28), (4, 30), (4, 32), (4, 34), (4, 36), (4, 38), (4, 40), (4, 42), (4, 44), (4, 46), (4, 48)] rfl (by decide +kernel)
set_option maxRecDepth 40000 in
theorem kL_X6_judge : GoodIn lw_tbl (wsV RL 106 RX6 yX6_judge wsX6_judge) := goodIn_t _ [(3, 127), (3, 128), (3, 129), (1, 1), (3, 130), (1, 210), (1, 134), (1, 208), (3, 131), (3, 132), (1, 1), (3, 133), (3, 134), (3, 25), (3, 26), (1, 4), (3, 27), (1, 72), (1, 141), (3, 135), (3, 136), (3, 137), (3, 138), (3, 140), (0, 21), (3, 141), (2, 112), (2, 55), (2, 56), (1, 3), (2, 57), (1, 69), (2, 117), (2, 118), (2, 119), (2, 120), (1, 73), (2, 121), (2, 122), (2, 123), (2, 124), (1, 63), (1, 61), (1, 57), (1, 58), (1, 59), (1, 60), (1, 217), (1, 219), (1, 221), (1, 223), (1, 225), (1, 227), (1, 229), (1, 231), (1, 233), (1, 235), (1, 237), (1, 239), (1, 146), (1, 148), (1, 150), (1, 152), (1, 154), (1, 92), (1, 94), (1, 96), (1, 98), (1, 100), (1, 102), (1, 104), (1, 106), (1, 108), (1, 110), (1, 112), (1, 114), (1, 116), (1, 118)] rfl (by decide +kernel)
set_option maxRecDepth 40000 in
theorem kL_X7_judge : GoodIn lw_tbl (wsV RL 109 RX7 yX7_judge wsX7_judge) := goodIn_t _ [(5, 41), (5, 42), (5, 43), (1, 8), (5, 44), (5, 45), (3, 207), (3, 191), (4, 57), (4, 58), (1, 8), (4, 59), (5, 46), (5, 47), (5, 48), (4, 104), (4, 106), (0, 30), (4, 107), (4, 93), (4, 94), (4, 95), (4, 108), (4, 110), (0, 31), (4, 111), (3, 194), (3, 224), (3, 226), (3, 228), (3, 230), (3, 232), (3, 234), (3, 236), (3, 238), (4, 0), (4, 2), (4, 4), (4, 6), (4, 8), (4, 10), (4, 12), (4, 14), (4, 16), (4, 18), (4, 20), (4, 22), (4, 24), (4, 26), (4, 28), (4, 30), (4, 32), (4, 34), (4, 36), (4, 38), (4, 40), (4, 42), (4, 44), (4, 46), (4, 48)] rfl (by decide +kernel)
set_option maxRecDepth 40000 in
theorem kL_X6_seed : GoodIn lw_tbl (wsV RL 112 RX6 yX6_seed wsX6_seed) := goodIn_t _ [(3, 142), (3, 143), (3, 144), (1, 1), (3, 145), (1, 216), (1, 217), (1, 219), (1, 221), (1, 223), (1, 225), (1, 227), (1, 229), (1, 231), (1, 233), (1, 235), (1, 237), (1, 239)] rfl (by decide +kernel)
set_option maxRecDepth 40000 in
theorem kL_X7_seed : GoodIn lw_tbl (wsV RL 116 RX7 yX7_seed wsX7_seed) := goodIn_t _ [(5, 49), (5, 50), (5, 51), (1, 8), (5, 52), (3, 220), (3, 224), (3, 226), (3, 228), (3, 230), (3, 232), (3, 234), (3, 236), (3, 238), (4, 0), (4, 2), (4, 4), (4, 6), (4, 8), (4, 10), (4, 12), (4, 14), (4, 16), (4, 18), (4, 20), (4, 22), (4, 24), (4, 26), (4, 28), (4, 30), (4, 32), (4, 34), (4, 36), (4, 38), (4, 40), (4, 42), (4, 44), (4, 46), (4, 48)] rfl (by decide +kernel)
set_option maxRecDepth 40000 in
theorem kL_X6_year : GoodIn lw_tbl (wsV RL 117 RX6 yX6_year wsX6_year) := goodIn_t _ [(3, 146), (3, 147), (3, 148), (1, 1), (3, 149), (1, 208), (1, 71), (1, 215), (1, 91), (2, 238), (2, 239), (3, 0), (1, 3), (3, 1), (3, 2), (2, 225), (2, 226), (2, 227), (1, 69), (1, 89), (1, 57), (1, 58), (1, 59), (1, 60), (3, 3), (2, 208), (2, 209), (2, 210), (3, 4), (3, 6), (0, 14), (3, 7), (3, 8), (3, 10), (0, 15), (3, 11), (1, 61), (1, 63), (3, 12), (3, 13), (3, 14), (3, 15), (1, 67), (3, 150), (3, 152), (0, 22), (1, 1), (3, 153), (1, 216), (3, 154), (3, 155), (3, 156), (1, 66), (3, 157), (3, 158), (3, 159), (3, 160), (1, 86), (1, 49), (1, 50), (1, 51), (1, 52), (1, 87), (1, 85), (1, 53), (1, 54), (1, 55), (1, 56), (3, 161), (2, 122), (2, 123), (2, 124), (3, 162), (1, 217), (1, 219), (1, 221), (1, 223), (1, 225), (1, 227), (1, 229), (1, 231), (1, 233), (1, 235), (1, 237), (1, 239), (1, 92), (1, 94), (1, 96), (1, 98), (1, 100), (1, 102), (1, 104), (1, 106), (1, 108), (1, 110), (1, 112), (1, 114), (1, 116), (1, 118)] rfl (by decide +kernel)
set_option maxRecDepth 40000 in
theorem kL_X7_year : GoodIn lw_tbl (wsV RL 120 RX7 yX7_year wsX7_year) := goodIn_t _ [(5, 53), (5, 54), (5, 55), (1, 8), (5, 56), (5, 57), (3, 191), (3, 221), (4, 57), (4, 58), (1, 8), (4, 59), (5, 37), (5, 39), (0, 53), (5, 40), (3, 215), (4, 153), (4, 155), (0, 36), (4, 156), (3, 193), (3, 197), (3, 198), (4, 93), (4, 94), (4, 95), (4, 177), (4, 179), (0, 41), (4, 180), (3, 194), (4, 200), (4, 202), (0, 44), (4, 203), (4, 204), (4, 206), (0, 45), (4, 207), (4, 165), (4, 167), (0, 39), (4, 168), (4, 161), (4, 163), (0, 38), (4, 164), (4, 208), (4, 210), (0, 46), (4, 211), (5, 58), (5, 60), (0, 54), (5, 61), (3, 220), (5, 62), (5, 63), (5, 64), (3, 224), (3, 226), (3, 228), (3, 230), (3, 232), (3, 234), (3, 236), (3, 238), (4, 0), (4, 2), (4, 4), (4, 6), (4, 8), (4, 10), (4, 12), (4, 14), (4, 16), (4, 18), (4, 20), (4, 22), (4, 24), (4, 26), (4, 28), (4, 30), (4, 32), (4, 34), (4, 36), (4, 38), (4, 40), (4, 42), (4, 44), (4, 46), (4, 48)] rfl (by decide +kernel)
set_option maxRecDepth 40000 in
theorem kL_X6_keep : GoodIn lw_tbl (wsV RL 121 RX6 yX6_keep wsX6_keep) := goodIn_t _ [(3, 163), (3, 164), (3, 165), (1, 1), (3, 166), (1, 210), (1, 145), (1, 137), (2, 104), (2, 106), (0, 7), (1, 1), (2, 107), (1, 212), (3, 167), (3, 168), (3, 169), (1, 4), (3, 170), (1, 131), (1, 135), (1, 138), (3, 171), (2, 163), (2, 162), (1, 9), (1, 141), (1, 217), (1, 219), (1, 221), (1, 223), (1, 225), (1, 227), (1, 229), (1, 231), (1, 233), (1, 235), (1, 237), (1, 239), (1, 146), (1, 148), (1, 150), (1, 152), (1, 154)] rfl (by decide +kernel)
set_option maxRecDepth 40000 in
theorem kL_X7_keep : GoodIn lw_tbl (wsV RL 124 RX7 yX7_keep wsX7_keep) := goodIn_t _ [(5, 65), (5, 66), (5, 67), (1, 8), (5, 68), (3, 222), (3, 223), (3, 207), (4, 57), (4, 58), (1, 8), (4, 59), (3, 224), (3, 226), (3, 228), (3, 230), (3, 232), (3, 234), (3, 236), (3, 238), (4, 0), (4, 2), (4, 4), (4, 6), (4, 8), (4, 10), (4, 12), (4, 14), (4, 16), (4, 18), (4, 20), (4, 22), (4, 24), (4, 26), (4, 28), (4, 30), (4, 32), (4, 34), (4, 36), (4, 38), (4, 40), (4, 42), (4, 44), (4, 46), (4, 48)] rfl (by decide +kernel)
set_option maxRecDepth 40000 in
theorem kL_X6_again : GoodIn lw_tbl (wsV RL 125 RX6 yX6_again wsX6_again) := goodIn_t _ [(3, 172), (3, 173), (3, 174), (1, 1), (3, 175), (1, 145), (1, 210), (1, 211), (1, 167), (1, 137), (2, 104), (2, 106), (0, 7), (1, 1), (2, 107), (1, 212), (3, 167), (3, 168), (3, 169), (1, 4), (3, 170), (1, 131), (1, 135), (1, 138), (3, 171), (2, 163), (2, 162), (1, 9), (1, 141), (1, 146), (1, 148), (1, 150), (1, 152), (1, 154), (1, 217), (1, 219), (1, 221), (1, 223), (1, 225), (1, 227), (1, 229), (1, 231), (1, 233), (1, 235), (1, 237), (1, 239), (1, 168), (1, 170), (1, 172), (1, 174)] rfl (by decide +kernel)
set_option maxRecDepth 40000 in
theorem kL_X7_again : GoodIn lw_tbl (wsV RL 128 RX7 yX7_again wsX7_again) := goodIn_t _ [(5, 69), (5, 70), (5, 71), (1, 8), (5, 72), (3, 222), (3, 207), (3, 223), (3, 212), (4, 57), (4, 58), (1, 8), (4, 59), (3, 224), (3, 226), (3, 228), (3, 230), (3, 232), (3, 234), (3, 236), (3, 238), (4, 0), (4, 2), (4, 4), (4, 6), (4, 8), (4, 10), (4, 12), (4, 14), (4, 16), (4, 18), (4, 20), (4, 22), (4, 24), (4, 26), (4, 28), (4, 30), (4, 32), (4, 34), (4, 36), (4, 38), (4, 40), (4, 42), (4, 44), (4, 46), (4, 48)] rfl (by decide +kernel)
set_option maxRecDepth 40000 in
theorem kL_X6_count : GoodIn lw_tbl (wsV RL 129 RX6 yX6_count wsX6_count) := goodIn_t _ [(3, 176), (3, 177), (3, 178), (1, 1), (3, 179), (1, 206), (1, 208), (1, 71), (1, 83), (1, 88), (1, 210), (1, 134), (1, 137), (1, 211), (1, 167), (1, 213), (1, 187), (3, 134), (3, 25), (3, 26), (1, 4), (3, 27), (1, 72), (1, 141), (3, 180), (2, 195), (2, 196), (1, 3), (2, 197), (1, 69), (2, 198), (2, 118), (2, 119), (2, 120), (1, 73), (2, 121), (2, 122), (2, 123), (2, 124), (1, 63), (1, 61), (1, 57), (1, 58), (1, 59), (1, 60), (2, 129), (2, 130), (2, 131), (2, 132), (2, 133), (2, 135), (0, 10), (2, 136), (1, 138), (1, 217), (1, 219), (1, 221), (1, 223), (1, 225), (1, 227), (1, 229), (1, 231), (1, 233), (1, 235), (1, 237), (1, 239), (1, 92), (1, 94), (1, 96), (1, 98), (1, 100), (1, 102), (1, 104), (1, 106), (1, 108), (1, 110), (1, 112), (1, 114), (1, 116), (1, 118), (1, 146), (1, 148), (1, 150), (1, 152), (1, 154), (1, 168), (1, 170), (1, 172), (1, 174), (1, 188), (1, 190), (1, 192)] rfl (by decide +kernel)
set_option maxRecDepth 40000 in
theorem kL_X7_count : GoodIn lw_tbl (wsV RL 132 RX7 yX7_count wsX7_count) := goodIn_t _ [(5, 73), (5, 74), (5, 75), (1, 8), (5, 76), (3, 191), (3, 207), (3, 209), (3, 192), (3, 193), (3, 212), (3, 217), (4, 108), (4, 110), (0, 31), (1, 8), (4, 111), (3, 194), (4, 112), (4, 114), (0, 32), (4, 115), (3, 224), (3, 226), (3, 228), (3, 230), (3, 232), (3, 234), (3, 236), (3, 238), (4, 0), (4, 2), (4, 4), (4, 6), (4, 8), (4, 10), (4, 12), (4, 14), (4, 16), (4, 18), (4, 20), (4, 22), (4, 24), (4, 26), (4, 28), (4, 30), (4, 32), (4, 34), (4, 36), (4, 38), (4, 40), (4, 42), (4, 44), (4, 46), (4, 48)] rfl (by decide +kernel)
set_option maxRecDepth 40000 in
theorem kL_X6_init : GoodIn lw_tbl (wsX6_init) := goodIn_t _ [(1, 15), (1, 16), (1, 17), (1, 18), (1, 38), (1, 205), (1, 206), (1, 19), (1, 20), (1, 2), (1, 207), (1, 39), (1, 40), (1, 3), (1, 208), (1, 209), (1, 121), (1, 122), (1, 4), (1, 210), (1, 157), (1, 158), (1, 5), (1, 211), (1, 212), (1, 178), (1, 179), (1, 6), (1, 213), (1, 195), (1, 196), (1, 7), (1, 214), (1, 215), (1, 216), (1, 22), (1, 23), (1, 24), (1, 25), (1, 26), (1, 27), (1, 28), (1, 41), (1, 42), (1, 43), (1, 44), (1, 61), (1, 63), (1, 65), (1, 67), (1, 69), (1, 73), (1, 75), (1, 78), (1, 81), (1, 85), (1, 86), (1, 87), (1, 89), (1, 90), (1, 45), (1, 46), (1, 47), (1, 48), (1, 49), (1, 50), (1, 51), (1, 52), (1, 53), (1, 54), (1, 55), (1, 56), (1, 57), (1, 58), (1, 59), (1, 60), (1, 123), (1, 124), (1, 125), (1, 126), (1, 131), (1, 135), (1, 138), (1, 141), (1, 144), (1, 127), (1, 128), (1, 129), (1, 130), (1, 160), (1, 161), (1, 162), (1, 163), (1, 164), (1, 165), (1, 166), (1, 181), (1, 182), (1, 183), (1, 184), (1, 185), (1, 186), (1, 198), (1, 199), (1, 200), (1, 201), (1, 217), (1, 219), (1, 221), (1, 223), (1, 225), (1, 227), (1, 229), (1, 231), (1, 233), (1, 235), (1, 237), (1, 239), (1, 29), (1, 31), (1, 33), (1, 35), (1, 92), (1, 94), (1, 96), (1, 98), (1, 100), (1, 102), (1, 104), (1, 106), (1, 108), (1, 110), (1, 112), (1, 114), (1, 116), (1, 118), (1, 146), (1, 148), (1, 150), (1, 152), (1, 154), (1, 168), (1, 170), (1, 172), (1, 174), (1, 188), (1, 190), (1, 192), (1, 202)] rfl (by decide +kernel)
set_option maxRecDepth 40000 in
theorem kL_X7_init : GoodIn lw_tbl (wsX7_init) := goodIn_t _ [(3, 185), (3, 186), (1, 17), (1, 18), (1, 38), (3, 194), (3, 195), (3, 196), (3, 197), (3, 198), (3, 199), (3, 200), (3, 201), (3, 202), (3, 203), (3, 207), (3, 208), (3, 214), (3, 216), (3, 218), (3, 219), (3, 221), (4, 51), (3, 222), (3, 223), (3, 187), (3, 189), (0, 23), (1, 8), (3, 190), (3, 224), (3, 226), (3, 228), (3, 230), (3, 232), (3, 234), (3, 236), (3, 238), (4, 0), (4, 2), (4, 4), (4, 6), (4, 8), (4, 10), (4, 12), (4, 14), (4, 16), (4, 18), (4, 20), (4, 22), (4, 24), (4, 26), (4, 28), (4, 30), (4, 32), (4, 34), (4, 36), (4, 38), (4, 40), (4, 42), (4, 44), (4, 46), (4, 48)] rfl (by decide +kernel)
