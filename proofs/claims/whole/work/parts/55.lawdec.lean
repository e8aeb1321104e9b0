/-! THE LAW: its instructions (by wip/whole/gen/law.py) -/
theorem dL_0 : decode code 0 = .ok (.new 7, 3) := by decide +kernel
theorem dL_3 : decode code 3 = .ok (.dup, 1) := by decide +kernel
theorem dL_4 : decode code 4 = .ok (.invokespecial 9, 3) := by decide +kernel
theorem dL_7 : decode code 7 = .ok (.astore_n 1, 1) := by decide +kernel
theorem dL_8 : decode code 8 = .ok (.new 10, 3) := by decide +kernel
theorem dL_11 : decode code 11 = .ok (.dup, 1) := by decide +kernel
theorem dL_12 : decode code 12 = .ok (.invokespecial 12, 3) := by decide +kernel
theorem dL_15 : decode code 15 = .ok (.astore_n 2, 1) := by decide +kernel
theorem dL_16 : decode code 16 = .ok (.iconst 0, 1) := by decide +kernel
theorem dL_17 : decode code 17 = .ok (.istore_n 3, 1) := by decide +kernel
theorem dL_18 : decode code 18 = .ok (.iload_n 3, 1) := by decide +kernel
theorem dL_19 : decode code 19 = .ok (.aload_n 0, 1) := by decide +kernel
theorem dL_20 : decode code 20 = .ok (.arraylength, 1) := by decide +kernel
theorem dL_21 : decode code 21 = .ok (.iconst 4, 1) := by decide +kernel
theorem dL_22 : decode code 22 = .ok (.isub, 1) := by decide +kernel
theorem dL_23 : decode code 23 = .ok (.if_icmp .gt 666, 3) := by decide +kernel
theorem dL_26 : decode code 26 = .ok (.aload_n 0, 1) := by decide +kernel
theorem dL_27 : decode code 27 = .ok (.iload_n 3, 1) := by decide +kernel
theorem dL_28 : decode code 28 = .ok (.iaload, 1) := by decide +kernel
theorem dL_29 : decode code 29 = .ok (.bipush 31, 2) := by decide +kernel
theorem dL_31 : decode code 31 = .ok (.iand, 1) := by decide +kernel
theorem dL_32 : decode code 32 = .ok (.tableswitch 651 0 21 #[104, 127, 140, 153, 166, 199, 232, 265, 298, 341, 374, 397, 420, 443, 466, 489, 532, 545, 588, 601, 614, 637], 104) := by decide +kernel
theorem dL_136 : decode code 136 = .ok (.aload_n 1, 1) := by decide +kernel
theorem dL_137 : decode code 137 = .ok (.aload_n 0, 1) := by decide +kernel
theorem dL_138 : decode code 138 = .ok (.iload_n 3, 1) := by decide +kernel
theorem dL_139 : decode code 139 = .ok (.iconst 1, 1) := by decide +kernel
theorem dL_140 : decode code 140 = .ok (.iadd, 1) := by decide +kernel
theorem dL_141 : decode code 141 = .ok (.iaload, 1) := by decide +kernel
theorem dL_142 : decode code 142 = .ok (.invokevirtual 13, 3) := by decide +kernel
theorem dL_145 : decode code 145 = .ok (.aload_n 2, 1) := by decide +kernel
theorem dL_146 : decode code 146 = .ok (.aload_n 0, 1) := by decide +kernel
theorem dL_147 : decode code 147 = .ok (.iload_n 3, 1) := by decide +kernel
theorem dL_148 : decode code 148 = .ok (.iconst 1, 1) := by decide +kernel
theorem dL_149 : decode code 149 = .ok (.iadd, 1) := by decide +kernel
theorem dL_150 : decode code 150 = .ok (.iaload, 1) := by decide +kernel
theorem dL_151 : decode code 151 = .ok (.invokevirtual 17, 3) := by decide +kernel
theorem dL_154 : decode code 154 = .ok (.if_icmp .eq 529, 3) := by decide +kernel
theorem dL_157 : decode code 157 = .ok (.iconst 0, 1) := by decide +kernel
theorem dL_158 : decode code 158 = .ok (.ireturn, 1) := by decide +kernel
theorem dL_159 : decode code 159 = .ok (.aload_n 1, 1) := by decide +kernel
theorem dL_160 : decode code 160 = .ok (.invokevirtual 18, 3) := by decide +kernel
theorem dL_163 : decode code 163 = .ok (.aload_n 2, 1) := by decide +kernel
theorem dL_164 : decode code 164 = .ok (.invokevirtual 22, 3) := by decide +kernel
theorem dL_167 : decode code 167 = .ok (.if_icmp .eq 516, 3) := by decide +kernel
theorem dL_170 : decode code 170 = .ok (.iconst 0, 1) := by decide +kernel
theorem dL_171 : decode code 171 = .ok (.ireturn, 1) := by decide +kernel
theorem dL_172 : decode code 172 = .ok (.aload_n 1, 1) := by decide +kernel
theorem dL_173 : decode code 173 = .ok (.invokevirtual 23, 3) := by decide +kernel
theorem dL_176 : decode code 176 = .ok (.aload_n 2, 1) := by decide +kernel
theorem dL_177 : decode code 177 = .ok (.invokevirtual 26, 3) := by decide +kernel
theorem dL_180 : decode code 180 = .ok (.if_icmp .eq 503, 3) := by decide +kernel
theorem dL_183 : decode code 183 = .ok (.iconst 0, 1) := by decide +kernel
theorem dL_184 : decode code 184 = .ok (.ireturn, 1) := by decide +kernel
theorem dL_185 : decode code 185 = .ok (.aload_n 1, 1) := by decide +kernel
theorem dL_186 : decode code 186 = .ok (.invokevirtual 27, 3) := by decide +kernel
theorem dL_189 : decode code 189 = .ok (.aload_n 2, 1) := by decide +kernel
theorem dL_190 : decode code 190 = .ok (.invokevirtual 30, 3) := by decide +kernel
theorem dL_193 : decode code 193 = .ok (.if_icmp .eq 490, 3) := by decide +kernel
theorem dL_196 : decode code 196 = .ok (.iconst 0, 1) := by decide +kernel
theorem dL_197 : decode code 197 = .ok (.ireturn, 1) := by decide +kernel
theorem dL_198 : decode code 198 = .ok (.aload_n 1, 1) := by decide +kernel
theorem dL_199 : decode code 199 = .ok (.aload_n 0, 1) := by decide +kernel
theorem dL_200 : decode code 200 = .ok (.iload_n 3, 1) := by decide +kernel
theorem dL_201 : decode code 201 = .ok (.iconst 1, 1) := by decide +kernel
theorem dL_202 : decode code 202 = .ok (.iadd, 1) := by decide +kernel
theorem dL_203 : decode code 203 = .ok (.iaload, 1) := by decide +kernel
theorem dL_204 : decode code 204 = .ok (.aload_n 0, 1) := by decide +kernel
theorem dL_205 : decode code 205 = .ok (.iload_n 3, 1) := by decide +kernel
theorem dL_206 : decode code 206 = .ok (.iconst 2, 1) := by decide +kernel
theorem dL_207 : decode code 207 = .ok (.iadd, 1) := by decide +kernel
theorem dL_208 : decode code 208 = .ok (.iaload, 1) := by decide +kernel
theorem dL_209 : decode code 209 = .ok (.invokevirtual 31, 3) := by decide +kernel
theorem dL_212 : decode code 212 = .ok (.aload_n 2, 1) := by decide +kernel
theorem dL_213 : decode code 213 = .ok (.aload_n 0, 1) := by decide +kernel
theorem dL_214 : decode code 214 = .ok (.iload_n 3, 1) := by decide +kernel
theorem dL_215 : decode code 215 = .ok (.iconst 1, 1) := by decide +kernel
theorem dL_216 : decode code 216 = .ok (.iadd, 1) := by decide +kernel
theorem dL_217 : decode code 217 = .ok (.iaload, 1) := by decide +kernel
theorem dL_218 : decode code 218 = .ok (.aload_n 0, 1) := by decide +kernel
theorem dL_219 : decode code 219 = .ok (.iload_n 3, 1) := by decide +kernel
theorem dL_220 : decode code 220 = .ok (.iconst 2, 1) := by decide +kernel
theorem dL_221 : decode code 221 = .ok (.iadd, 1) := by decide +kernel
theorem dL_222 : decode code 222 = .ok (.iaload, 1) := by decide +kernel
theorem dL_223 : decode code 223 = .ok (.invokevirtual 35, 3) := by decide +kernel
theorem dL_226 : decode code 226 = .ok (.if_icmp .eq 457, 3) := by decide +kernel
theorem dL_229 : decode code 229 = .ok (.iconst 0, 1) := by decide +kernel
theorem dL_230 : decode code 230 = .ok (.ireturn, 1) := by decide +kernel
theorem dL_231 : decode code 231 = .ok (.aload_n 1, 1) := by decide +kernel
theorem dL_232 : decode code 232 = .ok (.aload_n 0, 1) := by decide +kernel
theorem dL_233 : decode code 233 = .ok (.iload_n 3, 1) := by decide +kernel
theorem dL_234 : decode code 234 = .ok (.iconst 1, 1) := by decide +kernel
theorem dL_235 : decode code 235 = .ok (.iadd, 1) := by decide +kernel
theorem dL_236 : decode code 236 = .ok (.iaload, 1) := by decide +kernel
theorem dL_237 : decode code 237 = .ok (.aload_n 0, 1) := by decide +kernel
theorem dL_238 : decode code 238 = .ok (.iload_n 3, 1) := by decide +kernel
theorem dL_239 : decode code 239 = .ok (.iconst 2, 1) := by decide +kernel
theorem dL_240 : decode code 240 = .ok (.iadd, 1) := by decide +kernel
theorem dL_241 : decode code 241 = .ok (.iaload, 1) := by decide +kernel
theorem dL_242 : decode code 242 = .ok (.invokevirtual 36, 3) := by decide +kernel
theorem dL_245 : decode code 245 = .ok (.aload_n 2, 1) := by decide +kernel
theorem dL_246 : decode code 246 = .ok (.aload_n 0, 1) := by decide +kernel
theorem dL_247 : decode code 247 = .ok (.iload_n 3, 1) := by decide +kernel
theorem dL_248 : decode code 248 = .ok (.iconst 1, 1) := by decide +kernel
theorem dL_249 : decode code 249 = .ok (.iadd, 1) := by decide +kernel
theorem dL_250 : decode code 250 = .ok (.iaload, 1) := by decide +kernel
theorem dL_251 : decode code 251 = .ok (.aload_n 0, 1) := by decide +kernel
theorem dL_252 : decode code 252 = .ok (.iload_n 3, 1) := by decide +kernel
theorem dL_253 : decode code 253 = .ok (.iconst 2, 1) := by decide +kernel
theorem dL_254 : decode code 254 = .ok (.iadd, 1) := by decide +kernel
theorem dL_255 : decode code 255 = .ok (.iaload, 1) := by decide +kernel
theorem dL_256 : decode code 256 = .ok (.invokevirtual 39, 3) := by decide +kernel
theorem dL_259 : decode code 259 = .ok (.if_icmp .eq 424, 3) := by decide +kernel
theorem dL_262 : decode code 262 = .ok (.iconst 0, 1) := by decide +kernel
theorem dL_263 : decode code 263 = .ok (.ireturn, 1) := by decide +kernel
theorem dL_264 : decode code 264 = .ok (.aload_n 1, 1) := by decide +kernel
theorem dL_265 : decode code 265 = .ok (.aload_n 0, 1) := by decide +kernel
theorem dL_266 : decode code 266 = .ok (.iload_n 3, 1) := by decide +kernel
theorem dL_267 : decode code 267 = .ok (.iconst 1, 1) := by decide +kernel
theorem dL_268 : decode code 268 = .ok (.iadd, 1) := by decide +kernel
theorem dL_269 : decode code 269 = .ok (.iaload, 1) := by decide +kernel
theorem dL_270 : decode code 270 = .ok (.aload_n 0, 1) := by decide +kernel
theorem dL_271 : decode code 271 = .ok (.iload_n 3, 1) := by decide +kernel
theorem dL_272 : decode code 272 = .ok (.iconst 2, 1) := by decide +kernel
theorem dL_273 : decode code 273 = .ok (.iadd, 1) := by decide +kernel
theorem dL_274 : decode code 274 = .ok (.iaload, 1) := by decide +kernel
theorem dL_275 : decode code 275 = .ok (.invokevirtual 40, 3) := by decide +kernel
theorem dL_278 : decode code 278 = .ok (.aload_n 2, 1) := by decide +kernel
theorem dL_279 : decode code 279 = .ok (.aload_n 0, 1) := by decide +kernel
theorem dL_280 : decode code 280 = .ok (.iload_n 3, 1) := by decide +kernel
theorem dL_281 : decode code 281 = .ok (.iconst 1, 1) := by decide +kernel
theorem dL_282 : decode code 282 = .ok (.iadd, 1) := by decide +kernel
theorem dL_283 : decode code 283 = .ok (.iaload, 1) := by decide +kernel
theorem dL_284 : decode code 284 = .ok (.aload_n 0, 1) := by decide +kernel
theorem dL_285 : decode code 285 = .ok (.iload_n 3, 1) := by decide +kernel
theorem dL_286 : decode code 286 = .ok (.iconst 2, 1) := by decide +kernel
theorem dL_287 : decode code 287 = .ok (.iadd, 1) := by decide +kernel
theorem dL_288 : decode code 288 = .ok (.iaload, 1) := by decide +kernel
theorem dL_289 : decode code 289 = .ok (.invokevirtual 43, 3) := by decide +kernel
theorem dL_292 : decode code 292 = .ok (.if_icmp .eq 391, 3) := by decide +kernel
theorem dL_295 : decode code 295 = .ok (.iconst 0, 1) := by decide +kernel
theorem dL_296 : decode code 296 = .ok (.ireturn, 1) := by decide +kernel
theorem dL_297 : decode code 297 = .ok (.aload_n 1, 1) := by decide +kernel
theorem dL_298 : decode code 298 = .ok (.aload_n 0, 1) := by decide +kernel
theorem dL_299 : decode code 299 = .ok (.iload_n 3, 1) := by decide +kernel
theorem dL_300 : decode code 300 = .ok (.iconst 1, 1) := by decide +kernel
theorem dL_301 : decode code 301 = .ok (.iadd, 1) := by decide +kernel
theorem dL_302 : decode code 302 = .ok (.iaload, 1) := by decide +kernel
theorem dL_303 : decode code 303 = .ok (.aload_n 0, 1) := by decide +kernel
theorem dL_304 : decode code 304 = .ok (.iload_n 3, 1) := by decide +kernel
theorem dL_305 : decode code 305 = .ok (.iconst 2, 1) := by decide +kernel
theorem dL_306 : decode code 306 = .ok (.iadd, 1) := by decide +kernel
theorem dL_307 : decode code 307 = .ok (.iaload, 1) := by decide +kernel
theorem dL_308 : decode code 308 = .ok (.invokevirtual 44, 3) := by decide +kernel
theorem dL_311 : decode code 311 = .ok (.aload_n 2, 1) := by decide +kernel
theorem dL_312 : decode code 312 = .ok (.aload_n 0, 1) := by decide +kernel
theorem dL_313 : decode code 313 = .ok (.iload_n 3, 1) := by decide +kernel
theorem dL_314 : decode code 314 = .ok (.iconst 1, 1) := by decide +kernel
theorem dL_315 : decode code 315 = .ok (.iadd, 1) := by decide +kernel
theorem dL_316 : decode code 316 = .ok (.iaload, 1) := by decide +kernel
theorem dL_317 : decode code 317 = .ok (.aload_n 0, 1) := by decide +kernel
theorem dL_318 : decode code 318 = .ok (.iload_n 3, 1) := by decide +kernel
theorem dL_319 : decode code 319 = .ok (.iconst 2, 1) := by decide +kernel
theorem dL_320 : decode code 320 = .ok (.iadd, 1) := by decide +kernel
theorem dL_321 : decode code 321 = .ok (.iaload, 1) := by decide +kernel
theorem dL_322 : decode code 322 = .ok (.invokevirtual 47, 3) := by decide +kernel
theorem dL_325 : decode code 325 = .ok (.if_icmp .eq 358, 3) := by decide +kernel
theorem dL_328 : decode code 328 = .ok (.iconst 0, 1) := by decide +kernel
theorem dL_329 : decode code 329 = .ok (.ireturn, 1) := by decide +kernel
theorem dL_330 : decode code 330 = .ok (.aload_n 1, 1) := by decide +kernel
theorem dL_331 : decode code 331 = .ok (.aload_n 0, 1) := by decide +kernel
theorem dL_332 : decode code 332 = .ok (.iload_n 3, 1) := by decide +kernel
theorem dL_333 : decode code 333 = .ok (.iconst 1, 1) := by decide +kernel
theorem dL_334 : decode code 334 = .ok (.iadd, 1) := by decide +kernel
theorem dL_335 : decode code 335 = .ok (.iaload, 1) := by decide +kernel
theorem dL_336 : decode code 336 = .ok (.aload_n 0, 1) := by decide +kernel
theorem dL_337 : decode code 337 = .ok (.iload_n 3, 1) := by decide +kernel
theorem dL_338 : decode code 338 = .ok (.iconst 2, 1) := by decide +kernel
theorem dL_339 : decode code 339 = .ok (.iadd, 1) := by decide +kernel
theorem dL_340 : decode code 340 = .ok (.iaload, 1) := by decide +kernel
theorem dL_341 : decode code 341 = .ok (.aload_n 0, 1) := by decide +kernel
theorem dL_342 : decode code 342 = .ok (.iload_n 3, 1) := by decide +kernel
theorem dL_343 : decode code 343 = .ok (.iconst 3, 1) := by decide +kernel
theorem dL_344 : decode code 344 = .ok (.iadd, 1) := by decide +kernel
theorem dL_345 : decode code 345 = .ok (.iaload, 1) := by decide +kernel
theorem dL_346 : decode code 346 = .ok (.invokevirtual 48, 3) := by decide +kernel
theorem dL_349 : decode code 349 = .ok (.aload_n 2, 1) := by decide +kernel
theorem dL_350 : decode code 350 = .ok (.aload_n 0, 1) := by decide +kernel
theorem dL_351 : decode code 351 = .ok (.iload_n 3, 1) := by decide +kernel
theorem dL_352 : decode code 352 = .ok (.iconst 1, 1) := by decide +kernel
theorem dL_353 : decode code 353 = .ok (.iadd, 1) := by decide +kernel
theorem dL_354 : decode code 354 = .ok (.iaload, 1) := by decide +kernel
theorem dL_355 : decode code 355 = .ok (.aload_n 0, 1) := by decide +kernel
theorem dL_356 : decode code 356 = .ok (.iload_n 3, 1) := by decide +kernel
theorem dL_357 : decode code 357 = .ok (.iconst 2, 1) := by decide +kernel
theorem dL_358 : decode code 358 = .ok (.iadd, 1) := by decide +kernel
theorem dL_359 : decode code 359 = .ok (.iaload, 1) := by decide +kernel
theorem dL_360 : decode code 360 = .ok (.aload_n 0, 1) := by decide +kernel
theorem dL_361 : decode code 361 = .ok (.iload_n 3, 1) := by decide +kernel
theorem dL_362 : decode code 362 = .ok (.iconst 3, 1) := by decide +kernel
theorem dL_363 : decode code 363 = .ok (.iadd, 1) := by decide +kernel
theorem dL_364 : decode code 364 = .ok (.iaload, 1) := by decide +kernel
theorem dL_365 : decode code 365 = .ok (.invokevirtual 52, 3) := by decide +kernel
theorem dL_368 : decode code 368 = .ok (.if_icmp .eq 315, 3) := by decide +kernel
theorem dL_371 : decode code 371 = .ok (.iconst 0, 1) := by decide +kernel
theorem dL_372 : decode code 372 = .ok (.ireturn, 1) := by decide +kernel
theorem dL_373 : decode code 373 = .ok (.aload_n 1, 1) := by decide +kernel
theorem dL_374 : decode code 374 = .ok (.aload_n 0, 1) := by decide +kernel
theorem dL_375 : decode code 375 = .ok (.iload_n 3, 1) := by decide +kernel
theorem dL_376 : decode code 376 = .ok (.iconst 1, 1) := by decide +kernel
theorem dL_377 : decode code 377 = .ok (.iadd, 1) := by decide +kernel
theorem dL_378 : decode code 378 = .ok (.iaload, 1) := by decide +kernel
theorem dL_379 : decode code 379 = .ok (.aload_n 0, 1) := by decide +kernel
theorem dL_380 : decode code 380 = .ok (.iload_n 3, 1) := by decide +kernel
theorem dL_381 : decode code 381 = .ok (.iconst 2, 1) := by decide +kernel
theorem dL_382 : decode code 382 = .ok (.iadd, 1) := by decide +kernel
theorem dL_383 : decode code 383 = .ok (.iaload, 1) := by decide +kernel
theorem dL_384 : decode code 384 = .ok (.invokevirtual 53, 3) := by decide +kernel
theorem dL_387 : decode code 387 = .ok (.aload_n 2, 1) := by decide +kernel
theorem dL_388 : decode code 388 = .ok (.aload_n 0, 1) := by decide +kernel
theorem dL_389 : decode code 389 = .ok (.iload_n 3, 1) := by decide +kernel
theorem dL_390 : decode code 390 = .ok (.iconst 1, 1) := by decide +kernel
theorem dL_391 : decode code 391 = .ok (.iadd, 1) := by decide +kernel
theorem dL_392 : decode code 392 = .ok (.iaload, 1) := by decide +kernel
theorem dL_393 : decode code 393 = .ok (.aload_n 0, 1) := by decide +kernel
theorem dL_394 : decode code 394 = .ok (.iload_n 3, 1) := by decide +kernel
theorem dL_395 : decode code 395 = .ok (.iconst 2, 1) := by decide +kernel
theorem dL_396 : decode code 396 = .ok (.iadd, 1) := by decide +kernel
theorem dL_397 : decode code 397 = .ok (.iaload, 1) := by decide +kernel
theorem dL_398 : decode code 398 = .ok (.invokevirtual 56, 3) := by decide +kernel
theorem dL_401 : decode code 401 = .ok (.if_icmp .eq 282, 3) := by decide +kernel
theorem dL_404 : decode code 404 = .ok (.iconst 0, 1) := by decide +kernel
theorem dL_405 : decode code 405 = .ok (.ireturn, 1) := by decide +kernel
theorem dL_406 : decode code 406 = .ok (.aload_n 1, 1) := by decide +kernel
theorem dL_407 : decode code 407 = .ok (.aload_n 0, 1) := by decide +kernel
theorem dL_408 : decode code 408 = .ok (.iload_n 3, 1) := by decide +kernel
theorem dL_409 : decode code 409 = .ok (.iconst 1, 1) := by decide +kernel
theorem dL_410 : decode code 410 = .ok (.iadd, 1) := by decide +kernel
theorem dL_411 : decode code 411 = .ok (.iaload, 1) := by decide +kernel
theorem dL_412 : decode code 412 = .ok (.invokevirtual 57, 3) := by decide +kernel
theorem dL_415 : decode code 415 = .ok (.aload_n 2, 1) := by decide +kernel
theorem dL_416 : decode code 416 = .ok (.aload_n 0, 1) := by decide +kernel
theorem dL_417 : decode code 417 = .ok (.iload_n 3, 1) := by decide +kernel
theorem dL_418 : decode code 418 = .ok (.iconst 1, 1) := by decide +kernel
theorem dL_419 : decode code 419 = .ok (.iadd, 1) := by decide +kernel
theorem dL_420 : decode code 420 = .ok (.iaload, 1) := by decide +kernel
theorem dL_421 : decode code 421 = .ok (.invokevirtual 60, 3) := by decide +kernel
theorem dL_424 : decode code 424 = .ok (.if_icmp .eq 259, 3) := by decide +kernel
theorem dL_427 : decode code 427 = .ok (.iconst 0, 1) := by decide +kernel
theorem dL_428 : decode code 428 = .ok (.ireturn, 1) := by decide +kernel
theorem dL_429 : decode code 429 = .ok (.aload_n 1, 1) := by decide +kernel
theorem dL_430 : decode code 430 = .ok (.aload_n 0, 1) := by decide +kernel
theorem dL_431 : decode code 431 = .ok (.iload_n 3, 1) := by decide +kernel
theorem dL_432 : decode code 432 = .ok (.iconst 1, 1) := by decide +kernel
theorem dL_433 : decode code 433 = .ok (.iadd, 1) := by decide +kernel
theorem dL_434 : decode code 434 = .ok (.iaload, 1) := by decide +kernel
theorem dL_435 : decode code 435 = .ok (.invokevirtual 61, 3) := by decide +kernel
theorem dL_438 : decode code 438 = .ok (.aload_n 2, 1) := by decide +kernel
theorem dL_439 : decode code 439 = .ok (.aload_n 0, 1) := by decide +kernel
theorem dL_440 : decode code 440 = .ok (.iload_n 3, 1) := by decide +kernel
theorem dL_441 : decode code 441 = .ok (.iconst 1, 1) := by decide +kernel
theorem dL_442 : decode code 442 = .ok (.iadd, 1) := by decide +kernel
theorem dL_443 : decode code 443 = .ok (.iaload, 1) := by decide +kernel
theorem dL_444 : decode code 444 = .ok (.invokevirtual 64, 3) := by decide +kernel
theorem dL_447 : decode code 447 = .ok (.if_icmp .eq 236, 3) := by decide +kernel
theorem dL_450 : decode code 450 = .ok (.iconst 0, 1) := by decide +kernel
theorem dL_451 : decode code 451 = .ok (.ireturn, 1) := by decide +kernel
theorem dL_452 : decode code 452 = .ok (.aload_n 1, 1) := by decide +kernel
theorem dL_453 : decode code 453 = .ok (.aload_n 0, 1) := by decide +kernel
theorem dL_454 : decode code 454 = .ok (.iload_n 3, 1) := by decide +kernel
theorem dL_455 : decode code 455 = .ok (.iconst 1, 1) := by decide +kernel
theorem dL_456 : decode code 456 = .ok (.iadd, 1) := by decide +kernel
theorem dL_457 : decode code 457 = .ok (.iaload, 1) := by decide +kernel
theorem dL_458 : decode code 458 = .ok (.invokevirtual 65, 3) := by decide +kernel
theorem dL_461 : decode code 461 = .ok (.aload_n 2, 1) := by decide +kernel
theorem dL_462 : decode code 462 = .ok (.aload_n 0, 1) := by decide +kernel
theorem dL_463 : decode code 463 = .ok (.iload_n 3, 1) := by decide +kernel
theorem dL_464 : decode code 464 = .ok (.iconst 1, 1) := by decide +kernel
theorem dL_465 : decode code 465 = .ok (.iadd, 1) := by decide +kernel
theorem dL_466 : decode code 466 = .ok (.iaload, 1) := by decide +kernel
theorem dL_467 : decode code 467 = .ok (.invokevirtual 68, 3) := by decide +kernel
theorem dL_470 : decode code 470 = .ok (.if_icmp .eq 213, 3) := by decide +kernel
theorem dL_473 : decode code 473 = .ok (.iconst 0, 1) := by decide +kernel
theorem dL_474 : decode code 474 = .ok (.ireturn, 1) := by decide +kernel
theorem dL_475 : decode code 475 = .ok (.aload_n 1, 1) := by decide +kernel
theorem dL_476 : decode code 476 = .ok (.aload_n 0, 1) := by decide +kernel
theorem dL_477 : decode code 477 = .ok (.iload_n 3, 1) := by decide +kernel
theorem dL_478 : decode code 478 = .ok (.iconst 1, 1) := by decide +kernel
theorem dL_479 : decode code 479 = .ok (.iadd, 1) := by decide +kernel
theorem dL_480 : decode code 480 = .ok (.iaload, 1) := by decide +kernel
theorem dL_481 : decode code 481 = .ok (.invokevirtual 69, 3) := by decide +kernel
theorem dL_484 : decode code 484 = .ok (.aload_n 2, 1) := by decide +kernel
theorem dL_485 : decode code 485 = .ok (.aload_n 0, 1) := by decide +kernel
theorem dL_486 : decode code 486 = .ok (.iload_n 3, 1) := by decide +kernel
theorem dL_487 : decode code 487 = .ok (.iconst 1, 1) := by decide +kernel
theorem dL_488 : decode code 488 = .ok (.iadd, 1) := by decide +kernel
theorem dL_489 : decode code 489 = .ok (.iaload, 1) := by decide +kernel
theorem dL_490 : decode code 490 = .ok (.invokevirtual 72, 3) := by decide +kernel
theorem dL_493 : decode code 493 = .ok (.if_icmp .eq 190, 3) := by decide +kernel
theorem dL_496 : decode code 496 = .ok (.iconst 0, 1) := by decide +kernel
theorem dL_497 : decode code 497 = .ok (.ireturn, 1) := by decide +kernel
theorem dL_498 : decode code 498 = .ok (.aload_n 1, 1) := by decide +kernel
theorem dL_499 : decode code 499 = .ok (.aload_n 0, 1) := by decide +kernel
theorem dL_500 : decode code 500 = .ok (.iload_n 3, 1) := by decide +kernel
theorem dL_501 : decode code 501 = .ok (.iconst 1, 1) := by decide +kernel
theorem dL_502 : decode code 502 = .ok (.iadd, 1) := by decide +kernel
theorem dL_503 : decode code 503 = .ok (.iaload, 1) := by decide +kernel
theorem dL_504 : decode code 504 = .ok (.invokevirtual 73, 3) := by decide +kernel
theorem dL_507 : decode code 507 = .ok (.aload_n 2, 1) := by decide +kernel
theorem dL_508 : decode code 508 = .ok (.aload_n 0, 1) := by decide +kernel
theorem dL_509 : decode code 509 = .ok (.iload_n 3, 1) := by decide +kernel
theorem dL_510 : decode code 510 = .ok (.iconst 1, 1) := by decide +kernel
theorem dL_511 : decode code 511 = .ok (.iadd, 1) := by decide +kernel
theorem dL_512 : decode code 512 = .ok (.iaload, 1) := by decide +kernel
theorem dL_513 : decode code 513 = .ok (.invokevirtual 76, 3) := by decide +kernel
theorem dL_516 : decode code 516 = .ok (.if_icmp .eq 167, 3) := by decide +kernel
theorem dL_519 : decode code 519 = .ok (.iconst 0, 1) := by decide +kernel
theorem dL_520 : decode code 520 = .ok (.ireturn, 1) := by decide +kernel
theorem dL_521 : decode code 521 = .ok (.aload_n 1, 1) := by decide +kernel
theorem dL_522 : decode code 522 = .ok (.aload_n 0, 1) := by decide +kernel
theorem dL_523 : decode code 523 = .ok (.iload_n 3, 1) := by decide +kernel
theorem dL_524 : decode code 524 = .ok (.iconst 1, 1) := by decide +kernel
theorem dL_525 : decode code 525 = .ok (.iadd, 1) := by decide +kernel
theorem dL_526 : decode code 526 = .ok (.iaload, 1) := by decide +kernel
theorem dL_527 : decode code 527 = .ok (.aload_n 0, 1) := by decide +kernel
theorem dL_528 : decode code 528 = .ok (.iload_n 3, 1) := by decide +kernel
theorem dL_529 : decode code 529 = .ok (.iconst 2, 1) := by decide +kernel
theorem dL_530 : decode code 530 = .ok (.iadd, 1) := by decide +kernel
theorem dL_531 : decode code 531 = .ok (.iaload, 1) := by decide +kernel
theorem dL_532 : decode code 532 = .ok (.aload_n 0, 1) := by decide +kernel
theorem dL_533 : decode code 533 = .ok (.iload_n 3, 1) := by decide +kernel
theorem dL_534 : decode code 534 = .ok (.iconst 3, 1) := by decide +kernel
theorem dL_535 : decode code 535 = .ok (.iadd, 1) := by decide +kernel
theorem dL_536 : decode code 536 = .ok (.iaload, 1) := by decide +kernel
theorem dL_537 : decode code 537 = .ok (.invokevirtual 77, 3) := by decide +kernel
theorem dL_540 : decode code 540 = .ok (.aload_n 2, 1) := by decide +kernel
theorem dL_541 : decode code 541 = .ok (.aload_n 0, 1) := by decide +kernel
theorem dL_542 : decode code 542 = .ok (.iload_n 3, 1) := by decide +kernel
theorem dL_543 : decode code 543 = .ok (.iconst 1, 1) := by decide +kernel
theorem dL_544 : decode code 544 = .ok (.iadd, 1) := by decide +kernel
theorem dL_545 : decode code 545 = .ok (.iaload, 1) := by decide +kernel
theorem dL_546 : decode code 546 = .ok (.aload_n 0, 1) := by decide +kernel
theorem dL_547 : decode code 547 = .ok (.iload_n 3, 1) := by decide +kernel
theorem dL_548 : decode code 548 = .ok (.iconst 2, 1) := by decide +kernel
theorem dL_549 : decode code 549 = .ok (.iadd, 1) := by decide +kernel
theorem dL_550 : decode code 550 = .ok (.iaload, 1) := by decide +kernel
theorem dL_551 : decode code 551 = .ok (.aload_n 0, 1) := by decide +kernel
theorem dL_552 : decode code 552 = .ok (.iload_n 3, 1) := by decide +kernel
theorem dL_553 : decode code 553 = .ok (.iconst 3, 1) := by decide +kernel
theorem dL_554 : decode code 554 = .ok (.iadd, 1) := by decide +kernel
theorem dL_555 : decode code 555 = .ok (.iaload, 1) := by decide +kernel
theorem dL_556 : decode code 556 = .ok (.invokevirtual 80, 3) := by decide +kernel
theorem dL_559 : decode code 559 = .ok (.if_icmp .eq 124, 3) := by decide +kernel
theorem dL_562 : decode code 562 = .ok (.iconst 0, 1) := by decide +kernel
theorem dL_563 : decode code 563 = .ok (.ireturn, 1) := by decide +kernel
theorem dL_564 : decode code 564 = .ok (.aload_n 1, 1) := by decide +kernel
theorem dL_565 : decode code 565 = .ok (.invokevirtual 81, 3) := by decide +kernel
theorem dL_568 : decode code 568 = .ok (.aload_n 2, 1) := by decide +kernel
theorem dL_569 : decode code 569 = .ok (.invokevirtual 84, 3) := by decide +kernel
theorem dL_572 : decode code 572 = .ok (.if_icmp .eq 111, 3) := by decide +kernel
theorem dL_575 : decode code 575 = .ok (.iconst 0, 1) := by decide +kernel
theorem dL_576 : decode code 576 = .ok (.ireturn, 1) := by decide +kernel
theorem dL_577 : decode code 577 = .ok (.aload_n 1, 1) := by decide +kernel
theorem dL_578 : decode code 578 = .ok (.aload_n 0, 1) := by decide +kernel
theorem dL_579 : decode code 579 = .ok (.iload_n 3, 1) := by decide +kernel
theorem dL_580 : decode code 580 = .ok (.iconst 1, 1) := by decide +kernel
theorem dL_581 : decode code 581 = .ok (.iadd, 1) := by decide +kernel
theorem dL_582 : decode code 582 = .ok (.iaload, 1) := by decide +kernel
theorem dL_583 : decode code 583 = .ok (.aload_n 0, 1) := by decide +kernel
theorem dL_584 : decode code 584 = .ok (.iload_n 3, 1) := by decide +kernel
theorem dL_585 : decode code 585 = .ok (.iconst 2, 1) := by decide +kernel
theorem dL_586 : decode code 586 = .ok (.iadd, 1) := by decide +kernel
theorem dL_587 : decode code 587 = .ok (.iaload, 1) := by decide +kernel
theorem dL_588 : decode code 588 = .ok (.aload_n 0, 1) := by decide +kernel
theorem dL_589 : decode code 589 = .ok (.iload_n 3, 1) := by decide +kernel
theorem dL_590 : decode code 590 = .ok (.iconst 3, 1) := by decide +kernel
theorem dL_591 : decode code 591 = .ok (.iadd, 1) := by decide +kernel
theorem dL_592 : decode code 592 = .ok (.iaload, 1) := by decide +kernel
theorem dL_593 : decode code 593 = .ok (.invokevirtual 85, 3) := by decide +kernel
theorem dL_596 : decode code 596 = .ok (.aload_n 2, 1) := by decide +kernel
theorem dL_597 : decode code 597 = .ok (.aload_n 0, 1) := by decide +kernel
theorem dL_598 : decode code 598 = .ok (.iload_n 3, 1) := by decide +kernel
theorem dL_599 : decode code 599 = .ok (.iconst 1, 1) := by decide +kernel
theorem dL_600 : decode code 600 = .ok (.iadd, 1) := by decide +kernel
theorem dL_601 : decode code 601 = .ok (.iaload, 1) := by decide +kernel
theorem dL_602 : decode code 602 = .ok (.aload_n 0, 1) := by decide +kernel
theorem dL_603 : decode code 603 = .ok (.iload_n 3, 1) := by decide +kernel
theorem dL_604 : decode code 604 = .ok (.iconst 2, 1) := by decide +kernel
theorem dL_605 : decode code 605 = .ok (.iadd, 1) := by decide +kernel
theorem dL_606 : decode code 606 = .ok (.iaload, 1) := by decide +kernel
theorem dL_607 : decode code 607 = .ok (.aload_n 0, 1) := by decide +kernel
theorem dL_608 : decode code 608 = .ok (.iload_n 3, 1) := by decide +kernel
theorem dL_609 : decode code 609 = .ok (.iconst 3, 1) := by decide +kernel
theorem dL_610 : decode code 610 = .ok (.iadd, 1) := by decide +kernel
theorem dL_611 : decode code 611 = .ok (.iaload, 1) := by decide +kernel
theorem dL_612 : decode code 612 = .ok (.invokevirtual 88, 3) := by decide +kernel
theorem dL_615 : decode code 615 = .ok (.if_icmp .eq 68, 3) := by decide +kernel
theorem dL_618 : decode code 618 = .ok (.iconst 0, 1) := by decide +kernel
theorem dL_619 : decode code 619 = .ok (.ireturn, 1) := by decide +kernel
theorem dL_620 : decode code 620 = .ok (.aload_n 1, 1) := by decide +kernel
theorem dL_621 : decode code 621 = .ok (.invokevirtual 89, 3) := by decide +kernel
theorem dL_624 : decode code 624 = .ok (.aload_n 2, 1) := by decide +kernel
theorem dL_625 : decode code 625 = .ok (.invokevirtual 92, 3) := by decide +kernel
theorem dL_628 : decode code 628 = .ok (.if_icmp .eq 55, 3) := by decide +kernel
theorem dL_631 : decode code 631 = .ok (.iconst 0, 1) := by decide +kernel
theorem dL_632 : decode code 632 = .ok (.ireturn, 1) := by decide +kernel
theorem dL_633 : decode code 633 = .ok (.aload_n 1, 1) := by decide +kernel
theorem dL_634 : decode code 634 = .ok (.invokevirtual 93, 3) := by decide +kernel
theorem dL_637 : decode code 637 = .ok (.aload_n 2, 1) := by decide +kernel
theorem dL_638 : decode code 638 = .ok (.invokevirtual 96, 3) := by decide +kernel
theorem dL_641 : decode code 641 = .ok (.if_icmp .eq 42, 3) := by decide +kernel
theorem dL_644 : decode code 644 = .ok (.iconst 0, 1) := by decide +kernel
theorem dL_645 : decode code 645 = .ok (.ireturn, 1) := by decide +kernel
theorem dL_646 : decode code 646 = .ok (.aload_n 1, 1) := by decide +kernel
theorem dL_647 : decode code 647 = .ok (.aload_n 0, 1) := by decide +kernel
theorem dL_648 : decode code 648 = .ok (.iload_n 3, 1) := by decide +kernel
theorem dL_649 : decode code 649 = .ok (.iconst 1, 1) := by decide +kernel
theorem dL_650 : decode code 650 = .ok (.iadd, 1) := by decide +kernel
theorem dL_651 : decode code 651 = .ok (.iaload, 1) := by decide +kernel
theorem dL_652 : decode code 652 = .ok (.invokevirtual 97, 3) := by decide +kernel
theorem dL_655 : decode code 655 = .ok (.aload_n 2, 1) := by decide +kernel
theorem dL_656 : decode code 656 = .ok (.aload_n 0, 1) := by decide +kernel
theorem dL_657 : decode code 657 = .ok (.iload_n 3, 1) := by decide +kernel
theorem dL_658 : decode code 658 = .ok (.iconst 1, 1) := by decide +kernel
theorem dL_659 : decode code 659 = .ok (.iadd, 1) := by decide +kernel
theorem dL_660 : decode code 660 = .ok (.iaload, 1) := by decide +kernel
theorem dL_661 : decode code 661 = .ok (.invokevirtual 100, 3) := by decide +kernel
theorem dL_664 : decode code 664 = .ok (.if_icmp .eq 19, 3) := by decide +kernel
theorem dL_667 : decode code 667 = .ok (.iconst 0, 1) := by decide +kernel
theorem dL_668 : decode code 668 = .ok (.ireturn, 1) := by decide +kernel
theorem dL_669 : decode code 669 = .ok (.aload_n 1, 1) := by decide +kernel
theorem dL_670 : decode code 670 = .ok (.invokevirtual 101, 3) := by decide +kernel
theorem dL_673 : decode code 673 = .ok (.aload_n 2, 1) := by decide +kernel
theorem dL_674 : decode code 674 = .ok (.invokevirtual 105, 3) := by decide +kernel
theorem dL_677 : decode code 677 = .ok (.lcmp, 1) := by decide +kernel
theorem dL_678 : decode code 678 = .ok (.ifCond .eq 5, 3) := by decide +kernel
theorem dL_681 : decode code 681 = .ok (.iconst 0, 1) := by decide +kernel
theorem dL_682 : decode code 682 = .ok (.ireturn, 1) := by decide +kernel
theorem dL_683 : decode code 683 = .ok (.iinc 3 4, 3) := by decide +kernel
theorem dL_686 : decode code 686 = .ok (.goto (-668), 3) := by decide +kernel
theorem dL_689 : decode code 689 = .ok (.iconst 1, 1) := by decide +kernel
theorem dL_690 : decode code 690 = .ok (.ireturn, 1) := by decide +kernel
