/-! 14_law -/
theorem d14_law_18 : decode m14_law.2.1 18 = .ok (.iload_n 3, 1) := by decide +kernel
theorem d14_law_19 : decode m14_law.2.1 19 = .ok (.aload_n 0, 1) := by decide +kernel
theorem d14_law_20 : decode m14_law.2.1 20 = .ok (.arraylength, 1) := by decide +kernel
theorem d14_law_21 : decode m14_law.2.1 21 = .ok (.bipush 7, 2) := by decide +kernel
theorem d14_law_23 : decode m14_law.2.1 23 = .ok (.isub, 1) := by decide +kernel
theorem d14_law_24 : decode m14_law.2.1 24 = .ok (.if_icmp .gt 1766, 3) := by decide +kernel
theorem d14_law_27 : decode m14_law.2.1 27 = .ok (.aload_n 0, 1) := by decide +kernel
theorem d14_law_28 : decode m14_law.2.1 28 = .ok (.iload_n 3, 1) := by decide +kernel
theorem d14_law_29 : decode m14_law.2.1 29 = .ok (.iaload, 1) := by decide +kernel
theorem d14_law_30 : decode m14_law.2.1 30 = .ok (.bipush 63, 2) := by decide +kernel
theorem d14_law_32 : decode m14_law.2.1 32 = .ok (.iand, 1) := by decide +kernel
theorem d14_law_33 : decode m14_law.2.1 33 = .ok (.tableswitch 1751 0 33 #[151, 214, 237, 270, 293, 326, 405, 448, 481, 534, 603, 682, 725, 758, 791, 883, 926, 969, 1022, 1085, 1148, 1191, 1260, 1303, 1352, 1385, 1418, 1478, 1521, 1600, 1659, 1682, 1705, 1728], 151) := by decide +kernel
theorem d14_law_184 : decode m14_law.2.1 184 = .ok (.aload_n 1, 1) := by decide +kernel
theorem d14_law_185 : decode m14_law.2.1 185 = .ok (.aload_n 0, 1) := by decide +kernel
theorem d14_law_186 : decode m14_law.2.1 186 = .ok (.iload_n 3, 1) := by decide +kernel
theorem d14_law_187 : decode m14_law.2.1 187 = .ok (.iconst 1, 1) := by decide +kernel
theorem d14_law_188 : decode m14_law.2.1 188 = .ok (.iadd, 1) := by decide +kernel
theorem d14_law_189 : decode m14_law.2.1 189 = .ok (.iaload, 1) := by decide +kernel
theorem d14_law_190 : decode m14_law.2.1 190 = .ok (.aload_n 0, 1) := by decide +kernel
theorem d14_law_191 : decode m14_law.2.1 191 = .ok (.iload_n 3, 1) := by decide +kernel
theorem d14_law_192 : decode m14_law.2.1 192 = .ok (.iconst 2, 1) := by decide +kernel
theorem d14_law_193 : decode m14_law.2.1 193 = .ok (.iadd, 1) := by decide +kernel
theorem d14_law_194 : decode m14_law.2.1 194 = .ok (.iaload, 1) := by decide +kernel
theorem d14_law_195 : decode m14_law.2.1 195 = .ok (.aload_n 0, 1) := by decide +kernel
theorem d14_law_196 : decode m14_law.2.1 196 = .ok (.iload_n 3, 1) := by decide +kernel
theorem d14_law_197 : decode m14_law.2.1 197 = .ok (.iconst 3, 1) := by decide +kernel
theorem d14_law_198 : decode m14_law.2.1 198 = .ok (.iadd, 1) := by decide +kernel
theorem d14_law_199 : decode m14_law.2.1 199 = .ok (.iaload, 1) := by decide +kernel
theorem d14_law_200 : decode m14_law.2.1 200 = .ok (.aload_n 0, 1) := by decide +kernel
theorem d14_law_201 : decode m14_law.2.1 201 = .ok (.iload_n 3, 1) := by decide +kernel
theorem d14_law_202 : decode m14_law.2.1 202 = .ok (.iconst 4, 1) := by decide +kernel
theorem d14_law_203 : decode m14_law.2.1 203 = .ok (.iadd, 1) := by decide +kernel
theorem d14_law_204 : decode m14_law.2.1 204 = .ok (.iaload, 1) := by decide +kernel
theorem d14_law_205 : decode m14_law.2.1 205 = .ok (.aload_n 0, 1) := by decide +kernel
theorem d14_law_206 : decode m14_law.2.1 206 = .ok (.iload_n 3, 1) := by decide +kernel
theorem d14_law_207 : decode m14_law.2.1 207 = .ok (.iconst 5, 1) := by decide +kernel
theorem d14_law_208 : decode m14_law.2.1 208 = .ok (.iadd, 1) := by decide +kernel
theorem d14_law_209 : decode m14_law.2.1 209 = .ok (.iaload, 1) := by decide +kernel
theorem d14_law_210 : decode m14_law.2.1 210 = .ok (.invokevirtual 13, 3) := by decide +kernel
theorem d14_law_213 : decode m14_law.2.1 213 = .ok (.aload_n 2, 1) := by decide +kernel
theorem d14_law_214 : decode m14_law.2.1 214 = .ok (.aload_n 0, 1) := by decide +kernel
theorem d14_law_215 : decode m14_law.2.1 215 = .ok (.iload_n 3, 1) := by decide +kernel
theorem d14_law_216 : decode m14_law.2.1 216 = .ok (.iconst 1, 1) := by decide +kernel
theorem d14_law_217 : decode m14_law.2.1 217 = .ok (.iadd, 1) := by decide +kernel
theorem d14_law_218 : decode m14_law.2.1 218 = .ok (.iaload, 1) := by decide +kernel
theorem d14_law_219 : decode m14_law.2.1 219 = .ok (.aload_n 0, 1) := by decide +kernel
theorem d14_law_220 : decode m14_law.2.1 220 = .ok (.iload_n 3, 1) := by decide +kernel
theorem d14_law_221 : decode m14_law.2.1 221 = .ok (.iconst 2, 1) := by decide +kernel
theorem d14_law_222 : decode m14_law.2.1 222 = .ok (.iadd, 1) := by decide +kernel
theorem d14_law_223 : decode m14_law.2.1 223 = .ok (.iaload, 1) := by decide +kernel
theorem d14_law_224 : decode m14_law.2.1 224 = .ok (.aload_n 0, 1) := by decide +kernel
theorem d14_law_225 : decode m14_law.2.1 225 = .ok (.iload_n 3, 1) := by decide +kernel
theorem d14_law_226 : decode m14_law.2.1 226 = .ok (.iconst 3, 1) := by decide +kernel
theorem d14_law_227 : decode m14_law.2.1 227 = .ok (.iadd, 1) := by decide +kernel
theorem d14_law_228 : decode m14_law.2.1 228 = .ok (.iaload, 1) := by decide +kernel
theorem d14_law_229 : decode m14_law.2.1 229 = .ok (.aload_n 0, 1) := by decide +kernel
theorem d14_law_230 : decode m14_law.2.1 230 = .ok (.iload_n 3, 1) := by decide +kernel
theorem d14_law_231 : decode m14_law.2.1 231 = .ok (.iconst 4, 1) := by decide +kernel
theorem d14_law_232 : decode m14_law.2.1 232 = .ok (.iadd, 1) := by decide +kernel
theorem d14_law_233 : decode m14_law.2.1 233 = .ok (.iaload, 1) := by decide +kernel
theorem d14_law_234 : decode m14_law.2.1 234 = .ok (.aload_n 0, 1) := by decide +kernel
theorem d14_law_235 : decode m14_law.2.1 235 = .ok (.iload_n 3, 1) := by decide +kernel
theorem d14_law_236 : decode m14_law.2.1 236 = .ok (.iconst 5, 1) := by decide +kernel
theorem d14_law_237 : decode m14_law.2.1 237 = .ok (.iadd, 1) := by decide +kernel
theorem d14_law_238 : decode m14_law.2.1 238 = .ok (.iaload, 1) := by decide +kernel
theorem d14_law_239 : decode m14_law.2.1 239 = .ok (.invokevirtual 17, 3) := by decide +kernel
theorem d14_law_242 : decode m14_law.2.1 242 = .ok (.if_icmp .eq 1542, 3) := by decide +kernel
theorem d14_law_245 : decode m14_law.2.1 245 = .ok (.iconst 0, 1) := by decide +kernel
theorem d14_law_246 : decode m14_law.2.1 246 = .ok (.ireturn, 1) := by decide +kernel
theorem d14_law_247 : decode m14_law.2.1 247 = .ok (.aload_n 1, 1) := by decide +kernel
theorem d14_law_248 : decode m14_law.2.1 248 = .ok (.aload_n 0, 1) := by decide +kernel
theorem d14_law_249 : decode m14_law.2.1 249 = .ok (.iload_n 3, 1) := by decide +kernel
theorem d14_law_250 : decode m14_law.2.1 250 = .ok (.iconst 1, 1) := by decide +kernel
theorem d14_law_251 : decode m14_law.2.1 251 = .ok (.iadd, 1) := by decide +kernel
theorem d14_law_252 : decode m14_law.2.1 252 = .ok (.iaload, 1) := by decide +kernel
theorem d14_law_253 : decode m14_law.2.1 253 = .ok (.invokevirtual 18, 3) := by decide +kernel
theorem d14_law_256 : decode m14_law.2.1 256 = .ok (.aload_n 2, 1) := by decide +kernel
theorem d14_law_257 : decode m14_law.2.1 257 = .ok (.aload_n 0, 1) := by decide +kernel
theorem d14_law_258 : decode m14_law.2.1 258 = .ok (.iload_n 3, 1) := by decide +kernel
theorem d14_law_259 : decode m14_law.2.1 259 = .ok (.iconst 1, 1) := by decide +kernel
theorem d14_law_260 : decode m14_law.2.1 260 = .ok (.iadd, 1) := by decide +kernel
theorem d14_law_261 : decode m14_law.2.1 261 = .ok (.iaload, 1) := by decide +kernel
theorem d14_law_262 : decode m14_law.2.1 262 = .ok (.invokevirtual 22, 3) := by decide +kernel
theorem d14_law_265 : decode m14_law.2.1 265 = .ok (.if_icmp .eq 1519, 3) := by decide +kernel
theorem d14_law_268 : decode m14_law.2.1 268 = .ok (.iconst 0, 1) := by decide +kernel
theorem d14_law_269 : decode m14_law.2.1 269 = .ok (.ireturn, 1) := by decide +kernel
theorem d14_law_270 : decode m14_law.2.1 270 = .ok (.aload_n 1, 1) := by decide +kernel
theorem d14_law_271 : decode m14_law.2.1 271 = .ok (.aload_n 0, 1) := by decide +kernel
theorem d14_law_272 : decode m14_law.2.1 272 = .ok (.iload_n 3, 1) := by decide +kernel
theorem d14_law_273 : decode m14_law.2.1 273 = .ok (.iconst 1, 1) := by decide +kernel
theorem d14_law_274 : decode m14_law.2.1 274 = .ok (.iadd, 1) := by decide +kernel
theorem d14_law_275 : decode m14_law.2.1 275 = .ok (.iaload, 1) := by decide +kernel
theorem d14_law_276 : decode m14_law.2.1 276 = .ok (.aload_n 0, 1) := by decide +kernel
theorem d14_law_277 : decode m14_law.2.1 277 = .ok (.iload_n 3, 1) := by decide +kernel
theorem d14_law_278 : decode m14_law.2.1 278 = .ok (.iconst 2, 1) := by decide +kernel
theorem d14_law_279 : decode m14_law.2.1 279 = .ok (.iadd, 1) := by decide +kernel
theorem d14_law_280 : decode m14_law.2.1 280 = .ok (.iaload, 1) := by decide +kernel
theorem d14_law_281 : decode m14_law.2.1 281 = .ok (.invokevirtual 23, 3) := by decide +kernel
theorem d14_law_284 : decode m14_law.2.1 284 = .ok (.aload_n 2, 1) := by decide +kernel
theorem d14_law_285 : decode m14_law.2.1 285 = .ok (.aload_n 0, 1) := by decide +kernel
theorem d14_law_286 : decode m14_law.2.1 286 = .ok (.iload_n 3, 1) := by decide +kernel
theorem d14_law_287 : decode m14_law.2.1 287 = .ok (.iconst 1, 1) := by decide +kernel
theorem d14_law_288 : decode m14_law.2.1 288 = .ok (.iadd, 1) := by decide +kernel
theorem d14_law_289 : decode m14_law.2.1 289 = .ok (.iaload, 1) := by decide +kernel
theorem d14_law_290 : decode m14_law.2.1 290 = .ok (.aload_n 0, 1) := by decide +kernel
theorem d14_law_291 : decode m14_law.2.1 291 = .ok (.iload_n 3, 1) := by decide +kernel
theorem d14_law_292 : decode m14_law.2.1 292 = .ok (.iconst 2, 1) := by decide +kernel
theorem d14_law_293 : decode m14_law.2.1 293 = .ok (.iadd, 1) := by decide +kernel
theorem d14_law_294 : decode m14_law.2.1 294 = .ok (.iaload, 1) := by decide +kernel
theorem d14_law_295 : decode m14_law.2.1 295 = .ok (.invokevirtual 27, 3) := by decide +kernel
theorem d14_law_298 : decode m14_law.2.1 298 = .ok (.if_icmp .eq 1486, 3) := by decide +kernel
theorem d14_law_301 : decode m14_law.2.1 301 = .ok (.iconst 0, 1) := by decide +kernel
theorem d14_law_302 : decode m14_law.2.1 302 = .ok (.ireturn, 1) := by decide +kernel
theorem d14_law_303 : decode m14_law.2.1 303 = .ok (.aload_n 1, 1) := by decide +kernel
theorem d14_law_304 : decode m14_law.2.1 304 = .ok (.aload_n 0, 1) := by decide +kernel
theorem d14_law_305 : decode m14_law.2.1 305 = .ok (.iload_n 3, 1) := by decide +kernel
theorem d14_law_306 : decode m14_law.2.1 306 = .ok (.iconst 1, 1) := by decide +kernel
theorem d14_law_307 : decode m14_law.2.1 307 = .ok (.iadd, 1) := by decide +kernel
theorem d14_law_308 : decode m14_law.2.1 308 = .ok (.iaload, 1) := by decide +kernel
theorem d14_law_309 : decode m14_law.2.1 309 = .ok (.invokevirtual 28, 3) := by decide +kernel
theorem d14_law_312 : decode m14_law.2.1 312 = .ok (.aload_n 2, 1) := by decide +kernel
theorem d14_law_313 : decode m14_law.2.1 313 = .ok (.aload_n 0, 1) := by decide +kernel
theorem d14_law_314 : decode m14_law.2.1 314 = .ok (.iload_n 3, 1) := by decide +kernel
theorem d14_law_315 : decode m14_law.2.1 315 = .ok (.iconst 1, 1) := by decide +kernel
theorem d14_law_316 : decode m14_law.2.1 316 = .ok (.iadd, 1) := by decide +kernel
theorem d14_law_317 : decode m14_law.2.1 317 = .ok (.iaload, 1) := by decide +kernel
theorem d14_law_318 : decode m14_law.2.1 318 = .ok (.invokevirtual 31, 3) := by decide +kernel
theorem d14_law_321 : decode m14_law.2.1 321 = .ok (.if_icmp .eq 1463, 3) := by decide +kernel
theorem d14_law_324 : decode m14_law.2.1 324 = .ok (.iconst 0, 1) := by decide +kernel
theorem d14_law_325 : decode m14_law.2.1 325 = .ok (.ireturn, 1) := by decide +kernel
theorem d14_law_326 : decode m14_law.2.1 326 = .ok (.aload_n 1, 1) := by decide +kernel
theorem d14_law_327 : decode m14_law.2.1 327 = .ok (.aload_n 0, 1) := by decide +kernel
theorem d14_law_328 : decode m14_law.2.1 328 = .ok (.iload_n 3, 1) := by decide +kernel
theorem d14_law_329 : decode m14_law.2.1 329 = .ok (.iconst 1, 1) := by decide +kernel
theorem d14_law_330 : decode m14_law.2.1 330 = .ok (.iadd, 1) := by decide +kernel
theorem d14_law_331 : decode m14_law.2.1 331 = .ok (.iaload, 1) := by decide +kernel
theorem d14_law_332 : decode m14_law.2.1 332 = .ok (.aload_n 0, 1) := by decide +kernel
theorem d14_law_333 : decode m14_law.2.1 333 = .ok (.iload_n 3, 1) := by decide +kernel
theorem d14_law_334 : decode m14_law.2.1 334 = .ok (.iconst 2, 1) := by decide +kernel
theorem d14_law_335 : decode m14_law.2.1 335 = .ok (.iadd, 1) := by decide +kernel
theorem d14_law_336 : decode m14_law.2.1 336 = .ok (.iaload, 1) := by decide +kernel
theorem d14_law_337 : decode m14_law.2.1 337 = .ok (.invokevirtual 32, 3) := by decide +kernel
theorem d14_law_340 : decode m14_law.2.1 340 = .ok (.aload_n 2, 1) := by decide +kernel
theorem d14_law_341 : decode m14_law.2.1 341 = .ok (.aload_n 0, 1) := by decide +kernel
theorem d14_law_342 : decode m14_law.2.1 342 = .ok (.iload_n 3, 1) := by decide +kernel
theorem d14_law_343 : decode m14_law.2.1 343 = .ok (.iconst 1, 1) := by decide +kernel
theorem d14_law_344 : decode m14_law.2.1 344 = .ok (.iadd, 1) := by decide +kernel
theorem d14_law_345 : decode m14_law.2.1 345 = .ok (.iaload, 1) := by decide +kernel
theorem d14_law_346 : decode m14_law.2.1 346 = .ok (.aload_n 0, 1) := by decide +kernel
theorem d14_law_347 : decode m14_law.2.1 347 = .ok (.iload_n 3, 1) := by decide +kernel
theorem d14_law_348 : decode m14_law.2.1 348 = .ok (.iconst 2, 1) := by decide +kernel
theorem d14_law_349 : decode m14_law.2.1 349 = .ok (.iadd, 1) := by decide +kernel
theorem d14_law_350 : decode m14_law.2.1 350 = .ok (.iaload, 1) := by decide +kernel
theorem d14_law_351 : decode m14_law.2.1 351 = .ok (.invokevirtual 35, 3) := by decide +kernel
theorem d14_law_354 : decode m14_law.2.1 354 = .ok (.if_icmp .eq 1430, 3) := by decide +kernel
theorem d14_law_357 : decode m14_law.2.1 357 = .ok (.iconst 0, 1) := by decide +kernel
theorem d14_law_358 : decode m14_law.2.1 358 = .ok (.ireturn, 1) := by decide +kernel
theorem d14_law_359 : decode m14_law.2.1 359 = .ok (.aload_n 1, 1) := by decide +kernel
theorem d14_law_360 : decode m14_law.2.1 360 = .ok (.aload_n 0, 1) := by decide +kernel
theorem d14_law_361 : decode m14_law.2.1 361 = .ok (.iload_n 3, 1) := by decide +kernel
theorem d14_law_362 : decode m14_law.2.1 362 = .ok (.iconst 1, 1) := by decide +kernel
theorem d14_law_363 : decode m14_law.2.1 363 = .ok (.iadd, 1) := by decide +kernel
theorem d14_law_364 : decode m14_law.2.1 364 = .ok (.iaload, 1) := by decide +kernel
theorem d14_law_365 : decode m14_law.2.1 365 = .ok (.aload_n 0, 1) := by decide +kernel
theorem d14_law_366 : decode m14_law.2.1 366 = .ok (.iload_n 3, 1) := by decide +kernel
theorem d14_law_367 : decode m14_law.2.1 367 = .ok (.iconst 2, 1) := by decide +kernel
theorem d14_law_368 : decode m14_law.2.1 368 = .ok (.iadd, 1) := by decide +kernel
theorem d14_law_369 : decode m14_law.2.1 369 = .ok (.iaload, 1) := by decide +kernel
theorem d14_law_370 : decode m14_law.2.1 370 = .ok (.aload_n 0, 1) := by decide +kernel
theorem d14_law_371 : decode m14_law.2.1 371 = .ok (.iload_n 3, 1) := by decide +kernel
theorem d14_law_372 : decode m14_law.2.1 372 = .ok (.iconst 3, 1) := by decide +kernel
theorem d14_law_373 : decode m14_law.2.1 373 = .ok (.iadd, 1) := by decide +kernel
theorem d14_law_374 : decode m14_law.2.1 374 = .ok (.iaload, 1) := by decide +kernel
theorem d14_law_375 : decode m14_law.2.1 375 = .ok (.aload_n 0, 1) := by decide +kernel
theorem d14_law_376 : decode m14_law.2.1 376 = .ok (.iload_n 3, 1) := by decide +kernel
theorem d14_law_377 : decode m14_law.2.1 377 = .ok (.iconst 4, 1) := by decide +kernel
theorem d14_law_378 : decode m14_law.2.1 378 = .ok (.iadd, 1) := by decide +kernel
theorem d14_law_379 : decode m14_law.2.1 379 = .ok (.iaload, 1) := by decide +kernel
theorem d14_law_380 : decode m14_law.2.1 380 = .ok (.aload_n 0, 1) := by decide +kernel
theorem d14_law_381 : decode m14_law.2.1 381 = .ok (.iload_n 3, 1) := by decide +kernel
theorem d14_law_382 : decode m14_law.2.1 382 = .ok (.iconst 5, 1) := by decide +kernel
theorem d14_law_383 : decode m14_law.2.1 383 = .ok (.iadd, 1) := by decide +kernel
theorem d14_law_384 : decode m14_law.2.1 384 = .ok (.iaload, 1) := by decide +kernel
theorem d14_law_385 : decode m14_law.2.1 385 = .ok (.ifCond .eq 7, 3) := by decide +kernel
theorem d14_law_388 : decode m14_law.2.1 388 = .ok (.iconst 1, 1) := by decide +kernel
theorem d14_law_389 : decode m14_law.2.1 389 = .ok (.goto 4, 3) := by decide +kernel
theorem d14_law_392 : decode m14_law.2.1 392 = .ok (.iconst 0, 1) := by decide +kernel
theorem d14_law_393 : decode m14_law.2.1 393 = .ok (.invokevirtual 36, 3) := by decide +kernel
theorem d14_law_396 : decode m14_law.2.1 396 = .ok (.aload_n 2, 1) := by decide +kernel
theorem d14_law_397 : decode m14_law.2.1 397 = .ok (.aload_n 0, 1) := by decide +kernel
theorem d14_law_398 : decode m14_law.2.1 398 = .ok (.iload_n 3, 1) := by decide +kernel
theorem d14_law_399 : decode m14_law.2.1 399 = .ok (.iconst 1, 1) := by decide +kernel
theorem d14_law_400 : decode m14_law.2.1 400 = .ok (.iadd, 1) := by decide +kernel
theorem d14_law_401 : decode m14_law.2.1 401 = .ok (.iaload, 1) := by decide +kernel
theorem d14_law_402 : decode m14_law.2.1 402 = .ok (.aload_n 0, 1) := by decide +kernel
theorem d14_law_403 : decode m14_law.2.1 403 = .ok (.iload_n 3, 1) := by decide +kernel
theorem d14_law_404 : decode m14_law.2.1 404 = .ok (.iconst 2, 1) := by decide +kernel
theorem d14_law_405 : decode m14_law.2.1 405 = .ok (.iadd, 1) := by decide +kernel
theorem d14_law_406 : decode m14_law.2.1 406 = .ok (.iaload, 1) := by decide +kernel
theorem d14_law_407 : decode m14_law.2.1 407 = .ok (.aload_n 0, 1) := by decide +kernel
theorem d14_law_408 : decode m14_law.2.1 408 = .ok (.iload_n 3, 1) := by decide +kernel
theorem d14_law_409 : decode m14_law.2.1 409 = .ok (.iconst 3, 1) := by decide +kernel
theorem d14_law_410 : decode m14_law.2.1 410 = .ok (.iadd, 1) := by decide +kernel
theorem d14_law_411 : decode m14_law.2.1 411 = .ok (.iaload, 1) := by decide +kernel
theorem d14_law_412 : decode m14_law.2.1 412 = .ok (.aload_n 0, 1) := by decide +kernel
theorem d14_law_413 : decode m14_law.2.1 413 = .ok (.iload_n 3, 1) := by decide +kernel
theorem d14_law_414 : decode m14_law.2.1 414 = .ok (.iconst 4, 1) := by decide +kernel
theorem d14_law_415 : decode m14_law.2.1 415 = .ok (.iadd, 1) := by decide +kernel
theorem d14_law_416 : decode m14_law.2.1 416 = .ok (.iaload, 1) := by decide +kernel
theorem d14_law_417 : decode m14_law.2.1 417 = .ok (.aload_n 0, 1) := by decide +kernel
theorem d14_law_418 : decode m14_law.2.1 418 = .ok (.iload_n 3, 1) := by decide +kernel
theorem d14_law_419 : decode m14_law.2.1 419 = .ok (.iconst 5, 1) := by decide +kernel
theorem d14_law_420 : decode m14_law.2.1 420 = .ok (.iadd, 1) := by decide +kernel
theorem d14_law_421 : decode m14_law.2.1 421 = .ok (.iaload, 1) := by decide +kernel
theorem d14_law_422 : decode m14_law.2.1 422 = .ok (.ifCond .eq 7, 3) := by decide +kernel
theorem d14_law_425 : decode m14_law.2.1 425 = .ok (.iconst 1, 1) := by decide +kernel
theorem d14_law_426 : decode m14_law.2.1 426 = .ok (.goto 4, 3) := by decide +kernel
theorem d14_law_429 : decode m14_law.2.1 429 = .ok (.iconst 0, 1) := by decide +kernel
theorem d14_law_430 : decode m14_law.2.1 430 = .ok (.invokevirtual 40, 3) := by decide +kernel
theorem d14_law_433 : decode m14_law.2.1 433 = .ok (.if_icmp .eq 1351, 3) := by decide +kernel
theorem d14_law_436 : decode m14_law.2.1 436 = .ok (.iconst 0, 1) := by decide +kernel
theorem d14_law_437 : decode m14_law.2.1 437 = .ok (.ireturn, 1) := by decide +kernel
theorem d14_law_438 : decode m14_law.2.1 438 = .ok (.aload_n 1, 1) := by decide +kernel
theorem d14_law_439 : decode m14_law.2.1 439 = .ok (.aload_n 0, 1) := by decide +kernel
theorem d14_law_440 : decode m14_law.2.1 440 = .ok (.iload_n 3, 1) := by decide +kernel
theorem d14_law_441 : decode m14_law.2.1 441 = .ok (.iconst 1, 1) := by decide +kernel
theorem d14_law_442 : decode m14_law.2.1 442 = .ok (.iadd, 1) := by decide +kernel
theorem d14_law_443 : decode m14_law.2.1 443 = .ok (.iaload, 1) := by decide +kernel
theorem d14_law_444 : decode m14_law.2.1 444 = .ok (.aload_n 0, 1) := by decide +kernel
theorem d14_law_445 : decode m14_law.2.1 445 = .ok (.iload_n 3, 1) := by decide +kernel
theorem d14_law_446 : decode m14_law.2.1 446 = .ok (.iconst 2, 1) := by decide +kernel
theorem d14_law_447 : decode m14_law.2.1 447 = .ok (.iadd, 1) := by decide +kernel
theorem d14_law_448 : decode m14_law.2.1 448 = .ok (.iaload, 1) := by decide +kernel
theorem d14_law_449 : decode m14_law.2.1 449 = .ok (.aload_n 0, 1) := by decide +kernel
theorem d14_law_450 : decode m14_law.2.1 450 = .ok (.iload_n 3, 1) := by decide +kernel
theorem d14_law_451 : decode m14_law.2.1 451 = .ok (.iconst 3, 1) := by decide +kernel
theorem d14_law_452 : decode m14_law.2.1 452 = .ok (.iadd, 1) := by decide +kernel
theorem d14_law_453 : decode m14_law.2.1 453 = .ok (.iaload, 1) := by decide +kernel
theorem d14_law_454 : decode m14_law.2.1 454 = .ok (.invokevirtual 41, 3) := by decide +kernel
theorem d14_law_457 : decode m14_law.2.1 457 = .ok (.aload_n 2, 1) := by decide +kernel
theorem d14_law_458 : decode m14_law.2.1 458 = .ok (.aload_n 0, 1) := by decide +kernel
theorem d14_law_459 : decode m14_law.2.1 459 = .ok (.iload_n 3, 1) := by decide +kernel
theorem d14_law_460 : decode m14_law.2.1 460 = .ok (.iconst 1, 1) := by decide +kernel
theorem d14_law_461 : decode m14_law.2.1 461 = .ok (.iadd, 1) := by decide +kernel
theorem d14_law_462 : decode m14_law.2.1 462 = .ok (.iaload, 1) := by decide +kernel
theorem d14_law_463 : decode m14_law.2.1 463 = .ok (.aload_n 0, 1) := by decide +kernel
theorem d14_law_464 : decode m14_law.2.1 464 = .ok (.iload_n 3, 1) := by decide +kernel
theorem d14_law_465 : decode m14_law.2.1 465 = .ok (.iconst 2, 1) := by decide +kernel
theorem d14_law_466 : decode m14_law.2.1 466 = .ok (.iadd, 1) := by decide +kernel
theorem d14_law_467 : decode m14_law.2.1 467 = .ok (.iaload, 1) := by decide +kernel
theorem d14_law_468 : decode m14_law.2.1 468 = .ok (.aload_n 0, 1) := by decide +kernel
theorem d14_law_469 : decode m14_law.2.1 469 = .ok (.iload_n 3, 1) := by decide +kernel
theorem d14_law_470 : decode m14_law.2.1 470 = .ok (.iconst 3, 1) := by decide +kernel
theorem d14_law_471 : decode m14_law.2.1 471 = .ok (.iadd, 1) := by decide +kernel
theorem d14_law_472 : decode m14_law.2.1 472 = .ok (.iaload, 1) := by decide +kernel
theorem d14_law_473 : decode m14_law.2.1 473 = .ok (.invokevirtual 45, 3) := by decide +kernel
theorem d14_law_476 : decode m14_law.2.1 476 = .ok (.if_icmp .eq 1308, 3) := by decide +kernel
theorem d14_law_479 : decode m14_law.2.1 479 = .ok (.iconst 0, 1) := by decide +kernel
theorem d14_law_480 : decode m14_law.2.1 480 = .ok (.ireturn, 1) := by decide +kernel
theorem d14_law_481 : decode m14_law.2.1 481 = .ok (.aload_n 1, 1) := by decide +kernel
theorem d14_law_482 : decode m14_law.2.1 482 = .ok (.aload_n 0, 1) := by decide +kernel
theorem d14_law_483 : decode m14_law.2.1 483 = .ok (.iload_n 3, 1) := by decide +kernel
theorem d14_law_484 : decode m14_law.2.1 484 = .ok (.iconst 1, 1) := by decide +kernel
theorem d14_law_485 : decode m14_law.2.1 485 = .ok (.iadd, 1) := by decide +kernel
theorem d14_law_486 : decode m14_law.2.1 486 = .ok (.iaload, 1) := by decide +kernel
theorem d14_law_487 : decode m14_law.2.1 487 = .ok (.aload_n 0, 1) := by decide +kernel
theorem d14_law_488 : decode m14_law.2.1 488 = .ok (.iload_n 3, 1) := by decide +kernel
theorem d14_law_489 : decode m14_law.2.1 489 = .ok (.iconst 2, 1) := by decide +kernel
theorem d14_law_490 : decode m14_law.2.1 490 = .ok (.iadd, 1) := by decide +kernel
theorem d14_law_491 : decode m14_law.2.1 491 = .ok (.iaload, 1) := by decide +kernel
theorem d14_law_492 : decode m14_law.2.1 492 = .ok (.invokevirtual 46, 3) := by decide +kernel
theorem d14_law_495 : decode m14_law.2.1 495 = .ok (.aload_n 2, 1) := by decide +kernel
theorem d14_law_496 : decode m14_law.2.1 496 = .ok (.aload_n 0, 1) := by decide +kernel
theorem d14_law_497 : decode m14_law.2.1 497 = .ok (.iload_n 3, 1) := by decide +kernel
theorem d14_law_498 : decode m14_law.2.1 498 = .ok (.iconst 1, 1) := by decide +kernel
theorem d14_law_499 : decode m14_law.2.1 499 = .ok (.iadd, 1) := by decide +kernel
theorem d14_law_500 : decode m14_law.2.1 500 = .ok (.iaload, 1) := by decide +kernel
theorem d14_law_501 : decode m14_law.2.1 501 = .ok (.aload_n 0, 1) := by decide +kernel
theorem d14_law_502 : decode m14_law.2.1 502 = .ok (.iload_n 3, 1) := by decide +kernel
theorem d14_law_503 : decode m14_law.2.1 503 = .ok (.iconst 2, 1) := by decide +kernel
theorem d14_law_504 : decode m14_law.2.1 504 = .ok (.iadd, 1) := by decide +kernel
theorem d14_law_505 : decode m14_law.2.1 505 = .ok (.iaload, 1) := by decide +kernel
theorem d14_law_506 : decode m14_law.2.1 506 = .ok (.invokevirtual 49, 3) := by decide +kernel
theorem d14_law_509 : decode m14_law.2.1 509 = .ok (.if_icmp .eq 1275, 3) := by decide +kernel
theorem d14_law_512 : decode m14_law.2.1 512 = .ok (.iconst 0, 1) := by decide +kernel
theorem d14_law_513 : decode m14_law.2.1 513 = .ok (.ireturn, 1) := by decide +kernel
theorem d14_law_514 : decode m14_law.2.1 514 = .ok (.aload_n 1, 1) := by decide +kernel
theorem d14_law_515 : decode m14_law.2.1 515 = .ok (.aload_n 0, 1) := by decide +kernel
theorem d14_law_516 : decode m14_law.2.1 516 = .ok (.iload_n 3, 1) := by decide +kernel
theorem d14_law_517 : decode m14_law.2.1 517 = .ok (.iconst 1, 1) := by decide +kernel
theorem d14_law_518 : decode m14_law.2.1 518 = .ok (.iadd, 1) := by decide +kernel
theorem d14_law_519 : decode m14_law.2.1 519 = .ok (.iaload, 1) := by decide +kernel
theorem d14_law_520 : decode m14_law.2.1 520 = .ok (.aload_n 0, 1) := by decide +kernel
theorem d14_law_521 : decode m14_law.2.1 521 = .ok (.iload_n 3, 1) := by decide +kernel
theorem d14_law_522 : decode m14_law.2.1 522 = .ok (.iconst 2, 1) := by decide +kernel
theorem d14_law_523 : decode m14_law.2.1 523 = .ok (.iadd, 1) := by decide +kernel
theorem d14_law_524 : decode m14_law.2.1 524 = .ok (.iaload, 1) := by decide +kernel
theorem d14_law_525 : decode m14_law.2.1 525 = .ok (.aload_n 0, 1) := by decide +kernel
theorem d14_law_526 : decode m14_law.2.1 526 = .ok (.iload_n 3, 1) := by decide +kernel
theorem d14_law_527 : decode m14_law.2.1 527 = .ok (.iconst 3, 1) := by decide +kernel
theorem d14_law_528 : decode m14_law.2.1 528 = .ok (.iadd, 1) := by decide +kernel
theorem d14_law_529 : decode m14_law.2.1 529 = .ok (.iaload, 1) := by decide +kernel
theorem d14_law_530 : decode m14_law.2.1 530 = .ok (.aload_n 0, 1) := by decide +kernel
theorem d14_law_531 : decode m14_law.2.1 531 = .ok (.iload_n 3, 1) := by decide +kernel
theorem d14_law_532 : decode m14_law.2.1 532 = .ok (.iconst 4, 1) := by decide +kernel
theorem d14_law_533 : decode m14_law.2.1 533 = .ok (.iadd, 1) := by decide +kernel
theorem d14_law_534 : decode m14_law.2.1 534 = .ok (.iaload, 1) := by decide +kernel
theorem d14_law_535 : decode m14_law.2.1 535 = .ok (.invokevirtual 50, 3) := by decide +kernel
theorem d14_law_538 : decode m14_law.2.1 538 = .ok (.aload_n 2, 1) := by decide +kernel
theorem d14_law_539 : decode m14_law.2.1 539 = .ok (.aload_n 0, 1) := by decide +kernel
theorem d14_law_540 : decode m14_law.2.1 540 = .ok (.iload_n 3, 1) := by decide +kernel
theorem d14_law_541 : decode m14_law.2.1 541 = .ok (.iconst 1, 1) := by decide +kernel
theorem d14_law_542 : decode m14_law.2.1 542 = .ok (.iadd, 1) := by decide +kernel
theorem d14_law_543 : decode m14_law.2.1 543 = .ok (.iaload, 1) := by decide +kernel
theorem d14_law_544 : decode m14_law.2.1 544 = .ok (.aload_n 0, 1) := by decide +kernel
theorem d14_law_545 : decode m14_law.2.1 545 = .ok (.iload_n 3, 1) := by decide +kernel
theorem d14_law_546 : decode m14_law.2.1 546 = .ok (.iconst 2, 1) := by decide +kernel
theorem d14_law_547 : decode m14_law.2.1 547 = .ok (.iadd, 1) := by decide +kernel
theorem d14_law_548 : decode m14_law.2.1 548 = .ok (.iaload, 1) := by decide +kernel
theorem d14_law_549 : decode m14_law.2.1 549 = .ok (.aload_n 0, 1) := by decide +kernel
theorem d14_law_550 : decode m14_law.2.1 550 = .ok (.iload_n 3, 1) := by decide +kernel
theorem d14_law_551 : decode m14_law.2.1 551 = .ok (.iconst 3, 1) := by decide +kernel
theorem d14_law_552 : decode m14_law.2.1 552 = .ok (.iadd, 1) := by decide +kernel
theorem d14_law_553 : decode m14_law.2.1 553 = .ok (.iaload, 1) := by decide +kernel
theorem d14_law_554 : decode m14_law.2.1 554 = .ok (.aload_n 0, 1) := by decide +kernel
theorem d14_law_555 : decode m14_law.2.1 555 = .ok (.iload_n 3, 1) := by decide +kernel
theorem d14_law_556 : decode m14_law.2.1 556 = .ok (.iconst 4, 1) := by decide +kernel
theorem d14_law_557 : decode m14_law.2.1 557 = .ok (.iadd, 1) := by decide +kernel
theorem d14_law_558 : decode m14_law.2.1 558 = .ok (.iaload, 1) := by decide +kernel
theorem d14_law_559 : decode m14_law.2.1 559 = .ok (.invokevirtual 54, 3) := by decide +kernel
theorem d14_law_562 : decode m14_law.2.1 562 = .ok (.if_icmp .eq 1222, 3) := by decide +kernel
theorem d14_law_565 : decode m14_law.2.1 565 = .ok (.iconst 0, 1) := by decide +kernel
theorem d14_law_566 : decode m14_law.2.1 566 = .ok (.ireturn, 1) := by decide +kernel
theorem d14_law_567 : decode m14_law.2.1 567 = .ok (.aload_n 1, 1) := by decide +kernel
theorem d14_law_568 : decode m14_law.2.1 568 = .ok (.aload_n 0, 1) := by decide +kernel
theorem d14_law_569 : decode m14_law.2.1 569 = .ok (.iload_n 3, 1) := by decide +kernel
theorem d14_law_570 : decode m14_law.2.1 570 = .ok (.iconst 1, 1) := by decide +kernel
theorem d14_law_571 : decode m14_law.2.1 571 = .ok (.iadd, 1) := by decide +kernel
theorem d14_law_572 : decode m14_law.2.1 572 = .ok (.iaload, 1) := by decide +kernel
theorem d14_law_573 : decode m14_law.2.1 573 = .ok (.aload_n 0, 1) := by decide +kernel
theorem d14_law_574 : decode m14_law.2.1 574 = .ok (.iload_n 3, 1) := by decide +kernel
theorem d14_law_575 : decode m14_law.2.1 575 = .ok (.iconst 2, 1) := by decide +kernel
theorem d14_law_576 : decode m14_law.2.1 576 = .ok (.iadd, 1) := by decide +kernel
theorem d14_law_577 : decode m14_law.2.1 577 = .ok (.iaload, 1) := by decide +kernel
theorem d14_law_578 : decode m14_law.2.1 578 = .ok (.aload_n 0, 1) := by decide +kernel
theorem d14_law_579 : decode m14_law.2.1 579 = .ok (.iload_n 3, 1) := by decide +kernel
theorem d14_law_580 : decode m14_law.2.1 580 = .ok (.iconst 3, 1) := by decide +kernel
theorem d14_law_581 : decode m14_law.2.1 581 = .ok (.iadd, 1) := by decide +kernel
theorem d14_law_582 : decode m14_law.2.1 582 = .ok (.iaload, 1) := by decide +kernel
theorem d14_law_583 : decode m14_law.2.1 583 = .ok (.aload_n 0, 1) := by decide +kernel
theorem d14_law_584 : decode m14_law.2.1 584 = .ok (.iload_n 3, 1) := by decide +kernel
theorem d14_law_585 : decode m14_law.2.1 585 = .ok (.iconst 4, 1) := by decide +kernel
theorem d14_law_586 : decode m14_law.2.1 586 = .ok (.iadd, 1) := by decide +kernel
theorem d14_law_587 : decode m14_law.2.1 587 = .ok (.iaload, 1) := by decide +kernel
theorem d14_law_588 : decode m14_law.2.1 588 = .ok (.ifCond .eq 7, 3) := by decide +kernel
theorem d14_law_591 : decode m14_law.2.1 591 = .ok (.iconst 1, 1) := by decide +kernel
theorem d14_law_592 : decode m14_law.2.1 592 = .ok (.goto 4, 3) := by decide +kernel
theorem d14_law_595 : decode m14_law.2.1 595 = .ok (.iconst 0, 1) := by decide +kernel
theorem d14_law_596 : decode m14_law.2.1 596 = .ok (.invokevirtual 55, 3) := by decide +kernel
theorem d14_law_599 : decode m14_law.2.1 599 = .ok (.aload_n 2, 1) := by decide +kernel
theorem d14_law_600 : decode m14_law.2.1 600 = .ok (.aload_n 0, 1) := by decide +kernel
theorem d14_law_601 : decode m14_law.2.1 601 = .ok (.iload_n 3, 1) := by decide +kernel
theorem d14_law_602 : decode m14_law.2.1 602 = .ok (.iconst 1, 1) := by decide +kernel
theorem d14_law_603 : decode m14_law.2.1 603 = .ok (.iadd, 1) := by decide +kernel
theorem d14_law_604 : decode m14_law.2.1 604 = .ok (.iaload, 1) := by decide +kernel
theorem d14_law_605 : decode m14_law.2.1 605 = .ok (.aload_n 0, 1) := by decide +kernel
theorem d14_law_606 : decode m14_law.2.1 606 = .ok (.iload_n 3, 1) := by decide +kernel
theorem d14_law_607 : decode m14_law.2.1 607 = .ok (.iconst 2, 1) := by decide +kernel
theorem d14_law_608 : decode m14_law.2.1 608 = .ok (.iadd, 1) := by decide +kernel
theorem d14_law_609 : decode m14_law.2.1 609 = .ok (.iaload, 1) := by decide +kernel
theorem d14_law_610 : decode m14_law.2.1 610 = .ok (.aload_n 0, 1) := by decide +kernel
theorem d14_law_611 : decode m14_law.2.1 611 = .ok (.iload_n 3, 1) := by decide +kernel
theorem d14_law_612 : decode m14_law.2.1 612 = .ok (.iconst 3, 1) := by decide +kernel
theorem d14_law_613 : decode m14_law.2.1 613 = .ok (.iadd, 1) := by decide +kernel
theorem d14_law_614 : decode m14_law.2.1 614 = .ok (.iaload, 1) := by decide +kernel
theorem d14_law_615 : decode m14_law.2.1 615 = .ok (.aload_n 0, 1) := by decide +kernel
theorem d14_law_616 : decode m14_law.2.1 616 = .ok (.iload_n 3, 1) := by decide +kernel
theorem d14_law_617 : decode m14_law.2.1 617 = .ok (.iconst 4, 1) := by decide +kernel
theorem d14_law_618 : decode m14_law.2.1 618 = .ok (.iadd, 1) := by decide +kernel
theorem d14_law_619 : decode m14_law.2.1 619 = .ok (.iaload, 1) := by decide +kernel
theorem d14_law_620 : decode m14_law.2.1 620 = .ok (.ifCond .eq 7, 3) := by decide +kernel
theorem d14_law_623 : decode m14_law.2.1 623 = .ok (.iconst 1, 1) := by decide +kernel
theorem d14_law_624 : decode m14_law.2.1 624 = .ok (.goto 4, 3) := by decide +kernel
theorem d14_law_627 : decode m14_law.2.1 627 = .ok (.iconst 0, 1) := by decide +kernel
theorem d14_law_628 : decode m14_law.2.1 628 = .ok (.invokevirtual 59, 3) := by decide +kernel
theorem d14_law_631 : decode m14_law.2.1 631 = .ok (.if_icmp .eq 1153, 3) := by decide +kernel
theorem d14_law_634 : decode m14_law.2.1 634 = .ok (.iconst 0, 1) := by decide +kernel
theorem d14_law_635 : decode m14_law.2.1 635 = .ok (.ireturn, 1) := by decide +kernel
theorem d14_law_636 : decode m14_law.2.1 636 = .ok (.aload_n 1, 1) := by decide +kernel
theorem d14_law_637 : decode m14_law.2.1 637 = .ok (.aload_n 0, 1) := by decide +kernel
theorem d14_law_638 : decode m14_law.2.1 638 = .ok (.iload_n 3, 1) := by decide +kernel
theorem d14_law_639 : decode m14_law.2.1 639 = .ok (.iconst 1, 1) := by decide +kernel
theorem d14_law_640 : decode m14_law.2.1 640 = .ok (.iadd, 1) := by decide +kernel
theorem d14_law_641 : decode m14_law.2.1 641 = .ok (.iaload, 1) := by decide +kernel
theorem d14_law_642 : decode m14_law.2.1 642 = .ok (.aload_n 0, 1) := by decide +kernel
theorem d14_law_643 : decode m14_law.2.1 643 = .ok (.iload_n 3, 1) := by decide +kernel
theorem d14_law_644 : decode m14_law.2.1 644 = .ok (.iconst 2, 1) := by decide +kernel
theorem d14_law_645 : decode m14_law.2.1 645 = .ok (.iadd, 1) := by decide +kernel
theorem d14_law_646 : decode m14_law.2.1 646 = .ok (.iaload, 1) := by decide +kernel
theorem d14_law_647 : decode m14_law.2.1 647 = .ok (.aload_n 0, 1) := by decide +kernel
theorem d14_law_648 : decode m14_law.2.1 648 = .ok (.iload_n 3, 1) := by decide +kernel
theorem d14_law_649 : decode m14_law.2.1 649 = .ok (.iconst 3, 1) := by decide +kernel
theorem d14_law_650 : decode m14_law.2.1 650 = .ok (.iadd, 1) := by decide +kernel
theorem d14_law_651 : decode m14_law.2.1 651 = .ok (.iaload, 1) := by decide +kernel
theorem d14_law_652 : decode m14_law.2.1 652 = .ok (.aload_n 0, 1) := by decide +kernel
theorem d14_law_653 : decode m14_law.2.1 653 = .ok (.iload_n 3, 1) := by decide +kernel
theorem d14_law_654 : decode m14_law.2.1 654 = .ok (.iconst 4, 1) := by decide +kernel
theorem d14_law_655 : decode m14_law.2.1 655 = .ok (.iadd, 1) := by decide +kernel
theorem d14_law_656 : decode m14_law.2.1 656 = .ok (.iaload, 1) := by decide +kernel
theorem d14_law_657 : decode m14_law.2.1 657 = .ok (.aload_n 0, 1) := by decide +kernel
theorem d14_law_658 : decode m14_law.2.1 658 = .ok (.iload_n 3, 1) := by decide +kernel
theorem d14_law_659 : decode m14_law.2.1 659 = .ok (.iconst 5, 1) := by decide +kernel
theorem d14_law_660 : decode m14_law.2.1 660 = .ok (.iadd, 1) := by decide +kernel
theorem d14_law_661 : decode m14_law.2.1 661 = .ok (.iaload, 1) := by decide +kernel
theorem d14_law_662 : decode m14_law.2.1 662 = .ok (.ifCond .eq 7, 3) := by decide +kernel
theorem d14_law_665 : decode m14_law.2.1 665 = .ok (.iconst 1, 1) := by decide +kernel
theorem d14_law_666 : decode m14_law.2.1 666 = .ok (.goto 4, 3) := by decide +kernel
theorem d14_law_669 : decode m14_law.2.1 669 = .ok (.iconst 0, 1) := by decide +kernel
theorem d14_law_670 : decode m14_law.2.1 670 = .ok (.invokevirtual 60, 3) := by decide +kernel
theorem d14_law_673 : decode m14_law.2.1 673 = .ok (.aload_n 2, 1) := by decide +kernel
theorem d14_law_674 : decode m14_law.2.1 674 = .ok (.aload_n 0, 1) := by decide +kernel
theorem d14_law_675 : decode m14_law.2.1 675 = .ok (.iload_n 3, 1) := by decide +kernel
theorem d14_law_676 : decode m14_law.2.1 676 = .ok (.iconst 1, 1) := by decide +kernel
theorem d14_law_677 : decode m14_law.2.1 677 = .ok (.iadd, 1) := by decide +kernel
theorem d14_law_678 : decode m14_law.2.1 678 = .ok (.iaload, 1) := by decide +kernel
theorem d14_law_679 : decode m14_law.2.1 679 = .ok (.aload_n 0, 1) := by decide +kernel
theorem d14_law_680 : decode m14_law.2.1 680 = .ok (.iload_n 3, 1) := by decide +kernel
theorem d14_law_681 : decode m14_law.2.1 681 = .ok (.iconst 2, 1) := by decide +kernel
theorem d14_law_682 : decode m14_law.2.1 682 = .ok (.iadd, 1) := by decide +kernel
theorem d14_law_683 : decode m14_law.2.1 683 = .ok (.iaload, 1) := by decide +kernel
theorem d14_law_684 : decode m14_law.2.1 684 = .ok (.aload_n 0, 1) := by decide +kernel
theorem d14_law_685 : decode m14_law.2.1 685 = .ok (.iload_n 3, 1) := by decide +kernel
theorem d14_law_686 : decode m14_law.2.1 686 = .ok (.iconst 3, 1) := by decide +kernel
theorem d14_law_687 : decode m14_law.2.1 687 = .ok (.iadd, 1) := by decide +kernel
theorem d14_law_688 : decode m14_law.2.1 688 = .ok (.iaload, 1) := by decide +kernel
theorem d14_law_689 : decode m14_law.2.1 689 = .ok (.aload_n 0, 1) := by decide +kernel
theorem d14_law_690 : decode m14_law.2.1 690 = .ok (.iload_n 3, 1) := by decide +kernel
theorem d14_law_691 : decode m14_law.2.1 691 = .ok (.iconst 4, 1) := by decide +kernel
theorem d14_law_692 : decode m14_law.2.1 692 = .ok (.iadd, 1) := by decide +kernel
theorem d14_law_693 : decode m14_law.2.1 693 = .ok (.iaload, 1) := by decide +kernel
theorem d14_law_694 : decode m14_law.2.1 694 = .ok (.aload_n 0, 1) := by decide +kernel
theorem d14_law_695 : decode m14_law.2.1 695 = .ok (.iload_n 3, 1) := by decide +kernel
theorem d14_law_696 : decode m14_law.2.1 696 = .ok (.iconst 5, 1) := by decide +kernel
theorem d14_law_697 : decode m14_law.2.1 697 = .ok (.iadd, 1) := by decide +kernel
theorem d14_law_698 : decode m14_law.2.1 698 = .ok (.iaload, 1) := by decide +kernel
theorem d14_law_699 : decode m14_law.2.1 699 = .ok (.ifCond .eq 7, 3) := by decide +kernel
theorem d14_law_702 : decode m14_law.2.1 702 = .ok (.iconst 1, 1) := by decide +kernel
theorem d14_law_703 : decode m14_law.2.1 703 = .ok (.goto 4, 3) := by decide +kernel
theorem d14_law_706 : decode m14_law.2.1 706 = .ok (.iconst 0, 1) := by decide +kernel
theorem d14_law_707 : decode m14_law.2.1 707 = .ok (.invokevirtual 63, 3) := by decide +kernel
theorem d14_law_710 : decode m14_law.2.1 710 = .ok (.if_icmp .eq 1074, 3) := by decide +kernel
theorem d14_law_713 : decode m14_law.2.1 713 = .ok (.iconst 0, 1) := by decide +kernel
theorem d14_law_714 : decode m14_law.2.1 714 = .ok (.ireturn, 1) := by decide +kernel
theorem d14_law_715 : decode m14_law.2.1 715 = .ok (.aload_n 1, 1) := by decide +kernel
theorem d14_law_716 : decode m14_law.2.1 716 = .ok (.aload_n 0, 1) := by decide +kernel
theorem d14_law_717 : decode m14_law.2.1 717 = .ok (.iload_n 3, 1) := by decide +kernel
theorem d14_law_718 : decode m14_law.2.1 718 = .ok (.iconst 1, 1) := by decide +kernel
theorem d14_law_719 : decode m14_law.2.1 719 = .ok (.iadd, 1) := by decide +kernel
theorem d14_law_720 : decode m14_law.2.1 720 = .ok (.iaload, 1) := by decide +kernel
theorem d14_law_721 : decode m14_law.2.1 721 = .ok (.aload_n 0, 1) := by decide +kernel
theorem d14_law_722 : decode m14_law.2.1 722 = .ok (.iload_n 3, 1) := by decide +kernel
theorem d14_law_723 : decode m14_law.2.1 723 = .ok (.iconst 2, 1) := by decide +kernel
theorem d14_law_724 : decode m14_law.2.1 724 = .ok (.iadd, 1) := by decide +kernel
theorem d14_law_725 : decode m14_law.2.1 725 = .ok (.iaload, 1) := by decide +kernel
theorem d14_law_726 : decode m14_law.2.1 726 = .ok (.aload_n 0, 1) := by decide +kernel
theorem d14_law_727 : decode m14_law.2.1 727 = .ok (.iload_n 3, 1) := by decide +kernel
theorem d14_law_728 : decode m14_law.2.1 728 = .ok (.iconst 3, 1) := by decide +kernel
theorem d14_law_729 : decode m14_law.2.1 729 = .ok (.iadd, 1) := by decide +kernel
theorem d14_law_730 : decode m14_law.2.1 730 = .ok (.iaload, 1) := by decide +kernel
theorem d14_law_731 : decode m14_law.2.1 731 = .ok (.invokevirtual 64, 3) := by decide +kernel
theorem d14_law_734 : decode m14_law.2.1 734 = .ok (.aload_n 2, 1) := by decide +kernel
theorem d14_law_735 : decode m14_law.2.1 735 = .ok (.aload_n 0, 1) := by decide +kernel
theorem d14_law_736 : decode m14_law.2.1 736 = .ok (.iload_n 3, 1) := by decide +kernel
theorem d14_law_737 : decode m14_law.2.1 737 = .ok (.iconst 1, 1) := by decide +kernel
theorem d14_law_738 : decode m14_law.2.1 738 = .ok (.iadd, 1) := by decide +kernel
theorem d14_law_739 : decode m14_law.2.1 739 = .ok (.iaload, 1) := by decide +kernel
theorem d14_law_740 : decode m14_law.2.1 740 = .ok (.aload_n 0, 1) := by decide +kernel
theorem d14_law_741 : decode m14_law.2.1 741 = .ok (.iload_n 3, 1) := by decide +kernel
theorem d14_law_742 : decode m14_law.2.1 742 = .ok (.iconst 2, 1) := by decide +kernel
theorem d14_law_743 : decode m14_law.2.1 743 = .ok (.iadd, 1) := by decide +kernel
theorem d14_law_744 : decode m14_law.2.1 744 = .ok (.iaload, 1) := by decide +kernel
theorem d14_law_745 : decode m14_law.2.1 745 = .ok (.aload_n 0, 1) := by decide +kernel
theorem d14_law_746 : decode m14_law.2.1 746 = .ok (.iload_n 3, 1) := by decide +kernel
theorem d14_law_747 : decode m14_law.2.1 747 = .ok (.iconst 3, 1) := by decide +kernel
theorem d14_law_748 : decode m14_law.2.1 748 = .ok (.iadd, 1) := by decide +kernel
theorem d14_law_749 : decode m14_law.2.1 749 = .ok (.iaload, 1) := by decide +kernel
theorem d14_law_750 : decode m14_law.2.1 750 = .ok (.invokevirtual 67, 3) := by decide +kernel
theorem d14_law_753 : decode m14_law.2.1 753 = .ok (.if_icmp .eq 1031, 3) := by decide +kernel
theorem d14_law_756 : decode m14_law.2.1 756 = .ok (.iconst 0, 1) := by decide +kernel
theorem d14_law_757 : decode m14_law.2.1 757 = .ok (.ireturn, 1) := by decide +kernel
theorem d14_law_758 : decode m14_law.2.1 758 = .ok (.aload_n 1, 1) := by decide +kernel
theorem d14_law_759 : decode m14_law.2.1 759 = .ok (.aload_n 0, 1) := by decide +kernel
theorem d14_law_760 : decode m14_law.2.1 760 = .ok (.iload_n 3, 1) := by decide +kernel
theorem d14_law_761 : decode m14_law.2.1 761 = .ok (.iconst 1, 1) := by decide +kernel
theorem d14_law_762 : decode m14_law.2.1 762 = .ok (.iadd, 1) := by decide +kernel
theorem d14_law_763 : decode m14_law.2.1 763 = .ok (.iaload, 1) := by decide +kernel
theorem d14_law_764 : decode m14_law.2.1 764 = .ok (.aload_n 0, 1) := by decide +kernel
theorem d14_law_765 : decode m14_law.2.1 765 = .ok (.iload_n 3, 1) := by decide +kernel
theorem d14_law_766 : decode m14_law.2.1 766 = .ok (.iconst 2, 1) := by decide +kernel
theorem d14_law_767 : decode m14_law.2.1 767 = .ok (.iadd, 1) := by decide +kernel
theorem d14_law_768 : decode m14_law.2.1 768 = .ok (.iaload, 1) := by decide +kernel
theorem d14_law_769 : decode m14_law.2.1 769 = .ok (.invokevirtual 68, 3) := by decide +kernel
theorem d14_law_772 : decode m14_law.2.1 772 = .ok (.aload_n 2, 1) := by decide +kernel
theorem d14_law_773 : decode m14_law.2.1 773 = .ok (.aload_n 0, 1) := by decide +kernel
theorem d14_law_774 : decode m14_law.2.1 774 = .ok (.iload_n 3, 1) := by decide +kernel
theorem d14_law_775 : decode m14_law.2.1 775 = .ok (.iconst 1, 1) := by decide +kernel
theorem d14_law_776 : decode m14_law.2.1 776 = .ok (.iadd, 1) := by decide +kernel
theorem d14_law_777 : decode m14_law.2.1 777 = .ok (.iaload, 1) := by decide +kernel
theorem d14_law_778 : decode m14_law.2.1 778 = .ok (.aload_n 0, 1) := by decide +kernel
theorem d14_law_779 : decode m14_law.2.1 779 = .ok (.iload_n 3, 1) := by decide +kernel
theorem d14_law_780 : decode m14_law.2.1 780 = .ok (.iconst 2, 1) := by decide +kernel
theorem d14_law_781 : decode m14_law.2.1 781 = .ok (.iadd, 1) := by decide +kernel
theorem d14_law_782 : decode m14_law.2.1 782 = .ok (.iaload, 1) := by decide +kernel
theorem d14_law_783 : decode m14_law.2.1 783 = .ok (.invokevirtual 71, 3) := by decide +kernel
theorem d14_law_786 : decode m14_law.2.1 786 = .ok (.if_icmp .eq 998, 3) := by decide +kernel
theorem d14_law_789 : decode m14_law.2.1 789 = .ok (.iconst 0, 1) := by decide +kernel
theorem d14_law_790 : decode m14_law.2.1 790 = .ok (.ireturn, 1) := by decide +kernel
theorem d14_law_791 : decode m14_law.2.1 791 = .ok (.aload_n 1, 1) := by decide +kernel
theorem d14_law_792 : decode m14_law.2.1 792 = .ok (.aload_n 0, 1) := by decide +kernel
theorem d14_law_793 : decode m14_law.2.1 793 = .ok (.iload_n 3, 1) := by decide +kernel
theorem d14_law_794 : decode m14_law.2.1 794 = .ok (.iconst 1, 1) := by decide +kernel
theorem d14_law_795 : decode m14_law.2.1 795 = .ok (.iadd, 1) := by decide +kernel
theorem d14_law_796 : decode m14_law.2.1 796 = .ok (.iaload, 1) := by decide +kernel
theorem d14_law_797 : decode m14_law.2.1 797 = .ok (.aload_n 0, 1) := by decide +kernel
theorem d14_law_798 : decode m14_law.2.1 798 = .ok (.iload_n 3, 1) := by decide +kernel
theorem d14_law_799 : decode m14_law.2.1 799 = .ok (.iconst 2, 1) := by decide +kernel
theorem d14_law_800 : decode m14_law.2.1 800 = .ok (.iadd, 1) := by decide +kernel
theorem d14_law_801 : decode m14_law.2.1 801 = .ok (.iaload, 1) := by decide +kernel
theorem d14_law_802 : decode m14_law.2.1 802 = .ok (.invokevirtual 72, 3) := by decide +kernel
theorem d14_law_805 : decode m14_law.2.1 805 = .ok (.aload_n 2, 1) := by decide +kernel
theorem d14_law_806 : decode m14_law.2.1 806 = .ok (.aload_n 0, 1) := by decide +kernel
theorem d14_law_807 : decode m14_law.2.1 807 = .ok (.iload_n 3, 1) := by decide +kernel
theorem d14_law_808 : decode m14_law.2.1 808 = .ok (.iconst 1, 1) := by decide +kernel
theorem d14_law_809 : decode m14_law.2.1 809 = .ok (.iadd, 1) := by decide +kernel
theorem d14_law_810 : decode m14_law.2.1 810 = .ok (.iaload, 1) := by decide +kernel
theorem d14_law_811 : decode m14_law.2.1 811 = .ok (.aload_n 0, 1) := by decide +kernel
theorem d14_law_812 : decode m14_law.2.1 812 = .ok (.iload_n 3, 1) := by decide +kernel
theorem d14_law_813 : decode m14_law.2.1 813 = .ok (.iconst 2, 1) := by decide +kernel
theorem d14_law_814 : decode m14_law.2.1 814 = .ok (.iadd, 1) := by decide +kernel
theorem d14_law_815 : decode m14_law.2.1 815 = .ok (.iaload, 1) := by decide +kernel
theorem d14_law_816 : decode m14_law.2.1 816 = .ok (.invokevirtual 75, 3) := by decide +kernel
theorem d14_law_819 : decode m14_law.2.1 819 = .ok (.if_icmp .eq 965, 3) := by decide +kernel
theorem d14_law_822 : decode m14_law.2.1 822 = .ok (.iconst 0, 1) := by decide +kernel
theorem d14_law_823 : decode m14_law.2.1 823 = .ok (.ireturn, 1) := by decide +kernel
theorem d14_law_824 : decode m14_law.2.1 824 = .ok (.aload_n 1, 1) := by decide +kernel
theorem d14_law_825 : decode m14_law.2.1 825 = .ok (.aload_n 0, 1) := by decide +kernel
theorem d14_law_826 : decode m14_law.2.1 826 = .ok (.iload_n 3, 1) := by decide +kernel
theorem d14_law_827 : decode m14_law.2.1 827 = .ok (.iconst 1, 1) := by decide +kernel
theorem d14_law_828 : decode m14_law.2.1 828 = .ok (.iadd, 1) := by decide +kernel
theorem d14_law_829 : decode m14_law.2.1 829 = .ok (.iaload, 1) := by decide +kernel
theorem d14_law_830 : decode m14_law.2.1 830 = .ok (.aload_n 0, 1) := by decide +kernel
theorem d14_law_831 : decode m14_law.2.1 831 = .ok (.iload_n 3, 1) := by decide +kernel
theorem d14_law_832 : decode m14_law.2.1 832 = .ok (.iconst 2, 1) := by decide +kernel
theorem d14_law_833 : decode m14_law.2.1 833 = .ok (.iadd, 1) := by decide +kernel
theorem d14_law_834 : decode m14_law.2.1 834 = .ok (.iaload, 1) := by decide +kernel
theorem d14_law_835 : decode m14_law.2.1 835 = .ok (.aload_n 0, 1) := by decide +kernel
theorem d14_law_836 : decode m14_law.2.1 836 = .ok (.iload_n 3, 1) := by decide +kernel
theorem d14_law_837 : decode m14_law.2.1 837 = .ok (.iconst 3, 1) := by decide +kernel
theorem d14_law_838 : decode m14_law.2.1 838 = .ok (.iadd, 1) := by decide +kernel
theorem d14_law_839 : decode m14_law.2.1 839 = .ok (.iaload, 1) := by decide +kernel
theorem d14_law_840 : decode m14_law.2.1 840 = .ok (.aload_n 0, 1) := by decide +kernel
theorem d14_law_841 : decode m14_law.2.1 841 = .ok (.iload_n 3, 1) := by decide +kernel
theorem d14_law_842 : decode m14_law.2.1 842 = .ok (.iconst 4, 1) := by decide +kernel
theorem d14_law_843 : decode m14_law.2.1 843 = .ok (.iadd, 1) := by decide +kernel
theorem d14_law_844 : decode m14_law.2.1 844 = .ok (.iaload, 1) := by decide +kernel
theorem d14_law_845 : decode m14_law.2.1 845 = .ok (.aload_n 0, 1) := by decide +kernel
theorem d14_law_846 : decode m14_law.2.1 846 = .ok (.iload_n 3, 1) := by decide +kernel
theorem d14_law_847 : decode m14_law.2.1 847 = .ok (.iconst 5, 1) := by decide +kernel
theorem d14_law_848 : decode m14_law.2.1 848 = .ok (.iadd, 1) := by decide +kernel
theorem d14_law_849 : decode m14_law.2.1 849 = .ok (.iaload, 1) := by decide +kernel
theorem d14_law_850 : decode m14_law.2.1 850 = .ok (.aload_n 0, 1) := by decide +kernel
theorem d14_law_851 : decode m14_law.2.1 851 = .ok (.iload_n 3, 1) := by decide +kernel
theorem d14_law_852 : decode m14_law.2.1 852 = .ok (.bipush 6, 2) := by decide +kernel
theorem d14_law_854 : decode m14_law.2.1 854 = .ok (.iadd, 1) := by decide +kernel
theorem d14_law_855 : decode m14_law.2.1 855 = .ok (.iaload, 1) := by decide +kernel
theorem d14_law_856 : decode m14_law.2.1 856 = .ok (.ifCond .eq 7, 3) := by decide +kernel
theorem d14_law_859 : decode m14_law.2.1 859 = .ok (.iconst 1, 1) := by decide +kernel
theorem d14_law_860 : decode m14_law.2.1 860 = .ok (.goto 4, 3) := by decide +kernel
theorem d14_law_863 : decode m14_law.2.1 863 = .ok (.iconst 0, 1) := by decide +kernel
theorem d14_law_864 : decode m14_law.2.1 864 = .ok (.invokevirtual 76, 3) := by decide +kernel
theorem d14_law_867 : decode m14_law.2.1 867 = .ok (.aload_n 2, 1) := by decide +kernel
theorem d14_law_868 : decode m14_law.2.1 868 = .ok (.aload_n 0, 1) := by decide +kernel
theorem d14_law_869 : decode m14_law.2.1 869 = .ok (.iload_n 3, 1) := by decide +kernel
theorem d14_law_870 : decode m14_law.2.1 870 = .ok (.iconst 1, 1) := by decide +kernel
theorem d14_law_871 : decode m14_law.2.1 871 = .ok (.iadd, 1) := by decide +kernel
theorem d14_law_872 : decode m14_law.2.1 872 = .ok (.iaload, 1) := by decide +kernel
theorem d14_law_873 : decode m14_law.2.1 873 = .ok (.aload_n 0, 1) := by decide +kernel
theorem d14_law_874 : decode m14_law.2.1 874 = .ok (.iload_n 3, 1) := by decide +kernel
theorem d14_law_875 : decode m14_law.2.1 875 = .ok (.iconst 2, 1) := by decide +kernel
theorem d14_law_876 : decode m14_law.2.1 876 = .ok (.iadd, 1) := by decide +kernel
theorem d14_law_877 : decode m14_law.2.1 877 = .ok (.iaload, 1) := by decide +kernel
theorem d14_law_878 : decode m14_law.2.1 878 = .ok (.aload_n 0, 1) := by decide +kernel
theorem d14_law_879 : decode m14_law.2.1 879 = .ok (.iload_n 3, 1) := by decide +kernel
theorem d14_law_880 : decode m14_law.2.1 880 = .ok (.iconst 3, 1) := by decide +kernel
theorem d14_law_881 : decode m14_law.2.1 881 = .ok (.iadd, 1) := by decide +kernel
theorem d14_law_882 : decode m14_law.2.1 882 = .ok (.iaload, 1) := by decide +kernel
theorem d14_law_883 : decode m14_law.2.1 883 = .ok (.aload_n 0, 1) := by decide +kernel
theorem d14_law_884 : decode m14_law.2.1 884 = .ok (.iload_n 3, 1) := by decide +kernel
theorem d14_law_885 : decode m14_law.2.1 885 = .ok (.iconst 4, 1) := by decide +kernel
theorem d14_law_886 : decode m14_law.2.1 886 = .ok (.iadd, 1) := by decide +kernel
theorem d14_law_887 : decode m14_law.2.1 887 = .ok (.iaload, 1) := by decide +kernel
theorem d14_law_888 : decode m14_law.2.1 888 = .ok (.aload_n 0, 1) := by decide +kernel
theorem d14_law_889 : decode m14_law.2.1 889 = .ok (.iload_n 3, 1) := by decide +kernel
theorem d14_law_890 : decode m14_law.2.1 890 = .ok (.iconst 5, 1) := by decide +kernel
theorem d14_law_891 : decode m14_law.2.1 891 = .ok (.iadd, 1) := by decide +kernel
theorem d14_law_892 : decode m14_law.2.1 892 = .ok (.iaload, 1) := by decide +kernel
theorem d14_law_893 : decode m14_law.2.1 893 = .ok (.aload_n 0, 1) := by decide +kernel
theorem d14_law_894 : decode m14_law.2.1 894 = .ok (.iload_n 3, 1) := by decide +kernel
theorem d14_law_895 : decode m14_law.2.1 895 = .ok (.bipush 6, 2) := by decide +kernel
theorem d14_law_897 : decode m14_law.2.1 897 = .ok (.iadd, 1) := by decide +kernel
theorem d14_law_898 : decode m14_law.2.1 898 = .ok (.iaload, 1) := by decide +kernel
theorem d14_law_899 : decode m14_law.2.1 899 = .ok (.ifCond .eq 7, 3) := by decide +kernel
theorem d14_law_902 : decode m14_law.2.1 902 = .ok (.iconst 1, 1) := by decide +kernel
theorem d14_law_903 : decode m14_law.2.1 903 = .ok (.goto 4, 3) := by decide +kernel
theorem d14_law_906 : decode m14_law.2.1 906 = .ok (.iconst 0, 1) := by decide +kernel
theorem d14_law_907 : decode m14_law.2.1 907 = .ok (.invokevirtual 80, 3) := by decide +kernel
theorem d14_law_910 : decode m14_law.2.1 910 = .ok (.lcmp, 1) := by decide +kernel
theorem d14_law_911 : decode m14_law.2.1 911 = .ok (.ifCond .eq 873, 3) := by decide +kernel
theorem d14_law_914 : decode m14_law.2.1 914 = .ok (.iconst 0, 1) := by decide +kernel
theorem d14_law_915 : decode m14_law.2.1 915 = .ok (.ireturn, 1) := by decide +kernel
theorem d14_law_916 : decode m14_law.2.1 916 = .ok (.aload_n 1, 1) := by decide +kernel
theorem d14_law_917 : decode m14_law.2.1 917 = .ok (.aload_n 0, 1) := by decide +kernel
theorem d14_law_918 : decode m14_law.2.1 918 = .ok (.iload_n 3, 1) := by decide +kernel
theorem d14_law_919 : decode m14_law.2.1 919 = .ok (.iconst 1, 1) := by decide +kernel
theorem d14_law_920 : decode m14_law.2.1 920 = .ok (.iadd, 1) := by decide +kernel
theorem d14_law_921 : decode m14_law.2.1 921 = .ok (.iaload, 1) := by decide +kernel
theorem d14_law_922 : decode m14_law.2.1 922 = .ok (.aload_n 0, 1) := by decide +kernel
theorem d14_law_923 : decode m14_law.2.1 923 = .ok (.iload_n 3, 1) := by decide +kernel
theorem d14_law_924 : decode m14_law.2.1 924 = .ok (.iconst 2, 1) := by decide +kernel
theorem d14_law_925 : decode m14_law.2.1 925 = .ok (.iadd, 1) := by decide +kernel
theorem d14_law_926 : decode m14_law.2.1 926 = .ok (.iaload, 1) := by decide +kernel
theorem d14_law_927 : decode m14_law.2.1 927 = .ok (.aload_n 0, 1) := by decide +kernel
theorem d14_law_928 : decode m14_law.2.1 928 = .ok (.iload_n 3, 1) := by decide +kernel
theorem d14_law_929 : decode m14_law.2.1 929 = .ok (.iconst 3, 1) := by decide +kernel
theorem d14_law_930 : decode m14_law.2.1 930 = .ok (.iadd, 1) := by decide +kernel
theorem d14_law_931 : decode m14_law.2.1 931 = .ok (.iaload, 1) := by decide +kernel
theorem d14_law_932 : decode m14_law.2.1 932 = .ok (.invokevirtual 81, 3) := by decide +kernel
theorem d14_law_935 : decode m14_law.2.1 935 = .ok (.aload_n 2, 1) := by decide +kernel
theorem d14_law_936 : decode m14_law.2.1 936 = .ok (.aload_n 0, 1) := by decide +kernel
theorem d14_law_937 : decode m14_law.2.1 937 = .ok (.iload_n 3, 1) := by decide +kernel
theorem d14_law_938 : decode m14_law.2.1 938 = .ok (.iconst 1, 1) := by decide +kernel
theorem d14_law_939 : decode m14_law.2.1 939 = .ok (.iadd, 1) := by decide +kernel
theorem d14_law_940 : decode m14_law.2.1 940 = .ok (.iaload, 1) := by decide +kernel
theorem d14_law_941 : decode m14_law.2.1 941 = .ok (.aload_n 0, 1) := by decide +kernel
theorem d14_law_942 : decode m14_law.2.1 942 = .ok (.iload_n 3, 1) := by decide +kernel
theorem d14_law_943 : decode m14_law.2.1 943 = .ok (.iconst 2, 1) := by decide +kernel
theorem d14_law_944 : decode m14_law.2.1 944 = .ok (.iadd, 1) := by decide +kernel
theorem d14_law_945 : decode m14_law.2.1 945 = .ok (.iaload, 1) := by decide +kernel
theorem d14_law_946 : decode m14_law.2.1 946 = .ok (.aload_n 0, 1) := by decide +kernel
theorem d14_law_947 : decode m14_law.2.1 947 = .ok (.iload_n 3, 1) := by decide +kernel
theorem d14_law_948 : decode m14_law.2.1 948 = .ok (.iconst 3, 1) := by decide +kernel
theorem d14_law_949 : decode m14_law.2.1 949 = .ok (.iadd, 1) := by decide +kernel
theorem d14_law_950 : decode m14_law.2.1 950 = .ok (.iaload, 1) := by decide +kernel
theorem d14_law_951 : decode m14_law.2.1 951 = .ok (.invokevirtual 84, 3) := by decide +kernel
theorem d14_law_954 : decode m14_law.2.1 954 = .ok (.if_icmp .eq 830, 3) := by decide +kernel
theorem d14_law_957 : decode m14_law.2.1 957 = .ok (.iconst 0, 1) := by decide +kernel
theorem d14_law_958 : decode m14_law.2.1 958 = .ok (.ireturn, 1) := by decide +kernel
theorem d14_law_959 : decode m14_law.2.1 959 = .ok (.aload_n 1, 1) := by decide +kernel
theorem d14_law_960 : decode m14_law.2.1 960 = .ok (.aload_n 0, 1) := by decide +kernel
theorem d14_law_961 : decode m14_law.2.1 961 = .ok (.iload_n 3, 1) := by decide +kernel
theorem d14_law_962 : decode m14_law.2.1 962 = .ok (.iconst 1, 1) := by decide +kernel
theorem d14_law_963 : decode m14_law.2.1 963 = .ok (.iadd, 1) := by decide +kernel
theorem d14_law_964 : decode m14_law.2.1 964 = .ok (.iaload, 1) := by decide +kernel
theorem d14_law_965 : decode m14_law.2.1 965 = .ok (.aload_n 0, 1) := by decide +kernel
theorem d14_law_966 : decode m14_law.2.1 966 = .ok (.iload_n 3, 1) := by decide +kernel
theorem d14_law_967 : decode m14_law.2.1 967 = .ok (.iconst 2, 1) := by decide +kernel
theorem d14_law_968 : decode m14_law.2.1 968 = .ok (.iadd, 1) := by decide +kernel
theorem d14_law_969 : decode m14_law.2.1 969 = .ok (.iaload, 1) := by decide +kernel
theorem d14_law_970 : decode m14_law.2.1 970 = .ok (.aload_n 0, 1) := by decide +kernel
theorem d14_law_971 : decode m14_law.2.1 971 = .ok (.iload_n 3, 1) := by decide +kernel
theorem d14_law_972 : decode m14_law.2.1 972 = .ok (.iconst 3, 1) := by decide +kernel
theorem d14_law_973 : decode m14_law.2.1 973 = .ok (.iadd, 1) := by decide +kernel
theorem d14_law_974 : decode m14_law.2.1 974 = .ok (.iaload, 1) := by decide +kernel
theorem d14_law_975 : decode m14_law.2.1 975 = .ok (.invokevirtual 85, 3) := by decide +kernel
theorem d14_law_978 : decode m14_law.2.1 978 = .ok (.aload_n 2, 1) := by decide +kernel
theorem d14_law_979 : decode m14_law.2.1 979 = .ok (.aload_n 0, 1) := by decide +kernel
theorem d14_law_980 : decode m14_law.2.1 980 = .ok (.iload_n 3, 1) := by decide +kernel
theorem d14_law_981 : decode m14_law.2.1 981 = .ok (.iconst 1, 1) := by decide +kernel
theorem d14_law_982 : decode m14_law.2.1 982 = .ok (.iadd, 1) := by decide +kernel
theorem d14_law_983 : decode m14_law.2.1 983 = .ok (.iaload, 1) := by decide +kernel
theorem d14_law_984 : decode m14_law.2.1 984 = .ok (.aload_n 0, 1) := by decide +kernel
theorem d14_law_985 : decode m14_law.2.1 985 = .ok (.iload_n 3, 1) := by decide +kernel
theorem d14_law_986 : decode m14_law.2.1 986 = .ok (.iconst 2, 1) := by decide +kernel
theorem d14_law_987 : decode m14_law.2.1 987 = .ok (.iadd, 1) := by decide +kernel
theorem d14_law_988 : decode m14_law.2.1 988 = .ok (.iaload, 1) := by decide +kernel
theorem d14_law_989 : decode m14_law.2.1 989 = .ok (.aload_n 0, 1) := by decide +kernel
theorem d14_law_990 : decode m14_law.2.1 990 = .ok (.iload_n 3, 1) := by decide +kernel
theorem d14_law_991 : decode m14_law.2.1 991 = .ok (.iconst 3, 1) := by decide +kernel
theorem d14_law_992 : decode m14_law.2.1 992 = .ok (.iadd, 1) := by decide +kernel
theorem d14_law_993 : decode m14_law.2.1 993 = .ok (.iaload, 1) := by decide +kernel
theorem d14_law_994 : decode m14_law.2.1 994 = .ok (.invokevirtual 88, 3) := by decide +kernel
theorem d14_law_997 : decode m14_law.2.1 997 = .ok (.if_icmp .eq 787, 3) := by decide +kernel
theorem d14_law_1000 : decode m14_law.2.1 1000 = .ok (.iconst 0, 1) := by decide +kernel
theorem d14_law_1001 : decode m14_law.2.1 1001 = .ok (.ireturn, 1) := by decide +kernel
theorem d14_law_1002 : decode m14_law.2.1 1002 = .ok (.aload_n 1, 1) := by decide +kernel
theorem d14_law_1003 : decode m14_law.2.1 1003 = .ok (.aload_n 0, 1) := by decide +kernel
theorem d14_law_1004 : decode m14_law.2.1 1004 = .ok (.iload_n 3, 1) := by decide +kernel
theorem d14_law_1005 : decode m14_law.2.1 1005 = .ok (.iconst 1, 1) := by decide +kernel
theorem d14_law_1006 : decode m14_law.2.1 1006 = .ok (.iadd, 1) := by decide +kernel
theorem d14_law_1007 : decode m14_law.2.1 1007 = .ok (.iaload, 1) := by decide +kernel
theorem d14_law_1008 : decode m14_law.2.1 1008 = .ok (.aload_n 0, 1) := by decide +kernel
theorem d14_law_1009 : decode m14_law.2.1 1009 = .ok (.iload_n 3, 1) := by decide +kernel
theorem d14_law_1010 : decode m14_law.2.1 1010 = .ok (.iconst 2, 1) := by decide +kernel
theorem d14_law_1011 : decode m14_law.2.1 1011 = .ok (.iadd, 1) := by decide +kernel
theorem d14_law_1012 : decode m14_law.2.1 1012 = .ok (.iaload, 1) := by decide +kernel
theorem d14_law_1013 : decode m14_law.2.1 1013 = .ok (.aload_n 0, 1) := by decide +kernel
theorem d14_law_1014 : decode m14_law.2.1 1014 = .ok (.iload_n 3, 1) := by decide +kernel
theorem d14_law_1015 : decode m14_law.2.1 1015 = .ok (.iconst 3, 1) := by decide +kernel
theorem d14_law_1016 : decode m14_law.2.1 1016 = .ok (.iadd, 1) := by decide +kernel
theorem d14_law_1017 : decode m14_law.2.1 1017 = .ok (.iaload, 1) := by decide +kernel
theorem d14_law_1018 : decode m14_law.2.1 1018 = .ok (.aload_n 0, 1) := by decide +kernel
theorem d14_law_1019 : decode m14_law.2.1 1019 = .ok (.iload_n 3, 1) := by decide +kernel
theorem d14_law_1020 : decode m14_law.2.1 1020 = .ok (.iconst 4, 1) := by decide +kernel
theorem d14_law_1021 : decode m14_law.2.1 1021 = .ok (.iadd, 1) := by decide +kernel
theorem d14_law_1022 : decode m14_law.2.1 1022 = .ok (.iaload, 1) := by decide +kernel
theorem d14_law_1023 : decode m14_law.2.1 1023 = .ok (.invokevirtual 89, 3) := by decide +kernel
theorem d14_law_1026 : decode m14_law.2.1 1026 = .ok (.aload_n 2, 1) := by decide +kernel
theorem d14_law_1027 : decode m14_law.2.1 1027 = .ok (.aload_n 0, 1) := by decide +kernel
theorem d14_law_1028 : decode m14_law.2.1 1028 = .ok (.iload_n 3, 1) := by decide +kernel
theorem d14_law_1029 : decode m14_law.2.1 1029 = .ok (.iconst 1, 1) := by decide +kernel
theorem d14_law_1030 : decode m14_law.2.1 1030 = .ok (.iadd, 1) := by decide +kernel
theorem d14_law_1031 : decode m14_law.2.1 1031 = .ok (.iaload, 1) := by decide +kernel
theorem d14_law_1032 : decode m14_law.2.1 1032 = .ok (.aload_n 0, 1) := by decide +kernel
theorem d14_law_1033 : decode m14_law.2.1 1033 = .ok (.iload_n 3, 1) := by decide +kernel
theorem d14_law_1034 : decode m14_law.2.1 1034 = .ok (.iconst 2, 1) := by decide +kernel
theorem d14_law_1035 : decode m14_law.2.1 1035 = .ok (.iadd, 1) := by decide +kernel
theorem d14_law_1036 : decode m14_law.2.1 1036 = .ok (.iaload, 1) := by decide +kernel
theorem d14_law_1037 : decode m14_law.2.1 1037 = .ok (.aload_n 0, 1) := by decide +kernel
theorem d14_law_1038 : decode m14_law.2.1 1038 = .ok (.iload_n 3, 1) := by decide +kernel
theorem d14_law_1039 : decode m14_law.2.1 1039 = .ok (.iconst 3, 1) := by decide +kernel
theorem d14_law_1040 : decode m14_law.2.1 1040 = .ok (.iadd, 1) := by decide +kernel
theorem d14_law_1041 : decode m14_law.2.1 1041 = .ok (.iaload, 1) := by decide +kernel
theorem d14_law_1042 : decode m14_law.2.1 1042 = .ok (.aload_n 0, 1) := by decide +kernel
theorem d14_law_1043 : decode m14_law.2.1 1043 = .ok (.iload_n 3, 1) := by decide +kernel
theorem d14_law_1044 : decode m14_law.2.1 1044 = .ok (.iconst 4, 1) := by decide +kernel
theorem d14_law_1045 : decode m14_law.2.1 1045 = .ok (.iadd, 1) := by decide +kernel
theorem d14_law_1046 : decode m14_law.2.1 1046 = .ok (.iaload, 1) := by decide +kernel
theorem d14_law_1047 : decode m14_law.2.1 1047 = .ok (.invokevirtual 92, 3) := by decide +kernel
theorem d14_law_1050 : decode m14_law.2.1 1050 = .ok (.if_icmp .eq 734, 3) := by decide +kernel
theorem d14_law_1053 : decode m14_law.2.1 1053 = .ok (.iconst 0, 1) := by decide +kernel
theorem d14_law_1054 : decode m14_law.2.1 1054 = .ok (.ireturn, 1) := by decide +kernel
theorem d14_law_1055 : decode m14_law.2.1 1055 = .ok (.aload_n 1, 1) := by decide +kernel
theorem d14_law_1056 : decode m14_law.2.1 1056 = .ok (.aload_n 0, 1) := by decide +kernel
theorem d14_law_1057 : decode m14_law.2.1 1057 = .ok (.iload_n 3, 1) := by decide +kernel
theorem d14_law_1058 : decode m14_law.2.1 1058 = .ok (.iconst 1, 1) := by decide +kernel
theorem d14_law_1059 : decode m14_law.2.1 1059 = .ok (.iadd, 1) := by decide +kernel
theorem d14_law_1060 : decode m14_law.2.1 1060 = .ok (.iaload, 1) := by decide +kernel
theorem d14_law_1061 : decode m14_law.2.1 1061 = .ok (.aload_n 0, 1) := by decide +kernel
theorem d14_law_1062 : decode m14_law.2.1 1062 = .ok (.iload_n 3, 1) := by decide +kernel
theorem d14_law_1063 : decode m14_law.2.1 1063 = .ok (.iconst 2, 1) := by decide +kernel
theorem d14_law_1064 : decode m14_law.2.1 1064 = .ok (.iadd, 1) := by decide +kernel
theorem d14_law_1065 : decode m14_law.2.1 1065 = .ok (.iaload, 1) := by decide +kernel
theorem d14_law_1066 : decode m14_law.2.1 1066 = .ok (.aload_n 0, 1) := by decide +kernel
theorem d14_law_1067 : decode m14_law.2.1 1067 = .ok (.iload_n 3, 1) := by decide +kernel
theorem d14_law_1068 : decode m14_law.2.1 1068 = .ok (.iconst 3, 1) := by decide +kernel
theorem d14_law_1069 : decode m14_law.2.1 1069 = .ok (.iadd, 1) := by decide +kernel
theorem d14_law_1070 : decode m14_law.2.1 1070 = .ok (.iaload, 1) := by decide +kernel
theorem d14_law_1071 : decode m14_law.2.1 1071 = .ok (.aload_n 0, 1) := by decide +kernel
theorem d14_law_1072 : decode m14_law.2.1 1072 = .ok (.iload_n 3, 1) := by decide +kernel
theorem d14_law_1073 : decode m14_law.2.1 1073 = .ok (.iconst 4, 1) := by decide +kernel
theorem d14_law_1074 : decode m14_law.2.1 1074 = .ok (.iadd, 1) := by decide +kernel
theorem d14_law_1075 : decode m14_law.2.1 1075 = .ok (.iaload, 1) := by decide +kernel
theorem d14_law_1076 : decode m14_law.2.1 1076 = .ok (.aload_n 0, 1) := by decide +kernel
theorem d14_law_1077 : decode m14_law.2.1 1077 = .ok (.iload_n 3, 1) := by decide +kernel
theorem d14_law_1078 : decode m14_law.2.1 1078 = .ok (.iconst 5, 1) := by decide +kernel
theorem d14_law_1079 : decode m14_law.2.1 1079 = .ok (.iadd, 1) := by decide +kernel
theorem d14_law_1080 : decode m14_law.2.1 1080 = .ok (.iaload, 1) := by decide +kernel
theorem d14_law_1081 : decode m14_law.2.1 1081 = .ok (.invokevirtual 93, 3) := by decide +kernel
theorem d14_law_1084 : decode m14_law.2.1 1084 = .ok (.aload_n 2, 1) := by decide +kernel
theorem d14_law_1085 : decode m14_law.2.1 1085 = .ok (.aload_n 0, 1) := by decide +kernel
theorem d14_law_1086 : decode m14_law.2.1 1086 = .ok (.iload_n 3, 1) := by decide +kernel
theorem d14_law_1087 : decode m14_law.2.1 1087 = .ok (.iconst 1, 1) := by decide +kernel
theorem d14_law_1088 : decode m14_law.2.1 1088 = .ok (.iadd, 1) := by decide +kernel
theorem d14_law_1089 : decode m14_law.2.1 1089 = .ok (.iaload, 1) := by decide +kernel
theorem d14_law_1090 : decode m14_law.2.1 1090 = .ok (.aload_n 0, 1) := by decide +kernel
theorem d14_law_1091 : decode m14_law.2.1 1091 = .ok (.iload_n 3, 1) := by decide +kernel
theorem d14_law_1092 : decode m14_law.2.1 1092 = .ok (.iconst 2, 1) := by decide +kernel
theorem d14_law_1093 : decode m14_law.2.1 1093 = .ok (.iadd, 1) := by decide +kernel
theorem d14_law_1094 : decode m14_law.2.1 1094 = .ok (.iaload, 1) := by decide +kernel
theorem d14_law_1095 : decode m14_law.2.1 1095 = .ok (.aload_n 0, 1) := by decide +kernel
theorem d14_law_1096 : decode m14_law.2.1 1096 = .ok (.iload_n 3, 1) := by decide +kernel
theorem d14_law_1097 : decode m14_law.2.1 1097 = .ok (.iconst 3, 1) := by decide +kernel
theorem d14_law_1098 : decode m14_law.2.1 1098 = .ok (.iadd, 1) := by decide +kernel
theorem d14_law_1099 : decode m14_law.2.1 1099 = .ok (.iaload, 1) := by decide +kernel
theorem d14_law_1100 : decode m14_law.2.1 1100 = .ok (.aload_n 0, 1) := by decide +kernel
theorem d14_law_1101 : decode m14_law.2.1 1101 = .ok (.iload_n 3, 1) := by decide +kernel
theorem d14_law_1102 : decode m14_law.2.1 1102 = .ok (.iconst 4, 1) := by decide +kernel
theorem d14_law_1103 : decode m14_law.2.1 1103 = .ok (.iadd, 1) := by decide +kernel
theorem d14_law_1104 : decode m14_law.2.1 1104 = .ok (.iaload, 1) := by decide +kernel
theorem d14_law_1105 : decode m14_law.2.1 1105 = .ok (.aload_n 0, 1) := by decide +kernel
theorem d14_law_1106 : decode m14_law.2.1 1106 = .ok (.iload_n 3, 1) := by decide +kernel
theorem d14_law_1107 : decode m14_law.2.1 1107 = .ok (.iconst 5, 1) := by decide +kernel
theorem d14_law_1108 : decode m14_law.2.1 1108 = .ok (.iadd, 1) := by decide +kernel
theorem d14_law_1109 : decode m14_law.2.1 1109 = .ok (.iaload, 1) := by decide +kernel
theorem d14_law_1110 : decode m14_law.2.1 1110 = .ok (.invokevirtual 96, 3) := by decide +kernel
theorem d14_law_1113 : decode m14_law.2.1 1113 = .ok (.if_icmp .eq 671, 3) := by decide +kernel
theorem d14_law_1116 : decode m14_law.2.1 1116 = .ok (.iconst 0, 1) := by decide +kernel
theorem d14_law_1117 : decode m14_law.2.1 1117 = .ok (.ireturn, 1) := by decide +kernel
theorem d14_law_1118 : decode m14_law.2.1 1118 = .ok (.aload_n 1, 1) := by decide +kernel
theorem d14_law_1119 : decode m14_law.2.1 1119 = .ok (.aload_n 0, 1) := by decide +kernel
theorem d14_law_1120 : decode m14_law.2.1 1120 = .ok (.iload_n 3, 1) := by decide +kernel
theorem d14_law_1121 : decode m14_law.2.1 1121 = .ok (.iconst 1, 1) := by decide +kernel
theorem d14_law_1122 : decode m14_law.2.1 1122 = .ok (.iadd, 1) := by decide +kernel
theorem d14_law_1123 : decode m14_law.2.1 1123 = .ok (.iaload, 1) := by decide +kernel
theorem d14_law_1124 : decode m14_law.2.1 1124 = .ok (.aload_n 0, 1) := by decide +kernel
theorem d14_law_1125 : decode m14_law.2.1 1125 = .ok (.iload_n 3, 1) := by decide +kernel
theorem d14_law_1126 : decode m14_law.2.1 1126 = .ok (.iconst 2, 1) := by decide +kernel
theorem d14_law_1127 : decode m14_law.2.1 1127 = .ok (.iadd, 1) := by decide +kernel
theorem d14_law_1128 : decode m14_law.2.1 1128 = .ok (.iaload, 1) := by decide +kernel
theorem d14_law_1129 : decode m14_law.2.1 1129 = .ok (.aload_n 0, 1) := by decide +kernel
theorem d14_law_1130 : decode m14_law.2.1 1130 = .ok (.iload_n 3, 1) := by decide +kernel
theorem d14_law_1131 : decode m14_law.2.1 1131 = .ok (.iconst 3, 1) := by decide +kernel
theorem d14_law_1132 : decode m14_law.2.1 1132 = .ok (.iadd, 1) := by decide +kernel
theorem d14_law_1133 : decode m14_law.2.1 1133 = .ok (.iaload, 1) := by decide +kernel
theorem d14_law_1134 : decode m14_law.2.1 1134 = .ok (.aload_n 0, 1) := by decide +kernel
theorem d14_law_1135 : decode m14_law.2.1 1135 = .ok (.iload_n 3, 1) := by decide +kernel
theorem d14_law_1136 : decode m14_law.2.1 1136 = .ok (.iconst 4, 1) := by decide +kernel
theorem d14_law_1137 : decode m14_law.2.1 1137 = .ok (.iadd, 1) := by decide +kernel
theorem d14_law_1138 : decode m14_law.2.1 1138 = .ok (.iaload, 1) := by decide +kernel
theorem d14_law_1139 : decode m14_law.2.1 1139 = .ok (.aload_n 0, 1) := by decide +kernel
theorem d14_law_1140 : decode m14_law.2.1 1140 = .ok (.iload_n 3, 1) := by decide +kernel
theorem d14_law_1141 : decode m14_law.2.1 1141 = .ok (.iconst 5, 1) := by decide +kernel
theorem d14_law_1142 : decode m14_law.2.1 1142 = .ok (.iadd, 1) := by decide +kernel
theorem d14_law_1143 : decode m14_law.2.1 1143 = .ok (.iaload, 1) := by decide +kernel
theorem d14_law_1144 : decode m14_law.2.1 1144 = .ok (.invokevirtual 97, 3) := by decide +kernel
theorem d14_law_1147 : decode m14_law.2.1 1147 = .ok (.aload_n 2, 1) := by decide +kernel
theorem d14_law_1148 : decode m14_law.2.1 1148 = .ok (.aload_n 0, 1) := by decide +kernel
theorem d14_law_1149 : decode m14_law.2.1 1149 = .ok (.iload_n 3, 1) := by decide +kernel
theorem d14_law_1150 : decode m14_law.2.1 1150 = .ok (.iconst 1, 1) := by decide +kernel
theorem d14_law_1151 : decode m14_law.2.1 1151 = .ok (.iadd, 1) := by decide +kernel
theorem d14_law_1152 : decode m14_law.2.1 1152 = .ok (.iaload, 1) := by decide +kernel
theorem d14_law_1153 : decode m14_law.2.1 1153 = .ok (.aload_n 0, 1) := by decide +kernel
theorem d14_law_1154 : decode m14_law.2.1 1154 = .ok (.iload_n 3, 1) := by decide +kernel
theorem d14_law_1155 : decode m14_law.2.1 1155 = .ok (.iconst 2, 1) := by decide +kernel
theorem d14_law_1156 : decode m14_law.2.1 1156 = .ok (.iadd, 1) := by decide +kernel
theorem d14_law_1157 : decode m14_law.2.1 1157 = .ok (.iaload, 1) := by decide +kernel
theorem d14_law_1158 : decode m14_law.2.1 1158 = .ok (.aload_n 0, 1) := by decide +kernel
theorem d14_law_1159 : decode m14_law.2.1 1159 = .ok (.iload_n 3, 1) := by decide +kernel
theorem d14_law_1160 : decode m14_law.2.1 1160 = .ok (.iconst 3, 1) := by decide +kernel
theorem d14_law_1161 : decode m14_law.2.1 1161 = .ok (.iadd, 1) := by decide +kernel
theorem d14_law_1162 : decode m14_law.2.1 1162 = .ok (.iaload, 1) := by decide +kernel
theorem d14_law_1163 : decode m14_law.2.1 1163 = .ok (.aload_n 0, 1) := by decide +kernel
theorem d14_law_1164 : decode m14_law.2.1 1164 = .ok (.iload_n 3, 1) := by decide +kernel
theorem d14_law_1165 : decode m14_law.2.1 1165 = .ok (.iconst 4, 1) := by decide +kernel
theorem d14_law_1166 : decode m14_law.2.1 1166 = .ok (.iadd, 1) := by decide +kernel
theorem d14_law_1167 : decode m14_law.2.1 1167 = .ok (.iaload, 1) := by decide +kernel
theorem d14_law_1168 : decode m14_law.2.1 1168 = .ok (.aload_n 0, 1) := by decide +kernel
theorem d14_law_1169 : decode m14_law.2.1 1169 = .ok (.iload_n 3, 1) := by decide +kernel
theorem d14_law_1170 : decode m14_law.2.1 1170 = .ok (.iconst 5, 1) := by decide +kernel
theorem d14_law_1171 : decode m14_law.2.1 1171 = .ok (.iadd, 1) := by decide +kernel
theorem d14_law_1172 : decode m14_law.2.1 1172 = .ok (.iaload, 1) := by decide +kernel
theorem d14_law_1173 : decode m14_law.2.1 1173 = .ok (.invokevirtual 100, 3) := by decide +kernel
theorem d14_law_1176 : decode m14_law.2.1 1176 = .ok (.if_icmp .eq 608, 3) := by decide +kernel
theorem d14_law_1179 : decode m14_law.2.1 1179 = .ok (.iconst 0, 1) := by decide +kernel
theorem d14_law_1180 : decode m14_law.2.1 1180 = .ok (.ireturn, 1) := by decide +kernel
theorem d14_law_1181 : decode m14_law.2.1 1181 = .ok (.aload_n 1, 1) := by decide +kernel
theorem d14_law_1182 : decode m14_law.2.1 1182 = .ok (.aload_n 0, 1) := by decide +kernel
theorem d14_law_1183 : decode m14_law.2.1 1183 = .ok (.iload_n 3, 1) := by decide +kernel
theorem d14_law_1184 : decode m14_law.2.1 1184 = .ok (.iconst 1, 1) := by decide +kernel
theorem d14_law_1185 : decode m14_law.2.1 1185 = .ok (.iadd, 1) := by decide +kernel
theorem d14_law_1186 : decode m14_law.2.1 1186 = .ok (.iaload, 1) := by decide +kernel
theorem d14_law_1187 : decode m14_law.2.1 1187 = .ok (.aload_n 0, 1) := by decide +kernel
theorem d14_law_1188 : decode m14_law.2.1 1188 = .ok (.iload_n 3, 1) := by decide +kernel
theorem d14_law_1189 : decode m14_law.2.1 1189 = .ok (.iconst 2, 1) := by decide +kernel
theorem d14_law_1190 : decode m14_law.2.1 1190 = .ok (.iadd, 1) := by decide +kernel
theorem d14_law_1191 : decode m14_law.2.1 1191 = .ok (.iaload, 1) := by decide +kernel
theorem d14_law_1192 : decode m14_law.2.1 1192 = .ok (.aload_n 0, 1) := by decide +kernel
theorem d14_law_1193 : decode m14_law.2.1 1193 = .ok (.iload_n 3, 1) := by decide +kernel
theorem d14_law_1194 : decode m14_law.2.1 1194 = .ok (.iconst 3, 1) := by decide +kernel
theorem d14_law_1195 : decode m14_law.2.1 1195 = .ok (.iadd, 1) := by decide +kernel
theorem d14_law_1196 : decode m14_law.2.1 1196 = .ok (.iaload, 1) := by decide +kernel
theorem d14_law_1197 : decode m14_law.2.1 1197 = .ok (.invokevirtual 101, 3) := by decide +kernel
theorem d14_law_1200 : decode m14_law.2.1 1200 = .ok (.aload_n 2, 1) := by decide +kernel
theorem d14_law_1201 : decode m14_law.2.1 1201 = .ok (.aload_n 0, 1) := by decide +kernel
theorem d14_law_1202 : decode m14_law.2.1 1202 = .ok (.iload_n 3, 1) := by decide +kernel
theorem d14_law_1203 : decode m14_law.2.1 1203 = .ok (.iconst 1, 1) := by decide +kernel
theorem d14_law_1204 : decode m14_law.2.1 1204 = .ok (.iadd, 1) := by decide +kernel
theorem d14_law_1205 : decode m14_law.2.1 1205 = .ok (.iaload, 1) := by decide +kernel
theorem d14_law_1206 : decode m14_law.2.1 1206 = .ok (.aload_n 0, 1) := by decide +kernel
theorem d14_law_1207 : decode m14_law.2.1 1207 = .ok (.iload_n 3, 1) := by decide +kernel
theorem d14_law_1208 : decode m14_law.2.1 1208 = .ok (.iconst 2, 1) := by decide +kernel
theorem d14_law_1209 : decode m14_law.2.1 1209 = .ok (.iadd, 1) := by decide +kernel
theorem d14_law_1210 : decode m14_law.2.1 1210 = .ok (.iaload, 1) := by decide +kernel
theorem d14_law_1211 : decode m14_law.2.1 1211 = .ok (.aload_n 0, 1) := by decide +kernel
theorem d14_law_1212 : decode m14_law.2.1 1212 = .ok (.iload_n 3, 1) := by decide +kernel
theorem d14_law_1213 : decode m14_law.2.1 1213 = .ok (.iconst 3, 1) := by decide +kernel
theorem d14_law_1214 : decode m14_law.2.1 1214 = .ok (.iadd, 1) := by decide +kernel
theorem d14_law_1215 : decode m14_law.2.1 1215 = .ok (.iaload, 1) := by decide +kernel
theorem d14_law_1216 : decode m14_law.2.1 1216 = .ok (.invokevirtual 104, 3) := by decide +kernel
theorem d14_law_1219 : decode m14_law.2.1 1219 = .ok (.if_icmp .eq 565, 3) := by decide +kernel
theorem d14_law_1222 : decode m14_law.2.1 1222 = .ok (.iconst 0, 1) := by decide +kernel
theorem d14_law_1223 : decode m14_law.2.1 1223 = .ok (.ireturn, 1) := by decide +kernel
theorem d14_law_1224 : decode m14_law.2.1 1224 = .ok (.aload_n 1, 1) := by decide +kernel
theorem d14_law_1225 : decode m14_law.2.1 1225 = .ok (.aload_n 0, 1) := by decide +kernel
theorem d14_law_1226 : decode m14_law.2.1 1226 = .ok (.iload_n 3, 1) := by decide +kernel
theorem d14_law_1227 : decode m14_law.2.1 1227 = .ok (.iconst 1, 1) := by decide +kernel
theorem d14_law_1228 : decode m14_law.2.1 1228 = .ok (.iadd, 1) := by decide +kernel
theorem d14_law_1229 : decode m14_law.2.1 1229 = .ok (.iaload, 1) := by decide +kernel
theorem d14_law_1230 : decode m14_law.2.1 1230 = .ok (.aload_n 0, 1) := by decide +kernel
theorem d14_law_1231 : decode m14_law.2.1 1231 = .ok (.iload_n 3, 1) := by decide +kernel
theorem d14_law_1232 : decode m14_law.2.1 1232 = .ok (.iconst 2, 1) := by decide +kernel
theorem d14_law_1233 : decode m14_law.2.1 1233 = .ok (.iadd, 1) := by decide +kernel
theorem d14_law_1234 : decode m14_law.2.1 1234 = .ok (.iaload, 1) := by decide +kernel
theorem d14_law_1235 : decode m14_law.2.1 1235 = .ok (.aload_n 0, 1) := by decide +kernel
theorem d14_law_1236 : decode m14_law.2.1 1236 = .ok (.iload_n 3, 1) := by decide +kernel
theorem d14_law_1237 : decode m14_law.2.1 1237 = .ok (.iconst 3, 1) := by decide +kernel
theorem d14_law_1238 : decode m14_law.2.1 1238 = .ok (.iadd, 1) := by decide +kernel
theorem d14_law_1239 : decode m14_law.2.1 1239 = .ok (.iaload, 1) := by decide +kernel
theorem d14_law_1240 : decode m14_law.2.1 1240 = .ok (.aload_n 0, 1) := by decide +kernel
theorem d14_law_1241 : decode m14_law.2.1 1241 = .ok (.iload_n 3, 1) := by decide +kernel
theorem d14_law_1242 : decode m14_law.2.1 1242 = .ok (.iconst 4, 1) := by decide +kernel
theorem d14_law_1243 : decode m14_law.2.1 1243 = .ok (.iadd, 1) := by decide +kernel
theorem d14_law_1244 : decode m14_law.2.1 1244 = .ok (.iaload, 1) := by decide +kernel
theorem d14_law_1245 : decode m14_law.2.1 1245 = .ok (.ifCond .eq 7, 3) := by decide +kernel
theorem d14_law_1248 : decode m14_law.2.1 1248 = .ok (.iconst 1, 1) := by decide +kernel
theorem d14_law_1249 : decode m14_law.2.1 1249 = .ok (.goto 4, 3) := by decide +kernel
theorem d14_law_1252 : decode m14_law.2.1 1252 = .ok (.iconst 0, 1) := by decide +kernel
theorem d14_law_1253 : decode m14_law.2.1 1253 = .ok (.invokevirtual 105, 3) := by decide +kernel
theorem d14_law_1256 : decode m14_law.2.1 1256 = .ok (.aload_n 2, 1) := by decide +kernel
theorem d14_law_1257 : decode m14_law.2.1 1257 = .ok (.aload_n 0, 1) := by decide +kernel
theorem d14_law_1258 : decode m14_law.2.1 1258 = .ok (.iload_n 3, 1) := by decide +kernel
theorem d14_law_1259 : decode m14_law.2.1 1259 = .ok (.iconst 1, 1) := by decide +kernel
theorem d14_law_1260 : decode m14_law.2.1 1260 = .ok (.iadd, 1) := by decide +kernel
theorem d14_law_1261 : decode m14_law.2.1 1261 = .ok (.iaload, 1) := by decide +kernel
theorem d14_law_1262 : decode m14_law.2.1 1262 = .ok (.aload_n 0, 1) := by decide +kernel
theorem d14_law_1263 : decode m14_law.2.1 1263 = .ok (.iload_n 3, 1) := by decide +kernel
theorem d14_law_1264 : decode m14_law.2.1 1264 = .ok (.iconst 2, 1) := by decide +kernel
theorem d14_law_1265 : decode m14_law.2.1 1265 = .ok (.iadd, 1) := by decide +kernel
theorem d14_law_1266 : decode m14_law.2.1 1266 = .ok (.iaload, 1) := by decide +kernel
theorem d14_law_1267 : decode m14_law.2.1 1267 = .ok (.aload_n 0, 1) := by decide +kernel
theorem d14_law_1268 : decode m14_law.2.1 1268 = .ok (.iload_n 3, 1) := by decide +kernel
theorem d14_law_1269 : decode m14_law.2.1 1269 = .ok (.iconst 3, 1) := by decide +kernel
theorem d14_law_1270 : decode m14_law.2.1 1270 = .ok (.iadd, 1) := by decide +kernel
theorem d14_law_1271 : decode m14_law.2.1 1271 = .ok (.iaload, 1) := by decide +kernel
theorem d14_law_1272 : decode m14_law.2.1 1272 = .ok (.aload_n 0, 1) := by decide +kernel
theorem d14_law_1273 : decode m14_law.2.1 1273 = .ok (.iload_n 3, 1) := by decide +kernel
theorem d14_law_1274 : decode m14_law.2.1 1274 = .ok (.iconst 4, 1) := by decide +kernel
theorem d14_law_1275 : decode m14_law.2.1 1275 = .ok (.iadd, 1) := by decide +kernel
theorem d14_law_1276 : decode m14_law.2.1 1276 = .ok (.iaload, 1) := by decide +kernel
theorem d14_law_1277 : decode m14_law.2.1 1277 = .ok (.ifCond .eq 7, 3) := by decide +kernel
theorem d14_law_1280 : decode m14_law.2.1 1280 = .ok (.iconst 1, 1) := by decide +kernel
theorem d14_law_1281 : decode m14_law.2.1 1281 = .ok (.goto 4, 3) := by decide +kernel
theorem d14_law_1284 : decode m14_law.2.1 1284 = .ok (.iconst 0, 1) := by decide +kernel
theorem d14_law_1285 : decode m14_law.2.1 1285 = .ok (.invokevirtual 108, 3) := by decide +kernel
theorem d14_law_1288 : decode m14_law.2.1 1288 = .ok (.if_icmp .eq 496, 3) := by decide +kernel
theorem d14_law_1291 : decode m14_law.2.1 1291 = .ok (.iconst 0, 1) := by decide +kernel
theorem d14_law_1292 : decode m14_law.2.1 1292 = .ok (.ireturn, 1) := by decide +kernel
theorem d14_law_1293 : decode m14_law.2.1 1293 = .ok (.aload_n 1, 1) := by decide +kernel
theorem d14_law_1294 : decode m14_law.2.1 1294 = .ok (.aload_n 0, 1) := by decide +kernel
theorem d14_law_1295 : decode m14_law.2.1 1295 = .ok (.iload_n 3, 1) := by decide +kernel
theorem d14_law_1296 : decode m14_law.2.1 1296 = .ok (.iconst 1, 1) := by decide +kernel
theorem d14_law_1297 : decode m14_law.2.1 1297 = .ok (.iadd, 1) := by decide +kernel
theorem d14_law_1298 : decode m14_law.2.1 1298 = .ok (.iaload, 1) := by decide +kernel
theorem d14_law_1299 : decode m14_law.2.1 1299 = .ok (.aload_n 0, 1) := by decide +kernel
theorem d14_law_1300 : decode m14_law.2.1 1300 = .ok (.iload_n 3, 1) := by decide +kernel
theorem d14_law_1301 : decode m14_law.2.1 1301 = .ok (.iconst 2, 1) := by decide +kernel
theorem d14_law_1302 : decode m14_law.2.1 1302 = .ok (.iadd, 1) := by decide +kernel
theorem d14_law_1303 : decode m14_law.2.1 1303 = .ok (.iaload, 1) := by decide +kernel
theorem d14_law_1304 : decode m14_law.2.1 1304 = .ok (.aload_n 0, 1) := by decide +kernel
theorem d14_law_1305 : decode m14_law.2.1 1305 = .ok (.iload_n 3, 1) := by decide +kernel
theorem d14_law_1306 : decode m14_law.2.1 1306 = .ok (.iconst 3, 1) := by decide +kernel
theorem d14_law_1307 : decode m14_law.2.1 1307 = .ok (.iadd, 1) := by decide +kernel
theorem d14_law_1308 : decode m14_law.2.1 1308 = .ok (.iaload, 1) := by decide +kernel
theorem d14_law_1309 : decode m14_law.2.1 1309 = .ok (.invokevirtual 109, 3) := by decide +kernel
theorem d14_law_1312 : decode m14_law.2.1 1312 = .ok (.aload_n 2, 1) := by decide +kernel
theorem d14_law_1313 : decode m14_law.2.1 1313 = .ok (.aload_n 0, 1) := by decide +kernel
theorem d14_law_1314 : decode m14_law.2.1 1314 = .ok (.iload_n 3, 1) := by decide +kernel
theorem d14_law_1315 : decode m14_law.2.1 1315 = .ok (.iconst 1, 1) := by decide +kernel
theorem d14_law_1316 : decode m14_law.2.1 1316 = .ok (.iadd, 1) := by decide +kernel
theorem d14_law_1317 : decode m14_law.2.1 1317 = .ok (.iaload, 1) := by decide +kernel
theorem d14_law_1318 : decode m14_law.2.1 1318 = .ok (.aload_n 0, 1) := by decide +kernel
theorem d14_law_1319 : decode m14_law.2.1 1319 = .ok (.iload_n 3, 1) := by decide +kernel
theorem d14_law_1320 : decode m14_law.2.1 1320 = .ok (.iconst 2, 1) := by decide +kernel
theorem d14_law_1321 : decode m14_law.2.1 1321 = .ok (.iadd, 1) := by decide +kernel
theorem d14_law_1322 : decode m14_law.2.1 1322 = .ok (.iaload, 1) := by decide +kernel
theorem d14_law_1323 : decode m14_law.2.1 1323 = .ok (.aload_n 0, 1) := by decide +kernel
theorem d14_law_1324 : decode m14_law.2.1 1324 = .ok (.iload_n 3, 1) := by decide +kernel
theorem d14_law_1325 : decode m14_law.2.1 1325 = .ok (.iconst 3, 1) := by decide +kernel
theorem d14_law_1326 : decode m14_law.2.1 1326 = .ok (.iadd, 1) := by decide +kernel
theorem d14_law_1327 : decode m14_law.2.1 1327 = .ok (.iaload, 1) := by decide +kernel
theorem d14_law_1328 : decode m14_law.2.1 1328 = .ok (.invokevirtual 112, 3) := by decide +kernel
theorem d14_law_1331 : decode m14_law.2.1 1331 = .ok (.if_icmp .eq 453, 3) := by decide +kernel
theorem d14_law_1334 : decode m14_law.2.1 1334 = .ok (.iconst 0, 1) := by decide +kernel
theorem d14_law_1335 : decode m14_law.2.1 1335 = .ok (.ireturn, 1) := by decide +kernel
theorem d14_law_1336 : decode m14_law.2.1 1336 = .ok (.aload_n 1, 1) := by decide +kernel
theorem d14_law_1337 : decode m14_law.2.1 1337 = .ok (.aload_n 0, 1) := by decide +kernel
theorem d14_law_1338 : decode m14_law.2.1 1338 = .ok (.iload_n 3, 1) := by decide +kernel
theorem d14_law_1339 : decode m14_law.2.1 1339 = .ok (.iconst 1, 1) := by decide +kernel
theorem d14_law_1340 : decode m14_law.2.1 1340 = .ok (.iadd, 1) := by decide +kernel
theorem d14_law_1341 : decode m14_law.2.1 1341 = .ok (.iaload, 1) := by decide +kernel
theorem d14_law_1342 : decode m14_law.2.1 1342 = .ok (.aload_n 0, 1) := by decide +kernel
theorem d14_law_1343 : decode m14_law.2.1 1343 = .ok (.iload_n 3, 1) := by decide +kernel
theorem d14_law_1344 : decode m14_law.2.1 1344 = .ok (.iconst 2, 1) := by decide +kernel
theorem d14_law_1345 : decode m14_law.2.1 1345 = .ok (.iadd, 1) := by decide +kernel
theorem d14_law_1346 : decode m14_law.2.1 1346 = .ok (.iaload, 1) := by decide +kernel
theorem d14_law_1347 : decode m14_law.2.1 1347 = .ok (.ifCond .eq 7, 3) := by decide +kernel
theorem d14_law_1350 : decode m14_law.2.1 1350 = .ok (.iconst 1, 1) := by decide +kernel
theorem d14_law_1351 : decode m14_law.2.1 1351 = .ok (.goto 4, 3) := by decide +kernel
theorem d14_law_1354 : decode m14_law.2.1 1354 = .ok (.iconst 0, 1) := by decide +kernel
theorem d14_law_1355 : decode m14_law.2.1 1355 = .ok (.invokevirtual 113, 3) := by decide +kernel
theorem d14_law_1358 : decode m14_law.2.1 1358 = .ok (.aload_n 2, 1) := by decide +kernel
theorem d14_law_1359 : decode m14_law.2.1 1359 = .ok (.aload_n 0, 1) := by decide +kernel
theorem d14_law_1360 : decode m14_law.2.1 1360 = .ok (.iload_n 3, 1) := by decide +kernel
theorem d14_law_1361 : decode m14_law.2.1 1361 = .ok (.iconst 1, 1) := by decide +kernel
theorem d14_law_1362 : decode m14_law.2.1 1362 = .ok (.iadd, 1) := by decide +kernel
theorem d14_law_1363 : decode m14_law.2.1 1363 = .ok (.iaload, 1) := by decide +kernel
theorem d14_law_1364 : decode m14_law.2.1 1364 = .ok (.aload_n 0, 1) := by decide +kernel
theorem d14_law_1365 : decode m14_law.2.1 1365 = .ok (.iload_n 3, 1) := by decide +kernel
theorem d14_law_1366 : decode m14_law.2.1 1366 = .ok (.iconst 2, 1) := by decide +kernel
theorem d14_law_1367 : decode m14_law.2.1 1367 = .ok (.iadd, 1) := by decide +kernel
theorem d14_law_1368 : decode m14_law.2.1 1368 = .ok (.iaload, 1) := by decide +kernel
theorem d14_law_1369 : decode m14_law.2.1 1369 = .ok (.ifCond .eq 7, 3) := by decide +kernel
theorem d14_law_1372 : decode m14_law.2.1 1372 = .ok (.iconst 1, 1) := by decide +kernel
theorem d14_law_1373 : decode m14_law.2.1 1373 = .ok (.goto 4, 3) := by decide +kernel
theorem d14_law_1376 : decode m14_law.2.1 1376 = .ok (.iconst 0, 1) := by decide +kernel
theorem d14_law_1377 : decode m14_law.2.1 1377 = .ok (.invokevirtual 117, 3) := by decide +kernel
theorem d14_law_1380 : decode m14_law.2.1 1380 = .ok (.if_icmp .eq 404, 3) := by decide +kernel
theorem d14_law_1383 : decode m14_law.2.1 1383 = .ok (.iconst 0, 1) := by decide +kernel
theorem d14_law_1384 : decode m14_law.2.1 1384 = .ok (.ireturn, 1) := by decide +kernel
theorem d14_law_1385 : decode m14_law.2.1 1385 = .ok (.aload_n 1, 1) := by decide +kernel
theorem d14_law_1386 : decode m14_law.2.1 1386 = .ok (.aload_n 0, 1) := by decide +kernel
theorem d14_law_1387 : decode m14_law.2.1 1387 = .ok (.iload_n 3, 1) := by decide +kernel
theorem d14_law_1388 : decode m14_law.2.1 1388 = .ok (.iconst 1, 1) := by decide +kernel
theorem d14_law_1389 : decode m14_law.2.1 1389 = .ok (.iadd, 1) := by decide +kernel
theorem d14_law_1390 : decode m14_law.2.1 1390 = .ok (.iaload, 1) := by decide +kernel
theorem d14_law_1391 : decode m14_law.2.1 1391 = .ok (.aload_n 0, 1) := by decide +kernel
theorem d14_law_1392 : decode m14_law.2.1 1392 = .ok (.iload_n 3, 1) := by decide +kernel
theorem d14_law_1393 : decode m14_law.2.1 1393 = .ok (.iconst 2, 1) := by decide +kernel
theorem d14_law_1394 : decode m14_law.2.1 1394 = .ok (.iadd, 1) := by decide +kernel
theorem d14_law_1395 : decode m14_law.2.1 1395 = .ok (.iaload, 1) := by decide +kernel
theorem d14_law_1396 : decode m14_law.2.1 1396 = .ok (.invokevirtual 118, 3) := by decide +kernel
theorem d14_law_1399 : decode m14_law.2.1 1399 = .ok (.aload_n 2, 1) := by decide +kernel
theorem d14_law_1400 : decode m14_law.2.1 1400 = .ok (.aload_n 0, 1) := by decide +kernel
theorem d14_law_1401 : decode m14_law.2.1 1401 = .ok (.iload_n 3, 1) := by decide +kernel
theorem d14_law_1402 : decode m14_law.2.1 1402 = .ok (.iconst 1, 1) := by decide +kernel
theorem d14_law_1403 : decode m14_law.2.1 1403 = .ok (.iadd, 1) := by decide +kernel
theorem d14_law_1404 : decode m14_law.2.1 1404 = .ok (.iaload, 1) := by decide +kernel
theorem d14_law_1405 : decode m14_law.2.1 1405 = .ok (.aload_n 0, 1) := by decide +kernel
theorem d14_law_1406 : decode m14_law.2.1 1406 = .ok (.iload_n 3, 1) := by decide +kernel
theorem d14_law_1407 : decode m14_law.2.1 1407 = .ok (.iconst 2, 1) := by decide +kernel
theorem d14_law_1408 : decode m14_law.2.1 1408 = .ok (.iadd, 1) := by decide +kernel
theorem d14_law_1409 : decode m14_law.2.1 1409 = .ok (.iaload, 1) := by decide +kernel
theorem d14_law_1410 : decode m14_law.2.1 1410 = .ok (.invokevirtual 121, 3) := by decide +kernel
theorem d14_law_1413 : decode m14_law.2.1 1413 = .ok (.if_icmp .eq 371, 3) := by decide +kernel
theorem d14_law_1416 : decode m14_law.2.1 1416 = .ok (.iconst 0, 1) := by decide +kernel
theorem d14_law_1417 : decode m14_law.2.1 1417 = .ok (.ireturn, 1) := by decide +kernel
theorem d14_law_1418 : decode m14_law.2.1 1418 = .ok (.aload_n 1, 1) := by decide +kernel
theorem d14_law_1419 : decode m14_law.2.1 1419 = .ok (.aload_n 0, 1) := by decide +kernel
theorem d14_law_1420 : decode m14_law.2.1 1420 = .ok (.iload_n 3, 1) := by decide +kernel
theorem d14_law_1421 : decode m14_law.2.1 1421 = .ok (.iconst 1, 1) := by decide +kernel
theorem d14_law_1422 : decode m14_law.2.1 1422 = .ok (.iadd, 1) := by decide +kernel
theorem d14_law_1423 : decode m14_law.2.1 1423 = .ok (.iaload, 1) := by decide +kernel
theorem d14_law_1424 : decode m14_law.2.1 1424 = .ok (.aload_n 0, 1) := by decide +kernel
theorem d14_law_1425 : decode m14_law.2.1 1425 = .ok (.iload_n 3, 1) := by decide +kernel
theorem d14_law_1426 : decode m14_law.2.1 1426 = .ok (.iconst 2, 1) := by decide +kernel
theorem d14_law_1427 : decode m14_law.2.1 1427 = .ok (.iadd, 1) := by decide +kernel
theorem d14_law_1428 : decode m14_law.2.1 1428 = .ok (.iaload, 1) := by decide +kernel
theorem d14_law_1429 : decode m14_law.2.1 1429 = .ok (.invokevirtual 122, 3) := by decide +kernel
theorem d14_law_1432 : decode m14_law.2.1 1432 = .ok (.aload_n 2, 1) := by decide +kernel
theorem d14_law_1433 : decode m14_law.2.1 1433 = .ok (.aload_n 0, 1) := by decide +kernel
theorem d14_law_1434 : decode m14_law.2.1 1434 = .ok (.iload_n 3, 1) := by decide +kernel
theorem d14_law_1435 : decode m14_law.2.1 1435 = .ok (.iconst 1, 1) := by decide +kernel
theorem d14_law_1436 : decode m14_law.2.1 1436 = .ok (.iadd, 1) := by decide +kernel
theorem d14_law_1437 : decode m14_law.2.1 1437 = .ok (.iaload, 1) := by decide +kernel
theorem d14_law_1438 : decode m14_law.2.1 1438 = .ok (.aload_n 0, 1) := by decide +kernel
theorem d14_law_1439 : decode m14_law.2.1 1439 = .ok (.iload_n 3, 1) := by decide +kernel
theorem d14_law_1440 : decode m14_law.2.1 1440 = .ok (.iconst 2, 1) := by decide +kernel
theorem d14_law_1441 : decode m14_law.2.1 1441 = .ok (.iadd, 1) := by decide +kernel
theorem d14_law_1442 : decode m14_law.2.1 1442 = .ok (.iaload, 1) := by decide +kernel
theorem d14_law_1443 : decode m14_law.2.1 1443 = .ok (.invokevirtual 125, 3) := by decide +kernel
theorem d14_law_1446 : decode m14_law.2.1 1446 = .ok (.if_icmp .eq 338, 3) := by decide +kernel
theorem d14_law_1449 : decode m14_law.2.1 1449 = .ok (.iconst 0, 1) := by decide +kernel
theorem d14_law_1450 : decode m14_law.2.1 1450 = .ok (.ireturn, 1) := by decide +kernel
theorem d14_law_1451 : decode m14_law.2.1 1451 = .ok (.aload_n 1, 1) := by decide +kernel
theorem d14_law_1452 : decode m14_law.2.1 1452 = .ok (.aload_n 0, 1) := by decide +kernel
theorem d14_law_1453 : decode m14_law.2.1 1453 = .ok (.iload_n 3, 1) := by decide +kernel
theorem d14_law_1454 : decode m14_law.2.1 1454 = .ok (.iconst 1, 1) := by decide +kernel
theorem d14_law_1455 : decode m14_law.2.1 1455 = .ok (.iadd, 1) := by decide +kernel
theorem d14_law_1456 : decode m14_law.2.1 1456 = .ok (.iaload, 1) := by decide +kernel
theorem d14_law_1457 : decode m14_law.2.1 1457 = .ok (.aload_n 0, 1) := by decide +kernel
theorem d14_law_1458 : decode m14_law.2.1 1458 = .ok (.iload_n 3, 1) := by decide +kernel
theorem d14_law_1459 : decode m14_law.2.1 1459 = .ok (.iconst 2, 1) := by decide +kernel
theorem d14_law_1460 : decode m14_law.2.1 1460 = .ok (.iadd, 1) := by decide +kernel
theorem d14_law_1461 : decode m14_law.2.1 1461 = .ok (.iaload, 1) := by decide +kernel
theorem d14_law_1462 : decode m14_law.2.1 1462 = .ok (.aload_n 0, 1) := by decide +kernel
theorem d14_law_1463 : decode m14_law.2.1 1463 = .ok (.iload_n 3, 1) := by decide +kernel
theorem d14_law_1464 : decode m14_law.2.1 1464 = .ok (.iconst 3, 1) := by decide +kernel
theorem d14_law_1465 : decode m14_law.2.1 1465 = .ok (.iadd, 1) := by decide +kernel
theorem d14_law_1466 : decode m14_law.2.1 1466 = .ok (.iaload, 1) := by decide +kernel
theorem d14_law_1467 : decode m14_law.2.1 1467 = .ok (.ifCond .eq 7, 3) := by decide +kernel
theorem d14_law_1470 : decode m14_law.2.1 1470 = .ok (.iconst 1, 1) := by decide +kernel
theorem d14_law_1471 : decode m14_law.2.1 1471 = .ok (.goto 4, 3) := by decide +kernel
theorem d14_law_1474 : decode m14_law.2.1 1474 = .ok (.iconst 0, 1) := by decide +kernel
theorem d14_law_1475 : decode m14_law.2.1 1475 = .ok (.invokevirtual 126, 3) := by decide +kernel
theorem d14_law_1478 : decode m14_law.2.1 1478 = .ok (.aload_n 2, 1) := by decide +kernel
theorem d14_law_1479 : decode m14_law.2.1 1479 = .ok (.aload_n 0, 1) := by decide +kernel
theorem d14_law_1480 : decode m14_law.2.1 1480 = .ok (.iload_n 3, 1) := by decide +kernel
theorem d14_law_1481 : decode m14_law.2.1 1481 = .ok (.iconst 1, 1) := by decide +kernel
theorem d14_law_1482 : decode m14_law.2.1 1482 = .ok (.iadd, 1) := by decide +kernel
theorem d14_law_1483 : decode m14_law.2.1 1483 = .ok (.iaload, 1) := by decide +kernel
theorem d14_law_1484 : decode m14_law.2.1 1484 = .ok (.aload_n 0, 1) := by decide +kernel
theorem d14_law_1485 : decode m14_law.2.1 1485 = .ok (.iload_n 3, 1) := by decide +kernel
theorem d14_law_1486 : decode m14_law.2.1 1486 = .ok (.iconst 2, 1) := by decide +kernel
theorem d14_law_1487 : decode m14_law.2.1 1487 = .ok (.iadd, 1) := by decide +kernel
theorem d14_law_1488 : decode m14_law.2.1 1488 = .ok (.iaload, 1) := by decide +kernel
theorem d14_law_1489 : decode m14_law.2.1 1489 = .ok (.aload_n 0, 1) := by decide +kernel
theorem d14_law_1490 : decode m14_law.2.1 1490 = .ok (.iload_n 3, 1) := by decide +kernel
theorem d14_law_1491 : decode m14_law.2.1 1491 = .ok (.iconst 3, 1) := by decide +kernel
theorem d14_law_1492 : decode m14_law.2.1 1492 = .ok (.iadd, 1) := by decide +kernel
theorem d14_law_1493 : decode m14_law.2.1 1493 = .ok (.iaload, 1) := by decide +kernel
theorem d14_law_1494 : decode m14_law.2.1 1494 = .ok (.ifCond .eq 7, 3) := by decide +kernel
theorem d14_law_1497 : decode m14_law.2.1 1497 = .ok (.iconst 1, 1) := by decide +kernel
theorem d14_law_1498 : decode m14_law.2.1 1498 = .ok (.goto 4, 3) := by decide +kernel
theorem d14_law_1501 : decode m14_law.2.1 1501 = .ok (.iconst 0, 1) := by decide +kernel
theorem d14_law_1502 : decode m14_law.2.1 1502 = .ok (.invokevirtual 130, 3) := by decide +kernel
theorem d14_law_1505 : decode m14_law.2.1 1505 = .ok (.lcmp, 1) := by decide +kernel
theorem d14_law_1506 : decode m14_law.2.1 1506 = .ok (.ifCond .eq 278, 3) := by decide +kernel
theorem d14_law_1509 : decode m14_law.2.1 1509 = .ok (.iconst 0, 1) := by decide +kernel
theorem d14_law_1510 : decode m14_law.2.1 1510 = .ok (.ireturn, 1) := by decide +kernel
theorem d14_law_1511 : decode m14_law.2.1 1511 = .ok (.aload_n 1, 1) := by decide +kernel
theorem d14_law_1512 : decode m14_law.2.1 1512 = .ok (.aload_n 0, 1) := by decide +kernel
theorem d14_law_1513 : decode m14_law.2.1 1513 = .ok (.iload_n 3, 1) := by decide +kernel
theorem d14_law_1514 : decode m14_law.2.1 1514 = .ok (.iconst 1, 1) := by decide +kernel
theorem d14_law_1515 : decode m14_law.2.1 1515 = .ok (.iadd, 1) := by decide +kernel
theorem d14_law_1516 : decode m14_law.2.1 1516 = .ok (.iaload, 1) := by decide +kernel
theorem d14_law_1517 : decode m14_law.2.1 1517 = .ok (.aload_n 0, 1) := by decide +kernel
theorem d14_law_1518 : decode m14_law.2.1 1518 = .ok (.iload_n 3, 1) := by decide +kernel
theorem d14_law_1519 : decode m14_law.2.1 1519 = .ok (.iconst 2, 1) := by decide +kernel
theorem d14_law_1520 : decode m14_law.2.1 1520 = .ok (.iadd, 1) := by decide +kernel
theorem d14_law_1521 : decode m14_law.2.1 1521 = .ok (.iaload, 1) := by decide +kernel
theorem d14_law_1522 : decode m14_law.2.1 1522 = .ok (.aload_n 0, 1) := by decide +kernel
theorem d14_law_1523 : decode m14_law.2.1 1523 = .ok (.iload_n 3, 1) := by decide +kernel
theorem d14_law_1524 : decode m14_law.2.1 1524 = .ok (.iconst 3, 1) := by decide +kernel
theorem d14_law_1525 : decode m14_law.2.1 1525 = .ok (.iadd, 1) := by decide +kernel
theorem d14_law_1526 : decode m14_law.2.1 1526 = .ok (.iaload, 1) := by decide +kernel
theorem d14_law_1527 : decode m14_law.2.1 1527 = .ok (.invokevirtual 131, 3) := by decide +kernel
theorem d14_law_1530 : decode m14_law.2.1 1530 = .ok (.aload_n 2, 1) := by decide +kernel
theorem d14_law_1531 : decode m14_law.2.1 1531 = .ok (.aload_n 0, 1) := by decide +kernel
theorem d14_law_1532 : decode m14_law.2.1 1532 = .ok (.iload_n 3, 1) := by decide +kernel
theorem d14_law_1533 : decode m14_law.2.1 1533 = .ok (.iconst 1, 1) := by decide +kernel
theorem d14_law_1534 : decode m14_law.2.1 1534 = .ok (.iadd, 1) := by decide +kernel
theorem d14_law_1535 : decode m14_law.2.1 1535 = .ok (.iaload, 1) := by decide +kernel
theorem d14_law_1536 : decode m14_law.2.1 1536 = .ok (.aload_n 0, 1) := by decide +kernel
theorem d14_law_1537 : decode m14_law.2.1 1537 = .ok (.iload_n 3, 1) := by decide +kernel
theorem d14_law_1538 : decode m14_law.2.1 1538 = .ok (.iconst 2, 1) := by decide +kernel
theorem d14_law_1539 : decode m14_law.2.1 1539 = .ok (.iadd, 1) := by decide +kernel
theorem d14_law_1540 : decode m14_law.2.1 1540 = .ok (.iaload, 1) := by decide +kernel
theorem d14_law_1541 : decode m14_law.2.1 1541 = .ok (.aload_n 0, 1) := by decide +kernel
theorem d14_law_1542 : decode m14_law.2.1 1542 = .ok (.iload_n 3, 1) := by decide +kernel
theorem d14_law_1543 : decode m14_law.2.1 1543 = .ok (.iconst 3, 1) := by decide +kernel
theorem d14_law_1544 : decode m14_law.2.1 1544 = .ok (.iadd, 1) := by decide +kernel
theorem d14_law_1545 : decode m14_law.2.1 1545 = .ok (.iaload, 1) := by decide +kernel
theorem d14_law_1546 : decode m14_law.2.1 1546 = .ok (.invokevirtual 134, 3) := by decide +kernel
theorem d14_law_1549 : decode m14_law.2.1 1549 = .ok (.if_icmp .eq 235, 3) := by decide +kernel
theorem d14_law_1552 : decode m14_law.2.1 1552 = .ok (.iconst 0, 1) := by decide +kernel
theorem d14_law_1553 : decode m14_law.2.1 1553 = .ok (.ireturn, 1) := by decide +kernel
theorem d14_law_1554 : decode m14_law.2.1 1554 = .ok (.aload_n 1, 1) := by decide +kernel
theorem d14_law_1555 : decode m14_law.2.1 1555 = .ok (.aload_n 0, 1) := by decide +kernel
theorem d14_law_1556 : decode m14_law.2.1 1556 = .ok (.iload_n 3, 1) := by decide +kernel
theorem d14_law_1557 : decode m14_law.2.1 1557 = .ok (.iconst 1, 1) := by decide +kernel
theorem d14_law_1558 : decode m14_law.2.1 1558 = .ok (.iadd, 1) := by decide +kernel
theorem d14_law_1559 : decode m14_law.2.1 1559 = .ok (.iaload, 1) := by decide +kernel
theorem d14_law_1560 : decode m14_law.2.1 1560 = .ok (.aload_n 0, 1) := by decide +kernel
theorem d14_law_1561 : decode m14_law.2.1 1561 = .ok (.iload_n 3, 1) := by decide +kernel
theorem d14_law_1562 : decode m14_law.2.1 1562 = .ok (.iconst 2, 1) := by decide +kernel
theorem d14_law_1563 : decode m14_law.2.1 1563 = .ok (.iadd, 1) := by decide +kernel
theorem d14_law_1564 : decode m14_law.2.1 1564 = .ok (.iaload, 1) := by decide +kernel
theorem d14_law_1565 : decode m14_law.2.1 1565 = .ok (.aload_n 0, 1) := by decide +kernel
theorem d14_law_1566 : decode m14_law.2.1 1566 = .ok (.iload_n 3, 1) := by decide +kernel
theorem d14_law_1567 : decode m14_law.2.1 1567 = .ok (.iconst 3, 1) := by decide +kernel
theorem d14_law_1568 : decode m14_law.2.1 1568 = .ok (.iadd, 1) := by decide +kernel
theorem d14_law_1569 : decode m14_law.2.1 1569 = .ok (.iaload, 1) := by decide +kernel
theorem d14_law_1570 : decode m14_law.2.1 1570 = .ok (.aload_n 0, 1) := by decide +kernel
theorem d14_law_1571 : decode m14_law.2.1 1571 = .ok (.iload_n 3, 1) := by decide +kernel
theorem d14_law_1572 : decode m14_law.2.1 1572 = .ok (.iconst 4, 1) := by decide +kernel
theorem d14_law_1573 : decode m14_law.2.1 1573 = .ok (.iadd, 1) := by decide +kernel
theorem d14_law_1574 : decode m14_law.2.1 1574 = .ok (.iaload, 1) := by decide +kernel
theorem d14_law_1575 : decode m14_law.2.1 1575 = .ok (.aload_n 0, 1) := by decide +kernel
theorem d14_law_1576 : decode m14_law.2.1 1576 = .ok (.iload_n 3, 1) := by decide +kernel
theorem d14_law_1577 : decode m14_law.2.1 1577 = .ok (.iconst 5, 1) := by decide +kernel
theorem d14_law_1578 : decode m14_law.2.1 1578 = .ok (.iadd, 1) := by decide +kernel
theorem d14_law_1579 : decode m14_law.2.1 1579 = .ok (.iaload, 1) := by decide +kernel
theorem d14_law_1580 : decode m14_law.2.1 1580 = .ok (.ifCond .eq 7, 3) := by decide +kernel
theorem d14_law_1583 : decode m14_law.2.1 1583 = .ok (.iconst 1, 1) := by decide +kernel
theorem d14_law_1584 : decode m14_law.2.1 1584 = .ok (.goto 4, 3) := by decide +kernel
theorem d14_law_1587 : decode m14_law.2.1 1587 = .ok (.iconst 0, 1) := by decide +kernel
theorem d14_law_1588 : decode m14_law.2.1 1588 = .ok (.invokevirtual 135, 3) := by decide +kernel
theorem d14_law_1591 : decode m14_law.2.1 1591 = .ok (.aload_n 2, 1) := by decide +kernel
theorem d14_law_1592 : decode m14_law.2.1 1592 = .ok (.aload_n 0, 1) := by decide +kernel
theorem d14_law_1593 : decode m14_law.2.1 1593 = .ok (.iload_n 3, 1) := by decide +kernel
theorem d14_law_1594 : decode m14_law.2.1 1594 = .ok (.iconst 1, 1) := by decide +kernel
theorem d14_law_1595 : decode m14_law.2.1 1595 = .ok (.iadd, 1) := by decide +kernel
theorem d14_law_1596 : decode m14_law.2.1 1596 = .ok (.iaload, 1) := by decide +kernel
theorem d14_law_1597 : decode m14_law.2.1 1597 = .ok (.aload_n 0, 1) := by decide +kernel
theorem d14_law_1598 : decode m14_law.2.1 1598 = .ok (.iload_n 3, 1) := by decide +kernel
theorem d14_law_1599 : decode m14_law.2.1 1599 = .ok (.iconst 2, 1) := by decide +kernel
theorem d14_law_1600 : decode m14_law.2.1 1600 = .ok (.iadd, 1) := by decide +kernel
theorem d14_law_1601 : decode m14_law.2.1 1601 = .ok (.iaload, 1) := by decide +kernel
theorem d14_law_1602 : decode m14_law.2.1 1602 = .ok (.aload_n 0, 1) := by decide +kernel
theorem d14_law_1603 : decode m14_law.2.1 1603 = .ok (.iload_n 3, 1) := by decide +kernel
theorem d14_law_1604 : decode m14_law.2.1 1604 = .ok (.iconst 3, 1) := by decide +kernel
theorem d14_law_1605 : decode m14_law.2.1 1605 = .ok (.iadd, 1) := by decide +kernel
theorem d14_law_1606 : decode m14_law.2.1 1606 = .ok (.iaload, 1) := by decide +kernel
theorem d14_law_1607 : decode m14_law.2.1 1607 = .ok (.aload_n 0, 1) := by decide +kernel
theorem d14_law_1608 : decode m14_law.2.1 1608 = .ok (.iload_n 3, 1) := by decide +kernel
theorem d14_law_1609 : decode m14_law.2.1 1609 = .ok (.iconst 4, 1) := by decide +kernel
theorem d14_law_1610 : decode m14_law.2.1 1610 = .ok (.iadd, 1) := by decide +kernel
theorem d14_law_1611 : decode m14_law.2.1 1611 = .ok (.iaload, 1) := by decide +kernel
theorem d14_law_1612 : decode m14_law.2.1 1612 = .ok (.aload_n 0, 1) := by decide +kernel
theorem d14_law_1613 : decode m14_law.2.1 1613 = .ok (.iload_n 3, 1) := by decide +kernel
theorem d14_law_1614 : decode m14_law.2.1 1614 = .ok (.iconst 5, 1) := by decide +kernel
theorem d14_law_1615 : decode m14_law.2.1 1615 = .ok (.iadd, 1) := by decide +kernel
theorem d14_law_1616 : decode m14_law.2.1 1616 = .ok (.iaload, 1) := by decide +kernel
theorem d14_law_1617 : decode m14_law.2.1 1617 = .ok (.ifCond .eq 7, 3) := by decide +kernel
theorem d14_law_1620 : decode m14_law.2.1 1620 = .ok (.iconst 1, 1) := by decide +kernel
theorem d14_law_1621 : decode m14_law.2.1 1621 = .ok (.goto 4, 3) := by decide +kernel
theorem d14_law_1624 : decode m14_law.2.1 1624 = .ok (.iconst 0, 1) := by decide +kernel
theorem d14_law_1625 : decode m14_law.2.1 1625 = .ok (.invokevirtual 138, 3) := by decide +kernel
theorem d14_law_1628 : decode m14_law.2.1 1628 = .ok (.if_icmp .eq 156, 3) := by decide +kernel
theorem d14_law_1631 : decode m14_law.2.1 1631 = .ok (.iconst 0, 1) := by decide +kernel
theorem d14_law_1632 : decode m14_law.2.1 1632 = .ok (.ireturn, 1) := by decide +kernel
theorem d14_law_1633 : decode m14_law.2.1 1633 = .ok (.aload_n 1, 1) := by decide +kernel
theorem d14_law_1634 : decode m14_law.2.1 1634 = .ok (.aload_n 0, 1) := by decide +kernel
theorem d14_law_1635 : decode m14_law.2.1 1635 = .ok (.iload_n 3, 1) := by decide +kernel
theorem d14_law_1636 : decode m14_law.2.1 1636 = .ok (.iconst 1, 1) := by decide +kernel
theorem d14_law_1637 : decode m14_law.2.1 1637 = .ok (.iadd, 1) := by decide +kernel
theorem d14_law_1638 : decode m14_law.2.1 1638 = .ok (.iaload, 1) := by decide +kernel
theorem d14_law_1639 : decode m14_law.2.1 1639 = .ok (.aload_n 0, 1) := by decide +kernel
theorem d14_law_1640 : decode m14_law.2.1 1640 = .ok (.iload_n 3, 1) := by decide +kernel
theorem d14_law_1641 : decode m14_law.2.1 1641 = .ok (.iconst 2, 1) := by decide +kernel
theorem d14_law_1642 : decode m14_law.2.1 1642 = .ok (.iadd, 1) := by decide +kernel
theorem d14_law_1643 : decode m14_law.2.1 1643 = .ok (.iaload, 1) := by decide +kernel
theorem d14_law_1644 : decode m14_law.2.1 1644 = .ok (.aload_n 0, 1) := by decide +kernel
theorem d14_law_1645 : decode m14_law.2.1 1645 = .ok (.iload_n 3, 1) := by decide +kernel
theorem d14_law_1646 : decode m14_law.2.1 1646 = .ok (.iconst 3, 1) := by decide +kernel
theorem d14_law_1647 : decode m14_law.2.1 1647 = .ok (.iadd, 1) := by decide +kernel
theorem d14_law_1648 : decode m14_law.2.1 1648 = .ok (.iaload, 1) := by decide +kernel
theorem d14_law_1649 : decode m14_law.2.1 1649 = .ok (.ifCond .eq 7, 3) := by decide +kernel
theorem d14_law_1652 : decode m14_law.2.1 1652 = .ok (.iconst 1, 1) := by decide +kernel
theorem d14_law_1653 : decode m14_law.2.1 1653 = .ok (.goto 4, 3) := by decide +kernel
theorem d14_law_1656 : decode m14_law.2.1 1656 = .ok (.iconst 0, 1) := by decide +kernel
theorem d14_law_1657 : decode m14_law.2.1 1657 = .ok (.invokevirtual 139, 3) := by decide +kernel
theorem d14_law_1660 : decode m14_law.2.1 1660 = .ok (.aload_n 2, 1) := by decide +kernel
theorem d14_law_1661 : decode m14_law.2.1 1661 = .ok (.aload_n 0, 1) := by decide +kernel
theorem d14_law_1662 : decode m14_law.2.1 1662 = .ok (.iload_n 3, 1) := by decide +kernel
theorem d14_law_1663 : decode m14_law.2.1 1663 = .ok (.iconst 1, 1) := by decide +kernel
theorem d14_law_1664 : decode m14_law.2.1 1664 = .ok (.iadd, 1) := by decide +kernel
theorem d14_law_1665 : decode m14_law.2.1 1665 = .ok (.iaload, 1) := by decide +kernel
theorem d14_law_1666 : decode m14_law.2.1 1666 = .ok (.aload_n 0, 1) := by decide +kernel
theorem d14_law_1667 : decode m14_law.2.1 1667 = .ok (.iload_n 3, 1) := by decide +kernel
theorem d14_law_1668 : decode m14_law.2.1 1668 = .ok (.iconst 2, 1) := by decide +kernel
theorem d14_law_1669 : decode m14_law.2.1 1669 = .ok (.iadd, 1) := by decide +kernel
theorem d14_law_1670 : decode m14_law.2.1 1670 = .ok (.iaload, 1) := by decide +kernel
theorem d14_law_1671 : decode m14_law.2.1 1671 = .ok (.aload_n 0, 1) := by decide +kernel
theorem d14_law_1672 : decode m14_law.2.1 1672 = .ok (.iload_n 3, 1) := by decide +kernel
theorem d14_law_1673 : decode m14_law.2.1 1673 = .ok (.iconst 3, 1) := by decide +kernel
theorem d14_law_1674 : decode m14_law.2.1 1674 = .ok (.iadd, 1) := by decide +kernel
theorem d14_law_1675 : decode m14_law.2.1 1675 = .ok (.iaload, 1) := by decide +kernel
theorem d14_law_1676 : decode m14_law.2.1 1676 = .ok (.ifCond .eq 7, 3) := by decide +kernel
theorem d14_law_1679 : decode m14_law.2.1 1679 = .ok (.iconst 1, 1) := by decide +kernel
theorem d14_law_1680 : decode m14_law.2.1 1680 = .ok (.goto 4, 3) := by decide +kernel
theorem d14_law_1683 : decode m14_law.2.1 1683 = .ok (.iconst 0, 1) := by decide +kernel
theorem d14_law_1684 : decode m14_law.2.1 1684 = .ok (.invokevirtual 143, 3) := by decide +kernel
theorem d14_law_1687 : decode m14_law.2.1 1687 = .ok (.if_icmp .eq 97, 3) := by decide +kernel
theorem d14_law_1690 : decode m14_law.2.1 1690 = .ok (.iconst 0, 1) := by decide +kernel
theorem d14_law_1691 : decode m14_law.2.1 1691 = .ok (.ireturn, 1) := by decide +kernel
theorem d14_law_1692 : decode m14_law.2.1 1692 = .ok (.aload_n 1, 1) := by decide +kernel
theorem d14_law_1693 : decode m14_law.2.1 1693 = .ok (.aload_n 0, 1) := by decide +kernel
theorem d14_law_1694 : decode m14_law.2.1 1694 = .ok (.iload_n 3, 1) := by decide +kernel
theorem d14_law_1695 : decode m14_law.2.1 1695 = .ok (.iconst 1, 1) := by decide +kernel
theorem d14_law_1696 : decode m14_law.2.1 1696 = .ok (.iadd, 1) := by decide +kernel
theorem d14_law_1697 : decode m14_law.2.1 1697 = .ok (.iaload, 1) := by decide +kernel
theorem d14_law_1698 : decode m14_law.2.1 1698 = .ok (.invokevirtual 144, 3) := by decide +kernel
theorem d14_law_1701 : decode m14_law.2.1 1701 = .ok (.aload_n 2, 1) := by decide +kernel
theorem d14_law_1702 : decode m14_law.2.1 1702 = .ok (.aload_n 0, 1) := by decide +kernel
theorem d14_law_1703 : decode m14_law.2.1 1703 = .ok (.iload_n 3, 1) := by decide +kernel
theorem d14_law_1704 : decode m14_law.2.1 1704 = .ok (.iconst 1, 1) := by decide +kernel
theorem d14_law_1705 : decode m14_law.2.1 1705 = .ok (.iadd, 1) := by decide +kernel
theorem d14_law_1706 : decode m14_law.2.1 1706 = .ok (.iaload, 1) := by decide +kernel
theorem d14_law_1707 : decode m14_law.2.1 1707 = .ok (.invokevirtual 147, 3) := by decide +kernel
theorem d14_law_1710 : decode m14_law.2.1 1710 = .ok (.if_icmp .eq 74, 3) := by decide +kernel
theorem d14_law_1713 : decode m14_law.2.1 1713 = .ok (.iconst 0, 1) := by decide +kernel
theorem d14_law_1714 : decode m14_law.2.1 1714 = .ok (.ireturn, 1) := by decide +kernel
theorem d14_law_1715 : decode m14_law.2.1 1715 = .ok (.aload_n 1, 1) := by decide +kernel
theorem d14_law_1716 : decode m14_law.2.1 1716 = .ok (.aload_n 0, 1) := by decide +kernel
theorem d14_law_1717 : decode m14_law.2.1 1717 = .ok (.iload_n 3, 1) := by decide +kernel
theorem d14_law_1718 : decode m14_law.2.1 1718 = .ok (.iconst 1, 1) := by decide +kernel
theorem d14_law_1719 : decode m14_law.2.1 1719 = .ok (.iadd, 1) := by decide +kernel
theorem d14_law_1720 : decode m14_law.2.1 1720 = .ok (.iaload, 1) := by decide +kernel
theorem d14_law_1721 : decode m14_law.2.1 1721 = .ok (.invokevirtual 148, 3) := by decide +kernel
theorem d14_law_1724 : decode m14_law.2.1 1724 = .ok (.aload_n 2, 1) := by decide +kernel
theorem d14_law_1725 : decode m14_law.2.1 1725 = .ok (.aload_n 0, 1) := by decide +kernel
theorem d14_law_1726 : decode m14_law.2.1 1726 = .ok (.iload_n 3, 1) := by decide +kernel
theorem d14_law_1727 : decode m14_law.2.1 1727 = .ok (.iconst 1, 1) := by decide +kernel
theorem d14_law_1728 : decode m14_law.2.1 1728 = .ok (.iadd, 1) := by decide +kernel
theorem d14_law_1729 : decode m14_law.2.1 1729 = .ok (.iaload, 1) := by decide +kernel
theorem d14_law_1730 : decode m14_law.2.1 1730 = .ok (.invokevirtual 151, 3) := by decide +kernel
theorem d14_law_1733 : decode m14_law.2.1 1733 = .ok (.if_icmp .eq 51, 3) := by decide +kernel
theorem d14_law_1736 : decode m14_law.2.1 1736 = .ok (.iconst 0, 1) := by decide +kernel
theorem d14_law_1737 : decode m14_law.2.1 1737 = .ok (.ireturn, 1) := by decide +kernel
theorem d14_law_1738 : decode m14_law.2.1 1738 = .ok (.aload_n 1, 1) := by decide +kernel
theorem d14_law_1739 : decode m14_law.2.1 1739 = .ok (.aload_n 0, 1) := by decide +kernel
theorem d14_law_1740 : decode m14_law.2.1 1740 = .ok (.iload_n 3, 1) := by decide +kernel
theorem d14_law_1741 : decode m14_law.2.1 1741 = .ok (.iconst 1, 1) := by decide +kernel
theorem d14_law_1742 : decode m14_law.2.1 1742 = .ok (.iadd, 1) := by decide +kernel
theorem d14_law_1743 : decode m14_law.2.1 1743 = .ok (.iaload, 1) := by decide +kernel
theorem d14_law_1744 : decode m14_law.2.1 1744 = .ok (.invokevirtual 152, 3) := by decide +kernel
theorem d14_law_1747 : decode m14_law.2.1 1747 = .ok (.aload_n 2, 1) := by decide +kernel
theorem d14_law_1748 : decode m14_law.2.1 1748 = .ok (.aload_n 0, 1) := by decide +kernel
theorem d14_law_1749 : decode m14_law.2.1 1749 = .ok (.iload_n 3, 1) := by decide +kernel
theorem d14_law_1750 : decode m14_law.2.1 1750 = .ok (.iconst 1, 1) := by decide +kernel
theorem d14_law_1751 : decode m14_law.2.1 1751 = .ok (.iadd, 1) := by decide +kernel
theorem d14_law_1752 : decode m14_law.2.1 1752 = .ok (.iaload, 1) := by decide +kernel
theorem d14_law_1753 : decode m14_law.2.1 1753 = .ok (.invokevirtual 156, 3) := by decide +kernel
theorem d14_law_1756 : decode m14_law.2.1 1756 = .ok (.if_icmp .eq 28, 3) := by decide +kernel
theorem d14_law_1759 : decode m14_law.2.1 1759 = .ok (.iconst 0, 1) := by decide +kernel
theorem d14_law_1760 : decode m14_law.2.1 1760 = .ok (.ireturn, 1) := by decide +kernel
theorem d14_law_1761 : decode m14_law.2.1 1761 = .ok (.aload_n 1, 1) := by decide +kernel
theorem d14_law_1762 : decode m14_law.2.1 1762 = .ok (.aload_n 0, 1) := by decide +kernel
theorem d14_law_1763 : decode m14_law.2.1 1763 = .ok (.iload_n 3, 1) := by decide +kernel
theorem d14_law_1764 : decode m14_law.2.1 1764 = .ok (.iconst 1, 1) := by decide +kernel
theorem d14_law_1765 : decode m14_law.2.1 1765 = .ok (.iadd, 1) := by decide +kernel
theorem d14_law_1766 : decode m14_law.2.1 1766 = .ok (.iaload, 1) := by decide +kernel
theorem d14_law_1767 : decode m14_law.2.1 1767 = .ok (.invokevirtual 157, 3) := by decide +kernel
theorem d14_law_1770 : decode m14_law.2.1 1770 = .ok (.aload_n 2, 1) := by decide +kernel
theorem d14_law_1771 : decode m14_law.2.1 1771 = .ok (.aload_n 0, 1) := by decide +kernel
theorem d14_law_1772 : decode m14_law.2.1 1772 = .ok (.iload_n 3, 1) := by decide +kernel
theorem d14_law_1773 : decode m14_law.2.1 1773 = .ok (.iconst 1, 1) := by decide +kernel
theorem d14_law_1774 : decode m14_law.2.1 1774 = .ok (.iadd, 1) := by decide +kernel
theorem d14_law_1775 : decode m14_law.2.1 1775 = .ok (.iaload, 1) := by decide +kernel
theorem d14_law_1776 : decode m14_law.2.1 1776 = .ok (.invokevirtual 160, 3) := by decide +kernel
theorem d14_law_1779 : decode m14_law.2.1 1779 = .ok (.if_icmp .eq 5, 3) := by decide +kernel
theorem d14_law_1782 : decode m14_law.2.1 1782 = .ok (.iconst 0, 1) := by decide +kernel
theorem d14_law_1783 : decode m14_law.2.1 1783 = .ok (.ireturn, 1) := by decide +kernel
theorem d14_law_1784 : decode m14_law.2.1 1784 = .ok (.iinc 3 7, 3) := by decide +kernel
theorem d14_law_1787 : decode m14_law.2.1 1787 = .ok (.goto (-1769), 3) := by decide +kernel
theorem d14_law_1790 : decode m14_law.2.1 1790 = .ok (.iconst 1, 1) := by decide +kernel
theorem d14_law_1791 : decode m14_law.2.1 1791 = .ok (.ireturn, 1) := by decide +kernel
def b14_law_1784 (G : Geo) (rec18 : Int × AH → Option (Int × AH)) (x3 : Int) (h : AH) : Option (Int × AH) :=
  rec18 ((x3 + 7), h)
set_option maxRecDepth 100000 in
theorem t14_law_1784 (l : Launch) (G : Geo) (d : Nat) (hd : 16 ≤ d) (x3 : Int) (rec18 : Int × AH → Option (Int × AH)) (H18 : ∀ (x3 : Int) (h : AH), Den l G m14_law rvI d 18 [some (vS G 25), some (vA G 0), some (vA G 69), some (vI x3)] [] h (rec18 (x3, h))) (h : AH) : Den l G m14_law rvI d 1784 [some (vS G 25), some (vA G 0), some (vA G 69), some (vI x3)] [] h (b14_law_1784 G rec18 x3 h) := by
  unfold b14_law_1784
  refine den_iinc (pc := 1784) (L2 := [some (vS G 25), some (vA G 0), some (vA G 69), some (vI (x3 + 7))]) d14_law_1784 (by decide) rfl rfl ?_
  refine den_goto (pc := 1787) (tgt := 18) d14_law_1787 (by decide) ?_
  exact H18 (x3 + 7) h
def b14_law_184 (G : Geo) (rec18 : Int × AH → Option (Int × AH)) (x3 : Int) (h : AH) : Option (Int × AH) :=
  asrt (0 ≤ w32 (x3 + 1) ∧ w32 (x3 + 1) < ((G.2.1 26 : Nat) : Int)) <|
  asrt (0 ≤ w32 (x3 + 2) ∧ w32 (x3 + 2) < ((G.2.1 26 : Nat) : Int)) <|
  asrt (0 ≤ w32 (x3 + 3) ∧ w32 (x3 + 3) < ((G.2.1 26 : Nat) : Int)) <|
  asrt (0 ≤ w32 (x3 + 4) ∧ w32 (x3 + 4) < ((G.2.1 26 : Nat) : Int)) <|
  asrt (0 ≤ w32 (x3 + 5) ∧ w32 (x3 + 5) < ((G.2.1 26 : Nat) : Int)) <|
  bnd (f10_feed (scr G (w32 (x3 + 1)).toNat) (scr G (w32 (x3 + 2)).toNat) (scr G (w32 (x3 + 3)).toNat) (scr G (w32 (x3 + 4)).toNat) (scr G (w32 (x3 + 5)).toNat) h) fun r6 h7 =>
  asrt (0 ≤ w32 (x3 + 1) ∧ w32 (x3 + 1) < ((G.2.1 26 : Nat) : Int)) <|
  asrt (0 ≤ w32 (x3 + 2) ∧ w32 (x3 + 2) < ((G.2.1 26 : Nat) : Int)) <|
  asrt (0 ≤ w32 (x3 + 3) ∧ w32 (x3 + 3) < ((G.2.1 26 : Nat) : Int)) <|
  asrt (0 ≤ w32 (x3 + 4) ∧ w32 (x3 + 4) < ((G.2.1 26 : Nat) : Int)) <|
  asrt (0 ≤ w32 (x3 + 5) ∧ w32 (x3 + 5) < ((G.2.1 26 : Nat) : Int)) <|
  bnd (f11_feed (scr G (w32 (x3 + 1)).toNat) (scr G (w32 (x3 + 2)).toNat) (scr G (w32 (x3 + 3)).toNat) (scr G (w32 (x3 + 4)).toNat) (scr G (w32 (x3 + 5)).toNat) h7) fun r15 h16 =>
  if w32 r6 = w32 r15 then
    b14_law_1784 G rec18 x3 h16
  else
    some (0, h16)
set_option maxRecDepth 100000 in
theorem t14_law_184 (l : Launch) (G : Geo) (d : Nat) (hd : 16 ≤ d) (x3 : Int) (rec18 : Int × AH → Option (Int × AH)) (H18 : ∀ (x3 : Int) (h : AH), Den l G m14_law rvI d 18 [some (vS G 25), some (vA G 0), some (vA G 69), some (vI x3)] [] h (rec18 (x3, h))) (h : AH) : Den l G m14_law rvI d 184 [some (vS G 25), some (vA G 0), some (vA G 69), some (vI x3)] [] h (b14_law_184 G rec18 x3 h) := by
  unfold b14_law_184
  refine den_aload_n (pc := 184) d14_law_184 rfl rfl ?_
  refine den_aloadS_n (pc := 185) d14_law_185 rfl rfl ?_
  refine den_iload_n (pc := 186) d14_law_186 rfl rfl ?_
  refine den_iconst (pc := 187) d14_law_187 ?_
  refine den_iadd (pc := 188) d14_law_188 ?_
  refine den_asrt (fun a1 => ?_)
  refine den_scrAt (pc := 189) a1 d14_law_189 ?_
  refine den_aloadS_n (pc := 190) d14_law_190 rfl rfl ?_
  refine den_iload_n (pc := 191) d14_law_191 rfl rfl ?_
  refine den_iconst (pc := 192) d14_law_192 ?_
  refine den_iadd (pc := 193) d14_law_193 ?_
  refine den_asrt (fun a2 => ?_)
  refine den_scrAt (pc := 194) a2 d14_law_194 ?_
  refine den_aloadS_n (pc := 195) d14_law_195 rfl rfl ?_
  refine den_iload_n (pc := 196) d14_law_196 rfl rfl ?_
  refine den_iconst (pc := 197) d14_law_197 ?_
  refine den_iadd (pc := 198) d14_law_198 ?_
  refine den_asrt (fun a3 => ?_)
  refine den_scrAt (pc := 199) a3 d14_law_199 ?_
  refine den_aloadS_n (pc := 200) d14_law_200 rfl rfl ?_
  refine den_iload_n (pc := 201) d14_law_201 rfl rfl ?_
  refine den_iconst (pc := 202) d14_law_202 ?_
  refine den_iadd (pc := 203) d14_law_203 ?_
  refine den_asrt (fun a4 => ?_)
  refine den_scrAt (pc := 204) a4 d14_law_204 ?_
  refine den_aloadS_n (pc := 205) d14_law_205 rfl rfl ?_
  refine den_iload_n (pc := 206) d14_law_206 rfl rfl ?_
  refine den_iconst (pc := 207) d14_law_207 ?_
  refine den_iadd (pc := 208) d14_law_208 ?_
  refine den_asrt (fun a5 => ?_)
  refine den_scrAt (pc := 209) a5 d14_law_209 ?_
  refine den_callVI (pc := 210) (As := [vI (scr G (w32 (x3 + 1)).toNat), vI (scr G (w32 (x3 + 2)).toNat), vI (scr G (w32 (x3 + 3)).toNat), vI (scr G (w32 (x3 + 4)).toNat), vI (scr G (w32 (x3 + 5)).toNat)]) fv_14_13 rfl rfl (ok_0 _) (Nat.le_of_ble_eq_true rfl) (Nat.le_trans (by decide) hd) d14_law_210 (c10_feed l G (scr G (w32 (x3 + 1)).toNat) (scr G (w32 (x3 + 2)).toNat) (scr G (w32 (x3 + 3)).toNat) (scr G (w32 (x3 + 4)).toNat) (scr G (w32 (x3 + 5)).toNat) h) (fun r6 h7 m8 o9 => ?_)
  refine den_aload_n (pc := 213) d14_law_213 rfl rfl ?_
  refine den_aloadS_n (pc := 214) d14_law_214 rfl rfl ?_
  refine den_iload_n (pc := 215) d14_law_215 rfl rfl ?_
  refine den_iconst (pc := 216) d14_law_216 ?_
  refine den_iadd (pc := 217) d14_law_217 ?_
  refine den_asrt (fun a10 => ?_)
  refine den_scrAt (pc := 218) a10 d14_law_218 ?_
  refine den_aloadS_n (pc := 219) d14_law_219 rfl rfl ?_
  refine den_iload_n (pc := 220) d14_law_220 rfl rfl ?_
  refine den_iconst (pc := 221) d14_law_221 ?_
  refine den_iadd (pc := 222) d14_law_222 ?_
  refine den_asrt (fun a11 => ?_)
  refine den_scrAt (pc := 223) a11 d14_law_223 ?_
  refine den_aloadS_n (pc := 224) d14_law_224 rfl rfl ?_
  refine den_iload_n (pc := 225) d14_law_225 rfl rfl ?_
  refine den_iconst (pc := 226) d14_law_226 ?_
  refine den_iadd (pc := 227) d14_law_227 ?_
  refine den_asrt (fun a12 => ?_)
  refine den_scrAt (pc := 228) a12 d14_law_228 ?_
  refine den_aloadS_n (pc := 229) d14_law_229 rfl rfl ?_
  refine den_iload_n (pc := 230) d14_law_230 rfl rfl ?_
  refine den_iconst (pc := 231) d14_law_231 ?_
  refine den_iadd (pc := 232) d14_law_232 ?_
  refine den_asrt (fun a13 => ?_)
  refine den_scrAt (pc := 233) a13 d14_law_233 ?_
  refine den_aloadS_n (pc := 234) d14_law_234 rfl rfl ?_
  refine den_iload_n (pc := 235) d14_law_235 rfl rfl ?_
  refine den_iconst (pc := 236) d14_law_236 ?_
  refine den_iadd (pc := 237) d14_law_237 ?_
  refine den_asrt (fun a14 => ?_)
  refine den_scrAt (pc := 238) a14 d14_law_238 ?_
  refine den_callVI (pc := 239) (As := [vI (scr G (w32 (x3 + 1)).toNat), vI (scr G (w32 (x3 + 2)).toNat), vI (scr G (w32 (x3 + 3)).toNat), vI (scr G (w32 (x3 + 4)).toNat), vI (scr G (w32 (x3 + 5)).toNat)]) fv_14_17 rfl rfl (ok_69 _) (Nat.le_of_ble_eq_true rfl) (Nat.le_trans (by decide) hd) d14_law_239 (c11_feed l G (scr G (w32 (x3 + 1)).toNat) (scr G (w32 (x3 + 2)).toNat) (scr G (w32 (x3 + 3)).toNat) (scr G (w32 (x3 + 4)).toNat) (scr G (w32 (x3 + 5)).toNat) h7) (fun r15 h16 m17 o18 => ?_)
  refine den_icmp_eq (pc := 242) (tgt := 1784) d14_law_242 (by decide) rfl rfl (fun _ => ?_) (fun _ => ?_)
  · exact t14_law_1784 l G _ hd x3 rec18 H18 h16
  · refine den_iconst (pc := 245) d14_law_245 ?_
    exact den_zret (pc := 246) rfl (by decide) d14_law_246
def b14_law_247 (G : Geo) (rec18 : Int × AH → Option (Int × AH)) (x3 : Int) (h : AH) : Option (Int × AH) :=
  asrt (0 ≤ w32 (x3 + 1) ∧ w32 (x3 + 1) < ((G.2.1 26 : Nat) : Int)) <|
  bnd (f10_end (scr G (w32 (x3 + 1)).toNat) h) fun r20 h21 =>
  asrt (0 ≤ w32 (x3 + 1) ∧ w32 (x3 + 1) < ((G.2.1 26 : Nat) : Int)) <|
  bnd (f11_end (scr G (w32 (x3 + 1)).toNat) h21) fun r25 h26 =>
  if w32 r20 = w32 r25 then
    b14_law_1784 G rec18 x3 h26
  else
    some (0, h26)
set_option maxRecDepth 100000 in
theorem t14_law_247 (l : Launch) (G : Geo) (d : Nat) (hd : 16 ≤ d) (x3 : Int) (rec18 : Int × AH → Option (Int × AH)) (H18 : ∀ (x3 : Int) (h : AH), Den l G m14_law rvI d 18 [some (vS G 25), some (vA G 0), some (vA G 69), some (vI x3)] [] h (rec18 (x3, h))) (h : AH) : Den l G m14_law rvI d 247 [some (vS G 25), some (vA G 0), some (vA G 69), some (vI x3)] [] h (b14_law_247 G rec18 x3 h) := by
  unfold b14_law_247
  refine den_aload_n (pc := 247) d14_law_247 rfl rfl ?_
  refine den_aloadS_n (pc := 248) d14_law_248 rfl rfl ?_
  refine den_iload_n (pc := 249) d14_law_249 rfl rfl ?_
  refine den_iconst (pc := 250) d14_law_250 ?_
  refine den_iadd (pc := 251) d14_law_251 ?_
  refine den_asrt (fun a19 => ?_)
  refine den_scrAt (pc := 252) a19 d14_law_252 ?_
  refine den_callVI (pc := 253) (As := [vI (scr G (w32 (x3 + 1)).toNat)]) fv_14_18 rfl rfl (ok_0 _) (Nat.le_of_ble_eq_true rfl) (Nat.le_trans (by decide) hd) d14_law_253 (c10_end l G (scr G (w32 (x3 + 1)).toNat) h) (fun r20 h21 m22 o23 => ?_)
  refine den_aload_n (pc := 256) d14_law_256 rfl rfl ?_
  refine den_aloadS_n (pc := 257) d14_law_257 rfl rfl ?_
  refine den_iload_n (pc := 258) d14_law_258 rfl rfl ?_
  refine den_iconst (pc := 259) d14_law_259 ?_
  refine den_iadd (pc := 260) d14_law_260 ?_
  refine den_asrt (fun a24 => ?_)
  refine den_scrAt (pc := 261) a24 d14_law_261 ?_
  refine den_callVI (pc := 262) (As := [vI (scr G (w32 (x3 + 1)).toNat)]) fv_14_22 rfl rfl (ok_69 _) (Nat.le_of_ble_eq_true rfl) (Nat.le_trans (by decide) hd) d14_law_262 (c11_end l G (scr G (w32 (x3 + 1)).toNat) h21) (fun r25 h26 m27 o28 => ?_)
  refine den_icmp_eq (pc := 265) (tgt := 1784) d14_law_265 (by decide) rfl rfl (fun _ => ?_) (fun _ => ?_)
  · exact t14_law_1784 l G _ hd x3 rec18 H18 h26
  · refine den_iconst (pc := 268) d14_law_268 ?_
    exact den_zret (pc := 269) rfl (by decide) d14_law_269
def b14_law_270 (G : Geo) (rec18 : Int × AH → Option (Int × AH)) (x3 : Int) (h : AH) : Option (Int × AH) :=
  asrt (0 ≤ w32 (x3 + 1) ∧ w32 (x3 + 1) < ((G.2.1 26 : Nat) : Int)) <|
  asrt (0 ≤ w32 (x3 + 2) ∧ w32 (x3 + 2) < ((G.2.1 26 : Nat) : Int)) <|
  bnd (f10_text (scr G (w32 (x3 + 1)).toNat) (scr G (w32 (x3 + 2)).toNat) h) fun r31 h32 =>
  asrt (0 ≤ w32 (x3 + 1) ∧ w32 (x3 + 1) < ((G.2.1 26 : Nat) : Int)) <|
  asrt (0 ≤ w32 (x3 + 2) ∧ w32 (x3 + 2) < ((G.2.1 26 : Nat) : Int)) <|
  bnd (f11_text (scr G (w32 (x3 + 1)).toNat) (scr G (w32 (x3 + 2)).toNat) h32) fun r37 h38 =>
  if w32 r31 = w32 r37 then
    b14_law_1784 G rec18 x3 h38
  else
    some (0, h38)
set_option maxRecDepth 100000 in
theorem t14_law_270 (l : Launch) (G : Geo) (d : Nat) (hd : 16 ≤ d) (x3 : Int) (rec18 : Int × AH → Option (Int × AH)) (H18 : ∀ (x3 : Int) (h : AH), Den l G m14_law rvI d 18 [some (vS G 25), some (vA G 0), some (vA G 69), some (vI x3)] [] h (rec18 (x3, h))) (h : AH) : Den l G m14_law rvI d 270 [some (vS G 25), some (vA G 0), some (vA G 69), some (vI x3)] [] h (b14_law_270 G rec18 x3 h) := by
  unfold b14_law_270
  refine den_aload_n (pc := 270) d14_law_270 rfl rfl ?_
  refine den_aloadS_n (pc := 271) d14_law_271 rfl rfl ?_
  refine den_iload_n (pc := 272) d14_law_272 rfl rfl ?_
  refine den_iconst (pc := 273) d14_law_273 ?_
  refine den_iadd (pc := 274) d14_law_274 ?_
  refine den_asrt (fun a29 => ?_)
  refine den_scrAt (pc := 275) a29 d14_law_275 ?_
  refine den_aloadS_n (pc := 276) d14_law_276 rfl rfl ?_
  refine den_iload_n (pc := 277) d14_law_277 rfl rfl ?_
  refine den_iconst (pc := 278) d14_law_278 ?_
  refine den_iadd (pc := 279) d14_law_279 ?_
  refine den_asrt (fun a30 => ?_)
  refine den_scrAt (pc := 280) a30 d14_law_280 ?_
  refine den_callVI (pc := 281) (As := [vI (scr G (w32 (x3 + 1)).toNat), vI (scr G (w32 (x3 + 2)).toNat)]) fv_14_23 rfl rfl (ok_0 _) (Nat.le_of_ble_eq_true rfl) (Nat.le_trans (by decide) hd) d14_law_281 (c10_text l G (scr G (w32 (x3 + 1)).toNat) (scr G (w32 (x3 + 2)).toNat) h) (fun r31 h32 m33 o34 => ?_)
  refine den_aload_n (pc := 284) d14_law_284 rfl rfl ?_
  refine den_aloadS_n (pc := 285) d14_law_285 rfl rfl ?_
  refine den_iload_n (pc := 286) d14_law_286 rfl rfl ?_
  refine den_iconst (pc := 287) d14_law_287 ?_
  refine den_iadd (pc := 288) d14_law_288 ?_
  refine den_asrt (fun a35 => ?_)
  refine den_scrAt (pc := 289) a35 d14_law_289 ?_
  refine den_aloadS_n (pc := 290) d14_law_290 rfl rfl ?_
  refine den_iload_n (pc := 291) d14_law_291 rfl rfl ?_
  refine den_iconst (pc := 292) d14_law_292 ?_
  refine den_iadd (pc := 293) d14_law_293 ?_
  refine den_asrt (fun a36 => ?_)
  refine den_scrAt (pc := 294) a36 d14_law_294 ?_
  refine den_callVI (pc := 295) (As := [vI (scr G (w32 (x3 + 1)).toNat), vI (scr G (w32 (x3 + 2)).toNat)]) fv_14_27 rfl rfl (ok_69 _) (Nat.le_of_ble_eq_true rfl) (Nat.le_trans (by decide) hd) d14_law_295 (c11_text l G (scr G (w32 (x3 + 1)).toNat) (scr G (w32 (x3 + 2)).toNat) h32) (fun r37 h38 m39 o40 => ?_)
  refine den_icmp_eq (pc := 298) (tgt := 1784) d14_law_298 (by decide) rfl rfl (fun _ => ?_) (fun _ => ?_)
  · exact t14_law_1784 l G _ hd x3 rec18 H18 h38
  · refine den_iconst (pc := 301) d14_law_301 ?_
    exact den_zret (pc := 302) rfl (by decide) d14_law_302
def b14_law_303 (G : Geo) (rec18 : Int × AH → Option (Int × AH)) (x3 : Int) (h : AH) : Option (Int × AH) :=
  asrt (0 ≤ w32 (x3 + 1) ∧ w32 (x3 + 1) < ((G.2.1 26 : Nat) : Int)) <|
  bnd (f10_fault (scr G (w32 (x3 + 1)).toNat) h) fun r42 h43 =>
  asrt (0 ≤ w32 (x3 + 1) ∧ w32 (x3 + 1) < ((G.2.1 26 : Nat) : Int)) <|
  bnd (f11_fault (scr G (w32 (x3 + 1)).toNat) h43) fun r47 h48 =>
  if w32 r42 = w32 r47 then
    b14_law_1784 G rec18 x3 h48
  else
    some (0, h48)
set_option maxRecDepth 100000 in
theorem t14_law_303 (l : Launch) (G : Geo) (d : Nat) (hd : 16 ≤ d) (x3 : Int) (rec18 : Int × AH → Option (Int × AH)) (H18 : ∀ (x3 : Int) (h : AH), Den l G m14_law rvI d 18 [some (vS G 25), some (vA G 0), some (vA G 69), some (vI x3)] [] h (rec18 (x3, h))) (h : AH) : Den l G m14_law rvI d 303 [some (vS G 25), some (vA G 0), some (vA G 69), some (vI x3)] [] h (b14_law_303 G rec18 x3 h) := by
  unfold b14_law_303
  refine den_aload_n (pc := 303) d14_law_303 rfl rfl ?_
  refine den_aloadS_n (pc := 304) d14_law_304 rfl rfl ?_
  refine den_iload_n (pc := 305) d14_law_305 rfl rfl ?_
  refine den_iconst (pc := 306) d14_law_306 ?_
  refine den_iadd (pc := 307) d14_law_307 ?_
  refine den_asrt (fun a41 => ?_)
  refine den_scrAt (pc := 308) a41 d14_law_308 ?_
  refine den_callVI (pc := 309) (As := [vI (scr G (w32 (x3 + 1)).toNat)]) fv_14_28 rfl rfl (ok_0 _) (Nat.le_of_ble_eq_true rfl) (Nat.le_trans (by decide) hd) d14_law_309 (c10_fault l G (scr G (w32 (x3 + 1)).toNat) h) (fun r42 h43 m44 o45 => ?_)
  refine den_aload_n (pc := 312) d14_law_312 rfl rfl ?_
  refine den_aloadS_n (pc := 313) d14_law_313 rfl rfl ?_
  refine den_iload_n (pc := 314) d14_law_314 rfl rfl ?_
  refine den_iconst (pc := 315) d14_law_315 ?_
  refine den_iadd (pc := 316) d14_law_316 ?_
  refine den_asrt (fun a46 => ?_)
  refine den_scrAt (pc := 317) a46 d14_law_317 ?_
  refine den_callVI (pc := 318) (As := [vI (scr G (w32 (x3 + 1)).toNat)]) fv_14_31 rfl rfl (ok_69 _) (Nat.le_of_ble_eq_true rfl) (Nat.le_trans (by decide) hd) d14_law_318 (c11_fault l G (scr G (w32 (x3 + 1)).toNat) h43) (fun r47 h48 m49 o50 => ?_)
  refine den_icmp_eq (pc := 321) (tgt := 1784) d14_law_321 (by decide) rfl rfl (fun _ => ?_) (fun _ => ?_)
  · exact t14_law_1784 l G _ hd x3 rec18 H18 h48
  · refine den_iconst (pc := 324) d14_law_324 ?_
    exact den_zret (pc := 325) rfl (by decide) d14_law_325
def b14_law_326 (G : Geo) (rec18 : Int × AH → Option (Int × AH)) (x3 : Int) (h : AH) : Option (Int × AH) :=
  asrt (0 ≤ w32 (x3 + 1) ∧ w32 (x3 + 1) < ((G.2.1 26 : Nat) : Int)) <|
  asrt (0 ≤ w32 (x3 + 2) ∧ w32 (x3 + 2) < ((G.2.1 26 : Nat) : Int)) <|
  bnd (f10_village (scr G (w32 (x3 + 1)).toNat) (scr G (w32 (x3 + 2)).toNat) h) fun r53 h54 =>
  asrt (0 ≤ w32 (x3 + 1) ∧ w32 (x3 + 1) < ((G.2.1 26 : Nat) : Int)) <|
  asrt (0 ≤ w32 (x3 + 2) ∧ w32 (x3 + 2) < ((G.2.1 26 : Nat) : Int)) <|
  bnd (f11_village (scr G (w32 (x3 + 1)).toNat) (scr G (w32 (x3 + 2)).toNat) h54) fun r59 h60 =>
  if w32 r53 = w32 r59 then
    b14_law_1784 G rec18 x3 h60
  else
    some (0, h60)
set_option maxRecDepth 100000 in
theorem t14_law_326 (l : Launch) (G : Geo) (d : Nat) (hd : 16 ≤ d) (x3 : Int) (rec18 : Int × AH → Option (Int × AH)) (H18 : ∀ (x3 : Int) (h : AH), Den l G m14_law rvI d 18 [some (vS G 25), some (vA G 0), some (vA G 69), some (vI x3)] [] h (rec18 (x3, h))) (h : AH) : Den l G m14_law rvI d 326 [some (vS G 25), some (vA G 0), some (vA G 69), some (vI x3)] [] h (b14_law_326 G rec18 x3 h) := by
  unfold b14_law_326
  refine den_aload_n (pc := 326) d14_law_326 rfl rfl ?_
  refine den_aloadS_n (pc := 327) d14_law_327 rfl rfl ?_
  refine den_iload_n (pc := 328) d14_law_328 rfl rfl ?_
  refine den_iconst (pc := 329) d14_law_329 ?_
  refine den_iadd (pc := 330) d14_law_330 ?_
  refine den_asrt (fun a51 => ?_)
  refine den_scrAt (pc := 331) a51 d14_law_331 ?_
  refine den_aloadS_n (pc := 332) d14_law_332 rfl rfl ?_
  refine den_iload_n (pc := 333) d14_law_333 rfl rfl ?_
  refine den_iconst (pc := 334) d14_law_334 ?_
  refine den_iadd (pc := 335) d14_law_335 ?_
  refine den_asrt (fun a52 => ?_)
  refine den_scrAt (pc := 336) a52 d14_law_336 ?_
  refine den_callVI (pc := 337) (As := [vI (scr G (w32 (x3 + 1)).toNat), vI (scr G (w32 (x3 + 2)).toNat)]) fv_14_32 rfl rfl (ok_0 _) (Nat.le_of_ble_eq_true rfl) (Nat.le_trans (by decide) hd) d14_law_337 (c10_village l G (scr G (w32 (x3 + 1)).toNat) (scr G (w32 (x3 + 2)).toNat) h) (fun r53 h54 m55 o56 => ?_)
  refine den_aload_n (pc := 340) d14_law_340 rfl rfl ?_
  refine den_aloadS_n (pc := 341) d14_law_341 rfl rfl ?_
  refine den_iload_n (pc := 342) d14_law_342 rfl rfl ?_
  refine den_iconst (pc := 343) d14_law_343 ?_
  refine den_iadd (pc := 344) d14_law_344 ?_
  refine den_asrt (fun a57 => ?_)
  refine den_scrAt (pc := 345) a57 d14_law_345 ?_
  refine den_aloadS_n (pc := 346) d14_law_346 rfl rfl ?_
  refine den_iload_n (pc := 347) d14_law_347 rfl rfl ?_
  refine den_iconst (pc := 348) d14_law_348 ?_
  refine den_iadd (pc := 349) d14_law_349 ?_
  refine den_asrt (fun a58 => ?_)
  refine den_scrAt (pc := 350) a58 d14_law_350 ?_
  refine den_callVI (pc := 351) (As := [vI (scr G (w32 (x3 + 1)).toNat), vI (scr G (w32 (x3 + 2)).toNat)]) fv_14_35 rfl rfl (ok_69 _) (Nat.le_of_ble_eq_true rfl) (Nat.le_trans (by decide) hd) d14_law_351 (c11_village l G (scr G (w32 (x3 + 1)).toNat) (scr G (w32 (x3 + 2)).toNat) h54) (fun r59 h60 m61 o62 => ?_)
  refine den_icmp_eq (pc := 354) (tgt := 1784) d14_law_354 (by decide) rfl rfl (fun _ => ?_) (fun _ => ?_)
  · exact t14_law_1784 l G _ hd x3 rec18 H18 h60
  · refine den_iconst (pc := 357) d14_law_357 ?_
    exact den_zret (pc := 358) rfl (by decide) d14_law_358
def b14_law_430 (G : Geo) (rec18 : Int × AH → Option (Int × AH)) (x3 : Int) (s0 : Int) (s1 : Int) (s2 : Int) (s3 : Int) (s4 : Int) (s6 : Int) (h : AH) : Option (Int × AH) :=
  bnd (f11_apart s4 s3 s2 s1 s0 h) fun r63 h64 =>
  if w32 s6 = w32 r63 then
    b14_law_1784 G rec18 x3 h64
  else
    some (0, h64)
set_option maxRecDepth 100000 in
theorem t14_law_430 (l : Launch) (G : Geo) (d : Nat) (hd : 16 ≤ d) (x3 : Int) (s0 : Int) (s1 : Int) (s2 : Int) (s3 : Int) (s4 : Int) (s6 : Int) (rec18 : Int × AH → Option (Int × AH)) (H18 : ∀ (x3 : Int) (h : AH), Den l G m14_law rvI d 18 [some (vS G 25), some (vA G 0), some (vA G 69), some (vI x3)] [] h (rec18 (x3, h))) (h : AH) : Den l G m14_law rvI d 430 [some (vS G 25), some (vA G 0), some (vA G 69), some (vI x3)] [vI s0, vI s1, vI s2, vI s3, vI s4, vA G 69, vI s6] h (b14_law_430 G rec18 x3 s0 s1 s2 s3 s4 s6 h) := by
  unfold b14_law_430
  refine den_callVI (pc := 430) (As := [vI s4, vI s3, vI s2, vI s1, vI s0]) fv_14_40 rfl rfl (ok_69 _) (Nat.le_of_ble_eq_true rfl) (Nat.le_trans (by decide) hd) d14_law_430 (c11_apart l G s4 s3 s2 s1 s0 h) (fun r63 h64 m65 o66 => ?_)
  refine den_icmp_eq (pc := 433) (tgt := 1784) d14_law_433 (by decide) rfl rfl (fun _ => ?_) (fun _ => ?_)
  · exact t14_law_1784 l G _ hd x3 rec18 H18 h64
  · refine den_iconst (pc := 436) d14_law_436 ?_
    exact den_zret (pc := 437) rfl (by decide) d14_law_437
def b14_law_393 (G : Geo) (rec18 : Int × AH → Option (Int × AH)) (x3 : Int) (s0 : Int) (s1 : Int) (s2 : Int) (s3 : Int) (s4 : Int) (h : AH) : Option (Int × AH) :=
  bnd (f10_apart s4 s3 s2 s1 s0 h) fun r67 h68 =>
  asrt (0 ≤ w32 (x3 + 1) ∧ w32 (x3 + 1) < ((G.2.1 26 : Nat) : Int)) <|
  asrt (0 ≤ w32 (x3 + 2) ∧ w32 (x3 + 2) < ((G.2.1 26 : Nat) : Int)) <|
  asrt (0 ≤ w32 (x3 + 3) ∧ w32 (x3 + 3) < ((G.2.1 26 : Nat) : Int)) <|
  asrt (0 ≤ w32 (x3 + 4) ∧ w32 (x3 + 4) < ((G.2.1 26 : Nat) : Int)) <|
  asrt (0 ≤ w32 (x3 + 5) ∧ w32 (x3 + 5) < ((G.2.1 26 : Nat) : Int)) <|
  if w32 (scr G (w32 (x3 + 5)).toNat) = 0 then
    b14_law_430 G rec18 x3 0 (scr G (w32 (x3 + 4)).toNat) (scr G (w32 (x3 + 3)).toNat) (scr G (w32 (x3 + 2)).toNat) (scr G (w32 (x3 + 1)).toNat) r67 h68
  else
    b14_law_430 G rec18 x3 1 (scr G (w32 (x3 + 4)).toNat) (scr G (w32 (x3 + 3)).toNat) (scr G (w32 (x3 + 2)).toNat) (scr G (w32 (x3 + 1)).toNat) r67 h68
set_option maxRecDepth 100000 in
theorem t14_law_393 (l : Launch) (G : Geo) (d : Nat) (hd : 16 ≤ d) (x3 : Int) (s0 : Int) (s1 : Int) (s2 : Int) (s3 : Int) (s4 : Int) (rec18 : Int × AH → Option (Int × AH)) (H18 : ∀ (x3 : Int) (h : AH), Den l G m14_law rvI d 18 [some (vS G 25), some (vA G 0), some (vA G 69), some (vI x3)] [] h (rec18 (x3, h))) (h : AH) : Den l G m14_law rvI d 393 [some (vS G 25), some (vA G 0), some (vA G 69), some (vI x3)] [vI s0, vI s1, vI s2, vI s3, vI s4, vA G 0] h (b14_law_393 G rec18 x3 s0 s1 s2 s3 s4 h) := by
  unfold b14_law_393
  refine den_callVI (pc := 393) (As := [vI s4, vI s3, vI s2, vI s1, vI s0]) fv_14_36 rfl rfl (ok_0 _) (Nat.le_of_ble_eq_true rfl) (Nat.le_trans (by decide) hd) d14_law_393 (c10_apart l G s4 s3 s2 s1 s0 h) (fun r67 h68 m69 o70 => ?_)
  refine den_aload_n (pc := 396) d14_law_396 rfl rfl ?_
  refine den_aloadS_n (pc := 397) d14_law_397 rfl rfl ?_
  refine den_iload_n (pc := 398) d14_law_398 rfl rfl ?_
  refine den_iconst (pc := 399) d14_law_399 ?_
  refine den_iadd (pc := 400) d14_law_400 ?_
  refine den_asrt (fun a71 => ?_)
  refine den_scrAt (pc := 401) a71 d14_law_401 ?_
  refine den_aloadS_n (pc := 402) d14_law_402 rfl rfl ?_
  refine den_iload_n (pc := 403) d14_law_403 rfl rfl ?_
  refine den_iconst (pc := 404) d14_law_404 ?_
  refine den_iadd (pc := 405) d14_law_405 ?_
  refine den_asrt (fun a72 => ?_)
  refine den_scrAt (pc := 406) a72 d14_law_406 ?_
  refine den_aloadS_n (pc := 407) d14_law_407 rfl rfl ?_
  refine den_iload_n (pc := 408) d14_law_408 rfl rfl ?_
  refine den_iconst (pc := 409) d14_law_409 ?_
  refine den_iadd (pc := 410) d14_law_410 ?_
  refine den_asrt (fun a73 => ?_)
  refine den_scrAt (pc := 411) a73 d14_law_411 ?_
  refine den_aloadS_n (pc := 412) d14_law_412 rfl rfl ?_
  refine den_iload_n (pc := 413) d14_law_413 rfl rfl ?_
  refine den_iconst (pc := 414) d14_law_414 ?_
  refine den_iadd (pc := 415) d14_law_415 ?_
  refine den_asrt (fun a74 => ?_)
  refine den_scrAt (pc := 416) a74 d14_law_416 ?_
  refine den_aloadS_n (pc := 417) d14_law_417 rfl rfl ?_
  refine den_iload_n (pc := 418) d14_law_418 rfl rfl ?_
  refine den_iconst (pc := 419) d14_law_419 ?_
  refine den_iadd (pc := 420) d14_law_420 ?_
  refine den_asrt (fun a75 => ?_)
  refine den_scrAt (pc := 421) a75 d14_law_421 ?_
  refine den_if_eq (pc := 422) (tgt := 429) d14_law_422 (by decide) rfl (fun _ => ?_) (fun _ => ?_)
  · refine den_iconst (pc := 429) d14_law_429 ?_
    exact t14_law_430 l G _ hd x3 0 (scr G (w32 (x3 + 4)).toNat) (scr G (w32 (x3 + 3)).toNat) (scr G (w32 (x3 + 2)).toNat) (scr G (w32 (x3 + 1)).toNat) r67 rec18 H18 h68
  · refine den_iconst (pc := 425) d14_law_425 ?_
    refine den_goto (pc := 426) (tgt := 430) d14_law_426 (by decide) ?_
    exact t14_law_430 l G _ hd x3 1 (scr G (w32 (x3 + 4)).toNat) (scr G (w32 (x3 + 3)).toNat) (scr G (w32 (x3 + 2)).toNat) (scr G (w32 (x3 + 1)).toNat) r67 rec18 H18 h68
def b14_law_359 (G : Geo) (rec18 : Int × AH → Option (Int × AH)) (x3 : Int) (h : AH) : Option (Int × AH) :=
  asrt (0 ≤ w32 (x3 + 1) ∧ w32 (x3 + 1) < ((G.2.1 26 : Nat) : Int)) <|
  asrt (0 ≤ w32 (x3 + 2) ∧ w32 (x3 + 2) < ((G.2.1 26 : Nat) : Int)) <|
  asrt (0 ≤ w32 (x3 + 3) ∧ w32 (x3 + 3) < ((G.2.1 26 : Nat) : Int)) <|
  asrt (0 ≤ w32 (x3 + 4) ∧ w32 (x3 + 4) < ((G.2.1 26 : Nat) : Int)) <|
  asrt (0 ≤ w32 (x3 + 5) ∧ w32 (x3 + 5) < ((G.2.1 26 : Nat) : Int)) <|
  if w32 (scr G (w32 (x3 + 5)).toNat) = 0 then
    b14_law_393 G rec18 x3 0 (scr G (w32 (x3 + 4)).toNat) (scr G (w32 (x3 + 3)).toNat) (scr G (w32 (x3 + 2)).toNat) (scr G (w32 (x3 + 1)).toNat) h
  else
    b14_law_393 G rec18 x3 1 (scr G (w32 (x3 + 4)).toNat) (scr G (w32 (x3 + 3)).toNat) (scr G (w32 (x3 + 2)).toNat) (scr G (w32 (x3 + 1)).toNat) h
set_option maxRecDepth 100000 in
theorem t14_law_359 (l : Launch) (G : Geo) (d : Nat) (hd : 16 ≤ d) (x3 : Int) (rec18 : Int × AH → Option (Int × AH)) (H18 : ∀ (x3 : Int) (h : AH), Den l G m14_law rvI d 18 [some (vS G 25), some (vA G 0), some (vA G 69), some (vI x3)] [] h (rec18 (x3, h))) (h : AH) : Den l G m14_law rvI d 359 [some (vS G 25), some (vA G 0), some (vA G 69), some (vI x3)] [] h (b14_law_359 G rec18 x3 h) := by
  unfold b14_law_359
  refine den_aload_n (pc := 359) d14_law_359 rfl rfl ?_
  refine den_aloadS_n (pc := 360) d14_law_360 rfl rfl ?_
  refine den_iload_n (pc := 361) d14_law_361 rfl rfl ?_
  refine den_iconst (pc := 362) d14_law_362 ?_
  refine den_iadd (pc := 363) d14_law_363 ?_
  refine den_asrt (fun a76 => ?_)
  refine den_scrAt (pc := 364) a76 d14_law_364 ?_
  refine den_aloadS_n (pc := 365) d14_law_365 rfl rfl ?_
  refine den_iload_n (pc := 366) d14_law_366 rfl rfl ?_
  refine den_iconst (pc := 367) d14_law_367 ?_
  refine den_iadd (pc := 368) d14_law_368 ?_
  refine den_asrt (fun a77 => ?_)
  refine den_scrAt (pc := 369) a77 d14_law_369 ?_
  refine den_aloadS_n (pc := 370) d14_law_370 rfl rfl ?_
  refine den_iload_n (pc := 371) d14_law_371 rfl rfl ?_
  refine den_iconst (pc := 372) d14_law_372 ?_
  refine den_iadd (pc := 373) d14_law_373 ?_
  refine den_asrt (fun a78 => ?_)
  refine den_scrAt (pc := 374) a78 d14_law_374 ?_
  refine den_aloadS_n (pc := 375) d14_law_375 rfl rfl ?_
  refine den_iload_n (pc := 376) d14_law_376 rfl rfl ?_
  refine den_iconst (pc := 377) d14_law_377 ?_
  refine den_iadd (pc := 378) d14_law_378 ?_
  refine den_asrt (fun a79 => ?_)
  refine den_scrAt (pc := 379) a79 d14_law_379 ?_
  refine den_aloadS_n (pc := 380) d14_law_380 rfl rfl ?_
  refine den_iload_n (pc := 381) d14_law_381 rfl rfl ?_
  refine den_iconst (pc := 382) d14_law_382 ?_
  refine den_iadd (pc := 383) d14_law_383 ?_
  refine den_asrt (fun a80 => ?_)
  refine den_scrAt (pc := 384) a80 d14_law_384 ?_
  refine den_if_eq (pc := 385) (tgt := 392) d14_law_385 (by decide) rfl (fun _ => ?_) (fun _ => ?_)
  · refine den_iconst (pc := 392) d14_law_392 ?_
    exact t14_law_393 l G _ hd x3 0 (scr G (w32 (x3 + 4)).toNat) (scr G (w32 (x3 + 3)).toNat) (scr G (w32 (x3 + 2)).toNat) (scr G (w32 (x3 + 1)).toNat) rec18 H18 h
  · refine den_iconst (pc := 388) d14_law_388 ?_
    refine den_goto (pc := 389) (tgt := 393) d14_law_389 (by decide) ?_
    exact t14_law_393 l G _ hd x3 1 (scr G (w32 (x3 + 4)).toNat) (scr G (w32 (x3 + 3)).toNat) (scr G (w32 (x3 + 2)).toNat) (scr G (w32 (x3 + 1)).toNat) rec18 H18 h
def b14_law_438 (G : Geo) (rec18 : Int × AH → Option (Int × AH)) (x3 : Int) (h : AH) : Option (Int × AH) :=
  asrt (0 ≤ w32 (x3 + 1) ∧ w32 (x3 + 1) < ((G.2.1 26 : Nat) : Int)) <|
  asrt (0 ≤ w32 (x3 + 2) ∧ w32 (x3 + 2) < ((G.2.1 26 : Nat) : Int)) <|
  asrt (0 ≤ w32 (x3 + 3) ∧ w32 (x3 + 3) < ((G.2.1 26 : Nat) : Int)) <|
  bnd (f10_deed (scr G (w32 (x3 + 1)).toNat) (scr G (w32 (x3 + 2)).toNat) (scr G (w32 (x3 + 3)).toNat) h) fun r84 h85 =>
  asrt (0 ≤ w32 (x3 + 1) ∧ w32 (x3 + 1) < ((G.2.1 26 : Nat) : Int)) <|
  asrt (0 ≤ w32 (x3 + 2) ∧ w32 (x3 + 2) < ((G.2.1 26 : Nat) : Int)) <|
  asrt (0 ≤ w32 (x3 + 3) ∧ w32 (x3 + 3) < ((G.2.1 26 : Nat) : Int)) <|
  bnd (f11_deed (scr G (w32 (x3 + 1)).toNat) (scr G (w32 (x3 + 2)).toNat) (scr G (w32 (x3 + 3)).toNat) h85) fun r91 h92 =>
  if w32 r84 = w32 r91 then
    b14_law_1784 G rec18 x3 h92
  else
    some (0, h92)
set_option maxRecDepth 100000 in
theorem t14_law_438 (l : Launch) (G : Geo) (d : Nat) (hd : 16 ≤ d) (x3 : Int) (rec18 : Int × AH → Option (Int × AH)) (H18 : ∀ (x3 : Int) (h : AH), Den l G m14_law rvI d 18 [some (vS G 25), some (vA G 0), some (vA G 69), some (vI x3)] [] h (rec18 (x3, h))) (h : AH) : Den l G m14_law rvI d 438 [some (vS G 25), some (vA G 0), some (vA G 69), some (vI x3)] [] h (b14_law_438 G rec18 x3 h) := by
  unfold b14_law_438
  refine den_aload_n (pc := 438) d14_law_438 rfl rfl ?_
  refine den_aloadS_n (pc := 439) d14_law_439 rfl rfl ?_
  refine den_iload_n (pc := 440) d14_law_440 rfl rfl ?_
  refine den_iconst (pc := 441) d14_law_441 ?_
  refine den_iadd (pc := 442) d14_law_442 ?_
  refine den_asrt (fun a81 => ?_)
  refine den_scrAt (pc := 443) a81 d14_law_443 ?_
  refine den_aloadS_n (pc := 444) d14_law_444 rfl rfl ?_
  refine den_iload_n (pc := 445) d14_law_445 rfl rfl ?_
  refine den_iconst (pc := 446) d14_law_446 ?_
  refine den_iadd (pc := 447) d14_law_447 ?_
  refine den_asrt (fun a82 => ?_)
  refine den_scrAt (pc := 448) a82 d14_law_448 ?_
  refine den_aloadS_n (pc := 449) d14_law_449 rfl rfl ?_
  refine den_iload_n (pc := 450) d14_law_450 rfl rfl ?_
  refine den_iconst (pc := 451) d14_law_451 ?_
  refine den_iadd (pc := 452) d14_law_452 ?_
  refine den_asrt (fun a83 => ?_)
  refine den_scrAt (pc := 453) a83 d14_law_453 ?_
  refine den_callVI (pc := 454) (As := [vI (scr G (w32 (x3 + 1)).toNat), vI (scr G (w32 (x3 + 2)).toNat), vI (scr G (w32 (x3 + 3)).toNat)]) fv_14_41 rfl rfl (ok_0 _) (Nat.le_of_ble_eq_true rfl) (Nat.le_trans (by decide) hd) d14_law_454 (c10_deed l G (scr G (w32 (x3 + 1)).toNat) (scr G (w32 (x3 + 2)).toNat) (scr G (w32 (x3 + 3)).toNat) h) (fun r84 h85 m86 o87 => ?_)
  refine den_aload_n (pc := 457) d14_law_457 rfl rfl ?_
  refine den_aloadS_n (pc := 458) d14_law_458 rfl rfl ?_
  refine den_iload_n (pc := 459) d14_law_459 rfl rfl ?_
  refine den_iconst (pc := 460) d14_law_460 ?_
  refine den_iadd (pc := 461) d14_law_461 ?_
  refine den_asrt (fun a88 => ?_)
  refine den_scrAt (pc := 462) a88 d14_law_462 ?_
  refine den_aloadS_n (pc := 463) d14_law_463 rfl rfl ?_
  refine den_iload_n (pc := 464) d14_law_464 rfl rfl ?_
  refine den_iconst (pc := 465) d14_law_465 ?_
  refine den_iadd (pc := 466) d14_law_466 ?_
  refine den_asrt (fun a89 => ?_)
  refine den_scrAt (pc := 467) a89 d14_law_467 ?_
  refine den_aloadS_n (pc := 468) d14_law_468 rfl rfl ?_
  refine den_iload_n (pc := 469) d14_law_469 rfl rfl ?_
  refine den_iconst (pc := 470) d14_law_470 ?_
  refine den_iadd (pc := 471) d14_law_471 ?_
  refine den_asrt (fun a90 => ?_)
  refine den_scrAt (pc := 472) a90 d14_law_472 ?_
  refine den_callVI (pc := 473) (As := [vI (scr G (w32 (x3 + 1)).toNat), vI (scr G (w32 (x3 + 2)).toNat), vI (scr G (w32 (x3 + 3)).toNat)]) fv_14_45 rfl rfl (ok_69 _) (Nat.le_of_ble_eq_true rfl) (Nat.le_trans (by decide) hd) d14_law_473 (c11_deed l G (scr G (w32 (x3 + 1)).toNat) (scr G (w32 (x3 + 2)).toNat) (scr G (w32 (x3 + 3)).toNat) h85) (fun r91 h92 m93 o94 => ?_)
  refine den_icmp_eq (pc := 476) (tgt := 1784) d14_law_476 (by decide) rfl rfl (fun _ => ?_) (fun _ => ?_)
  · exact t14_law_1784 l G _ hd x3 rec18 H18 h92
  · refine den_iconst (pc := 479) d14_law_479 ?_
    exact den_zret (pc := 480) rfl (by decide) d14_law_480
def b14_law_481 (G : Geo) (rec18 : Int × AH → Option (Int × AH)) (x3 : Int) (h : AH) : Option (Int × AH) :=
  asrt (0 ≤ w32 (x3 + 1) ∧ w32 (x3 + 1) < ((G.2.1 26 : Nat) : Int)) <|
  asrt (0 ≤ w32 (x3 + 2) ∧ w32 (x3 + 2) < ((G.2.1 26 : Nat) : Int)) <|
  bnd (f10_stop (scr G (w32 (x3 + 1)).toNat) (scr G (w32 (x3 + 2)).toNat) h) fun r97 h98 =>
  asrt (0 ≤ w32 (x3 + 1) ∧ w32 (x3 + 1) < ((G.2.1 26 : Nat) : Int)) <|
  asrt (0 ≤ w32 (x3 + 2) ∧ w32 (x3 + 2) < ((G.2.1 26 : Nat) : Int)) <|
  bnd (f11_stop (scr G (w32 (x3 + 1)).toNat) (scr G (w32 (x3 + 2)).toNat) h98) fun r103 h104 =>
  if w32 r97 = w32 r103 then
    b14_law_1784 G rec18 x3 h104
  else
    some (0, h104)
set_option maxRecDepth 100000 in
theorem t14_law_481 (l : Launch) (G : Geo) (d : Nat) (hd : 16 ≤ d) (x3 : Int) (rec18 : Int × AH → Option (Int × AH)) (H18 : ∀ (x3 : Int) (h : AH), Den l G m14_law rvI d 18 [some (vS G 25), some (vA G 0), some (vA G 69), some (vI x3)] [] h (rec18 (x3, h))) (h : AH) : Den l G m14_law rvI d 481 [some (vS G 25), some (vA G 0), some (vA G 69), some (vI x3)] [] h (b14_law_481 G rec18 x3 h) := by
  unfold b14_law_481
  refine den_aload_n (pc := 481) d14_law_481 rfl rfl ?_
  refine den_aloadS_n (pc := 482) d14_law_482 rfl rfl ?_
  refine den_iload_n (pc := 483) d14_law_483 rfl rfl ?_
  refine den_iconst (pc := 484) d14_law_484 ?_
  refine den_iadd (pc := 485) d14_law_485 ?_
  refine den_asrt (fun a95 => ?_)
  refine den_scrAt (pc := 486) a95 d14_law_486 ?_
  refine den_aloadS_n (pc := 487) d14_law_487 rfl rfl ?_
  refine den_iload_n (pc := 488) d14_law_488 rfl rfl ?_
  refine den_iconst (pc := 489) d14_law_489 ?_
  refine den_iadd (pc := 490) d14_law_490 ?_
  refine den_asrt (fun a96 => ?_)
  refine den_scrAt (pc := 491) a96 d14_law_491 ?_
  refine den_callVI (pc := 492) (As := [vI (scr G (w32 (x3 + 1)).toNat), vI (scr G (w32 (x3 + 2)).toNat)]) fv_14_46 rfl rfl (ok_0 _) (Nat.le_of_ble_eq_true rfl) (Nat.le_trans (by decide) hd) d14_law_492 (c10_stop l G (scr G (w32 (x3 + 1)).toNat) (scr G (w32 (x3 + 2)).toNat) h) (fun r97 h98 m99 o100 => ?_)
  refine den_aload_n (pc := 495) d14_law_495 rfl rfl ?_
  refine den_aloadS_n (pc := 496) d14_law_496 rfl rfl ?_
  refine den_iload_n (pc := 497) d14_law_497 rfl rfl ?_
  refine den_iconst (pc := 498) d14_law_498 ?_
  refine den_iadd (pc := 499) d14_law_499 ?_
  refine den_asrt (fun a101 => ?_)
  refine den_scrAt (pc := 500) a101 d14_law_500 ?_
  refine den_aloadS_n (pc := 501) d14_law_501 rfl rfl ?_
  refine den_iload_n (pc := 502) d14_law_502 rfl rfl ?_
  refine den_iconst (pc := 503) d14_law_503 ?_
  refine den_iadd (pc := 504) d14_law_504 ?_
  refine den_asrt (fun a102 => ?_)
  refine den_scrAt (pc := 505) a102 d14_law_505 ?_
  refine den_callVI (pc := 506) (As := [vI (scr G (w32 (x3 + 1)).toNat), vI (scr G (w32 (x3 + 2)).toNat)]) fv_14_49 rfl rfl (ok_69 _) (Nat.le_of_ble_eq_true rfl) (Nat.le_trans (by decide) hd) d14_law_506 (c11_stop l G (scr G (w32 (x3 + 1)).toNat) (scr G (w32 (x3 + 2)).toNat) h98) (fun r103 h104 m105 o106 => ?_)
  refine den_icmp_eq (pc := 509) (tgt := 1784) d14_law_509 (by decide) rfl rfl (fun _ => ?_) (fun _ => ?_)
  · exact t14_law_1784 l G _ hd x3 rec18 H18 h104
  · refine den_iconst (pc := 512) d14_law_512 ?_
    exact den_zret (pc := 513) rfl (by decide) d14_law_513
def b14_law_514 (G : Geo) (rec18 : Int × AH → Option (Int × AH)) (x3 : Int) (h : AH) : Option (Int × AH) :=
  asrt (0 ≤ w32 (x3 + 1) ∧ w32 (x3 + 1) < ((G.2.1 26 : Nat) : Int)) <|
  asrt (0 ≤ w32 (x3 + 2) ∧ w32 (x3 + 2) < ((G.2.1 26 : Nat) : Int)) <|
  asrt (0 ≤ w32 (x3 + 3) ∧ w32 (x3 + 3) < ((G.2.1 26 : Nat) : Int)) <|
  asrt (0 ≤ w32 (x3 + 4) ∧ w32 (x3 + 4) < ((G.2.1 26 : Nat) : Int)) <|
  bnd (f10_state (scr G (w32 (x3 + 1)).toNat) (scr G (w32 (x3 + 2)).toNat) (scr G (w32 (x3 + 3)).toNat) (scr G (w32 (x3 + 4)).toNat) h) fun r111 h112 =>
  asrt (0 ≤ w32 (x3 + 1) ∧ w32 (x3 + 1) < ((G.2.1 26 : Nat) : Int)) <|
  asrt (0 ≤ w32 (x3 + 2) ∧ w32 (x3 + 2) < ((G.2.1 26 : Nat) : Int)) <|
  asrt (0 ≤ w32 (x3 + 3) ∧ w32 (x3 + 3) < ((G.2.1 26 : Nat) : Int)) <|
  asrt (0 ≤ w32 (x3 + 4) ∧ w32 (x3 + 4) < ((G.2.1 26 : Nat) : Int)) <|
  bnd (f11_state (scr G (w32 (x3 + 1)).toNat) (scr G (w32 (x3 + 2)).toNat) (scr G (w32 (x3 + 3)).toNat) (scr G (w32 (x3 + 4)).toNat) h112) fun r119 h120 =>
  if w32 r111 = w32 r119 then
    b14_law_1784 G rec18 x3 h120
  else
    some (0, h120)
set_option maxRecDepth 100000 in
theorem t14_law_514 (l : Launch) (G : Geo) (d : Nat) (hd : 16 ≤ d) (x3 : Int) (rec18 : Int × AH → Option (Int × AH)) (H18 : ∀ (x3 : Int) (h : AH), Den l G m14_law rvI d 18 [some (vS G 25), some (vA G 0), some (vA G 69), some (vI x3)] [] h (rec18 (x3, h))) (h : AH) : Den l G m14_law rvI d 514 [some (vS G 25), some (vA G 0), some (vA G 69), some (vI x3)] [] h (b14_law_514 G rec18 x3 h) := by
  unfold b14_law_514
  refine den_aload_n (pc := 514) d14_law_514 rfl rfl ?_
  refine den_aloadS_n (pc := 515) d14_law_515 rfl rfl ?_
  refine den_iload_n (pc := 516) d14_law_516 rfl rfl ?_
  refine den_iconst (pc := 517) d14_law_517 ?_
  refine den_iadd (pc := 518) d14_law_518 ?_
  refine den_asrt (fun a107 => ?_)
  refine den_scrAt (pc := 519) a107 d14_law_519 ?_
  refine den_aloadS_n (pc := 520) d14_law_520 rfl rfl ?_
  refine den_iload_n (pc := 521) d14_law_521 rfl rfl ?_
  refine den_iconst (pc := 522) d14_law_522 ?_
  refine den_iadd (pc := 523) d14_law_523 ?_
  refine den_asrt (fun a108 => ?_)
  refine den_scrAt (pc := 524) a108 d14_law_524 ?_
  refine den_aloadS_n (pc := 525) d14_law_525 rfl rfl ?_
  refine den_iload_n (pc := 526) d14_law_526 rfl rfl ?_
  refine den_iconst (pc := 527) d14_law_527 ?_
  refine den_iadd (pc := 528) d14_law_528 ?_
  refine den_asrt (fun a109 => ?_)
  refine den_scrAt (pc := 529) a109 d14_law_529 ?_
  refine den_aloadS_n (pc := 530) d14_law_530 rfl rfl ?_
  refine den_iload_n (pc := 531) d14_law_531 rfl rfl ?_
  refine den_iconst (pc := 532) d14_law_532 ?_
  refine den_iadd (pc := 533) d14_law_533 ?_
  refine den_asrt (fun a110 => ?_)
  refine den_scrAt (pc := 534) a110 d14_law_534 ?_
  refine den_callVI (pc := 535) (As := [vI (scr G (w32 (x3 + 1)).toNat), vI (scr G (w32 (x3 + 2)).toNat), vI (scr G (w32 (x3 + 3)).toNat), vI (scr G (w32 (x3 + 4)).toNat)]) fv_14_50 rfl rfl (ok_0 _) (Nat.le_of_ble_eq_true rfl) (Nat.le_trans (by decide) hd) d14_law_535 (c10_state l G (scr G (w32 (x3 + 1)).toNat) (scr G (w32 (x3 + 2)).toNat) (scr G (w32 (x3 + 3)).toNat) (scr G (w32 (x3 + 4)).toNat) h) (fun r111 h112 m113 o114 => ?_)
  refine den_aload_n (pc := 538) d14_law_538 rfl rfl ?_
  refine den_aloadS_n (pc := 539) d14_law_539 rfl rfl ?_
  refine den_iload_n (pc := 540) d14_law_540 rfl rfl ?_
  refine den_iconst (pc := 541) d14_law_541 ?_
  refine den_iadd (pc := 542) d14_law_542 ?_
  refine den_asrt (fun a115 => ?_)
  refine den_scrAt (pc := 543) a115 d14_law_543 ?_
  refine den_aloadS_n (pc := 544) d14_law_544 rfl rfl ?_
  refine den_iload_n (pc := 545) d14_law_545 rfl rfl ?_
  refine den_iconst (pc := 546) d14_law_546 ?_
  refine den_iadd (pc := 547) d14_law_547 ?_
  refine den_asrt (fun a116 => ?_)
  refine den_scrAt (pc := 548) a116 d14_law_548 ?_
  refine den_aloadS_n (pc := 549) d14_law_549 rfl rfl ?_
  refine den_iload_n (pc := 550) d14_law_550 rfl rfl ?_
  refine den_iconst (pc := 551) d14_law_551 ?_
  refine den_iadd (pc := 552) d14_law_552 ?_
  refine den_asrt (fun a117 => ?_)
  refine den_scrAt (pc := 553) a117 d14_law_553 ?_
  refine den_aloadS_n (pc := 554) d14_law_554 rfl rfl ?_
  refine den_iload_n (pc := 555) d14_law_555 rfl rfl ?_
  refine den_iconst (pc := 556) d14_law_556 ?_
  refine den_iadd (pc := 557) d14_law_557 ?_
  refine den_asrt (fun a118 => ?_)
  refine den_scrAt (pc := 558) a118 d14_law_558 ?_
  refine den_callVI (pc := 559) (As := [vI (scr G (w32 (x3 + 1)).toNat), vI (scr G (w32 (x3 + 2)).toNat), vI (scr G (w32 (x3 + 3)).toNat), vI (scr G (w32 (x3 + 4)).toNat)]) fv_14_54 rfl rfl (ok_69 _) (Nat.le_of_ble_eq_true rfl) (Nat.le_trans (by decide) hd) d14_law_559 (c11_state l G (scr G (w32 (x3 + 1)).toNat) (scr G (w32 (x3 + 2)).toNat) (scr G (w32 (x3 + 3)).toNat) (scr G (w32 (x3 + 4)).toNat) h112) (fun r119 h120 m121 o122 => ?_)
  refine den_icmp_eq (pc := 562) (tgt := 1784) d14_law_562 (by decide) rfl rfl (fun _ => ?_) (fun _ => ?_)
  · exact t14_law_1784 l G _ hd x3 rec18 H18 h120
  · refine den_iconst (pc := 565) d14_law_565 ?_
    exact den_zret (pc := 566) rfl (by decide) d14_law_566
def b14_law_628 (G : Geo) (rec18 : Int × AH → Option (Int × AH)) (x3 : Int) (s0 : Int) (s1 : Int) (s2 : Int) (s3 : Int) (s5 : Int) (h : AH) : Option (Int × AH) :=
  bnd (f11_keenest s3 s2 s1 s0 h) fun r123 h124 =>
  if w32 s5 = w32 r123 then
    b14_law_1784 G rec18 x3 h124
  else
    some (0, h124)
set_option maxRecDepth 100000 in
theorem t14_law_628 (l : Launch) (G : Geo) (d : Nat) (hd : 16 ≤ d) (x3 : Int) (s0 : Int) (s1 : Int) (s2 : Int) (s3 : Int) (s5 : Int) (rec18 : Int × AH → Option (Int × AH)) (H18 : ∀ (x3 : Int) (h : AH), Den l G m14_law rvI d 18 [some (vS G 25), some (vA G 0), some (vA G 69), some (vI x3)] [] h (rec18 (x3, h))) (h : AH) : Den l G m14_law rvI d 628 [some (vS G 25), some (vA G 0), some (vA G 69), some (vI x3)] [vI s0, vI s1, vI s2, vI s3, vA G 69, vI s5] h (b14_law_628 G rec18 x3 s0 s1 s2 s3 s5 h) := by
  unfold b14_law_628
  refine den_callVI (pc := 628) (As := [vI s3, vI s2, vI s1, vI s0]) fv_14_59 rfl rfl (ok_69 _) (Nat.le_of_ble_eq_true rfl) (Nat.le_trans (by decide) hd) d14_law_628 (c11_keenest l G s3 s2 s1 s0 h) (fun r123 h124 m125 o126 => ?_)
  refine den_icmp_eq (pc := 631) (tgt := 1784) d14_law_631 (by decide) rfl rfl (fun _ => ?_) (fun _ => ?_)
  · exact t14_law_1784 l G _ hd x3 rec18 H18 h124
  · refine den_iconst (pc := 634) d14_law_634 ?_
    exact den_zret (pc := 635) rfl (by decide) d14_law_635
def b14_law_596 (G : Geo) (rec18 : Int × AH → Option (Int × AH)) (x3 : Int) (s0 : Int) (s1 : Int) (s2 : Int) (s3 : Int) (h : AH) : Option (Int × AH) :=
  bnd (f10_keenest s3 s2 s1 s0 h) fun r127 h128 =>
  asrt (0 ≤ w32 (x3 + 1) ∧ w32 (x3 + 1) < ((G.2.1 26 : Nat) : Int)) <|
  asrt (0 ≤ w32 (x3 + 2) ∧ w32 (x3 + 2) < ((G.2.1 26 : Nat) : Int)) <|
  asrt (0 ≤ w32 (x3 + 3) ∧ w32 (x3 + 3) < ((G.2.1 26 : Nat) : Int)) <|
  asrt (0 ≤ w32 (x3 + 4) ∧ w32 (x3 + 4) < ((G.2.1 26 : Nat) : Int)) <|
  if w32 (scr G (w32 (x3 + 4)).toNat) = 0 then
    b14_law_628 G rec18 x3 0 (scr G (w32 (x3 + 3)).toNat) (scr G (w32 (x3 + 2)).toNat) (scr G (w32 (x3 + 1)).toNat) r127 h128
  else
    b14_law_628 G rec18 x3 1 (scr G (w32 (x3 + 3)).toNat) (scr G (w32 (x3 + 2)).toNat) (scr G (w32 (x3 + 1)).toNat) r127 h128
set_option maxRecDepth 100000 in
theorem t14_law_596 (l : Launch) (G : Geo) (d : Nat) (hd : 16 ≤ d) (x3 : Int) (s0 : Int) (s1 : Int) (s2 : Int) (s3 : Int) (rec18 : Int × AH → Option (Int × AH)) (H18 : ∀ (x3 : Int) (h : AH), Den l G m14_law rvI d 18 [some (vS G 25), some (vA G 0), some (vA G 69), some (vI x3)] [] h (rec18 (x3, h))) (h : AH) : Den l G m14_law rvI d 596 [some (vS G 25), some (vA G 0), some (vA G 69), some (vI x3)] [vI s0, vI s1, vI s2, vI s3, vA G 0] h (b14_law_596 G rec18 x3 s0 s1 s2 s3 h) := by
  unfold b14_law_596
  refine den_callVI (pc := 596) (As := [vI s3, vI s2, vI s1, vI s0]) fv_14_55 rfl rfl (ok_0 _) (Nat.le_of_ble_eq_true rfl) (Nat.le_trans (by decide) hd) d14_law_596 (c10_keenest l G s3 s2 s1 s0 h) (fun r127 h128 m129 o130 => ?_)
  refine den_aload_n (pc := 599) d14_law_599 rfl rfl ?_
  refine den_aloadS_n (pc := 600) d14_law_600 rfl rfl ?_
  refine den_iload_n (pc := 601) d14_law_601 rfl rfl ?_
  refine den_iconst (pc := 602) d14_law_602 ?_
  refine den_iadd (pc := 603) d14_law_603 ?_
  refine den_asrt (fun a131 => ?_)
  refine den_scrAt (pc := 604) a131 d14_law_604 ?_
  refine den_aloadS_n (pc := 605) d14_law_605 rfl rfl ?_
  refine den_iload_n (pc := 606) d14_law_606 rfl rfl ?_
  refine den_iconst (pc := 607) d14_law_607 ?_
  refine den_iadd (pc := 608) d14_law_608 ?_
  refine den_asrt (fun a132 => ?_)
  refine den_scrAt (pc := 609) a132 d14_law_609 ?_
  refine den_aloadS_n (pc := 610) d14_law_610 rfl rfl ?_
  refine den_iload_n (pc := 611) d14_law_611 rfl rfl ?_
  refine den_iconst (pc := 612) d14_law_612 ?_
  refine den_iadd (pc := 613) d14_law_613 ?_
  refine den_asrt (fun a133 => ?_)
  refine den_scrAt (pc := 614) a133 d14_law_614 ?_
  refine den_aloadS_n (pc := 615) d14_law_615 rfl rfl ?_
  refine den_iload_n (pc := 616) d14_law_616 rfl rfl ?_
  refine den_iconst (pc := 617) d14_law_617 ?_
  refine den_iadd (pc := 618) d14_law_618 ?_
  refine den_asrt (fun a134 => ?_)
  refine den_scrAt (pc := 619) a134 d14_law_619 ?_
  refine den_if_eq (pc := 620) (tgt := 627) d14_law_620 (by decide) rfl (fun _ => ?_) (fun _ => ?_)
  · refine den_iconst (pc := 627) d14_law_627 ?_
    exact t14_law_628 l G _ hd x3 0 (scr G (w32 (x3 + 3)).toNat) (scr G (w32 (x3 + 2)).toNat) (scr G (w32 (x3 + 1)).toNat) r127 rec18 H18 h128
  · refine den_iconst (pc := 623) d14_law_623 ?_
    refine den_goto (pc := 624) (tgt := 628) d14_law_624 (by decide) ?_
    exact t14_law_628 l G _ hd x3 1 (scr G (w32 (x3 + 3)).toNat) (scr G (w32 (x3 + 2)).toNat) (scr G (w32 (x3 + 1)).toNat) r127 rec18 H18 h128
def b14_law_567 (G : Geo) (rec18 : Int × AH → Option (Int × AH)) (x3 : Int) (h : AH) : Option (Int × AH) :=
  asrt (0 ≤ w32 (x3 + 1) ∧ w32 (x3 + 1) < ((G.2.1 26 : Nat) : Int)) <|
  asrt (0 ≤ w32 (x3 + 2) ∧ w32 (x3 + 2) < ((G.2.1 26 : Nat) : Int)) <|
  asrt (0 ≤ w32 (x3 + 3) ∧ w32 (x3 + 3) < ((G.2.1 26 : Nat) : Int)) <|
  asrt (0 ≤ w32 (x3 + 4) ∧ w32 (x3 + 4) < ((G.2.1 26 : Nat) : Int)) <|
  if w32 (scr G (w32 (x3 + 4)).toNat) = 0 then
    b14_law_596 G rec18 x3 0 (scr G (w32 (x3 + 3)).toNat) (scr G (w32 (x3 + 2)).toNat) (scr G (w32 (x3 + 1)).toNat) h
  else
    b14_law_596 G rec18 x3 1 (scr G (w32 (x3 + 3)).toNat) (scr G (w32 (x3 + 2)).toNat) (scr G (w32 (x3 + 1)).toNat) h
set_option maxRecDepth 100000 in
theorem t14_law_567 (l : Launch) (G : Geo) (d : Nat) (hd : 16 ≤ d) (x3 : Int) (rec18 : Int × AH → Option (Int × AH)) (H18 : ∀ (x3 : Int) (h : AH), Den l G m14_law rvI d 18 [some (vS G 25), some (vA G 0), some (vA G 69), some (vI x3)] [] h (rec18 (x3, h))) (h : AH) : Den l G m14_law rvI d 567 [some (vS G 25), some (vA G 0), some (vA G 69), some (vI x3)] [] h (b14_law_567 G rec18 x3 h) := by
  unfold b14_law_567
  refine den_aload_n (pc := 567) d14_law_567 rfl rfl ?_
  refine den_aloadS_n (pc := 568) d14_law_568 rfl rfl ?_
  refine den_iload_n (pc := 569) d14_law_569 rfl rfl ?_
  refine den_iconst (pc := 570) d14_law_570 ?_
  refine den_iadd (pc := 571) d14_law_571 ?_
  refine den_asrt (fun a135 => ?_)
  refine den_scrAt (pc := 572) a135 d14_law_572 ?_
  refine den_aloadS_n (pc := 573) d14_law_573 rfl rfl ?_
  refine den_iload_n (pc := 574) d14_law_574 rfl rfl ?_
  refine den_iconst (pc := 575) d14_law_575 ?_
  refine den_iadd (pc := 576) d14_law_576 ?_
  refine den_asrt (fun a136 => ?_)
  refine den_scrAt (pc := 577) a136 d14_law_577 ?_
  refine den_aloadS_n (pc := 578) d14_law_578 rfl rfl ?_
  refine den_iload_n (pc := 579) d14_law_579 rfl rfl ?_
  refine den_iconst (pc := 580) d14_law_580 ?_
  refine den_iadd (pc := 581) d14_law_581 ?_
  refine den_asrt (fun a137 => ?_)
  refine den_scrAt (pc := 582) a137 d14_law_582 ?_
  refine den_aloadS_n (pc := 583) d14_law_583 rfl rfl ?_
  refine den_iload_n (pc := 584) d14_law_584 rfl rfl ?_
  refine den_iconst (pc := 585) d14_law_585 ?_
  refine den_iadd (pc := 586) d14_law_586 ?_
  refine den_asrt (fun a138 => ?_)
  refine den_scrAt (pc := 587) a138 d14_law_587 ?_
  refine den_if_eq (pc := 588) (tgt := 595) d14_law_588 (by decide) rfl (fun _ => ?_) (fun _ => ?_)
  · refine den_iconst (pc := 595) d14_law_595 ?_
    exact t14_law_596 l G _ hd x3 0 (scr G (w32 (x3 + 3)).toNat) (scr G (w32 (x3 + 2)).toNat) (scr G (w32 (x3 + 1)).toNat) rec18 H18 h
  · refine den_iconst (pc := 591) d14_law_591 ?_
    refine den_goto (pc := 592) (tgt := 596) d14_law_592 (by decide) ?_
    exact t14_law_596 l G _ hd x3 1 (scr G (w32 (x3 + 3)).toNat) (scr G (w32 (x3 + 2)).toNat) (scr G (w32 (x3 + 1)).toNat) rec18 H18 h
def b14_law_707 (G : Geo) (rec18 : Int × AH → Option (Int × AH)) (x3 : Int) (s0 : Int) (s1 : Int) (s2 : Int) (s3 : Int) (s4 : Int) (s6 : Int) (h : AH) : Option (Int × AH) :=
  bnd (f11_lasts s4 s3 s2 s1 s0 h) fun r139 h140 =>
  if w32 s6 = w32 r139 then
    b14_law_1784 G rec18 x3 h140
  else
    some (0, h140)
set_option maxRecDepth 100000 in
theorem t14_law_707 (l : Launch) (G : Geo) (d : Nat) (hd : 16 ≤ d) (x3 : Int) (s0 : Int) (s1 : Int) (s2 : Int) (s3 : Int) (s4 : Int) (s6 : Int) (rec18 : Int × AH → Option (Int × AH)) (H18 : ∀ (x3 : Int) (h : AH), Den l G m14_law rvI d 18 [some (vS G 25), some (vA G 0), some (vA G 69), some (vI x3)] [] h (rec18 (x3, h))) (h : AH) : Den l G m14_law rvI d 707 [some (vS G 25), some (vA G 0), some (vA G 69), some (vI x3)] [vI s0, vI s1, vI s2, vI s3, vI s4, vA G 69, vI s6] h (b14_law_707 G rec18 x3 s0 s1 s2 s3 s4 s6 h) := by
  unfold b14_law_707
  refine den_callVI (pc := 707) (As := [vI s4, vI s3, vI s2, vI s1, vI s0]) fv_14_63 rfl rfl (ok_69 _) (Nat.le_of_ble_eq_true rfl) (Nat.le_trans (by decide) hd) d14_law_707 (c11_lasts l G s4 s3 s2 s1 s0 h) (fun r139 h140 m141 o142 => ?_)
  refine den_icmp_eq (pc := 710) (tgt := 1784) d14_law_710 (by decide) rfl rfl (fun _ => ?_) (fun _ => ?_)
  · exact t14_law_1784 l G _ hd x3 rec18 H18 h140
  · refine den_iconst (pc := 713) d14_law_713 ?_
    exact den_zret (pc := 714) rfl (by decide) d14_law_714
def b14_law_670 (G : Geo) (rec18 : Int × AH → Option (Int × AH)) (x3 : Int) (s0 : Int) (s1 : Int) (s2 : Int) (s3 : Int) (s4 : Int) (h : AH) : Option (Int × AH) :=
  bnd (f10_lasts s4 s3 s2 s1 s0 h) fun r143 h144 =>
  asrt (0 ≤ w32 (x3 + 1) ∧ w32 (x3 + 1) < ((G.2.1 26 : Nat) : Int)) <|
  asrt (0 ≤ w32 (x3 + 2) ∧ w32 (x3 + 2) < ((G.2.1 26 : Nat) : Int)) <|
  asrt (0 ≤ w32 (x3 + 3) ∧ w32 (x3 + 3) < ((G.2.1 26 : Nat) : Int)) <|
  asrt (0 ≤ w32 (x3 + 4) ∧ w32 (x3 + 4) < ((G.2.1 26 : Nat) : Int)) <|
  asrt (0 ≤ w32 (x3 + 5) ∧ w32 (x3 + 5) < ((G.2.1 26 : Nat) : Int)) <|
  if w32 (scr G (w32 (x3 + 5)).toNat) = 0 then
    b14_law_707 G rec18 x3 0 (scr G (w32 (x3 + 4)).toNat) (scr G (w32 (x3 + 3)).toNat) (scr G (w32 (x3 + 2)).toNat) (scr G (w32 (x3 + 1)).toNat) r143 h144
  else
    b14_law_707 G rec18 x3 1 (scr G (w32 (x3 + 4)).toNat) (scr G (w32 (x3 + 3)).toNat) (scr G (w32 (x3 + 2)).toNat) (scr G (w32 (x3 + 1)).toNat) r143 h144
set_option maxRecDepth 100000 in
theorem t14_law_670 (l : Launch) (G : Geo) (d : Nat) (hd : 16 ≤ d) (x3 : Int) (s0 : Int) (s1 : Int) (s2 : Int) (s3 : Int) (s4 : Int) (rec18 : Int × AH → Option (Int × AH)) (H18 : ∀ (x3 : Int) (h : AH), Den l G m14_law rvI d 18 [some (vS G 25), some (vA G 0), some (vA G 69), some (vI x3)] [] h (rec18 (x3, h))) (h : AH) : Den l G m14_law rvI d 670 [some (vS G 25), some (vA G 0), some (vA G 69), some (vI x3)] [vI s0, vI s1, vI s2, vI s3, vI s4, vA G 0] h (b14_law_670 G rec18 x3 s0 s1 s2 s3 s4 h) := by
  unfold b14_law_670
  refine den_callVI (pc := 670) (As := [vI s4, vI s3, vI s2, vI s1, vI s0]) fv_14_60 rfl rfl (ok_0 _) (Nat.le_of_ble_eq_true rfl) (Nat.le_trans (by decide) hd) d14_law_670 (c10_lasts l G s4 s3 s2 s1 s0 h) (fun r143 h144 m145 o146 => ?_)
  refine den_aload_n (pc := 673) d14_law_673 rfl rfl ?_
  refine den_aloadS_n (pc := 674) d14_law_674 rfl rfl ?_
  refine den_iload_n (pc := 675) d14_law_675 rfl rfl ?_
  refine den_iconst (pc := 676) d14_law_676 ?_
  refine den_iadd (pc := 677) d14_law_677 ?_
  refine den_asrt (fun a147 => ?_)
  refine den_scrAt (pc := 678) a147 d14_law_678 ?_
  refine den_aloadS_n (pc := 679) d14_law_679 rfl rfl ?_
  refine den_iload_n (pc := 680) d14_law_680 rfl rfl ?_
  refine den_iconst (pc := 681) d14_law_681 ?_
  refine den_iadd (pc := 682) d14_law_682 ?_
  refine den_asrt (fun a148 => ?_)
  refine den_scrAt (pc := 683) a148 d14_law_683 ?_
  refine den_aloadS_n (pc := 684) d14_law_684 rfl rfl ?_
  refine den_iload_n (pc := 685) d14_law_685 rfl rfl ?_
  refine den_iconst (pc := 686) d14_law_686 ?_
  refine den_iadd (pc := 687) d14_law_687 ?_
  refine den_asrt (fun a149 => ?_)
  refine den_scrAt (pc := 688) a149 d14_law_688 ?_
  refine den_aloadS_n (pc := 689) d14_law_689 rfl rfl ?_
  refine den_iload_n (pc := 690) d14_law_690 rfl rfl ?_
  refine den_iconst (pc := 691) d14_law_691 ?_
  refine den_iadd (pc := 692) d14_law_692 ?_
  refine den_asrt (fun a150 => ?_)
  refine den_scrAt (pc := 693) a150 d14_law_693 ?_
  refine den_aloadS_n (pc := 694) d14_law_694 rfl rfl ?_
  refine den_iload_n (pc := 695) d14_law_695 rfl rfl ?_
  refine den_iconst (pc := 696) d14_law_696 ?_
  refine den_iadd (pc := 697) d14_law_697 ?_
  refine den_asrt (fun a151 => ?_)
  refine den_scrAt (pc := 698) a151 d14_law_698 ?_
  refine den_if_eq (pc := 699) (tgt := 706) d14_law_699 (by decide) rfl (fun _ => ?_) (fun _ => ?_)
  · refine den_iconst (pc := 706) d14_law_706 ?_
    exact t14_law_707 l G _ hd x3 0 (scr G (w32 (x3 + 4)).toNat) (scr G (w32 (x3 + 3)).toNat) (scr G (w32 (x3 + 2)).toNat) (scr G (w32 (x3 + 1)).toNat) r143 rec18 H18 h144
  · refine den_iconst (pc := 702) d14_law_702 ?_
    refine den_goto (pc := 703) (tgt := 707) d14_law_703 (by decide) ?_
    exact t14_law_707 l G _ hd x3 1 (scr G (w32 (x3 + 4)).toNat) (scr G (w32 (x3 + 3)).toNat) (scr G (w32 (x3 + 2)).toNat) (scr G (w32 (x3 + 1)).toNat) r143 rec18 H18 h144
def b14_law_636 (G : Geo) (rec18 : Int × AH → Option (Int × AH)) (x3 : Int) (h : AH) : Option (Int × AH) :=
  asrt (0 ≤ w32 (x3 + 1) ∧ w32 (x3 + 1) < ((G.2.1 26 : Nat) : Int)) <|
  asrt (0 ≤ w32 (x3 + 2) ∧ w32 (x3 + 2) < ((G.2.1 26 : Nat) : Int)) <|
  asrt (0 ≤ w32 (x3 + 3) ∧ w32 (x3 + 3) < ((G.2.1 26 : Nat) : Int)) <|
  asrt (0 ≤ w32 (x3 + 4) ∧ w32 (x3 + 4) < ((G.2.1 26 : Nat) : Int)) <|
  asrt (0 ≤ w32 (x3 + 5) ∧ w32 (x3 + 5) < ((G.2.1 26 : Nat) : Int)) <|
  if w32 (scr G (w32 (x3 + 5)).toNat) = 0 then
    b14_law_670 G rec18 x3 0 (scr G (w32 (x3 + 4)).toNat) (scr G (w32 (x3 + 3)).toNat) (scr G (w32 (x3 + 2)).toNat) (scr G (w32 (x3 + 1)).toNat) h
  else
    b14_law_670 G rec18 x3 1 (scr G (w32 (x3 + 4)).toNat) (scr G (w32 (x3 + 3)).toNat) (scr G (w32 (x3 + 2)).toNat) (scr G (w32 (x3 + 1)).toNat) h
set_option maxRecDepth 100000 in
theorem t14_law_636 (l : Launch) (G : Geo) (d : Nat) (hd : 16 ≤ d) (x3 : Int) (rec18 : Int × AH → Option (Int × AH)) (H18 : ∀ (x3 : Int) (h : AH), Den l G m14_law rvI d 18 [some (vS G 25), some (vA G 0), some (vA G 69), some (vI x3)] [] h (rec18 (x3, h))) (h : AH) : Den l G m14_law rvI d 636 [some (vS G 25), some (vA G 0), some (vA G 69), some (vI x3)] [] h (b14_law_636 G rec18 x3 h) := by
  unfold b14_law_636
  refine den_aload_n (pc := 636) d14_law_636 rfl rfl ?_
  refine den_aloadS_n (pc := 637) d14_law_637 rfl rfl ?_
  refine den_iload_n (pc := 638) d14_law_638 rfl rfl ?_
  refine den_iconst (pc := 639) d14_law_639 ?_
  refine den_iadd (pc := 640) d14_law_640 ?_
  refine den_asrt (fun a152 => ?_)
  refine den_scrAt (pc := 641) a152 d14_law_641 ?_
  refine den_aloadS_n (pc := 642) d14_law_642 rfl rfl ?_
  refine den_iload_n (pc := 643) d14_law_643 rfl rfl ?_
  refine den_iconst (pc := 644) d14_law_644 ?_
  refine den_iadd (pc := 645) d14_law_645 ?_
  refine den_asrt (fun a153 => ?_)
  refine den_scrAt (pc := 646) a153 d14_law_646 ?_
  refine den_aloadS_n (pc := 647) d14_law_647 rfl rfl ?_
  refine den_iload_n (pc := 648) d14_law_648 rfl rfl ?_
  refine den_iconst (pc := 649) d14_law_649 ?_
  refine den_iadd (pc := 650) d14_law_650 ?_
  refine den_asrt (fun a154 => ?_)
  refine den_scrAt (pc := 651) a154 d14_law_651 ?_
  refine den_aloadS_n (pc := 652) d14_law_652 rfl rfl ?_
  refine den_iload_n (pc := 653) d14_law_653 rfl rfl ?_
  refine den_iconst (pc := 654) d14_law_654 ?_
  refine den_iadd (pc := 655) d14_law_655 ?_
  refine den_asrt (fun a155 => ?_)
  refine den_scrAt (pc := 656) a155 d14_law_656 ?_
  refine den_aloadS_n (pc := 657) d14_law_657 rfl rfl ?_
  refine den_iload_n (pc := 658) d14_law_658 rfl rfl ?_
  refine den_iconst (pc := 659) d14_law_659 ?_
  refine den_iadd (pc := 660) d14_law_660 ?_
  refine den_asrt (fun a156 => ?_)
  refine den_scrAt (pc := 661) a156 d14_law_661 ?_
  refine den_if_eq (pc := 662) (tgt := 669) d14_law_662 (by decide) rfl (fun _ => ?_) (fun _ => ?_)
  · refine den_iconst (pc := 669) d14_law_669 ?_
    exact t14_law_670 l G _ hd x3 0 (scr G (w32 (x3 + 4)).toNat) (scr G (w32 (x3 + 3)).toNat) (scr G (w32 (x3 + 2)).toNat) (scr G (w32 (x3 + 1)).toNat) rec18 H18 h
  · refine den_iconst (pc := 665) d14_law_665 ?_
    refine den_goto (pc := 666) (tgt := 670) d14_law_666 (by decide) ?_
    exact t14_law_670 l G _ hd x3 1 (scr G (w32 (x3 + 4)).toNat) (scr G (w32 (x3 + 3)).toNat) (scr G (w32 (x3 + 2)).toNat) (scr G (w32 (x3 + 1)).toNat) rec18 H18 h
def b14_law_715 (G : Geo) (rec18 : Int × AH → Option (Int × AH)) (x3 : Int) (h : AH) : Option (Int × AH) :=
  asrt (0 ≤ w32 (x3 + 1) ∧ w32 (x3 + 1) < ((G.2.1 26 : Nat) : Int)) <|
  asrt (0 ≤ w32 (x3 + 2) ∧ w32 (x3 + 2) < ((G.2.1 26 : Nat) : Int)) <|
  asrt (0 ≤ w32 (x3 + 3) ∧ w32 (x3 + 3) < ((G.2.1 26 : Nat) : Int)) <|
  bnd (f10_together (scr G (w32 (x3 + 1)).toNat) (scr G (w32 (x3 + 2)).toNat) (scr G (w32 (x3 + 3)).toNat) h) fun r160 h161 =>
  asrt (0 ≤ w32 (x3 + 1) ∧ w32 (x3 + 1) < ((G.2.1 26 : Nat) : Int)) <|
  asrt (0 ≤ w32 (x3 + 2) ∧ w32 (x3 + 2) < ((G.2.1 26 : Nat) : Int)) <|
  asrt (0 ≤ w32 (x3 + 3) ∧ w32 (x3 + 3) < ((G.2.1 26 : Nat) : Int)) <|
  bnd (f11_together (scr G (w32 (x3 + 1)).toNat) (scr G (w32 (x3 + 2)).toNat) (scr G (w32 (x3 + 3)).toNat) h161) fun r167 h168 =>
  if w32 r160 = w32 r167 then
    b14_law_1784 G rec18 x3 h168
  else
    some (0, h168)
set_option maxRecDepth 100000 in
theorem t14_law_715 (l : Launch) (G : Geo) (d : Nat) (hd : 16 ≤ d) (x3 : Int) (rec18 : Int × AH → Option (Int × AH)) (H18 : ∀ (x3 : Int) (h : AH), Den l G m14_law rvI d 18 [some (vS G 25), some (vA G 0), some (vA G 69), some (vI x3)] [] h (rec18 (x3, h))) (h : AH) : Den l G m14_law rvI d 715 [some (vS G 25), some (vA G 0), some (vA G 69), some (vI x3)] [] h (b14_law_715 G rec18 x3 h) := by
  unfold b14_law_715
  refine den_aload_n (pc := 715) d14_law_715 rfl rfl ?_
  refine den_aloadS_n (pc := 716) d14_law_716 rfl rfl ?_
  refine den_iload_n (pc := 717) d14_law_717 rfl rfl ?_
  refine den_iconst (pc := 718) d14_law_718 ?_
  refine den_iadd (pc := 719) d14_law_719 ?_
  refine den_asrt (fun a157 => ?_)
  refine den_scrAt (pc := 720) a157 d14_law_720 ?_
  refine den_aloadS_n (pc := 721) d14_law_721 rfl rfl ?_
  refine den_iload_n (pc := 722) d14_law_722 rfl rfl ?_
  refine den_iconst (pc := 723) d14_law_723 ?_
  refine den_iadd (pc := 724) d14_law_724 ?_
  refine den_asrt (fun a158 => ?_)
  refine den_scrAt (pc := 725) a158 d14_law_725 ?_
  refine den_aloadS_n (pc := 726) d14_law_726 rfl rfl ?_
  refine den_iload_n (pc := 727) d14_law_727 rfl rfl ?_
  refine den_iconst (pc := 728) d14_law_728 ?_
  refine den_iadd (pc := 729) d14_law_729 ?_
  refine den_asrt (fun a159 => ?_)
  refine den_scrAt (pc := 730) a159 d14_law_730 ?_
  refine den_callVI (pc := 731) (As := [vI (scr G (w32 (x3 + 1)).toNat), vI (scr G (w32 (x3 + 2)).toNat), vI (scr G (w32 (x3 + 3)).toNat)]) fv_14_64 rfl rfl (ok_0 _) (Nat.le_of_ble_eq_true rfl) (Nat.le_trans (by decide) hd) d14_law_731 (c10_together l G (scr G (w32 (x3 + 1)).toNat) (scr G (w32 (x3 + 2)).toNat) (scr G (w32 (x3 + 3)).toNat) h) (fun r160 h161 m162 o163 => ?_)
  refine den_aload_n (pc := 734) d14_law_734 rfl rfl ?_
  refine den_aloadS_n (pc := 735) d14_law_735 rfl rfl ?_
  refine den_iload_n (pc := 736) d14_law_736 rfl rfl ?_
  refine den_iconst (pc := 737) d14_law_737 ?_
  refine den_iadd (pc := 738) d14_law_738 ?_
  refine den_asrt (fun a164 => ?_)
  refine den_scrAt (pc := 739) a164 d14_law_739 ?_
  refine den_aloadS_n (pc := 740) d14_law_740 rfl rfl ?_
  refine den_iload_n (pc := 741) d14_law_741 rfl rfl ?_
  refine den_iconst (pc := 742) d14_law_742 ?_
  refine den_iadd (pc := 743) d14_law_743 ?_
  refine den_asrt (fun a165 => ?_)
  refine den_scrAt (pc := 744) a165 d14_law_744 ?_
  refine den_aloadS_n (pc := 745) d14_law_745 rfl rfl ?_
  refine den_iload_n (pc := 746) d14_law_746 rfl rfl ?_
  refine den_iconst (pc := 747) d14_law_747 ?_
  refine den_iadd (pc := 748) d14_law_748 ?_
  refine den_asrt (fun a166 => ?_)
  refine den_scrAt (pc := 749) a166 d14_law_749 ?_
  refine den_callVI (pc := 750) (As := [vI (scr G (w32 (x3 + 1)).toNat), vI (scr G (w32 (x3 + 2)).toNat), vI (scr G (w32 (x3 + 3)).toNat)]) fv_14_67 rfl rfl (ok_69 _) (Nat.le_of_ble_eq_true rfl) (Nat.le_trans (by decide) hd) d14_law_750 (c11_together l G (scr G (w32 (x3 + 1)).toNat) (scr G (w32 (x3 + 2)).toNat) (scr G (w32 (x3 + 3)).toNat) h161) (fun r167 h168 m169 o170 => ?_)
  refine den_icmp_eq (pc := 753) (tgt := 1784) d14_law_753 (by decide) rfl rfl (fun _ => ?_) (fun _ => ?_)
  · exact t14_law_1784 l G _ hd x3 rec18 H18 h168
  · refine den_iconst (pc := 756) d14_law_756 ?_
    exact den_zret (pc := 757) rfl (by decide) d14_law_757
def b14_law_758 (G : Geo) (rec18 : Int × AH → Option (Int × AH)) (x3 : Int) (h : AH) : Option (Int × AH) :=
  asrt (0 ≤ w32 (x3 + 1) ∧ w32 (x3 + 1) < ((G.2.1 26 : Nat) : Int)) <|
  asrt (0 ≤ w32 (x3 + 2) ∧ w32 (x3 + 2) < ((G.2.1 26 : Nat) : Int)) <|
  bnd (f10_plan (scr G (w32 (x3 + 1)).toNat) (scr G (w32 (x3 + 2)).toNat) h) fun r173 h174 =>
  asrt (0 ≤ w32 (x3 + 1) ∧ w32 (x3 + 1) < ((G.2.1 26 : Nat) : Int)) <|
  asrt (0 ≤ w32 (x3 + 2) ∧ w32 (x3 + 2) < ((G.2.1 26 : Nat) : Int)) <|
  bnd (f11_plan (scr G (w32 (x3 + 1)).toNat) (scr G (w32 (x3 + 2)).toNat) h174) fun r179 h180 =>
  if w32 r173 = w32 r179 then
    b14_law_1784 G rec18 x3 h180
  else
    some (0, h180)
set_option maxRecDepth 100000 in
theorem t14_law_758 (l : Launch) (G : Geo) (d : Nat) (hd : 16 ≤ d) (x3 : Int) (rec18 : Int × AH → Option (Int × AH)) (H18 : ∀ (x3 : Int) (h : AH), Den l G m14_law rvI d 18 [some (vS G 25), some (vA G 0), some (vA G 69), some (vI x3)] [] h (rec18 (x3, h))) (h : AH) : Den l G m14_law rvI d 758 [some (vS G 25), some (vA G 0), some (vA G 69), some (vI x3)] [] h (b14_law_758 G rec18 x3 h) := by
  unfold b14_law_758
  refine den_aload_n (pc := 758) d14_law_758 rfl rfl ?_
  refine den_aloadS_n (pc := 759) d14_law_759 rfl rfl ?_
  refine den_iload_n (pc := 760) d14_law_760 rfl rfl ?_
  refine den_iconst (pc := 761) d14_law_761 ?_
  refine den_iadd (pc := 762) d14_law_762 ?_
  refine den_asrt (fun a171 => ?_)
  refine den_scrAt (pc := 763) a171 d14_law_763 ?_
  refine den_aloadS_n (pc := 764) d14_law_764 rfl rfl ?_
  refine den_iload_n (pc := 765) d14_law_765 rfl rfl ?_
  refine den_iconst (pc := 766) d14_law_766 ?_
  refine den_iadd (pc := 767) d14_law_767 ?_
  refine den_asrt (fun a172 => ?_)
  refine den_scrAt (pc := 768) a172 d14_law_768 ?_
  refine den_callVI (pc := 769) (As := [vI (scr G (w32 (x3 + 1)).toNat), vI (scr G (w32 (x3 + 2)).toNat)]) fv_14_68 rfl rfl (ok_0 _) (Nat.le_of_ble_eq_true rfl) (Nat.le_trans (by decide) hd) d14_law_769 (c10_plan l G (scr G (w32 (x3 + 1)).toNat) (scr G (w32 (x3 + 2)).toNat) h) (fun r173 h174 m175 o176 => ?_)
  refine den_aload_n (pc := 772) d14_law_772 rfl rfl ?_
  refine den_aloadS_n (pc := 773) d14_law_773 rfl rfl ?_
  refine den_iload_n (pc := 774) d14_law_774 rfl rfl ?_
  refine den_iconst (pc := 775) d14_law_775 ?_
  refine den_iadd (pc := 776) d14_law_776 ?_
  refine den_asrt (fun a177 => ?_)
  refine den_scrAt (pc := 777) a177 d14_law_777 ?_
  refine den_aloadS_n (pc := 778) d14_law_778 rfl rfl ?_
  refine den_iload_n (pc := 779) d14_law_779 rfl rfl ?_
  refine den_iconst (pc := 780) d14_law_780 ?_
  refine den_iadd (pc := 781) d14_law_781 ?_
  refine den_asrt (fun a178 => ?_)
  refine den_scrAt (pc := 782) a178 d14_law_782 ?_
  refine den_callVI (pc := 783) (As := [vI (scr G (w32 (x3 + 1)).toNat), vI (scr G (w32 (x3 + 2)).toNat)]) fv_14_71 rfl rfl (ok_69 _) (Nat.le_of_ble_eq_true rfl) (Nat.le_trans (by decide) hd) d14_law_783 (c11_plan l G (scr G (w32 (x3 + 1)).toNat) (scr G (w32 (x3 + 2)).toNat) h174) (fun r179 h180 m181 o182 => ?_)
  refine den_icmp_eq (pc := 786) (tgt := 1784) d14_law_786 (by decide) rfl rfl (fun _ => ?_) (fun _ => ?_)
  · exact t14_law_1784 l G _ hd x3 rec18 H18 h180
  · refine den_iconst (pc := 789) d14_law_789 ?_
    exact den_zret (pc := 790) rfl (by decide) d14_law_790
def b14_law_791 (G : Geo) (rec18 : Int × AH → Option (Int × AH)) (x3 : Int) (h : AH) : Option (Int × AH) :=
  asrt (0 ≤ w32 (x3 + 1) ∧ w32 (x3 + 1) < ((G.2.1 26 : Nat) : Int)) <|
  asrt (0 ≤ w32 (x3 + 2) ∧ w32 (x3 + 2) < ((G.2.1 26 : Nat) : Int)) <|
  bnd (f10_married (scr G (w32 (x3 + 1)).toNat) (scr G (w32 (x3 + 2)).toNat) h) fun r185 h186 =>
  asrt (0 ≤ w32 (x3 + 1) ∧ w32 (x3 + 1) < ((G.2.1 26 : Nat) : Int)) <|
  asrt (0 ≤ w32 (x3 + 2) ∧ w32 (x3 + 2) < ((G.2.1 26 : Nat) : Int)) <|
  bnd (f11_married (scr G (w32 (x3 + 1)).toNat) (scr G (w32 (x3 + 2)).toNat) h186) fun r191 h192 =>
  if w32 r185 = w32 r191 then
    b14_law_1784 G rec18 x3 h192
  else
    some (0, h192)
set_option maxRecDepth 100000 in
theorem t14_law_791 (l : Launch) (G : Geo) (d : Nat) (hd : 16 ≤ d) (x3 : Int) (rec18 : Int × AH → Option (Int × AH)) (H18 : ∀ (x3 : Int) (h : AH), Den l G m14_law rvI d 18 [some (vS G 25), some (vA G 0), some (vA G 69), some (vI x3)] [] h (rec18 (x3, h))) (h : AH) : Den l G m14_law rvI d 791 [some (vS G 25), some (vA G 0), some (vA G 69), some (vI x3)] [] h (b14_law_791 G rec18 x3 h) := by
  unfold b14_law_791
  refine den_aload_n (pc := 791) d14_law_791 rfl rfl ?_
  refine den_aloadS_n (pc := 792) d14_law_792 rfl rfl ?_
  refine den_iload_n (pc := 793) d14_law_793 rfl rfl ?_
  refine den_iconst (pc := 794) d14_law_794 ?_
  refine den_iadd (pc := 795) d14_law_795 ?_
  refine den_asrt (fun a183 => ?_)
  refine den_scrAt (pc := 796) a183 d14_law_796 ?_
  refine den_aloadS_n (pc := 797) d14_law_797 rfl rfl ?_
  refine den_iload_n (pc := 798) d14_law_798 rfl rfl ?_
  refine den_iconst (pc := 799) d14_law_799 ?_
  refine den_iadd (pc := 800) d14_law_800 ?_
  refine den_asrt (fun a184 => ?_)
  refine den_scrAt (pc := 801) a184 d14_law_801 ?_
  refine den_callVI (pc := 802) (As := [vI (scr G (w32 (x3 + 1)).toNat), vI (scr G (w32 (x3 + 2)).toNat)]) fv_14_72 rfl rfl (ok_0 _) (Nat.le_of_ble_eq_true rfl) (Nat.le_trans (by decide) hd) d14_law_802 (c10_married l G (scr G (w32 (x3 + 1)).toNat) (scr G (w32 (x3 + 2)).toNat) h) (fun r185 h186 m187 o188 => ?_)
  refine den_aload_n (pc := 805) d14_law_805 rfl rfl ?_
  refine den_aloadS_n (pc := 806) d14_law_806 rfl rfl ?_
  refine den_iload_n (pc := 807) d14_law_807 rfl rfl ?_
  refine den_iconst (pc := 808) d14_law_808 ?_
  refine den_iadd (pc := 809) d14_law_809 ?_
  refine den_asrt (fun a189 => ?_)
  refine den_scrAt (pc := 810) a189 d14_law_810 ?_
  refine den_aloadS_n (pc := 811) d14_law_811 rfl rfl ?_
  refine den_iload_n (pc := 812) d14_law_812 rfl rfl ?_
  refine den_iconst (pc := 813) d14_law_813 ?_
  refine den_iadd (pc := 814) d14_law_814 ?_
  refine den_asrt (fun a190 => ?_)
  refine den_scrAt (pc := 815) a190 d14_law_815 ?_
  refine den_callVI (pc := 816) (As := [vI (scr G (w32 (x3 + 1)).toNat), vI (scr G (w32 (x3 + 2)).toNat)]) fv_14_75 rfl rfl (ok_69 _) (Nat.le_of_ble_eq_true rfl) (Nat.le_trans (by decide) hd) d14_law_816 (c11_married l G (scr G (w32 (x3 + 1)).toNat) (scr G (w32 (x3 + 2)).toNat) h186) (fun r191 h192 m193 o194 => ?_)
  refine den_icmp_eq (pc := 819) (tgt := 1784) d14_law_819 (by decide) rfl rfl (fun _ => ?_) (fun _ => ?_)
  · exact t14_law_1784 l G _ hd x3 rec18 H18 h192
  · refine den_iconst (pc := 822) d14_law_822 ?_
    exact den_zret (pc := 823) rfl (by decide) d14_law_823
def b14_law_907 (G : Geo) (rec18 : Int × AH → Option (Int × AH)) (x3 : Int) (s0 : Int) (s1 : Int) (s2 : Int) (s3 : Int) (s4 : Int) (s5 : Int) (s7 : Int) (h : AH) : Option (Int × AH) :=
  bnd (f11_hopes s5 s4 s3 s2 s1 s0 h) fun r195 h196 =>
  if w32 (cmp64 s7 r195) = 0 then
    b14_law_1784 G rec18 x3 h196
  else
    some (0, h196)
set_option maxRecDepth 100000 in
theorem t14_law_907 (l : Launch) (G : Geo) (d : Nat) (hd : 16 ≤ d) (x3 : Int) (s0 : Int) (s1 : Int) (s2 : Int) (s3 : Int) (s4 : Int) (s5 : Int) (s7 : Int) (rec18 : Int × AH → Option (Int × AH)) (H18 : ∀ (x3 : Int) (h : AH), Den l G m14_law rvI d 18 [some (vS G 25), some (vA G 0), some (vA G 69), some (vI x3)] [] h (rec18 (x3, h))) (h : AH) : Den l G m14_law rvI d 907 [some (vS G 25), some (vA G 0), some (vA G 69), some (vI x3)] [vI s0, vI s1, vI s2, vI s3, vI s4, vI s5, vA G 69, vJ s7] h (b14_law_907 G rec18 x3 s0 s1 s2 s3 s4 s5 s7 h) := by
  unfold b14_law_907
  refine den_callVJ (pc := 907) (As := [vI s5, vI s4, vI s3, vI s2, vI s1, vI s0]) fv_14_80 rfl rfl (ok_69 _) (Nat.le_of_ble_eq_true rfl) (Nat.le_trans (by decide) hd) d14_law_907 (c11_hopes l G s5 s4 s3 s2 s1 s0 h) (fun r195 h196 m197 o198 => ?_)
  refine den_lcmp (pc := 910) d14_law_910 ?_
  refine den_if_eq (pc := 911) (tgt := 1784) d14_law_911 (by decide) rfl (fun _ => ?_) (fun _ => ?_)
  · exact t14_law_1784 l G _ hd x3 rec18 H18 h196
  · refine den_iconst (pc := 914) d14_law_914 ?_
    exact den_zret (pc := 915) rfl (by decide) d14_law_915
def b14_law_864 (G : Geo) (rec18 : Int × AH → Option (Int × AH)) (x3 : Int) (s0 : Int) (s1 : Int) (s2 : Int) (s3 : Int) (s4 : Int) (s5 : Int) (h : AH) : Option (Int × AH) :=
  bnd (f10_hopes s5 s4 s3 s2 s1 s0 h) fun r199 h200 =>
  asrt (0 ≤ w32 (x3 + 1) ∧ w32 (x3 + 1) < ((G.2.1 26 : Nat) : Int)) <|
  asrt (0 ≤ w32 (x3 + 2) ∧ w32 (x3 + 2) < ((G.2.1 26 : Nat) : Int)) <|
  asrt (0 ≤ w32 (x3 + 3) ∧ w32 (x3 + 3) < ((G.2.1 26 : Nat) : Int)) <|
  asrt (0 ≤ w32 (x3 + 4) ∧ w32 (x3 + 4) < ((G.2.1 26 : Nat) : Int)) <|
  asrt (0 ≤ w32 (x3 + 5) ∧ w32 (x3 + 5) < ((G.2.1 26 : Nat) : Int)) <|
  asrt (0 ≤ w32 (x3 + 6) ∧ w32 (x3 + 6) < ((G.2.1 26 : Nat) : Int)) <|
  if w32 (scr G (w32 (x3 + 6)).toNat) = 0 then
    b14_law_907 G rec18 x3 0 (scr G (w32 (x3 + 5)).toNat) (scr G (w32 (x3 + 4)).toNat) (scr G (w32 (x3 + 3)).toNat) (scr G (w32 (x3 + 2)).toNat) (scr G (w32 (x3 + 1)).toNat) r199 h200
  else
    b14_law_907 G rec18 x3 1 (scr G (w32 (x3 + 5)).toNat) (scr G (w32 (x3 + 4)).toNat) (scr G (w32 (x3 + 3)).toNat) (scr G (w32 (x3 + 2)).toNat) (scr G (w32 (x3 + 1)).toNat) r199 h200
set_option maxRecDepth 100000 in
theorem t14_law_864 (l : Launch) (G : Geo) (d : Nat) (hd : 16 ≤ d) (x3 : Int) (s0 : Int) (s1 : Int) (s2 : Int) (s3 : Int) (s4 : Int) (s5 : Int) (rec18 : Int × AH → Option (Int × AH)) (H18 : ∀ (x3 : Int) (h : AH), Den l G m14_law rvI d 18 [some (vS G 25), some (vA G 0), some (vA G 69), some (vI x3)] [] h (rec18 (x3, h))) (h : AH) : Den l G m14_law rvI d 864 [some (vS G 25), some (vA G 0), some (vA G 69), some (vI x3)] [vI s0, vI s1, vI s2, vI s3, vI s4, vI s5, vA G 0] h (b14_law_864 G rec18 x3 s0 s1 s2 s3 s4 s5 h) := by
  unfold b14_law_864
  refine den_callVJ (pc := 864) (As := [vI s5, vI s4, vI s3, vI s2, vI s1, vI s0]) fv_14_76 rfl rfl (ok_0 _) (Nat.le_of_ble_eq_true rfl) (Nat.le_trans (by decide) hd) d14_law_864 (c10_hopes l G s5 s4 s3 s2 s1 s0 h) (fun r199 h200 m201 o202 => ?_)
  refine den_aload_n (pc := 867) d14_law_867 rfl rfl ?_
  refine den_aloadS_n (pc := 868) d14_law_868 rfl rfl ?_
  refine den_iload_n (pc := 869) d14_law_869 rfl rfl ?_
  refine den_iconst (pc := 870) d14_law_870 ?_
  refine den_iadd (pc := 871) d14_law_871 ?_
  refine den_asrt (fun a203 => ?_)
  refine den_scrAt (pc := 872) a203 d14_law_872 ?_
  refine den_aloadS_n (pc := 873) d14_law_873 rfl rfl ?_
  refine den_iload_n (pc := 874) d14_law_874 rfl rfl ?_
  refine den_iconst (pc := 875) d14_law_875 ?_
  refine den_iadd (pc := 876) d14_law_876 ?_
  refine den_asrt (fun a204 => ?_)
  refine den_scrAt (pc := 877) a204 d14_law_877 ?_
  refine den_aloadS_n (pc := 878) d14_law_878 rfl rfl ?_
  refine den_iload_n (pc := 879) d14_law_879 rfl rfl ?_
  refine den_iconst (pc := 880) d14_law_880 ?_
  refine den_iadd (pc := 881) d14_law_881 ?_
  refine den_asrt (fun a205 => ?_)
  refine den_scrAt (pc := 882) a205 d14_law_882 ?_
  refine den_aloadS_n (pc := 883) d14_law_883 rfl rfl ?_
  refine den_iload_n (pc := 884) d14_law_884 rfl rfl ?_
  refine den_iconst (pc := 885) d14_law_885 ?_
  refine den_iadd (pc := 886) d14_law_886 ?_
  refine den_asrt (fun a206 => ?_)
  refine den_scrAt (pc := 887) a206 d14_law_887 ?_
  refine den_aloadS_n (pc := 888) d14_law_888 rfl rfl ?_
  refine den_iload_n (pc := 889) d14_law_889 rfl rfl ?_
  refine den_iconst (pc := 890) d14_law_890 ?_
  refine den_iadd (pc := 891) d14_law_891 ?_
  refine den_asrt (fun a207 => ?_)
  refine den_scrAt (pc := 892) a207 d14_law_892 ?_
  refine den_aloadS_n (pc := 893) d14_law_893 rfl rfl ?_
  refine den_iload_n (pc := 894) d14_law_894 rfl rfl ?_
  refine den_bipush (pc := 895) d14_law_895 (by decide) ?_
  refine den_iadd (pc := 897) d14_law_897 ?_
  refine den_asrt (fun a208 => ?_)
  refine den_scrAt (pc := 898) a208 d14_law_898 ?_
  refine den_if_eq (pc := 899) (tgt := 906) d14_law_899 (by decide) rfl (fun _ => ?_) (fun _ => ?_)
  · refine den_iconst (pc := 906) d14_law_906 ?_
    exact t14_law_907 l G _ hd x3 0 (scr G (w32 (x3 + 5)).toNat) (scr G (w32 (x3 + 4)).toNat) (scr G (w32 (x3 + 3)).toNat) (scr G (w32 (x3 + 2)).toNat) (scr G (w32 (x3 + 1)).toNat) r199 rec18 H18 h200
  · refine den_iconst (pc := 902) d14_law_902 ?_
    refine den_goto (pc := 903) (tgt := 907) d14_law_903 (by decide) ?_
    exact t14_law_907 l G _ hd x3 1 (scr G (w32 (x3 + 5)).toNat) (scr G (w32 (x3 + 4)).toNat) (scr G (w32 (x3 + 3)).toNat) (scr G (w32 (x3 + 2)).toNat) (scr G (w32 (x3 + 1)).toNat) r199 rec18 H18 h200
def b14_law_824 (G : Geo) (rec18 : Int × AH → Option (Int × AH)) (x3 : Int) (h : AH) : Option (Int × AH) :=
  asrt (0 ≤ w32 (x3 + 1) ∧ w32 (x3 + 1) < ((G.2.1 26 : Nat) : Int)) <|
  asrt (0 ≤ w32 (x3 + 2) ∧ w32 (x3 + 2) < ((G.2.1 26 : Nat) : Int)) <|
  asrt (0 ≤ w32 (x3 + 3) ∧ w32 (x3 + 3) < ((G.2.1 26 : Nat) : Int)) <|
  asrt (0 ≤ w32 (x3 + 4) ∧ w32 (x3 + 4) < ((G.2.1 26 : Nat) : Int)) <|
  asrt (0 ≤ w32 (x3 + 5) ∧ w32 (x3 + 5) < ((G.2.1 26 : Nat) : Int)) <|
  asrt (0 ≤ w32 (x3 + 6) ∧ w32 (x3 + 6) < ((G.2.1 26 : Nat) : Int)) <|
  if w32 (scr G (w32 (x3 + 6)).toNat) = 0 then
    b14_law_864 G rec18 x3 0 (scr G (w32 (x3 + 5)).toNat) (scr G (w32 (x3 + 4)).toNat) (scr G (w32 (x3 + 3)).toNat) (scr G (w32 (x3 + 2)).toNat) (scr G (w32 (x3 + 1)).toNat) h
  else
    b14_law_864 G rec18 x3 1 (scr G (w32 (x3 + 5)).toNat) (scr G (w32 (x3 + 4)).toNat) (scr G (w32 (x3 + 3)).toNat) (scr G (w32 (x3 + 2)).toNat) (scr G (w32 (x3 + 1)).toNat) h
set_option maxRecDepth 100000 in
theorem t14_law_824 (l : Launch) (G : Geo) (d : Nat) (hd : 16 ≤ d) (x3 : Int) (rec18 : Int × AH → Option (Int × AH)) (H18 : ∀ (x3 : Int) (h : AH), Den l G m14_law rvI d 18 [some (vS G 25), some (vA G 0), some (vA G 69), some (vI x3)] [] h (rec18 (x3, h))) (h : AH) : Den l G m14_law rvI d 824 [some (vS G 25), some (vA G 0), some (vA G 69), some (vI x3)] [] h (b14_law_824 G rec18 x3 h) := by
  unfold b14_law_824
  refine den_aload_n (pc := 824) d14_law_824 rfl rfl ?_
  refine den_aloadS_n (pc := 825) d14_law_825 rfl rfl ?_
  refine den_iload_n (pc := 826) d14_law_826 rfl rfl ?_
  refine den_iconst (pc := 827) d14_law_827 ?_
  refine den_iadd (pc := 828) d14_law_828 ?_
  refine den_asrt (fun a209 => ?_)
  refine den_scrAt (pc := 829) a209 d14_law_829 ?_
  refine den_aloadS_n (pc := 830) d14_law_830 rfl rfl ?_
  refine den_iload_n (pc := 831) d14_law_831 rfl rfl ?_
  refine den_iconst (pc := 832) d14_law_832 ?_
  refine den_iadd (pc := 833) d14_law_833 ?_
  refine den_asrt (fun a210 => ?_)
  refine den_scrAt (pc := 834) a210 d14_law_834 ?_
  refine den_aloadS_n (pc := 835) d14_law_835 rfl rfl ?_
  refine den_iload_n (pc := 836) d14_law_836 rfl rfl ?_
  refine den_iconst (pc := 837) d14_law_837 ?_
  refine den_iadd (pc := 838) d14_law_838 ?_
  refine den_asrt (fun a211 => ?_)
  refine den_scrAt (pc := 839) a211 d14_law_839 ?_
  refine den_aloadS_n (pc := 840) d14_law_840 rfl rfl ?_
  refine den_iload_n (pc := 841) d14_law_841 rfl rfl ?_
  refine den_iconst (pc := 842) d14_law_842 ?_
  refine den_iadd (pc := 843) d14_law_843 ?_
  refine den_asrt (fun a212 => ?_)
  refine den_scrAt (pc := 844) a212 d14_law_844 ?_
  refine den_aloadS_n (pc := 845) d14_law_845 rfl rfl ?_
  refine den_iload_n (pc := 846) d14_law_846 rfl rfl ?_
  refine den_iconst (pc := 847) d14_law_847 ?_
  refine den_iadd (pc := 848) d14_law_848 ?_
  refine den_asrt (fun a213 => ?_)
  refine den_scrAt (pc := 849) a213 d14_law_849 ?_
  refine den_aloadS_n (pc := 850) d14_law_850 rfl rfl ?_
  refine den_iload_n (pc := 851) d14_law_851 rfl rfl ?_
  refine den_bipush (pc := 852) d14_law_852 (by decide) ?_
  refine den_iadd (pc := 854) d14_law_854 ?_
  refine den_asrt (fun a214 => ?_)
  refine den_scrAt (pc := 855) a214 d14_law_855 ?_
  refine den_if_eq (pc := 856) (tgt := 863) d14_law_856 (by decide) rfl (fun _ => ?_) (fun _ => ?_)
  · refine den_iconst (pc := 863) d14_law_863 ?_
    exact t14_law_864 l G _ hd x3 0 (scr G (w32 (x3 + 5)).toNat) (scr G (w32 (x3 + 4)).toNat) (scr G (w32 (x3 + 3)).toNat) (scr G (w32 (x3 + 2)).toNat) (scr G (w32 (x3 + 1)).toNat) rec18 H18 h
  · refine den_iconst (pc := 859) d14_law_859 ?_
    refine den_goto (pc := 860) (tgt := 864) d14_law_860 (by decide) ?_
    exact t14_law_864 l G _ hd x3 1 (scr G (w32 (x3 + 5)).toNat) (scr G (w32 (x3 + 4)).toNat) (scr G (w32 (x3 + 3)).toNat) (scr G (w32 (x3 + 2)).toNat) (scr G (w32 (x3 + 1)).toNat) rec18 H18 h
def b14_law_916 (G : Geo) (rec18 : Int × AH → Option (Int × AH)) (x3 : Int) (h : AH) : Option (Int × AH) :=
  asrt (0 ≤ w32 (x3 + 1) ∧ w32 (x3 + 1) < ((G.2.1 26 : Nat) : Int)) <|
  asrt (0 ≤ w32 (x3 + 2) ∧ w32 (x3 + 2) < ((G.2.1 26 : Nat) : Int)) <|
  asrt (0 ≤ w32 (x3 + 3) ∧ w32 (x3 + 3) < ((G.2.1 26 : Nat) : Int)) <|
  bnd (f10_fact (scr G (w32 (x3 + 1)).toNat) (scr G (w32 (x3 + 2)).toNat) (scr G (w32 (x3 + 3)).toNat) h) fun r218 h219 =>
  asrt (0 ≤ w32 (x3 + 1) ∧ w32 (x3 + 1) < ((G.2.1 26 : Nat) : Int)) <|
  asrt (0 ≤ w32 (x3 + 2) ∧ w32 (x3 + 2) < ((G.2.1 26 : Nat) : Int)) <|
  asrt (0 ≤ w32 (x3 + 3) ∧ w32 (x3 + 3) < ((G.2.1 26 : Nat) : Int)) <|
  bnd (f11_fact (scr G (w32 (x3 + 1)).toNat) (scr G (w32 (x3 + 2)).toNat) (scr G (w32 (x3 + 3)).toNat) h219) fun r225 h226 =>
  if w32 r218 = w32 r225 then
    b14_law_1784 G rec18 x3 h226
  else
    some (0, h226)
set_option maxRecDepth 100000 in
theorem t14_law_916 (l : Launch) (G : Geo) (d : Nat) (hd : 16 ≤ d) (x3 : Int) (rec18 : Int × AH → Option (Int × AH)) (H18 : ∀ (x3 : Int) (h : AH), Den l G m14_law rvI d 18 [some (vS G 25), some (vA G 0), some (vA G 69), some (vI x3)] [] h (rec18 (x3, h))) (h : AH) : Den l G m14_law rvI d 916 [some (vS G 25), some (vA G 0), some (vA G 69), some (vI x3)] [] h (b14_law_916 G rec18 x3 h) := by
  unfold b14_law_916
  refine den_aload_n (pc := 916) d14_law_916 rfl rfl ?_
  refine den_aloadS_n (pc := 917) d14_law_917 rfl rfl ?_
  refine den_iload_n (pc := 918) d14_law_918 rfl rfl ?_
  refine den_iconst (pc := 919) d14_law_919 ?_
  refine den_iadd (pc := 920) d14_law_920 ?_
  refine den_asrt (fun a215 => ?_)
  refine den_scrAt (pc := 921) a215 d14_law_921 ?_
  refine den_aloadS_n (pc := 922) d14_law_922 rfl rfl ?_
  refine den_iload_n (pc := 923) d14_law_923 rfl rfl ?_
  refine den_iconst (pc := 924) d14_law_924 ?_
  refine den_iadd (pc := 925) d14_law_925 ?_
  refine den_asrt (fun a216 => ?_)
  refine den_scrAt (pc := 926) a216 d14_law_926 ?_
  refine den_aloadS_n (pc := 927) d14_law_927 rfl rfl ?_
  refine den_iload_n (pc := 928) d14_law_928 rfl rfl ?_
  refine den_iconst (pc := 929) d14_law_929 ?_
  refine den_iadd (pc := 930) d14_law_930 ?_
  refine den_asrt (fun a217 => ?_)
  refine den_scrAt (pc := 931) a217 d14_law_931 ?_
  refine den_callVI (pc := 932) (As := [vI (scr G (w32 (x3 + 1)).toNat), vI (scr G (w32 (x3 + 2)).toNat), vI (scr G (w32 (x3 + 3)).toNat)]) fv_14_81 rfl rfl (ok_0 _) (Nat.le_of_ble_eq_true rfl) (Nat.le_trans (by decide) hd) d14_law_932 (c10_fact l G (scr G (w32 (x3 + 1)).toNat) (scr G (w32 (x3 + 2)).toNat) (scr G (w32 (x3 + 3)).toNat) h) (fun r218 h219 m220 o221 => ?_)
  refine den_aload_n (pc := 935) d14_law_935 rfl rfl ?_
  refine den_aloadS_n (pc := 936) d14_law_936 rfl rfl ?_
  refine den_iload_n (pc := 937) d14_law_937 rfl rfl ?_
  refine den_iconst (pc := 938) d14_law_938 ?_
  refine den_iadd (pc := 939) d14_law_939 ?_
  refine den_asrt (fun a222 => ?_)
  refine den_scrAt (pc := 940) a222 d14_law_940 ?_
  refine den_aloadS_n (pc := 941) d14_law_941 rfl rfl ?_
  refine den_iload_n (pc := 942) d14_law_942 rfl rfl ?_
  refine den_iconst (pc := 943) d14_law_943 ?_
  refine den_iadd (pc := 944) d14_law_944 ?_
  refine den_asrt (fun a223 => ?_)
  refine den_scrAt (pc := 945) a223 d14_law_945 ?_
  refine den_aloadS_n (pc := 946) d14_law_946 rfl rfl ?_
  refine den_iload_n (pc := 947) d14_law_947 rfl rfl ?_
  refine den_iconst (pc := 948) d14_law_948 ?_
  refine den_iadd (pc := 949) d14_law_949 ?_
  refine den_asrt (fun a224 => ?_)
  refine den_scrAt (pc := 950) a224 d14_law_950 ?_
  refine den_callVI (pc := 951) (As := [vI (scr G (w32 (x3 + 1)).toNat), vI (scr G (w32 (x3 + 2)).toNat), vI (scr G (w32 (x3 + 3)).toNat)]) fv_14_84 rfl rfl (ok_69 _) (Nat.le_of_ble_eq_true rfl) (Nat.le_trans (by decide) hd) d14_law_951 (c11_fact l G (scr G (w32 (x3 + 1)).toNat) (scr G (w32 (x3 + 2)).toNat) (scr G (w32 (x3 + 3)).toNat) h219) (fun r225 h226 m227 o228 => ?_)
  refine den_icmp_eq (pc := 954) (tgt := 1784) d14_law_954 (by decide) rfl rfl (fun _ => ?_) (fun _ => ?_)
  · exact t14_law_1784 l G _ hd x3 rec18 H18 h226
  · refine den_iconst (pc := 957) d14_law_957 ?_
    exact den_zret (pc := 958) rfl (by decide) d14_law_958
def b14_law_959 (G : Geo) (rec18 : Int × AH → Option (Int × AH)) (x3 : Int) (h : AH) : Option (Int × AH) :=
  asrt (0 ≤ w32 (x3 + 1) ∧ w32 (x3 + 1) < ((G.2.1 26 : Nat) : Int)) <|
  asrt (0 ≤ w32 (x3 + 2) ∧ w32 (x3 + 2) < ((G.2.1 26 : Nat) : Int)) <|
  asrt (0 ≤ w32 (x3 + 3) ∧ w32 (x3 + 3) < ((G.2.1 26 : Nat) : Int)) <|
  bnd (f10_fits (scr G (w32 (x3 + 1)).toNat) (scr G (w32 (x3 + 2)).toNat) (scr G (w32 (x3 + 3)).toNat) h) fun r232 h233 =>
  asrt (0 ≤ w32 (x3 + 1) ∧ w32 (x3 + 1) < ((G.2.1 26 : Nat) : Int)) <|
  asrt (0 ≤ w32 (x3 + 2) ∧ w32 (x3 + 2) < ((G.2.1 26 : Nat) : Int)) <|
  asrt (0 ≤ w32 (x3 + 3) ∧ w32 (x3 + 3) < ((G.2.1 26 : Nat) : Int)) <|
  bnd (f11_fits (scr G (w32 (x3 + 1)).toNat) (scr G (w32 (x3 + 2)).toNat) (scr G (w32 (x3 + 3)).toNat) h233) fun r239 h240 =>
  if w32 r232 = w32 r239 then
    b14_law_1784 G rec18 x3 h240
  else
    some (0, h240)
set_option maxRecDepth 100000 in
theorem t14_law_959 (l : Launch) (G : Geo) (d : Nat) (hd : 16 ≤ d) (x3 : Int) (rec18 : Int × AH → Option (Int × AH)) (H18 : ∀ (x3 : Int) (h : AH), Den l G m14_law rvI d 18 [some (vS G 25), some (vA G 0), some (vA G 69), some (vI x3)] [] h (rec18 (x3, h))) (h : AH) : Den l G m14_law rvI d 959 [some (vS G 25), some (vA G 0), some (vA G 69), some (vI x3)] [] h (b14_law_959 G rec18 x3 h) := by
  unfold b14_law_959
  refine den_aload_n (pc := 959) d14_law_959 rfl rfl ?_
  refine den_aloadS_n (pc := 960) d14_law_960 rfl rfl ?_
  refine den_iload_n (pc := 961) d14_law_961 rfl rfl ?_
  refine den_iconst (pc := 962) d14_law_962 ?_
  refine den_iadd (pc := 963) d14_law_963 ?_
  refine den_asrt (fun a229 => ?_)
  refine den_scrAt (pc := 964) a229 d14_law_964 ?_
  refine den_aloadS_n (pc := 965) d14_law_965 rfl rfl ?_
  refine den_iload_n (pc := 966) d14_law_966 rfl rfl ?_
  refine den_iconst (pc := 967) d14_law_967 ?_
  refine den_iadd (pc := 968) d14_law_968 ?_
  refine den_asrt (fun a230 => ?_)
  refine den_scrAt (pc := 969) a230 d14_law_969 ?_
  refine den_aloadS_n (pc := 970) d14_law_970 rfl rfl ?_
  refine den_iload_n (pc := 971) d14_law_971 rfl rfl ?_
  refine den_iconst (pc := 972) d14_law_972 ?_
  refine den_iadd (pc := 973) d14_law_973 ?_
  refine den_asrt (fun a231 => ?_)
  refine den_scrAt (pc := 974) a231 d14_law_974 ?_
  refine den_callVI (pc := 975) (As := [vI (scr G (w32 (x3 + 1)).toNat), vI (scr G (w32 (x3 + 2)).toNat), vI (scr G (w32 (x3 + 3)).toNat)]) fv_14_85 rfl rfl (ok_0 _) (Nat.le_of_ble_eq_true rfl) (Nat.le_trans (by decide) hd) d14_law_975 (c10_fits l G (scr G (w32 (x3 + 1)).toNat) (scr G (w32 (x3 + 2)).toNat) (scr G (w32 (x3 + 3)).toNat) h) (fun r232 h233 m234 o235 => ?_)
  refine den_aload_n (pc := 978) d14_law_978 rfl rfl ?_
  refine den_aloadS_n (pc := 979) d14_law_979 rfl rfl ?_
  refine den_iload_n (pc := 980) d14_law_980 rfl rfl ?_
  refine den_iconst (pc := 981) d14_law_981 ?_
  refine den_iadd (pc := 982) d14_law_982 ?_
  refine den_asrt (fun a236 => ?_)
  refine den_scrAt (pc := 983) a236 d14_law_983 ?_
  refine den_aloadS_n (pc := 984) d14_law_984 rfl rfl ?_
  refine den_iload_n (pc := 985) d14_law_985 rfl rfl ?_
  refine den_iconst (pc := 986) d14_law_986 ?_
  refine den_iadd (pc := 987) d14_law_987 ?_
  refine den_asrt (fun a237 => ?_)
  refine den_scrAt (pc := 988) a237 d14_law_988 ?_
  refine den_aloadS_n (pc := 989) d14_law_989 rfl rfl ?_
  refine den_iload_n (pc := 990) d14_law_990 rfl rfl ?_
  refine den_iconst (pc := 991) d14_law_991 ?_
  refine den_iadd (pc := 992) d14_law_992 ?_
  refine den_asrt (fun a238 => ?_)
  refine den_scrAt (pc := 993) a238 d14_law_993 ?_
  refine den_callVI (pc := 994) (As := [vI (scr G (w32 (x3 + 1)).toNat), vI (scr G (w32 (x3 + 2)).toNat), vI (scr G (w32 (x3 + 3)).toNat)]) fv_14_88 rfl rfl (ok_69 _) (Nat.le_of_ble_eq_true rfl) (Nat.le_trans (by decide) hd) d14_law_994 (c11_fits l G (scr G (w32 (x3 + 1)).toNat) (scr G (w32 (x3 + 2)).toNat) (scr G (w32 (x3 + 3)).toNat) h233) (fun r239 h240 m241 o242 => ?_)
  refine den_icmp_eq (pc := 997) (tgt := 1784) d14_law_997 (by decide) rfl rfl (fun _ => ?_) (fun _ => ?_)
  · exact t14_law_1784 l G _ hd x3 rec18 H18 h240
  · refine den_iconst (pc := 1000) d14_law_1000 ?_
    exact den_zret (pc := 1001) rfl (by decide) d14_law_1001
def b14_law_1002 (G : Geo) (rec18 : Int × AH → Option (Int × AH)) (x3 : Int) (h : AH) : Option (Int × AH) :=
  asrt (0 ≤ w32 (x3 + 1) ∧ w32 (x3 + 1) < ((G.2.1 26 : Nat) : Int)) <|
  asrt (0 ≤ w32 (x3 + 2) ∧ w32 (x3 + 2) < ((G.2.1 26 : Nat) : Int)) <|
  asrt (0 ≤ w32 (x3 + 3) ∧ w32 (x3 + 3) < ((G.2.1 26 : Nat) : Int)) <|
  asrt (0 ≤ w32 (x3 + 4) ∧ w32 (x3 + 4) < ((G.2.1 26 : Nat) : Int)) <|
  bnd (f10_drawn (scr G (w32 (x3 + 1)).toNat) (scr G (w32 (x3 + 2)).toNat) (scr G (w32 (x3 + 3)).toNat) (scr G (w32 (x3 + 4)).toNat) h) fun r247 h248 =>
  asrt (0 ≤ w32 (x3 + 1) ∧ w32 (x3 + 1) < ((G.2.1 26 : Nat) : Int)) <|
  asrt (0 ≤ w32 (x3 + 2) ∧ w32 (x3 + 2) < ((G.2.1 26 : Nat) : Int)) <|
  asrt (0 ≤ w32 (x3 + 3) ∧ w32 (x3 + 3) < ((G.2.1 26 : Nat) : Int)) <|
  asrt (0 ≤ w32 (x3 + 4) ∧ w32 (x3 + 4) < ((G.2.1 26 : Nat) : Int)) <|
  bnd (f11_drawn (scr G (w32 (x3 + 1)).toNat) (scr G (w32 (x3 + 2)).toNat) (scr G (w32 (x3 + 3)).toNat) (scr G (w32 (x3 + 4)).toNat) h248) fun r255 h256 =>
  if w32 r247 = w32 r255 then
    b14_law_1784 G rec18 x3 h256
  else
    some (0, h256)
set_option maxRecDepth 100000 in
theorem t14_law_1002 (l : Launch) (G : Geo) (d : Nat) (hd : 16 ≤ d) (x3 : Int) (rec18 : Int × AH → Option (Int × AH)) (H18 : ∀ (x3 : Int) (h : AH), Den l G m14_law rvI d 18 [some (vS G 25), some (vA G 0), some (vA G 69), some (vI x3)] [] h (rec18 (x3, h))) (h : AH) : Den l G m14_law rvI d 1002 [some (vS G 25), some (vA G 0), some (vA G 69), some (vI x3)] [] h (b14_law_1002 G rec18 x3 h) := by
  unfold b14_law_1002
  refine den_aload_n (pc := 1002) d14_law_1002 rfl rfl ?_
  refine den_aloadS_n (pc := 1003) d14_law_1003 rfl rfl ?_
  refine den_iload_n (pc := 1004) d14_law_1004 rfl rfl ?_
  refine den_iconst (pc := 1005) d14_law_1005 ?_
  refine den_iadd (pc := 1006) d14_law_1006 ?_
  refine den_asrt (fun a243 => ?_)
  refine den_scrAt (pc := 1007) a243 d14_law_1007 ?_
  refine den_aloadS_n (pc := 1008) d14_law_1008 rfl rfl ?_
  refine den_iload_n (pc := 1009) d14_law_1009 rfl rfl ?_
  refine den_iconst (pc := 1010) d14_law_1010 ?_
  refine den_iadd (pc := 1011) d14_law_1011 ?_
  refine den_asrt (fun a244 => ?_)
  refine den_scrAt (pc := 1012) a244 d14_law_1012 ?_
  refine den_aloadS_n (pc := 1013) d14_law_1013 rfl rfl ?_
  refine den_iload_n (pc := 1014) d14_law_1014 rfl rfl ?_
  refine den_iconst (pc := 1015) d14_law_1015 ?_
  refine den_iadd (pc := 1016) d14_law_1016 ?_
  refine den_asrt (fun a245 => ?_)
  refine den_scrAt (pc := 1017) a245 d14_law_1017 ?_
  refine den_aloadS_n (pc := 1018) d14_law_1018 rfl rfl ?_
  refine den_iload_n (pc := 1019) d14_law_1019 rfl rfl ?_
  refine den_iconst (pc := 1020) d14_law_1020 ?_
  refine den_iadd (pc := 1021) d14_law_1021 ?_
  refine den_asrt (fun a246 => ?_)
  refine den_scrAt (pc := 1022) a246 d14_law_1022 ?_
  refine den_callVI (pc := 1023) (As := [vI (scr G (w32 (x3 + 1)).toNat), vI (scr G (w32 (x3 + 2)).toNat), vI (scr G (w32 (x3 + 3)).toNat), vI (scr G (w32 (x3 + 4)).toNat)]) fv_14_89 rfl rfl (ok_0 _) (Nat.le_of_ble_eq_true rfl) (Nat.le_trans (by decide) hd) d14_law_1023 (c10_drawn l G (scr G (w32 (x3 + 1)).toNat) (scr G (w32 (x3 + 2)).toNat) (scr G (w32 (x3 + 3)).toNat) (scr G (w32 (x3 + 4)).toNat) h) (fun r247 h248 m249 o250 => ?_)
  refine den_aload_n (pc := 1026) d14_law_1026 rfl rfl ?_
  refine den_aloadS_n (pc := 1027) d14_law_1027 rfl rfl ?_
  refine den_iload_n (pc := 1028) d14_law_1028 rfl rfl ?_
  refine den_iconst (pc := 1029) d14_law_1029 ?_
  refine den_iadd (pc := 1030) d14_law_1030 ?_
  refine den_asrt (fun a251 => ?_)
  refine den_scrAt (pc := 1031) a251 d14_law_1031 ?_
  refine den_aloadS_n (pc := 1032) d14_law_1032 rfl rfl ?_
  refine den_iload_n (pc := 1033) d14_law_1033 rfl rfl ?_
  refine den_iconst (pc := 1034) d14_law_1034 ?_
  refine den_iadd (pc := 1035) d14_law_1035 ?_
  refine den_asrt (fun a252 => ?_)
  refine den_scrAt (pc := 1036) a252 d14_law_1036 ?_
  refine den_aloadS_n (pc := 1037) d14_law_1037 rfl rfl ?_
  refine den_iload_n (pc := 1038) d14_law_1038 rfl rfl ?_
  refine den_iconst (pc := 1039) d14_law_1039 ?_
  refine den_iadd (pc := 1040) d14_law_1040 ?_
  refine den_asrt (fun a253 => ?_)
  refine den_scrAt (pc := 1041) a253 d14_law_1041 ?_
  refine den_aloadS_n (pc := 1042) d14_law_1042 rfl rfl ?_
  refine den_iload_n (pc := 1043) d14_law_1043 rfl rfl ?_
  refine den_iconst (pc := 1044) d14_law_1044 ?_
  refine den_iadd (pc := 1045) d14_law_1045 ?_
  refine den_asrt (fun a254 => ?_)
  refine den_scrAt (pc := 1046) a254 d14_law_1046 ?_
  refine den_callVI (pc := 1047) (As := [vI (scr G (w32 (x3 + 1)).toNat), vI (scr G (w32 (x3 + 2)).toNat), vI (scr G (w32 (x3 + 3)).toNat), vI (scr G (w32 (x3 + 4)).toNat)]) fv_14_92 rfl rfl (ok_69 _) (Nat.le_of_ble_eq_true rfl) (Nat.le_trans (by decide) hd) d14_law_1047 (c11_drawn l G (scr G (w32 (x3 + 1)).toNat) (scr G (w32 (x3 + 2)).toNat) (scr G (w32 (x3 + 3)).toNat) (scr G (w32 (x3 + 4)).toNat) h248) (fun r255 h256 m257 o258 => ?_)
  refine den_icmp_eq (pc := 1050) (tgt := 1784) d14_law_1050 (by decide) rfl rfl (fun _ => ?_) (fun _ => ?_)
  · exact t14_law_1784 l G _ hd x3 rec18 H18 h256
  · refine den_iconst (pc := 1053) d14_law_1053 ?_
    exact den_zret (pc := 1054) rfl (by decide) d14_law_1054
def b14_law_1055 (G : Geo) (rec18 : Int × AH → Option (Int × AH)) (x3 : Int) (h : AH) : Option (Int × AH) :=
  asrt (0 ≤ w32 (x3 + 1) ∧ w32 (x3 + 1) < ((G.2.1 26 : Nat) : Int)) <|
  asrt (0 ≤ w32 (x3 + 2) ∧ w32 (x3 + 2) < ((G.2.1 26 : Nat) : Int)) <|
  asrt (0 ≤ w32 (x3 + 3) ∧ w32 (x3 + 3) < ((G.2.1 26 : Nat) : Int)) <|
  asrt (0 ≤ w32 (x3 + 4) ∧ w32 (x3 + 4) < ((G.2.1 26 : Nat) : Int)) <|
  asrt (0 ≤ w32 (x3 + 5) ∧ w32 (x3 + 5) < ((G.2.1 26 : Nat) : Int)) <|
  bnd (f10_spent (scr G (w32 (x3 + 1)).toNat) (scr G (w32 (x3 + 2)).toNat) (scr G (w32 (x3 + 3)).toNat) (scr G (w32 (x3 + 4)).toNat) (scr G (w32 (x3 + 5)).toNat) h) fun r264 h265 =>
  asrt (0 ≤ w32 (x3 + 1) ∧ w32 (x3 + 1) < ((G.2.1 26 : Nat) : Int)) <|
  asrt (0 ≤ w32 (x3 + 2) ∧ w32 (x3 + 2) < ((G.2.1 26 : Nat) : Int)) <|
  asrt (0 ≤ w32 (x3 + 3) ∧ w32 (x3 + 3) < ((G.2.1 26 : Nat) : Int)) <|
  asrt (0 ≤ w32 (x3 + 4) ∧ w32 (x3 + 4) < ((G.2.1 26 : Nat) : Int)) <|
  asrt (0 ≤ w32 (x3 + 5) ∧ w32 (x3 + 5) < ((G.2.1 26 : Nat) : Int)) <|
  bnd (f11_spent (scr G (w32 (x3 + 1)).toNat) (scr G (w32 (x3 + 2)).toNat) (scr G (w32 (x3 + 3)).toNat) (scr G (w32 (x3 + 4)).toNat) (scr G (w32 (x3 + 5)).toNat) h265) fun r273 h274 =>
  if w32 r264 = w32 r273 then
    b14_law_1784 G rec18 x3 h274
  else
    some (0, h274)
set_option maxRecDepth 100000 in
theorem t14_law_1055 (l : Launch) (G : Geo) (d : Nat) (hd : 16 ≤ d) (x3 : Int) (rec18 : Int × AH → Option (Int × AH)) (H18 : ∀ (x3 : Int) (h : AH), Den l G m14_law rvI d 18 [some (vS G 25), some (vA G 0), some (vA G 69), some (vI x3)] [] h (rec18 (x3, h))) (h : AH) : Den l G m14_law rvI d 1055 [some (vS G 25), some (vA G 0), some (vA G 69), some (vI x3)] [] h (b14_law_1055 G rec18 x3 h) := by
  unfold b14_law_1055
  refine den_aload_n (pc := 1055) d14_law_1055 rfl rfl ?_
  refine den_aloadS_n (pc := 1056) d14_law_1056 rfl rfl ?_
  refine den_iload_n (pc := 1057) d14_law_1057 rfl rfl ?_
  refine den_iconst (pc := 1058) d14_law_1058 ?_
  refine den_iadd (pc := 1059) d14_law_1059 ?_
  refine den_asrt (fun a259 => ?_)
  refine den_scrAt (pc := 1060) a259 d14_law_1060 ?_
  refine den_aloadS_n (pc := 1061) d14_law_1061 rfl rfl ?_
  refine den_iload_n (pc := 1062) d14_law_1062 rfl rfl ?_
  refine den_iconst (pc := 1063) d14_law_1063 ?_
  refine den_iadd (pc := 1064) d14_law_1064 ?_
  refine den_asrt (fun a260 => ?_)
  refine den_scrAt (pc := 1065) a260 d14_law_1065 ?_
  refine den_aloadS_n (pc := 1066) d14_law_1066 rfl rfl ?_
  refine den_iload_n (pc := 1067) d14_law_1067 rfl rfl ?_
  refine den_iconst (pc := 1068) d14_law_1068 ?_
  refine den_iadd (pc := 1069) d14_law_1069 ?_
  refine den_asrt (fun a261 => ?_)
  refine den_scrAt (pc := 1070) a261 d14_law_1070 ?_
  refine den_aloadS_n (pc := 1071) d14_law_1071 rfl rfl ?_
  refine den_iload_n (pc := 1072) d14_law_1072 rfl rfl ?_
  refine den_iconst (pc := 1073) d14_law_1073 ?_
  refine den_iadd (pc := 1074) d14_law_1074 ?_
  refine den_asrt (fun a262 => ?_)
  refine den_scrAt (pc := 1075) a262 d14_law_1075 ?_
  refine den_aloadS_n (pc := 1076) d14_law_1076 rfl rfl ?_
  refine den_iload_n (pc := 1077) d14_law_1077 rfl rfl ?_
  refine den_iconst (pc := 1078) d14_law_1078 ?_
  refine den_iadd (pc := 1079) d14_law_1079 ?_
  refine den_asrt (fun a263 => ?_)
  refine den_scrAt (pc := 1080) a263 d14_law_1080 ?_
  refine den_callVI (pc := 1081) (As := [vI (scr G (w32 (x3 + 1)).toNat), vI (scr G (w32 (x3 + 2)).toNat), vI (scr G (w32 (x3 + 3)).toNat), vI (scr G (w32 (x3 + 4)).toNat), vI (scr G (w32 (x3 + 5)).toNat)]) fv_14_93 rfl rfl (ok_0 _) (Nat.le_of_ble_eq_true rfl) (Nat.le_trans (by decide) hd) d14_law_1081 (c10_spent l G (scr G (w32 (x3 + 1)).toNat) (scr G (w32 (x3 + 2)).toNat) (scr G (w32 (x3 + 3)).toNat) (scr G (w32 (x3 + 4)).toNat) (scr G (w32 (x3 + 5)).toNat) h) (fun r264 h265 m266 o267 => ?_)
  refine den_aload_n (pc := 1084) d14_law_1084 rfl rfl ?_
  refine den_aloadS_n (pc := 1085) d14_law_1085 rfl rfl ?_
  refine den_iload_n (pc := 1086) d14_law_1086 rfl rfl ?_
  refine den_iconst (pc := 1087) d14_law_1087 ?_
  refine den_iadd (pc := 1088) d14_law_1088 ?_
  refine den_asrt (fun a268 => ?_)
  refine den_scrAt (pc := 1089) a268 d14_law_1089 ?_
  refine den_aloadS_n (pc := 1090) d14_law_1090 rfl rfl ?_
  refine den_iload_n (pc := 1091) d14_law_1091 rfl rfl ?_
  refine den_iconst (pc := 1092) d14_law_1092 ?_
  refine den_iadd (pc := 1093) d14_law_1093 ?_
  refine den_asrt (fun a269 => ?_)
  refine den_scrAt (pc := 1094) a269 d14_law_1094 ?_
  refine den_aloadS_n (pc := 1095) d14_law_1095 rfl rfl ?_
  refine den_iload_n (pc := 1096) d14_law_1096 rfl rfl ?_
  refine den_iconst (pc := 1097) d14_law_1097 ?_
  refine den_iadd (pc := 1098) d14_law_1098 ?_
  refine den_asrt (fun a270 => ?_)
  refine den_scrAt (pc := 1099) a270 d14_law_1099 ?_
  refine den_aloadS_n (pc := 1100) d14_law_1100 rfl rfl ?_
  refine den_iload_n (pc := 1101) d14_law_1101 rfl rfl ?_
  refine den_iconst (pc := 1102) d14_law_1102 ?_
  refine den_iadd (pc := 1103) d14_law_1103 ?_
  refine den_asrt (fun a271 => ?_)
  refine den_scrAt (pc := 1104) a271 d14_law_1104 ?_
  refine den_aloadS_n (pc := 1105) d14_law_1105 rfl rfl ?_
  refine den_iload_n (pc := 1106) d14_law_1106 rfl rfl ?_
  refine den_iconst (pc := 1107) d14_law_1107 ?_
  refine den_iadd (pc := 1108) d14_law_1108 ?_
  refine den_asrt (fun a272 => ?_)
  refine den_scrAt (pc := 1109) a272 d14_law_1109 ?_
  refine den_callVI (pc := 1110) (As := [vI (scr G (w32 (x3 + 1)).toNat), vI (scr G (w32 (x3 + 2)).toNat), vI (scr G (w32 (x3 + 3)).toNat), vI (scr G (w32 (x3 + 4)).toNat), vI (scr G (w32 (x3 + 5)).toNat)]) fv_14_96 rfl rfl (ok_69 _) (Nat.le_of_ble_eq_true rfl) (Nat.le_trans (by decide) hd) d14_law_1110 (c11_spent l G (scr G (w32 (x3 + 1)).toNat) (scr G (w32 (x3 + 2)).toNat) (scr G (w32 (x3 + 3)).toNat) (scr G (w32 (x3 + 4)).toNat) (scr G (w32 (x3 + 5)).toNat) h265) (fun r273 h274 m275 o276 => ?_)
  refine den_icmp_eq (pc := 1113) (tgt := 1784) d14_law_1113 (by decide) rfl rfl (fun _ => ?_) (fun _ => ?_)
  · exact t14_law_1784 l G _ hd x3 rec18 H18 h274
  · refine den_iconst (pc := 1116) d14_law_1116 ?_
    exact den_zret (pc := 1117) rfl (by decide) d14_law_1117
def b14_law_1118 (G : Geo) (rec18 : Int × AH → Option (Int × AH)) (x3 : Int) (h : AH) : Option (Int × AH) :=
  asrt (0 ≤ w32 (x3 + 1) ∧ w32 (x3 + 1) < ((G.2.1 26 : Nat) : Int)) <|
  asrt (0 ≤ w32 (x3 + 2) ∧ w32 (x3 + 2) < ((G.2.1 26 : Nat) : Int)) <|
  asrt (0 ≤ w32 (x3 + 3) ∧ w32 (x3 + 3) < ((G.2.1 26 : Nat) : Int)) <|
  asrt (0 ≤ w32 (x3 + 4) ∧ w32 (x3 + 4) < ((G.2.1 26 : Nat) : Int)) <|
  asrt (0 ≤ w32 (x3 + 5) ∧ w32 (x3 + 5) < ((G.2.1 26 : Nat) : Int)) <|
  bnd (f10_kept (scr G (w32 (x3 + 1)).toNat) (scr G (w32 (x3 + 2)).toNat) (scr G (w32 (x3 + 3)).toNat) (scr G (w32 (x3 + 4)).toNat) (scr G (w32 (x3 + 5)).toNat) h) fun r282 h283 =>
  asrt (0 ≤ w32 (x3 + 1) ∧ w32 (x3 + 1) < ((G.2.1 26 : Nat) : Int)) <|
  asrt (0 ≤ w32 (x3 + 2) ∧ w32 (x3 + 2) < ((G.2.1 26 : Nat) : Int)) <|
  asrt (0 ≤ w32 (x3 + 3) ∧ w32 (x3 + 3) < ((G.2.1 26 : Nat) : Int)) <|
  asrt (0 ≤ w32 (x3 + 4) ∧ w32 (x3 + 4) < ((G.2.1 26 : Nat) : Int)) <|
  asrt (0 ≤ w32 (x3 + 5) ∧ w32 (x3 + 5) < ((G.2.1 26 : Nat) : Int)) <|
  bnd (f11_kept (scr G (w32 (x3 + 1)).toNat) (scr G (w32 (x3 + 2)).toNat) (scr G (w32 (x3 + 3)).toNat) (scr G (w32 (x3 + 4)).toNat) (scr G (w32 (x3 + 5)).toNat) h283) fun r291 h292 =>
  if w32 r282 = w32 r291 then
    b14_law_1784 G rec18 x3 h292
  else
    some (0, h292)
set_option maxRecDepth 100000 in
theorem t14_law_1118 (l : Launch) (G : Geo) (d : Nat) (hd : 16 ≤ d) (x3 : Int) (rec18 : Int × AH → Option (Int × AH)) (H18 : ∀ (x3 : Int) (h : AH), Den l G m14_law rvI d 18 [some (vS G 25), some (vA G 0), some (vA G 69), some (vI x3)] [] h (rec18 (x3, h))) (h : AH) : Den l G m14_law rvI d 1118 [some (vS G 25), some (vA G 0), some (vA G 69), some (vI x3)] [] h (b14_law_1118 G rec18 x3 h) := by
  unfold b14_law_1118
  refine den_aload_n (pc := 1118) d14_law_1118 rfl rfl ?_
  refine den_aloadS_n (pc := 1119) d14_law_1119 rfl rfl ?_
  refine den_iload_n (pc := 1120) d14_law_1120 rfl rfl ?_
  refine den_iconst (pc := 1121) d14_law_1121 ?_
  refine den_iadd (pc := 1122) d14_law_1122 ?_
  refine den_asrt (fun a277 => ?_)
  refine den_scrAt (pc := 1123) a277 d14_law_1123 ?_
  refine den_aloadS_n (pc := 1124) d14_law_1124 rfl rfl ?_
  refine den_iload_n (pc := 1125) d14_law_1125 rfl rfl ?_
  refine den_iconst (pc := 1126) d14_law_1126 ?_
  refine den_iadd (pc := 1127) d14_law_1127 ?_
  refine den_asrt (fun a278 => ?_)
  refine den_scrAt (pc := 1128) a278 d14_law_1128 ?_
  refine den_aloadS_n (pc := 1129) d14_law_1129 rfl rfl ?_
  refine den_iload_n (pc := 1130) d14_law_1130 rfl rfl ?_
  refine den_iconst (pc := 1131) d14_law_1131 ?_
  refine den_iadd (pc := 1132) d14_law_1132 ?_
  refine den_asrt (fun a279 => ?_)
  refine den_scrAt (pc := 1133) a279 d14_law_1133 ?_
  refine den_aloadS_n (pc := 1134) d14_law_1134 rfl rfl ?_
  refine den_iload_n (pc := 1135) d14_law_1135 rfl rfl ?_
  refine den_iconst (pc := 1136) d14_law_1136 ?_
  refine den_iadd (pc := 1137) d14_law_1137 ?_
  refine den_asrt (fun a280 => ?_)
  refine den_scrAt (pc := 1138) a280 d14_law_1138 ?_
  refine den_aloadS_n (pc := 1139) d14_law_1139 rfl rfl ?_
  refine den_iload_n (pc := 1140) d14_law_1140 rfl rfl ?_
  refine den_iconst (pc := 1141) d14_law_1141 ?_
  refine den_iadd (pc := 1142) d14_law_1142 ?_
  refine den_asrt (fun a281 => ?_)
  refine den_scrAt (pc := 1143) a281 d14_law_1143 ?_
  refine den_callVI (pc := 1144) (As := [vI (scr G (w32 (x3 + 1)).toNat), vI (scr G (w32 (x3 + 2)).toNat), vI (scr G (w32 (x3 + 3)).toNat), vI (scr G (w32 (x3 + 4)).toNat), vI (scr G (w32 (x3 + 5)).toNat)]) fv_14_97 rfl rfl (ok_0 _) (Nat.le_of_ble_eq_true rfl) (Nat.le_trans (by decide) hd) d14_law_1144 (c10_kept l G (scr G (w32 (x3 + 1)).toNat) (scr G (w32 (x3 + 2)).toNat) (scr G (w32 (x3 + 3)).toNat) (scr G (w32 (x3 + 4)).toNat) (scr G (w32 (x3 + 5)).toNat) h) (fun r282 h283 m284 o285 => ?_)
  refine den_aload_n (pc := 1147) d14_law_1147 rfl rfl ?_
  refine den_aloadS_n (pc := 1148) d14_law_1148 rfl rfl ?_
  refine den_iload_n (pc := 1149) d14_law_1149 rfl rfl ?_
  refine den_iconst (pc := 1150) d14_law_1150 ?_
  refine den_iadd (pc := 1151) d14_law_1151 ?_
  refine den_asrt (fun a286 => ?_)
  refine den_scrAt (pc := 1152) a286 d14_law_1152 ?_
  refine den_aloadS_n (pc := 1153) d14_law_1153 rfl rfl ?_
  refine den_iload_n (pc := 1154) d14_law_1154 rfl rfl ?_
  refine den_iconst (pc := 1155) d14_law_1155 ?_
  refine den_iadd (pc := 1156) d14_law_1156 ?_
  refine den_asrt (fun a287 => ?_)
  refine den_scrAt (pc := 1157) a287 d14_law_1157 ?_
  refine den_aloadS_n (pc := 1158) d14_law_1158 rfl rfl ?_
  refine den_iload_n (pc := 1159) d14_law_1159 rfl rfl ?_
  refine den_iconst (pc := 1160) d14_law_1160 ?_
  refine den_iadd (pc := 1161) d14_law_1161 ?_
  refine den_asrt (fun a288 => ?_)
  refine den_scrAt (pc := 1162) a288 d14_law_1162 ?_
  refine den_aloadS_n (pc := 1163) d14_law_1163 rfl rfl ?_
  refine den_iload_n (pc := 1164) d14_law_1164 rfl rfl ?_
  refine den_iconst (pc := 1165) d14_law_1165 ?_
  refine den_iadd (pc := 1166) d14_law_1166 ?_
  refine den_asrt (fun a289 => ?_)
  refine den_scrAt (pc := 1167) a289 d14_law_1167 ?_
  refine den_aloadS_n (pc := 1168) d14_law_1168 rfl rfl ?_
  refine den_iload_n (pc := 1169) d14_law_1169 rfl rfl ?_
  refine den_iconst (pc := 1170) d14_law_1170 ?_
  refine den_iadd (pc := 1171) d14_law_1171 ?_
  refine den_asrt (fun a290 => ?_)
  refine den_scrAt (pc := 1172) a290 d14_law_1172 ?_
  refine den_callVI (pc := 1173) (As := [vI (scr G (w32 (x3 + 1)).toNat), vI (scr G (w32 (x3 + 2)).toNat), vI (scr G (w32 (x3 + 3)).toNat), vI (scr G (w32 (x3 + 4)).toNat), vI (scr G (w32 (x3 + 5)).toNat)]) fv_14_100 rfl rfl (ok_69 _) (Nat.le_of_ble_eq_true rfl) (Nat.le_trans (by decide) hd) d14_law_1173 (c11_kept l G (scr G (w32 (x3 + 1)).toNat) (scr G (w32 (x3 + 2)).toNat) (scr G (w32 (x3 + 3)).toNat) (scr G (w32 (x3 + 4)).toNat) (scr G (w32 (x3 + 5)).toNat) h283) (fun r291 h292 m293 o294 => ?_)
  refine den_icmp_eq (pc := 1176) (tgt := 1784) d14_law_1176 (by decide) rfl rfl (fun _ => ?_) (fun _ => ?_)
  · exact t14_law_1784 l G _ hd x3 rec18 H18 h292
  · refine den_iconst (pc := 1179) d14_law_1179 ?_
    exact den_zret (pc := 1180) rfl (by decide) d14_law_1180
def b14_law_1181 (G : Geo) (rec18 : Int × AH → Option (Int × AH)) (x3 : Int) (h : AH) : Option (Int × AH) :=
  asrt (0 ≤ w32 (x3 + 1) ∧ w32 (x3 + 1) < ((G.2.1 26 : Nat) : Int)) <|
  asrt (0 ≤ w32 (x3 + 2) ∧ w32 (x3 + 2) < ((G.2.1 26 : Nat) : Int)) <|
  asrt (0 ≤ w32 (x3 + 3) ∧ w32 (x3 + 3) < ((G.2.1 26 : Nat) : Int)) <|
  bnd (f10_calm (scr G (w32 (x3 + 1)).toNat) (scr G (w32 (x3 + 2)).toNat) (scr G (w32 (x3 + 3)).toNat) h) fun r298 h299 =>
  asrt (0 ≤ w32 (x3 + 1) ∧ w32 (x3 + 1) < ((G.2.1 26 : Nat) : Int)) <|
  asrt (0 ≤ w32 (x3 + 2) ∧ w32 (x3 + 2) < ((G.2.1 26 : Nat) : Int)) <|
  asrt (0 ≤ w32 (x3 + 3) ∧ w32 (x3 + 3) < ((G.2.1 26 : Nat) : Int)) <|
  bnd (f11_calm (scr G (w32 (x3 + 1)).toNat) (scr G (w32 (x3 + 2)).toNat) (scr G (w32 (x3 + 3)).toNat) h299) fun r305 h306 =>
  if w32 r298 = w32 r305 then
    b14_law_1784 G rec18 x3 h306
  else
    some (0, h306)
set_option maxRecDepth 100000 in
theorem t14_law_1181 (l : Launch) (G : Geo) (d : Nat) (hd : 16 ≤ d) (x3 : Int) (rec18 : Int × AH → Option (Int × AH)) (H18 : ∀ (x3 : Int) (h : AH), Den l G m14_law rvI d 18 [some (vS G 25), some (vA G 0), some (vA G 69), some (vI x3)] [] h (rec18 (x3, h))) (h : AH) : Den l G m14_law rvI d 1181 [some (vS G 25), some (vA G 0), some (vA G 69), some (vI x3)] [] h (b14_law_1181 G rec18 x3 h) := by
  unfold b14_law_1181
  refine den_aload_n (pc := 1181) d14_law_1181 rfl rfl ?_
  refine den_aloadS_n (pc := 1182) d14_law_1182 rfl rfl ?_
  refine den_iload_n (pc := 1183) d14_law_1183 rfl rfl ?_
  refine den_iconst (pc := 1184) d14_law_1184 ?_
  refine den_iadd (pc := 1185) d14_law_1185 ?_
  refine den_asrt (fun a295 => ?_)
  refine den_scrAt (pc := 1186) a295 d14_law_1186 ?_
  refine den_aloadS_n (pc := 1187) d14_law_1187 rfl rfl ?_
  refine den_iload_n (pc := 1188) d14_law_1188 rfl rfl ?_
  refine den_iconst (pc := 1189) d14_law_1189 ?_
  refine den_iadd (pc := 1190) d14_law_1190 ?_
  refine den_asrt (fun a296 => ?_)
  refine den_scrAt (pc := 1191) a296 d14_law_1191 ?_
  refine den_aloadS_n (pc := 1192) d14_law_1192 rfl rfl ?_
  refine den_iload_n (pc := 1193) d14_law_1193 rfl rfl ?_
  refine den_iconst (pc := 1194) d14_law_1194 ?_
  refine den_iadd (pc := 1195) d14_law_1195 ?_
  refine den_asrt (fun a297 => ?_)
  refine den_scrAt (pc := 1196) a297 d14_law_1196 ?_
  refine den_callVI (pc := 1197) (As := [vI (scr G (w32 (x3 + 1)).toNat), vI (scr G (w32 (x3 + 2)).toNat), vI (scr G (w32 (x3 + 3)).toNat)]) fv_14_101 rfl rfl (ok_0 _) (Nat.le_of_ble_eq_true rfl) (Nat.le_trans (by decide) hd) d14_law_1197 (c10_calm l G (scr G (w32 (x3 + 1)).toNat) (scr G (w32 (x3 + 2)).toNat) (scr G (w32 (x3 + 3)).toNat) h) (fun r298 h299 m300 o301 => ?_)
  refine den_aload_n (pc := 1200) d14_law_1200 rfl rfl ?_
  refine den_aloadS_n (pc := 1201) d14_law_1201 rfl rfl ?_
  refine den_iload_n (pc := 1202) d14_law_1202 rfl rfl ?_
  refine den_iconst (pc := 1203) d14_law_1203 ?_
  refine den_iadd (pc := 1204) d14_law_1204 ?_
  refine den_asrt (fun a302 => ?_)
  refine den_scrAt (pc := 1205) a302 d14_law_1205 ?_
  refine den_aloadS_n (pc := 1206) d14_law_1206 rfl rfl ?_
  refine den_iload_n (pc := 1207) d14_law_1207 rfl rfl ?_
  refine den_iconst (pc := 1208) d14_law_1208 ?_
  refine den_iadd (pc := 1209) d14_law_1209 ?_
  refine den_asrt (fun a303 => ?_)
  refine den_scrAt (pc := 1210) a303 d14_law_1210 ?_
  refine den_aloadS_n (pc := 1211) d14_law_1211 rfl rfl ?_
  refine den_iload_n (pc := 1212) d14_law_1212 rfl rfl ?_
  refine den_iconst (pc := 1213) d14_law_1213 ?_
  refine den_iadd (pc := 1214) d14_law_1214 ?_
  refine den_asrt (fun a304 => ?_)
  refine den_scrAt (pc := 1215) a304 d14_law_1215 ?_
  refine den_callVI (pc := 1216) (As := [vI (scr G (w32 (x3 + 1)).toNat), vI (scr G (w32 (x3 + 2)).toNat), vI (scr G (w32 (x3 + 3)).toNat)]) fv_14_104 rfl rfl (ok_69 _) (Nat.le_of_ble_eq_true rfl) (Nat.le_trans (by decide) hd) d14_law_1216 (c11_calm l G (scr G (w32 (x3 + 1)).toNat) (scr G (w32 (x3 + 2)).toNat) (scr G (w32 (x3 + 3)).toNat) h299) (fun r305 h306 m307 o308 => ?_)
  refine den_icmp_eq (pc := 1219) (tgt := 1784) d14_law_1219 (by decide) rfl rfl (fun _ => ?_) (fun _ => ?_)
  · exact t14_law_1784 l G _ hd x3 rec18 H18 h306
  · refine den_iconst (pc := 1222) d14_law_1222 ?_
    exact den_zret (pc := 1223) rfl (by decide) d14_law_1223
def b14_law_1285 (G : Geo) (rec18 : Int × AH → Option (Int × AH)) (x3 : Int) (s0 : Int) (s1 : Int) (s2 : Int) (s3 : Int) (s5 : Int) (h : AH) : Option (Int × AH) :=
  bnd (f11_hired s3 s2 s1 s0 h) fun r309 h310 =>
  if w32 s5 = w32 r309 then
    b14_law_1784 G rec18 x3 h310
  else
    some (0, h310)
set_option maxRecDepth 100000 in
theorem t14_law_1285 (l : Launch) (G : Geo) (d : Nat) (hd : 16 ≤ d) (x3 : Int) (s0 : Int) (s1 : Int) (s2 : Int) (s3 : Int) (s5 : Int) (rec18 : Int × AH → Option (Int × AH)) (H18 : ∀ (x3 : Int) (h : AH), Den l G m14_law rvI d 18 [some (vS G 25), some (vA G 0), some (vA G 69), some (vI x3)] [] h (rec18 (x3, h))) (h : AH) : Den l G m14_law rvI d 1285 [some (vS G 25), some (vA G 0), some (vA G 69), some (vI x3)] [vI s0, vI s1, vI s2, vI s3, vA G 69, vI s5] h (b14_law_1285 G rec18 x3 s0 s1 s2 s3 s5 h) := by
  unfold b14_law_1285
  refine den_callVI (pc := 1285) (As := [vI s3, vI s2, vI s1, vI s0]) fv_14_108 rfl rfl (ok_69 _) (Nat.le_of_ble_eq_true rfl) (Nat.le_trans (by decide) hd) d14_law_1285 (c11_hired l G s3 s2 s1 s0 h) (fun r309 h310 m311 o312 => ?_)
  refine den_icmp_eq (pc := 1288) (tgt := 1784) d14_law_1288 (by decide) rfl rfl (fun _ => ?_) (fun _ => ?_)
  · exact t14_law_1784 l G _ hd x3 rec18 H18 h310
  · refine den_iconst (pc := 1291) d14_law_1291 ?_
    exact den_zret (pc := 1292) rfl (by decide) d14_law_1292
def b14_law_1253 (G : Geo) (rec18 : Int × AH → Option (Int × AH)) (x3 : Int) (s0 : Int) (s1 : Int) (s2 : Int) (s3 : Int) (h : AH) : Option (Int × AH) :=
  bnd (f10_hired s3 s2 s1 s0 h) fun r313 h314 =>
  asrt (0 ≤ w32 (x3 + 1) ∧ w32 (x3 + 1) < ((G.2.1 26 : Nat) : Int)) <|
  asrt (0 ≤ w32 (x3 + 2) ∧ w32 (x3 + 2) < ((G.2.1 26 : Nat) : Int)) <|
  asrt (0 ≤ w32 (x3 + 3) ∧ w32 (x3 + 3) < ((G.2.1 26 : Nat) : Int)) <|
  asrt (0 ≤ w32 (x3 + 4) ∧ w32 (x3 + 4) < ((G.2.1 26 : Nat) : Int)) <|
  if w32 (scr G (w32 (x3 + 4)).toNat) = 0 then
    b14_law_1285 G rec18 x3 0 (scr G (w32 (x3 + 3)).toNat) (scr G (w32 (x3 + 2)).toNat) (scr G (w32 (x3 + 1)).toNat) r313 h314
  else
    b14_law_1285 G rec18 x3 1 (scr G (w32 (x3 + 3)).toNat) (scr G (w32 (x3 + 2)).toNat) (scr G (w32 (x3 + 1)).toNat) r313 h314
set_option maxRecDepth 100000 in
theorem t14_law_1253 (l : Launch) (G : Geo) (d : Nat) (hd : 16 ≤ d) (x3 : Int) (s0 : Int) (s1 : Int) (s2 : Int) (s3 : Int) (rec18 : Int × AH → Option (Int × AH)) (H18 : ∀ (x3 : Int) (h : AH), Den l G m14_law rvI d 18 [some (vS G 25), some (vA G 0), some (vA G 69), some (vI x3)] [] h (rec18 (x3, h))) (h : AH) : Den l G m14_law rvI d 1253 [some (vS G 25), some (vA G 0), some (vA G 69), some (vI x3)] [vI s0, vI s1, vI s2, vI s3, vA G 0] h (b14_law_1253 G rec18 x3 s0 s1 s2 s3 h) := by
  unfold b14_law_1253
  refine den_callVI (pc := 1253) (As := [vI s3, vI s2, vI s1, vI s0]) fv_14_105 rfl rfl (ok_0 _) (Nat.le_of_ble_eq_true rfl) (Nat.le_trans (by decide) hd) d14_law_1253 (c10_hired l G s3 s2 s1 s0 h) (fun r313 h314 m315 o316 => ?_)
  refine den_aload_n (pc := 1256) d14_law_1256 rfl rfl ?_
  refine den_aloadS_n (pc := 1257) d14_law_1257 rfl rfl ?_
  refine den_iload_n (pc := 1258) d14_law_1258 rfl rfl ?_
  refine den_iconst (pc := 1259) d14_law_1259 ?_
  refine den_iadd (pc := 1260) d14_law_1260 ?_
  refine den_asrt (fun a317 => ?_)
  refine den_scrAt (pc := 1261) a317 d14_law_1261 ?_
  refine den_aloadS_n (pc := 1262) d14_law_1262 rfl rfl ?_
  refine den_iload_n (pc := 1263) d14_law_1263 rfl rfl ?_
  refine den_iconst (pc := 1264) d14_law_1264 ?_
  refine den_iadd (pc := 1265) d14_law_1265 ?_
  refine den_asrt (fun a318 => ?_)
  refine den_scrAt (pc := 1266) a318 d14_law_1266 ?_
  refine den_aloadS_n (pc := 1267) d14_law_1267 rfl rfl ?_
  refine den_iload_n (pc := 1268) d14_law_1268 rfl rfl ?_
  refine den_iconst (pc := 1269) d14_law_1269 ?_
  refine den_iadd (pc := 1270) d14_law_1270 ?_
  refine den_asrt (fun a319 => ?_)
  refine den_scrAt (pc := 1271) a319 d14_law_1271 ?_
  refine den_aloadS_n (pc := 1272) d14_law_1272 rfl rfl ?_
  refine den_iload_n (pc := 1273) d14_law_1273 rfl rfl ?_
  refine den_iconst (pc := 1274) d14_law_1274 ?_
  refine den_iadd (pc := 1275) d14_law_1275 ?_
  refine den_asrt (fun a320 => ?_)
  refine den_scrAt (pc := 1276) a320 d14_law_1276 ?_
  refine den_if_eq (pc := 1277) (tgt := 1284) d14_law_1277 (by decide) rfl (fun _ => ?_) (fun _ => ?_)
  · refine den_iconst (pc := 1284) d14_law_1284 ?_
    exact t14_law_1285 l G _ hd x3 0 (scr G (w32 (x3 + 3)).toNat) (scr G (w32 (x3 + 2)).toNat) (scr G (w32 (x3 + 1)).toNat) r313 rec18 H18 h314
  · refine den_iconst (pc := 1280) d14_law_1280 ?_
    refine den_goto (pc := 1281) (tgt := 1285) d14_law_1281 (by decide) ?_
    exact t14_law_1285 l G _ hd x3 1 (scr G (w32 (x3 + 3)).toNat) (scr G (w32 (x3 + 2)).toNat) (scr G (w32 (x3 + 1)).toNat) r313 rec18 H18 h314
def b14_law_1224 (G : Geo) (rec18 : Int × AH → Option (Int × AH)) (x3 : Int) (h : AH) : Option (Int × AH) :=
  asrt (0 ≤ w32 (x3 + 1) ∧ w32 (x3 + 1) < ((G.2.1 26 : Nat) : Int)) <|
  asrt (0 ≤ w32 (x3 + 2) ∧ w32 (x3 + 2) < ((G.2.1 26 : Nat) : Int)) <|
  asrt (0 ≤ w32 (x3 + 3) ∧ w32 (x3 + 3) < ((G.2.1 26 : Nat) : Int)) <|
  asrt (0 ≤ w32 (x3 + 4) ∧ w32 (x3 + 4) < ((G.2.1 26 : Nat) : Int)) <|
  if w32 (scr G (w32 (x3 + 4)).toNat) = 0 then
    b14_law_1253 G rec18 x3 0 (scr G (w32 (x3 + 3)).toNat) (scr G (w32 (x3 + 2)).toNat) (scr G (w32 (x3 + 1)).toNat) h
  else
    b14_law_1253 G rec18 x3 1 (scr G (w32 (x3 + 3)).toNat) (scr G (w32 (x3 + 2)).toNat) (scr G (w32 (x3 + 1)).toNat) h
set_option maxRecDepth 100000 in
theorem t14_law_1224 (l : Launch) (G : Geo) (d : Nat) (hd : 16 ≤ d) (x3 : Int) (rec18 : Int × AH → Option (Int × AH)) (H18 : ∀ (x3 : Int) (h : AH), Den l G m14_law rvI d 18 [some (vS G 25), some (vA G 0), some (vA G 69), some (vI x3)] [] h (rec18 (x3, h))) (h : AH) : Den l G m14_law rvI d 1224 [some (vS G 25), some (vA G 0), some (vA G 69), some (vI x3)] [] h (b14_law_1224 G rec18 x3 h) := by
  unfold b14_law_1224
  refine den_aload_n (pc := 1224) d14_law_1224 rfl rfl ?_
  refine den_aloadS_n (pc := 1225) d14_law_1225 rfl rfl ?_
  refine den_iload_n (pc := 1226) d14_law_1226 rfl rfl ?_
  refine den_iconst (pc := 1227) d14_law_1227 ?_
  refine den_iadd (pc := 1228) d14_law_1228 ?_
  refine den_asrt (fun a321 => ?_)
  refine den_scrAt (pc := 1229) a321 d14_law_1229 ?_
  refine den_aloadS_n (pc := 1230) d14_law_1230 rfl rfl ?_
  refine den_iload_n (pc := 1231) d14_law_1231 rfl rfl ?_
  refine den_iconst (pc := 1232) d14_law_1232 ?_
  refine den_iadd (pc := 1233) d14_law_1233 ?_
  refine den_asrt (fun a322 => ?_)
  refine den_scrAt (pc := 1234) a322 d14_law_1234 ?_
  refine den_aloadS_n (pc := 1235) d14_law_1235 rfl rfl ?_
  refine den_iload_n (pc := 1236) d14_law_1236 rfl rfl ?_
  refine den_iconst (pc := 1237) d14_law_1237 ?_
  refine den_iadd (pc := 1238) d14_law_1238 ?_
  refine den_asrt (fun a323 => ?_)
  refine den_scrAt (pc := 1239) a323 d14_law_1239 ?_
  refine den_aloadS_n (pc := 1240) d14_law_1240 rfl rfl ?_
  refine den_iload_n (pc := 1241) d14_law_1241 rfl rfl ?_
  refine den_iconst (pc := 1242) d14_law_1242 ?_
  refine den_iadd (pc := 1243) d14_law_1243 ?_
  refine den_asrt (fun a324 => ?_)
  refine den_scrAt (pc := 1244) a324 d14_law_1244 ?_
  refine den_if_eq (pc := 1245) (tgt := 1252) d14_law_1245 (by decide) rfl (fun _ => ?_) (fun _ => ?_)
  · refine den_iconst (pc := 1252) d14_law_1252 ?_
    exact t14_law_1253 l G _ hd x3 0 (scr G (w32 (x3 + 3)).toNat) (scr G (w32 (x3 + 2)).toNat) (scr G (w32 (x3 + 1)).toNat) rec18 H18 h
  · refine den_iconst (pc := 1248) d14_law_1248 ?_
    refine den_goto (pc := 1249) (tgt := 1253) d14_law_1249 (by decide) ?_
    exact t14_law_1253 l G _ hd x3 1 (scr G (w32 (x3 + 3)).toNat) (scr G (w32 (x3 + 2)).toNat) (scr G (w32 (x3 + 1)).toNat) rec18 H18 h
def b14_law_1293 (G : Geo) (rec18 : Int × AH → Option (Int × AH)) (x3 : Int) (h : AH) : Option (Int × AH) :=
  asrt (0 ≤ w32 (x3 + 1) ∧ w32 (x3 + 1) < ((G.2.1 26 : Nat) : Int)) <|
  asrt (0 ≤ w32 (x3 + 2) ∧ w32 (x3 + 2) < ((G.2.1 26 : Nat) : Int)) <|
  asrt (0 ≤ w32 (x3 + 3) ∧ w32 (x3 + 3) < ((G.2.1 26 : Nat) : Int)) <|
  bnd (f10_filled (scr G (w32 (x3 + 1)).toNat) (scr G (w32 (x3 + 2)).toNat) (scr G (w32 (x3 + 3)).toNat) h) fun r328 h329 =>
  asrt (0 ≤ w32 (x3 + 1) ∧ w32 (x3 + 1) < ((G.2.1 26 : Nat) : Int)) <|
  asrt (0 ≤ w32 (x3 + 2) ∧ w32 (x3 + 2) < ((G.2.1 26 : Nat) : Int)) <|
  asrt (0 ≤ w32 (x3 + 3) ∧ w32 (x3 + 3) < ((G.2.1 26 : Nat) : Int)) <|
  bnd (f11_filled (scr G (w32 (x3 + 1)).toNat) (scr G (w32 (x3 + 2)).toNat) (scr G (w32 (x3 + 3)).toNat) h329) fun r335 h336 =>
  if w32 r328 = w32 r335 then
    b14_law_1784 G rec18 x3 h336
  else
    some (0, h336)
set_option maxRecDepth 100000 in
theorem t14_law_1293 (l : Launch) (G : Geo) (d : Nat) (hd : 16 ≤ d) (x3 : Int) (rec18 : Int × AH → Option (Int × AH)) (H18 : ∀ (x3 : Int) (h : AH), Den l G m14_law rvI d 18 [some (vS G 25), some (vA G 0), some (vA G 69), some (vI x3)] [] h (rec18 (x3, h))) (h : AH) : Den l G m14_law rvI d 1293 [some (vS G 25), some (vA G 0), some (vA G 69), some (vI x3)] [] h (b14_law_1293 G rec18 x3 h) := by
  unfold b14_law_1293
  refine den_aload_n (pc := 1293) d14_law_1293 rfl rfl ?_
  refine den_aloadS_n (pc := 1294) d14_law_1294 rfl rfl ?_
  refine den_iload_n (pc := 1295) d14_law_1295 rfl rfl ?_
  refine den_iconst (pc := 1296) d14_law_1296 ?_
  refine den_iadd (pc := 1297) d14_law_1297 ?_
  refine den_asrt (fun a325 => ?_)
  refine den_scrAt (pc := 1298) a325 d14_law_1298 ?_
  refine den_aloadS_n (pc := 1299) d14_law_1299 rfl rfl ?_
  refine den_iload_n (pc := 1300) d14_law_1300 rfl rfl ?_
  refine den_iconst (pc := 1301) d14_law_1301 ?_
  refine den_iadd (pc := 1302) d14_law_1302 ?_
  refine den_asrt (fun a326 => ?_)
  refine den_scrAt (pc := 1303) a326 d14_law_1303 ?_
  refine den_aloadS_n (pc := 1304) d14_law_1304 rfl rfl ?_
  refine den_iload_n (pc := 1305) d14_law_1305 rfl rfl ?_
  refine den_iconst (pc := 1306) d14_law_1306 ?_
  refine den_iadd (pc := 1307) d14_law_1307 ?_
  refine den_asrt (fun a327 => ?_)
  refine den_scrAt (pc := 1308) a327 d14_law_1308 ?_
  refine den_callVI (pc := 1309) (As := [vI (scr G (w32 (x3 + 1)).toNat), vI (scr G (w32 (x3 + 2)).toNat), vI (scr G (w32 (x3 + 3)).toNat)]) fv_14_109 rfl rfl (ok_0 _) (Nat.le_of_ble_eq_true rfl) (Nat.le_trans (by decide) hd) d14_law_1309 (c10_filled l G (scr G (w32 (x3 + 1)).toNat) (scr G (w32 (x3 + 2)).toNat) (scr G (w32 (x3 + 3)).toNat) h) (fun r328 h329 m330 o331 => ?_)
  refine den_aload_n (pc := 1312) d14_law_1312 rfl rfl ?_
  refine den_aloadS_n (pc := 1313) d14_law_1313 rfl rfl ?_
  refine den_iload_n (pc := 1314) d14_law_1314 rfl rfl ?_
  refine den_iconst (pc := 1315) d14_law_1315 ?_
  refine den_iadd (pc := 1316) d14_law_1316 ?_
  refine den_asrt (fun a332 => ?_)
  refine den_scrAt (pc := 1317) a332 d14_law_1317 ?_
  refine den_aloadS_n (pc := 1318) d14_law_1318 rfl rfl ?_
  refine den_iload_n (pc := 1319) d14_law_1319 rfl rfl ?_
  refine den_iconst (pc := 1320) d14_law_1320 ?_
  refine den_iadd (pc := 1321) d14_law_1321 ?_
  refine den_asrt (fun a333 => ?_)
  refine den_scrAt (pc := 1322) a333 d14_law_1322 ?_
  refine den_aloadS_n (pc := 1323) d14_law_1323 rfl rfl ?_
  refine den_iload_n (pc := 1324) d14_law_1324 rfl rfl ?_
  refine den_iconst (pc := 1325) d14_law_1325 ?_
  refine den_iadd (pc := 1326) d14_law_1326 ?_
  refine den_asrt (fun a334 => ?_)
  refine den_scrAt (pc := 1327) a334 d14_law_1327 ?_
  refine den_callVI (pc := 1328) (As := [vI (scr G (w32 (x3 + 1)).toNat), vI (scr G (w32 (x3 + 2)).toNat), vI (scr G (w32 (x3 + 3)).toNat)]) fv_14_112 rfl rfl (ok_69 _) (Nat.le_of_ble_eq_true rfl) (Nat.le_trans (by decide) hd) d14_law_1328 (c11_filled l G (scr G (w32 (x3 + 1)).toNat) (scr G (w32 (x3 + 2)).toNat) (scr G (w32 (x3 + 3)).toNat) h329) (fun r335 h336 m337 o338 => ?_)
  refine den_icmp_eq (pc := 1331) (tgt := 1784) d14_law_1331 (by decide) rfl rfl (fun _ => ?_) (fun _ => ?_)
  · exact t14_law_1784 l G _ hd x3 rec18 H18 h336
  · refine den_iconst (pc := 1334) d14_law_1334 ?_
    exact den_zret (pc := 1335) rfl (by decide) d14_law_1335
def b14_law_1377 (G : Geo) (rec18 : Int × AH → Option (Int × AH)) (x3 : Int) (s0 : Int) (s1 : Int) (s3 : Int) (h : AH) : Option (Int × AH) :=
  bnd (f11_halves s1 s0 h) fun r339 h340 =>
  if w32 s3 = w32 r339 then
    b14_law_1784 G rec18 x3 h340
  else
    some (0, h340)
set_option maxRecDepth 100000 in
theorem t14_law_1377 (l : Launch) (G : Geo) (d : Nat) (hd : 16 ≤ d) (x3 : Int) (s0 : Int) (s1 : Int) (s3 : Int) (rec18 : Int × AH → Option (Int × AH)) (H18 : ∀ (x3 : Int) (h : AH), Den l G m14_law rvI d 18 [some (vS G 25), some (vA G 0), some (vA G 69), some (vI x3)] [] h (rec18 (x3, h))) (h : AH) : Den l G m14_law rvI d 1377 [some (vS G 25), some (vA G 0), some (vA G 69), some (vI x3)] [vI s0, vI s1, vA G 69, vI s3] h (b14_law_1377 G rec18 x3 s0 s1 s3 h) := by
  unfold b14_law_1377
  refine den_callVI (pc := 1377) (As := [vI s1, vI s0]) fv_14_117 rfl rfl (ok_69 _) (Nat.le_of_ble_eq_true rfl) (Nat.le_trans (by decide) hd) d14_law_1377 (c11_halves l G s1 s0 h) (fun r339 h340 m341 o342 => ?_)
  refine den_icmp_eq (pc := 1380) (tgt := 1784) d14_law_1380 (by decide) rfl rfl (fun _ => ?_) (fun _ => ?_)
  · exact t14_law_1784 l G _ hd x3 rec18 H18 h340
  · refine den_iconst (pc := 1383) d14_law_1383 ?_
    exact den_zret (pc := 1384) rfl (by decide) d14_law_1384
def b14_law_1355 (G : Geo) (rec18 : Int × AH → Option (Int × AH)) (x3 : Int) (s0 : Int) (s1 : Int) (h : AH) : Option (Int × AH) :=
  bnd (f10_halves s1 s0 h) fun r343 h344 =>
  asrt (0 ≤ w32 (x3 + 1) ∧ w32 (x3 + 1) < ((G.2.1 26 : Nat) : Int)) <|
  asrt (0 ≤ w32 (x3 + 2) ∧ w32 (x3 + 2) < ((G.2.1 26 : Nat) : Int)) <|
  if w32 (scr G (w32 (x3 + 2)).toNat) = 0 then
    b14_law_1377 G rec18 x3 0 (scr G (w32 (x3 + 1)).toNat) r343 h344
  else
    b14_law_1377 G rec18 x3 1 (scr G (w32 (x3 + 1)).toNat) r343 h344
set_option maxRecDepth 100000 in
theorem t14_law_1355 (l : Launch) (G : Geo) (d : Nat) (hd : 16 ≤ d) (x3 : Int) (s0 : Int) (s1 : Int) (rec18 : Int × AH → Option (Int × AH)) (H18 : ∀ (x3 : Int) (h : AH), Den l G m14_law rvI d 18 [some (vS G 25), some (vA G 0), some (vA G 69), some (vI x3)] [] h (rec18 (x3, h))) (h : AH) : Den l G m14_law rvI d 1355 [some (vS G 25), some (vA G 0), some (vA G 69), some (vI x3)] [vI s0, vI s1, vA G 0] h (b14_law_1355 G rec18 x3 s0 s1 h) := by
  unfold b14_law_1355
  refine den_callVI (pc := 1355) (As := [vI s1, vI s0]) fv_14_113 rfl rfl (ok_0 _) (Nat.le_of_ble_eq_true rfl) (Nat.le_trans (by decide) hd) d14_law_1355 (c10_halves l G s1 s0 h) (fun r343 h344 m345 o346 => ?_)
  refine den_aload_n (pc := 1358) d14_law_1358 rfl rfl ?_
  refine den_aloadS_n (pc := 1359) d14_law_1359 rfl rfl ?_
  refine den_iload_n (pc := 1360) d14_law_1360 rfl rfl ?_
  refine den_iconst (pc := 1361) d14_law_1361 ?_
  refine den_iadd (pc := 1362) d14_law_1362 ?_
  refine den_asrt (fun a347 => ?_)
  refine den_scrAt (pc := 1363) a347 d14_law_1363 ?_
  refine den_aloadS_n (pc := 1364) d14_law_1364 rfl rfl ?_
  refine den_iload_n (pc := 1365) d14_law_1365 rfl rfl ?_
  refine den_iconst (pc := 1366) d14_law_1366 ?_
  refine den_iadd (pc := 1367) d14_law_1367 ?_
  refine den_asrt (fun a348 => ?_)
  refine den_scrAt (pc := 1368) a348 d14_law_1368 ?_
  refine den_if_eq (pc := 1369) (tgt := 1376) d14_law_1369 (by decide) rfl (fun _ => ?_) (fun _ => ?_)
  · refine den_iconst (pc := 1376) d14_law_1376 ?_
    exact t14_law_1377 l G _ hd x3 0 (scr G (w32 (x3 + 1)).toNat) r343 rec18 H18 h344
  · refine den_iconst (pc := 1372) d14_law_1372 ?_
    refine den_goto (pc := 1373) (tgt := 1377) d14_law_1373 (by decide) ?_
    exact t14_law_1377 l G _ hd x3 1 (scr G (w32 (x3 + 1)).toNat) r343 rec18 H18 h344
def b14_law_1336 (G : Geo) (rec18 : Int × AH → Option (Int × AH)) (x3 : Int) (h : AH) : Option (Int × AH) :=
  asrt (0 ≤ w32 (x3 + 1) ∧ w32 (x3 + 1) < ((G.2.1 26 : Nat) : Int)) <|
  asrt (0 ≤ w32 (x3 + 2) ∧ w32 (x3 + 2) < ((G.2.1 26 : Nat) : Int)) <|
  if w32 (scr G (w32 (x3 + 2)).toNat) = 0 then
    b14_law_1355 G rec18 x3 0 (scr G (w32 (x3 + 1)).toNat) h
  else
    b14_law_1355 G rec18 x3 1 (scr G (w32 (x3 + 1)).toNat) h
set_option maxRecDepth 100000 in
theorem t14_law_1336 (l : Launch) (G : Geo) (d : Nat) (hd : 16 ≤ d) (x3 : Int) (rec18 : Int × AH → Option (Int × AH)) (H18 : ∀ (x3 : Int) (h : AH), Den l G m14_law rvI d 18 [some (vS G 25), some (vA G 0), some (vA G 69), some (vI x3)] [] h (rec18 (x3, h))) (h : AH) : Den l G m14_law rvI d 1336 [some (vS G 25), some (vA G 0), some (vA G 69), some (vI x3)] [] h (b14_law_1336 G rec18 x3 h) := by
  unfold b14_law_1336
  refine den_aload_n (pc := 1336) d14_law_1336 rfl rfl ?_
  refine den_aloadS_n (pc := 1337) d14_law_1337 rfl rfl ?_
  refine den_iload_n (pc := 1338) d14_law_1338 rfl rfl ?_
  refine den_iconst (pc := 1339) d14_law_1339 ?_
  refine den_iadd (pc := 1340) d14_law_1340 ?_
  refine den_asrt (fun a349 => ?_)
  refine den_scrAt (pc := 1341) a349 d14_law_1341 ?_
  refine den_aloadS_n (pc := 1342) d14_law_1342 rfl rfl ?_
  refine den_iload_n (pc := 1343) d14_law_1343 rfl rfl ?_
  refine den_iconst (pc := 1344) d14_law_1344 ?_
  refine den_iadd (pc := 1345) d14_law_1345 ?_
  refine den_asrt (fun a350 => ?_)
  refine den_scrAt (pc := 1346) a350 d14_law_1346 ?_
  refine den_if_eq (pc := 1347) (tgt := 1354) d14_law_1347 (by decide) rfl (fun _ => ?_) (fun _ => ?_)
  · refine den_iconst (pc := 1354) d14_law_1354 ?_
    exact t14_law_1355 l G _ hd x3 0 (scr G (w32 (x3 + 1)).toNat) rec18 H18 h
  · refine den_iconst (pc := 1350) d14_law_1350 ?_
    refine den_goto (pc := 1351) (tgt := 1355) d14_law_1351 (by decide) ?_
    exact t14_law_1355 l G _ hd x3 1 (scr G (w32 (x3 + 1)).toNat) rec18 H18 h
def b14_law_1385 (G : Geo) (rec18 : Int × AH → Option (Int × AH)) (x3 : Int) (h : AH) : Option (Int × AH) :=
  asrt (0 ≤ w32 (x3 + 1) ∧ w32 (x3 + 1) < ((G.2.1 26 : Nat) : Int)) <|
  asrt (0 ≤ w32 (x3 + 2) ∧ w32 (x3 + 2) < ((G.2.1 26 : Nat) : Int)) <|
  bnd (f10_circle (scr G (w32 (x3 + 1)).toNat) (scr G (w32 (x3 + 2)).toNat) h) fun r353 h354 =>
  asrt (0 ≤ w32 (x3 + 1) ∧ w32 (x3 + 1) < ((G.2.1 26 : Nat) : Int)) <|
  asrt (0 ≤ w32 (x3 + 2) ∧ w32 (x3 + 2) < ((G.2.1 26 : Nat) : Int)) <|
  bnd (f11_circle (scr G (w32 (x3 + 1)).toNat) (scr G (w32 (x3 + 2)).toNat) h354) fun r359 h360 =>
  if w32 r353 = w32 r359 then
    b14_law_1784 G rec18 x3 h360
  else
    some (0, h360)
set_option maxRecDepth 100000 in
theorem t14_law_1385 (l : Launch) (G : Geo) (d : Nat) (hd : 16 ≤ d) (x3 : Int) (rec18 : Int × AH → Option (Int × AH)) (H18 : ∀ (x3 : Int) (h : AH), Den l G m14_law rvI d 18 [some (vS G 25), some (vA G 0), some (vA G 69), some (vI x3)] [] h (rec18 (x3, h))) (h : AH) : Den l G m14_law rvI d 1385 [some (vS G 25), some (vA G 0), some (vA G 69), some (vI x3)] [] h (b14_law_1385 G rec18 x3 h) := by
  unfold b14_law_1385
  refine den_aload_n (pc := 1385) d14_law_1385 rfl rfl ?_
  refine den_aloadS_n (pc := 1386) d14_law_1386 rfl rfl ?_
  refine den_iload_n (pc := 1387) d14_law_1387 rfl rfl ?_
  refine den_iconst (pc := 1388) d14_law_1388 ?_
  refine den_iadd (pc := 1389) d14_law_1389 ?_
  refine den_asrt (fun a351 => ?_)
  refine den_scrAt (pc := 1390) a351 d14_law_1390 ?_
  refine den_aloadS_n (pc := 1391) d14_law_1391 rfl rfl ?_
  refine den_iload_n (pc := 1392) d14_law_1392 rfl rfl ?_
  refine den_iconst (pc := 1393) d14_law_1393 ?_
  refine den_iadd (pc := 1394) d14_law_1394 ?_
  refine den_asrt (fun a352 => ?_)
  refine den_scrAt (pc := 1395) a352 d14_law_1395 ?_
  refine den_callVI (pc := 1396) (As := [vI (scr G (w32 (x3 + 1)).toNat), vI (scr G (w32 (x3 + 2)).toNat)]) fv_14_118 rfl rfl (ok_0 _) (Nat.le_of_ble_eq_true rfl) (Nat.le_trans (by decide) hd) d14_law_1396 (c10_circle l G (scr G (w32 (x3 + 1)).toNat) (scr G (w32 (x3 + 2)).toNat) h) (fun r353 h354 m355 o356 => ?_)
  refine den_aload_n (pc := 1399) d14_law_1399 rfl rfl ?_
  refine den_aloadS_n (pc := 1400) d14_law_1400 rfl rfl ?_
  refine den_iload_n (pc := 1401) d14_law_1401 rfl rfl ?_
  refine den_iconst (pc := 1402) d14_law_1402 ?_
  refine den_iadd (pc := 1403) d14_law_1403 ?_
  refine den_asrt (fun a357 => ?_)
  refine den_scrAt (pc := 1404) a357 d14_law_1404 ?_
  refine den_aloadS_n (pc := 1405) d14_law_1405 rfl rfl ?_
  refine den_iload_n (pc := 1406) d14_law_1406 rfl rfl ?_
  refine den_iconst (pc := 1407) d14_law_1407 ?_
  refine den_iadd (pc := 1408) d14_law_1408 ?_
  refine den_asrt (fun a358 => ?_)
  refine den_scrAt (pc := 1409) a358 d14_law_1409 ?_
  refine den_callVI (pc := 1410) (As := [vI (scr G (w32 (x3 + 1)).toNat), vI (scr G (w32 (x3 + 2)).toNat)]) fv_14_121 rfl rfl (ok_69 _) (Nat.le_of_ble_eq_true rfl) (Nat.le_trans (by decide) hd) d14_law_1410 (c11_circle l G (scr G (w32 (x3 + 1)).toNat) (scr G (w32 (x3 + 2)).toNat) h354) (fun r359 h360 m361 o362 => ?_)
  refine den_icmp_eq (pc := 1413) (tgt := 1784) d14_law_1413 (by decide) rfl rfl (fun _ => ?_) (fun _ => ?_)
  · exact t14_law_1784 l G _ hd x3 rec18 H18 h360
  · refine den_iconst (pc := 1416) d14_law_1416 ?_
    exact den_zret (pc := 1417) rfl (by decide) d14_law_1417
def b14_law_1418 (G : Geo) (rec18 : Int × AH → Option (Int × AH)) (x3 : Int) (h : AH) : Option (Int × AH) :=
  asrt (0 ≤ w32 (x3 + 1) ∧ w32 (x3 + 1) < ((G.2.1 26 : Nat) : Int)) <|
  asrt (0 ≤ w32 (x3 + 2) ∧ w32 (x3 + 2) < ((G.2.1 26 : Nat) : Int)) <|
  bnd (f10_kindred (scr G (w32 (x3 + 1)).toNat) (scr G (w32 (x3 + 2)).toNat) h) fun r365 h366 =>
  asrt (0 ≤ w32 (x3 + 1) ∧ w32 (x3 + 1) < ((G.2.1 26 : Nat) : Int)) <|
  asrt (0 ≤ w32 (x3 + 2) ∧ w32 (x3 + 2) < ((G.2.1 26 : Nat) : Int)) <|
  bnd (f11_kindred (scr G (w32 (x3 + 1)).toNat) (scr G (w32 (x3 + 2)).toNat) h366) fun r371 h372 =>
  if w32 r365 = w32 r371 then
    b14_law_1784 G rec18 x3 h372
  else
    some (0, h372)
set_option maxRecDepth 100000 in
theorem t14_law_1418 (l : Launch) (G : Geo) (d : Nat) (hd : 16 ≤ d) (x3 : Int) (rec18 : Int × AH → Option (Int × AH)) (H18 : ∀ (x3 : Int) (h : AH), Den l G m14_law rvI d 18 [some (vS G 25), some (vA G 0), some (vA G 69), some (vI x3)] [] h (rec18 (x3, h))) (h : AH) : Den l G m14_law rvI d 1418 [some (vS G 25), some (vA G 0), some (vA G 69), some (vI x3)] [] h (b14_law_1418 G rec18 x3 h) := by
  unfold b14_law_1418
  refine den_aload_n (pc := 1418) d14_law_1418 rfl rfl ?_
  refine den_aloadS_n (pc := 1419) d14_law_1419 rfl rfl ?_
  refine den_iload_n (pc := 1420) d14_law_1420 rfl rfl ?_
  refine den_iconst (pc := 1421) d14_law_1421 ?_
  refine den_iadd (pc := 1422) d14_law_1422 ?_
  refine den_asrt (fun a363 => ?_)
  refine den_scrAt (pc := 1423) a363 d14_law_1423 ?_
  refine den_aloadS_n (pc := 1424) d14_law_1424 rfl rfl ?_
  refine den_iload_n (pc := 1425) d14_law_1425 rfl rfl ?_
  refine den_iconst (pc := 1426) d14_law_1426 ?_
  refine den_iadd (pc := 1427) d14_law_1427 ?_
  refine den_asrt (fun a364 => ?_)
  refine den_scrAt (pc := 1428) a364 d14_law_1428 ?_
  refine den_callVI (pc := 1429) (As := [vI (scr G (w32 (x3 + 1)).toNat), vI (scr G (w32 (x3 + 2)).toNat)]) fv_14_122 rfl rfl (ok_0 _) (Nat.le_of_ble_eq_true rfl) (Nat.le_trans (by decide) hd) d14_law_1429 (c10_kindred l G (scr G (w32 (x3 + 1)).toNat) (scr G (w32 (x3 + 2)).toNat) h) (fun r365 h366 m367 o368 => ?_)
  refine den_aload_n (pc := 1432) d14_law_1432 rfl rfl ?_
  refine den_aloadS_n (pc := 1433) d14_law_1433 rfl rfl ?_
  refine den_iload_n (pc := 1434) d14_law_1434 rfl rfl ?_
  refine den_iconst (pc := 1435) d14_law_1435 ?_
  refine den_iadd (pc := 1436) d14_law_1436 ?_
  refine den_asrt (fun a369 => ?_)
  refine den_scrAt (pc := 1437) a369 d14_law_1437 ?_
  refine den_aloadS_n (pc := 1438) d14_law_1438 rfl rfl ?_
  refine den_iload_n (pc := 1439) d14_law_1439 rfl rfl ?_
  refine den_iconst (pc := 1440) d14_law_1440 ?_
  refine den_iadd (pc := 1441) d14_law_1441 ?_
  refine den_asrt (fun a370 => ?_)
  refine den_scrAt (pc := 1442) a370 d14_law_1442 ?_
  refine den_callVI (pc := 1443) (As := [vI (scr G (w32 (x3 + 1)).toNat), vI (scr G (w32 (x3 + 2)).toNat)]) fv_14_125 rfl rfl (ok_69 _) (Nat.le_of_ble_eq_true rfl) (Nat.le_trans (by decide) hd) d14_law_1443 (c11_kindred l G (scr G (w32 (x3 + 1)).toNat) (scr G (w32 (x3 + 2)).toNat) h366) (fun r371 h372 m373 o374 => ?_)
  refine den_icmp_eq (pc := 1446) (tgt := 1784) d14_law_1446 (by decide) rfl rfl (fun _ => ?_) (fun _ => ?_)
  · exact t14_law_1784 l G _ hd x3 rec18 H18 h372
  · refine den_iconst (pc := 1449) d14_law_1449 ?_
    exact den_zret (pc := 1450) rfl (by decide) d14_law_1450
def b14_law_1502 (G : Geo) (rec18 : Int × AH → Option (Int × AH)) (x3 : Int) (s0 : Int) (s1 : Int) (s2 : Int) (s4 : Int) (h : AH) : Option (Int × AH) :=
  bnd (f11_mean s2 s1 s0 h) fun r375 h376 =>
  if w32 (cmp64 s4 r375) = 0 then
    b14_law_1784 G rec18 x3 h376
  else
    some (0, h376)
set_option maxRecDepth 100000 in
theorem t14_law_1502 (l : Launch) (G : Geo) (d : Nat) (hd : 16 ≤ d) (x3 : Int) (s0 : Int) (s1 : Int) (s2 : Int) (s4 : Int) (rec18 : Int × AH → Option (Int × AH)) (H18 : ∀ (x3 : Int) (h : AH), Den l G m14_law rvI d 18 [some (vS G 25), some (vA G 0), some (vA G 69), some (vI x3)] [] h (rec18 (x3, h))) (h : AH) : Den l G m14_law rvI d 1502 [some (vS G 25), some (vA G 0), some (vA G 69), some (vI x3)] [vI s0, vI s1, vI s2, vA G 69, vJ s4] h (b14_law_1502 G rec18 x3 s0 s1 s2 s4 h) := by
  unfold b14_law_1502
  refine den_callVJ (pc := 1502) (As := [vI s2, vI s1, vI s0]) fv_14_130 rfl rfl (ok_69 _) (Nat.le_of_ble_eq_true rfl) (Nat.le_trans (by decide) hd) d14_law_1502 (c11_mean l G s2 s1 s0 h) (fun r375 h376 m377 o378 => ?_)
  refine den_lcmp (pc := 1505) d14_law_1505 ?_
  refine den_if_eq (pc := 1506) (tgt := 1784) d14_law_1506 (by decide) rfl (fun _ => ?_) (fun _ => ?_)
  · exact t14_law_1784 l G _ hd x3 rec18 H18 h376
  · refine den_iconst (pc := 1509) d14_law_1509 ?_
    exact den_zret (pc := 1510) rfl (by decide) d14_law_1510
def b14_law_1475 (G : Geo) (rec18 : Int × AH → Option (Int × AH)) (x3 : Int) (s0 : Int) (s1 : Int) (s2 : Int) (h : AH) : Option (Int × AH) :=
  bnd (f10_mean s2 s1 s0 h) fun r379 h380 =>
  asrt (0 ≤ w32 (x3 + 1) ∧ w32 (x3 + 1) < ((G.2.1 26 : Nat) : Int)) <|
  asrt (0 ≤ w32 (x3 + 2) ∧ w32 (x3 + 2) < ((G.2.1 26 : Nat) : Int)) <|
  asrt (0 ≤ w32 (x3 + 3) ∧ w32 (x3 + 3) < ((G.2.1 26 : Nat) : Int)) <|
  if w32 (scr G (w32 (x3 + 3)).toNat) = 0 then
    b14_law_1502 G rec18 x3 0 (scr G (w32 (x3 + 2)).toNat) (scr G (w32 (x3 + 1)).toNat) r379 h380
  else
    b14_law_1502 G rec18 x3 1 (scr G (w32 (x3 + 2)).toNat) (scr G (w32 (x3 + 1)).toNat) r379 h380
set_option maxRecDepth 100000 in
theorem t14_law_1475 (l : Launch) (G : Geo) (d : Nat) (hd : 16 ≤ d) (x3 : Int) (s0 : Int) (s1 : Int) (s2 : Int) (rec18 : Int × AH → Option (Int × AH)) (H18 : ∀ (x3 : Int) (h : AH), Den l G m14_law rvI d 18 [some (vS G 25), some (vA G 0), some (vA G 69), some (vI x3)] [] h (rec18 (x3, h))) (h : AH) : Den l G m14_law rvI d 1475 [some (vS G 25), some (vA G 0), some (vA G 69), some (vI x3)] [vI s0, vI s1, vI s2, vA G 0] h (b14_law_1475 G rec18 x3 s0 s1 s2 h) := by
  unfold b14_law_1475
  refine den_callVJ (pc := 1475) (As := [vI s2, vI s1, vI s0]) fv_14_126 rfl rfl (ok_0 _) (Nat.le_of_ble_eq_true rfl) (Nat.le_trans (by decide) hd) d14_law_1475 (c10_mean l G s2 s1 s0 h) (fun r379 h380 m381 o382 => ?_)
  refine den_aload_n (pc := 1478) d14_law_1478 rfl rfl ?_
  refine den_aloadS_n (pc := 1479) d14_law_1479 rfl rfl ?_
  refine den_iload_n (pc := 1480) d14_law_1480 rfl rfl ?_
  refine den_iconst (pc := 1481) d14_law_1481 ?_
  refine den_iadd (pc := 1482) d14_law_1482 ?_
  refine den_asrt (fun a383 => ?_)
  refine den_scrAt (pc := 1483) a383 d14_law_1483 ?_
  refine den_aloadS_n (pc := 1484) d14_law_1484 rfl rfl ?_
  refine den_iload_n (pc := 1485) d14_law_1485 rfl rfl ?_
  refine den_iconst (pc := 1486) d14_law_1486 ?_
  refine den_iadd (pc := 1487) d14_law_1487 ?_
  refine den_asrt (fun a384 => ?_)
  refine den_scrAt (pc := 1488) a384 d14_law_1488 ?_
  refine den_aloadS_n (pc := 1489) d14_law_1489 rfl rfl ?_
  refine den_iload_n (pc := 1490) d14_law_1490 rfl rfl ?_
  refine den_iconst (pc := 1491) d14_law_1491 ?_
  refine den_iadd (pc := 1492) d14_law_1492 ?_
  refine den_asrt (fun a385 => ?_)
  refine den_scrAt (pc := 1493) a385 d14_law_1493 ?_
  refine den_if_eq (pc := 1494) (tgt := 1501) d14_law_1494 (by decide) rfl (fun _ => ?_) (fun _ => ?_)
  · refine den_iconst (pc := 1501) d14_law_1501 ?_
    exact t14_law_1502 l G _ hd x3 0 (scr G (w32 (x3 + 2)).toNat) (scr G (w32 (x3 + 1)).toNat) r379 rec18 H18 h380
  · refine den_iconst (pc := 1497) d14_law_1497 ?_
    refine den_goto (pc := 1498) (tgt := 1502) d14_law_1498 (by decide) ?_
    exact t14_law_1502 l G _ hd x3 1 (scr G (w32 (x3 + 2)).toNat) (scr G (w32 (x3 + 1)).toNat) r379 rec18 H18 h380
def b14_law_1451 (G : Geo) (rec18 : Int × AH → Option (Int × AH)) (x3 : Int) (h : AH) : Option (Int × AH) :=
  asrt (0 ≤ w32 (x3 + 1) ∧ w32 (x3 + 1) < ((G.2.1 26 : Nat) : Int)) <|
  asrt (0 ≤ w32 (x3 + 2) ∧ w32 (x3 + 2) < ((G.2.1 26 : Nat) : Int)) <|
  asrt (0 ≤ w32 (x3 + 3) ∧ w32 (x3 + 3) < ((G.2.1 26 : Nat) : Int)) <|
  if w32 (scr G (w32 (x3 + 3)).toNat) = 0 then
    b14_law_1475 G rec18 x3 0 (scr G (w32 (x3 + 2)).toNat) (scr G (w32 (x3 + 1)).toNat) h
  else
    b14_law_1475 G rec18 x3 1 (scr G (w32 (x3 + 2)).toNat) (scr G (w32 (x3 + 1)).toNat) h
set_option maxRecDepth 100000 in
theorem t14_law_1451 (l : Launch) (G : Geo) (d : Nat) (hd : 16 ≤ d) (x3 : Int) (rec18 : Int × AH → Option (Int × AH)) (H18 : ∀ (x3 : Int) (h : AH), Den l G m14_law rvI d 18 [some (vS G 25), some (vA G 0), some (vA G 69), some (vI x3)] [] h (rec18 (x3, h))) (h : AH) : Den l G m14_law rvI d 1451 [some (vS G 25), some (vA G 0), some (vA G 69), some (vI x3)] [] h (b14_law_1451 G rec18 x3 h) := by
  unfold b14_law_1451
  refine den_aload_n (pc := 1451) d14_law_1451 rfl rfl ?_
  refine den_aloadS_n (pc := 1452) d14_law_1452 rfl rfl ?_
  refine den_iload_n (pc := 1453) d14_law_1453 rfl rfl ?_
  refine den_iconst (pc := 1454) d14_law_1454 ?_
  refine den_iadd (pc := 1455) d14_law_1455 ?_
  refine den_asrt (fun a386 => ?_)
  refine den_scrAt (pc := 1456) a386 d14_law_1456 ?_
  refine den_aloadS_n (pc := 1457) d14_law_1457 rfl rfl ?_
  refine den_iload_n (pc := 1458) d14_law_1458 rfl rfl ?_
  refine den_iconst (pc := 1459) d14_law_1459 ?_
  refine den_iadd (pc := 1460) d14_law_1460 ?_
  refine den_asrt (fun a387 => ?_)
  refine den_scrAt (pc := 1461) a387 d14_law_1461 ?_
  refine den_aloadS_n (pc := 1462) d14_law_1462 rfl rfl ?_
  refine den_iload_n (pc := 1463) d14_law_1463 rfl rfl ?_
  refine den_iconst (pc := 1464) d14_law_1464 ?_
  refine den_iadd (pc := 1465) d14_law_1465 ?_
  refine den_asrt (fun a388 => ?_)
  refine den_scrAt (pc := 1466) a388 d14_law_1466 ?_
  refine den_if_eq (pc := 1467) (tgt := 1474) d14_law_1467 (by decide) rfl (fun _ => ?_) (fun _ => ?_)
  · refine den_iconst (pc := 1474) d14_law_1474 ?_
    exact t14_law_1475 l G _ hd x3 0 (scr G (w32 (x3 + 2)).toNat) (scr G (w32 (x3 + 1)).toNat) rec18 H18 h
  · refine den_iconst (pc := 1470) d14_law_1470 ?_
    refine den_goto (pc := 1471) (tgt := 1475) d14_law_1471 (by decide) ?_
    exact t14_law_1475 l G _ hd x3 1 (scr G (w32 (x3 + 2)).toNat) (scr G (w32 (x3 + 1)).toNat) rec18 H18 h
def b14_law_1511 (G : Geo) (rec18 : Int × AH → Option (Int × AH)) (x3 : Int) (h : AH) : Option (Int × AH) :=
  asrt (0 ≤ w32 (x3 + 1) ∧ w32 (x3 + 1) < ((G.2.1 26 : Nat) : Int)) <|
  asrt (0 ≤ w32 (x3 + 2) ∧ w32 (x3 + 2) < ((G.2.1 26 : Nat) : Int)) <|
  asrt (0 ≤ w32 (x3 + 3) ∧ w32 (x3 + 3) < ((G.2.1 26 : Nat) : Int)) <|
  bnd (f10_after (scr G (w32 (x3 + 1)).toNat) (scr G (w32 (x3 + 2)).toNat) (scr G (w32 (x3 + 3)).toNat) h) fun r392 h393 =>
  asrt (0 ≤ w32 (x3 + 1) ∧ w32 (x3 + 1) < ((G.2.1 26 : Nat) : Int)) <|
  asrt (0 ≤ w32 (x3 + 2) ∧ w32 (x3 + 2) < ((G.2.1 26 : Nat) : Int)) <|
  asrt (0 ≤ w32 (x3 + 3) ∧ w32 (x3 + 3) < ((G.2.1 26 : Nat) : Int)) <|
  bnd (f11_after (scr G (w32 (x3 + 1)).toNat) (scr G (w32 (x3 + 2)).toNat) (scr G (w32 (x3 + 3)).toNat) h393) fun r399 h400 =>
  if w32 r392 = w32 r399 then
    b14_law_1784 G rec18 x3 h400
  else
    some (0, h400)
set_option maxRecDepth 100000 in
theorem t14_law_1511 (l : Launch) (G : Geo) (d : Nat) (hd : 16 ≤ d) (x3 : Int) (rec18 : Int × AH → Option (Int × AH)) (H18 : ∀ (x3 : Int) (h : AH), Den l G m14_law rvI d 18 [some (vS G 25), some (vA G 0), some (vA G 69), some (vI x3)] [] h (rec18 (x3, h))) (h : AH) : Den l G m14_law rvI d 1511 [some (vS G 25), some (vA G 0), some (vA G 69), some (vI x3)] [] h (b14_law_1511 G rec18 x3 h) := by
  unfold b14_law_1511
  refine den_aload_n (pc := 1511) d14_law_1511 rfl rfl ?_
  refine den_aloadS_n (pc := 1512) d14_law_1512 rfl rfl ?_
  refine den_iload_n (pc := 1513) d14_law_1513 rfl rfl ?_
  refine den_iconst (pc := 1514) d14_law_1514 ?_
  refine den_iadd (pc := 1515) d14_law_1515 ?_
  refine den_asrt (fun a389 => ?_)
  refine den_scrAt (pc := 1516) a389 d14_law_1516 ?_
  refine den_aloadS_n (pc := 1517) d14_law_1517 rfl rfl ?_
  refine den_iload_n (pc := 1518) d14_law_1518 rfl rfl ?_
  refine den_iconst (pc := 1519) d14_law_1519 ?_
  refine den_iadd (pc := 1520) d14_law_1520 ?_
  refine den_asrt (fun a390 => ?_)
  refine den_scrAt (pc := 1521) a390 d14_law_1521 ?_
  refine den_aloadS_n (pc := 1522) d14_law_1522 rfl rfl ?_
  refine den_iload_n (pc := 1523) d14_law_1523 rfl rfl ?_
  refine den_iconst (pc := 1524) d14_law_1524 ?_
  refine den_iadd (pc := 1525) d14_law_1525 ?_
  refine den_asrt (fun a391 => ?_)
  refine den_scrAt (pc := 1526) a391 d14_law_1526 ?_
  refine den_callVI (pc := 1527) (As := [vI (scr G (w32 (x3 + 1)).toNat), vI (scr G (w32 (x3 + 2)).toNat), vI (scr G (w32 (x3 + 3)).toNat)]) fv_14_131 rfl rfl (ok_0 _) (Nat.le_of_ble_eq_true rfl) (Nat.le_trans (by decide) hd) d14_law_1527 (c10_after l G (scr G (w32 (x3 + 1)).toNat) (scr G (w32 (x3 + 2)).toNat) (scr G (w32 (x3 + 3)).toNat) h) (fun r392 h393 m394 o395 => ?_)
  refine den_aload_n (pc := 1530) d14_law_1530 rfl rfl ?_
  refine den_aloadS_n (pc := 1531) d14_law_1531 rfl rfl ?_
  refine den_iload_n (pc := 1532) d14_law_1532 rfl rfl ?_
  refine den_iconst (pc := 1533) d14_law_1533 ?_
  refine den_iadd (pc := 1534) d14_law_1534 ?_
  refine den_asrt (fun a396 => ?_)
  refine den_scrAt (pc := 1535) a396 d14_law_1535 ?_
  refine den_aloadS_n (pc := 1536) d14_law_1536 rfl rfl ?_
  refine den_iload_n (pc := 1537) d14_law_1537 rfl rfl ?_
  refine den_iconst (pc := 1538) d14_law_1538 ?_
  refine den_iadd (pc := 1539) d14_law_1539 ?_
  refine den_asrt (fun a397 => ?_)
  refine den_scrAt (pc := 1540) a397 d14_law_1540 ?_
  refine den_aloadS_n (pc := 1541) d14_law_1541 rfl rfl ?_
  refine den_iload_n (pc := 1542) d14_law_1542 rfl rfl ?_
  refine den_iconst (pc := 1543) d14_law_1543 ?_
  refine den_iadd (pc := 1544) d14_law_1544 ?_
  refine den_asrt (fun a398 => ?_)
  refine den_scrAt (pc := 1545) a398 d14_law_1545 ?_
  refine den_callVI (pc := 1546) (As := [vI (scr G (w32 (x3 + 1)).toNat), vI (scr G (w32 (x3 + 2)).toNat), vI (scr G (w32 (x3 + 3)).toNat)]) fv_14_134 rfl rfl (ok_69 _) (Nat.le_of_ble_eq_true rfl) (Nat.le_trans (by decide) hd) d14_law_1546 (c11_after l G (scr G (w32 (x3 + 1)).toNat) (scr G (w32 (x3 + 2)).toNat) (scr G (w32 (x3 + 3)).toNat) h393) (fun r399 h400 m401 o402 => ?_)
  refine den_icmp_eq (pc := 1549) (tgt := 1784) d14_law_1549 (by decide) rfl rfl (fun _ => ?_) (fun _ => ?_)
  · exact t14_law_1784 l G _ hd x3 rec18 H18 h400
  · refine den_iconst (pc := 1552) d14_law_1552 ?_
    exact den_zret (pc := 1553) rfl (by decide) d14_law_1553
def b14_law_1625 (G : Geo) (rec18 : Int × AH → Option (Int × AH)) (x3 : Int) (s0 : Int) (s1 : Int) (s2 : Int) (s3 : Int) (s4 : Int) (s6 : Int) (h : AH) : Option (Int × AH) :=
  bnd (f11_next s4 s3 s2 s1 s0 h) fun r403 h404 =>
  if w32 s6 = w32 r403 then
    b14_law_1784 G rec18 x3 h404
  else
    some (0, h404)
set_option maxRecDepth 100000 in
theorem t14_law_1625 (l : Launch) (G : Geo) (d : Nat) (hd : 16 ≤ d) (x3 : Int) (s0 : Int) (s1 : Int) (s2 : Int) (s3 : Int) (s4 : Int) (s6 : Int) (rec18 : Int × AH → Option (Int × AH)) (H18 : ∀ (x3 : Int) (h : AH), Den l G m14_law rvI d 18 [some (vS G 25), some (vA G 0), some (vA G 69), some (vI x3)] [] h (rec18 (x3, h))) (h : AH) : Den l G m14_law rvI d 1625 [some (vS G 25), some (vA G 0), some (vA G 69), some (vI x3)] [vI s0, vI s1, vI s2, vI s3, vI s4, vA G 69, vI s6] h (b14_law_1625 G rec18 x3 s0 s1 s2 s3 s4 s6 h) := by
  unfold b14_law_1625
  refine den_callVI (pc := 1625) (As := [vI s4, vI s3, vI s2, vI s1, vI s0]) fv_14_138 rfl rfl (ok_69 _) (Nat.le_of_ble_eq_true rfl) (Nat.le_trans (by decide) hd) d14_law_1625 (c11_next l G s4 s3 s2 s1 s0 h) (fun r403 h404 m405 o406 => ?_)
  refine den_icmp_eq (pc := 1628) (tgt := 1784) d14_law_1628 (by decide) rfl rfl (fun _ => ?_) (fun _ => ?_)
  · exact t14_law_1784 l G _ hd x3 rec18 H18 h404
  · refine den_iconst (pc := 1631) d14_law_1631 ?_
    exact den_zret (pc := 1632) rfl (by decide) d14_law_1632
def b14_law_1588 (G : Geo) (rec18 : Int × AH → Option (Int × AH)) (x3 : Int) (s0 : Int) (s1 : Int) (s2 : Int) (s3 : Int) (s4 : Int) (h : AH) : Option (Int × AH) :=
  bnd (f10_next s4 s3 s2 s1 s0 h) fun r407 h408 =>
  asrt (0 ≤ w32 (x3 + 1) ∧ w32 (x3 + 1) < ((G.2.1 26 : Nat) : Int)) <|
  asrt (0 ≤ w32 (x3 + 2) ∧ w32 (x3 + 2) < ((G.2.1 26 : Nat) : Int)) <|
  asrt (0 ≤ w32 (x3 + 3) ∧ w32 (x3 + 3) < ((G.2.1 26 : Nat) : Int)) <|
  asrt (0 ≤ w32 (x3 + 4) ∧ w32 (x3 + 4) < ((G.2.1 26 : Nat) : Int)) <|
  asrt (0 ≤ w32 (x3 + 5) ∧ w32 (x3 + 5) < ((G.2.1 26 : Nat) : Int)) <|
  if w32 (scr G (w32 (x3 + 5)).toNat) = 0 then
    b14_law_1625 G rec18 x3 0 (scr G (w32 (x3 + 4)).toNat) (scr G (w32 (x3 + 3)).toNat) (scr G (w32 (x3 + 2)).toNat) (scr G (w32 (x3 + 1)).toNat) r407 h408
  else
    b14_law_1625 G rec18 x3 1 (scr G (w32 (x3 + 4)).toNat) (scr G (w32 (x3 + 3)).toNat) (scr G (w32 (x3 + 2)).toNat) (scr G (w32 (x3 + 1)).toNat) r407 h408
set_option maxRecDepth 100000 in
theorem t14_law_1588 (l : Launch) (G : Geo) (d : Nat) (hd : 16 ≤ d) (x3 : Int) (s0 : Int) (s1 : Int) (s2 : Int) (s3 : Int) (s4 : Int) (rec18 : Int × AH → Option (Int × AH)) (H18 : ∀ (x3 : Int) (h : AH), Den l G m14_law rvI d 18 [some (vS G 25), some (vA G 0), some (vA G 69), some (vI x3)] [] h (rec18 (x3, h))) (h : AH) : Den l G m14_law rvI d 1588 [some (vS G 25), some (vA G 0), some (vA G 69), some (vI x3)] [vI s0, vI s1, vI s2, vI s3, vI s4, vA G 0] h (b14_law_1588 G rec18 x3 s0 s1 s2 s3 s4 h) := by
  unfold b14_law_1588
  refine den_callVI (pc := 1588) (As := [vI s4, vI s3, vI s2, vI s1, vI s0]) fv_14_135 rfl rfl (ok_0 _) (Nat.le_of_ble_eq_true rfl) (Nat.le_trans (by decide) hd) d14_law_1588 (c10_next l G s4 s3 s2 s1 s0 h) (fun r407 h408 m409 o410 => ?_)
  refine den_aload_n (pc := 1591) d14_law_1591 rfl rfl ?_
  refine den_aloadS_n (pc := 1592) d14_law_1592 rfl rfl ?_
  refine den_iload_n (pc := 1593) d14_law_1593 rfl rfl ?_
  refine den_iconst (pc := 1594) d14_law_1594 ?_
  refine den_iadd (pc := 1595) d14_law_1595 ?_
  refine den_asrt (fun a411 => ?_)
  refine den_scrAt (pc := 1596) a411 d14_law_1596 ?_
  refine den_aloadS_n (pc := 1597) d14_law_1597 rfl rfl ?_
  refine den_iload_n (pc := 1598) d14_law_1598 rfl rfl ?_
  refine den_iconst (pc := 1599) d14_law_1599 ?_
  refine den_iadd (pc := 1600) d14_law_1600 ?_
  refine den_asrt (fun a412 => ?_)
  refine den_scrAt (pc := 1601) a412 d14_law_1601 ?_
  refine den_aloadS_n (pc := 1602) d14_law_1602 rfl rfl ?_
  refine den_iload_n (pc := 1603) d14_law_1603 rfl rfl ?_
  refine den_iconst (pc := 1604) d14_law_1604 ?_
  refine den_iadd (pc := 1605) d14_law_1605 ?_
  refine den_asrt (fun a413 => ?_)
  refine den_scrAt (pc := 1606) a413 d14_law_1606 ?_
  refine den_aloadS_n (pc := 1607) d14_law_1607 rfl rfl ?_
  refine den_iload_n (pc := 1608) d14_law_1608 rfl rfl ?_
  refine den_iconst (pc := 1609) d14_law_1609 ?_
  refine den_iadd (pc := 1610) d14_law_1610 ?_
  refine den_asrt (fun a414 => ?_)
  refine den_scrAt (pc := 1611) a414 d14_law_1611 ?_
  refine den_aloadS_n (pc := 1612) d14_law_1612 rfl rfl ?_
  refine den_iload_n (pc := 1613) d14_law_1613 rfl rfl ?_
  refine den_iconst (pc := 1614) d14_law_1614 ?_
  refine den_iadd (pc := 1615) d14_law_1615 ?_
  refine den_asrt (fun a415 => ?_)
  refine den_scrAt (pc := 1616) a415 d14_law_1616 ?_
  refine den_if_eq (pc := 1617) (tgt := 1624) d14_law_1617 (by decide) rfl (fun _ => ?_) (fun _ => ?_)
  · refine den_iconst (pc := 1624) d14_law_1624 ?_
    exact t14_law_1625 l G _ hd x3 0 (scr G (w32 (x3 + 4)).toNat) (scr G (w32 (x3 + 3)).toNat) (scr G (w32 (x3 + 2)).toNat) (scr G (w32 (x3 + 1)).toNat) r407 rec18 H18 h408
  · refine den_iconst (pc := 1620) d14_law_1620 ?_
    refine den_goto (pc := 1621) (tgt := 1625) d14_law_1621 (by decide) ?_
    exact t14_law_1625 l G _ hd x3 1 (scr G (w32 (x3 + 4)).toNat) (scr G (w32 (x3 + 3)).toNat) (scr G (w32 (x3 + 2)).toNat) (scr G (w32 (x3 + 1)).toNat) r407 rec18 H18 h408
def b14_law_1554 (G : Geo) (rec18 : Int × AH → Option (Int × AH)) (x3 : Int) (h : AH) : Option (Int × AH) :=
  asrt (0 ≤ w32 (x3 + 1) ∧ w32 (x3 + 1) < ((G.2.1 26 : Nat) : Int)) <|
  asrt (0 ≤ w32 (x3 + 2) ∧ w32 (x3 + 2) < ((G.2.1 26 : Nat) : Int)) <|
  asrt (0 ≤ w32 (x3 + 3) ∧ w32 (x3 + 3) < ((G.2.1 26 : Nat) : Int)) <|
  asrt (0 ≤ w32 (x3 + 4) ∧ w32 (x3 + 4) < ((G.2.1 26 : Nat) : Int)) <|
  asrt (0 ≤ w32 (x3 + 5) ∧ w32 (x3 + 5) < ((G.2.1 26 : Nat) : Int)) <|
  if w32 (scr G (w32 (x3 + 5)).toNat) = 0 then
    b14_law_1588 G rec18 x3 0 (scr G (w32 (x3 + 4)).toNat) (scr G (w32 (x3 + 3)).toNat) (scr G (w32 (x3 + 2)).toNat) (scr G (w32 (x3 + 1)).toNat) h
  else
    b14_law_1588 G rec18 x3 1 (scr G (w32 (x3 + 4)).toNat) (scr G (w32 (x3 + 3)).toNat) (scr G (w32 (x3 + 2)).toNat) (scr G (w32 (x3 + 1)).toNat) h
set_option maxRecDepth 100000 in
theorem t14_law_1554 (l : Launch) (G : Geo) (d : Nat) (hd : 16 ≤ d) (x3 : Int) (rec18 : Int × AH → Option (Int × AH)) (H18 : ∀ (x3 : Int) (h : AH), Den l G m14_law rvI d 18 [some (vS G 25), some (vA G 0), some (vA G 69), some (vI x3)] [] h (rec18 (x3, h))) (h : AH) : Den l G m14_law rvI d 1554 [some (vS G 25), some (vA G 0), some (vA G 69), some (vI x3)] [] h (b14_law_1554 G rec18 x3 h) := by
  unfold b14_law_1554
  refine den_aload_n (pc := 1554) d14_law_1554 rfl rfl ?_
  refine den_aloadS_n (pc := 1555) d14_law_1555 rfl rfl ?_
  refine den_iload_n (pc := 1556) d14_law_1556 rfl rfl ?_
  refine den_iconst (pc := 1557) d14_law_1557 ?_
  refine den_iadd (pc := 1558) d14_law_1558 ?_
  refine den_asrt (fun a416 => ?_)
  refine den_scrAt (pc := 1559) a416 d14_law_1559 ?_
  refine den_aloadS_n (pc := 1560) d14_law_1560 rfl rfl ?_
  refine den_iload_n (pc := 1561) d14_law_1561 rfl rfl ?_
  refine den_iconst (pc := 1562) d14_law_1562 ?_
  refine den_iadd (pc := 1563) d14_law_1563 ?_
  refine den_asrt (fun a417 => ?_)
  refine den_scrAt (pc := 1564) a417 d14_law_1564 ?_
  refine den_aloadS_n (pc := 1565) d14_law_1565 rfl rfl ?_
  refine den_iload_n (pc := 1566) d14_law_1566 rfl rfl ?_
  refine den_iconst (pc := 1567) d14_law_1567 ?_
  refine den_iadd (pc := 1568) d14_law_1568 ?_
  refine den_asrt (fun a418 => ?_)
  refine den_scrAt (pc := 1569) a418 d14_law_1569 ?_
  refine den_aloadS_n (pc := 1570) d14_law_1570 rfl rfl ?_
  refine den_iload_n (pc := 1571) d14_law_1571 rfl rfl ?_
  refine den_iconst (pc := 1572) d14_law_1572 ?_
  refine den_iadd (pc := 1573) d14_law_1573 ?_
  refine den_asrt (fun a419 => ?_)
  refine den_scrAt (pc := 1574) a419 d14_law_1574 ?_
  refine den_aloadS_n (pc := 1575) d14_law_1575 rfl rfl ?_
  refine den_iload_n (pc := 1576) d14_law_1576 rfl rfl ?_
  refine den_iconst (pc := 1577) d14_law_1577 ?_
  refine den_iadd (pc := 1578) d14_law_1578 ?_
  refine den_asrt (fun a420 => ?_)
  refine den_scrAt (pc := 1579) a420 d14_law_1579 ?_
  refine den_if_eq (pc := 1580) (tgt := 1587) d14_law_1580 (by decide) rfl (fun _ => ?_) (fun _ => ?_)
  · refine den_iconst (pc := 1587) d14_law_1587 ?_
    exact t14_law_1588 l G _ hd x3 0 (scr G (w32 (x3 + 4)).toNat) (scr G (w32 (x3 + 3)).toNat) (scr G (w32 (x3 + 2)).toNat) (scr G (w32 (x3 + 1)).toNat) rec18 H18 h
  · refine den_iconst (pc := 1583) d14_law_1583 ?_
    refine den_goto (pc := 1584) (tgt := 1588) d14_law_1584 (by decide) ?_
    exact t14_law_1588 l G _ hd x3 1 (scr G (w32 (x3 + 4)).toNat) (scr G (w32 (x3 + 3)).toNat) (scr G (w32 (x3 + 2)).toNat) (scr G (w32 (x3 + 1)).toNat) rec18 H18 h
def b14_law_1684 (G : Geo) (rec18 : Int × AH → Option (Int × AH)) (x3 : Int) (s0 : Int) (s1 : Int) (s2 : Int) (s4 : Int) (h : AH) : Option (Int × AH) :=
  bnd (f11_farthest s2 s1 s0 h) fun r421 h422 =>
  if w32 s4 = w32 r421 then
    b14_law_1784 G rec18 x3 h422
  else
    some (0, h422)
set_option maxRecDepth 100000 in
theorem t14_law_1684 (l : Launch) (G : Geo) (d : Nat) (hd : 16 ≤ d) (x3 : Int) (s0 : Int) (s1 : Int) (s2 : Int) (s4 : Int) (rec18 : Int × AH → Option (Int × AH)) (H18 : ∀ (x3 : Int) (h : AH), Den l G m14_law rvI d 18 [some (vS G 25), some (vA G 0), some (vA G 69), some (vI x3)] [] h (rec18 (x3, h))) (h : AH) : Den l G m14_law rvI d 1684 [some (vS G 25), some (vA G 0), some (vA G 69), some (vI x3)] [vI s0, vI s1, vI s2, vA G 69, vI s4] h (b14_law_1684 G rec18 x3 s0 s1 s2 s4 h) := by
  unfold b14_law_1684
  refine den_callVI (pc := 1684) (As := [vI s2, vI s1, vI s0]) fv_14_143 rfl rfl (ok_69 _) (Nat.le_of_ble_eq_true rfl) (Nat.le_trans (by decide) hd) d14_law_1684 (c11_farthest l G s2 s1 s0 h) (fun r421 h422 m423 o424 => ?_)
  refine den_icmp_eq (pc := 1687) (tgt := 1784) d14_law_1687 (by decide) rfl rfl (fun _ => ?_) (fun _ => ?_)
  · exact t14_law_1784 l G _ hd x3 rec18 H18 h422
  · refine den_iconst (pc := 1690) d14_law_1690 ?_
    exact den_zret (pc := 1691) rfl (by decide) d14_law_1691
def b14_law_1657 (G : Geo) (rec18 : Int × AH → Option (Int × AH)) (x3 : Int) (s0 : Int) (s1 : Int) (s2 : Int) (h : AH) : Option (Int × AH) :=
  bnd (f10_farthest s2 s1 s0 h) fun r425 h426 =>
  asrt (0 ≤ w32 (x3 + 1) ∧ w32 (x3 + 1) < ((G.2.1 26 : Nat) : Int)) <|
  asrt (0 ≤ w32 (x3 + 2) ∧ w32 (x3 + 2) < ((G.2.1 26 : Nat) : Int)) <|
  asrt (0 ≤ w32 (x3 + 3) ∧ w32 (x3 + 3) < ((G.2.1 26 : Nat) : Int)) <|
  if w32 (scr G (w32 (x3 + 3)).toNat) = 0 then
    b14_law_1684 G rec18 x3 0 (scr G (w32 (x3 + 2)).toNat) (scr G (w32 (x3 + 1)).toNat) r425 h426
  else
    b14_law_1684 G rec18 x3 1 (scr G (w32 (x3 + 2)).toNat) (scr G (w32 (x3 + 1)).toNat) r425 h426
set_option maxRecDepth 100000 in
theorem t14_law_1657 (l : Launch) (G : Geo) (d : Nat) (hd : 16 ≤ d) (x3 : Int) (s0 : Int) (s1 : Int) (s2 : Int) (rec18 : Int × AH → Option (Int × AH)) (H18 : ∀ (x3 : Int) (h : AH), Den l G m14_law rvI d 18 [some (vS G 25), some (vA G 0), some (vA G 69), some (vI x3)] [] h (rec18 (x3, h))) (h : AH) : Den l G m14_law rvI d 1657 [some (vS G 25), some (vA G 0), some (vA G 69), some (vI x3)] [vI s0, vI s1, vI s2, vA G 0] h (b14_law_1657 G rec18 x3 s0 s1 s2 h) := by
  unfold b14_law_1657
  refine den_callVI (pc := 1657) (As := [vI s2, vI s1, vI s0]) fv_14_139 rfl rfl (ok_0 _) (Nat.le_of_ble_eq_true rfl) (Nat.le_trans (by decide) hd) d14_law_1657 (c10_farthest l G s2 s1 s0 h) (fun r425 h426 m427 o428 => ?_)
  refine den_aload_n (pc := 1660) d14_law_1660 rfl rfl ?_
  refine den_aloadS_n (pc := 1661) d14_law_1661 rfl rfl ?_
  refine den_iload_n (pc := 1662) d14_law_1662 rfl rfl ?_
  refine den_iconst (pc := 1663) d14_law_1663 ?_
  refine den_iadd (pc := 1664) d14_law_1664 ?_
  refine den_asrt (fun a429 => ?_)
  refine den_scrAt (pc := 1665) a429 d14_law_1665 ?_
  refine den_aloadS_n (pc := 1666) d14_law_1666 rfl rfl ?_
  refine den_iload_n (pc := 1667) d14_law_1667 rfl rfl ?_
  refine den_iconst (pc := 1668) d14_law_1668 ?_
  refine den_iadd (pc := 1669) d14_law_1669 ?_
  refine den_asrt (fun a430 => ?_)
  refine den_scrAt (pc := 1670) a430 d14_law_1670 ?_
  refine den_aloadS_n (pc := 1671) d14_law_1671 rfl rfl ?_
  refine den_iload_n (pc := 1672) d14_law_1672 rfl rfl ?_
  refine den_iconst (pc := 1673) d14_law_1673 ?_
  refine den_iadd (pc := 1674) d14_law_1674 ?_
  refine den_asrt (fun a431 => ?_)
  refine den_scrAt (pc := 1675) a431 d14_law_1675 ?_
  refine den_if_eq (pc := 1676) (tgt := 1683) d14_law_1676 (by decide) rfl (fun _ => ?_) (fun _ => ?_)
  · refine den_iconst (pc := 1683) d14_law_1683 ?_
    exact t14_law_1684 l G _ hd x3 0 (scr G (w32 (x3 + 2)).toNat) (scr G (w32 (x3 + 1)).toNat) r425 rec18 H18 h426
  · refine den_iconst (pc := 1679) d14_law_1679 ?_
    refine den_goto (pc := 1680) (tgt := 1684) d14_law_1680 (by decide) ?_
    exact t14_law_1684 l G _ hd x3 1 (scr G (w32 (x3 + 2)).toNat) (scr G (w32 (x3 + 1)).toNat) r425 rec18 H18 h426
def b14_law_1633 (G : Geo) (rec18 : Int × AH → Option (Int × AH)) (x3 : Int) (h : AH) : Option (Int × AH) :=
  asrt (0 ≤ w32 (x3 + 1) ∧ w32 (x3 + 1) < ((G.2.1 26 : Nat) : Int)) <|
  asrt (0 ≤ w32 (x3 + 2) ∧ w32 (x3 + 2) < ((G.2.1 26 : Nat) : Int)) <|
  asrt (0 ≤ w32 (x3 + 3) ∧ w32 (x3 + 3) < ((G.2.1 26 : Nat) : Int)) <|
  if w32 (scr G (w32 (x3 + 3)).toNat) = 0 then
    b14_law_1657 G rec18 x3 0 (scr G (w32 (x3 + 2)).toNat) (scr G (w32 (x3 + 1)).toNat) h
  else
    b14_law_1657 G rec18 x3 1 (scr G (w32 (x3 + 2)).toNat) (scr G (w32 (x3 + 1)).toNat) h
set_option maxRecDepth 100000 in
theorem t14_law_1633 (l : Launch) (G : Geo) (d : Nat) (hd : 16 ≤ d) (x3 : Int) (rec18 : Int × AH → Option (Int × AH)) (H18 : ∀ (x3 : Int) (h : AH), Den l G m14_law rvI d 18 [some (vS G 25), some (vA G 0), some (vA G 69), some (vI x3)] [] h (rec18 (x3, h))) (h : AH) : Den l G m14_law rvI d 1633 [some (vS G 25), some (vA G 0), some (vA G 69), some (vI x3)] [] h (b14_law_1633 G rec18 x3 h) := by
  unfold b14_law_1633
  refine den_aload_n (pc := 1633) d14_law_1633 rfl rfl ?_
  refine den_aloadS_n (pc := 1634) d14_law_1634 rfl rfl ?_
  refine den_iload_n (pc := 1635) d14_law_1635 rfl rfl ?_
  refine den_iconst (pc := 1636) d14_law_1636 ?_
  refine den_iadd (pc := 1637) d14_law_1637 ?_
  refine den_asrt (fun a432 => ?_)
  refine den_scrAt (pc := 1638) a432 d14_law_1638 ?_
  refine den_aloadS_n (pc := 1639) d14_law_1639 rfl rfl ?_
  refine den_iload_n (pc := 1640) d14_law_1640 rfl rfl ?_
  refine den_iconst (pc := 1641) d14_law_1641 ?_
  refine den_iadd (pc := 1642) d14_law_1642 ?_
  refine den_asrt (fun a433 => ?_)
  refine den_scrAt (pc := 1643) a433 d14_law_1643 ?_
  refine den_aloadS_n (pc := 1644) d14_law_1644 rfl rfl ?_
  refine den_iload_n (pc := 1645) d14_law_1645 rfl rfl ?_
  refine den_iconst (pc := 1646) d14_law_1646 ?_
  refine den_iadd (pc := 1647) d14_law_1647 ?_
  refine den_asrt (fun a434 => ?_)
  refine den_scrAt (pc := 1648) a434 d14_law_1648 ?_
  refine den_if_eq (pc := 1649) (tgt := 1656) d14_law_1649 (by decide) rfl (fun _ => ?_) (fun _ => ?_)
  · refine den_iconst (pc := 1656) d14_law_1656 ?_
    exact t14_law_1657 l G _ hd x3 0 (scr G (w32 (x3 + 2)).toNat) (scr G (w32 (x3 + 1)).toNat) rec18 H18 h
  · refine den_iconst (pc := 1652) d14_law_1652 ?_
    refine den_goto (pc := 1653) (tgt := 1657) d14_law_1653 (by decide) ?_
    exact t14_law_1657 l G _ hd x3 1 (scr G (w32 (x3 + 2)).toNat) (scr G (w32 (x3 + 1)).toNat) rec18 H18 h
def b14_law_1692 (G : Geo) (rec18 : Int × AH → Option (Int × AH)) (x3 : Int) (h : AH) : Option (Int × AH) :=
  asrt (0 ≤ w32 (x3 + 1) ∧ w32 (x3 + 1) < ((G.2.1 26 : Nat) : Int)) <|
  bnd (f10_quiet (scr G (w32 (x3 + 1)).toNat) h) fun r436 h437 =>
  asrt (0 ≤ w32 (x3 + 1) ∧ w32 (x3 + 1) < ((G.2.1 26 : Nat) : Int)) <|
  bnd (f11_quiet (scr G (w32 (x3 + 1)).toNat) h437) fun r441 h442 =>
  if w32 r436 = w32 r441 then
    b14_law_1784 G rec18 x3 h442
  else
    some (0, h442)
set_option maxRecDepth 100000 in
theorem t14_law_1692 (l : Launch) (G : Geo) (d : Nat) (hd : 16 ≤ d) (x3 : Int) (rec18 : Int × AH → Option (Int × AH)) (H18 : ∀ (x3 : Int) (h : AH), Den l G m14_law rvI d 18 [some (vS G 25), some (vA G 0), some (vA G 69), some (vI x3)] [] h (rec18 (x3, h))) (h : AH) : Den l G m14_law rvI d 1692 [some (vS G 25), some (vA G 0), some (vA G 69), some (vI x3)] [] h (b14_law_1692 G rec18 x3 h) := by
  unfold b14_law_1692
  refine den_aload_n (pc := 1692) d14_law_1692 rfl rfl ?_
  refine den_aloadS_n (pc := 1693) d14_law_1693 rfl rfl ?_
  refine den_iload_n (pc := 1694) d14_law_1694 rfl rfl ?_
  refine den_iconst (pc := 1695) d14_law_1695 ?_
  refine den_iadd (pc := 1696) d14_law_1696 ?_
  refine den_asrt (fun a435 => ?_)
  refine den_scrAt (pc := 1697) a435 d14_law_1697 ?_
  refine den_callVI (pc := 1698) (As := [vI (scr G (w32 (x3 + 1)).toNat)]) fv_14_144 rfl rfl (ok_0 _) (Nat.le_of_ble_eq_true rfl) (Nat.le_trans (by decide) hd) d14_law_1698 (c10_quiet l G (scr G (w32 (x3 + 1)).toNat) h) (fun r436 h437 m438 o439 => ?_)
  refine den_aload_n (pc := 1701) d14_law_1701 rfl rfl ?_
  refine den_aloadS_n (pc := 1702) d14_law_1702 rfl rfl ?_
  refine den_iload_n (pc := 1703) d14_law_1703 rfl rfl ?_
  refine den_iconst (pc := 1704) d14_law_1704 ?_
  refine den_iadd (pc := 1705) d14_law_1705 ?_
  refine den_asrt (fun a440 => ?_)
  refine den_scrAt (pc := 1706) a440 d14_law_1706 ?_
  refine den_callVI (pc := 1707) (As := [vI (scr G (w32 (x3 + 1)).toNat)]) fv_14_147 rfl rfl (ok_69 _) (Nat.le_of_ble_eq_true rfl) (Nat.le_trans (by decide) hd) d14_law_1707 (c11_quiet l G (scr G (w32 (x3 + 1)).toNat) h437) (fun r441 h442 m443 o444 => ?_)
  refine den_icmp_eq (pc := 1710) (tgt := 1784) d14_law_1710 (by decide) rfl rfl (fun _ => ?_) (fun _ => ?_)
  · exact t14_law_1784 l G _ hd x3 rec18 H18 h442
  · refine den_iconst (pc := 1713) d14_law_1713 ?_
    exact den_zret (pc := 1714) rfl (by decide) d14_law_1714
def b14_law_1715 (G : Geo) (rec18 : Int × AH → Option (Int × AH)) (x3 : Int) (h : AH) : Option (Int × AH) :=
  asrt (0 ≤ w32 (x3 + 1) ∧ w32 (x3 + 1) < ((G.2.1 26 : Nat) : Int)) <|
  bnd (f10_count (scr G (w32 (x3 + 1)).toNat) h) fun r446 h447 =>
  asrt (0 ≤ w32 (x3 + 1) ∧ w32 (x3 + 1) < ((G.2.1 26 : Nat) : Int)) <|
  bnd (f11_count (scr G (w32 (x3 + 1)).toNat) h447) fun r451 h452 =>
  if w32 r446 = w32 r451 then
    b14_law_1784 G rec18 x3 h452
  else
    some (0, h452)
set_option maxRecDepth 100000 in
theorem t14_law_1715 (l : Launch) (G : Geo) (d : Nat) (hd : 16 ≤ d) (x3 : Int) (rec18 : Int × AH → Option (Int × AH)) (H18 : ∀ (x3 : Int) (h : AH), Den l G m14_law rvI d 18 [some (vS G 25), some (vA G 0), some (vA G 69), some (vI x3)] [] h (rec18 (x3, h))) (h : AH) : Den l G m14_law rvI d 1715 [some (vS G 25), some (vA G 0), some (vA G 69), some (vI x3)] [] h (b14_law_1715 G rec18 x3 h) := by
  unfold b14_law_1715
  refine den_aload_n (pc := 1715) d14_law_1715 rfl rfl ?_
  refine den_aloadS_n (pc := 1716) d14_law_1716 rfl rfl ?_
  refine den_iload_n (pc := 1717) d14_law_1717 rfl rfl ?_
  refine den_iconst (pc := 1718) d14_law_1718 ?_
  refine den_iadd (pc := 1719) d14_law_1719 ?_
  refine den_asrt (fun a445 => ?_)
  refine den_scrAt (pc := 1720) a445 d14_law_1720 ?_
  refine den_callVI (pc := 1721) (As := [vI (scr G (w32 (x3 + 1)).toNat)]) fv_14_148 rfl rfl (ok_0 _) (Nat.le_of_ble_eq_true rfl) (Nat.le_trans (by decide) hd) d14_law_1721 (c10_count l G (scr G (w32 (x3 + 1)).toNat) h) (fun r446 h447 m448 o449 => ?_)
  refine den_aload_n (pc := 1724) d14_law_1724 rfl rfl ?_
  refine den_aloadS_n (pc := 1725) d14_law_1725 rfl rfl ?_
  refine den_iload_n (pc := 1726) d14_law_1726 rfl rfl ?_
  refine den_iconst (pc := 1727) d14_law_1727 ?_
  refine den_iadd (pc := 1728) d14_law_1728 ?_
  refine den_asrt (fun a450 => ?_)
  refine den_scrAt (pc := 1729) a450 d14_law_1729 ?_
  refine den_callVI (pc := 1730) (As := [vI (scr G (w32 (x3 + 1)).toNat)]) fv_14_151 rfl rfl (ok_69 _) (Nat.le_of_ble_eq_true rfl) (Nat.le_trans (by decide) hd) d14_law_1730 (c11_count l G (scr G (w32 (x3 + 1)).toNat) h447) (fun r451 h452 m453 o454 => ?_)
  refine den_icmp_eq (pc := 1733) (tgt := 1784) d14_law_1733 (by decide) rfl rfl (fun _ => ?_) (fun _ => ?_)
  · exact t14_law_1784 l G _ hd x3 rec18 H18 h452
  · refine den_iconst (pc := 1736) d14_law_1736 ?_
    exact den_zret (pc := 1737) rfl (by decide) d14_law_1737
def b14_law_1738 (G : Geo) (rec18 : Int × AH → Option (Int × AH)) (x3 : Int) (h : AH) : Option (Int × AH) :=
  asrt (0 ≤ w32 (x3 + 1) ∧ w32 (x3 + 1) < ((G.2.1 26 : Nat) : Int)) <|
  bnd (f10_image (scr G (w32 (x3 + 1)).toNat) h) fun r456 h457 =>
  asrt (0 ≤ w32 (x3 + 1) ∧ w32 (x3 + 1) < ((G.2.1 26 : Nat) : Int)) <|
  bnd (f11_image (scr G (w32 (x3 + 1)).toNat) h457) fun r461 h462 =>
  if w32 r456 = w32 r461 then
    b14_law_1784 G rec18 x3 h462
  else
    some (0, h462)
set_option maxRecDepth 100000 in
theorem t14_law_1738 (l : Launch) (G : Geo) (d : Nat) (hd : 16 ≤ d) (x3 : Int) (rec18 : Int × AH → Option (Int × AH)) (H18 : ∀ (x3 : Int) (h : AH), Den l G m14_law rvI d 18 [some (vS G 25), some (vA G 0), some (vA G 69), some (vI x3)] [] h (rec18 (x3, h))) (h : AH) : Den l G m14_law rvI d 1738 [some (vS G 25), some (vA G 0), some (vA G 69), some (vI x3)] [] h (b14_law_1738 G rec18 x3 h) := by
  unfold b14_law_1738
  refine den_aload_n (pc := 1738) d14_law_1738 rfl rfl ?_
  refine den_aloadS_n (pc := 1739) d14_law_1739 rfl rfl ?_
  refine den_iload_n (pc := 1740) d14_law_1740 rfl rfl ?_
  refine den_iconst (pc := 1741) d14_law_1741 ?_
  refine den_iadd (pc := 1742) d14_law_1742 ?_
  refine den_asrt (fun a455 => ?_)
  refine den_scrAt (pc := 1743) a455 d14_law_1743 ?_
  refine den_callVI (pc := 1744) (As := [vI (scr G (w32 (x3 + 1)).toNat)]) fv_14_152 rfl rfl (ok_0 _) (Nat.le_of_ble_eq_true rfl) (Nat.le_trans (by decide) hd) d14_law_1744 (c10_image l G (scr G (w32 (x3 + 1)).toNat) h) (fun r456 h457 m458 o459 => ?_)
  refine den_aload_n (pc := 1747) d14_law_1747 rfl rfl ?_
  refine den_aloadS_n (pc := 1748) d14_law_1748 rfl rfl ?_
  refine den_iload_n (pc := 1749) d14_law_1749 rfl rfl ?_
  refine den_iconst (pc := 1750) d14_law_1750 ?_
  refine den_iadd (pc := 1751) d14_law_1751 ?_
  refine den_asrt (fun a460 => ?_)
  refine den_scrAt (pc := 1752) a460 d14_law_1752 ?_
  refine den_callVI (pc := 1753) (As := [vI (scr G (w32 (x3 + 1)).toNat)]) fv_14_156 rfl rfl (ok_69 _) (Nat.le_of_ble_eq_true rfl) (Nat.le_trans (by decide) hd) d14_law_1753 (c11_image l G (scr G (w32 (x3 + 1)).toNat) h457) (fun r461 h462 m463 o464 => ?_)
  refine den_icmp_eq (pc := 1756) (tgt := 1784) d14_law_1756 (by decide) rfl rfl (fun _ => ?_) (fun _ => ?_)
  · exact t14_law_1784 l G _ hd x3 rec18 H18 h462
  · refine den_iconst (pc := 1759) d14_law_1759 ?_
    exact den_zret (pc := 1760) rfl (by decide) d14_law_1760
def b14_law_1761 (G : Geo) (rec18 : Int × AH → Option (Int × AH)) (x3 : Int) (h : AH) : Option (Int × AH) :=
  asrt (0 ≤ w32 (x3 + 1) ∧ w32 (x3 + 1) < ((G.2.1 26 : Nat) : Int)) <|
  bnd (f10_again (scr G (w32 (x3 + 1)).toNat) h) fun r466 h467 =>
  asrt (0 ≤ w32 (x3 + 1) ∧ w32 (x3 + 1) < ((G.2.1 26 : Nat) : Int)) <|
  bnd (f11_again (scr G (w32 (x3 + 1)).toNat) h467) fun r471 h472 =>
  if w32 r466 = w32 r471 then
    b14_law_1784 G rec18 x3 h472
  else
    some (0, h472)
set_option maxRecDepth 100000 in
theorem t14_law_1761 (l : Launch) (G : Geo) (d : Nat) (hd : 16 ≤ d) (x3 : Int) (rec18 : Int × AH → Option (Int × AH)) (H18 : ∀ (x3 : Int) (h : AH), Den l G m14_law rvI d 18 [some (vS G 25), some (vA G 0), some (vA G 69), some (vI x3)] [] h (rec18 (x3, h))) (h : AH) : Den l G m14_law rvI d 1761 [some (vS G 25), some (vA G 0), some (vA G 69), some (vI x3)] [] h (b14_law_1761 G rec18 x3 h) := by
  unfold b14_law_1761
  refine den_aload_n (pc := 1761) d14_law_1761 rfl rfl ?_
  refine den_aloadS_n (pc := 1762) d14_law_1762 rfl rfl ?_
  refine den_iload_n (pc := 1763) d14_law_1763 rfl rfl ?_
  refine den_iconst (pc := 1764) d14_law_1764 ?_
  refine den_iadd (pc := 1765) d14_law_1765 ?_
  refine den_asrt (fun a465 => ?_)
  refine den_scrAt (pc := 1766) a465 d14_law_1766 ?_
  refine den_callVI (pc := 1767) (As := [vI (scr G (w32 (x3 + 1)).toNat)]) fv_14_157 rfl rfl (ok_0 _) (Nat.le_of_ble_eq_true rfl) (Nat.le_trans (by decide) hd) d14_law_1767 (c10_again l G (scr G (w32 (x3 + 1)).toNat) h) (fun r466 h467 m468 o469 => ?_)
  refine den_aload_n (pc := 1770) d14_law_1770 rfl rfl ?_
  refine den_aloadS_n (pc := 1771) d14_law_1771 rfl rfl ?_
  refine den_iload_n (pc := 1772) d14_law_1772 rfl rfl ?_
  refine den_iconst (pc := 1773) d14_law_1773 ?_
  refine den_iadd (pc := 1774) d14_law_1774 ?_
  refine den_asrt (fun a470 => ?_)
  refine den_scrAt (pc := 1775) a470 d14_law_1775 ?_
  refine den_callVI (pc := 1776) (As := [vI (scr G (w32 (x3 + 1)).toNat)]) fv_14_160 rfl rfl (ok_69 _) (Nat.le_of_ble_eq_true rfl) (Nat.le_trans (by decide) hd) d14_law_1776 (c11_again l G (scr G (w32 (x3 + 1)).toNat) h467) (fun r471 h472 m473 o474 => ?_)
  refine den_icmp_eq (pc := 1779) (tgt := 1784) d14_law_1779 (by decide) rfl rfl (fun _ => ?_) (fun _ => ?_)
  · exact t14_law_1784 l G _ hd x3 rec18 H18 h472
  · refine den_iconst (pc := 1782) d14_law_1782 ?_
    exact den_zret (pc := 1783) rfl (by decide) d14_law_1783
def b14_law_18 (G : Geo) (rec18 : Int × AH → Option (Int × AH)) (x3 : Int) (h : AH) : Option (Int × AH) :=
  if w32 (((G.2.1 26 : Nat) : Int) - 7) < w32 x3 then
    some (1, h)
  else
    asrt (0 ≤ w32 x3 ∧ w32 x3 < ((G.2.1 26 : Nat) : Int)) <|
    if w32 (and32 (scr G (w32 x3).toNat) 63) = 0 then
      b14_law_184 G rec18 x3 h
    else
    if w32 (and32 (scr G (w32 x3).toNat) 63) = 1 then
      b14_law_247 G rec18 x3 h
    else
    if w32 (and32 (scr G (w32 x3).toNat) 63) = 2 then
      b14_law_270 G rec18 x3 h
    else
    if w32 (and32 (scr G (w32 x3).toNat) 63) = 3 then
      b14_law_303 G rec18 x3 h
    else
    if w32 (and32 (scr G (w32 x3).toNat) 63) = 4 then
      b14_law_326 G rec18 x3 h
    else
    if w32 (and32 (scr G (w32 x3).toNat) 63) = 5 then
      b14_law_359 G rec18 x3 h
    else
    if w32 (and32 (scr G (w32 x3).toNat) 63) = 6 then
      b14_law_438 G rec18 x3 h
    else
    if w32 (and32 (scr G (w32 x3).toNat) 63) = 7 then
      b14_law_481 G rec18 x3 h
    else
    if w32 (and32 (scr G (w32 x3).toNat) 63) = 8 then
      b14_law_514 G rec18 x3 h
    else
    if w32 (and32 (scr G (w32 x3).toNat) 63) = 9 then
      b14_law_567 G rec18 x3 h
    else
    if w32 (and32 (scr G (w32 x3).toNat) 63) = 10 then
      b14_law_636 G rec18 x3 h
    else
    if w32 (and32 (scr G (w32 x3).toNat) 63) = 11 then
      b14_law_715 G rec18 x3 h
    else
    if w32 (and32 (scr G (w32 x3).toNat) 63) = 12 then
      b14_law_758 G rec18 x3 h
    else
    if w32 (and32 (scr G (w32 x3).toNat) 63) = 13 then
      b14_law_791 G rec18 x3 h
    else
    if w32 (and32 (scr G (w32 x3).toNat) 63) = 14 then
      b14_law_824 G rec18 x3 h
    else
    if w32 (and32 (scr G (w32 x3).toNat) 63) = 15 then
      b14_law_916 G rec18 x3 h
    else
    if w32 (and32 (scr G (w32 x3).toNat) 63) = 16 then
      b14_law_959 G rec18 x3 h
    else
    if w32 (and32 (scr G (w32 x3).toNat) 63) = 17 then
      b14_law_1002 G rec18 x3 h
    else
    if w32 (and32 (scr G (w32 x3).toNat) 63) = 18 then
      b14_law_1055 G rec18 x3 h
    else
    if w32 (and32 (scr G (w32 x3).toNat) 63) = 19 then
      b14_law_1118 G rec18 x3 h
    else
    if w32 (and32 (scr G (w32 x3).toNat) 63) = 20 then
      b14_law_1181 G rec18 x3 h
    else
    if w32 (and32 (scr G (w32 x3).toNat) 63) = 21 then
      b14_law_1224 G rec18 x3 h
    else
    if w32 (and32 (scr G (w32 x3).toNat) 63) = 22 then
      b14_law_1293 G rec18 x3 h
    else
    if w32 (and32 (scr G (w32 x3).toNat) 63) = 23 then
      b14_law_1336 G rec18 x3 h
    else
    if w32 (and32 (scr G (w32 x3).toNat) 63) = 24 then
      b14_law_1385 G rec18 x3 h
    else
    if w32 (and32 (scr G (w32 x3).toNat) 63) = 25 then
      b14_law_1418 G rec18 x3 h
    else
    if w32 (and32 (scr G (w32 x3).toNat) 63) = 26 then
      b14_law_1451 G rec18 x3 h
    else
    if w32 (and32 (scr G (w32 x3).toNat) 63) = 27 then
      b14_law_1511 G rec18 x3 h
    else
    if w32 (and32 (scr G (w32 x3).toNat) 63) = 28 then
      b14_law_1554 G rec18 x3 h
    else
    if w32 (and32 (scr G (w32 x3).toNat) 63) = 29 then
      b14_law_1633 G rec18 x3 h
    else
    if w32 (and32 (scr G (w32 x3).toNat) 63) = 30 then
      b14_law_1692 G rec18 x3 h
    else
    if w32 (and32 (scr G (w32 x3).toNat) 63) = 31 then
      b14_law_1715 G rec18 x3 h
    else
    if w32 (and32 (scr G (w32 x3).toNat) 63) = 32 then
      b14_law_1738 G rec18 x3 h
    else
    if w32 (and32 (scr G (w32 x3).toNat) 63) = 33 then
      b14_law_1761 G rec18 x3 h
    else
    b14_law_1784 G rec18 x3 h
set_option maxRecDepth 100000 in
theorem t14_law_18 (l : Launch) (G : Geo) (d : Nat) (hd : 16 ≤ d) (x3 : Int) (rec18 : Int × AH → Option (Int × AH)) (H18 : ∀ (x3 : Int) (h : AH), Den l G m14_law rvI d 18 [some (vS G 25), some (vA G 0), some (vA G 69), some (vI x3)] [] h (rec18 (x3, h))) (h : AH) : Den l G m14_law rvI d 18 [some (vS G 25), some (vA G 0), some (vA G 69), some (vI x3)] [] h (b14_law_18 G rec18 x3 h) := by
  unfold b14_law_18
  refine den_iload_n (pc := 18) d14_law_18 rfl rfl ?_
  refine den_aloadS_n (pc := 19) d14_law_19 rfl rfl ?_
  refine den_scrLen (pc := 20) d14_law_20 ?_
  refine den_bipush (pc := 21) d14_law_21 (by decide) ?_
  refine den_isub (pc := 23) d14_law_23 ?_
  refine den_icmp_gt (pc := 24) (tgt := 1790) d14_law_24 (by decide) rfl rfl (fun _ => ?_) (fun _ => ?_)
  · refine den_iconst (pc := 1790) d14_law_1790 ?_
    exact den_zret (pc := 1791) rfl (by decide) d14_law_1791
  · refine den_aloadS_n (pc := 27) d14_law_27 rfl rfl ?_
    refine den_iload_n (pc := 28) d14_law_28 rfl rfl ?_
    refine den_asrt (fun a475 => ?_)
    refine den_scrAt (pc := 29) a475 d14_law_29 ?_
    refine den_bipush (pc := 30) d14_law_30 (by decide) ?_
    refine den_iand (pc := 32) d14_law_32 ?_
    refine den_ite (fun c476 => ?_) (fun c476 => ?_)
    · refine den_tableIn (pc := 33) (tgt := 184) d14_law_33 (by omega) (by omega) (by rw [c476]; rfl) (by decide) ?_
      exact t14_law_184 l G _ hd x3 rec18 H18 h
    refine den_ite (fun c477 => ?_) (fun c477 => ?_)
    · refine den_tableIn (pc := 33) (tgt := 247) d14_law_33 (by omega) (by omega) (by rw [c477]; rfl) (by decide) ?_
      exact t14_law_247 l G _ hd x3 rec18 H18 h
    refine den_ite (fun c478 => ?_) (fun c478 => ?_)
    · refine den_tableIn (pc := 33) (tgt := 270) d14_law_33 (by omega) (by omega) (by rw [c478]; rfl) (by decide) ?_
      exact t14_law_270 l G _ hd x3 rec18 H18 h
    refine den_ite (fun c479 => ?_) (fun c479 => ?_)
    · refine den_tableIn (pc := 33) (tgt := 303) d14_law_33 (by omega) (by omega) (by rw [c479]; rfl) (by decide) ?_
      exact t14_law_303 l G _ hd x3 rec18 H18 h
    refine den_ite (fun c480 => ?_) (fun c480 => ?_)
    · refine den_tableIn (pc := 33) (tgt := 326) d14_law_33 (by omega) (by omega) (by rw [c480]; rfl) (by decide) ?_
      exact t14_law_326 l G _ hd x3 rec18 H18 h
    refine den_ite (fun c481 => ?_) (fun c481 => ?_)
    · refine den_tableIn (pc := 33) (tgt := 359) d14_law_33 (by omega) (by omega) (by rw [c481]; rfl) (by decide) ?_
      exact t14_law_359 l G _ hd x3 rec18 H18 h
    refine den_ite (fun c482 => ?_) (fun c482 => ?_)
    · refine den_tableIn (pc := 33) (tgt := 438) d14_law_33 (by omega) (by omega) (by rw [c482]; rfl) (by decide) ?_
      exact t14_law_438 l G _ hd x3 rec18 H18 h
    refine den_ite (fun c483 => ?_) (fun c483 => ?_)
    · refine den_tableIn (pc := 33) (tgt := 481) d14_law_33 (by omega) (by omega) (by rw [c483]; rfl) (by decide) ?_
      exact t14_law_481 l G _ hd x3 rec18 H18 h
    refine den_ite (fun c484 => ?_) (fun c484 => ?_)
    · refine den_tableIn (pc := 33) (tgt := 514) d14_law_33 (by omega) (by omega) (by rw [c484]; rfl) (by decide) ?_
      exact t14_law_514 l G _ hd x3 rec18 H18 h
    refine den_ite (fun c485 => ?_) (fun c485 => ?_)
    · refine den_tableIn (pc := 33) (tgt := 567) d14_law_33 (by omega) (by omega) (by rw [c485]; rfl) (by decide) ?_
      exact t14_law_567 l G _ hd x3 rec18 H18 h
    refine den_ite (fun c486 => ?_) (fun c486 => ?_)
    · refine den_tableIn (pc := 33) (tgt := 636) d14_law_33 (by omega) (by omega) (by rw [c486]; rfl) (by decide) ?_
      exact t14_law_636 l G _ hd x3 rec18 H18 h
    refine den_ite (fun c487 => ?_) (fun c487 => ?_)
    · refine den_tableIn (pc := 33) (tgt := 715) d14_law_33 (by omega) (by omega) (by rw [c487]; rfl) (by decide) ?_
      exact t14_law_715 l G _ hd x3 rec18 H18 h
    refine den_ite (fun c488 => ?_) (fun c488 => ?_)
    · refine den_tableIn (pc := 33) (tgt := 758) d14_law_33 (by omega) (by omega) (by rw [c488]; rfl) (by decide) ?_
      exact t14_law_758 l G _ hd x3 rec18 H18 h
    refine den_ite (fun c489 => ?_) (fun c489 => ?_)
    · refine den_tableIn (pc := 33) (tgt := 791) d14_law_33 (by omega) (by omega) (by rw [c489]; rfl) (by decide) ?_
      exact t14_law_791 l G _ hd x3 rec18 H18 h
    refine den_ite (fun c490 => ?_) (fun c490 => ?_)
    · refine den_tableIn (pc := 33) (tgt := 824) d14_law_33 (by omega) (by omega) (by rw [c490]; rfl) (by decide) ?_
      exact t14_law_824 l G _ hd x3 rec18 H18 h
    refine den_ite (fun c491 => ?_) (fun c491 => ?_)
    · refine den_tableIn (pc := 33) (tgt := 916) d14_law_33 (by omega) (by omega) (by rw [c491]; rfl) (by decide) ?_
      exact t14_law_916 l G _ hd x3 rec18 H18 h
    refine den_ite (fun c492 => ?_) (fun c492 => ?_)
    · refine den_tableIn (pc := 33) (tgt := 959) d14_law_33 (by omega) (by omega) (by rw [c492]; rfl) (by decide) ?_
      exact t14_law_959 l G _ hd x3 rec18 H18 h
    refine den_ite (fun c493 => ?_) (fun c493 => ?_)
    · refine den_tableIn (pc := 33) (tgt := 1002) d14_law_33 (by omega) (by omega) (by rw [c493]; rfl) (by decide) ?_
      exact t14_law_1002 l G _ hd x3 rec18 H18 h
    refine den_ite (fun c494 => ?_) (fun c494 => ?_)
    · refine den_tableIn (pc := 33) (tgt := 1055) d14_law_33 (by omega) (by omega) (by rw [c494]; rfl) (by decide) ?_
      exact t14_law_1055 l G _ hd x3 rec18 H18 h
    refine den_ite (fun c495 => ?_) (fun c495 => ?_)
    · refine den_tableIn (pc := 33) (tgt := 1118) d14_law_33 (by omega) (by omega) (by rw [c495]; rfl) (by decide) ?_
      exact t14_law_1118 l G _ hd x3 rec18 H18 h
    refine den_ite (fun c496 => ?_) (fun c496 => ?_)
    · refine den_tableIn (pc := 33) (tgt := 1181) d14_law_33 (by omega) (by omega) (by rw [c496]; rfl) (by decide) ?_
      exact t14_law_1181 l G _ hd x3 rec18 H18 h
    refine den_ite (fun c497 => ?_) (fun c497 => ?_)
    · refine den_tableIn (pc := 33) (tgt := 1224) d14_law_33 (by omega) (by omega) (by rw [c497]; rfl) (by decide) ?_
      exact t14_law_1224 l G _ hd x3 rec18 H18 h
    refine den_ite (fun c498 => ?_) (fun c498 => ?_)
    · refine den_tableIn (pc := 33) (tgt := 1293) d14_law_33 (by omega) (by omega) (by rw [c498]; rfl) (by decide) ?_
      exact t14_law_1293 l G _ hd x3 rec18 H18 h
    refine den_ite (fun c499 => ?_) (fun c499 => ?_)
    · refine den_tableIn (pc := 33) (tgt := 1336) d14_law_33 (by omega) (by omega) (by rw [c499]; rfl) (by decide) ?_
      exact t14_law_1336 l G _ hd x3 rec18 H18 h
    refine den_ite (fun c500 => ?_) (fun c500 => ?_)
    · refine den_tableIn (pc := 33) (tgt := 1385) d14_law_33 (by omega) (by omega) (by rw [c500]; rfl) (by decide) ?_
      exact t14_law_1385 l G _ hd x3 rec18 H18 h
    refine den_ite (fun c501 => ?_) (fun c501 => ?_)
    · refine den_tableIn (pc := 33) (tgt := 1418) d14_law_33 (by omega) (by omega) (by rw [c501]; rfl) (by decide) ?_
      exact t14_law_1418 l G _ hd x3 rec18 H18 h
    refine den_ite (fun c502 => ?_) (fun c502 => ?_)
    · refine den_tableIn (pc := 33) (tgt := 1451) d14_law_33 (by omega) (by omega) (by rw [c502]; rfl) (by decide) ?_
      exact t14_law_1451 l G _ hd x3 rec18 H18 h
    refine den_ite (fun c503 => ?_) (fun c503 => ?_)
    · refine den_tableIn (pc := 33) (tgt := 1511) d14_law_33 (by omega) (by omega) (by rw [c503]; rfl) (by decide) ?_
      exact t14_law_1511 l G _ hd x3 rec18 H18 h
    refine den_ite (fun c504 => ?_) (fun c504 => ?_)
    · refine den_tableIn (pc := 33) (tgt := 1554) d14_law_33 (by omega) (by omega) (by rw [c504]; rfl) (by decide) ?_
      exact t14_law_1554 l G _ hd x3 rec18 H18 h
    refine den_ite (fun c505 => ?_) (fun c505 => ?_)
    · refine den_tableIn (pc := 33) (tgt := 1633) d14_law_33 (by omega) (by omega) (by rw [c505]; rfl) (by decide) ?_
      exact t14_law_1633 l G _ hd x3 rec18 H18 h
    refine den_ite (fun c506 => ?_) (fun c506 => ?_)
    · refine den_tableIn (pc := 33) (tgt := 1692) d14_law_33 (by omega) (by omega) (by rw [c506]; rfl) (by decide) ?_
      exact t14_law_1692 l G _ hd x3 rec18 H18 h
    refine den_ite (fun c507 => ?_) (fun c507 => ?_)
    · refine den_tableIn (pc := 33) (tgt := 1715) d14_law_33 (by omega) (by omega) (by rw [c507]; rfl) (by decide) ?_
      exact t14_law_1715 l G _ hd x3 rec18 H18 h
    refine den_ite (fun c508 => ?_) (fun c508 => ?_)
    · refine den_tableIn (pc := 33) (tgt := 1738) d14_law_33 (by omega) (by omega) (by rw [c508]; rfl) (by decide) ?_
      exact t14_law_1738 l G _ hd x3 rec18 H18 h
    refine den_ite (fun c509 => ?_) (fun c509 => ?_)
    · refine den_tableIn (pc := 33) (tgt := 1761) d14_law_33 (by omega) (by omega) (by rw [c509]; rfl) (by decide) ?_
      exact t14_law_1761 l G _ hd x3 rec18 H18 h
    refine den_tableOut (pc := 33) (tgt := 1784) d14_law_33 (by omega) (by decide) ?_
    exact t14_law_1784 l G _ hd x3 rec18 H18 h
def l14_law_18 (G : Geo) (x3 : Int) (h : AH) : Option (Int × AH) := fx (fun rec z => b14_law_18 G rec z.1 z.2) FU (x3, h)
set_option maxRecDepth 100000 in
theorem tl14_law_18 (l : Launch) (G : Geo) (d : Nat) (hd : 16 ≤ d) : ∀ (n : Nat) (z : Int × AH), True → Den l G m14_law rvI d 18 [some (vS G 25), some (vA G 0), some (vA G 69), some (vI z.1)] [] z.2 (fx (fun rec z => b14_law_18 G rec z.1 z.2) n z) :=
  den_fx (F := fun rec z => b14_law_18 G rec z.1 z.2) (P := fun z => True) (fL := fun z => [some (vS G 25), some (vA G 0), some (vA G 69), some (vI z.1)]) (fs := fun z => []) (fh := fun z => z.2) (fun rec hrec z hz => t14_law_18 l G d hd z.1 rec (fun x3 h => hrec (x3, h) trivial) z.2 )
