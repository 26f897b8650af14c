theorem dL_0 : decode code 0 = .ok (.new 7, 3) := by decide +kernel
theorem dL_3 : decode code 3 = .ok (.dup, 1) := by decide +kernel
theorem dL_4 : decode code 4 = .ok (.invokespecial 9, 3) := by decide +kernel
theorem dL_7 : decode code 7 = .ok (.astore_n 1, 1) := by decide +kernel
theorem dL_8 : decode code 8 = .ok (.new 10, 3) := by decide +kernel
theorem dL_11 : decode code 11 = .ok (.dup, 1) := by decide +kernel
theorem dL_12 : decode code 12 = .ok (.invokespecial 12, 3) := by decide +kernel
theorem dL_15 : decode code 15 = .ok (.astore_n 2, 1) := by decide +kernel
theorem dL_16 : decode code 16 = .ok (.iconst 0, 1) := by decide +kernel
theorem dL_17 : decode code 17 = .ok (.istore_n 3, 1) := by decide +kernel
theorem dL_18 : decode code 18 = .ok (.iload_n 3, 1) := by decide +kernel
theorem dL_19 : decode code 19 = .ok (.aload_n 0, 1) := by decide +kernel
theorem dL_20 : decode code 20 = .ok (.arraylength, 1) := by decide +kernel
theorem dL_21 : decode code 21 = .ok (.bipush 6, 2) := by decide +kernel
theorem dL_23 : decode code 23 = .ok (.isub, 1) := by decide +kernel
theorem dL_24 : decode code 24 = .ok (.if_icmp .gt 967, 3) := by decide +kernel
theorem dL_27 : decode code 27 = .ok (.aload_n 0, 1) := by decide +kernel
theorem dL_28 : decode code 28 = .ok (.iload_n 3, 1) := by decide +kernel
theorem dL_29 : decode code 29 = .ok (.iaload, 1) := by decide +kernel
theorem dL_30 : decode code 30 = .ok (.bipush 31, 2) := by decide +kernel
theorem dL_32 : decode code 32 = .ok (.iand, 1) := by decide +kernel
theorem dL_33 : decode code 33 = .ok (.tableswitch 952 0 20 #[99, 162, 185, 218, 241, 274, 317, 350, 403, 456, 499, 532, 585, 638, 691, 734, 777, 830, 883, 906, 929], 99) := by decide +kernel
theorem dL_132 : decode code 132 = .ok (.aload_n 1, 1) := by decide +kernel
theorem dL_133 : decode code 133 = .ok (.aload_n 0, 1) := by decide +kernel
theorem dL_134 : decode code 134 = .ok (.iload_n 3, 1) := by decide +kernel
theorem dL_135 : decode code 135 = .ok (.iconst 1, 1) := by decide +kernel
theorem dL_136 : decode code 136 = .ok (.iadd, 1) := by decide +kernel
theorem dL_137 : decode code 137 = .ok (.iaload, 1) := by decide +kernel
theorem dL_138 : decode code 138 = .ok (.aload_n 0, 1) := by decide +kernel
theorem dL_139 : decode code 139 = .ok (.iload_n 3, 1) := by decide +kernel
theorem dL_140 : decode code 140 = .ok (.iconst 2, 1) := by decide +kernel
theorem dL_141 : decode code 141 = .ok (.iadd, 1) := by decide +kernel
theorem dL_142 : decode code 142 = .ok (.iaload, 1) := by decide +kernel
theorem dL_143 : decode code 143 = .ok (.aload_n 0, 1) := by decide +kernel
theorem dL_144 : decode code 144 = .ok (.iload_n 3, 1) := by decide +kernel
theorem dL_145 : decode code 145 = .ok (.iconst 3, 1) := by decide +kernel
theorem dL_146 : decode code 146 = .ok (.iadd, 1) := by decide +kernel
theorem dL_147 : decode code 147 = .ok (.iaload, 1) := by decide +kernel
theorem dL_148 : decode code 148 = .ok (.aload_n 0, 1) := by decide +kernel
theorem dL_149 : decode code 149 = .ok (.iload_n 3, 1) := by decide +kernel
theorem dL_150 : decode code 150 = .ok (.iconst 4, 1) := by decide +kernel
theorem dL_151 : decode code 151 = .ok (.iadd, 1) := by decide +kernel
theorem dL_152 : decode code 152 = .ok (.iaload, 1) := by decide +kernel
theorem dL_153 : decode code 153 = .ok (.aload_n 0, 1) := by decide +kernel
theorem dL_154 : decode code 154 = .ok (.iload_n 3, 1) := by decide +kernel
theorem dL_155 : decode code 155 = .ok (.iconst 5, 1) := by decide +kernel
theorem dL_156 : decode code 156 = .ok (.iadd, 1) := by decide +kernel
theorem dL_157 : decode code 157 = .ok (.iaload, 1) := by decide +kernel
theorem dL_158 : decode code 158 = .ok (.invokevirtual 13, 3) := by decide +kernel
theorem dL_161 : decode code 161 = .ok (.aload_n 2, 1) := by decide +kernel
theorem dL_162 : decode code 162 = .ok (.aload_n 0, 1) := by decide +kernel
theorem dL_163 : decode code 163 = .ok (.iload_n 3, 1) := by decide +kernel
theorem dL_164 : decode code 164 = .ok (.iconst 1, 1) := by decide +kernel
theorem dL_165 : decode code 165 = .ok (.iadd, 1) := by decide +kernel
theorem dL_166 : decode code 166 = .ok (.iaload, 1) := by decide +kernel
theorem dL_167 : decode code 167 = .ok (.aload_n 0, 1) := by decide +kernel
theorem dL_168 : decode code 168 = .ok (.iload_n 3, 1) := by decide +kernel
theorem dL_169 : decode code 169 = .ok (.iconst 2, 1) := by decide +kernel
theorem dL_170 : decode code 170 = .ok (.iadd, 1) := by decide +kernel
theorem dL_171 : decode code 171 = .ok (.iaload, 1) := by decide +kernel
theorem dL_172 : decode code 172 = .ok (.aload_n 0, 1) := by decide +kernel
theorem dL_173 : decode code 173 = .ok (.iload_n 3, 1) := by decide +kernel
theorem dL_174 : decode code 174 = .ok (.iconst 3, 1) := by decide +kernel
theorem dL_175 : decode code 175 = .ok (.iadd, 1) := by decide +kernel
theorem dL_176 : decode code 176 = .ok (.iaload, 1) := by decide +kernel
theorem dL_177 : decode code 177 = .ok (.aload_n 0, 1) := by decide +kernel
theorem dL_178 : decode code 178 = .ok (.iload_n 3, 1) := by decide +kernel
theorem dL_179 : decode code 179 = .ok (.iconst 4, 1) := by decide +kernel
theorem dL_180 : decode code 180 = .ok (.iadd, 1) := by decide +kernel
theorem dL_181 : decode code 181 = .ok (.iaload, 1) := by decide +kernel
theorem dL_182 : decode code 182 = .ok (.aload_n 0, 1) := by decide +kernel
theorem dL_183 : decode code 183 = .ok (.iload_n 3, 1) := by decide +kernel
theorem dL_184 : decode code 184 = .ok (.iconst 5, 1) := by decide +kernel
theorem dL_185 : decode code 185 = .ok (.iadd, 1) := by decide +kernel
theorem dL_186 : decode code 186 = .ok (.iaload, 1) := by decide +kernel
theorem dL_187 : decode code 187 = .ok (.invokevirtual 17, 3) := by decide +kernel
theorem dL_190 : decode code 190 = .ok (.if_icmp .eq 795, 3) := by decide +kernel
theorem dL_193 : decode code 193 = .ok (.iconst 0, 1) := by decide +kernel
theorem dL_194 : decode code 194 = .ok (.ireturn, 1) := by decide +kernel
theorem dL_195 : decode code 195 = .ok (.aload_n 1, 1) := by decide +kernel
theorem dL_196 : decode code 196 = .ok (.aload_n 0, 1) := by decide +kernel
theorem dL_197 : decode code 197 = .ok (.iload_n 3, 1) := by decide +kernel
theorem dL_198 : decode code 198 = .ok (.iconst 1, 1) := by decide +kernel
theorem dL_199 : decode code 199 = .ok (.iadd, 1) := by decide +kernel
theorem dL_200 : decode code 200 = .ok (.iaload, 1) := by decide +kernel
theorem dL_201 : decode code 201 = .ok (.invokevirtual 18, 3) := by decide +kernel
theorem dL_204 : decode code 204 = .ok (.aload_n 2, 1) := by decide +kernel
theorem dL_205 : decode code 205 = .ok (.aload_n 0, 1) := by decide +kernel
theorem dL_206 : decode code 206 = .ok (.iload_n 3, 1) := by decide +kernel
theorem dL_207 : decode code 207 = .ok (.iconst 1, 1) := by decide +kernel
theorem dL_208 : decode code 208 = .ok (.iadd, 1) := by decide +kernel
theorem dL_209 : decode code 209 = .ok (.iaload, 1) := by decide +kernel
theorem dL_210 : decode code 210 = .ok (.invokevirtual 22, 3) := by decide +kernel
theorem dL_213 : decode code 213 = .ok (.if_icmp .eq 772, 3) := by decide +kernel
theorem dL_216 : decode code 216 = .ok (.iconst 0, 1) := by decide +kernel
theorem dL_217 : decode code 217 = .ok (.ireturn, 1) := by decide +kernel
theorem dL_218 : decode code 218 = .ok (.aload_n 1, 1) := by decide +kernel
theorem dL_219 : decode code 219 = .ok (.aload_n 0, 1) := by decide +kernel
theorem dL_220 : decode code 220 = .ok (.iload_n 3, 1) := by decide +kernel
theorem dL_221 : decode code 221 = .ok (.iconst 1, 1) := by decide +kernel
theorem dL_222 : decode code 222 = .ok (.iadd, 1) := by decide +kernel
theorem dL_223 : decode code 223 = .ok (.iaload, 1) := by decide +kernel
theorem dL_224 : decode code 224 = .ok (.aload_n 0, 1) := by decide +kernel
theorem dL_225 : decode code 225 = .ok (.iload_n 3, 1) := by decide +kernel
theorem dL_226 : decode code 226 = .ok (.iconst 2, 1) := by decide +kernel
theorem dL_227 : decode code 227 = .ok (.iadd, 1) := by decide +kernel
theorem dL_228 : decode code 228 = .ok (.iaload, 1) := by decide +kernel
theorem dL_229 : decode code 229 = .ok (.invokevirtual 23, 3) := by decide +kernel
theorem dL_232 : decode code 232 = .ok (.aload_n 2, 1) := by decide +kernel
theorem dL_233 : decode code 233 = .ok (.aload_n 0, 1) := by decide +kernel
theorem dL_234 : decode code 234 = .ok (.iload_n 3, 1) := by decide +kernel
theorem dL_235 : decode code 235 = .ok (.iconst 1, 1) := by decide +kernel
theorem dL_236 : decode code 236 = .ok (.iadd, 1) := by decide +kernel
theorem dL_237 : decode code 237 = .ok (.iaload, 1) := by decide +kernel
theorem dL_238 : decode code 238 = .ok (.aload_n 0, 1) := by decide +kernel
theorem dL_239 : decode code 239 = .ok (.iload_n 3, 1) := by decide +kernel
theorem dL_240 : decode code 240 = .ok (.iconst 2, 1) := by decide +kernel
theorem dL_241 : decode code 241 = .ok (.iadd, 1) := by decide +kernel
theorem dL_242 : decode code 242 = .ok (.iaload, 1) := by decide +kernel
theorem dL_243 : decode code 243 = .ok (.invokevirtual 27, 3) := by decide +kernel
theorem dL_246 : decode code 246 = .ok (.if_icmp .eq 739, 3) := by decide +kernel
theorem dL_249 : decode code 249 = .ok (.iconst 0, 1) := by decide +kernel
theorem dL_250 : decode code 250 = .ok (.ireturn, 1) := by decide +kernel
theorem dL_251 : decode code 251 = .ok (.aload_n 1, 1) := by decide +kernel
theorem dL_252 : decode code 252 = .ok (.aload_n 0, 1) := by decide +kernel
theorem dL_253 : decode code 253 = .ok (.iload_n 3, 1) := by decide +kernel
theorem dL_254 : decode code 254 = .ok (.iconst 1, 1) := by decide +kernel
theorem dL_255 : decode code 255 = .ok (.iadd, 1) := by decide +kernel
theorem dL_256 : decode code 256 = .ok (.iaload, 1) := by decide +kernel
theorem dL_257 : decode code 257 = .ok (.invokevirtual 28, 3) := by decide +kernel
theorem dL_260 : decode code 260 = .ok (.aload_n 2, 1) := by decide +kernel
theorem dL_261 : decode code 261 = .ok (.aload_n 0, 1) := by decide +kernel
theorem dL_262 : decode code 262 = .ok (.iload_n 3, 1) := by decide +kernel
theorem dL_263 : decode code 263 = .ok (.iconst 1, 1) := by decide +kernel
theorem dL_264 : decode code 264 = .ok (.iadd, 1) := by decide +kernel
theorem dL_265 : decode code 265 = .ok (.iaload, 1) := by decide +kernel
theorem dL_266 : decode code 266 = .ok (.invokevirtual 31, 3) := by decide +kernel
theorem dL_269 : decode code 269 = .ok (.if_icmp .eq 716, 3) := by decide +kernel
theorem dL_272 : decode code 272 = .ok (.iconst 0, 1) := by decide +kernel
theorem dL_273 : decode code 273 = .ok (.ireturn, 1) := by decide +kernel
theorem dL_274 : decode code 274 = .ok (.aload_n 1, 1) := by decide +kernel
theorem dL_275 : decode code 275 = .ok (.aload_n 0, 1) := by decide +kernel
theorem dL_276 : decode code 276 = .ok (.iload_n 3, 1) := by decide +kernel
theorem dL_277 : decode code 277 = .ok (.iconst 1, 1) := by decide +kernel
theorem dL_278 : decode code 278 = .ok (.iadd, 1) := by decide +kernel
theorem dL_279 : decode code 279 = .ok (.iaload, 1) := by decide +kernel
theorem dL_280 : decode code 280 = .ok (.aload_n 0, 1) := by decide +kernel
theorem dL_281 : decode code 281 = .ok (.iload_n 3, 1) := by decide +kernel
theorem dL_282 : decode code 282 = .ok (.iconst 2, 1) := by decide +kernel
theorem dL_283 : decode code 283 = .ok (.iadd, 1) := by decide +kernel
theorem dL_284 : decode code 284 = .ok (.iaload, 1) := by decide +kernel
theorem dL_285 : decode code 285 = .ok (.invokevirtual 32, 3) := by decide +kernel
theorem dL_288 : decode code 288 = .ok (.aload_n 2, 1) := by decide +kernel
theorem dL_289 : decode code 289 = .ok (.aload_n 0, 1) := by decide +kernel
theorem dL_290 : decode code 290 = .ok (.iload_n 3, 1) := by decide +kernel
theorem dL_291 : decode code 291 = .ok (.iconst 1, 1) := by decide +kernel
theorem dL_292 : decode code 292 = .ok (.iadd, 1) := by decide +kernel
theorem dL_293 : decode code 293 = .ok (.iaload, 1) := by decide +kernel
theorem dL_294 : decode code 294 = .ok (.aload_n 0, 1) := by decide +kernel
theorem dL_295 : decode code 295 = .ok (.iload_n 3, 1) := by decide +kernel
theorem dL_296 : decode code 296 = .ok (.iconst 2, 1) := by decide +kernel
theorem dL_297 : decode code 297 = .ok (.iadd, 1) := by decide +kernel
theorem dL_298 : decode code 298 = .ok (.iaload, 1) := by decide +kernel
theorem dL_299 : decode code 299 = .ok (.invokevirtual 35, 3) := by decide +kernel
theorem dL_302 : decode code 302 = .ok (.if_icmp .eq 683, 3) := by decide +kernel
theorem dL_305 : decode code 305 = .ok (.iconst 0, 1) := by decide +kernel
theorem dL_306 : decode code 306 = .ok (.ireturn, 1) := by decide +kernel
theorem dL_307 : decode code 307 = .ok (.aload_n 1, 1) := by decide +kernel
theorem dL_308 : decode code 308 = .ok (.aload_n 0, 1) := by decide +kernel
theorem dL_309 : decode code 309 = .ok (.iload_n 3, 1) := by decide +kernel
theorem dL_310 : decode code 310 = .ok (.iconst 1, 1) := by decide +kernel
theorem dL_311 : decode code 311 = .ok (.iadd, 1) := by decide +kernel
theorem dL_312 : decode code 312 = .ok (.iaload, 1) := by decide +kernel
theorem dL_313 : decode code 313 = .ok (.aload_n 0, 1) := by decide +kernel
theorem dL_314 : decode code 314 = .ok (.iload_n 3, 1) := by decide +kernel
theorem dL_315 : decode code 315 = .ok (.iconst 2, 1) := by decide +kernel
theorem dL_316 : decode code 316 = .ok (.iadd, 1) := by decide +kernel
theorem dL_317 : decode code 317 = .ok (.iaload, 1) := by decide +kernel
theorem dL_318 : decode code 318 = .ok (.aload_n 0, 1) := by decide +kernel
theorem dL_319 : decode code 319 = .ok (.iload_n 3, 1) := by decide +kernel
theorem dL_320 : decode code 320 = .ok (.iconst 3, 1) := by decide +kernel
theorem dL_321 : decode code 321 = .ok (.iadd, 1) := by decide +kernel
theorem dL_322 : decode code 322 = .ok (.iaload, 1) := by decide +kernel
theorem dL_323 : decode code 323 = .ok (.invokevirtual 36, 3) := by decide +kernel
theorem dL_326 : decode code 326 = .ok (.aload_n 2, 1) := by decide +kernel
theorem dL_327 : decode code 327 = .ok (.aload_n 0, 1) := by decide +kernel
theorem dL_328 : decode code 328 = .ok (.iload_n 3, 1) := by decide +kernel
theorem dL_329 : decode code 329 = .ok (.iconst 1, 1) := by decide +kernel
theorem dL_330 : decode code 330 = .ok (.iadd, 1) := by decide +kernel
theorem dL_331 : decode code 331 = .ok (.iaload, 1) := by decide +kernel
theorem dL_332 : decode code 332 = .ok (.aload_n 0, 1) := by decide +kernel
theorem dL_333 : decode code 333 = .ok (.iload_n 3, 1) := by decide +kernel
theorem dL_334 : decode code 334 = .ok (.iconst 2, 1) := by decide +kernel
theorem dL_335 : decode code 335 = .ok (.iadd, 1) := by decide +kernel
theorem dL_336 : decode code 336 = .ok (.iaload, 1) := by decide +kernel
theorem dL_337 : decode code 337 = .ok (.aload_n 0, 1) := by decide +kernel
theorem dL_338 : decode code 338 = .ok (.iload_n 3, 1) := by decide +kernel
theorem dL_339 : decode code 339 = .ok (.iconst 3, 1) := by decide +kernel
theorem dL_340 : decode code 340 = .ok (.iadd, 1) := by decide +kernel
theorem dL_341 : decode code 341 = .ok (.iaload, 1) := by decide +kernel
theorem dL_342 : decode code 342 = .ok (.invokevirtual 40, 3) := by decide +kernel
theorem dL_345 : decode code 345 = .ok (.if_icmp .eq 640, 3) := by decide +kernel
theorem dL_348 : decode code 348 = .ok (.iconst 0, 1) := by decide +kernel
theorem dL_349 : decode code 349 = .ok (.ireturn, 1) := by decide +kernel
theorem dL_350 : decode code 350 = .ok (.aload_n 1, 1) := by decide +kernel
theorem dL_351 : decode code 351 = .ok (.aload_n 0, 1) := by decide +kernel
theorem dL_352 : decode code 352 = .ok (.iload_n 3, 1) := by decide +kernel
theorem dL_353 : decode code 353 = .ok (.iconst 1, 1) := by decide +kernel
theorem dL_354 : decode code 354 = .ok (.iadd, 1) := by decide +kernel
theorem dL_355 : decode code 355 = .ok (.iaload, 1) := by decide +kernel
theorem dL_356 : decode code 356 = .ok (.aload_n 0, 1) := by decide +kernel
theorem dL_357 : decode code 357 = .ok (.iload_n 3, 1) := by decide +kernel
theorem dL_358 : decode code 358 = .ok (.iconst 2, 1) := by decide +kernel
theorem dL_359 : decode code 359 = .ok (.iadd, 1) := by decide +kernel
theorem dL_360 : decode code 360 = .ok (.iaload, 1) := by decide +kernel
theorem dL_361 : decode code 361 = .ok (.invokevirtual 41, 3) := by decide +kernel
theorem dL_364 : decode code 364 = .ok (.aload_n 2, 1) := by decide +kernel
theorem dL_365 : decode code 365 = .ok (.aload_n 0, 1) := by decide +kernel
theorem dL_366 : decode code 366 = .ok (.iload_n 3, 1) := by decide +kernel
theorem dL_367 : decode code 367 = .ok (.iconst 1, 1) := by decide +kernel
theorem dL_368 : decode code 368 = .ok (.iadd, 1) := by decide +kernel
theorem dL_369 : decode code 369 = .ok (.iaload, 1) := by decide +kernel
theorem dL_370 : decode code 370 = .ok (.aload_n 0, 1) := by decide +kernel
theorem dL_371 : decode code 371 = .ok (.iload_n 3, 1) := by decide +kernel
theorem dL_372 : decode code 372 = .ok (.iconst 2, 1) := by decide +kernel
theorem dL_373 : decode code 373 = .ok (.iadd, 1) := by decide +kernel
theorem dL_374 : decode code 374 = .ok (.iaload, 1) := by decide +kernel
theorem dL_375 : decode code 375 = .ok (.invokevirtual 44, 3) := by decide +kernel
theorem dL_378 : decode code 378 = .ok (.if_icmp .eq 607, 3) := by decide +kernel
theorem dL_381 : decode code 381 = .ok (.iconst 0, 1) := by decide +kernel
theorem dL_382 : decode code 382 = .ok (.ireturn, 1) := by decide +kernel
theorem dL_383 : decode code 383 = .ok (.aload_n 1, 1) := by decide +kernel
theorem dL_384 : decode code 384 = .ok (.aload_n 0, 1) := by decide +kernel
theorem dL_385 : decode code 385 = .ok (.iload_n 3, 1) := by decide +kernel
theorem dL_386 : decode code 386 = .ok (.iconst 1, 1) := by decide +kernel
theorem dL_387 : decode code 387 = .ok (.iadd, 1) := by decide +kernel
theorem dL_388 : decode code 388 = .ok (.iaload, 1) := by decide +kernel
theorem dL_389 : decode code 389 = .ok (.aload_n 0, 1) := by decide +kernel
theorem dL_390 : decode code 390 = .ok (.iload_n 3, 1) := by decide +kernel
theorem dL_391 : decode code 391 = .ok (.iconst 2, 1) := by decide +kernel
theorem dL_392 : decode code 392 = .ok (.iadd, 1) := by decide +kernel
theorem dL_393 : decode code 393 = .ok (.iaload, 1) := by decide +kernel
theorem dL_394 : decode code 394 = .ok (.aload_n 0, 1) := by decide +kernel
theorem dL_395 : decode code 395 = .ok (.iload_n 3, 1) := by decide +kernel
theorem dL_396 : decode code 396 = .ok (.iconst 3, 1) := by decide +kernel
theorem dL_397 : decode code 397 = .ok (.iadd, 1) := by decide +kernel
theorem dL_398 : decode code 398 = .ok (.iaload, 1) := by decide +kernel
theorem dL_399 : decode code 399 = .ok (.aload_n 0, 1) := by decide +kernel
theorem dL_400 : decode code 400 = .ok (.iload_n 3, 1) := by decide +kernel
theorem dL_401 : decode code 401 = .ok (.iconst 4, 1) := by decide +kernel
theorem dL_402 : decode code 402 = .ok (.iadd, 1) := by decide +kernel
theorem dL_403 : decode code 403 = .ok (.iaload, 1) := by decide +kernel
theorem dL_404 : decode code 404 = .ok (.invokevirtual 45, 3) := by decide +kernel
theorem dL_407 : decode code 407 = .ok (.aload_n 2, 1) := by decide +kernel
theorem dL_408 : decode code 408 = .ok (.aload_n 0, 1) := by decide +kernel
theorem dL_409 : decode code 409 = .ok (.iload_n 3, 1) := by decide +kernel
theorem dL_410 : decode code 410 = .ok (.iconst 1, 1) := by decide +kernel
theorem dL_411 : decode code 411 = .ok (.iadd, 1) := by decide +kernel
theorem dL_412 : decode code 412 = .ok (.iaload, 1) := by decide +kernel
theorem dL_413 : decode code 413 = .ok (.aload_n 0, 1) := by decide +kernel
theorem dL_414 : decode code 414 = .ok (.iload_n 3, 1) := by decide +kernel
theorem dL_415 : decode code 415 = .ok (.iconst 2, 1) := by decide +kernel
theorem dL_416 : decode code 416 = .ok (.iadd, 1) := by decide +kernel
theorem dL_417 : decode code 417 = .ok (.iaload, 1) := by decide +kernel
theorem dL_418 : decode code 418 = .ok (.aload_n 0, 1) := by decide +kernel
theorem dL_419 : decode code 419 = .ok (.iload_n 3, 1) := by decide +kernel
theorem dL_420 : decode code 420 = .ok (.iconst 3, 1) := by decide +kernel
theorem dL_421 : decode code 421 = .ok (.iadd, 1) := by decide +kernel
theorem dL_422 : decode code 422 = .ok (.iaload, 1) := by decide +kernel
theorem dL_423 : decode code 423 = .ok (.aload_n 0, 1) := by decide +kernel
theorem dL_424 : decode code 424 = .ok (.iload_n 3, 1) := by decide +kernel
theorem dL_425 : decode code 425 = .ok (.iconst 4, 1) := by decide +kernel
theorem dL_426 : decode code 426 = .ok (.iadd, 1) := by decide +kernel
theorem dL_427 : decode code 427 = .ok (.iaload, 1) := by decide +kernel
theorem dL_428 : decode code 428 = .ok (.invokevirtual 49, 3) := by decide +kernel
theorem dL_431 : decode code 431 = .ok (.if_icmp .eq 554, 3) := by decide +kernel
theorem dL_434 : decode code 434 = .ok (.iconst 0, 1) := by decide +kernel
theorem dL_435 : decode code 435 = .ok (.ireturn, 1) := by decide +kernel
theorem dL_436 : decode code 436 = .ok (.aload_n 1, 1) := by decide +kernel
theorem dL_437 : decode code 437 = .ok (.aload_n 0, 1) := by decide +kernel
theorem dL_438 : decode code 438 = .ok (.iload_n 3, 1) := by decide +kernel
theorem dL_439 : decode code 439 = .ok (.iconst 1, 1) := by decide +kernel
theorem dL_440 : decode code 440 = .ok (.iadd, 1) := by decide +kernel
theorem dL_441 : decode code 441 = .ok (.iaload, 1) := by decide +kernel
theorem dL_442 : decode code 442 = .ok (.aload_n 0, 1) := by decide +kernel
theorem dL_443 : decode code 443 = .ok (.iload_n 3, 1) := by decide +kernel
theorem dL_444 : decode code 444 = .ok (.iconst 2, 1) := by decide +kernel
theorem dL_445 : decode code 445 = .ok (.iadd, 1) := by decide +kernel
theorem dL_446 : decode code 446 = .ok (.iaload, 1) := by decide +kernel
theorem dL_447 : decode code 447 = .ok (.aload_n 0, 1) := by decide +kernel
theorem dL_448 : decode code 448 = .ok (.iload_n 3, 1) := by decide +kernel
theorem dL_449 : decode code 449 = .ok (.iconst 3, 1) := by decide +kernel
theorem dL_450 : decode code 450 = .ok (.iadd, 1) := by decide +kernel
theorem dL_451 : decode code 451 = .ok (.iaload, 1) := by decide +kernel
theorem dL_452 : decode code 452 = .ok (.aload_n 0, 1) := by decide +kernel
theorem dL_453 : decode code 453 = .ok (.iload_n 3, 1) := by decide +kernel
theorem dL_454 : decode code 454 = .ok (.iconst 4, 1) := by decide +kernel
theorem dL_455 : decode code 455 = .ok (.iadd, 1) := by decide +kernel
theorem dL_456 : decode code 456 = .ok (.iaload, 1) := by decide +kernel
theorem dL_457 : decode code 457 = .ok (.invokevirtual 50, 3) := by decide +kernel
theorem dL_460 : decode code 460 = .ok (.aload_n 2, 1) := by decide +kernel
theorem dL_461 : decode code 461 = .ok (.aload_n 0, 1) := by decide +kernel
theorem dL_462 : decode code 462 = .ok (.iload_n 3, 1) := by decide +kernel
theorem dL_463 : decode code 463 = .ok (.iconst 1, 1) := by decide +kernel
theorem dL_464 : decode code 464 = .ok (.iadd, 1) := by decide +kernel
theorem dL_465 : decode code 465 = .ok (.iaload, 1) := by decide +kernel
theorem dL_466 : decode code 466 = .ok (.aload_n 0, 1) := by decide +kernel
theorem dL_467 : decode code 467 = .ok (.iload_n 3, 1) := by decide +kernel
theorem dL_468 : decode code 468 = .ok (.iconst 2, 1) := by decide +kernel
theorem dL_469 : decode code 469 = .ok (.iadd, 1) := by decide +kernel
theorem dL_470 : decode code 470 = .ok (.iaload, 1) := by decide +kernel
theorem dL_471 : decode code 471 = .ok (.aload_n 0, 1) := by decide +kernel
theorem dL_472 : decode code 472 = .ok (.iload_n 3, 1) := by decide +kernel
theorem dL_473 : decode code 473 = .ok (.iconst 3, 1) := by decide +kernel
theorem dL_474 : decode code 474 = .ok (.iadd, 1) := by decide +kernel
theorem dL_475 : decode code 475 = .ok (.iaload, 1) := by decide +kernel
theorem dL_476 : decode code 476 = .ok (.aload_n 0, 1) := by decide +kernel
theorem dL_477 : decode code 477 = .ok (.iload_n 3, 1) := by decide +kernel
theorem dL_478 : decode code 478 = .ok (.iconst 4, 1) := by decide +kernel
theorem dL_479 : decode code 479 = .ok (.iadd, 1) := by decide +kernel
theorem dL_480 : decode code 480 = .ok (.iaload, 1) := by decide +kernel
theorem dL_481 : decode code 481 = .ok (.invokevirtual 53, 3) := by decide +kernel
theorem dL_484 : decode code 484 = .ok (.if_icmp .eq 501, 3) := by decide +kernel
theorem dL_487 : decode code 487 = .ok (.iconst 0, 1) := by decide +kernel
theorem dL_488 : decode code 488 = .ok (.ireturn, 1) := by decide +kernel
theorem dL_489 : decode code 489 = .ok (.aload_n 1, 1) := by decide +kernel
theorem dL_490 : decode code 490 = .ok (.aload_n 0, 1) := by decide +kernel
theorem dL_491 : decode code 491 = .ok (.iload_n 3, 1) := by decide +kernel
theorem dL_492 : decode code 492 = .ok (.iconst 1, 1) := by decide +kernel
theorem dL_493 : decode code 493 = .ok (.iadd, 1) := by decide +kernel
theorem dL_494 : decode code 494 = .ok (.iaload, 1) := by decide +kernel
theorem dL_495 : decode code 495 = .ok (.aload_n 0, 1) := by decide +kernel
theorem dL_496 : decode code 496 = .ok (.iload_n 3, 1) := by decide +kernel
theorem dL_497 : decode code 497 = .ok (.iconst 2, 1) := by decide +kernel
theorem dL_498 : decode code 498 = .ok (.iadd, 1) := by decide +kernel
theorem dL_499 : decode code 499 = .ok (.iaload, 1) := by decide +kernel
theorem dL_500 : decode code 500 = .ok (.aload_n 0, 1) := by decide +kernel
theorem dL_501 : decode code 501 = .ok (.iload_n 3, 1) := by decide +kernel
theorem dL_502 : decode code 502 = .ok (.iconst 3, 1) := by decide +kernel
theorem dL_503 : decode code 503 = .ok (.iadd, 1) := by decide +kernel
theorem dL_504 : decode code 504 = .ok (.iaload, 1) := by decide +kernel
theorem dL_505 : decode code 505 = .ok (.invokevirtual 54, 3) := by decide +kernel
theorem dL_508 : decode code 508 = .ok (.aload_n 2, 1) := by decide +kernel
theorem dL_509 : decode code 509 = .ok (.aload_n 0, 1) := by decide +kernel
theorem dL_510 : decode code 510 = .ok (.iload_n 3, 1) := by decide +kernel
theorem dL_511 : decode code 511 = .ok (.iconst 1, 1) := by decide +kernel
theorem dL_512 : decode code 512 = .ok (.iadd, 1) := by decide +kernel
theorem dL_513 : decode code 513 = .ok (.iaload, 1) := by decide +kernel
theorem dL_514 : decode code 514 = .ok (.aload_n 0, 1) := by decide +kernel
theorem dL_515 : decode code 515 = .ok (.iload_n 3, 1) := by decide +kernel
theorem dL_516 : decode code 516 = .ok (.iconst 2, 1) := by decide +kernel
theorem dL_517 : decode code 517 = .ok (.iadd, 1) := by decide +kernel
theorem dL_518 : decode code 518 = .ok (.iaload, 1) := by decide +kernel
theorem dL_519 : decode code 519 = .ok (.aload_n 0, 1) := by decide +kernel
theorem dL_520 : decode code 520 = .ok (.iload_n 3, 1) := by decide +kernel
theorem dL_521 : decode code 521 = .ok (.iconst 3, 1) := by decide +kernel
theorem dL_522 : decode code 522 = .ok (.iadd, 1) := by decide +kernel
theorem dL_523 : decode code 523 = .ok (.iaload, 1) := by decide +kernel
theorem dL_524 : decode code 524 = .ok (.invokevirtual 57, 3) := by decide +kernel
theorem dL_527 : decode code 527 = .ok (.if_icmp .eq 458, 3) := by decide +kernel
theorem dL_530 : decode code 530 = .ok (.iconst 0, 1) := by decide +kernel
theorem dL_531 : decode code 531 = .ok (.ireturn, 1) := by decide +kernel
theorem dL_532 : decode code 532 = .ok (.aload_n 1, 1) := by decide +kernel
theorem dL_533 : decode code 533 = .ok (.aload_n 0, 1) := by decide +kernel
theorem dL_534 : decode code 534 = .ok (.iload_n 3, 1) := by decide +kernel
theorem dL_535 : decode code 535 = .ok (.iconst 1, 1) := by decide +kernel
theorem dL_536 : decode code 536 = .ok (.iadd, 1) := by decide +kernel
theorem dL_537 : decode code 537 = .ok (.iaload, 1) := by decide +kernel
theorem dL_538 : decode code 538 = .ok (.aload_n 0, 1) := by decide +kernel
theorem dL_539 : decode code 539 = .ok (.iload_n 3, 1) := by decide +kernel
theorem dL_540 : decode code 540 = .ok (.iconst 2, 1) := by decide +kernel
theorem dL_541 : decode code 541 = .ok (.iadd, 1) := by decide +kernel
theorem dL_542 : decode code 542 = .ok (.iaload, 1) := by decide +kernel
theorem dL_543 : decode code 543 = .ok (.invokevirtual 58, 3) := by decide +kernel
theorem dL_546 : decode code 546 = .ok (.aload_n 2, 1) := by decide +kernel
theorem dL_547 : decode code 547 = .ok (.aload_n 0, 1) := by decide +kernel
theorem dL_548 : decode code 548 = .ok (.iload_n 3, 1) := by decide +kernel
theorem dL_549 : decode code 549 = .ok (.iconst 1, 1) := by decide +kernel
theorem dL_550 : decode code 550 = .ok (.iadd, 1) := by decide +kernel
theorem dL_551 : decode code 551 = .ok (.iaload, 1) := by decide +kernel
theorem dL_552 : decode code 552 = .ok (.aload_n 0, 1) := by decide +kernel
theorem dL_553 : decode code 553 = .ok (.iload_n 3, 1) := by decide +kernel
theorem dL_554 : decode code 554 = .ok (.iconst 2, 1) := by decide +kernel
theorem dL_555 : decode code 555 = .ok (.iadd, 1) := by decide +kernel
theorem dL_556 : decode code 556 = .ok (.iaload, 1) := by decide +kernel
theorem dL_557 : decode code 557 = .ok (.invokevirtual 61, 3) := by decide +kernel
theorem dL_560 : decode code 560 = .ok (.if_icmp .eq 425, 3) := by decide +kernel
theorem dL_563 : decode code 563 = .ok (.iconst 0, 1) := by decide +kernel
theorem dL_564 : decode code 564 = .ok (.ireturn, 1) := by decide +kernel
theorem dL_565 : decode code 565 = .ok (.aload_n 1, 1) := by decide +kernel
theorem dL_566 : decode code 566 = .ok (.aload_n 0, 1) := by decide +kernel
theorem dL_567 : decode code 567 = .ok (.iload_n 3, 1) := by decide +kernel
theorem dL_568 : decode code 568 = .ok (.iconst 1, 1) := by decide +kernel
theorem dL_569 : decode code 569 = .ok (.iadd, 1) := by decide +kernel
theorem dL_570 : decode code 570 = .ok (.iaload, 1) := by decide +kernel
theorem dL_571 : decode code 571 = .ok (.aload_n 0, 1) := by decide +kernel
theorem dL_572 : decode code 572 = .ok (.iload_n 3, 1) := by decide +kernel
theorem dL_573 : decode code 573 = .ok (.iconst 2, 1) := by decide +kernel
theorem dL_574 : decode code 574 = .ok (.iadd, 1) := by decide +kernel
theorem dL_575 : decode code 575 = .ok (.iaload, 1) := by decide +kernel
theorem dL_576 : decode code 576 = .ok (.aload_n 0, 1) := by decide +kernel
theorem dL_577 : decode code 577 = .ok (.iload_n 3, 1) := by decide +kernel
theorem dL_578 : decode code 578 = .ok (.iconst 3, 1) := by decide +kernel
theorem dL_579 : decode code 579 = .ok (.iadd, 1) := by decide +kernel
theorem dL_580 : decode code 580 = .ok (.iaload, 1) := by decide +kernel
theorem dL_581 : decode code 581 = .ok (.aload_n 0, 1) := by decide +kernel
theorem dL_582 : decode code 582 = .ok (.iload_n 3, 1) := by decide +kernel
theorem dL_583 : decode code 583 = .ok (.iconst 4, 1) := by decide +kernel
theorem dL_584 : decode code 584 = .ok (.iadd, 1) := by decide +kernel
theorem dL_585 : decode code 585 = .ok (.iaload, 1) := by decide +kernel
theorem dL_586 : decode code 586 = .ok (.invokevirtual 62, 3) := by decide +kernel
theorem dL_589 : decode code 589 = .ok (.aload_n 2, 1) := by decide +kernel
theorem dL_590 : decode code 590 = .ok (.aload_n 0, 1) := by decide +kernel
theorem dL_591 : decode code 591 = .ok (.iload_n 3, 1) := by decide +kernel
theorem dL_592 : decode code 592 = .ok (.iconst 1, 1) := by decide +kernel
theorem dL_593 : decode code 593 = .ok (.iadd, 1) := by decide +kernel
theorem dL_594 : decode code 594 = .ok (.iaload, 1) := by decide +kernel
theorem dL_595 : decode code 595 = .ok (.aload_n 0, 1) := by decide +kernel
theorem dL_596 : decode code 596 = .ok (.iload_n 3, 1) := by decide +kernel
theorem dL_597 : decode code 597 = .ok (.iconst 2, 1) := by decide +kernel
theorem dL_598 : decode code 598 = .ok (.iadd, 1) := by decide +kernel
theorem dL_599 : decode code 599 = .ok (.iaload, 1) := by decide +kernel
theorem dL_600 : decode code 600 = .ok (.aload_n 0, 1) := by decide +kernel
theorem dL_601 : decode code 601 = .ok (.iload_n 3, 1) := by decide +kernel
theorem dL_602 : decode code 602 = .ok (.iconst 3, 1) := by decide +kernel
theorem dL_603 : decode code 603 = .ok (.iadd, 1) := by decide +kernel
theorem dL_604 : decode code 604 = .ok (.iaload, 1) := by decide +kernel
theorem dL_605 : decode code 605 = .ok (.aload_n 0, 1) := by decide +kernel
theorem dL_606 : decode code 606 = .ok (.iload_n 3, 1) := by decide +kernel
theorem dL_607 : decode code 607 = .ok (.iconst 4, 1) := by decide +kernel
theorem dL_608 : decode code 608 = .ok (.iadd, 1) := by decide +kernel
theorem dL_609 : decode code 609 = .ok (.iaload, 1) := by decide +kernel
theorem dL_610 : decode code 610 = .ok (.invokevirtual 65, 3) := by decide +kernel
theorem dL_613 : decode code 613 = .ok (.if_icmp .eq 372, 3) := by decide +kernel
theorem dL_616 : decode code 616 = .ok (.iconst 0, 1) := by decide +kernel
theorem dL_617 : decode code 617 = .ok (.ireturn, 1) := by decide +kernel
theorem dL_618 : decode code 618 = .ok (.aload_n 1, 1) := by decide +kernel
theorem dL_619 : decode code 619 = .ok (.aload_n 0, 1) := by decide +kernel
theorem dL_620 : decode code 620 = .ok (.iload_n 3, 1) := by decide +kernel
theorem dL_621 : decode code 621 = .ok (.iconst 1, 1) := by decide +kernel
theorem dL_622 : decode code 622 = .ok (.iadd, 1) := by decide +kernel
theorem dL_623 : decode code 623 = .ok (.iaload, 1) := by decide +kernel
theorem dL_624 : decode code 624 = .ok (.aload_n 0, 1) := by decide +kernel
theorem dL_625 : decode code 625 = .ok (.iload_n 3, 1) := by decide +kernel
theorem dL_626 : decode code 626 = .ok (.iconst 2, 1) := by decide +kernel
theorem dL_627 : decode code 627 = .ok (.iadd, 1) := by decide +kernel
theorem dL_628 : decode code 628 = .ok (.iaload, 1) := by decide +kernel
theorem dL_629 : decode code 629 = .ok (.aload_n 0, 1) := by decide +kernel
theorem dL_630 : decode code 630 = .ok (.iload_n 3, 1) := by decide +kernel
theorem dL_631 : decode code 631 = .ok (.iconst 3, 1) := by decide +kernel
theorem dL_632 : decode code 632 = .ok (.iadd, 1) := by decide +kernel
theorem dL_633 : decode code 633 = .ok (.iaload, 1) := by decide +kernel
theorem dL_634 : decode code 634 = .ok (.aload_n 0, 1) := by decide +kernel
theorem dL_635 : decode code 635 = .ok (.iload_n 3, 1) := by decide +kernel
theorem dL_636 : decode code 636 = .ok (.iconst 4, 1) := by decide +kernel
theorem dL_637 : decode code 637 = .ok (.iadd, 1) := by decide +kernel
theorem dL_638 : decode code 638 = .ok (.iaload, 1) := by decide +kernel
theorem dL_639 : decode code 639 = .ok (.invokevirtual 66, 3) := by decide +kernel
theorem dL_642 : decode code 642 = .ok (.aload_n 2, 1) := by decide +kernel
theorem dL_643 : decode code 643 = .ok (.aload_n 0, 1) := by decide +kernel
theorem dL_644 : decode code 644 = .ok (.iload_n 3, 1) := by decide +kernel
theorem dL_645 : decode code 645 = .ok (.iconst 1, 1) := by decide +kernel
theorem dL_646 : decode code 646 = .ok (.iadd, 1) := by decide +kernel
theorem dL_647 : decode code 647 = .ok (.iaload, 1) := by decide +kernel
theorem dL_648 : decode code 648 = .ok (.aload_n 0, 1) := by decide +kernel
theorem dL_649 : decode code 649 = .ok (.iload_n 3, 1) := by decide +kernel
theorem dL_650 : decode code 650 = .ok (.iconst 2, 1) := by decide +kernel
theorem dL_651 : decode code 651 = .ok (.iadd, 1) := by decide +kernel
theorem dL_652 : decode code 652 = .ok (.iaload, 1) := by decide +kernel
theorem dL_653 : decode code 653 = .ok (.aload_n 0, 1) := by decide +kernel
theorem dL_654 : decode code 654 = .ok (.iload_n 3, 1) := by decide +kernel
theorem dL_655 : decode code 655 = .ok (.iconst 3, 1) := by decide +kernel
theorem dL_656 : decode code 656 = .ok (.iadd, 1) := by decide +kernel
theorem dL_657 : decode code 657 = .ok (.iaload, 1) := by decide +kernel
theorem dL_658 : decode code 658 = .ok (.aload_n 0, 1) := by decide +kernel
theorem dL_659 : decode code 659 = .ok (.iload_n 3, 1) := by decide +kernel
theorem dL_660 : decode code 660 = .ok (.iconst 4, 1) := by decide +kernel
theorem dL_661 : decode code 661 = .ok (.iadd, 1) := by decide +kernel
theorem dL_662 : decode code 662 = .ok (.iaload, 1) := by decide +kernel
theorem dL_663 : decode code 663 = .ok (.invokevirtual 69, 3) := by decide +kernel
theorem dL_666 : decode code 666 = .ok (.if_icmp .eq 319, 3) := by decide +kernel
theorem dL_669 : decode code 669 = .ok (.iconst 0, 1) := by decide +kernel
theorem dL_670 : decode code 670 = .ok (.ireturn, 1) := by decide +kernel
theorem dL_671 : decode code 671 = .ok (.aload_n 1, 1) := by decide +kernel
theorem dL_672 : decode code 672 = .ok (.aload_n 0, 1) := by decide +kernel
theorem dL_673 : decode code 673 = .ok (.iload_n 3, 1) := by decide +kernel
theorem dL_674 : decode code 674 = .ok (.iconst 1, 1) := by decide +kernel
theorem dL_675 : decode code 675 = .ok (.iadd, 1) := by decide +kernel
theorem dL_676 : decode code 676 = .ok (.iaload, 1) := by decide +kernel
theorem dL_677 : decode code 677 = .ok (.aload_n 0, 1) := by decide +kernel
theorem dL_678 : decode code 678 = .ok (.iload_n 3, 1) := by decide +kernel
theorem dL_679 : decode code 679 = .ok (.iconst 2, 1) := by decide +kernel
theorem dL_680 : decode code 680 = .ok (.iadd, 1) := by decide +kernel
theorem dL_681 : decode code 681 = .ok (.iaload, 1) := by decide +kernel
theorem dL_682 : decode code 682 = .ok (.aload_n 0, 1) := by decide +kernel
theorem dL_683 : decode code 683 = .ok (.iload_n 3, 1) := by decide +kernel
theorem dL_684 : decode code 684 = .ok (.iconst 3, 1) := by decide +kernel
theorem dL_685 : decode code 685 = .ok (.iadd, 1) := by decide +kernel
theorem dL_686 : decode code 686 = .ok (.iaload, 1) := by decide +kernel
theorem dL_687 : decode code 687 = .ok (.aload_n 0, 1) := by decide +kernel
theorem dL_688 : decode code 688 = .ok (.iload_n 3, 1) := by decide +kernel
theorem dL_689 : decode code 689 = .ok (.iconst 4, 1) := by decide +kernel
theorem dL_690 : decode code 690 = .ok (.iadd, 1) := by decide +kernel
theorem dL_691 : decode code 691 = .ok (.iaload, 1) := by decide +kernel
theorem dL_692 : decode code 692 = .ok (.invokevirtual 70, 3) := by decide +kernel
theorem dL_695 : decode code 695 = .ok (.aload_n 2, 1) := by decide +kernel
theorem dL_696 : decode code 696 = .ok (.aload_n 0, 1) := by decide +kernel
theorem dL_697 : decode code 697 = .ok (.iload_n 3, 1) := by decide +kernel
theorem dL_698 : decode code 698 = .ok (.iconst 1, 1) := by decide +kernel
theorem dL_699 : decode code 699 = .ok (.iadd, 1) := by decide +kernel
theorem dL_700 : decode code 700 = .ok (.iaload, 1) := by decide +kernel
theorem dL_701 : decode code 701 = .ok (.aload_n 0, 1) := by decide +kernel
theorem dL_702 : decode code 702 = .ok (.iload_n 3, 1) := by decide +kernel
theorem dL_703 : decode code 703 = .ok (.iconst 2, 1) := by decide +kernel
theorem dL_704 : decode code 704 = .ok (.iadd, 1) := by decide +kernel
theorem dL_705 : decode code 705 = .ok (.iaload, 1) := by decide +kernel
theorem dL_706 : decode code 706 = .ok (.aload_n 0, 1) := by decide +kernel
theorem dL_707 : decode code 707 = .ok (.iload_n 3, 1) := by decide +kernel
theorem dL_708 : decode code 708 = .ok (.iconst 3, 1) := by decide +kernel
theorem dL_709 : decode code 709 = .ok (.iadd, 1) := by decide +kernel
theorem dL_710 : decode code 710 = .ok (.iaload, 1) := by decide +kernel
theorem dL_711 : decode code 711 = .ok (.aload_n 0, 1) := by decide +kernel
theorem dL_712 : decode code 712 = .ok (.iload_n 3, 1) := by decide +kernel
theorem dL_713 : decode code 713 = .ok (.iconst 4, 1) := by decide +kernel
theorem dL_714 : decode code 714 = .ok (.iadd, 1) := by decide +kernel
theorem dL_715 : decode code 715 = .ok (.iaload, 1) := by decide +kernel
theorem dL_716 : decode code 716 = .ok (.invokevirtual 73, 3) := by decide +kernel
theorem dL_719 : decode code 719 = .ok (.if_icmp .eq 266, 3) := by decide +kernel
theorem dL_722 : decode code 722 = .ok (.iconst 0, 1) := by decide +kernel
theorem dL_723 : decode code 723 = .ok (.ireturn, 1) := by decide +kernel
theorem dL_724 : decode code 724 = .ok (.aload_n 1, 1) := by decide +kernel
theorem dL_725 : decode code 725 = .ok (.aload_n 0, 1) := by decide +kernel
theorem dL_726 : decode code 726 = .ok (.iload_n 3, 1) := by decide +kernel
theorem dL_727 : decode code 727 = .ok (.iconst 1, 1) := by decide +kernel
theorem dL_728 : decode code 728 = .ok (.iadd, 1) := by decide +kernel
theorem dL_729 : decode code 729 = .ok (.iaload, 1) := by decide +kernel
theorem dL_730 : decode code 730 = .ok (.aload_n 0, 1) := by decide +kernel
theorem dL_731 : decode code 731 = .ok (.iload_n 3, 1) := by decide +kernel
theorem dL_732 : decode code 732 = .ok (.iconst 2, 1) := by decide +kernel
theorem dL_733 : decode code 733 = .ok (.iadd, 1) := by decide +kernel
theorem dL_734 : decode code 734 = .ok (.iaload, 1) := by decide +kernel
theorem dL_735 : decode code 735 = .ok (.aload_n 0, 1) := by decide +kernel
theorem dL_736 : decode code 736 = .ok (.iload_n 3, 1) := by decide +kernel
theorem dL_737 : decode code 737 = .ok (.iconst 3, 1) := by decide +kernel
theorem dL_738 : decode code 738 = .ok (.iadd, 1) := by decide +kernel
theorem dL_739 : decode code 739 = .ok (.iaload, 1) := by decide +kernel
theorem dL_740 : decode code 740 = .ok (.invokevirtual 74, 3) := by decide +kernel
theorem dL_743 : decode code 743 = .ok (.aload_n 2, 1) := by decide +kernel
theorem dL_744 : decode code 744 = .ok (.aload_n 0, 1) := by decide +kernel
theorem dL_745 : decode code 745 = .ok (.iload_n 3, 1) := by decide +kernel
theorem dL_746 : decode code 746 = .ok (.iconst 1, 1) := by decide +kernel
theorem dL_747 : decode code 747 = .ok (.iadd, 1) := by decide +kernel
theorem dL_748 : decode code 748 = .ok (.iaload, 1) := by decide +kernel
theorem dL_749 : decode code 749 = .ok (.aload_n 0, 1) := by decide +kernel
theorem dL_750 : decode code 750 = .ok (.iload_n 3, 1) := by decide +kernel
theorem dL_751 : decode code 751 = .ok (.iconst 2, 1) := by decide +kernel
theorem dL_752 : decode code 752 = .ok (.iadd, 1) := by decide +kernel
theorem dL_753 : decode code 753 = .ok (.iaload, 1) := by decide +kernel
theorem dL_754 : decode code 754 = .ok (.aload_n 0, 1) := by decide +kernel
theorem dL_755 : decode code 755 = .ok (.iload_n 3, 1) := by decide +kernel
theorem dL_756 : decode code 756 = .ok (.iconst 3, 1) := by decide +kernel
theorem dL_757 : decode code 757 = .ok (.iadd, 1) := by decide +kernel
theorem dL_758 : decode code 758 = .ok (.iaload, 1) := by decide +kernel
theorem dL_759 : decode code 759 = .ok (.invokevirtual 77, 3) := by decide +kernel
theorem dL_762 : decode code 762 = .ok (.if_icmp .eq 223, 3) := by decide +kernel
theorem dL_765 : decode code 765 = .ok (.iconst 0, 1) := by decide +kernel
theorem dL_766 : decode code 766 = .ok (.ireturn, 1) := by decide +kernel
theorem dL_767 : decode code 767 = .ok (.aload_n 1, 1) := by decide +kernel
theorem dL_768 : decode code 768 = .ok (.aload_n 0, 1) := by decide +kernel
theorem dL_769 : decode code 769 = .ok (.iload_n 3, 1) := by decide +kernel
theorem dL_770 : decode code 770 = .ok (.iconst 1, 1) := by decide +kernel
theorem dL_771 : decode code 771 = .ok (.iadd, 1) := by decide +kernel
theorem dL_772 : decode code 772 = .ok (.iaload, 1) := by decide +kernel
theorem dL_773 : decode code 773 = .ok (.aload_n 0, 1) := by decide +kernel
theorem dL_774 : decode code 774 = .ok (.iload_n 3, 1) := by decide +kernel
theorem dL_775 : decode code 775 = .ok (.iconst 2, 1) := by decide +kernel
theorem dL_776 : decode code 776 = .ok (.iadd, 1) := by decide +kernel
theorem dL_777 : decode code 777 = .ok (.iaload, 1) := by decide +kernel
theorem dL_778 : decode code 778 = .ok (.aload_n 0, 1) := by decide +kernel
theorem dL_779 : decode code 779 = .ok (.iload_n 3, 1) := by decide +kernel
theorem dL_780 : decode code 780 = .ok (.iconst 3, 1) := by decide +kernel
theorem dL_781 : decode code 781 = .ok (.iadd, 1) := by decide +kernel
theorem dL_782 : decode code 782 = .ok (.iaload, 1) := by decide +kernel
theorem dL_783 : decode code 783 = .ok (.invokevirtual 78, 3) := by decide +kernel
theorem dL_786 : decode code 786 = .ok (.aload_n 2, 1) := by decide +kernel
theorem dL_787 : decode code 787 = .ok (.aload_n 0, 1) := by decide +kernel
theorem dL_788 : decode code 788 = .ok (.iload_n 3, 1) := by decide +kernel
theorem dL_789 : decode code 789 = .ok (.iconst 1, 1) := by decide +kernel
theorem dL_790 : decode code 790 = .ok (.iadd, 1) := by decide +kernel
theorem dL_791 : decode code 791 = .ok (.iaload, 1) := by decide +kernel
theorem dL_792 : decode code 792 = .ok (.aload_n 0, 1) := by decide +kernel
theorem dL_793 : decode code 793 = .ok (.iload_n 3, 1) := by decide +kernel
theorem dL_794 : decode code 794 = .ok (.iconst 2, 1) := by decide +kernel
theorem dL_795 : decode code 795 = .ok (.iadd, 1) := by decide +kernel
theorem dL_796 : decode code 796 = .ok (.iaload, 1) := by decide +kernel
theorem dL_797 : decode code 797 = .ok (.aload_n 0, 1) := by decide +kernel
theorem dL_798 : decode code 798 = .ok (.iload_n 3, 1) := by decide +kernel
theorem dL_799 : decode code 799 = .ok (.iconst 3, 1) := by decide +kernel
theorem dL_800 : decode code 800 = .ok (.iadd, 1) := by decide +kernel
theorem dL_801 : decode code 801 = .ok (.iaload, 1) := by decide +kernel
theorem dL_802 : decode code 802 = .ok (.invokevirtual 81, 3) := by decide +kernel
theorem dL_805 : decode code 805 = .ok (.if_icmp .eq 180, 3) := by decide +kernel
theorem dL_808 : decode code 808 = .ok (.iconst 0, 1) := by decide +kernel
theorem dL_809 : decode code 809 = .ok (.ireturn, 1) := by decide +kernel
theorem dL_810 : decode code 810 = .ok (.aload_n 1, 1) := by decide +kernel
theorem dL_811 : decode code 811 = .ok (.aload_n 0, 1) := by decide +kernel
theorem dL_812 : decode code 812 = .ok (.iload_n 3, 1) := by decide +kernel
theorem dL_813 : decode code 813 = .ok (.iconst 1, 1) := by decide +kernel
theorem dL_814 : decode code 814 = .ok (.iadd, 1) := by decide +kernel
theorem dL_815 : decode code 815 = .ok (.iaload, 1) := by decide +kernel
theorem dL_816 : decode code 816 = .ok (.aload_n 0, 1) := by decide +kernel
theorem dL_817 : decode code 817 = .ok (.iload_n 3, 1) := by decide +kernel
theorem dL_818 : decode code 818 = .ok (.iconst 2, 1) := by decide +kernel
theorem dL_819 : decode code 819 = .ok (.iadd, 1) := by decide +kernel
theorem dL_820 : decode code 820 = .ok (.iaload, 1) := by decide +kernel
theorem dL_821 : decode code 821 = .ok (.aload_n 0, 1) := by decide +kernel
theorem dL_822 : decode code 822 = .ok (.iload_n 3, 1) := by decide +kernel
theorem dL_823 : decode code 823 = .ok (.iconst 3, 1) := by decide +kernel
theorem dL_824 : decode code 824 = .ok (.iadd, 1) := by decide +kernel
theorem dL_825 : decode code 825 = .ok (.iaload, 1) := by decide +kernel
theorem dL_826 : decode code 826 = .ok (.aload_n 0, 1) := by decide +kernel
theorem dL_827 : decode code 827 = .ok (.iload_n 3, 1) := by decide +kernel
theorem dL_828 : decode code 828 = .ok (.iconst 4, 1) := by decide +kernel
theorem dL_829 : decode code 829 = .ok (.iadd, 1) := by decide +kernel
theorem dL_830 : decode code 830 = .ok (.iaload, 1) := by decide +kernel
theorem dL_831 : decode code 831 = .ok (.invokevirtual 82, 3) := by decide +kernel
theorem dL_834 : decode code 834 = .ok (.aload_n 2, 1) := by decide +kernel
theorem dL_835 : decode code 835 = .ok (.aload_n 0, 1) := by decide +kernel
theorem dL_836 : decode code 836 = .ok (.iload_n 3, 1) := by decide +kernel
theorem dL_837 : decode code 837 = .ok (.iconst 1, 1) := by decide +kernel
theorem dL_838 : decode code 838 = .ok (.iadd, 1) := by decide +kernel
theorem dL_839 : decode code 839 = .ok (.iaload, 1) := by decide +kernel
theorem dL_840 : decode code 840 = .ok (.aload_n 0, 1) := by decide +kernel
theorem dL_841 : decode code 841 = .ok (.iload_n 3, 1) := by decide +kernel
theorem dL_842 : decode code 842 = .ok (.iconst 2, 1) := by decide +kernel
theorem dL_843 : decode code 843 = .ok (.iadd, 1) := by decide +kernel
theorem dL_844 : decode code 844 = .ok (.iaload, 1) := by decide +kernel
theorem dL_845 : decode code 845 = .ok (.aload_n 0, 1) := by decide +kernel
theorem dL_846 : decode code 846 = .ok (.iload_n 3, 1) := by decide +kernel
theorem dL_847 : decode code 847 = .ok (.iconst 3, 1) := by decide +kernel
theorem dL_848 : decode code 848 = .ok (.iadd, 1) := by decide +kernel
theorem dL_849 : decode code 849 = .ok (.iaload, 1) := by decide +kernel
theorem dL_850 : decode code 850 = .ok (.aload_n 0, 1) := by decide +kernel
theorem dL_851 : decode code 851 = .ok (.iload_n 3, 1) := by decide +kernel
theorem dL_852 : decode code 852 = .ok (.iconst 4, 1) := by decide +kernel
theorem dL_853 : decode code 853 = .ok (.iadd, 1) := by decide +kernel
theorem dL_854 : decode code 854 = .ok (.iaload, 1) := by decide +kernel
theorem dL_855 : decode code 855 = .ok (.invokevirtual 85, 3) := by decide +kernel
theorem dL_858 : decode code 858 = .ok (.if_icmp .eq 127, 3) := by decide +kernel
theorem dL_861 : decode code 861 = .ok (.iconst 0, 1) := by decide +kernel
theorem dL_862 : decode code 862 = .ok (.ireturn, 1) := by decide +kernel
theorem dL_863 : decode code 863 = .ok (.aload_n 1, 1) := by decide +kernel
theorem dL_864 : decode code 864 = .ok (.aload_n 0, 1) := by decide +kernel
theorem dL_865 : decode code 865 = .ok (.iload_n 3, 1) := by decide +kernel
theorem dL_866 : decode code 866 = .ok (.iconst 1, 1) := by decide +kernel
theorem dL_867 : decode code 867 = .ok (.iadd, 1) := by decide +kernel
theorem dL_868 : decode code 868 = .ok (.iaload, 1) := by decide +kernel
theorem dL_869 : decode code 869 = .ok (.aload_n 0, 1) := by decide +kernel
theorem dL_870 : decode code 870 = .ok (.iload_n 3, 1) := by decide +kernel
theorem dL_871 : decode code 871 = .ok (.iconst 2, 1) := by decide +kernel
theorem dL_872 : decode code 872 = .ok (.iadd, 1) := by decide +kernel
theorem dL_873 : decode code 873 = .ok (.iaload, 1) := by decide +kernel
theorem dL_874 : decode code 874 = .ok (.aload_n 0, 1) := by decide +kernel
theorem dL_875 : decode code 875 = .ok (.iload_n 3, 1) := by decide +kernel
theorem dL_876 : decode code 876 = .ok (.iconst 3, 1) := by decide +kernel
theorem dL_877 : decode code 877 = .ok (.iadd, 1) := by decide +kernel
theorem dL_878 : decode code 878 = .ok (.iaload, 1) := by decide +kernel
theorem dL_879 : decode code 879 = .ok (.aload_n 0, 1) := by decide +kernel
theorem dL_880 : decode code 880 = .ok (.iload_n 3, 1) := by decide +kernel
theorem dL_881 : decode code 881 = .ok (.iconst 4, 1) := by decide +kernel
theorem dL_882 : decode code 882 = .ok (.iadd, 1) := by decide +kernel
theorem dL_883 : decode code 883 = .ok (.iaload, 1) := by decide +kernel
theorem dL_884 : decode code 884 = .ok (.invokevirtual 86, 3) := by decide +kernel
theorem dL_887 : decode code 887 = .ok (.aload_n 2, 1) := by decide +kernel
theorem dL_888 : decode code 888 = .ok (.aload_n 0, 1) := by decide +kernel
theorem dL_889 : decode code 889 = .ok (.iload_n 3, 1) := by decide +kernel
theorem dL_890 : decode code 890 = .ok (.iconst 1, 1) := by decide +kernel
theorem dL_891 : decode code 891 = .ok (.iadd, 1) := by decide +kernel
theorem dL_892 : decode code 892 = .ok (.iaload, 1) := by decide +kernel
theorem dL_893 : decode code 893 = .ok (.aload_n 0, 1) := by decide +kernel
theorem dL_894 : decode code 894 = .ok (.iload_n 3, 1) := by decide +kernel
theorem dL_895 : decode code 895 = .ok (.iconst 2, 1) := by decide +kernel
theorem dL_896 : decode code 896 = .ok (.iadd, 1) := by decide +kernel
theorem dL_897 : decode code 897 = .ok (.iaload, 1) := by decide +kernel
theorem dL_898 : decode code 898 = .ok (.aload_n 0, 1) := by decide +kernel
theorem dL_899 : decode code 899 = .ok (.iload_n 3, 1) := by decide +kernel
theorem dL_900 : decode code 900 = .ok (.iconst 3, 1) := by decide +kernel
theorem dL_901 : decode code 901 = .ok (.iadd, 1) := by decide +kernel
theorem dL_902 : decode code 902 = .ok (.iaload, 1) := by decide +kernel
theorem dL_903 : decode code 903 = .ok (.aload_n 0, 1) := by decide +kernel
theorem dL_904 : decode code 904 = .ok (.iload_n 3, 1) := by decide +kernel
theorem dL_905 : decode code 905 = .ok (.iconst 4, 1) := by decide +kernel
theorem dL_906 : decode code 906 = .ok (.iadd, 1) := by decide +kernel
theorem dL_907 : decode code 907 = .ok (.iaload, 1) := by decide +kernel
theorem dL_908 : decode code 908 = .ok (.invokevirtual 89, 3) := by decide +kernel
theorem dL_911 : decode code 911 = .ok (.if_icmp .eq 74, 3) := by decide +kernel
theorem dL_914 : decode code 914 = .ok (.iconst 0, 1) := by decide +kernel
theorem dL_915 : decode code 915 = .ok (.ireturn, 1) := by decide +kernel
theorem dL_916 : decode code 916 = .ok (.aload_n 1, 1) := by decide +kernel
theorem dL_917 : decode code 917 = .ok (.aload_n 0, 1) := by decide +kernel
theorem dL_918 : decode code 918 = .ok (.iload_n 3, 1) := by decide +kernel
theorem dL_919 : decode code 919 = .ok (.iconst 1, 1) := by decide +kernel
theorem dL_920 : decode code 920 = .ok (.iadd, 1) := by decide +kernel
theorem dL_921 : decode code 921 = .ok (.iaload, 1) := by decide +kernel
theorem dL_922 : decode code 922 = .ok (.invokevirtual 90, 3) := by decide +kernel
theorem dL_925 : decode code 925 = .ok (.aload_n 2, 1) := by decide +kernel
theorem dL_926 : decode code 926 = .ok (.aload_n 0, 1) := by decide +kernel
theorem dL_927 : decode code 927 = .ok (.iload_n 3, 1) := by decide +kernel
theorem dL_928 : decode code 928 = .ok (.iconst 1, 1) := by decide +kernel
theorem dL_929 : decode code 929 = .ok (.iadd, 1) := by decide +kernel
theorem dL_930 : decode code 930 = .ok (.iaload, 1) := by decide +kernel
theorem dL_931 : decode code 931 = .ok (.invokevirtual 93, 3) := by decide +kernel
theorem dL_934 : decode code 934 = .ok (.if_icmp .eq 51, 3) := by decide +kernel
theorem dL_937 : decode code 937 = .ok (.iconst 0, 1) := by decide +kernel
theorem dL_938 : decode code 938 = .ok (.ireturn, 1) := by decide +kernel
theorem dL_939 : decode code 939 = .ok (.aload_n 1, 1) := by decide +kernel
theorem dL_940 : decode code 940 = .ok (.aload_n 0, 1) := by decide +kernel
theorem dL_941 : decode code 941 = .ok (.iload_n 3, 1) := by decide +kernel
theorem dL_942 : decode code 942 = .ok (.iconst 1, 1) := by decide +kernel
theorem dL_943 : decode code 943 = .ok (.iadd, 1) := by decide +kernel
theorem dL_944 : decode code 944 = .ok (.iaload, 1) := by decide +kernel
theorem dL_945 : decode code 945 = .ok (.invokevirtual 94, 3) := by decide +kernel
theorem dL_948 : decode code 948 = .ok (.aload_n 2, 1) := by decide +kernel
theorem dL_949 : decode code 949 = .ok (.aload_n 0, 1) := by decide +kernel
theorem dL_950 : decode code 950 = .ok (.iload_n 3, 1) := by decide +kernel
theorem dL_951 : decode code 951 = .ok (.iconst 1, 1) := by decide +kernel
theorem dL_952 : decode code 952 = .ok (.iadd, 1) := by decide +kernel
theorem dL_953 : decode code 953 = .ok (.iaload, 1) := by decide +kernel
theorem dL_954 : decode code 954 = .ok (.invokevirtual 98, 3) := by decide +kernel
theorem dL_957 : decode code 957 = .ok (.if_icmp .eq 28, 3) := by decide +kernel
theorem dL_960 : decode code 960 = .ok (.iconst 0, 1) := by decide +kernel
theorem dL_961 : decode code 961 = .ok (.ireturn, 1) := by decide +kernel
theorem dL_962 : decode code 962 = .ok (.aload_n 1, 1) := by decide +kernel
theorem dL_963 : decode code 963 = .ok (.aload_n 0, 1) := by decide +kernel
theorem dL_964 : decode code 964 = .ok (.iload_n 3, 1) := by decide +kernel
theorem dL_965 : decode code 965 = .ok (.iconst 1, 1) := by decide +kernel
theorem dL_966 : decode code 966 = .ok (.iadd, 1) := by decide +kernel
theorem dL_967 : decode code 967 = .ok (.iaload, 1) := by decide +kernel
theorem dL_968 : decode code 968 = .ok (.invokevirtual 99, 3) := by decide +kernel
theorem dL_971 : decode code 971 = .ok (.aload_n 2, 1) := by decide +kernel
theorem dL_972 : decode code 972 = .ok (.aload_n 0, 1) := by decide +kernel
theorem dL_973 : decode code 973 = .ok (.iload_n 3, 1) := by decide +kernel
theorem dL_974 : decode code 974 = .ok (.iconst 1, 1) := by decide +kernel
theorem dL_975 : decode code 975 = .ok (.iadd, 1) := by decide +kernel
theorem dL_976 : decode code 976 = .ok (.iaload, 1) := by decide +kernel
theorem dL_977 : decode code 977 = .ok (.invokevirtual 102, 3) := by decide +kernel
theorem dL_980 : decode code 980 = .ok (.if_icmp .eq 5, 3) := by decide +kernel
theorem dL_983 : decode code 983 = .ok (.iconst 0, 1) := by decide +kernel
theorem dL_984 : decode code 984 = .ok (.ireturn, 1) := by decide +kernel
theorem dL_985 : decode code 985 = .ok (.iinc 3 6, 3) := by decide +kernel
theorem dL_988 : decode code 988 = .ok (.goto (-970), 3) := by decide +kernel
theorem dL_991 : decode code 991 = .ok (.iconst 1, 1) := by decide +kernel
theorem dL_992 : decode code 992 = .ok (.ireturn, 1) := by decide +kernel
set_option maxRecDepth 100000 in
theorem wL_13 : gVw R_law 13 mX11_feed 5 := ⟨⟨gT_of 588 rfl rfl, gT_of 589 rfl rfl, gT_of 590 rfl rfl, gT_of 126 rfl rfl, gT_of 591 rfl rfl⟩, by decide +kernel, by decide +kernel, by decide +kernel⟩
theorem rL_13 : lRoom mX11_feed := ⟨rfl, rfl, by decide, by decide⟩
set_option maxRecDepth 100000 in
theorem wL_17 : gVw R_law 17 mX12_feed 5 := ⟨⟨gT_of 1446 rfl rfl, gT_of 1447 rfl rfl, gT_of 1448 rfl rfl, gT_of 138 rfl rfl, gT_of 1449 rfl rfl⟩, by decide +kernel, by decide +kernel, by decide +kernel⟩
theorem rL_17 : lRoom mX12_feed := ⟨rfl, rfl, by decide, by decide⟩
set_option maxRecDepth 100000 in
theorem wL_18 : gVw R_law 18 mX11_end 1 := ⟨⟨gT_of 596 rfl rfl, gT_of 597 rfl rfl, gT_of 598 rfl rfl, gT_of 126 rfl rfl, gT_of 599 rfl rfl⟩, by decide +kernel, by decide +kernel, by decide +kernel⟩
theorem rL_18 : lRoom mX11_end := ⟨rfl, rfl, by decide, by decide⟩
set_option maxRecDepth 100000 in
theorem wL_22 : gVw R_law 22 mX12_end 1 := ⟨⟨gT_of 1450 rfl rfl, gT_of 1451 rfl rfl, gT_of 1452 rfl rfl, gT_of 138 rfl rfl, gT_of 1453 rfl rfl⟩, by decide +kernel, by decide +kernel, by decide +kernel⟩
theorem rL_22 : lRoom mX12_end := ⟨rfl, rfl, by decide, by decide⟩
set_option maxRecDepth 100000 in
theorem wL_23 : gVw R_law 23 mX11_text 2 := ⟨⟨gT_of 600 rfl rfl, gT_of 601 rfl rfl, gT_of 602 rfl rfl, gT_of 126 rfl rfl, gT_of 603 rfl rfl⟩, by decide +kernel, by decide +kernel, by decide +kernel⟩
theorem rL_23 : lRoom mX11_text := ⟨rfl, rfl, by decide, by decide⟩
set_option maxRecDepth 100000 in
theorem wL_27 : gVw R_law 27 mX12_text 2 := ⟨⟨gT_of 1454 rfl rfl, gT_of 1455 rfl rfl, gT_of 1456 rfl rfl, gT_of 138 rfl rfl, gT_of 1457 rfl rfl⟩, by decide +kernel, by decide +kernel, by decide +kernel⟩
theorem rL_27 : lRoom mX12_text := ⟨rfl, rfl, by decide, by decide⟩
set_option maxRecDepth 100000 in
theorem wL_28 : gVw R_law 28 mX11_fault 1 := ⟨⟨gT_of 749 rfl rfl, gT_of 750 rfl rfl, gT_of 751 rfl rfl, gT_of 126 rfl rfl, gT_of 752 rfl rfl⟩, by decide +kernel, by decide +kernel, by decide +kernel⟩
theorem rL_28 : lRoom mX11_fault := ⟨rfl, rfl, by decide, by decide⟩
set_option maxRecDepth 100000 in
theorem wL_31 : gVw R_law 31 mX12_fault 1 := ⟨⟨gT_of 1529 rfl rfl, gT_of 1530 rfl rfl, gT_of 1531 rfl rfl, gT_of 138 rfl rfl, gT_of 1532 rfl rfl⟩, by decide +kernel, by decide +kernel, by decide +kernel⟩
theorem rL_31 : lRoom mX12_fault := ⟨rfl, rfl, by decide, by decide⟩
set_option maxRecDepth 100000 in
theorem wL_32 : gVw R_law 32 mX11_crossbar 2 := ⟨⟨gT_of 753 rfl rfl, gT_of 754 rfl rfl, gT_of 755 rfl rfl, gT_of 126 rfl rfl, gT_of 756 rfl rfl⟩, by decide +kernel, by decide +kernel, by decide +kernel⟩
theorem rL_32 : lRoom mX11_crossbar := ⟨rfl, rfl, by decide, by decide⟩
set_option maxRecDepth 100000 in
theorem wL_35 : gVw R_law 35 mX12_crossbar 2 := ⟨⟨gT_of 1533 rfl rfl, gT_of 1534 rfl rfl, gT_of 1535 rfl rfl, gT_of 138 rfl rfl, gT_of 1536 rfl rfl⟩, by decide +kernel, by decide +kernel, by decide +kernel⟩
theorem rL_35 : lRoom mX12_crossbar := ⟨rfl, rfl, by decide, by decide⟩
set_option maxRecDepth 100000 in
theorem wL_36 : gVw R_law 36 mX11_deed 3 := ⟨⟨gT_of 762 rfl rfl, gT_of 763 rfl rfl, gT_of 764 rfl rfl, gT_of 126 rfl rfl, gT_of 765 rfl rfl⟩, by decide +kernel, by decide +kernel, by decide +kernel⟩
theorem rL_36 : lRoom mX11_deed := ⟨rfl, rfl, by decide, by decide⟩
set_option maxRecDepth 100000 in
theorem wL_40 : gVw R_law 40 mX12_deed 3 := ⟨⟨gT_of 1537 rfl rfl, gT_of 1538 rfl rfl, gT_of 1539 rfl rfl, gT_of 138 rfl rfl, gT_of 1540 rfl rfl⟩, by decide +kernel, by decide +kernel, by decide +kernel⟩
theorem rL_40 : lRoom mX12_deed := ⟨rfl, rfl, by decide, by decide⟩
set_option maxRecDepth 100000 in
theorem wL_41 : gVw R_law 41 mX11_stop 2 := ⟨⟨gT_of 778 rfl rfl, gT_of 779 rfl rfl, gT_of 780 rfl rfl, gT_of 126 rfl rfl, gT_of 781 rfl rfl⟩, by decide +kernel, by decide +kernel, by decide +kernel⟩
theorem rL_41 : lRoom mX11_stop := ⟨rfl, rfl, by decide, by decide⟩
set_option maxRecDepth 100000 in
theorem wL_44 : gVw R_law 44 mX12_stop 2 := ⟨⟨gT_of 1545 rfl rfl, gT_of 1546 rfl rfl, gT_of 1547 rfl rfl, gT_of 138 rfl rfl, gT_of 1548 rfl rfl⟩, by decide +kernel, by decide +kernel, by decide +kernel⟩
theorem rL_44 : lRoom mX12_stop := ⟨rfl, rfl, by decide, by decide⟩
set_option maxRecDepth 100000 in
theorem wL_45 : gVw R_law 45 mX11_state 4 := ⟨⟨gT_of 905 rfl rfl, gT_of 906 rfl rfl, gT_of 907 rfl rfl, gT_of 126 rfl rfl, gT_of 908 rfl rfl⟩, by decide +kernel, by decide +kernel, by decide +kernel⟩
theorem rL_45 : lRoom mX11_state := ⟨rfl, rfl, by decide, by decide⟩
set_option maxRecDepth 100000 in
theorem wL_49 : gVw R_law 49 mX12_state 4 := ⟨⟨gT_of 1631 rfl rfl, gT_of 1632 rfl rfl, gT_of 1633 rfl rfl, gT_of 138 rfl rfl, gT_of 1634 rfl rfl⟩, by decide +kernel, by decide +kernel, by decide +kernel⟩
theorem rL_49 : lRoom mX12_state := ⟨rfl, rfl, by decide, by decide⟩
set_option maxRecDepth 100000 in
theorem wL_50 : gVw R_law 50 mX11_cell 4 := ⟨⟨gT_of 921 rfl rfl, gT_of 922 rfl rfl, gT_of 923 rfl rfl, gT_of 126 rfl rfl, gT_of 924 rfl rfl⟩, by decide +kernel, by decide +kernel, by decide +kernel⟩
theorem rL_50 : lRoom mX11_cell := ⟨rfl, rfl, by decide, by decide⟩
set_option maxRecDepth 100000 in
theorem wL_53 : gVw R_law 53 mX12_cell 4 := ⟨⟨gT_of 1643 rfl rfl, gT_of 1644 rfl rfl, gT_of 1645 rfl rfl, gT_of 138 rfl rfl, gT_of 1646 rfl rfl⟩, by decide +kernel, by decide +kernel, by decide +kernel⟩
theorem rL_53 : lRoom mX12_cell := ⟨rfl, rfl, by decide, by decide⟩
set_option maxRecDepth 100000 in
theorem wL_54 : gVw R_law 54 mX11_full 3 := ⟨⟨gT_of 929 rfl rfl, gT_of 930 rfl rfl, gT_of 931 rfl rfl, gT_of 126 rfl rfl, gT_of 932 rfl rfl⟩, by decide +kernel, by decide +kernel, by decide +kernel⟩
theorem rL_54 : lRoom mX11_full := ⟨rfl, rfl, by decide, by decide⟩
set_option maxRecDepth 100000 in
theorem wL_57 : gVw R_law 57 mX12_full 3 := ⟨⟨gT_of 1647 rfl rfl, gT_of 1648 rfl rfl, gT_of 1649 rfl rfl, gT_of 138 rfl rfl, gT_of 1650 rfl rfl⟩, by decide +kernel, by decide +kernel, by decide +kernel⟩
theorem rL_57 : lRoom mX12_full := ⟨rfl, rfl, by decide, by decide⟩
set_option maxRecDepth 100000 in
theorem wL_58 : gVw R_law 58 mX11_rhythm 2 := ⟨⟨gT_of 949 rfl rfl, gT_of 950 rfl rfl, gT_of 951 rfl rfl, gT_of 126 rfl rfl, gT_of 952 rfl rfl⟩, by decide +kernel, by decide +kernel, by decide +kernel⟩
theorem rL_58 : lRoom mX11_rhythm := ⟨rfl, rfl, by decide, by decide⟩
set_option maxRecDepth 100000 in
theorem wL_61 : gVw R_law 61 mX12_rhythm 2 := ⟨⟨gT_of 1655 rfl rfl, gT_of 1656 rfl rfl, gT_of 1657 rfl rfl, gT_of 138 rfl rfl, gT_of 1658 rfl rfl⟩, by decide +kernel, by decide +kernel, by decide +kernel⟩
theorem rL_61 : lRoom mX12_rhythm := ⟨rfl, rfl, by decide, by decide⟩
set_option maxRecDepth 100000 in
theorem wL_62 : gVw R_law 62 mX11_judge 4 := ⟨⟨gT_of 974 rfl rfl, gT_of 975 rfl rfl, gT_of 976 rfl rfl, gT_of 126 rfl rfl, gT_of 977 rfl rfl⟩, by decide +kernel, by decide +kernel, by decide +kernel⟩
theorem rL_62 : lRoom mX11_judge := ⟨rfl, rfl, by decide, by decide⟩
set_option maxRecDepth 100000 in
theorem wL_65 : gVw R_law 65 mX12_judge 4 := ⟨⟨gT_of 1671 rfl rfl, gT_of 1672 rfl rfl, gT_of 1673 rfl rfl, gT_of 138 rfl rfl, gT_of 1674 rfl rfl⟩, by decide +kernel, by decide +kernel, by decide +kernel⟩
theorem rL_65 : lRoom mX12_judge := ⟨rfl, rfl, by decide, by decide⟩
set_option maxRecDepth 100000 in
theorem wL_66 : gVw R_law 66 mX11_mimic 4 := ⟨⟨gT_of 1020 rfl rfl, gT_of 1021 rfl rfl, gT_of 1022 rfl rfl, gT_of 126 rfl rfl, gT_of 1023 rfl rfl⟩, by decide +kernel, by decide +kernel, by decide +kernel⟩
theorem rL_66 : lRoom mX11_mimic := ⟨rfl, rfl, by decide, by decide⟩
set_option maxRecDepth 100000 in
theorem wL_69 : gVw R_law 69 mX12_mimic 4 := ⟨⟨gT_of 1695 rfl rfl, gT_of 1696 rfl rfl, gT_of 1697 rfl rfl, gT_of 138 rfl rfl, gT_of 1698 rfl rfl⟩, by decide +kernel, by decide +kernel, by decide +kernel⟩
theorem rL_69 : lRoom mX12_mimic := ⟨rfl, rfl, by decide, by decide⟩
set_option maxRecDepth 100000 in
theorem wL_70 : gVw R_law 70 mX11_flow 4 := ⟨⟨gT_of 1080 rfl rfl, gT_of 1081 rfl rfl, gT_of 1082 rfl rfl, gT_of 126 rfl rfl, gT_of 1083 rfl rfl⟩, by decide +kernel, by decide +kernel, by decide +kernel⟩
theorem rL_70 : lRoom mX11_flow := ⟨rfl, rfl, by decide, by decide⟩
set_option maxRecDepth 100000 in
theorem wL_73 : gVw R_law 73 mX12_flow 4 := ⟨⟨gT_of 1738 rfl rfl, gT_of 1739 rfl rfl, gT_of 1740 rfl rfl, gT_of 138 rfl rfl, gT_of 1741 rfl rfl⟩, by decide +kernel, by decide +kernel, by decide +kernel⟩
theorem rL_73 : lRoom mX12_flow := ⟨rfl, rfl, by decide, by decide⟩
set_option maxRecDepth 100000 in
theorem wL_74 : gVw R_law 74 mX11_after 3 := ⟨⟨gT_of 1102 rfl rfl, gT_of 1103 rfl rfl, gT_of 1104 rfl rfl, gT_of 126 rfl rfl, gT_of 1105 rfl rfl⟩, by decide +kernel, by decide +kernel, by decide +kernel⟩
theorem rL_74 : lRoom mX11_after := ⟨rfl, rfl, by decide, by decide⟩
set_option maxRecDepth 100000 in
theorem wL_77 : gVw R_law 77 mX12_after 3 := ⟨⟨gT_of 1746 rfl rfl, gT_of 1747 rfl rfl, gT_of 1748 rfl rfl, gT_of 138 rfl rfl, gT_of 1749 rfl rfl⟩, by decide +kernel, by decide +kernel, by decide +kernel⟩
theorem rL_77 : lRoom mX12_after := ⟨rfl, rfl, by decide, by decide⟩
set_option maxRecDepth 100000 in
theorem wL_78 : gVw R_law 78 mX11_fact 3 := ⟨⟨gT_of 1156 rfl rfl, gT_of 1157 rfl rfl, gT_of 1158 rfl rfl, gT_of 126 rfl rfl, gT_of 1159 rfl rfl⟩, by decide +kernel, by decide +kernel, by decide +kernel⟩
theorem rL_78 : lRoom mX11_fact := ⟨rfl, rfl, by decide, by decide⟩
set_option maxRecDepth 100000 in
theorem wL_81 : gVw R_law 81 mX12_fact 3 := ⟨⟨gT_of 1798 rfl rfl, gT_of 1799 rfl rfl, gT_of 1800 rfl rfl, gT_of 138 rfl rfl, gT_of 1801 rfl rfl⟩, by decide +kernel, by decide +kernel, by decide +kernel⟩
theorem rL_81 : lRoom mX12_fact := ⟨rfl, rfl, by decide, by decide⟩
set_option maxRecDepth 100000 in
theorem wL_82 : gVw R_law 82 mX11_fits 4 := ⟨⟨gT_of 1160 rfl rfl, gT_of 1161 rfl rfl, gT_of 1162 rfl rfl, gT_of 126 rfl rfl, gT_of 1163 rfl rfl⟩, by decide +kernel, by decide +kernel, by decide +kernel⟩
theorem rL_82 : lRoom mX11_fits := ⟨rfl, rfl, by decide, by decide⟩
set_option maxRecDepth 100000 in
theorem wL_85 : gVw R_law 85 mX12_fits 4 := ⟨⟨gT_of 1806 rfl rfl, gT_of 1807 rfl rfl, gT_of 1808 rfl rfl, gT_of 138 rfl rfl, gT_of 1809 rfl rfl⟩, by decide +kernel, by decide +kernel, by decide +kernel⟩
theorem rL_85 : lRoom mX12_fits := ⟨rfl, rfl, by decide, by decide⟩
set_option maxRecDepth 100000 in
theorem wL_86 : gVw R_law 86 mX11_drawn 4 := ⟨⟨gT_of 1202 rfl rfl, gT_of 1203 rfl rfl, gT_of 1204 rfl rfl, gT_of 126 rfl rfl, gT_of 1205 rfl rfl⟩, by decide +kernel, by decide +kernel, by decide +kernel⟩
theorem rL_86 : lRoom mX11_drawn := ⟨rfl, rfl, by decide, by decide⟩
set_option maxRecDepth 100000 in
theorem wL_89 : gVw R_law 89 mX12_drawn 4 := ⟨⟨gT_of 1826 rfl rfl, gT_of 1827 rfl rfl, gT_of 1828 rfl rfl, gT_of 138 rfl rfl, gT_of 1829 rfl rfl⟩, by decide +kernel, by decide +kernel, by decide +kernel⟩
theorem rL_89 : lRoom mX12_drawn := ⟨rfl, rfl, by decide, by decide⟩
set_option maxRecDepth 100000 in
theorem wL_90 : gVw R_law 90 mX11_count 1 := ⟨⟨gT_of 1215 rfl rfl, gT_of 1216 rfl rfl, gT_of 1217 rfl rfl, gT_of 126 rfl rfl, gT_of 1218 rfl rfl⟩, by decide +kernel, by decide +kernel, by decide +kernel⟩
theorem rL_90 : lRoom mX11_count := ⟨rfl, rfl, by decide, by decide⟩
set_option maxRecDepth 100000 in
theorem wL_93 : gVw R_law 93 mX12_count 1 := ⟨⟨gT_of 1839 rfl rfl, gT_of 1840 rfl rfl, gT_of 1841 rfl rfl, gT_of 138 rfl rfl, gT_of 1842 rfl rfl⟩, by decide +kernel, by decide +kernel, by decide +kernel⟩
theorem rL_93 : lRoom mX12_count := ⟨rfl, rfl, by decide, by decide⟩
set_option maxRecDepth 100000 in
theorem wL_94 : gVw R_law 94 mX11_image 1 := ⟨⟨gT_of 1219 rfl rfl, gT_of 1220 rfl rfl, gT_of 1221 rfl rfl, gT_of 126 rfl rfl, gT_of 1222 rfl rfl⟩, by decide +kernel, by decide +kernel, by decide +kernel⟩
theorem rL_94 : lRoom mX11_image := ⟨rfl, rfl, by decide, by decide⟩
set_option maxRecDepth 100000 in
theorem wL_98 : gVw R_law 98 mX12_image 1 := ⟨⟨gT_of 1843 rfl rfl, gT_of 1844 rfl rfl, gT_of 1845 rfl rfl, gT_of 138 rfl rfl, gT_of 1846 rfl rfl⟩, by decide +kernel, by decide +kernel, by decide +kernel⟩
theorem rL_98 : lRoom mX12_image := ⟨rfl, rfl, by decide, by decide⟩
set_option maxRecDepth 100000 in
theorem wL_99 : gVw R_law 99 mX11_again 1 := ⟨⟨gT_of 1227 rfl rfl, gT_of 1228 rfl rfl, gT_of 1229 rfl rfl, gT_of 126 rfl rfl, gT_of 1230 rfl rfl⟩, by decide +kernel, by decide +kernel, by decide +kernel⟩
theorem rL_99 : lRoom mX11_again := ⟨rfl, rfl, by decide, by decide⟩
set_option maxRecDepth 100000 in
theorem wL_102 : gVw R_law 102 mX12_again 1 := ⟨⟨gT_of 1847 rfl rfl, gT_of 1848 rfl rfl, gT_of 1849 rfl rfl, gT_of 138 rfl rfl, gT_of 1850 rfl rfl⟩, by decide +kernel, by decide +kernel, by decide +kernel⟩
theorem rL_102 : lRoom mX12_again := ⟨rfl, rfl, by decide, by decide⟩
set_option maxRecDepth 100000 in
theorem jnL_7 : nNew R_law 7 11 [.null, .null, .null, .null, .null, .null, .null, .null, .null, .null] 10 := ⟨RX11, TX11, tyX11, rfl, gin_X11, tyX11_ok, by decide +kernel, gT_of 146 rfl rfl, gT_of 147 rfl rfl, gT_of 126 rfl rfl⟩
set_option maxRecDepth 100000 in
theorem jnL_10 : nNew R_law 10 12 [.null, .null, vI 0, vI 0, vI 0, vI 0, vI 0, vI 0, vI 0, .null, vI 0, vI 0, vI 0, vI 0, vI 0, .null, .null, .null, .null, .null, .null, .null, .null, vI 0, vI 0, vI 0, vI 0, vI 0, vI 0, vI 0, .null, .null, .null, .null, .null, .null, .null, .null, .null, .null, .null, vI 0, vI 0, .null, .null, .null, .null, .null, .null, .null, vI 0, .null, .null, .null, .null, .null, .null, .null, .null, .null, .null, vI 0, .null, .null, vI 0, vI 0, .null, .null, vI 0] 69 := ⟨RX12, TX12, tyX12, rfl, gin_X12, tyX12_ok, by decide +kernel, gT_of 1231 rfl rfl, gT_of 1232 rfl rfl, gT_of 138 rfl rfl⟩
set_option maxRecDepth 100000 in
theorem jmL_9 : nCw R_law 9 mX11_init := ⟨⟨gT_of 148 rfl rfl, gT_of 149 rfl rfl, gT_of 126 rfl rfl, gT_of 150 rfl rfl⟩, rfl, rfl, by decide +kernel, by decide +kernel, by decide +kernel⟩
set_option maxRecDepth 100000 in
theorem jmL_12 : nCw R_law 12 mX12_init := ⟨⟨gT_of 1233 rfl rfl, gT_of 1234 rfl rfl, gT_of 138 rfl rfl, gT_of 1235 rfl rfl⟩, rfl, rfl, by decide +kernel, by decide +kernel, by decide +kernel⟩
