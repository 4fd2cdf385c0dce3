theorem dL_law_0 : decode cL_law 0 = .ok (.new 7, 3) := by decide +kernel
theorem dL_law_3 : decode cL_law 3 = .ok (.dup, 1) := by decide +kernel
theorem dL_law_4 : decode cL_law 4 = .ok (.invokespecial 9, 3) := by decide +kernel
theorem dL_law_7 : decode cL_law 7 = .ok (.astore_n 1, 1) := by decide +kernel
theorem dL_law_8 : decode cL_law 8 = .ok (.new 10, 3) := by decide +kernel
theorem dL_law_11 : decode cL_law 11 = .ok (.dup, 1) := by decide +kernel
theorem dL_law_12 : decode cL_law 12 = .ok (.invokespecial 12, 3) := by decide +kernel
theorem dL_law_15 : decode cL_law 15 = .ok (.astore_n 2, 1) := by decide +kernel
theorem dL_law_16 : decode cL_law 16 = .ok (.iconst 0, 1) := by decide +kernel
theorem dL_law_17 : decode cL_law 17 = .ok (.istore_n 3, 1) := by decide +kernel
theorem dL_law_18 : decode cL_law 18 = .ok (.iload_n 3, 1) := by decide +kernel
theorem dL_law_19 : decode cL_law 19 = .ok (.aload_n 0, 1) := by decide +kernel
theorem dL_law_20 : decode cL_law 20 = .ok (.arraylength, 1) := by decide +kernel
theorem dL_law_21 : decode cL_law 21 = .ok (.bipush 9, 2) := by decide +kernel
theorem dL_law_23 : decode cL_law 23 = .ok (.isub, 1) := by decide +kernel
theorem dL_law_24 : decode cL_law 24 = .ok (.if_icmp .gt 1280, 3) := by decide +kernel
theorem dL_law_27 : decode cL_law 27 = .ok (.aload_n 0, 1) := by decide +kernel
theorem dL_law_28 : decode cL_law 28 = .ok (.iload_n 3, 1) := by decide +kernel
theorem dL_law_29 : decode cL_law 29 = .ok (.iaload, 1) := by decide +kernel
theorem dL_law_30 : decode cL_law 30 = .ok (.bipush 31, 2) := by decide +kernel
theorem dL_law_32 : decode cL_law 32 = .ok (.iand, 1) := by decide +kernel
theorem dL_law_33 : decode cL_law 33 = .ok (.tableswitch 1265 0 27 #[127, 150, 193, 226, 250, 303, 346, 399, 432, 455, 498, 521, 544, 597, 630, 673, 696, 729, 782, 825, 868, 901, 934, 977, 1030, 1145, 1208, 1232], 127) := by decide +kernel
theorem dL_law_160 : decode cL_law 160 = .ok (.aload_n 1, 1) := by decide +kernel
theorem dL_law_161 : decode cL_law 161 = .ok (.aload_n 0, 1) := by decide +kernel
theorem dL_law_162 : decode cL_law 162 = .ok (.iload_n 3, 1) := by decide +kernel
theorem dL_law_163 : decode cL_law 163 = .ok (.iconst 1, 1) := by decide +kernel
theorem dL_law_164 : decode cL_law 164 = .ok (.iadd, 1) := by decide +kernel
theorem dL_law_165 : decode cL_law 165 = .ok (.iaload, 1) := by decide +kernel
theorem dL_law_166 : decode cL_law 166 = .ok (.invokevirtual 13, 3) := by decide +kernel
theorem dL_law_169 : decode cL_law 169 = .ok (.aload_n 2, 1) := by decide +kernel
theorem dL_law_170 : decode cL_law 170 = .ok (.aload_n 0, 1) := by decide +kernel
theorem dL_law_171 : decode cL_law 171 = .ok (.iload_n 3, 1) := by decide +kernel
theorem dL_law_172 : decode cL_law 172 = .ok (.iconst 1, 1) := by decide +kernel
theorem dL_law_173 : decode cL_law 173 = .ok (.iadd, 1) := by decide +kernel
theorem dL_law_174 : decode cL_law 174 = .ok (.iaload, 1) := by decide +kernel
theorem dL_law_175 : decode cL_law 175 = .ok (.invokevirtual 17, 3) := by decide +kernel
theorem dL_law_178 : decode cL_law 178 = .ok (.if_icmp .eq 1120, 3) := by decide +kernel
theorem dL_law_181 : decode cL_law 181 = .ok (.iconst 0, 1) := by decide +kernel
theorem dL_law_182 : decode cL_law 182 = .ok (.ireturn, 1) := by decide +kernel
theorem dL_law_183 : decode cL_law 183 = .ok (.aload_n 1, 1) := by decide +kernel
theorem dL_law_184 : decode cL_law 184 = .ok (.aload_n 0, 1) := by decide +kernel
theorem dL_law_185 : decode cL_law 185 = .ok (.iload_n 3, 1) := by decide +kernel
theorem dL_law_186 : decode cL_law 186 = .ok (.iconst 1, 1) := by decide +kernel
theorem dL_law_187 : decode cL_law 187 = .ok (.iadd, 1) := by decide +kernel
theorem dL_law_188 : decode cL_law 188 = .ok (.iaload, 1) := by decide +kernel
theorem dL_law_189 : decode cL_law 189 = .ok (.aload_n 0, 1) := by decide +kernel
theorem dL_law_190 : decode cL_law 190 = .ok (.iload_n 3, 1) := by decide +kernel
theorem dL_law_191 : decode cL_law 191 = .ok (.iconst 2, 1) := by decide +kernel
theorem dL_law_192 : decode cL_law 192 = .ok (.iadd, 1) := by decide +kernel
theorem dL_law_193 : decode cL_law 193 = .ok (.iaload, 1) := by decide +kernel
theorem dL_law_194 : decode cL_law 194 = .ok (.aload_n 0, 1) := by decide +kernel
theorem dL_law_195 : decode cL_law 195 = .ok (.iload_n 3, 1) := by decide +kernel
theorem dL_law_196 : decode cL_law 196 = .ok (.iconst 3, 1) := by decide +kernel
theorem dL_law_197 : decode cL_law 197 = .ok (.iadd, 1) := by decide +kernel
theorem dL_law_198 : decode cL_law 198 = .ok (.iaload, 1) := by decide +kernel
theorem dL_law_199 : decode cL_law 199 = .ok (.invokevirtual 18, 3) := by decide +kernel
theorem dL_law_202 : decode cL_law 202 = .ok (.aload_n 2, 1) := by decide +kernel
theorem dL_law_203 : decode cL_law 203 = .ok (.aload_n 0, 1) := by decide +kernel
theorem dL_law_204 : decode cL_law 204 = .ok (.iload_n 3, 1) := by decide +kernel
theorem dL_law_205 : decode cL_law 205 = .ok (.iconst 1, 1) := by decide +kernel
theorem dL_law_206 : decode cL_law 206 = .ok (.iadd, 1) := by decide +kernel
theorem dL_law_207 : decode cL_law 207 = .ok (.iaload, 1) := by decide +kernel
theorem dL_law_208 : decode cL_law 208 = .ok (.aload_n 0, 1) := by decide +kernel
theorem dL_law_209 : decode cL_law 209 = .ok (.iload_n 3, 1) := by decide +kernel
theorem dL_law_210 : decode cL_law 210 = .ok (.iconst 2, 1) := by decide +kernel
theorem dL_law_211 : decode cL_law 211 = .ok (.iadd, 1) := by decide +kernel
theorem dL_law_212 : decode cL_law 212 = .ok (.iaload, 1) := by decide +kernel
theorem dL_law_213 : decode cL_law 213 = .ok (.aload_n 0, 1) := by decide +kernel
theorem dL_law_214 : decode cL_law 214 = .ok (.iload_n 3, 1) := by decide +kernel
theorem dL_law_215 : decode cL_law 215 = .ok (.iconst 3, 1) := by decide +kernel
theorem dL_law_216 : decode cL_law 216 = .ok (.iadd, 1) := by decide +kernel
theorem dL_law_217 : decode cL_law 217 = .ok (.iaload, 1) := by decide +kernel
theorem dL_law_218 : decode cL_law 218 = .ok (.invokevirtual 22, 3) := by decide +kernel
theorem dL_law_221 : decode cL_law 221 = .ok (.if_icmp .eq 1077, 3) := by decide +kernel
theorem dL_law_224 : decode cL_law 224 = .ok (.iconst 0, 1) := by decide +kernel
theorem dL_law_225 : decode cL_law 225 = .ok (.ireturn, 1) := by decide +kernel
theorem dL_law_226 : decode cL_law 226 = .ok (.aload_n 1, 1) := by decide +kernel
theorem dL_law_227 : decode cL_law 227 = .ok (.aload_n 0, 1) := by decide +kernel
theorem dL_law_228 : decode cL_law 228 = .ok (.iload_n 3, 1) := by decide +kernel
theorem dL_law_229 : decode cL_law 229 = .ok (.iconst 1, 1) := by decide +kernel
theorem dL_law_230 : decode cL_law 230 = .ok (.iadd, 1) := by decide +kernel
theorem dL_law_231 : decode cL_law 231 = .ok (.iaload, 1) := by decide +kernel
theorem dL_law_232 : decode cL_law 232 = .ok (.aload_n 0, 1) := by decide +kernel
theorem dL_law_233 : decode cL_law 233 = .ok (.iload_n 3, 1) := by decide +kernel
theorem dL_law_234 : decode cL_law 234 = .ok (.iconst 2, 1) := by decide +kernel
theorem dL_law_235 : decode cL_law 235 = .ok (.iadd, 1) := by decide +kernel
theorem dL_law_236 : decode cL_law 236 = .ok (.iaload, 1) := by decide +kernel
theorem dL_law_237 : decode cL_law 237 = .ok (.invokevirtual 23, 3) := by decide +kernel
theorem dL_law_240 : decode cL_law 240 = .ok (.aload_n 2, 1) := by decide +kernel
theorem dL_law_241 : decode cL_law 241 = .ok (.aload_n 0, 1) := by decide +kernel
theorem dL_law_242 : decode cL_law 242 = .ok (.iload_n 3, 1) := by decide +kernel
theorem dL_law_243 : decode cL_law 243 = .ok (.iconst 1, 1) := by decide +kernel
theorem dL_law_244 : decode cL_law 244 = .ok (.iadd, 1) := by decide +kernel
theorem dL_law_245 : decode cL_law 245 = .ok (.iaload, 1) := by decide +kernel
theorem dL_law_246 : decode cL_law 246 = .ok (.aload_n 0, 1) := by decide +kernel
theorem dL_law_247 : decode cL_law 247 = .ok (.iload_n 3, 1) := by decide +kernel
theorem dL_law_248 : decode cL_law 248 = .ok (.iconst 2, 1) := by decide +kernel
theorem dL_law_249 : decode cL_law 249 = .ok (.iadd, 1) := by decide +kernel
theorem dL_law_250 : decode cL_law 250 = .ok (.iaload, 1) := by decide +kernel
theorem dL_law_251 : decode cL_law 251 = .ok (.invokevirtual 27, 3) := by decide +kernel
theorem dL_law_254 : decode cL_law 254 = .ok (.if_icmp .eq 1044, 3) := by decide +kernel
theorem dL_law_257 : decode cL_law 257 = .ok (.iconst 0, 1) := by decide +kernel
theorem dL_law_258 : decode cL_law 258 = .ok (.ireturn, 1) := by decide +kernel
theorem dL_law_259 : decode cL_law 259 = .ok (.aload_n 1, 1) := by decide +kernel
theorem dL_law_260 : decode cL_law 260 = .ok (.aload_n 0, 1) := by decide +kernel
theorem dL_law_261 : decode cL_law 261 = .ok (.iload_n 3, 1) := by decide +kernel
theorem dL_law_262 : decode cL_law 262 = .ok (.iconst 1, 1) := by decide +kernel
theorem dL_law_263 : decode cL_law 263 = .ok (.iadd, 1) := by decide +kernel
theorem dL_law_264 : decode cL_law 264 = .ok (.iaload, 1) := by decide +kernel
theorem dL_law_265 : decode cL_law 265 = .ok (.invokevirtual 28, 3) := by decide +kernel
theorem dL_law_268 : decode cL_law 268 = .ok (.aload_n 2, 1) := by decide +kernel
theorem dL_law_269 : decode cL_law 269 = .ok (.aload_n 0, 1) := by decide +kernel
theorem dL_law_270 : decode cL_law 270 = .ok (.iload_n 3, 1) := by decide +kernel
theorem dL_law_271 : decode cL_law 271 = .ok (.iconst 1, 1) := by decide +kernel
theorem dL_law_272 : decode cL_law 272 = .ok (.iadd, 1) := by decide +kernel
theorem dL_law_273 : decode cL_law 273 = .ok (.iaload, 1) := by decide +kernel
theorem dL_law_274 : decode cL_law 274 = .ok (.invokevirtual 32, 3) := by decide +kernel
theorem dL_law_277 : decode cL_law 277 = .ok (.lcmp, 1) := by decide +kernel
theorem dL_law_278 : decode cL_law 278 = .ok (.ifCond .eq 1020, 3) := by decide +kernel
theorem dL_law_281 : decode cL_law 281 = .ok (.iconst 0, 1) := by decide +kernel
theorem dL_law_282 : decode cL_law 282 = .ok (.ireturn, 1) := by decide +kernel
theorem dL_law_283 : decode cL_law 283 = .ok (.aload_n 1, 1) := by decide +kernel
theorem dL_law_284 : decode cL_law 284 = .ok (.aload_n 0, 1) := by decide +kernel
theorem dL_law_285 : decode cL_law 285 = .ok (.iload_n 3, 1) := by decide +kernel
theorem dL_law_286 : decode cL_law 286 = .ok (.iconst 1, 1) := by decide +kernel
theorem dL_law_287 : decode cL_law 287 = .ok (.iadd, 1) := by decide +kernel
theorem dL_law_288 : decode cL_law 288 = .ok (.iaload, 1) := by decide +kernel
theorem dL_law_289 : decode cL_law 289 = .ok (.aload_n 0, 1) := by decide +kernel
theorem dL_law_290 : decode cL_law 290 = .ok (.iload_n 3, 1) := by decide +kernel
theorem dL_law_291 : decode cL_law 291 = .ok (.iconst 2, 1) := by decide +kernel
theorem dL_law_292 : decode cL_law 292 = .ok (.iadd, 1) := by decide +kernel
theorem dL_law_293 : decode cL_law 293 = .ok (.iaload, 1) := by decide +kernel
theorem dL_law_294 : decode cL_law 294 = .ok (.aload_n 0, 1) := by decide +kernel
theorem dL_law_295 : decode cL_law 295 = .ok (.iload_n 3, 1) := by decide +kernel
theorem dL_law_296 : decode cL_law 296 = .ok (.iconst 3, 1) := by decide +kernel
theorem dL_law_297 : decode cL_law 297 = .ok (.iadd, 1) := by decide +kernel
theorem dL_law_298 : decode cL_law 298 = .ok (.iaload, 1) := by decide +kernel
theorem dL_law_299 : decode cL_law 299 = .ok (.aload_n 0, 1) := by decide +kernel
theorem dL_law_300 : decode cL_law 300 = .ok (.iload_n 3, 1) := by decide +kernel
theorem dL_law_301 : decode cL_law 301 = .ok (.iconst 4, 1) := by decide +kernel
theorem dL_law_302 : decode cL_law 302 = .ok (.iadd, 1) := by decide +kernel
theorem dL_law_303 : decode cL_law 303 = .ok (.iaload, 1) := by decide +kernel
theorem dL_law_304 : decode cL_law 304 = .ok (.invokevirtual 33, 3) := by decide +kernel
theorem dL_law_307 : decode cL_law 307 = .ok (.aload_n 2, 1) := by decide +kernel
theorem dL_law_308 : decode cL_law 308 = .ok (.aload_n 0, 1) := by decide +kernel
theorem dL_law_309 : decode cL_law 309 = .ok (.iload_n 3, 1) := by decide +kernel
theorem dL_law_310 : decode cL_law 310 = .ok (.iconst 1, 1) := by decide +kernel
theorem dL_law_311 : decode cL_law 311 = .ok (.iadd, 1) := by decide +kernel
theorem dL_law_312 : decode cL_law 312 = .ok (.iaload, 1) := by decide +kernel
theorem dL_law_313 : decode cL_law 313 = .ok (.aload_n 0, 1) := by decide +kernel
theorem dL_law_314 : decode cL_law 314 = .ok (.iload_n 3, 1) := by decide +kernel
theorem dL_law_315 : decode cL_law 315 = .ok (.iconst 2, 1) := by decide +kernel
theorem dL_law_316 : decode cL_law 316 = .ok (.iadd, 1) := by decide +kernel
theorem dL_law_317 : decode cL_law 317 = .ok (.iaload, 1) := by decide +kernel
theorem dL_law_318 : decode cL_law 318 = .ok (.aload_n 0, 1) := by decide +kernel
theorem dL_law_319 : decode cL_law 319 = .ok (.iload_n 3, 1) := by decide +kernel
theorem dL_law_320 : decode cL_law 320 = .ok (.iconst 3, 1) := by decide +kernel
theorem dL_law_321 : decode cL_law 321 = .ok (.iadd, 1) := by decide +kernel
theorem dL_law_322 : decode cL_law 322 = .ok (.iaload, 1) := by decide +kernel
theorem dL_law_323 : decode cL_law 323 = .ok (.aload_n 0, 1) := by decide +kernel
theorem dL_law_324 : decode cL_law 324 = .ok (.iload_n 3, 1) := by decide +kernel
theorem dL_law_325 : decode cL_law 325 = .ok (.iconst 4, 1) := by decide +kernel
theorem dL_law_326 : decode cL_law 326 = .ok (.iadd, 1) := by decide +kernel
theorem dL_law_327 : decode cL_law 327 = .ok (.iaload, 1) := by decide +kernel
theorem dL_law_328 : decode cL_law 328 = .ok (.invokevirtual 37, 3) := by decide +kernel
theorem dL_law_331 : decode cL_law 331 = .ok (.if_icmp .eq 967, 3) := by decide +kernel
theorem dL_law_334 : decode cL_law 334 = .ok (.iconst 0, 1) := by decide +kernel
theorem dL_law_335 : decode cL_law 335 = .ok (.ireturn, 1) := by decide +kernel
theorem dL_law_336 : decode cL_law 336 = .ok (.aload_n 1, 1) := by decide +kernel
theorem dL_law_337 : decode cL_law 337 = .ok (.aload_n 0, 1) := by decide +kernel
theorem dL_law_338 : decode cL_law 338 = .ok (.iload_n 3, 1) := by decide +kernel
theorem dL_law_339 : decode cL_law 339 = .ok (.iconst 1, 1) := by decide +kernel
theorem dL_law_340 : decode cL_law 340 = .ok (.iadd, 1) := by decide +kernel
theorem dL_law_341 : decode cL_law 341 = .ok (.iaload, 1) := by decide +kernel
theorem dL_law_342 : decode cL_law 342 = .ok (.aload_n 0, 1) := by decide +kernel
theorem dL_law_343 : decode cL_law 343 = .ok (.iload_n 3, 1) := by decide +kernel
theorem dL_law_344 : decode cL_law 344 = .ok (.iconst 2, 1) := by decide +kernel
theorem dL_law_345 : decode cL_law 345 = .ok (.iadd, 1) := by decide +kernel
theorem dL_law_346 : decode cL_law 346 = .ok (.iaload, 1) := by decide +kernel
theorem dL_law_347 : decode cL_law 347 = .ok (.aload_n 0, 1) := by decide +kernel
theorem dL_law_348 : decode cL_law 348 = .ok (.iload_n 3, 1) := by decide +kernel
theorem dL_law_349 : decode cL_law 349 = .ok (.iconst 3, 1) := by decide +kernel
theorem dL_law_350 : decode cL_law 350 = .ok (.iadd, 1) := by decide +kernel
theorem dL_law_351 : decode cL_law 351 = .ok (.iaload, 1) := by decide +kernel
theorem dL_law_352 : decode cL_law 352 = .ok (.invokevirtual 38, 3) := by decide +kernel
theorem dL_law_355 : decode cL_law 355 = .ok (.aload_n 2, 1) := by decide +kernel
theorem dL_law_356 : decode cL_law 356 = .ok (.aload_n 0, 1) := by decide +kernel
theorem dL_law_357 : decode cL_law 357 = .ok (.iload_n 3, 1) := by decide +kernel
theorem dL_law_358 : decode cL_law 358 = .ok (.iconst 1, 1) := by decide +kernel
theorem dL_law_359 : decode cL_law 359 = .ok (.iadd, 1) := by decide +kernel
theorem dL_law_360 : decode cL_law 360 = .ok (.iaload, 1) := by decide +kernel
theorem dL_law_361 : decode cL_law 361 = .ok (.aload_n 0, 1) := by decide +kernel
theorem dL_law_362 : decode cL_law 362 = .ok (.iload_n 3, 1) := by decide +kernel
theorem dL_law_363 : decode cL_law 363 = .ok (.iconst 2, 1) := by decide +kernel
theorem dL_law_364 : decode cL_law 364 = .ok (.iadd, 1) := by decide +kernel
theorem dL_law_365 : decode cL_law 365 = .ok (.iaload, 1) := by decide +kernel
theorem dL_law_366 : decode cL_law 366 = .ok (.aload_n 0, 1) := by decide +kernel
theorem dL_law_367 : decode cL_law 367 = .ok (.iload_n 3, 1) := by decide +kernel
theorem dL_law_368 : decode cL_law 368 = .ok (.iconst 3, 1) := by decide +kernel
theorem dL_law_369 : decode cL_law 369 = .ok (.iadd, 1) := by decide +kernel
theorem dL_law_370 : decode cL_law 370 = .ok (.iaload, 1) := by decide +kernel
theorem dL_law_371 : decode cL_law 371 = .ok (.invokevirtual 41, 3) := by decide +kernel
theorem dL_law_374 : decode cL_law 374 = .ok (.if_icmp .eq 924, 3) := by decide +kernel
theorem dL_law_377 : decode cL_law 377 = .ok (.iconst 0, 1) := by decide +kernel
theorem dL_law_378 : decode cL_law 378 = .ok (.ireturn, 1) := by decide +kernel
theorem dL_law_379 : decode cL_law 379 = .ok (.aload_n 1, 1) := by decide +kernel
theorem dL_law_380 : decode cL_law 380 = .ok (.aload_n 0, 1) := by decide +kernel
theorem dL_law_381 : decode cL_law 381 = .ok (.iload_n 3, 1) := by decide +kernel
theorem dL_law_382 : decode cL_law 382 = .ok (.iconst 1, 1) := by decide +kernel
theorem dL_law_383 : decode cL_law 383 = .ok (.iadd, 1) := by decide +kernel
theorem dL_law_384 : decode cL_law 384 = .ok (.iaload, 1) := by decide +kernel
theorem dL_law_385 : decode cL_law 385 = .ok (.aload_n 0, 1) := by decide +kernel
theorem dL_law_386 : decode cL_law 386 = .ok (.iload_n 3, 1) := by decide +kernel
theorem dL_law_387 : decode cL_law 387 = .ok (.iconst 2, 1) := by decide +kernel
theorem dL_law_388 : decode cL_law 388 = .ok (.iadd, 1) := by decide +kernel
theorem dL_law_389 : decode cL_law 389 = .ok (.iaload, 1) := by decide +kernel
theorem dL_law_390 : decode cL_law 390 = .ok (.aload_n 0, 1) := by decide +kernel
theorem dL_law_391 : decode cL_law 391 = .ok (.iload_n 3, 1) := by decide +kernel
theorem dL_law_392 : decode cL_law 392 = .ok (.iconst 3, 1) := by decide +kernel
theorem dL_law_393 : decode cL_law 393 = .ok (.iadd, 1) := by decide +kernel
theorem dL_law_394 : decode cL_law 394 = .ok (.iaload, 1) := by decide +kernel
theorem dL_law_395 : decode cL_law 395 = .ok (.aload_n 0, 1) := by decide +kernel
theorem dL_law_396 : decode cL_law 396 = .ok (.iload_n 3, 1) := by decide +kernel
theorem dL_law_397 : decode cL_law 397 = .ok (.iconst 4, 1) := by decide +kernel
theorem dL_law_398 : decode cL_law 398 = .ok (.iadd, 1) := by decide +kernel
theorem dL_law_399 : decode cL_law 399 = .ok (.iaload, 1) := by decide +kernel
theorem dL_law_400 : decode cL_law 400 = .ok (.invokevirtual 42, 3) := by decide +kernel
theorem dL_law_403 : decode cL_law 403 = .ok (.aload_n 2, 1) := by decide +kernel
theorem dL_law_404 : decode cL_law 404 = .ok (.aload_n 0, 1) := by decide +kernel
theorem dL_law_405 : decode cL_law 405 = .ok (.iload_n 3, 1) := by decide +kernel
theorem dL_law_406 : decode cL_law 406 = .ok (.iconst 1, 1) := by decide +kernel
theorem dL_law_407 : decode cL_law 407 = .ok (.iadd, 1) := by decide +kernel
theorem dL_law_408 : decode cL_law 408 = .ok (.iaload, 1) := by decide +kernel
theorem dL_law_409 : decode cL_law 409 = .ok (.aload_n 0, 1) := by decide +kernel
theorem dL_law_410 : decode cL_law 410 = .ok (.iload_n 3, 1) := by decide +kernel
theorem dL_law_411 : decode cL_law 411 = .ok (.iconst 2, 1) := by decide +kernel
theorem dL_law_412 : decode cL_law 412 = .ok (.iadd, 1) := by decide +kernel
theorem dL_law_413 : decode cL_law 413 = .ok (.iaload, 1) := by decide +kernel
theorem dL_law_414 : decode cL_law 414 = .ok (.aload_n 0, 1) := by decide +kernel
theorem dL_law_415 : decode cL_law 415 = .ok (.iload_n 3, 1) := by decide +kernel
theorem dL_law_416 : decode cL_law 416 = .ok (.iconst 3, 1) := by decide +kernel
theorem dL_law_417 : decode cL_law 417 = .ok (.iadd, 1) := by decide +kernel
theorem dL_law_418 : decode cL_law 418 = .ok (.iaload, 1) := by decide +kernel
theorem dL_law_419 : decode cL_law 419 = .ok (.aload_n 0, 1) := by decide +kernel
theorem dL_law_420 : decode cL_law 420 = .ok (.iload_n 3, 1) := by decide +kernel
theorem dL_law_421 : decode cL_law 421 = .ok (.iconst 4, 1) := by decide +kernel
theorem dL_law_422 : decode cL_law 422 = .ok (.iadd, 1) := by decide +kernel
theorem dL_law_423 : decode cL_law 423 = .ok (.iaload, 1) := by decide +kernel
theorem dL_law_424 : decode cL_law 424 = .ok (.invokevirtual 45, 3) := by decide +kernel
theorem dL_law_427 : decode cL_law 427 = .ok (.if_icmp .eq 871, 3) := by decide +kernel
theorem dL_law_430 : decode cL_law 430 = .ok (.iconst 0, 1) := by decide +kernel
theorem dL_law_431 : decode cL_law 431 = .ok (.ireturn, 1) := by decide +kernel
theorem dL_law_432 : decode cL_law 432 = .ok (.aload_n 1, 1) := by decide +kernel
theorem dL_law_433 : decode cL_law 433 = .ok (.aload_n 0, 1) := by decide +kernel
theorem dL_law_434 : decode cL_law 434 = .ok (.iload_n 3, 1) := by decide +kernel
theorem dL_law_435 : decode cL_law 435 = .ok (.iconst 1, 1) := by decide +kernel
theorem dL_law_436 : decode cL_law 436 = .ok (.iadd, 1) := by decide +kernel
theorem dL_law_437 : decode cL_law 437 = .ok (.iaload, 1) := by decide +kernel
theorem dL_law_438 : decode cL_law 438 = .ok (.aload_n 0, 1) := by decide +kernel
theorem dL_law_439 : decode cL_law 439 = .ok (.iload_n 3, 1) := by decide +kernel
theorem dL_law_440 : decode cL_law 440 = .ok (.iconst 2, 1) := by decide +kernel
theorem dL_law_441 : decode cL_law 441 = .ok (.iadd, 1) := by decide +kernel
theorem dL_law_442 : decode cL_law 442 = .ok (.iaload, 1) := by decide +kernel
theorem dL_law_443 : decode cL_law 443 = .ok (.invokevirtual 46, 3) := by decide +kernel
theorem dL_law_446 : decode cL_law 446 = .ok (.aload_n 2, 1) := by decide +kernel
theorem dL_law_447 : decode cL_law 447 = .ok (.aload_n 0, 1) := by decide +kernel
theorem dL_law_448 : decode cL_law 448 = .ok (.iload_n 3, 1) := by decide +kernel
theorem dL_law_449 : decode cL_law 449 = .ok (.iconst 1, 1) := by decide +kernel
theorem dL_law_450 : decode cL_law 450 = .ok (.iadd, 1) := by decide +kernel
theorem dL_law_451 : decode cL_law 451 = .ok (.iaload, 1) := by decide +kernel
theorem dL_law_452 : decode cL_law 452 = .ok (.aload_n 0, 1) := by decide +kernel
theorem dL_law_453 : decode cL_law 453 = .ok (.iload_n 3, 1) := by decide +kernel
theorem dL_law_454 : decode cL_law 454 = .ok (.iconst 2, 1) := by decide +kernel
theorem dL_law_455 : decode cL_law 455 = .ok (.iadd, 1) := by decide +kernel
theorem dL_law_456 : decode cL_law 456 = .ok (.iaload, 1) := by decide +kernel
theorem dL_law_457 : decode cL_law 457 = .ok (.invokevirtual 49, 3) := by decide +kernel
theorem dL_law_460 : decode cL_law 460 = .ok (.if_icmp .eq 838, 3) := by decide +kernel
theorem dL_law_463 : decode cL_law 463 = .ok (.iconst 0, 1) := by decide +kernel
theorem dL_law_464 : decode cL_law 464 = .ok (.ireturn, 1) := by decide +kernel
theorem dL_law_465 : decode cL_law 465 = .ok (.aload_n 1, 1) := by decide +kernel
theorem dL_law_466 : decode cL_law 466 = .ok (.aload_n 0, 1) := by decide +kernel
theorem dL_law_467 : decode cL_law 467 = .ok (.iload_n 3, 1) := by decide +kernel
theorem dL_law_468 : decode cL_law 468 = .ok (.iconst 1, 1) := by decide +kernel
theorem dL_law_469 : decode cL_law 469 = .ok (.iadd, 1) := by decide +kernel
theorem dL_law_470 : decode cL_law 470 = .ok (.iaload, 1) := by decide +kernel
theorem dL_law_471 : decode cL_law 471 = .ok (.invokevirtual 50, 3) := by decide +kernel
theorem dL_law_474 : decode cL_law 474 = .ok (.aload_n 2, 1) := by decide +kernel
theorem dL_law_475 : decode cL_law 475 = .ok (.aload_n 0, 1) := by decide +kernel
theorem dL_law_476 : decode cL_law 476 = .ok (.iload_n 3, 1) := by decide +kernel
theorem dL_law_477 : decode cL_law 477 = .ok (.iconst 1, 1) := by decide +kernel
theorem dL_law_478 : decode cL_law 478 = .ok (.iadd, 1) := by decide +kernel
theorem dL_law_479 : decode cL_law 479 = .ok (.iaload, 1) := by decide +kernel
theorem dL_law_480 : decode cL_law 480 = .ok (.invokevirtual 53, 3) := by decide +kernel
theorem dL_law_483 : decode cL_law 483 = .ok (.if_icmp .eq 815, 3) := by decide +kernel
theorem dL_law_486 : decode cL_law 486 = .ok (.iconst 0, 1) := by decide +kernel
theorem dL_law_487 : decode cL_law 487 = .ok (.ireturn, 1) := by decide +kernel
theorem dL_law_488 : decode cL_law 488 = .ok (.aload_n 1, 1) := by decide +kernel
theorem dL_law_489 : decode cL_law 489 = .ok (.aload_n 0, 1) := by decide +kernel
theorem dL_law_490 : decode cL_law 490 = .ok (.iload_n 3, 1) := by decide +kernel
theorem dL_law_491 : decode cL_law 491 = .ok (.iconst 1, 1) := by decide +kernel
theorem dL_law_492 : decode cL_law 492 = .ok (.iadd, 1) := by decide +kernel
theorem dL_law_493 : decode cL_law 493 = .ok (.iaload, 1) := by decide +kernel
theorem dL_law_494 : decode cL_law 494 = .ok (.aload_n 0, 1) := by decide +kernel
theorem dL_law_495 : decode cL_law 495 = .ok (.iload_n 3, 1) := by decide +kernel
theorem dL_law_496 : decode cL_law 496 = .ok (.iconst 2, 1) := by decide +kernel
theorem dL_law_497 : decode cL_law 497 = .ok (.iadd, 1) := by decide +kernel
theorem dL_law_498 : decode cL_law 498 = .ok (.iaload, 1) := by decide +kernel
theorem dL_law_499 : decode cL_law 499 = .ok (.aload_n 0, 1) := by decide +kernel
theorem dL_law_500 : decode cL_law 500 = .ok (.iload_n 3, 1) := by decide +kernel
theorem dL_law_501 : decode cL_law 501 = .ok (.iconst 3, 1) := by decide +kernel
theorem dL_law_502 : decode cL_law 502 = .ok (.iadd, 1) := by decide +kernel
theorem dL_law_503 : decode cL_law 503 = .ok (.iaload, 1) := by decide +kernel
theorem dL_law_504 : decode cL_law 504 = .ok (.invokevirtual 54, 3) := by decide +kernel
theorem dL_law_507 : decode cL_law 507 = .ok (.aload_n 2, 1) := by decide +kernel
theorem dL_law_508 : decode cL_law 508 = .ok (.aload_n 0, 1) := by decide +kernel
theorem dL_law_509 : decode cL_law 509 = .ok (.iload_n 3, 1) := by decide +kernel
theorem dL_law_510 : decode cL_law 510 = .ok (.iconst 1, 1) := by decide +kernel
theorem dL_law_511 : decode cL_law 511 = .ok (.iadd, 1) := by decide +kernel
theorem dL_law_512 : decode cL_law 512 = .ok (.iaload, 1) := by decide +kernel
theorem dL_law_513 : decode cL_law 513 = .ok (.aload_n 0, 1) := by decide +kernel
theorem dL_law_514 : decode cL_law 514 = .ok (.iload_n 3, 1) := by decide +kernel
theorem dL_law_515 : decode cL_law 515 = .ok (.iconst 2, 1) := by decide +kernel
theorem dL_law_516 : decode cL_law 516 = .ok (.iadd, 1) := by decide +kernel
theorem dL_law_517 : decode cL_law 517 = .ok (.iaload, 1) := by decide +kernel
theorem dL_law_518 : decode cL_law 518 = .ok (.aload_n 0, 1) := by decide +kernel
theorem dL_law_519 : decode cL_law 519 = .ok (.iload_n 3, 1) := by decide +kernel
theorem dL_law_520 : decode cL_law 520 = .ok (.iconst 3, 1) := by decide +kernel
theorem dL_law_521 : decode cL_law 521 = .ok (.iadd, 1) := by decide +kernel
theorem dL_law_522 : decode cL_law 522 = .ok (.iaload, 1) := by decide +kernel
theorem dL_law_523 : decode cL_law 523 = .ok (.invokevirtual 57, 3) := by decide +kernel
theorem dL_law_526 : decode cL_law 526 = .ok (.if_icmp .eq 772, 3) := by decide +kernel
theorem dL_law_529 : decode cL_law 529 = .ok (.iconst 0, 1) := by decide +kernel
theorem dL_law_530 : decode cL_law 530 = .ok (.ireturn, 1) := by decide +kernel
theorem dL_law_531 : decode cL_law 531 = .ok (.aload_n 1, 1) := by decide +kernel
theorem dL_law_532 : decode cL_law 532 = .ok (.aload_n 0, 1) := by decide +kernel
theorem dL_law_533 : decode cL_law 533 = .ok (.iload_n 3, 1) := by decide +kernel
theorem dL_law_534 : decode cL_law 534 = .ok (.iconst 1, 1) := by decide +kernel
theorem dL_law_535 : decode cL_law 535 = .ok (.iadd, 1) := by decide +kernel
theorem dL_law_536 : decode cL_law 536 = .ok (.iaload, 1) := by decide +kernel
theorem dL_law_537 : decode cL_law 537 = .ok (.invokevirtual 58, 3) := by decide +kernel
theorem dL_law_540 : decode cL_law 540 = .ok (.aload_n 2, 1) := by decide +kernel
theorem dL_law_541 : decode cL_law 541 = .ok (.aload_n 0, 1) := by decide +kernel
theorem dL_law_542 : decode cL_law 542 = .ok (.iload_n 3, 1) := by decide +kernel
theorem dL_law_543 : decode cL_law 543 = .ok (.iconst 1, 1) := by decide +kernel
theorem dL_law_544 : decode cL_law 544 = .ok (.iadd, 1) := by decide +kernel
theorem dL_law_545 : decode cL_law 545 = .ok (.iaload, 1) := by decide +kernel
theorem dL_law_546 : decode cL_law 546 = .ok (.invokevirtual 61, 3) := by decide +kernel
theorem dL_law_549 : decode cL_law 549 = .ok (.if_icmp .eq 749, 3) := by decide +kernel
theorem dL_law_552 : decode cL_law 552 = .ok (.iconst 0, 1) := by decide +kernel
theorem dL_law_553 : decode cL_law 553 = .ok (.ireturn, 1) := by decide +kernel
theorem dL_law_554 : decode cL_law 554 = .ok (.aload_n 1, 1) := by decide +kernel
theorem dL_law_555 : decode cL_law 555 = .ok (.aload_n 0, 1) := by decide +kernel
theorem dL_law_556 : decode cL_law 556 = .ok (.iload_n 3, 1) := by decide +kernel
theorem dL_law_557 : decode cL_law 557 = .ok (.iconst 1, 1) := by decide +kernel
theorem dL_law_558 : decode cL_law 558 = .ok (.iadd, 1) := by decide +kernel
theorem dL_law_559 : decode cL_law 559 = .ok (.iaload, 1) := by decide +kernel
theorem dL_law_560 : decode cL_law 560 = .ok (.invokevirtual 62, 3) := by decide +kernel
theorem dL_law_563 : decode cL_law 563 = .ok (.aload_n 2, 1) := by decide +kernel
theorem dL_law_564 : decode cL_law 564 = .ok (.aload_n 0, 1) := by decide +kernel
theorem dL_law_565 : decode cL_law 565 = .ok (.iload_n 3, 1) := by decide +kernel
theorem dL_law_566 : decode cL_law 566 = .ok (.iconst 1, 1) := by decide +kernel
theorem dL_law_567 : decode cL_law 567 = .ok (.iadd, 1) := by decide +kernel
theorem dL_law_568 : decode cL_law 568 = .ok (.iaload, 1) := by decide +kernel
theorem dL_law_569 : decode cL_law 569 = .ok (.invokevirtual 65, 3) := by decide +kernel
theorem dL_law_572 : decode cL_law 572 = .ok (.if_icmp .eq 726, 3) := by decide +kernel
theorem dL_law_575 : decode cL_law 575 = .ok (.iconst 0, 1) := by decide +kernel
theorem dL_law_576 : decode cL_law 576 = .ok (.ireturn, 1) := by decide +kernel
theorem dL_law_577 : decode cL_law 577 = .ok (.aload_n 1, 1) := by decide +kernel
theorem dL_law_578 : decode cL_law 578 = .ok (.aload_n 0, 1) := by decide +kernel
theorem dL_law_579 : decode cL_law 579 = .ok (.iload_n 3, 1) := by decide +kernel
theorem dL_law_580 : decode cL_law 580 = .ok (.iconst 1, 1) := by decide +kernel
theorem dL_law_581 : decode cL_law 581 = .ok (.iadd, 1) := by decide +kernel
theorem dL_law_582 : decode cL_law 582 = .ok (.iaload, 1) := by decide +kernel
theorem dL_law_583 : decode cL_law 583 = .ok (.aload_n 0, 1) := by decide +kernel
theorem dL_law_584 : decode cL_law 584 = .ok (.iload_n 3, 1) := by decide +kernel
theorem dL_law_585 : decode cL_law 585 = .ok (.iconst 2, 1) := by decide +kernel
theorem dL_law_586 : decode cL_law 586 = .ok (.iadd, 1) := by decide +kernel
theorem dL_law_587 : decode cL_law 587 = .ok (.iaload, 1) := by decide +kernel
theorem dL_law_588 : decode cL_law 588 = .ok (.aload_n 0, 1) := by decide +kernel
theorem dL_law_589 : decode cL_law 589 = .ok (.iload_n 3, 1) := by decide +kernel
theorem dL_law_590 : decode cL_law 590 = .ok (.iconst 3, 1) := by decide +kernel
theorem dL_law_591 : decode cL_law 591 = .ok (.iadd, 1) := by decide +kernel
theorem dL_law_592 : decode cL_law 592 = .ok (.iaload, 1) := by decide +kernel
theorem dL_law_593 : decode cL_law 593 = .ok (.aload_n 0, 1) := by decide +kernel
theorem dL_law_594 : decode cL_law 594 = .ok (.iload_n 3, 1) := by decide +kernel
theorem dL_law_595 : decode cL_law 595 = .ok (.iconst 4, 1) := by decide +kernel
theorem dL_law_596 : decode cL_law 596 = .ok (.iadd, 1) := by decide +kernel
theorem dL_law_597 : decode cL_law 597 = .ok (.iaload, 1) := by decide +kernel
theorem dL_law_598 : decode cL_law 598 = .ok (.invokevirtual 66, 3) := by decide +kernel
theorem dL_law_601 : decode cL_law 601 = .ok (.aload_n 2, 1) := by decide +kernel
theorem dL_law_602 : decode cL_law 602 = .ok (.aload_n 0, 1) := by decide +kernel
theorem dL_law_603 : decode cL_law 603 = .ok (.iload_n 3, 1) := by decide +kernel
theorem dL_law_604 : decode cL_law 604 = .ok (.iconst 1, 1) := by decide +kernel
theorem dL_law_605 : decode cL_law 605 = .ok (.iadd, 1) := by decide +kernel
theorem dL_law_606 : decode cL_law 606 = .ok (.iaload, 1) := by decide +kernel
theorem dL_law_607 : decode cL_law 607 = .ok (.aload_n 0, 1) := by decide +kernel
theorem dL_law_608 : decode cL_law 608 = .ok (.iload_n 3, 1) := by decide +kernel
theorem dL_law_609 : decode cL_law 609 = .ok (.iconst 2, 1) := by decide +kernel
theorem dL_law_610 : decode cL_law 610 = .ok (.iadd, 1) := by decide +kernel
theorem dL_law_611 : decode cL_law 611 = .ok (.iaload, 1) := by decide +kernel
theorem dL_law_612 : decode cL_law 612 = .ok (.aload_n 0, 1) := by decide +kernel
theorem dL_law_613 : decode cL_law 613 = .ok (.iload_n 3, 1) := by decide +kernel
theorem dL_law_614 : decode cL_law 614 = .ok (.iconst 3, 1) := by decide +kernel
theorem dL_law_615 : decode cL_law 615 = .ok (.iadd, 1) := by decide +kernel
theorem dL_law_616 : decode cL_law 616 = .ok (.iaload, 1) := by decide +kernel
theorem dL_law_617 : decode cL_law 617 = .ok (.aload_n 0, 1) := by decide +kernel
theorem dL_law_618 : decode cL_law 618 = .ok (.iload_n 3, 1) := by decide +kernel
theorem dL_law_619 : decode cL_law 619 = .ok (.iconst 4, 1) := by decide +kernel
theorem dL_law_620 : decode cL_law 620 = .ok (.iadd, 1) := by decide +kernel
theorem dL_law_621 : decode cL_law 621 = .ok (.iaload, 1) := by decide +kernel
theorem dL_law_622 : decode cL_law 622 = .ok (.invokevirtual 69, 3) := by decide +kernel
theorem dL_law_625 : decode cL_law 625 = .ok (.if_icmp .eq 673, 3) := by decide +kernel
theorem dL_law_628 : decode cL_law 628 = .ok (.iconst 0, 1) := by decide +kernel
theorem dL_law_629 : decode cL_law 629 = .ok (.ireturn, 1) := by decide +kernel
theorem dL_law_630 : decode cL_law 630 = .ok (.aload_n 1, 1) := by decide +kernel
theorem dL_law_631 : decode cL_law 631 = .ok (.aload_n 0, 1) := by decide +kernel
theorem dL_law_632 : decode cL_law 632 = .ok (.iload_n 3, 1) := by decide +kernel
theorem dL_law_633 : decode cL_law 633 = .ok (.iconst 1, 1) := by decide +kernel
theorem dL_law_634 : decode cL_law 634 = .ok (.iadd, 1) := by decide +kernel
theorem dL_law_635 : decode cL_law 635 = .ok (.iaload, 1) := by decide +kernel
theorem dL_law_636 : decode cL_law 636 = .ok (.aload_n 0, 1) := by decide +kernel
theorem dL_law_637 : decode cL_law 637 = .ok (.iload_n 3, 1) := by decide +kernel
theorem dL_law_638 : decode cL_law 638 = .ok (.iconst 2, 1) := by decide +kernel
theorem dL_law_639 : decode cL_law 639 = .ok (.iadd, 1) := by decide +kernel
theorem dL_law_640 : decode cL_law 640 = .ok (.iaload, 1) := by decide +kernel
theorem dL_law_641 : decode cL_law 641 = .ok (.invokevirtual 70, 3) := by decide +kernel
theorem dL_law_644 : decode cL_law 644 = .ok (.aload_n 2, 1) := by decide +kernel
theorem dL_law_645 : decode cL_law 645 = .ok (.aload_n 0, 1) := by decide +kernel
theorem dL_law_646 : decode cL_law 646 = .ok (.iload_n 3, 1) := by decide +kernel
theorem dL_law_647 : decode cL_law 647 = .ok (.iconst 1, 1) := by decide +kernel
theorem dL_law_648 : decode cL_law 648 = .ok (.iadd, 1) := by decide +kernel
theorem dL_law_649 : decode cL_law 649 = .ok (.iaload, 1) := by decide +kernel
theorem dL_law_650 : decode cL_law 650 = .ok (.aload_n 0, 1) := by decide +kernel
theorem dL_law_651 : decode cL_law 651 = .ok (.iload_n 3, 1) := by decide +kernel
theorem dL_law_652 : decode cL_law 652 = .ok (.iconst 2, 1) := by decide +kernel
theorem dL_law_653 : decode cL_law 653 = .ok (.iadd, 1) := by decide +kernel
theorem dL_law_654 : decode cL_law 654 = .ok (.iaload, 1) := by decide +kernel
theorem dL_law_655 : decode cL_law 655 = .ok (.invokevirtual 73, 3) := by decide +kernel
theorem dL_law_658 : decode cL_law 658 = .ok (.if_icmp .eq 640, 3) := by decide +kernel
theorem dL_law_661 : decode cL_law 661 = .ok (.iconst 0, 1) := by decide +kernel
theorem dL_law_662 : decode cL_law 662 = .ok (.ireturn, 1) := by decide +kernel
theorem dL_law_663 : decode cL_law 663 = .ok (.aload_n 1, 1) := by decide +kernel
theorem dL_law_664 : decode cL_law 664 = .ok (.aload_n 0, 1) := by decide +kernel
theorem dL_law_665 : decode cL_law 665 = .ok (.iload_n 3, 1) := by decide +kernel
theorem dL_law_666 : decode cL_law 666 = .ok (.iconst 1, 1) := by decide +kernel
theorem dL_law_667 : decode cL_law 667 = .ok (.iadd, 1) := by decide +kernel
theorem dL_law_668 : decode cL_law 668 = .ok (.iaload, 1) := by decide +kernel
theorem dL_law_669 : decode cL_law 669 = .ok (.aload_n 0, 1) := by decide +kernel
theorem dL_law_670 : decode cL_law 670 = .ok (.iload_n 3, 1) := by decide +kernel
theorem dL_law_671 : decode cL_law 671 = .ok (.iconst 2, 1) := by decide +kernel
theorem dL_law_672 : decode cL_law 672 = .ok (.iadd, 1) := by decide +kernel
theorem dL_law_673 : decode cL_law 673 = .ok (.iaload, 1) := by decide +kernel
theorem dL_law_674 : decode cL_law 674 = .ok (.aload_n 0, 1) := by decide +kernel
theorem dL_law_675 : decode cL_law 675 = .ok (.iload_n 3, 1) := by decide +kernel
theorem dL_law_676 : decode cL_law 676 = .ok (.iconst 3, 1) := by decide +kernel
theorem dL_law_677 : decode cL_law 677 = .ok (.iadd, 1) := by decide +kernel
theorem dL_law_678 : decode cL_law 678 = .ok (.iaload, 1) := by decide +kernel
theorem dL_law_679 : decode cL_law 679 = .ok (.invokevirtual 74, 3) := by decide +kernel
theorem dL_law_682 : decode cL_law 682 = .ok (.aload_n 2, 1) := by decide +kernel
theorem dL_law_683 : decode cL_law 683 = .ok (.aload_n 0, 1) := by decide +kernel
theorem dL_law_684 : decode cL_law 684 = .ok (.iload_n 3, 1) := by decide +kernel
theorem dL_law_685 : decode cL_law 685 = .ok (.iconst 1, 1) := by decide +kernel
theorem dL_law_686 : decode cL_law 686 = .ok (.iadd, 1) := by decide +kernel
theorem dL_law_687 : decode cL_law 687 = .ok (.iaload, 1) := by decide +kernel
theorem dL_law_688 : decode cL_law 688 = .ok (.aload_n 0, 1) := by decide +kernel
theorem dL_law_689 : decode cL_law 689 = .ok (.iload_n 3, 1) := by decide +kernel
theorem dL_law_690 : decode cL_law 690 = .ok (.iconst 2, 1) := by decide +kernel
theorem dL_law_691 : decode cL_law 691 = .ok (.iadd, 1) := by decide +kernel
theorem dL_law_692 : decode cL_law 692 = .ok (.iaload, 1) := by decide +kernel
theorem dL_law_693 : decode cL_law 693 = .ok (.aload_n 0, 1) := by decide +kernel
theorem dL_law_694 : decode cL_law 694 = .ok (.iload_n 3, 1) := by decide +kernel
theorem dL_law_695 : decode cL_law 695 = .ok (.iconst 3, 1) := by decide +kernel
theorem dL_law_696 : decode cL_law 696 = .ok (.iadd, 1) := by decide +kernel
theorem dL_law_697 : decode cL_law 697 = .ok (.iaload, 1) := by decide +kernel
theorem dL_law_698 : decode cL_law 698 = .ok (.invokevirtual 77, 3) := by decide +kernel
theorem dL_law_701 : decode cL_law 701 = .ok (.if_icmp .eq 597, 3) := by decide +kernel
theorem dL_law_704 : decode cL_law 704 = .ok (.iconst 0, 1) := by decide +kernel
theorem dL_law_705 : decode cL_law 705 = .ok (.ireturn, 1) := by decide +kernel
theorem dL_law_706 : decode cL_law 706 = .ok (.aload_n 1, 1) := by decide +kernel
theorem dL_law_707 : decode cL_law 707 = .ok (.aload_n 0, 1) := by decide +kernel
theorem dL_law_708 : decode cL_law 708 = .ok (.iload_n 3, 1) := by decide +kernel
theorem dL_law_709 : decode cL_law 709 = .ok (.iconst 1, 1) := by decide +kernel
theorem dL_law_710 : decode cL_law 710 = .ok (.iadd, 1) := by decide +kernel
theorem dL_law_711 : decode cL_law 711 = .ok (.iaload, 1) := by decide +kernel
theorem dL_law_712 : decode cL_law 712 = .ok (.invokevirtual 78, 3) := by decide +kernel
theorem dL_law_715 : decode cL_law 715 = .ok (.aload_n 2, 1) := by decide +kernel
theorem dL_law_716 : decode cL_law 716 = .ok (.aload_n 0, 1) := by decide +kernel
theorem dL_law_717 : decode cL_law 717 = .ok (.iload_n 3, 1) := by decide +kernel
theorem dL_law_718 : decode cL_law 718 = .ok (.iconst 1, 1) := by decide +kernel
theorem dL_law_719 : decode cL_law 719 = .ok (.iadd, 1) := by decide +kernel
theorem dL_law_720 : decode cL_law 720 = .ok (.iaload, 1) := by decide +kernel
theorem dL_law_721 : decode cL_law 721 = .ok (.invokevirtual 81, 3) := by decide +kernel
theorem dL_law_724 : decode cL_law 724 = .ok (.if_icmp .eq 574, 3) := by decide +kernel
theorem dL_law_727 : decode cL_law 727 = .ok (.iconst 0, 1) := by decide +kernel
theorem dL_law_728 : decode cL_law 728 = .ok (.ireturn, 1) := by decide +kernel
theorem dL_law_729 : decode cL_law 729 = .ok (.aload_n 1, 1) := by decide +kernel
theorem dL_law_730 : decode cL_law 730 = .ok (.aload_n 0, 1) := by decide +kernel
theorem dL_law_731 : decode cL_law 731 = .ok (.iload_n 3, 1) := by decide +kernel
theorem dL_law_732 : decode cL_law 732 = .ok (.iconst 1, 1) := by decide +kernel
theorem dL_law_733 : decode cL_law 733 = .ok (.iadd, 1) := by decide +kernel
theorem dL_law_734 : decode cL_law 734 = .ok (.iaload, 1) := by decide +kernel
theorem dL_law_735 : decode cL_law 735 = .ok (.aload_n 0, 1) := by decide +kernel
theorem dL_law_736 : decode cL_law 736 = .ok (.iload_n 3, 1) := by decide +kernel
theorem dL_law_737 : decode cL_law 737 = .ok (.iconst 2, 1) := by decide +kernel
theorem dL_law_738 : decode cL_law 738 = .ok (.iadd, 1) := by decide +kernel
theorem dL_law_739 : decode cL_law 739 = .ok (.iaload, 1) := by decide +kernel
theorem dL_law_740 : decode cL_law 740 = .ok (.invokevirtual 82, 3) := by decide +kernel
theorem dL_law_743 : decode cL_law 743 = .ok (.aload_n 2, 1) := by decide +kernel
theorem dL_law_744 : decode cL_law 744 = .ok (.aload_n 0, 1) := by decide +kernel
theorem dL_law_745 : decode cL_law 745 = .ok (.iload_n 3, 1) := by decide +kernel
theorem dL_law_746 : decode cL_law 746 = .ok (.iconst 1, 1) := by decide +kernel
theorem dL_law_747 : decode cL_law 747 = .ok (.iadd, 1) := by decide +kernel
theorem dL_law_748 : decode cL_law 748 = .ok (.iaload, 1) := by decide +kernel
theorem dL_law_749 : decode cL_law 749 = .ok (.aload_n 0, 1) := by decide +kernel
theorem dL_law_750 : decode cL_law 750 = .ok (.iload_n 3, 1) := by decide +kernel
theorem dL_law_751 : decode cL_law 751 = .ok (.iconst 2, 1) := by decide +kernel
theorem dL_law_752 : decode cL_law 752 = .ok (.iadd, 1) := by decide +kernel
theorem dL_law_753 : decode cL_law 753 = .ok (.iaload, 1) := by decide +kernel
theorem dL_law_754 : decode cL_law 754 = .ok (.invokevirtual 85, 3) := by decide +kernel
theorem dL_law_757 : decode cL_law 757 = .ok (.if_icmp .eq 541, 3) := by decide +kernel
theorem dL_law_760 : decode cL_law 760 = .ok (.iconst 0, 1) := by decide +kernel
theorem dL_law_761 : decode cL_law 761 = .ok (.ireturn, 1) := by decide +kernel
theorem dL_law_762 : decode cL_law 762 = .ok (.aload_n 1, 1) := by decide +kernel
theorem dL_law_763 : decode cL_law 763 = .ok (.aload_n 0, 1) := by decide +kernel
theorem dL_law_764 : decode cL_law 764 = .ok (.iload_n 3, 1) := by decide +kernel
theorem dL_law_765 : decode cL_law 765 = .ok (.iconst 1, 1) := by decide +kernel
theorem dL_law_766 : decode cL_law 766 = .ok (.iadd, 1) := by decide +kernel
theorem dL_law_767 : decode cL_law 767 = .ok (.iaload, 1) := by decide +kernel
theorem dL_law_768 : decode cL_law 768 = .ok (.aload_n 0, 1) := by decide +kernel
theorem dL_law_769 : decode cL_law 769 = .ok (.iload_n 3, 1) := by decide +kernel
theorem dL_law_770 : decode cL_law 770 = .ok (.iconst 2, 1) := by decide +kernel
theorem dL_law_771 : decode cL_law 771 = .ok (.iadd, 1) := by decide +kernel
theorem dL_law_772 : decode cL_law 772 = .ok (.iaload, 1) := by decide +kernel
theorem dL_law_773 : decode cL_law 773 = .ok (.aload_n 0, 1) := by decide +kernel
theorem dL_law_774 : decode cL_law 774 = .ok (.iload_n 3, 1) := by decide +kernel
theorem dL_law_775 : decode cL_law 775 = .ok (.iconst 3, 1) := by decide +kernel
theorem dL_law_776 : decode cL_law 776 = .ok (.iadd, 1) := by decide +kernel
theorem dL_law_777 : decode cL_law 777 = .ok (.iaload, 1) := by decide +kernel
theorem dL_law_778 : decode cL_law 778 = .ok (.aload_n 0, 1) := by decide +kernel
theorem dL_law_779 : decode cL_law 779 = .ok (.iload_n 3, 1) := by decide +kernel
theorem dL_law_780 : decode cL_law 780 = .ok (.iconst 4, 1) := by decide +kernel
theorem dL_law_781 : decode cL_law 781 = .ok (.iadd, 1) := by decide +kernel
theorem dL_law_782 : decode cL_law 782 = .ok (.iaload, 1) := by decide +kernel
theorem dL_law_783 : decode cL_law 783 = .ok (.invokevirtual 86, 3) := by decide +kernel
theorem dL_law_786 : decode cL_law 786 = .ok (.aload_n 2, 1) := by decide +kernel
theorem dL_law_787 : decode cL_law 787 = .ok (.aload_n 0, 1) := by decide +kernel
theorem dL_law_788 : decode cL_law 788 = .ok (.iload_n 3, 1) := by decide +kernel
theorem dL_law_789 : decode cL_law 789 = .ok (.iconst 1, 1) := by decide +kernel
theorem dL_law_790 : decode cL_law 790 = .ok (.iadd, 1) := by decide +kernel
theorem dL_law_791 : decode cL_law 791 = .ok (.iaload, 1) := by decide +kernel
theorem dL_law_792 : decode cL_law 792 = .ok (.aload_n 0, 1) := by decide +kernel
theorem dL_law_793 : decode cL_law 793 = .ok (.iload_n 3, 1) := by decide +kernel
theorem dL_law_794 : decode cL_law 794 = .ok (.iconst 2, 1) := by decide +kernel
theorem dL_law_795 : decode cL_law 795 = .ok (.iadd, 1) := by decide +kernel
theorem dL_law_796 : decode cL_law 796 = .ok (.iaload, 1) := by decide +kernel
theorem dL_law_797 : decode cL_law 797 = .ok (.aload_n 0, 1) := by decide +kernel
theorem dL_law_798 : decode cL_law 798 = .ok (.iload_n 3, 1) := by decide +kernel
theorem dL_law_799 : decode cL_law 799 = .ok (.iconst 3, 1) := by decide +kernel
theorem dL_law_800 : decode cL_law 800 = .ok (.iadd, 1) := by decide +kernel
theorem dL_law_801 : decode cL_law 801 = .ok (.iaload, 1) := by decide +kernel
theorem dL_law_802 : decode cL_law 802 = .ok (.aload_n 0, 1) := by decide +kernel
theorem dL_law_803 : decode cL_law 803 = .ok (.iload_n 3, 1) := by decide +kernel
theorem dL_law_804 : decode cL_law 804 = .ok (.iconst 4, 1) := by decide +kernel
theorem dL_law_805 : decode cL_law 805 = .ok (.iadd, 1) := by decide +kernel
theorem dL_law_806 : decode cL_law 806 = .ok (.iaload, 1) := by decide +kernel
theorem dL_law_807 : decode cL_law 807 = .ok (.invokevirtual 89, 3) := by decide +kernel
theorem dL_law_810 : decode cL_law 810 = .ok (.if_icmp .eq 488, 3) := by decide +kernel
theorem dL_law_813 : decode cL_law 813 = .ok (.iconst 0, 1) := by decide +kernel
theorem dL_law_814 : decode cL_law 814 = .ok (.ireturn, 1) := by decide +kernel
theorem dL_law_815 : decode cL_law 815 = .ok (.aload_n 1, 1) := by decide +kernel
theorem dL_law_816 : decode cL_law 816 = .ok (.aload_n 0, 1) := by decide +kernel
theorem dL_law_817 : decode cL_law 817 = .ok (.iload_n 3, 1) := by decide +kernel
theorem dL_law_818 : decode cL_law 818 = .ok (.iconst 1, 1) := by decide +kernel
theorem dL_law_819 : decode cL_law 819 = .ok (.iadd, 1) := by decide +kernel
theorem dL_law_820 : decode cL_law 820 = .ok (.iaload, 1) := by decide +kernel
theorem dL_law_821 : decode cL_law 821 = .ok (.aload_n 0, 1) := by decide +kernel
theorem dL_law_822 : decode cL_law 822 = .ok (.iload_n 3, 1) := by decide +kernel
theorem dL_law_823 : decode cL_law 823 = .ok (.iconst 2, 1) := by decide +kernel
theorem dL_law_824 : decode cL_law 824 = .ok (.iadd, 1) := by decide +kernel
theorem dL_law_825 : decode cL_law 825 = .ok (.iaload, 1) := by decide +kernel
theorem dL_law_826 : decode cL_law 826 = .ok (.aload_n 0, 1) := by decide +kernel
theorem dL_law_827 : decode cL_law 827 = .ok (.iload_n 3, 1) := by decide +kernel
theorem dL_law_828 : decode cL_law 828 = .ok (.iconst 3, 1) := by decide +kernel
theorem dL_law_829 : decode cL_law 829 = .ok (.iadd, 1) := by decide +kernel
theorem dL_law_830 : decode cL_law 830 = .ok (.iaload, 1) := by decide +kernel
theorem dL_law_831 : decode cL_law 831 = .ok (.invokevirtual 90, 3) := by decide +kernel
theorem dL_law_834 : decode cL_law 834 = .ok (.aload_n 2, 1) := by decide +kernel
theorem dL_law_835 : decode cL_law 835 = .ok (.aload_n 0, 1) := by decide +kernel
theorem dL_law_836 : decode cL_law 836 = .ok (.iload_n 3, 1) := by decide +kernel
theorem dL_law_837 : decode cL_law 837 = .ok (.iconst 1, 1) := by decide +kernel
theorem dL_law_838 : decode cL_law 838 = .ok (.iadd, 1) := by decide +kernel
theorem dL_law_839 : decode cL_law 839 = .ok (.iaload, 1) := by decide +kernel
theorem dL_law_840 : decode cL_law 840 = .ok (.aload_n 0, 1) := by decide +kernel
theorem dL_law_841 : decode cL_law 841 = .ok (.iload_n 3, 1) := by decide +kernel
theorem dL_law_842 : decode cL_law 842 = .ok (.iconst 2, 1) := by decide +kernel
theorem dL_law_843 : decode cL_law 843 = .ok (.iadd, 1) := by decide +kernel
theorem dL_law_844 : decode cL_law 844 = .ok (.iaload, 1) := by decide +kernel
theorem dL_law_845 : decode cL_law 845 = .ok (.aload_n 0, 1) := by decide +kernel
theorem dL_law_846 : decode cL_law 846 = .ok (.iload_n 3, 1) := by decide +kernel
theorem dL_law_847 : decode cL_law 847 = .ok (.iconst 3, 1) := by decide +kernel
theorem dL_law_848 : decode cL_law 848 = .ok (.iadd, 1) := by decide +kernel
theorem dL_law_849 : decode cL_law 849 = .ok (.iaload, 1) := by decide +kernel
theorem dL_law_850 : decode cL_law 850 = .ok (.invokevirtual 93, 3) := by decide +kernel
theorem dL_law_853 : decode cL_law 853 = .ok (.if_icmp .eq 445, 3) := by decide +kernel
theorem dL_law_856 : decode cL_law 856 = .ok (.iconst 0, 1) := by decide +kernel
theorem dL_law_857 : decode cL_law 857 = .ok (.ireturn, 1) := by decide +kernel
theorem dL_law_858 : decode cL_law 858 = .ok (.aload_n 1, 1) := by decide +kernel
theorem dL_law_859 : decode cL_law 859 = .ok (.aload_n 0, 1) := by decide +kernel
theorem dL_law_860 : decode cL_law 860 = .ok (.iload_n 3, 1) := by decide +kernel
theorem dL_law_861 : decode cL_law 861 = .ok (.iconst 1, 1) := by decide +kernel
theorem dL_law_862 : decode cL_law 862 = .ok (.iadd, 1) := by decide +kernel
theorem dL_law_863 : decode cL_law 863 = .ok (.iaload, 1) := by decide +kernel
theorem dL_law_864 : decode cL_law 864 = .ok (.aload_n 0, 1) := by decide +kernel
theorem dL_law_865 : decode cL_law 865 = .ok (.iload_n 3, 1) := by decide +kernel
theorem dL_law_866 : decode cL_law 866 = .ok (.iconst 2, 1) := by decide +kernel
theorem dL_law_867 : decode cL_law 867 = .ok (.iadd, 1) := by decide +kernel
theorem dL_law_868 : decode cL_law 868 = .ok (.iaload, 1) := by decide +kernel
theorem dL_law_869 : decode cL_law 869 = .ok (.aload_n 0, 1) := by decide +kernel
theorem dL_law_870 : decode cL_law 870 = .ok (.iload_n 3, 1) := by decide +kernel
theorem dL_law_871 : decode cL_law 871 = .ok (.iconst 3, 1) := by decide +kernel
theorem dL_law_872 : decode cL_law 872 = .ok (.iadd, 1) := by decide +kernel
theorem dL_law_873 : decode cL_law 873 = .ok (.iaload, 1) := by decide +kernel
theorem dL_law_874 : decode cL_law 874 = .ok (.invokevirtual 94, 3) := by decide +kernel
theorem dL_law_877 : decode cL_law 877 = .ok (.aload_n 2, 1) := by decide +kernel
theorem dL_law_878 : decode cL_law 878 = .ok (.aload_n 0, 1) := by decide +kernel
theorem dL_law_879 : decode cL_law 879 = .ok (.iload_n 3, 1) := by decide +kernel
theorem dL_law_880 : decode cL_law 880 = .ok (.iconst 1, 1) := by decide +kernel
theorem dL_law_881 : decode cL_law 881 = .ok (.iadd, 1) := by decide +kernel
theorem dL_law_882 : decode cL_law 882 = .ok (.iaload, 1) := by decide +kernel
theorem dL_law_883 : decode cL_law 883 = .ok (.aload_n 0, 1) := by decide +kernel
theorem dL_law_884 : decode cL_law 884 = .ok (.iload_n 3, 1) := by decide +kernel
theorem dL_law_885 : decode cL_law 885 = .ok (.iconst 2, 1) := by decide +kernel
theorem dL_law_886 : decode cL_law 886 = .ok (.iadd, 1) := by decide +kernel
theorem dL_law_887 : decode cL_law 887 = .ok (.iaload, 1) := by decide +kernel
theorem dL_law_888 : decode cL_law 888 = .ok (.aload_n 0, 1) := by decide +kernel
theorem dL_law_889 : decode cL_law 889 = .ok (.iload_n 3, 1) := by decide +kernel
theorem dL_law_890 : decode cL_law 890 = .ok (.iconst 3, 1) := by decide +kernel
theorem dL_law_891 : decode cL_law 891 = .ok (.iadd, 1) := by decide +kernel
theorem dL_law_892 : decode cL_law 892 = .ok (.iaload, 1) := by decide +kernel
theorem dL_law_893 : decode cL_law 893 = .ok (.invokevirtual 97, 3) := by decide +kernel
theorem dL_law_896 : decode cL_law 896 = .ok (.if_icmp .eq 402, 3) := by decide +kernel
theorem dL_law_899 : decode cL_law 899 = .ok (.iconst 0, 1) := by decide +kernel
theorem dL_law_900 : decode cL_law 900 = .ok (.ireturn, 1) := by decide +kernel
theorem dL_law_901 : decode cL_law 901 = .ok (.aload_n 1, 1) := by decide +kernel
theorem dL_law_902 : decode cL_law 902 = .ok (.aload_n 0, 1) := by decide +kernel
theorem dL_law_903 : decode cL_law 903 = .ok (.iload_n 3, 1) := by decide +kernel
theorem dL_law_904 : decode cL_law 904 = .ok (.iconst 1, 1) := by decide +kernel
theorem dL_law_905 : decode cL_law 905 = .ok (.iadd, 1) := by decide +kernel
theorem dL_law_906 : decode cL_law 906 = .ok (.iaload, 1) := by decide +kernel
theorem dL_law_907 : decode cL_law 907 = .ok (.aload_n 0, 1) := by decide +kernel
theorem dL_law_908 : decode cL_law 908 = .ok (.iload_n 3, 1) := by decide +kernel
theorem dL_law_909 : decode cL_law 909 = .ok (.iconst 2, 1) := by decide +kernel
theorem dL_law_910 : decode cL_law 910 = .ok (.iadd, 1) := by decide +kernel
theorem dL_law_911 : decode cL_law 911 = .ok (.iaload, 1) := by decide +kernel
theorem dL_law_912 : decode cL_law 912 = .ok (.invokevirtual 98, 3) := by decide +kernel
theorem dL_law_915 : decode cL_law 915 = .ok (.aload_n 2, 1) := by decide +kernel
theorem dL_law_916 : decode cL_law 916 = .ok (.aload_n 0, 1) := by decide +kernel
theorem dL_law_917 : decode cL_law 917 = .ok (.iload_n 3, 1) := by decide +kernel
theorem dL_law_918 : decode cL_law 918 = .ok (.iconst 1, 1) := by decide +kernel
theorem dL_law_919 : decode cL_law 919 = .ok (.iadd, 1) := by decide +kernel
theorem dL_law_920 : decode cL_law 920 = .ok (.iaload, 1) := by decide +kernel
theorem dL_law_921 : decode cL_law 921 = .ok (.aload_n 0, 1) := by decide +kernel
theorem dL_law_922 : decode cL_law 922 = .ok (.iload_n 3, 1) := by decide +kernel
theorem dL_law_923 : decode cL_law 923 = .ok (.iconst 2, 1) := by decide +kernel
theorem dL_law_924 : decode cL_law 924 = .ok (.iadd, 1) := by decide +kernel
theorem dL_law_925 : decode cL_law 925 = .ok (.iaload, 1) := by decide +kernel
theorem dL_law_926 : decode cL_law 926 = .ok (.invokevirtual 101, 3) := by decide +kernel
theorem dL_law_929 : decode cL_law 929 = .ok (.if_icmp .eq 369, 3) := by decide +kernel
theorem dL_law_932 : decode cL_law 932 = .ok (.iconst 0, 1) := by decide +kernel
theorem dL_law_933 : decode cL_law 933 = .ok (.ireturn, 1) := by decide +kernel
theorem dL_law_934 : decode cL_law 934 = .ok (.aload_n 1, 1) := by decide +kernel
theorem dL_law_935 : decode cL_law 935 = .ok (.aload_n 0, 1) := by decide +kernel
theorem dL_law_936 : decode cL_law 936 = .ok (.iload_n 3, 1) := by decide +kernel
theorem dL_law_937 : decode cL_law 937 = .ok (.iconst 1, 1) := by decide +kernel
theorem dL_law_938 : decode cL_law 938 = .ok (.iadd, 1) := by decide +kernel
theorem dL_law_939 : decode cL_law 939 = .ok (.iaload, 1) := by decide +kernel
theorem dL_law_940 : decode cL_law 940 = .ok (.aload_n 0, 1) := by decide +kernel
theorem dL_law_941 : decode cL_law 941 = .ok (.iload_n 3, 1) := by decide +kernel
theorem dL_law_942 : decode cL_law 942 = .ok (.iconst 2, 1) := by decide +kernel
theorem dL_law_943 : decode cL_law 943 = .ok (.iadd, 1) := by decide +kernel
theorem dL_law_944 : decode cL_law 944 = .ok (.iaload, 1) := by decide +kernel
theorem dL_law_945 : decode cL_law 945 = .ok (.invokevirtual 102, 3) := by decide +kernel
theorem dL_law_948 : decode cL_law 948 = .ok (.aload_n 2, 1) := by decide +kernel
theorem dL_law_949 : decode cL_law 949 = .ok (.aload_n 0, 1) := by decide +kernel
theorem dL_law_950 : decode cL_law 950 = .ok (.iload_n 3, 1) := by decide +kernel
theorem dL_law_951 : decode cL_law 951 = .ok (.iconst 1, 1) := by decide +kernel
theorem dL_law_952 : decode cL_law 952 = .ok (.iadd, 1) := by decide +kernel
theorem dL_law_953 : decode cL_law 953 = .ok (.iaload, 1) := by decide +kernel
theorem dL_law_954 : decode cL_law 954 = .ok (.aload_n 0, 1) := by decide +kernel
theorem dL_law_955 : decode cL_law 955 = .ok (.iload_n 3, 1) := by decide +kernel
theorem dL_law_956 : decode cL_law 956 = .ok (.iconst 2, 1) := by decide +kernel
theorem dL_law_957 : decode cL_law 957 = .ok (.iadd, 1) := by decide +kernel
theorem dL_law_958 : decode cL_law 958 = .ok (.iaload, 1) := by decide +kernel
theorem dL_law_959 : decode cL_law 959 = .ok (.invokevirtual 105, 3) := by decide +kernel
theorem dL_law_962 : decode cL_law 962 = .ok (.if_icmp .eq 336, 3) := by decide +kernel
theorem dL_law_965 : decode cL_law 965 = .ok (.iconst 0, 1) := by decide +kernel
theorem dL_law_966 : decode cL_law 966 = .ok (.ireturn, 1) := by decide +kernel
theorem dL_law_967 : decode cL_law 967 = .ok (.aload_n 1, 1) := by decide +kernel
theorem dL_law_968 : decode cL_law 968 = .ok (.aload_n 0, 1) := by decide +kernel
theorem dL_law_969 : decode cL_law 969 = .ok (.iload_n 3, 1) := by decide +kernel
theorem dL_law_970 : decode cL_law 970 = .ok (.iconst 1, 1) := by decide +kernel
theorem dL_law_971 : decode cL_law 971 = .ok (.iadd, 1) := by decide +kernel
theorem dL_law_972 : decode cL_law 972 = .ok (.iaload, 1) := by decide +kernel
theorem dL_law_973 : decode cL_law 973 = .ok (.aload_n 0, 1) := by decide +kernel
theorem dL_law_974 : decode cL_law 974 = .ok (.iload_n 3, 1) := by decide +kernel
theorem dL_law_975 : decode cL_law 975 = .ok (.iconst 2, 1) := by decide +kernel
theorem dL_law_976 : decode cL_law 976 = .ok (.iadd, 1) := by decide +kernel
theorem dL_law_977 : decode cL_law 977 = .ok (.iaload, 1) := by decide +kernel
theorem dL_law_978 : decode cL_law 978 = .ok (.aload_n 0, 1) := by decide +kernel
theorem dL_law_979 : decode cL_law 979 = .ok (.iload_n 3, 1) := by decide +kernel
theorem dL_law_980 : decode cL_law 980 = .ok (.iconst 3, 1) := by decide +kernel
theorem dL_law_981 : decode cL_law 981 = .ok (.iadd, 1) := by decide +kernel
theorem dL_law_982 : decode cL_law 982 = .ok (.iaload, 1) := by decide +kernel
theorem dL_law_983 : decode cL_law 983 = .ok (.invokevirtual 106, 3) := by decide +kernel
theorem dL_law_986 : decode cL_law 986 = .ok (.aload_n 2, 1) := by decide +kernel
theorem dL_law_987 : decode cL_law 987 = .ok (.aload_n 0, 1) := by decide +kernel
theorem dL_law_988 : decode cL_law 988 = .ok (.iload_n 3, 1) := by decide +kernel
theorem dL_law_989 : decode cL_law 989 = .ok (.iconst 1, 1) := by decide +kernel
theorem dL_law_990 : decode cL_law 990 = .ok (.iadd, 1) := by decide +kernel
theorem dL_law_991 : decode cL_law 991 = .ok (.iaload, 1) := by decide +kernel
theorem dL_law_992 : decode cL_law 992 = .ok (.aload_n 0, 1) := by decide +kernel
theorem dL_law_993 : decode cL_law 993 = .ok (.iload_n 3, 1) := by decide +kernel
theorem dL_law_994 : decode cL_law 994 = .ok (.iconst 2, 1) := by decide +kernel
theorem dL_law_995 : decode cL_law 995 = .ok (.iadd, 1) := by decide +kernel
theorem dL_law_996 : decode cL_law 996 = .ok (.iaload, 1) := by decide +kernel
theorem dL_law_997 : decode cL_law 997 = .ok (.aload_n 0, 1) := by decide +kernel
theorem dL_law_998 : decode cL_law 998 = .ok (.iload_n 3, 1) := by decide +kernel
theorem dL_law_999 : decode cL_law 999 = .ok (.iconst 3, 1) := by decide +kernel
theorem dL_law_1000 : decode cL_law 1000 = .ok (.iadd, 1) := by decide +kernel
theorem dL_law_1001 : decode cL_law 1001 = .ok (.iaload, 1) := by decide +kernel
theorem dL_law_1002 : decode cL_law 1002 = .ok (.invokevirtual 109, 3) := by decide +kernel
theorem dL_law_1005 : decode cL_law 1005 = .ok (.if_icmp .eq 293, 3) := by decide +kernel
theorem dL_law_1008 : decode cL_law 1008 = .ok (.iconst 0, 1) := by decide +kernel
theorem dL_law_1009 : decode cL_law 1009 = .ok (.ireturn, 1) := by decide +kernel
theorem dL_law_1010 : decode cL_law 1010 = .ok (.aload_n 1, 1) := by decide +kernel
theorem dL_law_1011 : decode cL_law 1011 = .ok (.aload_n 0, 1) := by decide +kernel
theorem dL_law_1012 : decode cL_law 1012 = .ok (.iload_n 3, 1) := by decide +kernel
theorem dL_law_1013 : decode cL_law 1013 = .ok (.iconst 1, 1) := by decide +kernel
theorem dL_law_1014 : decode cL_law 1014 = .ok (.iadd, 1) := by decide +kernel
theorem dL_law_1015 : decode cL_law 1015 = .ok (.iaload, 1) := by decide +kernel
theorem dL_law_1016 : decode cL_law 1016 = .ok (.aload_n 0, 1) := by decide +kernel
theorem dL_law_1017 : decode cL_law 1017 = .ok (.iload_n 3, 1) := by decide +kernel
theorem dL_law_1018 : decode cL_law 1018 = .ok (.iconst 2, 1) := by decide +kernel
theorem dL_law_1019 : decode cL_law 1019 = .ok (.iadd, 1) := by decide +kernel
theorem dL_law_1020 : decode cL_law 1020 = .ok (.iaload, 1) := by decide +kernel
theorem dL_law_1021 : decode cL_law 1021 = .ok (.aload_n 0, 1) := by decide +kernel
theorem dL_law_1022 : decode cL_law 1022 = .ok (.iload_n 3, 1) := by decide +kernel
theorem dL_law_1023 : decode cL_law 1023 = .ok (.iconst 3, 1) := by decide +kernel
theorem dL_law_1024 : decode cL_law 1024 = .ok (.iadd, 1) := by decide +kernel
theorem dL_law_1025 : decode cL_law 1025 = .ok (.iaload, 1) := by decide +kernel
theorem dL_law_1026 : decode cL_law 1026 = .ok (.aload_n 0, 1) := by decide +kernel
theorem dL_law_1027 : decode cL_law 1027 = .ok (.iload_n 3, 1) := by decide +kernel
theorem dL_law_1028 : decode cL_law 1028 = .ok (.iconst 4, 1) := by decide +kernel
theorem dL_law_1029 : decode cL_law 1029 = .ok (.iadd, 1) := by decide +kernel
theorem dL_law_1030 : decode cL_law 1030 = .ok (.iaload, 1) := by decide +kernel
theorem dL_law_1031 : decode cL_law 1031 = .ok (.invokevirtual 110, 3) := by decide +kernel
theorem dL_law_1034 : decode cL_law 1034 = .ok (.aload_n 2, 1) := by decide +kernel
theorem dL_law_1035 : decode cL_law 1035 = .ok (.aload_n 0, 1) := by decide +kernel
theorem dL_law_1036 : decode cL_law 1036 = .ok (.iload_n 3, 1) := by decide +kernel
theorem dL_law_1037 : decode cL_law 1037 = .ok (.iconst 1, 1) := by decide +kernel
theorem dL_law_1038 : decode cL_law 1038 = .ok (.iadd, 1) := by decide +kernel
theorem dL_law_1039 : decode cL_law 1039 = .ok (.iaload, 1) := by decide +kernel
theorem dL_law_1040 : decode cL_law 1040 = .ok (.aload_n 0, 1) := by decide +kernel
theorem dL_law_1041 : decode cL_law 1041 = .ok (.iload_n 3, 1) := by decide +kernel
theorem dL_law_1042 : decode cL_law 1042 = .ok (.iconst 2, 1) := by decide +kernel
theorem dL_law_1043 : decode cL_law 1043 = .ok (.iadd, 1) := by decide +kernel
theorem dL_law_1044 : decode cL_law 1044 = .ok (.iaload, 1) := by decide +kernel
theorem dL_law_1045 : decode cL_law 1045 = .ok (.aload_n 0, 1) := by decide +kernel
theorem dL_law_1046 : decode cL_law 1046 = .ok (.iload_n 3, 1) := by decide +kernel
theorem dL_law_1047 : decode cL_law 1047 = .ok (.iconst 3, 1) := by decide +kernel
theorem dL_law_1048 : decode cL_law 1048 = .ok (.iadd, 1) := by decide +kernel
theorem dL_law_1049 : decode cL_law 1049 = .ok (.iaload, 1) := by decide +kernel
theorem dL_law_1050 : decode cL_law 1050 = .ok (.aload_n 0, 1) := by decide +kernel
theorem dL_law_1051 : decode cL_law 1051 = .ok (.iload_n 3, 1) := by decide +kernel
theorem dL_law_1052 : decode cL_law 1052 = .ok (.iconst 4, 1) := by decide +kernel
theorem dL_law_1053 : decode cL_law 1053 = .ok (.iadd, 1) := by decide +kernel
theorem dL_law_1054 : decode cL_law 1054 = .ok (.iaload, 1) := by decide +kernel
theorem dL_law_1055 : decode cL_law 1055 = .ok (.invokevirtual 113, 3) := by decide +kernel
theorem dL_law_1058 : decode cL_law 1058 = .ok (.if_icmp .eq 240, 3) := by decide +kernel
theorem dL_law_1061 : decode cL_law 1061 = .ok (.iconst 0, 1) := by decide +kernel
theorem dL_law_1062 : decode cL_law 1062 = .ok (.ireturn, 1) := by decide +kernel
theorem dL_law_1063 : decode cL_law 1063 = .ok (.aload_n 1, 1) := by decide +kernel
theorem dL_law_1064 : decode cL_law 1064 = .ok (.aload_n 0, 1) := by decide +kernel
theorem dL_law_1065 : decode cL_law 1065 = .ok (.iload_n 3, 1) := by decide +kernel
theorem dL_law_1066 : decode cL_law 1066 = .ok (.iconst 1, 1) := by decide +kernel
theorem dL_law_1067 : decode cL_law 1067 = .ok (.iadd, 1) := by decide +kernel
theorem dL_law_1068 : decode cL_law 1068 = .ok (.iaload, 1) := by decide +kernel
theorem dL_law_1069 : decode cL_law 1069 = .ok (.aload_n 0, 1) := by decide +kernel
theorem dL_law_1070 : decode cL_law 1070 = .ok (.iload_n 3, 1) := by decide +kernel
theorem dL_law_1071 : decode cL_law 1071 = .ok (.iconst 2, 1) := by decide +kernel
theorem dL_law_1072 : decode cL_law 1072 = .ok (.iadd, 1) := by decide +kernel
theorem dL_law_1073 : decode cL_law 1073 = .ok (.iaload, 1) := by decide +kernel
theorem dL_law_1074 : decode cL_law 1074 = .ok (.aload_n 0, 1) := by decide +kernel
theorem dL_law_1075 : decode cL_law 1075 = .ok (.iload_n 3, 1) := by decide +kernel
theorem dL_law_1076 : decode cL_law 1076 = .ok (.iconst 3, 1) := by decide +kernel
theorem dL_law_1077 : decode cL_law 1077 = .ok (.iadd, 1) := by decide +kernel
theorem dL_law_1078 : decode cL_law 1078 = .ok (.iaload, 1) := by decide +kernel
theorem dL_law_1079 : decode cL_law 1079 = .ok (.aload_n 0, 1) := by decide +kernel
theorem dL_law_1080 : decode cL_law 1080 = .ok (.iload_n 3, 1) := by decide +kernel
theorem dL_law_1081 : decode cL_law 1081 = .ok (.iconst 4, 1) := by decide +kernel
theorem dL_law_1082 : decode cL_law 1082 = .ok (.iadd, 1) := by decide +kernel
theorem dL_law_1083 : decode cL_law 1083 = .ok (.iaload, 1) := by decide +kernel
theorem dL_law_1084 : decode cL_law 1084 = .ok (.aload_n 0, 1) := by decide +kernel
theorem dL_law_1085 : decode cL_law 1085 = .ok (.iload_n 3, 1) := by decide +kernel
theorem dL_law_1086 : decode cL_law 1086 = .ok (.iconst 5, 1) := by decide +kernel
theorem dL_law_1087 : decode cL_law 1087 = .ok (.iadd, 1) := by decide +kernel
theorem dL_law_1088 : decode cL_law 1088 = .ok (.iaload, 1) := by decide +kernel
theorem dL_law_1089 : decode cL_law 1089 = .ok (.aload_n 0, 1) := by decide +kernel
theorem dL_law_1090 : decode cL_law 1090 = .ok (.iload_n 3, 1) := by decide +kernel
theorem dL_law_1091 : decode cL_law 1091 = .ok (.bipush 6, 2) := by decide +kernel
theorem dL_law_1093 : decode cL_law 1093 = .ok (.iadd, 1) := by decide +kernel
theorem dL_law_1094 : decode cL_law 1094 = .ok (.iaload, 1) := by decide +kernel
theorem dL_law_1095 : decode cL_law 1095 = .ok (.aload_n 0, 1) := by decide +kernel
theorem dL_law_1096 : decode cL_law 1096 = .ok (.iload_n 3, 1) := by decide +kernel
theorem dL_law_1097 : decode cL_law 1097 = .ok (.bipush 7, 2) := by decide +kernel
theorem dL_law_1099 : decode cL_law 1099 = .ok (.iadd, 1) := by decide +kernel
theorem dL_law_1100 : decode cL_law 1100 = .ok (.iaload, 1) := by decide +kernel
theorem dL_law_1101 : decode cL_law 1101 = .ok (.ifCond .eq 7, 3) := by decide +kernel
theorem dL_law_1104 : decode cL_law 1104 = .ok (.iconst 1, 1) := by decide +kernel
theorem dL_law_1105 : decode cL_law 1105 = .ok (.goto 4, 3) := by decide +kernel
theorem dL_law_1108 : decode cL_law 1108 = .ok (.iconst 0, 1) := by decide +kernel
theorem dL_law_1109 : decode cL_law 1109 = .ok (.aload_n 0, 1) := by decide +kernel
theorem dL_law_1110 : decode cL_law 1110 = .ok (.iload_n 3, 1) := by decide +kernel
theorem dL_law_1111 : decode cL_law 1111 = .ok (.bipush 8, 2) := by decide +kernel
theorem dL_law_1113 : decode cL_law 1113 = .ok (.iadd, 1) := by decide +kernel
theorem dL_law_1114 : decode cL_law 1114 = .ok (.iaload, 1) := by decide +kernel
theorem dL_law_1115 : decode cL_law 1115 = .ok (.invokevirtual 114, 3) := by decide +kernel
theorem dL_law_1118 : decode cL_law 1118 = .ok (.aload_n 2, 1) := by decide +kernel
theorem dL_law_1119 : decode cL_law 1119 = .ok (.aload_n 0, 1) := by decide +kernel
theorem dL_law_1120 : decode cL_law 1120 = .ok (.iload_n 3, 1) := by decide +kernel
theorem dL_law_1121 : decode cL_law 1121 = .ok (.iconst 1, 1) := by decide +kernel
theorem dL_law_1122 : decode cL_law 1122 = .ok (.iadd, 1) := by decide +kernel
theorem dL_law_1123 : decode cL_law 1123 = .ok (.iaload, 1) := by decide +kernel
theorem dL_law_1124 : decode cL_law 1124 = .ok (.aload_n 0, 1) := by decide +kernel
theorem dL_law_1125 : decode cL_law 1125 = .ok (.iload_n 3, 1) := by decide +kernel
theorem dL_law_1126 : decode cL_law 1126 = .ok (.iconst 2, 1) := by decide +kernel
theorem dL_law_1127 : decode cL_law 1127 = .ok (.iadd, 1) := by decide +kernel
theorem dL_law_1128 : decode cL_law 1128 = .ok (.iaload, 1) := by decide +kernel
theorem dL_law_1129 : decode cL_law 1129 = .ok (.aload_n 0, 1) := by decide +kernel
theorem dL_law_1130 : decode cL_law 1130 = .ok (.iload_n 3, 1) := by decide +kernel
theorem dL_law_1131 : decode cL_law 1131 = .ok (.iconst 3, 1) := by decide +kernel
theorem dL_law_1132 : decode cL_law 1132 = .ok (.iadd, 1) := by decide +kernel
theorem dL_law_1133 : decode cL_law 1133 = .ok (.iaload, 1) := by decide +kernel
theorem dL_law_1134 : decode cL_law 1134 = .ok (.aload_n 0, 1) := by decide +kernel
theorem dL_law_1135 : decode cL_law 1135 = .ok (.iload_n 3, 1) := by decide +kernel
theorem dL_law_1136 : decode cL_law 1136 = .ok (.iconst 4, 1) := by decide +kernel
theorem dL_law_1137 : decode cL_law 1137 = .ok (.iadd, 1) := by decide +kernel
theorem dL_law_1138 : decode cL_law 1138 = .ok (.iaload, 1) := by decide +kernel
theorem dL_law_1139 : decode cL_law 1139 = .ok (.aload_n 0, 1) := by decide +kernel
theorem dL_law_1140 : decode cL_law 1140 = .ok (.iload_n 3, 1) := by decide +kernel
theorem dL_law_1141 : decode cL_law 1141 = .ok (.iconst 5, 1) := by decide +kernel
theorem dL_law_1142 : decode cL_law 1142 = .ok (.iadd, 1) := by decide +kernel
theorem dL_law_1143 : decode cL_law 1143 = .ok (.iaload, 1) := by decide +kernel
theorem dL_law_1144 : decode cL_law 1144 = .ok (.aload_n 0, 1) := by decide +kernel
theorem dL_law_1145 : decode cL_law 1145 = .ok (.iload_n 3, 1) := by decide +kernel
theorem dL_law_1146 : decode cL_law 1146 = .ok (.bipush 6, 2) := by decide +kernel
theorem dL_law_1148 : decode cL_law 1148 = .ok (.iadd, 1) := by decide +kernel
theorem dL_law_1149 : decode cL_law 1149 = .ok (.iaload, 1) := by decide +kernel
theorem dL_law_1150 : decode cL_law 1150 = .ok (.aload_n 0, 1) := by decide +kernel
theorem dL_law_1151 : decode cL_law 1151 = .ok (.iload_n 3, 1) := by decide +kernel
theorem dL_law_1152 : decode cL_law 1152 = .ok (.bipush 7, 2) := by decide +kernel
theorem dL_law_1154 : decode cL_law 1154 = .ok (.iadd, 1) := by decide +kernel
theorem dL_law_1155 : decode cL_law 1155 = .ok (.iaload, 1) := by decide +kernel
theorem dL_law_1156 : decode cL_law 1156 = .ok (.ifCond .eq 7, 3) := by decide +kernel
theorem dL_law_1159 : decode cL_law 1159 = .ok (.iconst 1, 1) := by decide +kernel
theorem dL_law_1160 : decode cL_law 1160 = .ok (.goto 4, 3) := by decide +kernel
theorem dL_law_1163 : decode cL_law 1163 = .ok (.iconst 0, 1) := by decide +kernel
theorem dL_law_1164 : decode cL_law 1164 = .ok (.aload_n 0, 1) := by decide +kernel
theorem dL_law_1165 : decode cL_law 1165 = .ok (.iload_n 3, 1) := by decide +kernel
theorem dL_law_1166 : decode cL_law 1166 = .ok (.bipush 8, 2) := by decide +kernel
theorem dL_law_1168 : decode cL_law 1168 = .ok (.iadd, 1) := by decide +kernel
theorem dL_law_1169 : decode cL_law 1169 = .ok (.iaload, 1) := by decide +kernel
theorem dL_law_1170 : decode cL_law 1170 = .ok (.invokevirtual 118, 3) := by decide +kernel
theorem dL_law_1173 : decode cL_law 1173 = .ok (.if_icmp .eq 125, 3) := by decide +kernel
theorem dL_law_1176 : decode cL_law 1176 = .ok (.iconst 0, 1) := by decide +kernel
theorem dL_law_1177 : decode cL_law 1177 = .ok (.ireturn, 1) := by decide +kernel
theorem dL_law_1178 : decode cL_law 1178 = .ok (.aload_n 1, 1) := by decide +kernel
theorem dL_law_1179 : decode cL_law 1179 = .ok (.aload_n 0, 1) := by decide +kernel
theorem dL_law_1180 : decode cL_law 1180 = .ok (.iload_n 3, 1) := by decide +kernel
theorem dL_law_1181 : decode cL_law 1181 = .ok (.iconst 1, 1) := by decide +kernel
theorem dL_law_1182 : decode cL_law 1182 = .ok (.iadd, 1) := by decide +kernel
theorem dL_law_1183 : decode cL_law 1183 = .ok (.iaload, 1) := by decide +kernel
theorem dL_law_1184 : decode cL_law 1184 = .ok (.aload_n 0, 1) := by decide +kernel
theorem dL_law_1185 : decode cL_law 1185 = .ok (.iload_n 3, 1) := by decide +kernel
theorem dL_law_1186 : decode cL_law 1186 = .ok (.iconst 2, 1) := by decide +kernel
theorem dL_law_1187 : decode cL_law 1187 = .ok (.iadd, 1) := by decide +kernel
theorem dL_law_1188 : decode cL_law 1188 = .ok (.iaload, 1) := by decide +kernel
theorem dL_law_1189 : decode cL_law 1189 = .ok (.aload_n 0, 1) := by decide +kernel
theorem dL_law_1190 : decode cL_law 1190 = .ok (.iload_n 3, 1) := by decide +kernel
theorem dL_law_1191 : decode cL_law 1191 = .ok (.iconst 3, 1) := by decide +kernel
theorem dL_law_1192 : decode cL_law 1192 = .ok (.iadd, 1) := by decide +kernel
theorem dL_law_1193 : decode cL_law 1193 = .ok (.iaload, 1) := by decide +kernel
theorem dL_law_1194 : decode cL_law 1194 = .ok (.aload_n 0, 1) := by decide +kernel
theorem dL_law_1195 : decode cL_law 1195 = .ok (.iload_n 3, 1) := by decide +kernel
theorem dL_law_1196 : decode cL_law 1196 = .ok (.iconst 4, 1) := by decide +kernel
theorem dL_law_1197 : decode cL_law 1197 = .ok (.iadd, 1) := by decide +kernel
theorem dL_law_1198 : decode cL_law 1198 = .ok (.iaload, 1) := by decide +kernel
theorem dL_law_1199 : decode cL_law 1199 = .ok (.aload_n 0, 1) := by decide +kernel
theorem dL_law_1200 : decode cL_law 1200 = .ok (.iload_n 3, 1) := by decide +kernel
theorem dL_law_1201 : decode cL_law 1201 = .ok (.iconst 5, 1) := by decide +kernel
theorem dL_law_1202 : decode cL_law 1202 = .ok (.iadd, 1) := by decide +kernel
theorem dL_law_1203 : decode cL_law 1203 = .ok (.iaload, 1) := by decide +kernel
theorem dL_law_1204 : decode cL_law 1204 = .ok (.invokevirtual 119, 3) := by decide +kernel
theorem dL_law_1207 : decode cL_law 1207 = .ok (.aload_n 2, 1) := by decide +kernel
theorem dL_law_1208 : decode cL_law 1208 = .ok (.aload_n 0, 1) := by decide +kernel
theorem dL_law_1209 : decode cL_law 1209 = .ok (.iload_n 3, 1) := by decide +kernel
theorem dL_law_1210 : decode cL_law 1210 = .ok (.iconst 1, 1) := by decide +kernel
theorem dL_law_1211 : decode cL_law 1211 = .ok (.iadd, 1) := by decide +kernel
theorem dL_law_1212 : decode cL_law 1212 = .ok (.iaload, 1) := by decide +kernel
theorem dL_law_1213 : decode cL_law 1213 = .ok (.aload_n 0, 1) := by decide +kernel
theorem dL_law_1214 : decode cL_law 1214 = .ok (.iload_n 3, 1) := by decide +kernel
theorem dL_law_1215 : decode cL_law 1215 = .ok (.iconst 2, 1) := by decide +kernel
theorem dL_law_1216 : decode cL_law 1216 = .ok (.iadd, 1) := by decide +kernel
theorem dL_law_1217 : decode cL_law 1217 = .ok (.iaload, 1) := by decide +kernel
theorem dL_law_1218 : decode cL_law 1218 = .ok (.aload_n 0, 1) := by decide +kernel
theorem dL_law_1219 : decode cL_law 1219 = .ok (.iload_n 3, 1) := by decide +kernel
theorem dL_law_1220 : decode cL_law 1220 = .ok (.iconst 3, 1) := by decide +kernel
theorem dL_law_1221 : decode cL_law 1221 = .ok (.iadd, 1) := by decide +kernel
theorem dL_law_1222 : decode cL_law 1222 = .ok (.iaload, 1) := by decide +kernel
theorem dL_law_1223 : decode cL_law 1223 = .ok (.aload_n 0, 1) := by decide +kernel
theorem dL_law_1224 : decode cL_law 1224 = .ok (.iload_n 3, 1) := by decide +kernel
theorem dL_law_1225 : decode cL_law 1225 = .ok (.iconst 4, 1) := by decide +kernel
theorem dL_law_1226 : decode cL_law 1226 = .ok (.iadd, 1) := by decide +kernel
theorem dL_law_1227 : decode cL_law 1227 = .ok (.iaload, 1) := by decide +kernel
theorem dL_law_1228 : decode cL_law 1228 = .ok (.aload_n 0, 1) := by decide +kernel
theorem dL_law_1229 : decode cL_law 1229 = .ok (.iload_n 3, 1) := by decide +kernel
theorem dL_law_1230 : decode cL_law 1230 = .ok (.iconst 5, 1) := by decide +kernel
theorem dL_law_1231 : decode cL_law 1231 = .ok (.iadd, 1) := by decide +kernel
theorem dL_law_1232 : decode cL_law 1232 = .ok (.iaload, 1) := by decide +kernel
theorem dL_law_1233 : decode cL_law 1233 = .ok (.invokevirtual 123, 3) := by decide +kernel
theorem dL_law_1236 : decode cL_law 1236 = .ok (.if_icmp .eq 62, 3) := by decide +kernel
theorem dL_law_1239 : decode cL_law 1239 = .ok (.iconst 0, 1) := by decide +kernel
theorem dL_law_1240 : decode cL_law 1240 = .ok (.ireturn, 1) := by decide +kernel
theorem dL_law_1241 : decode cL_law 1241 = .ok (.aload_n 1, 1) := by decide +kernel
theorem dL_law_1242 : decode cL_law 1242 = .ok (.aload_n 0, 1) := by decide +kernel
theorem dL_law_1243 : decode cL_law 1243 = .ok (.iload_n 3, 1) := by decide +kernel
theorem dL_law_1244 : decode cL_law 1244 = .ok (.iconst 1, 1) := by decide +kernel
theorem dL_law_1245 : decode cL_law 1245 = .ok (.iadd, 1) := by decide +kernel
theorem dL_law_1246 : decode cL_law 1246 = .ok (.iaload, 1) := by decide +kernel
theorem dL_law_1247 : decode cL_law 1247 = .ok (.invokevirtual 124, 3) := by decide +kernel
theorem dL_law_1250 : decode cL_law 1250 = .ok (.aload_n 2, 1) := by decide +kernel
theorem dL_law_1251 : decode cL_law 1251 = .ok (.aload_n 0, 1) := by decide +kernel
theorem dL_law_1252 : decode cL_law 1252 = .ok (.iload_n 3, 1) := by decide +kernel
theorem dL_law_1253 : decode cL_law 1253 = .ok (.iconst 1, 1) := by decide +kernel
theorem dL_law_1254 : decode cL_law 1254 = .ok (.iadd, 1) := by decide +kernel
theorem dL_law_1255 : decode cL_law 1255 = .ok (.iaload, 1) := by decide +kernel
theorem dL_law_1256 : decode cL_law 1256 = .ok (.invokevirtual 127, 3) := by decide +kernel
theorem dL_law_1259 : decode cL_law 1259 = .ok (.lcmp, 1) := by decide +kernel
theorem dL_law_1260 : decode cL_law 1260 = .ok (.ifCond .eq 38, 3) := by decide +kernel
theorem dL_law_1263 : decode cL_law 1263 = .ok (.iconst 0, 1) := by decide +kernel
theorem dL_law_1264 : decode cL_law 1264 = .ok (.ireturn, 1) := by decide +kernel
theorem dL_law_1265 : decode cL_law 1265 = .ok (.aload_n 1, 1) := by decide +kernel
theorem dL_law_1266 : decode cL_law 1266 = .ok (.aload_n 0, 1) := by decide +kernel
theorem dL_law_1267 : decode cL_law 1267 = .ok (.iload_n 3, 1) := by decide +kernel
theorem dL_law_1268 : decode cL_law 1268 = .ok (.iconst 1, 1) := by decide +kernel
theorem dL_law_1269 : decode cL_law 1269 = .ok (.iadd, 1) := by decide +kernel
theorem dL_law_1270 : decode cL_law 1270 = .ok (.iaload, 1) := by decide +kernel
theorem dL_law_1271 : decode cL_law 1271 = .ok (.aload_n 0, 1) := by decide +kernel
theorem dL_law_1272 : decode cL_law 1272 = .ok (.iload_n 3, 1) := by decide +kernel
theorem dL_law_1273 : decode cL_law 1273 = .ok (.iconst 2, 1) := by decide +kernel
theorem dL_law_1274 : decode cL_law 1274 = .ok (.iadd, 1) := by decide +kernel
theorem dL_law_1275 : decode cL_law 1275 = .ok (.iaload, 1) := by decide +kernel
theorem dL_law_1276 : decode cL_law 1276 = .ok (.invokevirtual 128, 3) := by decide +kernel
theorem dL_law_1279 : decode cL_law 1279 = .ok (.aload_n 2, 1) := by decide +kernel
theorem dL_law_1280 : decode cL_law 1280 = .ok (.aload_n 0, 1) := by decide +kernel
theorem dL_law_1281 : decode cL_law 1281 = .ok (.iload_n 3, 1) := by decide +kernel
theorem dL_law_1282 : decode cL_law 1282 = .ok (.iconst 1, 1) := by decide +kernel
theorem dL_law_1283 : decode cL_law 1283 = .ok (.iadd, 1) := by decide +kernel
theorem dL_law_1284 : decode cL_law 1284 = .ok (.iaload, 1) := by decide +kernel
theorem dL_law_1285 : decode cL_law 1285 = .ok (.aload_n 0, 1) := by decide +kernel
theorem dL_law_1286 : decode cL_law 1286 = .ok (.iload_n 3, 1) := by decide +kernel
theorem dL_law_1287 : decode cL_law 1287 = .ok (.iconst 2, 1) := by decide +kernel
theorem dL_law_1288 : decode cL_law 1288 = .ok (.iadd, 1) := by decide +kernel
theorem dL_law_1289 : decode cL_law 1289 = .ok (.iaload, 1) := by decide +kernel
theorem dL_law_1290 : decode cL_law 1290 = .ok (.invokevirtual 131, 3) := by decide +kernel
theorem dL_law_1293 : decode cL_law 1293 = .ok (.if_icmp .eq 5, 3) := by decide +kernel
theorem dL_law_1296 : decode cL_law 1296 = .ok (.iconst 0, 1) := by decide +kernel
theorem dL_law_1297 : decode cL_law 1297 = .ok (.ireturn, 1) := by decide +kernel
theorem dL_law_1298 : decode cL_law 1298 = .ok (.iinc 3 9, 3) := by decide +kernel
theorem dL_law_1301 : decode cL_law 1301 = .ok (.goto (-1283), 3) := by decide +kernel
theorem dL_law_1304 : decode cL_law 1304 = .ok (.iconst 1, 1) := by decide +kernel
theorem dL_law_1305 : decode cL_law 1305 = .ok (.ireturn, 1) := by decide +kernel
set_option maxRecDepth 100000 in
theorem inL_X0 : ∀ w ∈ wsX00, w ∈ lw_tbl := fun w h => (gI (big := lw_tbl) wsX00 [137, 139, 141, 143] rfl rfl w h).1
set_option maxRecDepth 100000 in
theorem inL_X1 : ∀ w ∈ wsX10, w ∈ lw_tbl := fun w h => (gI (big := lw_tbl) wsX10 [213, 215, 217] rfl rfl w h).1
set_option maxRecDepth 100000 in
theorem inL_X2 : ∀ w ∈ wsX20, w ∈ lw_tbl := fun w h => (gI (big := lw_tbl) wsX20 [234, 236, 238, 240, 242, 244] rfl rfl w h).1
set_option maxRecDepth 100000 in
theorem inL_X3 : ∀ w ∈ wsX30, w ∈ lw_tbl := fun w h => (gI (big := lw_tbl) wsX30 [115, 117, 119, 121] rfl rfl w h).1
set_option maxRecDepth 100000 in
theorem inL_X4 : ∀ w ∈ wsX40, w ∈ lw_tbl := fun w h => (gI (big := lw_tbl) wsX40 [92, 94, 96, 98] rfl rfl w h).1
set_option maxRecDepth 100000 in
theorem inL_X5 : ∀ w ∈ wsX50, w ∈ lw_tbl := fun w h => (gI (big := lw_tbl) wsX50 [182, 184, 186, 188, 190, 192, 194, 196, 198] rfl rfl w h).1
set_option maxRecDepth 100000 in
theorem inL_X6 : ∀ w ∈ wsX60, w ∈ lw_tbl := fun w h => (gI (big := lw_tbl) wsX60 [156, 158, 160] rfl rfl w h).1
set_option maxRecDepth 100000 in
theorem inL_X7 : ∀ w ∈ wsX70, w ∈ lw_tbl := fun w h => (gI (big := lw_tbl) wsX70 [256, 258, 260, 262, 264, 266, 268, 270, 272] rfl rfl w h).1
set_option maxRecDepth 100000 in
theorem inL_X8 : ∀ w ∈ wsX80, w ∈ lw_tbl := fun w h => (gI (big := lw_tbl) wsX80 [799, 801, 803, 805, 807, 809, 811, 813, 815, 817, 819, 821, 823, 825, 827, 829, 831, 833, 835, 837, 839, 841, 843, 845, 847, 849, 851, 853, 855, 857, 859, 861, 863, 865, 867, 869, 871, 873, 875, 877, 879, 881] rfl rfl w h).1
set_option maxRecDepth 100000 in
theorem gL_X7_init : GoodIn lw_tbl wsX7_init := gI _ [62, 63, 64, 65, 66, 67, 48, 247, 124, 248, 101, 102, 49, 249, 125, 126, 50, 250, 146, 147, 51, 251, 163, 164, 52, 252, 202, 203, 53, 253, 254, 220, 221, 54, 255, 68, 69, 70, 71, 72, 73, 74, 75, 76, 85, 78, 86, 89, 84, 90, 80, 81, 82, 83, 103, 104, 105, 106, 107, 127, 128, 129, 130, 132, 131, 148, 149, 150, 151, 152, 153, 165, 166, 167, 168, 201, 170, 169, 205, 206, 207, 222, 223, 224, 225, 227, 229, 230, 231, 226, 92, 94, 96, 98, 256, 258, 260, 262, 264, 266, 268, 270, 272, 115, 117, 119, 121, 137, 139, 141, 143, 156, 158, 160, 182, 184, 186, 188, 190, 192, 194, 196, 198, 213, 215, 217, 234, 236, 238, 240, 242, 244] rfl rfl
set_option maxRecDepth 100000 in
theorem gL_X8_init : GoodIn lw_tbl wsX8_init := gI _ [754, 755, 64, 65, 758, 124, 759, 760, 763, 756, 764, 765, 776, 777, 786, 787, 201, 788, 795, 796, 797, 798, 799, 801, 803, 805, 807, 809, 811, 813, 815, 817, 819, 821, 823, 825, 827, 829, 831, 833, 835, 837, 839, 841, 843, 845, 847, 849, 851, 853, 855, 857, 859, 861, 863, 865, 867, 869, 871, 873, 875, 877, 879, 881] rfl rfl
set_option maxRecDepth 100000 in
theorem gL_X7_kind : GoodIn lw_tbl (wsV RL 13 RX7 yX7_kind wsX7_kind) := gI _ [275, 276, 277, 47, 278, 247, 248, 279, 73, 74, 48, 75, 76, 85, 78, 86, 89, 84, 90, 80, 81, 82, 83, 280, 281, 56, 282, 256, 258, 260, 262, 264, 266, 268, 270, 272, 92, 94, 96, 98] rfl rfl
set_option maxRecDepth 100000 in
theorem gL_X8_kind : GoodIn lw_tbl (wsV RL 17 RX8 yX8_kind wsX8_kind) := gI _ [884, 885, 886, 55, 887, 888, 756, 757, 892, 893, 758, 759, 760, 763, 889, 890, 55, 891, 894, 896, 14, 897, 764, 765, 898, 900, 15, 901, 799, 801, 803, 805, 807, 809, 811, 813, 815, 817, 819, 821, 823, 825, 827, 829, 831, 833, 835, 837, 839, 841, 843, 845, 847, 849, 851, 853, 855, 857, 859, 861, 863, 865, 867, 869, 871, 873, 875, 877, 879, 881] rfl rfl
set_option maxRecDepth 100000 in
theorem gL_X7_set : GoodIn lw_tbl (wsV RL 18 RX7 yX7_set wsX7_set) := gI _ [283, 284, 285, 47, 286, 248, 287, 288, 47, 289, 290, 291, 292, 293, 294, 295, 81, 48, 82, 83, 256, 258, 260, 262, 264, 266, 268, 270, 272] rfl rfl
set_option maxRecDepth 100000 in
theorem gL_X8_set : GoodIn lw_tbl (wsV RL 22 RX8 yX8_set wsX8_set) := gI _ [902, 903, 904, 55, 905, 910, 911, 759, 760, 906, 907, 55, 908, 909, 889, 890, 891, 799, 801, 803, 805, 807, 809, 811, 813, 815, 817, 819, 821, 823, 825, 827, 829, 831, 833, 835, 837, 839, 841, 843, 845, 847, 849, 851, 853, 855, 857, 859, 861, 863, 865, 867, 869, 871, 873, 875, 877, 879, 881] rfl rfl
set_option maxRecDepth 100000 in
theorem gL_X7_get : GoodIn lw_tbl (wsV RL 23 RX7 yX7_get wsX7_get) := gI _ [296, 297, 298, 47, 299, 300, 248, 287, 288, 47, 289, 301, 302, 48, 303, 304, 305, 306, 256, 258, 260, 262, 264, 266, 268, 270, 272] rfl rfl
set_option maxRecDepth 100000 in
theorem gL_X8_get : GoodIn lw_tbl (wsV RL 27 RX8 yX8_get wsX8_get) := gI _ [912, 913, 914, 55, 915, 916, 759, 760, 906, 907, 55, 908, 909, 889, 890, 891, 799, 801, 803, 805, 807, 809, 811, 813, 815, 817, 819, 821, 823, 825, 827, 829, 831, 833, 835, 837, 839, 841, 843, 845, 847, 849, 851, 853, 855, 857, 859, 861, 863, 865, 867, 869, 871, 873, 875, 877, 879, 881] rfl rfl
set_option maxRecDepth 100000 in
theorem gL_X7_size : GoodIn lw_tbl (wsV RL 28 RX7 yX7_size wsX7_size) := gI _ [307, 308, 309, 47, 310, 247, 248, 317, 287, 288, 47, 289, 311, 312, 313, 48, 314, 85, 86, 315, 302, 303, 316, 305, 306, 256, 258, 260, 262, 264, 266, 268, 270, 272, 92, 94, 96, 98] rfl rfl
set_option maxRecDepth 100000 in
theorem gL_X8_size : GoodIn lw_tbl (wsV RL 32 RX8 yX8_size wsX8_size) := gI _ [917, 918, 919, 55, 920, 759, 760, 756, 906, 907, 55, 908, 909, 889, 890, 891, 898, 900, 15, 901, 757, 758, 799, 801, 803, 805, 807, 809, 811, 813, 815, 817, 819, 821, 823, 825, 827, 829, 831, 833, 835, 837, 839, 841, 843, 845, 847, 849, 851, 853, 855, 857, 859, 861, 863, 865, 867, 869, 871, 873, 875, 877, 879, 881] rfl rfl
set_option maxRecDepth 100000 in
theorem gL_X7_reckon : GoodIn lw_tbl (wsV RL 33 RX7 yX7_reckon wsX7_reckon) := gI _ [318, 319, 320, 47, 321, 248, 287, 288, 47, 289, 322, 324, 0, 325, 247, 326, 327, 48, 328, 315, 302, 303, 316, 305, 306, 80, 81, 82, 83, 329, 330, 331, 332, 333, 334, 335, 86, 85, 336, 337, 338, 339, 340, 312, 313, 314, 341, 343, 1, 344, 345, 346, 57, 347, 348, 349, 350, 351, 352, 353, 354, 355, 356, 357, 358, 359, 360, 361, 362, 363, 364, 365, 366, 367, 368, 369, 370, 371, 372, 89, 90, 373, 374, 375, 376, 378, 2, 379, 380, 381, 382, 301, 290, 291, 292, 293, 294, 304, 256, 258, 260, 262, 264, 266, 268, 270, 272, 92, 94, 96, 98] rfl rfl
set_option maxRecDepth 100000 in
theorem gL_X8_reckon : GoodIn lw_tbl (wsV RL 37 RX8 yX8_reckon wsX8_reckon) := gI _ [921, 922, 923, 55, 924, 925, 759, 760, 766, 767, 906, 907, 55, 908, 909, 889, 890, 891, 926, 928, 16, 929, 930, 932, 17, 933, 761, 762, 934, 936, 18, 937, 758, 757, 938, 940, 19, 941, 892, 756, 945, 898, 900, 15, 901, 942, 943, 944, 946, 948, 20, 949, 950, 952, 21, 953, 768, 763, 764, 765, 954, 956, 22, 957, 958, 959, 960, 910, 911, 799, 801, 803, 805, 807, 809, 811, 813, 815, 817, 819, 821, 823, 825, 827, 829, 831, 833, 835, 837, 839, 841, 843, 845, 847, 849, 851, 853, 855, 857, 859, 861, 863, 865, 867, 869, 871, 873, 875, 877, 879, 881] rfl rfl
set_option maxRecDepth 100000 in
theorem gL_X7_turn : GoodIn lw_tbl (wsV RL 38 RX7 yX7_turn wsX7_turn) := gI _ [383, 384, 385, 47, 386, 248, 247, 287, 288, 47, 289, 387, 388, 389, 48, 390, 85, 315, 302, 303, 316, 305, 306, 80, 81, 82, 83, 376, 378, 2, 379, 380, 381, 382, 301, 290, 291, 292, 293, 294, 304, 391, 365, 366, 367, 368, 369, 370, 371, 372, 89, 90, 351, 333, 334, 335, 86, 373, 374, 375, 332, 256, 258, 260, 262, 264, 266, 268, 270, 272, 92, 94, 96, 98] rfl rfl
set_option maxRecDepth 100000 in
theorem gL_X8_turn : GoodIn lw_tbl (wsV RL 41 RX8 yX8_turn wsX8_turn) := gI _ [961, 962, 963, 55, 964, 892, 759, 757, 760, 906, 907, 55, 908, 909, 889, 890, 891, 930, 932, 17, 933, 761, 762, 950, 952, 21, 953, 768, 763, 764, 765, 934, 936, 18, 937, 758, 954, 956, 22, 957, 958, 959, 960, 910, 911, 799, 801, 803, 805, 807, 809, 811, 813, 815, 817, 819, 821, 823, 825, 827, 829, 831, 833, 835, 837, 839, 841, 843, 845, 847, 849, 851, 853, 855, 857, 859, 861, 863, 865, 867, 869, 871, 873, 875, 877, 879, 881] rfl rfl
set_option maxRecDepth 100000 in
theorem gL_X7_makes : GoodIn lw_tbl (wsV RL 42 RX7 yX7_makes wsX7_makes) := gI _ [392, 393, 394, 47, 395, 248, 249, 287, 288, 47, 289, 396, 397, 398, 49, 399, 108, 400, 110, 113, 401, 107, 402, 337, 338, 48, 339, 340, 312, 313, 314, 85, 86, 315, 302, 303, 316, 305, 306, 341, 343, 1, 344, 345, 346, 57, 347, 348, 349, 350, 80, 81, 82, 83, 351, 333, 334, 335, 352, 330, 331, 403, 404, 405, 369, 370, 371, 372, 89, 90, 373, 374, 375, 380, 381, 382, 301, 290, 291, 292, 293, 294, 304, 256, 258, 260, 262, 264, 266, 268, 270, 272, 115, 117, 119, 121, 92, 94, 96, 98] rfl rfl
set_option maxRecDepth 100000 in
theorem gL_X8_makes : GoodIn lw_tbl (wsV RL 45 RX8 yX8_makes wsX8_makes) := gI _ [965, 966, 967, 55, 968, 759, 760, 773, 774, 764, 768, 765, 769, 770, 761, 762, 771, 772, 906, 907, 55, 908, 909, 889, 890, 891, 926, 928, 16, 929, 969, 971, 23, 972, 766, 767, 938, 940, 19, 941, 757, 892, 756, 945, 898, 900, 15, 901, 758, 934, 936, 18, 937, 930, 932, 17, 933, 942, 943, 944, 950, 952, 21, 953, 763, 958, 959, 960, 910, 911, 799, 801, 803, 805, 807, 809, 811, 813, 815, 817, 819, 821, 823, 825, 827, 829, 831, 833, 835, 837, 839, 841, 843, 845, 847, 849, 851, 853, 855, 857, 859, 861, 863, 865, 867, 869, 871, 873, 875, 877, 879, 881] rfl rfl
set_option maxRecDepth 100000 in
theorem gL_X7_like : GoodIn lw_tbl (wsV RL 46 RX7 yX7_like wsX7_like) := gI _ [406, 407, 408, 47, 409, 247, 248, 287, 288, 47, 289, 391, 365, 366, 48, 367, 368, 369, 370, 371, 372, 89, 90, 351, 333, 334, 335, 86, 85, 316, 305, 306, 315, 302, 303, 80, 81, 82, 83, 373, 374, 375, 256, 258, 260, 262, 264, 266, 268, 270, 272, 92, 94, 96, 98] rfl rfl
set_option maxRecDepth 100000 in
theorem gL_X8_like : GoodIn lw_tbl (wsV RL 49 RX8 yX8_like wsX8_like) := gI _ [973, 974, 975, 55, 976, 763, 759, 760, 764, 765, 761, 762, 906, 907, 55, 908, 909, 889, 890, 891, 934, 936, 18, 937, 758, 757, 930, 932, 17, 933, 799, 801, 803, 805, 807, 809, 811, 813, 815, 817, 819, 821, 823, 825, 827, 829, 831, 833, 835, 837, 839, 841, 843, 845, 847, 849, 851, 853, 855, 857, 859, 861, 863, 865, 867, 869, 871, 873, 875, 877, 879, 881] rfl rfl
set_option maxRecDepth 100000 in
theorem gL_X7_parts : GoodIn lw_tbl (wsV RL 50 RX7 yX7_parts wsX7_parts) := gI _ [410, 411, 412, 47, 413, 248, 250, 287, 288, 47, 289, 414, 415, 416, 50, 417, 133, 135, 131, 419, 420, 132, 418, 312, 313, 48, 314, 85, 86, 315, 302, 303, 316, 305, 306, 422, 423, 424, 425, 426, 427, 428, 429, 434, 430, 431, 432, 433, 80, 81, 82, 83, 435, 436, 437, 438, 340, 341, 343, 1, 344, 348, 349, 350, 440, 388, 389, 390, 441, 443, 3, 444, 445, 365, 366, 367, 368, 369, 370, 371, 372, 89, 90, 351, 333, 334, 335, 373, 374, 375, 446, 447, 448, 449, 451, 452, 453, 455, 4, 456, 457, 256, 258, 260, 262, 264, 266, 268, 270, 272, 137, 139, 141, 143, 92, 94, 96, 98] rfl rfl
set_option maxRecDepth 100000 in
theorem gL_X8_parts : GoodIn lw_tbl (wsV RL 53 RX8 yX8_parts wsX8_parts) := gI _ [977, 978, 979, 55, 980, 759, 760, 775, 906, 907, 55, 908, 909, 889, 890, 891, 926, 928, 16, 929, 981, 983, 24, 984, 778, 779, 892, 776, 777, 898, 900, 15, 901, 757, 758, 985, 987, 25, 988, 888, 761, 762, 989, 991, 26, 992, 993, 994, 995, 756, 996, 930, 932, 17, 933, 997, 999, 27, 1000, 766, 767, 950, 952, 21, 953, 768, 763, 764, 765, 934, 936, 18, 937, 1001, 1003, 28, 1004, 938, 940, 19, 941, 945, 942, 943, 944, 1005, 1007, 29, 1008, 799, 801, 803, 805, 807, 809, 811, 813, 815, 817, 819, 821, 823, 825, 827, 829, 831, 833, 835, 837, 839, 841, 843, 845, 847, 849, 851, 853, 855, 857, 859, 861, 863, 865, 867, 869, 871, 873, 875, 877, 879, 881] rfl rfl
set_option maxRecDepth 100000 in
theorem gL_X7_part : GoodIn lw_tbl (wsV RL 54 RX7 yX7_part wsX7_part) := gI _ [458, 459, 460, 47, 461, 248, 250, 287, 288, 47, 289, 414, 415, 416, 50, 417, 133, 135, 131, 419, 420, 132, 418, 312, 313, 48, 314, 85, 86, 315, 302, 303, 316, 305, 306, 422, 423, 424, 425, 426, 427, 428, 429, 434, 430, 431, 432, 433, 80, 81, 82, 83, 435, 436, 437, 438, 340, 341, 343, 1, 344, 348, 349, 350, 440, 388, 389, 390, 441, 443, 3, 444, 445, 365, 366, 367, 368, 369, 370, 371, 372, 89, 90, 351, 333, 334, 335, 373, 374, 375, 446, 447, 448, 449, 451, 452, 453, 455, 4, 456, 457, 462, 463, 464, 465, 376, 378, 2, 379, 380, 381, 382, 301, 290, 291, 292, 293, 294, 304, 256, 258, 260, 262, 264, 266, 268, 270, 272, 137, 139, 141, 143, 92, 94, 96, 98] rfl rfl
set_option maxRecDepth 100000 in
theorem gL_X8_part : GoodIn lw_tbl (wsV RL 57 RX8 yX8_part wsX8_part) := gI _ [1009, 1010, 1011, 55, 1012, 759, 760, 775, 778, 776, 779, 777, 906, 907, 55, 908, 909, 889, 890, 891, 926, 928, 16, 929, 981, 983, 24, 984, 892, 898, 900, 15, 901, 757, 758, 985, 987, 25, 988, 888, 761, 762, 989, 991, 26, 992, 993, 994, 995, 756, 996, 930, 932, 17, 933, 997, 999, 27, 1000, 766, 767, 950, 952, 21, 953, 768, 763, 764, 765, 934, 936, 18, 937, 1001, 1003, 28, 1004, 938, 940, 19, 941, 945, 942, 943, 944, 1005, 1007, 29, 1008, 954, 956, 22, 957, 958, 959, 960, 910, 911, 799, 801, 803, 805, 807, 809, 811, 813, 815, 817, 819, 821, 823, 825, 827, 829, 831, 833, 835, 837, 839, 841, 843, 845, 847, 849, 851, 853, 855, 857, 859, 861, 863, 865, 867, 869, 871, 873, 875, 877, 879, 881] rfl rfl
set_option maxRecDepth 100000 in
theorem gL_X7_ofSize : GoodIn lw_tbl (wsV RL 58 RX7 yX7_ofSize wsX7_ofSize) := gI _ [466, 467, 468, 47, 469, 470, 247, 471, 472, 473, 48, 474, 86, 85, 429, 428, 434, 430, 431, 432, 433, 256, 258, 260, 262, 264, 266, 268, 270, 272, 92, 94, 96, 98] rfl rfl
set_option maxRecDepth 100000 in
theorem gL_X8_ofSize : GoodIn lw_tbl (wsV RL 61 RX8 yX8_ofSize wsX8_ofSize) := gI _ [1013, 1014, 1015, 55, 1016, 1017, 1018, 1019, 888, 758, 757, 892, 889, 890, 55, 891, 993, 994, 995, 756, 996, 799, 801, 803, 805, 807, 809, 811, 813, 815, 817, 819, 821, 823, 825, 827, 829, 831, 833, 835, 837, 839, 841, 843, 845, 847, 849, 851, 853, 855, 857, 859, 861, 863, 865, 867, 869, 871, 873, 875, 877, 879, 881] rfl rfl
set_option maxRecDepth 100000 in
theorem gL_X7_within : GoodIn lw_tbl (wsV RL 62 RX7 yX7_within wsX7_within) := gI _ [475, 476, 477, 47, 478, 479, 247, 471, 472, 473, 48, 474, 86, 85, 429, 428, 434, 430, 431, 432, 433, 256, 258, 260, 262, 264, 266, 268, 270, 272, 92, 94, 96, 98] rfl rfl
set_option maxRecDepth 100000 in
theorem gL_X8_within : GoodIn lw_tbl (wsV RL 65 RX8 yX8_within wsX8_within) := gI _ [1020, 1021, 1022, 55, 1023, 1024, 1025, 1026, 888, 758, 757, 892, 889, 890, 55, 891, 993, 994, 995, 756, 996, 942, 943, 944, 799, 801, 803, 805, 807, 809, 811, 813, 815, 817, 819, 821, 823, 825, 827, 829, 831, 833, 835, 837, 839, 841, 843, 845, 847, 849, 851, 853, 855, 857, 859, 861, 863, 865, 867, 869, 871, 873, 875, 877, 879, 881] rfl rfl
set_option maxRecDepth 100000 in
theorem gL_X7_power : GoodIn lw_tbl (wsV RL 66 RX7 yX7_power wsX7_power) := gI _ [480, 481, 482, 47, 483, 484, 248, 470, 251, 287, 288, 47, 289, 485, 487, 5, 488, 247, 489, 311, 312, 313, 48, 314, 85, 86, 315, 302, 303, 316, 305, 306, 490, 491, 492, 51, 493, 152, 494, 495, 354, 355, 356, 357, 337, 338, 339, 340, 341, 343, 1, 344, 345, 346, 57, 347, 348, 349, 350, 80, 81, 82, 83, 351, 333, 334, 335, 352, 330, 331, 496, 376, 378, 2, 379, 380, 381, 382, 301, 290, 291, 292, 293, 294, 304, 256, 258, 260, 262, 264, 266, 268, 270, 272, 92, 94, 96, 98, 156, 158, 160] rfl rfl
set_option maxRecDepth 100000 in
theorem gL_X8_power : GoodIn lw_tbl (wsV RL 69 RX8 yX8_power wsX8_power) := gI _ [1027, 1028, 1029, 55, 1030, 1031, 1017, 761, 762, 759, 760, 906, 907, 55, 908, 909, 889, 890, 891, 1032, 1034, 30, 1035, 892, 898, 900, 15, 901, 757, 758, 1036, 1038, 31, 1039, 930, 932, 17, 933, 1040, 1042, 32, 1043, 938, 940, 19, 941, 756, 945, 766, 767, 934, 936, 18, 937, 942, 943, 944, 954, 956, 22, 957, 958, 959, 960, 910, 911, 799, 801, 803, 805, 807, 809, 811, 813, 815, 817, 819, 821, 823, 825, 827, 829, 831, 833, 835, 837, 839, 841, 843, 845, 847, 849, 851, 853, 855, 857, 859, 861, 863, 865, 867, 869, 871, 873, 875, 877, 879, 881] rfl rfl
set_option maxRecDepth 100000 in
theorem gL_X7_order : GoodIn lw_tbl (wsV RL 70 RX7 yX7_order wsX7_order) := gI _ [497, 498, 499, 47, 500, 248, 470, 250, 251, 287, 288, 47, 289, 485, 487, 5, 488, 247, 489, 311, 312, 313, 48, 314, 85, 86, 315, 302, 303, 316, 305, 306, 414, 415, 416, 50, 417, 133, 135, 131, 419, 420, 132, 418, 422, 423, 424, 425, 426, 427, 428, 429, 434, 430, 431, 432, 433, 80, 81, 82, 83, 435, 436, 437, 438, 340, 341, 343, 1, 344, 348, 349, 350, 440, 388, 389, 390, 441, 443, 3, 444, 445, 365, 366, 367, 368, 369, 370, 371, 372, 89, 90, 351, 333, 334, 335, 373, 374, 375, 446, 447, 448, 449, 451, 452, 453, 455, 4, 456, 457, 501, 502, 503, 504, 505, 506, 507, 51, 508, 152, 494, 509, 359, 360, 361, 362, 363, 354, 355, 356, 357, 337, 338, 339, 345, 346, 57, 347, 352, 330, 331, 364, 510, 495, 511, 491, 492, 493, 496, 256, 258, 260, 262, 264, 266, 268, 270, 272, 92, 94, 96, 98, 137, 139, 141, 143, 156, 158, 160] rfl rfl
set_option maxRecDepth 100000 in
theorem gL_X8_order : GoodIn lw_tbl (wsV RL 73 RX8 yX8_order wsX8_order) := gI _ [1044, 1045, 1046, 55, 1047, 1017, 761, 762, 759, 760, 906, 907, 55, 908, 909, 889, 890, 891, 1032, 1034, 30, 1035, 892, 898, 900, 15, 901, 757, 758, 1048, 1050, 33, 1051, 946, 948, 20, 949, 938, 940, 19, 941, 756, 945, 766, 767, 934, 936, 18, 937, 930, 932, 17, 933, 942, 943, 944, 950, 952, 21, 953, 768, 763, 764, 765, 1036, 1038, 31, 1039, 1040, 1042, 32, 1043, 799, 801, 803, 805, 807, 809, 811, 813, 815, 817, 819, 821, 823, 825, 827, 829, 831, 833, 835, 837, 839, 841, 843, 845, 847, 849, 851, 853, 855, 857, 859, 861, 863, 865, 867, 869, 871, 873, 875, 877, 879, 881] rfl rfl
set_option maxRecDepth 100000 in
theorem gL_X7_inverse : GoodIn lw_tbl (wsV RL 74 RX7 yX7_inverse wsX7_inverse) := gI _ [512, 513, 514, 47, 515, 248, 470, 251, 287, 288, 47, 289, 485, 487, 5, 488, 247, 489, 311, 312, 313, 48, 314, 85, 86, 315, 302, 303, 316, 305, 306, 516, 517, 518, 51, 519, 153, 152, 154, 520, 397, 398, 49, 399, 108, 400, 110, 113, 401, 107, 402, 337, 338, 339, 340, 341, 343, 1, 344, 345, 346, 57, 347, 348, 349, 350, 80, 81, 82, 83, 351, 333, 334, 335, 352, 330, 331, 403, 404, 405, 369, 370, 371, 372, 89, 90, 373, 374, 375, 510, 521, 388, 389, 390, 496, 495, 354, 355, 356, 357, 376, 378, 2, 379, 380, 381, 382, 301, 290, 291, 292, 293, 294, 304, 256, 258, 260, 262, 264, 266, 268, 270, 272, 156, 158, 160, 92, 94, 96, 98, 115, 117, 119, 121] rfl rfl
set_option maxRecDepth 100000 in
theorem gL_X8_inverse : GoodIn lw_tbl (wsV RL 77 RX8 yX8_inverse wsX8_inverse) := gI _ [1052, 1053, 1054, 55, 1055, 1017, 759, 760, 773, 774, 769, 770, 757, 906, 907, 55, 908, 909, 889, 890, 891, 1032, 1034, 30, 1035, 892, 898, 900, 15, 901, 758, 969, 971, 23, 972, 771, 772, 766, 767, 761, 762, 938, 940, 19, 941, 756, 945, 934, 936, 18, 937, 930, 932, 17, 933, 942, 943, 944, 1040, 1042, 32, 1043, 954, 956, 22, 957, 958, 959, 960, 910, 911, 799, 801, 803, 805, 807, 809, 811, 813, 815, 817, 819, 821, 823, 825, 827, 829, 831, 833, 835, 837, 839, 841, 843, 845, 847, 849, 851, 853, 855, 857, 859, 861, 863, 865, 867, 869, 871, 873, 875, 877, 879, 881] rfl rfl
set_option maxRecDepth 100000 in
theorem gL_X7_single : GoodIn lw_tbl (wsV RL 78 RX7 yX7_single wsX7_single) := gI _ [522, 523, 524, 47, 525, 248, 470, 250, 287, 288, 47, 289, 485, 487, 5, 488, 247, 489, 311, 312, 313, 48, 314, 85, 86, 315, 302, 303, 316, 305, 306, 414, 415, 416, 50, 417, 133, 135, 131, 419, 420, 132, 418, 422, 423, 424, 425, 426, 427, 428, 429, 434, 430, 431, 432, 433, 80, 81, 82, 83, 435, 436, 437, 438, 340, 341, 343, 1, 344, 348, 349, 350, 440, 388, 389, 390, 441, 443, 3, 444, 445, 365, 366, 367, 368, 369, 370, 371, 372, 89, 90, 351, 333, 334, 335, 373, 374, 375, 446, 447, 448, 449, 451, 452, 453, 455, 4, 456, 457, 501, 502, 503, 504, 256, 258, 260, 262, 264, 266, 268, 270, 272, 92, 94, 96, 98, 137, 139, 141, 143] rfl rfl
set_option maxRecDepth 100000 in
theorem gL_X8_single : GoodIn lw_tbl (wsV RL 81 RX8 yX8_single wsX8_single) := gI _ [1056, 1057, 1058, 55, 1059, 1017, 759, 760, 775, 776, 777, 906, 907, 55, 908, 909, 889, 890, 891, 1032, 1034, 30, 1035, 892, 898, 900, 15, 901, 757, 758, 981, 983, 24, 984, 778, 779, 985, 987, 25, 988, 888, 761, 762, 989, 991, 26, 992, 993, 994, 995, 756, 996, 930, 932, 17, 933, 997, 999, 27, 1000, 766, 767, 950, 952, 21, 953, 768, 763, 764, 765, 934, 936, 18, 937, 1001, 1003, 28, 1004, 938, 940, 19, 941, 945, 942, 943, 944, 1005, 1007, 29, 1008, 799, 801, 803, 805, 807, 809, 811, 813, 815, 817, 819, 821, 823, 825, 827, 829, 831, 833, 835, 837, 839, 841, 843, 845, 847, 849, 851, 853, 855, 857, 859, 861, 863, 865, 867, 869, 871, 873, 875, 877, 879, 881] rfl rfl
set_option maxRecDepth 100000 in
theorem gL_X7_roots : GoodIn lw_tbl (wsV RL 82 RX7 yX7_roots wsX7_roots) := gI _ [526, 527, 528, 47, 529, 248, 251, 287, 288, 47, 289, 485, 487, 5, 488, 247, 489, 311, 312, 313, 48, 314, 85, 86, 315, 302, 303, 316, 305, 306, 530, 531, 532, 51, 533, 152, 154, 534, 81, 82, 83, 496, 333, 334, 335, 80, 535, 330, 331, 536, 436, 437, 438, 340, 341, 343, 1, 344, 422, 423, 348, 349, 350, 537, 337, 338, 339, 345, 346, 57, 347, 351, 352, 256, 258, 260, 262, 264, 266, 268, 270, 272, 92, 94, 96, 98, 156, 158, 160] rfl rfl
set_option maxRecDepth 100000 in
theorem gL_X8_roots : GoodIn lw_tbl (wsV RL 85 RX8 yX8_roots wsX8_roots) := gI _ [1060, 1061, 1062, 55, 1063, 1019, 906, 907, 55, 908, 909, 889, 890, 891, 1032, 1034, 30, 1035, 759, 760, 892, 898, 900, 15, 901, 757, 758, 1064, 1066, 34, 1067, 761, 762, 1068, 1069, 780, 781, 930, 932, 17, 933, 1040, 1042, 32, 1043, 938, 940, 19, 941, 756, 945, 766, 767, 934, 936, 18, 937, 942, 943, 944, 799, 801, 803, 805, 807, 809, 811, 813, 815, 817, 819, 821, 823, 825, 827, 829, 831, 833, 835, 837, 839, 841, 843, 845, 847, 849, 851, 853, 855, 857, 859, 861, 863, 865, 867, 869, 871, 873, 875, 877, 879, 881] rfl rfl
set_option maxRecDepth 100000 in
theorem gL_X7_root : GoodIn lw_tbl (wsV RL 86 RX7 yX7_root wsX7_root) := gI _ [538, 539, 540, 47, 541, 248, 251, 287, 288, 47, 289, 485, 487, 5, 488, 247, 489, 311, 312, 313, 48, 314, 85, 86, 315, 302, 303, 316, 305, 306, 530, 531, 532, 51, 533, 152, 154, 534, 81, 82, 83, 496, 333, 334, 335, 80, 535, 330, 331, 536, 436, 437, 438, 340, 341, 343, 1, 344, 422, 423, 348, 349, 350, 537, 337, 338, 339, 345, 346, 57, 347, 351, 352, 376, 378, 2, 379, 380, 381, 382, 301, 290, 291, 292, 293, 294, 304, 256, 258, 260, 262, 264, 266, 268, 270, 272, 156, 158, 160, 92, 94, 96, 98] rfl rfl
set_option maxRecDepth 100000 in
theorem gL_X8_root : GoodIn lw_tbl (wsV RL 89 RX8 yX8_root wsX8_root) := gI _ [1070, 1071, 1072, 55, 1073, 1019, 780, 781, 906, 907, 55, 908, 909, 889, 890, 891, 1032, 1034, 30, 1035, 759, 760, 892, 898, 900, 15, 901, 757, 758, 1064, 1066, 34, 1067, 761, 762, 1068, 1069, 930, 932, 17, 933, 1040, 1042, 32, 1043, 938, 940, 19, 941, 756, 945, 766, 767, 934, 936, 18, 937, 942, 943, 944, 954, 956, 22, 957, 958, 959, 960, 910, 911, 799, 801, 803, 805, 807, 809, 811, 813, 815, 817, 819, 821, 823, 825, 827, 829, 831, 833, 835, 837, 839, 841, 843, 845, 847, 849, 851, 853, 855, 857, 859, 861, 863, 865, 867, 869, 871, 873, 875, 877, 879, 881] rfl rfl
set_option maxRecDepth 100000 in
theorem gL_X7_digit : GoodIn lw_tbl (wsV RL 90 RX7 yX7_digit wsX7_digit) := gI _ [542, 543, 544, 47, 545, 252, 248, 287, 288, 47, 289, 546, 547, 548, 52, 549, 169, 551, 552, 171, 172, 173, 550, 312, 313, 48, 314, 85, 86, 315, 302, 303, 316, 305, 306, 553, 81, 82, 83, 554, 436, 437, 438, 340, 341, 343, 1, 344, 422, 423, 348, 349, 350, 555, 330, 331, 80, 556, 557, 558, 559, 174, 176, 560, 562, 6, 563, 564, 566, 7, 567, 568, 569, 570, 571, 57, 572, 573, 447, 448, 449, 451, 452, 574, 576, 8, 577, 578, 579, 580, 581, 256, 258, 260, 262, 264, 266, 268, 270, 272, 182, 184, 186, 188, 190, 192, 194, 196, 198, 92, 94, 96, 98] rfl rfl
set_option maxRecDepth 100000 in
theorem gL_X8_digit : GoodIn lw_tbl (wsV RL 93 RX8 yX8_digit wsX8_digit) := gI _ [1074, 1075, 1076, 55, 1077, 759, 760, 785, 788, 783, 782, 906, 907, 55, 908, 909, 889, 890, 891, 1078, 1080, 35, 1081, 892, 1082, 898, 900, 15, 901, 757, 758, 1001, 1003, 28, 1004, 761, 762, 934, 936, 18, 937, 930, 932, 17, 933, 1083, 1085, 36, 1086, 784, 786, 787, 1087, 1089, 37, 1090, 1091, 1093, 38, 1094, 766, 767, 938, 940, 19, 941, 756, 945, 942, 943, 944, 799, 801, 803, 805, 807, 809, 811, 813, 815, 817, 819, 821, 823, 825, 827, 829, 831, 833, 835, 837, 839, 841, 843, 845, 847, 849, 851, 853, 855, 857, 859, 861, 863, 865, 867, 869, 871, 873, 875, 877, 879, 881] rfl rfl
set_option maxRecDepth 100000 in
theorem gL_X7_digits : GoodIn lw_tbl (wsV RL 94 RX7 yX7_digits wsX7_digits) := gI _ [582, 583, 584, 47, 585, 252, 248, 287, 288, 47, 289, 546, 547, 548, 52, 549, 169, 551, 552, 171, 172, 173, 550, 312, 313, 48, 314, 85, 86, 315, 302, 303, 316, 305, 306, 553, 81, 82, 83, 554, 436, 437, 438, 340, 341, 343, 1, 344, 422, 423, 348, 349, 350, 555, 330, 331, 80, 556, 557, 558, 559, 174, 176, 560, 562, 6, 563, 564, 566, 7, 567, 568, 569, 570, 571, 57, 572, 573, 447, 448, 449, 451, 452, 574, 576, 8, 577, 586, 587, 588, 589, 256, 258, 260, 262, 264, 266, 268, 270, 272, 182, 184, 186, 188, 190, 192, 194, 196, 198, 92, 94, 96, 98] rfl rfl
set_option maxRecDepth 100000 in
theorem gL_X8_digits : GoodIn lw_tbl (wsV RL 97 RX8 yX8_digits wsX8_digits) := gI _ [1095, 1096, 1097, 55, 1098, 892, 759, 760, 782, 783, 784, 906, 907, 55, 908, 909, 889, 890, 891, 1078, 1080, 35, 1081, 1082, 898, 900, 15, 901, 757, 758, 1001, 1003, 28, 1004, 761, 762, 934, 936, 18, 937, 930, 932, 17, 933, 1083, 1085, 36, 1086, 785, 786, 787, 788, 1087, 1089, 37, 1090, 1091, 1093, 38, 1094, 766, 767, 938, 940, 19, 941, 756, 945, 942, 943, 944, 799, 801, 803, 805, 807, 809, 811, 813, 815, 817, 819, 821, 823, 825, 827, 829, 831, 833, 835, 837, 839, 841, 843, 845, 847, 849, 851, 853, 855, 857, 859, 861, 863, 865, 867, 869, 871, 873, 875, 877, 879, 881] rfl rfl
set_option maxRecDepth 100000 in
theorem gL_X7_rounds : GoodIn lw_tbl (wsV RL 98 RX7 yX7_rounds wsX7_rounds) := gI _ [590, 591, 592, 47, 593, 252, 248, 287, 288, 47, 289, 546, 547, 548, 52, 549, 169, 551, 552, 171, 172, 173, 550, 312, 313, 48, 314, 85, 86, 315, 302, 303, 316, 305, 306, 553, 81, 82, 83, 554, 436, 437, 438, 340, 341, 343, 1, 344, 422, 423, 348, 349, 350, 555, 330, 331, 80, 594, 595, 596, 597, 170, 178, 180, 601, 598, 599, 56, 600, 602, 604, 9, 605, 606, 607, 608, 609, 610, 568, 569, 560, 562, 6, 563, 564, 566, 7, 567, 570, 571, 57, 572, 573, 447, 448, 449, 451, 452, 256, 258, 260, 262, 264, 266, 268, 270, 272, 182, 184, 186, 188, 190, 192, 194, 196, 198, 92, 94, 96, 98] rfl rfl
set_option maxRecDepth 100000 in
theorem gL_X8_rounds : GoodIn lw_tbl (wsV RL 101 RX8 yX8_rounds wsX8_rounds) := gI _ [1099, 1100, 1101, 55, 1102, 1103, 1104, 1105, 783, 782, 786, 787, 906, 907, 55, 908, 909, 889, 890, 891, 1078, 1080, 35, 1081, 759, 760, 892, 1082, 898, 900, 15, 901, 757, 758, 1001, 1003, 28, 1004, 761, 762, 934, 936, 18, 937, 930, 932, 17, 933, 1083, 1085, 36, 1086, 785, 784, 788, 1087, 1089, 37, 1090, 1091, 1093, 38, 1094, 766, 767, 938, 940, 19, 941, 756, 945, 942, 943, 944, 799, 801, 803, 805, 807, 809, 811, 813, 815, 817, 819, 821, 823, 825, 827, 829, 831, 833, 835, 837, 839, 841, 843, 845, 847, 849, 851, 853, 855, 857, 859, 861, 863, 865, 867, 869, 871, 873, 875, 877, 879, 881] rfl rfl
set_option maxRecDepth 100000 in
theorem gL_X7_flocks : GoodIn lw_tbl (wsV RL 102 RX7 yX7_flocks wsX7_flocks) := gI _ [611, 612, 613, 47, 614, 615, 617, 10, 47, 618, 253, 247, 619, 620, 621, 53, 622, 208, 210, 212, 623, 624, 625, 626, 627, 81, 48, 82, 83, 628, 333, 334, 335, 86, 85, 316, 305, 306, 315, 302, 303, 80, 629, 630, 631, 632, 422, 423, 451, 452, 635, 636, 256, 258, 260, 262, 264, 266, 268, 270, 272, 213, 215, 217, 92, 94, 96, 98] rfl rfl
set_option maxRecDepth 100000 in
theorem gL_X8_flocks : GoodIn lw_tbl (wsV RL 105 RX8 yX8_flocks wsX8_flocks) := gI _ [1106, 1107, 1108, 55, 1109, 1110, 889, 890, 55, 891, 1111, 1113, 39, 1114, 758, 757, 1115, 1116, 1117, 799, 801, 803, 805, 807, 809, 811, 813, 815, 817, 819, 821, 823, 825, 827, 829, 831, 833, 835, 837, 839, 841, 843, 845, 847, 849, 851, 853, 855, 857, 859, 861, 863, 865, 867, 869, 871, 873, 875, 877, 879, 881] rfl rfl
set_option maxRecDepth 100000 in
theorem gL_X7_flock : GoodIn lw_tbl (wsV RL 106 RX7 yX7_flock wsX7_flock) := gI _ [637, 638, 639, 47, 640, 253, 247, 641, 643, 11, 47, 644, 619, 620, 621, 53, 622, 208, 210, 212, 623, 624, 625, 626, 627, 81, 48, 82, 83, 628, 333, 334, 335, 86, 85, 316, 305, 306, 315, 302, 303, 80, 629, 630, 631, 632, 422, 423, 451, 452, 635, 636, 645, 646, 647, 648, 649, 650, 312, 313, 314, 651, 652, 653, 655, 654, 327, 328, 656, 346, 57, 347, 657, 330, 331, 658, 659, 660, 661, 662, 663, 664, 256, 258, 260, 262, 264, 266, 268, 270, 272, 213, 215, 217, 92, 94, 96, 98] rfl rfl
set_option maxRecDepth 100000 in
theorem gL_X8_flock : GoodIn lw_tbl (wsV RL 109 RX8 yX8_flock wsX8_flock) := gI _ [1118, 1119, 1120, 55, 1121, 1110, 925, 789, 790, 889, 890, 55, 891, 1122, 1124, 40, 1125, 888, 758, 757, 892, 1126, 1127, 942, 943, 944, 898, 900, 15, 901, 993, 994, 995, 756, 996, 1115, 1116, 1117, 1111, 1113, 39, 1114, 799, 801, 803, 805, 807, 809, 811, 813, 815, 817, 819, 821, 823, 825, 827, 829, 831, 833, 835, 837, 839, 841, 843, 845, 847, 849, 851, 853, 855, 857, 859, 861, 863, 865, 867, 869, 871, 873, 875, 877, 879, 881] rfl rfl
set_option maxRecDepth 100000 in
theorem gL_X7_has : GoodIn lw_tbl (wsV RL 110 RX7 yX7_has wsX7_has) := gI _ [665, 666, 667, 47, 668, 253, 248, 669, 670, 47, 671, 287, 288, 289, 619, 620, 621, 53, 622, 208, 210, 212, 301, 302, 48, 303, 304, 305, 306, 672, 630, 631, 632, 422, 423, 451, 452, 256, 258, 260, 262, 264, 266, 268, 270, 272, 213, 215, 217] rfl rfl
set_option maxRecDepth 100000 in
theorem gL_X8_has : GoodIn lw_tbl (wsV RL 113 RX8 yX8_has wsX8_has) := gI _ [1128, 1129, 1130, 55, 1131, 759, 760, 1132, 1133, 55, 1134, 1110, 889, 890, 891, 906, 907, 908, 909, 1115, 1116, 1117, 799, 801, 803, 805, 807, 809, 811, 813, 815, 817, 819, 821, 823, 825, 827, 829, 831, 833, 835, 837, 839, 841, 843, 845, 847, 849, 851, 853, 855, 857, 859, 861, 863, 865, 867, 869, 871, 873, 875, 877, 879, 881] rfl rfl
set_option maxRecDepth 100000 in
theorem gL_X7_joined : GoodIn lw_tbl (wsV RL 114 RX7 yX7_joined wsX7_joined) := gI _ [673, 674, 675, 47, 676, 253, 254, 669, 670, 47, 671, 619, 620, 621, 53, 622, 208, 210, 212, 677, 678, 679, 680, 687, 682, 683, 684, 685, 57, 686, 479, 451, 452, 629, 630, 631, 632, 422, 423, 688, 689, 690, 691, 692, 649, 693, 571, 57, 572, 694, 695, 696, 697, 661, 662, 663, 664, 256, 258, 260, 262, 264, 266, 268, 270, 272, 213, 215, 217] rfl rfl
set_option maxRecDepth 100000 in
theorem gL_X8_joined : GoodIn lw_tbl (wsV RL 118 RX8 yX8_joined wsX8_joined) := gI _ [1135, 1136, 1137, 55, 1138, 892, 791, 1110, 792, 1132, 1133, 55, 1134, 889, 890, 891, 1139, 1141, 41, 1142, 793, 1143, 1144, 1145, 1146, 1147, 1148, 942, 943, 944, 1115, 1116, 1117, 1149, 1151, 42, 1152, 1153, 1155, 43, 1156, 1157, 1159, 44, 1160, 799, 801, 803, 805, 807, 809, 811, 813, 815, 817, 819, 821, 823, 825, 827, 829, 831, 833, 835, 837, 839, 841, 843, 845, 847, 849, 851, 853, 855, 857, 859, 861, 863, 865, 867, 869, 871, 873, 875, 877, 879, 881] rfl rfl
set_option maxRecDepth 100000 in
theorem gL_X7_turned : GoodIn lw_tbl (wsV RL 119 RX7 yX7_turned wsX7_turned) := gI _ [698, 699, 700, 47, 701, 248, 253, 247, 669, 670, 47, 671, 287, 288, 289, 619, 620, 621, 53, 622, 208, 210, 212, 295, 81, 48, 82, 83, 332, 333, 334, 335, 86, 85, 316, 305, 306, 315, 302, 303, 80, 702, 703, 704, 705, 635, 636, 706, 690, 691, 692, 649, 682, 683, 684, 685, 57, 686, 479, 693, 571, 57, 572, 694, 695, 696, 697, 661, 662, 663, 664, 256, 258, 260, 262, 264, 266, 268, 270, 272, 213, 215, 217, 92, 94, 96, 98] rfl rfl
set_option maxRecDepth 100000 in
theorem gL_X8_turned : GoodIn lw_tbl (wsV RL 123 RX8 yX8_turned wsX8_turned) := gI _ [1161, 1162, 1163, 55, 1164, 892, 759, 760, 761, 762, 791, 1110, 792, 1132, 1133, 55, 1134, 889, 890, 891, 906, 907, 908, 909, 926, 928, 16, 929, 1149, 1151, 42, 1152, 793, 934, 936, 18, 937, 758, 757, 930, 932, 17, 933, 1153, 1155, 43, 1156, 942, 943, 944, 1143, 1144, 1145, 1146, 1147, 1148, 1157, 1159, 44, 1160, 799, 801, 803, 805, 807, 809, 811, 813, 815, 817, 819, 821, 823, 825, 827, 829, 831, 833, 835, 837, 839, 841, 843, 845, 847, 849, 851, 853, 855, 857, 859, 861, 863, 865, 867, 869, 871, 873, 875, 877, 879, 881] rfl rfl
set_option maxRecDepth 100000 in
theorem gL_X7_where : GoodIn lw_tbl (wsV RL 124 RX7 yX7_where wsX7_where) := gI _ [707, 708, 709, 47, 710, 317, 248, 711, 255, 253, 718, 287, 288, 47, 289, 712, 713, 714, 54, 715, 232, 226, 227, 716, 388, 389, 48, 390, 85, 315, 302, 303, 316, 305, 306, 80, 81, 82, 83, 717, 333, 334, 335, 86, 619, 620, 621, 53, 622, 208, 210, 212, 702, 703, 704, 705, 635, 636, 706, 690, 691, 692, 649, 682, 683, 684, 685, 57, 686, 479, 693, 571, 57, 572, 256, 258, 260, 262, 264, 266, 268, 270, 272, 234, 236, 238, 240, 242, 244, 213, 215, 217, 92, 94, 96, 98] rfl rfl
set_option maxRecDepth 100000 in
theorem gL_X8_where : GoodIn lw_tbl (wsV RL 127 RX8 yX8_where wsX8_where) := gI _ [1165, 1166, 1167, 55, 1168, 756, 1169, 794, 795, 796, 791, 792, 1174, 906, 907, 55, 908, 909, 889, 890, 891, 926, 928, 16, 929, 759, 760, 1170, 1172, 45, 1173, 763, 764, 765, 761, 762, 757, 934, 936, 18, 937, 758, 930, 932, 17, 933, 1149, 1151, 42, 1152, 793, 1153, 1155, 43, 1156, 942, 943, 944, 1143, 1144, 1145, 1146, 1147, 1148, 799, 801, 803, 805, 807, 809, 811, 813, 815, 817, 819, 821, 823, 825, 827, 829, 831, 833, 835, 837, 839, 841, 843, 845, 847, 849, 851, 853, 855, 857, 859, 861, 863, 865, 867, 869, 871, 873, 875, 877, 879, 881] rfl rfl
set_option maxRecDepth 100000 in
theorem gL_X7_leaps : GoodIn lw_tbl (wsV RL 128 RX7 yX7_leaps wsX7_leaps) := gI _ [719, 720, 721, 47, 722, 248, 255, 287, 288, 47, 289, 712, 713, 714, 54, 715, 232, 226, 227, 716, 388, 389, 48, 390, 85, 315, 302, 303, 316, 305, 306, 80, 81, 82, 83, 717, 333, 334, 335, 86, 723, 724, 725, 726, 728, 730, 229, 230, 732, 727, 729, 731, 281, 56, 282, 733, 735, 12, 736, 231, 749, 737, 739, 13, 740, 741, 742, 743, 57, 744, 745, 746, 747, 748, 256, 258, 260, 262, 264, 266, 268, 270, 272, 234, 236, 238, 240, 242, 244, 92, 94, 96, 98] rfl rfl
set_option maxRecDepth 100000 in
theorem gL_X8_leaps : GoodIn lw_tbl (wsV RL 131 RX8 yX8_leaps wsX8_leaps) := gI _ [1175, 1176, 1177, 55, 1178, 759, 1179, 1180, 760, 797, 1181, 798, 794, 795, 796, 1182, 906, 907, 55, 908, 909, 889, 890, 891, 926, 928, 16, 929, 1170, 1172, 45, 1173, 763, 764, 765, 761, 762, 757, 934, 936, 18, 937, 758, 930, 932, 17, 933, 799, 801, 803, 805, 807, 809, 811, 813, 815, 817, 819, 821, 823, 825, 827, 829, 831, 833, 835, 837, 839, 841, 843, 845, 847, 849, 851, 853, 855, 857, 859, 861, 863, 865, 867, 869, 871, 873, 875, 877, 879, 881] rfl rfl
set_option maxRecDepth 100000 in
theorem qL_0 : (.instantiable RX0 4 : Cond) ∈ lw_tbl := List.mem_of_getElem? (i := 126) rfl
set_option maxRecDepth 100000 in
theorem qL_1 : (.instantiable RX1 3 : Cond) ∈ lw_tbl := List.mem_of_getElem? (i := 203) rfl
set_option maxRecDepth 100000 in
theorem qL_2 : (.instantiable RX2 6 : Cond) ∈ lw_tbl := List.mem_of_getElem? (i := 221) rfl
set_option maxRecDepth 100000 in
theorem qL_3 : (.instantiable RX3 4 : Cond) ∈ lw_tbl := List.mem_of_getElem? (i := 102) rfl
set_option maxRecDepth 100000 in
theorem qL_4 : (.instantiable RX4 4 : Cond) ∈ lw_tbl := List.mem_of_getElem? (i := 67) rfl
set_option maxRecDepth 100000 in
theorem qL_5 : (.instantiable RX5 9 : Cond) ∈ lw_tbl := List.mem_of_getElem? (i := 164) rfl
set_option maxRecDepth 100000 in
theorem qL_6 : (.instantiable RX6 3 : Cond) ∈ lw_tbl := List.mem_of_getElem? (i := 147) rfl
set_option maxRecDepth 100000 in
theorem qL_7 : (.instantiable RX7 9 : Cond) ∈ lw_tbl := List.mem_of_getElem? (i := 59) rfl
set_option maxRecDepth 100000 in
theorem qL_8 : (.instantiable RX8 42 : Cond) ∈ lw_tbl := List.mem_of_getElem? (i := 751) rfl
set_option maxRecDepth 100000 in
theorem qL_9 : (.classLink RL 7 RX7 : Cond) ∈ lw_tbl := List.mem_of_getElem? (i := 58) rfl
set_option maxRecDepth 100000 in
theorem qL_10 : (.initialized RX7 : Cond) ∈ lw_tbl := List.mem_of_getElem? (i := 47) rfl
set_option maxRecDepth 100000 in
theorem qL_11 : (.methodLink RL 9 yX7_init : Cond) ∈ lw_tbl := List.mem_of_getElem? (i := 60) rfl
set_option maxRecDepth 100000 in
theorem qL_12 : (.instanceMethod yX7_init : Cond) ∈ lw_tbl := List.mem_of_getElem? (i := 61) rfl
set_option maxRecDepth 100000 in
theorem qL_13 : (.classLink RL 10 RX8 : Cond) ∈ lw_tbl := List.mem_of_getElem? (i := 750) rfl
set_option maxRecDepth 100000 in
theorem qL_14 : (.initialized RX8 : Cond) ∈ lw_tbl := List.mem_of_getElem? (i := 55) rfl
set_option maxRecDepth 100000 in
theorem qL_15 : (.methodLink RL 12 yX8_init : Cond) ∈ lw_tbl := List.mem_of_getElem? (i := 752) rfl
set_option maxRecDepth 100000 in
theorem qL_16 : (.instanceMethod yX8_init : Cond) ∈ lw_tbl := List.mem_of_getElem? (i := 753) rfl
set_option maxRecDepth 100000 in
theorem qL_zT : (.laysStatic "PlaneWholes$Net" "T" "[I" : Cond) ∈ lw_tbl := List.mem_of_getElem? (i := 77) rfl
set_option maxRecDepth 100000 in
theorem qL_zN : (.laysStatic "PlaneWholes$Net" "N" "[I" : Cond) ∈ lw_tbl := List.mem_of_getElem? (i := 79) rfl
set_option maxRecDepth 100000 in
theorem qL_zI : (.initialized "PlaneWholes$Net" : Cond) ∈ lw_tbl := List.mem_of_getElem? (i := 48) rfl
set_option maxRecDepth 100000 in
theorem nwl_in : ∀ w ∈ nwl, w ∈ lw_tbl := by
  intro w hw
  have h1 : some w ∈ ([87, 88, 91, 109, 111, 112, 114, 134, 136, 155, 175, 177, 179, 181, 204, 209, 211, 228, 233, 421, 439, 450, 633, 634, 681] : List Nat).map (fun i => lw_tbl[i]?) := by
    rw [show ([87, 88, 91, 109, 111, 112, 114, 134, 136, 155, 175, 177, 179, 181, 204, 209, 211, 228, 233, 421, 439, 450, 633, 634, 681] : List Nat).map (fun i => lw_tbl[i]?) = nwl.map some from rfl]; exact List.mem_map_of_mem hw
  obtain ⟨i, -, hi⟩ := List.mem_map.mp h1
  exact List.mem_of_getElem? hi
theorem law_in {L i : Nat} {x3 : Int32} (hL : L ≤ 4608) (ex3 : x3 = nI i) (c1 : ¬ (Int32.ofNat L - (9 : Int32) < x3)) (hi : i ≤ L + 9) : i + 9 ≤ L := by
  subst ex3
  have h1 : (Int32.ofNat L - (9 : Int32)).toInt = (L : Int) - 9 := pk_sub_toInt (a := L) (b := 9) (by omega) (by decide)
  have h2 : (nI i).toInt = (i : Int) := nI_toInt (by omega)
  rw [Int32.lt_iff_toInt_lt, h1, h2] at c1
  omega
theorem law_vp {L i : Nat} {x3 : Int32} {j : Nat} (hL : L ≤ 4608) (ex3 : x3 = nI i) (h : i + j < L) : vp_in (x3 + nI j) L := by
  rw [ex3, nI_add]
  exact vp_in_nI h (by omega)
theorem law_9 {i : Nat} {x3 : Int32} (ex3 : x3 = nI i) : x3 + (9 : Int32) = nI (i + 9) := by
  rw [ex3]
  exact nI_add i 9
set_option maxRecDepth 100000 in
theorem law_zz {s : State} {args : Array Value} (hts : ∀ w ∈ lw_tbl, w.before args s = true) (hgv : (Jvm.Cond.and given_1 narrow_1).before args s = true) : ∃ tT tN, ZZ tT tN (fun q : Nat => s.heap.size ≤ q) s s.heap := by
  have hs := flat_of_before _ hgv
  have hAn : ∀ a : Nat, a < s.heap.size → ¬ (fun q : Nat => s.heap.size ≤ q) a := fun a h => Nat.not_le.mpr h
  have eT : ∀ j : Nat, j < 5 → (Term.elem (.static "PlaneWholes$Net" "T" "[I") (.int (Int32.ofNat j))).eval args s none [] s = some (.int (net_T j)) := by
    intro j hj
    rcases (show j = 0 ∨ j = 1 ∨ j = 2 ∨ j = 3 ∨ j = 4 by omega) with rfl | rfl | rfl | rfl | rfl
    · exact va_eqt (hs (.eq (.elem (.static "PlaneWholes$Net" "T" "[I") (.int 0)) (.int 0)) (by decide +kernel))
    · exact va_eqt (hs (.eq (.elem (.static "PlaneWholes$Net" "T" "[I") (.int 1)) (.int (-1))) (by decide +kernel))
    · exact va_eqt (hs (.eq (.elem (.static "PlaneWholes$Net" "T" "[I") (.int 2)) (.int 0)) (by decide +kernel))
    · exact va_eqt (hs (.eq (.elem (.static "PlaneWholes$Net" "T" "[I") (.int 3)) (.int 1)) (by decide +kernel))
    · exact va_eqt (hs (.eq (.elem (.static "PlaneWholes$Net" "T" "[I") (.int 4)) (.int 1)) (by decide +kernel))
  have eN : ∀ j : Nat, j < 5 → (Term.elem (.static "PlaneWholes$Net" "N" "[I") (.int (Int32.ofNat j))).eval args s none [] s = some (.int (net_N j)) := by
    intro j hj
    rcases (show j = 0 ∨ j = 1 ∨ j = 2 ∨ j = 3 ∨ j = 4 by omega) with rfl | rfl | rfl | rfl | rfl
    · exact va_eqt (hs (.eq (.elem (.static "PlaneWholes$Net" "N" "[I") (.int 0)) (.int 1)) (by decide +kernel))
    · exact va_eqt (hs (.eq (.elem (.static "PlaneWholes$Net" "N" "[I") (.int 1)) (.int 1)) (by decide +kernel))
    · exact va_eqt (hs (.eq (.elem (.static "PlaneWholes$Net" "N" "[I") (.int 2)) (.int 2)) (by decide +kernel))
    · exact va_eqt (hs (.eq (.elem (.static "PlaneWholes$Net" "N" "[I") (.int 3)) (.int 2)) (by decide +kernel))
    · exact va_eqt (hs (.eq (.elem (.static "PlaneWholes$Net" "N" "[I") (.int 4)) (.int 3)) (by decide +kernel))
  obtain ⟨tT, h1, h2⟩ := va_Tof (args := args) (s := s) (tm := .static "PlaneWholes$Net" "T" "[I") (ty := .int) (N := 5) (f := fun j => .int (net_T j)) (A := fun q : Nat => s.heap.size ≤ q) (by decide) (hs _ (by decide +kernel)) (va_eqt (hs (.eq (.length (.static "PlaneWholes$Net" "T" "[I")) (.int 5)) (by decide +kernel))) eT hAn
  obtain ⟨tN, h3, h4⟩ := va_Tof (args := args) (s := s) (tm := .static "PlaneWholes$Net" "N" "[I") (ty := .int) (N := 5) (f := fun j => .int (net_N j)) (A := fun q : Nat => s.heap.size ≤ q) (by decide) (hs _ (by decide +kernel)) (va_eqt (hs (.eq (.length (.static "PlaneWholes$Net" "N" "[I")) (.int 5)) (by decide +kernel))) eN hAn
  exact ⟨tT, tN, va_Zof (hts _ qL_zT) (hts _ qL_zI) h1 hAn, h2, va_Zof (hts _ qL_zN) (hts _ qL_zI) h3 hAn, h4⟩

/-! THE CLAIM OUT OF ONE WALK OF THE LAW'S BODY. Your part is whole_start (and what it stands on); all else here is the same for every law, but numbers. -/
def R_law : String := "PlaneWholesLaw"
def lw_P (b : Addr) (xs : List Int32) (args : Array Value) (s : State) : Prop := args = #[.ref b] ∧ s.IntsAt b xs ∧ xs.length ≤ 4608 ∧ (Jvm.Cond.and given_1 narrow_1).before args s = true
def lw_Q (_ : Array Value) (s : State) (o : Outcome) (t : State) : Prop := o = .returned (some (.int 1)) ∧ Framed s o t [] 30 11529
def lw_Z (below : List Frame) (a : Array Value) (s : State) : State → Prop := fun t => ∃ o, t.status = .running ∧ Ended t below o ∧ lw_Q a s o t
/-- the law's own end, with 1 on the stack, nothing written that was there before, its room as the claim has it -/
theorem lw_ret {p : Program} {l : Launch} {e : Env} {s : State} {m : MethodId} {below : List Frame} {meth : Method} {c : Code} {b : Nat} (hx : p.tables.exec = Jvm.exec) (hb : c.code = code) (hr : meth.sig.returnType = ret) (hlocks : meth.locks = false) {pc : Nat} {H : Heap} {ls : Array Slot} (hdg : decode code pc = .ok (.ireturn, 1)) : W p l e room_1 s m #[Value.ref b] below meth c H [] 30 11529 (lw_Z below #[Value.ref b] s) (F0 m pc ls [.int 1]) := by
  intro T hT X
  obtain ⟨fs, hret, hrun, hended, hW, hframe⟩ := X.leave (v := some (.int 1)) (hlocks := hlocks) (fun h => by rw [hr] at h; cases h)
  have hmeth' : T.vm.method? m = some meth := X.method'
  refine ⟨T.setFrames fs, ?_, .returned (some (.int 1)), hrun, hended, rfl, ⟨_, rfl⟩, hW, hframe⟩
  jvm_step X.here [X.here.top, hx, hb, hdg, hmeth', hr, ret, narrow_b1]
  (try refine ⟨rfl, ?_⟩); (try refine ⟨rfl, ?_⟩)
  first | (intro acts; rw [hret _ acts rfl rfl rfl]) | rw [hret _ _ rfl rfl rfl]
  exact Steps.refl _
/-- what holds at the law's entry: the machine, the code, the tables' words (any of lw_tbl by 'hts w (by decide +kernel)'), the script of L ints xs at the cell b, what the Statement gives of the start (any of its parts by flat_of_before) -/
def lw_At (p : Program) (s : State) (m : MethodId) (meth : Method) (c : Code) (b L : Nat) (xs : Nat → Int32) : Prop :=
  p.tables.exec = Jvm.exec ∧ c.code = code ∧ meth.sig.returnType = ret ∧ c.maxLocals = 4 ∧ s.vm.findClass R_law = some m.cls ∧ (∀ w ∈ lw_tbl, w.before #[Value.ref b] s = true) ∧ va_X b L xs s s.heap ∧ b < s.heap.size ∧ meth.locks = false ∧ (Jvm.Cond.and given_1 narrow_1).before #[Value.ref b] s = true
set_option maxHeartbeats 40000000 in
set_option maxRecDepth 100000 in
theorem law_loop (REL : CSt → MSt → Prop) (hm_kind : HM_kind REL) (hm_set : HM_set REL) (hm_get : HM_get REL) (hm_size : HM_size REL) (hm_reckon : HM_reckon REL) (hm_turn : HM_turn REL) (hm_makes : HM_makes REL) (hm_like : HM_like REL) (hm_parts : HM_parts REL) (hm_part : HM_part REL) (hm_ofSize : HM_ofSize REL) (hm_within : HM_within REL) (hm_power : HM_power REL) (hm_order : HM_order REL) (hm_inverse : HM_inverse REL) (hm_single : HM_single REL) (hm_roots : HM_roots REL) (hm_root : HM_root REL) (hm_digit : HM_digit REL) (hm_digits : HM_digits REL) (hm_rounds : HM_rounds REL) (hm_flocks : HM_flocks REL) (hm_flock : HM_flock REL) (hm_has : HM_has REL) (hm_joined : HM_joined REL) (hm_turned : HM_turned REL) (hm_where : HM_where REL) (hm_leaps : HM_leaps REL) {p : Program} {l : Launch} {e : Env} {s : State} {m : MethodId} {below : List Frame} {meth : Method} {c : Code} {dC : Nat → ClassId} {dI : Nat → Nat → Nat} {b L tT tN : Nat} {xs : Nat → Int32} (hL : L ≤ 4608) (C0 : lw_At p s m meth c b L xs) (hN : NW s) (hZ : ZZ tT tN (fun q : Nat => s.heap.size ≤ q) s s.heap) (rA rB : Nat → Nat) (kA kB : Nat → ClassId) (hK : va_K (dC, dI) vwCl [((kA 2), .long), ((kA 5), .long), ((kA 8), .int), ((kA 12), .long), ((kA 13), .long), ((kA 14), .long), ((kA 15), .long), ((kB 1), .long), ((kB 2), .long), ((kB 3), .long), ((kB 4), .long), ((kB 5), .long), ((kB 6), .long), ((kB 7), .long), ((kB 8), .long), ((kB 9), .int), ((kB 10), .long), ((kB 11), .long), ((kB 12), .int), ((kB 13), .int)] s) :
    ∀ (n i : Nat) (x3 : Int32) (cs : CSt) (ms : MSt) (H : Heap) (locs : List Loc) (ls : Array Slot), i ≤ L + 9 → L + 10 ≤ i + n → x3 = nI i → REL cs ms → va_P (dC, dI) vwCl [ce_pw rA , ce_net rA (a_net_t cs) (a_net_n cs) (a_net_units cs) (a_net_spin cs), ce_J (rA 2) (kA 2) 8 (a_reg cs), ce_mak rA (a_mak_common cs) (a_mak_u cs) (a_mak_v cs), ce_fac rA (a_fac_count cs) (a_fac_left cs), ce_J (rA 5) (kA 5) 40 (a_pri cs), ce_rsd rA (a_rsd_found cs), ce_num rA (a_num_base cs) (a_num_size cs) (a_num_digitOfW cs) (a_num_tail cs) (a_num_round cs) (a_num_rings cs) (a_num_ringed cs), ce_I (rA 8) (kA 8) 625 (a_mrk cs), ce_fl (rA 9) (a_fl_p cs) (a_fl_q cs) (a_fl_r cs), ce_fl (rA 10) (a_ot_p cs) (a_ot_q cs) (a_ot_r cs), ce_lea rA (a_lea_count cs), ce_J (rA 12) (kA 12) 12 (a_lps cs), ce_J (rA 13) (kA 13) 61 (a_sen cs), ce_J (rA 14) (kA 14) 61 (a_edg cs), ce_J (rA 15) (kA 15) 61 (a_nxt cs), ce_mod rB (a_mod_t ms) (a_mod_n ms) (a_mod_a ms) (a_mod_b ms) (a_mod_unitMany ms) (a_mod_quotA ms) (a_mod_quotB ms) (a_mod_unitUsed ms) (a_mod_fu ms) (a_mod_fuB ms) (a_mod_fv ms) (a_mod_fvB ms) (a_mod_madeA ms) (a_mod_madeB ms) (a_mod_partMany ms) (a_mod_leftA ms) (a_mod_leftB ms) (a_mod_rootA ms) (a_mod_rootB ms) (a_mod_tail ms) (a_mod_round ms) (a_mod_sum ms) (a_mod_rowMany ms) (a_mod_least ms) (a_mod_leastMany ms) (a_mod_netP ms) (a_mod_netQ ms) (a_mod_netR ms) (a_mod_leapMany ms), ce_J (rB 1) (kB 1) 8 (a_regA ms), ce_J (rB 2) (kB 2) 8 (a_regB ms), ce_J (rB 3) (kB 3) 6 (a_unitA ms), ce_J (rB 4) (kB 4) 6 (a_unitB ms), ce_J (rB 5) (kB 5) 40 (a_partA ms), ce_J (rB 6) (kB 6) 40 (a_partB ms), ce_J (rB 7) (kB 7) 1000 (a_rowA ms), ce_J (rB 8) (kB 8) 1000 (a_rowB ms), ce_I (rB 9) (kB 9) 1000 (a_rowDigit ms), ce_J (rB 10) (kB 10) 12 (a_leapA ms), ce_J (rB 11) (kB 11) 12 (a_leapB ms), ce_I (rB 12) (kB 12) 3721 (a_fars ms), ce_I (rB 13) (kB 13) 3721 (a_queue ms)] H → va_D (fun q : Nat => s.heap.size ≤ q) [ce_pw rA , ce_net rA (a_net_t cs) (a_net_n cs) (a_net_units cs) (a_net_spin cs), ce_J (rA 2) (kA 2) 8 (a_reg cs), ce_mak rA (a_mak_common cs) (a_mak_u cs) (a_mak_v cs), ce_fac rA (a_fac_count cs) (a_fac_left cs), ce_J (rA 5) (kA 5) 40 (a_pri cs), ce_rsd rA (a_rsd_found cs), ce_num rA (a_num_base cs) (a_num_size cs) (a_num_digitOfW cs) (a_num_tail cs) (a_num_round cs) (a_num_rings cs) (a_num_ringed cs), ce_I (rA 8) (kA 8) 625 (a_mrk cs), ce_fl (rA 9) (a_fl_p cs) (a_fl_q cs) (a_fl_r cs), ce_fl (rA 10) (a_ot_p cs) (a_ot_q cs) (a_ot_r cs), ce_lea rA (a_lea_count cs), ce_J (rA 12) (kA 12) 12 (a_lps cs), ce_J (rA 13) (kA 13) 61 (a_sen cs), ce_J (rA 14) (kA 14) 61 (a_edg cs), ce_J (rA 15) (kA 15) 61 (a_nxt cs), ce_mod rB (a_mod_t ms) (a_mod_n ms) (a_mod_a ms) (a_mod_b ms) (a_mod_unitMany ms) (a_mod_quotA ms) (a_mod_quotB ms) (a_mod_unitUsed ms) (a_mod_fu ms) (a_mod_fuB ms) (a_mod_fv ms) (a_mod_fvB ms) (a_mod_madeA ms) (a_mod_madeB ms) (a_mod_partMany ms) (a_mod_leftA ms) (a_mod_leftB ms) (a_mod_rootA ms) (a_mod_rootB ms) (a_mod_tail ms) (a_mod_round ms) (a_mod_sum ms) (a_mod_rowMany ms) (a_mod_least ms) (a_mod_leastMany ms) (a_mod_netP ms) (a_mod_netQ ms) (a_mod_netR ms) (a_mod_leapMany ms), ce_J (rB 1) (kB 1) 8 (a_regA ms), ce_J (rB 2) (kB 2) 8 (a_regB ms), ce_J (rB 3) (kB 3) 6 (a_unitA ms), ce_J (rB 4) (kB 4) 6 (a_unitB ms), ce_J (rB 5) (kB 5) 40 (a_partA ms), ce_J (rB 6) (kB 6) 40 (a_partB ms), ce_J (rB 7) (kB 7) 1000 (a_rowA ms), ce_J (rB 8) (kB 8) 1000 (a_rowB ms), ce_I (rB 9) (kB 9) 1000 (a_rowDigit ms), ce_J (rB 10) (kB 10) 12 (a_leapA ms), ce_J (rB 11) (kB 11) 12 (a_leapB ms), ce_I (rB 12) (kB 12) 3721 (a_fars ms), ce_I (rB 13) (kB 13) 3721 (a_queue ms)] → va_S (fun q : Nat => s.heap.size ≤ q) s.heap H locs → lv_has ls 4 [(3, .int x3), (0, .ref b), (1, .ref (rA 0)), (2, .ref (rB 0))] → W p l e room_1 s m #[Value.ref b] below meth c H locs 30 11529 (lw_Z below #[Value.ref b] s) (F0 m 18 ls []) := by
  obtain ⟨hx, hb, hr, hml, hown, hts, hX, hbl, hlocks, hgv⟩ := C0
  have hA : ∀ q : Nat, s.heap.size ≤ q → (fun q : Nat => s.heap.size ≤ q) q := fun _ h => h
  have hbA : ¬ (fun q : Nat => s.heap.size ≤ q) b := Nat.not_le.mpr hbl
  intro n
  induction n with
  | zero =>
    intro i x3 cs ms H locs ls h1 h2
    exact absurd h2 (by omega)
  | succ n ih =>
    intro i x3 cs ms H locs ls hi hin ex3 hR hP hD hS hl
    refine lv_iload_n hx hb dL_law_18 rfl (lv_at hl 0 rfl) ?_
    refine lv_aload_n hx hb dL_law_19 rfl (lv_at hl 1 rfl) ?_
    refine va_slen hx hb hX hbl hbA hS dL_law_20 ?_
    refine lv_bipush (v := (9 : Int32)) hx hb dL_law_21 (by decide) ?_
    refine lv_isub hx hb dL_law_23 ?_
    refine lv_icmp_gt (tgt := 1304) hx hb dL_law_24 (by decide) (fun c1 => ?_) (fun c1 => ?_)
    · refine lv_iconst (v := 1) hx hb dL_law_1304 (by decide) ?_
      refine va_forget (fun q hq => hS.2.2 q hq) ?_
      exact lw_ret hx hb hr hlocks dL_law_1305
    · have hle : i + 9 ≤ L := law_in hL ex3 c1 hi
      have hin0 : vp_in x3 L := by rw [ex3]; exact vp_in_nI (by omega) (by omega)
      have hin1 : vp_in (x3 + (1 : Int32)) L := law_vp (j := 1) hL ex3 (by omega)
      have hin2 : vp_in (x3 + (2 : Int32)) L := law_vp (j := 2) hL ex3 (by omega)
      have hin3 : vp_in (x3 + (3 : Int32)) L := law_vp (j := 3) hL ex3 (by omega)
      have hin4 : vp_in (x3 + (4 : Int32)) L := law_vp (j := 4) hL ex3 (by omega)
      have hin5 : vp_in (x3 + (5 : Int32)) L := law_vp (j := 5) hL ex3 (by omega)
      have hin6 : vp_in (x3 + (6 : Int32)) L := law_vp (j := 6) hL ex3 (by omega)
      have hin7 : vp_in (x3 + (7 : Int32)) L := law_vp (j := 7) hL ex3 (by omega)
      have hin8 : vp_in (x3 + (8 : Int32)) L := law_vp (j := 8) hL ex3 (by omega)
      have hnext : ∀ (cs : CSt) (ms : MSt) (H : Heap) (locs : List Loc) (ls : Array Slot), REL cs ms → va_P (dC, dI) vwCl [ce_pw rA , ce_net rA (a_net_t cs) (a_net_n cs) (a_net_units cs) (a_net_spin cs), ce_J (rA 2) (kA 2) 8 (a_reg cs), ce_mak rA (a_mak_common cs) (a_mak_u cs) (a_mak_v cs), ce_fac rA (a_fac_count cs) (a_fac_left cs), ce_J (rA 5) (kA 5) 40 (a_pri cs), ce_rsd rA (a_rsd_found cs), ce_num rA (a_num_base cs) (a_num_size cs) (a_num_digitOfW cs) (a_num_tail cs) (a_num_round cs) (a_num_rings cs) (a_num_ringed cs), ce_I (rA 8) (kA 8) 625 (a_mrk cs), ce_fl (rA 9) (a_fl_p cs) (a_fl_q cs) (a_fl_r cs), ce_fl (rA 10) (a_ot_p cs) (a_ot_q cs) (a_ot_r cs), ce_lea rA (a_lea_count cs), ce_J (rA 12) (kA 12) 12 (a_lps cs), ce_J (rA 13) (kA 13) 61 (a_sen cs), ce_J (rA 14) (kA 14) 61 (a_edg cs), ce_J (rA 15) (kA 15) 61 (a_nxt cs), ce_mod rB (a_mod_t ms) (a_mod_n ms) (a_mod_a ms) (a_mod_b ms) (a_mod_unitMany ms) (a_mod_quotA ms) (a_mod_quotB ms) (a_mod_unitUsed ms) (a_mod_fu ms) (a_mod_fuB ms) (a_mod_fv ms) (a_mod_fvB ms) (a_mod_madeA ms) (a_mod_madeB ms) (a_mod_partMany ms) (a_mod_leftA ms) (a_mod_leftB ms) (a_mod_rootA ms) (a_mod_rootB ms) (a_mod_tail ms) (a_mod_round ms) (a_mod_sum ms) (a_mod_rowMany ms) (a_mod_least ms) (a_mod_leastMany ms) (a_mod_netP ms) (a_mod_netQ ms) (a_mod_netR ms) (a_mod_leapMany ms), ce_J (rB 1) (kB 1) 8 (a_regA ms), ce_J (rB 2) (kB 2) 8 (a_regB ms), ce_J (rB 3) (kB 3) 6 (a_unitA ms), ce_J (rB 4) (kB 4) 6 (a_unitB ms), ce_J (rB 5) (kB 5) 40 (a_partA ms), ce_J (rB 6) (kB 6) 40 (a_partB ms), ce_J (rB 7) (kB 7) 1000 (a_rowA ms), ce_J (rB 8) (kB 8) 1000 (a_rowB ms), ce_I (rB 9) (kB 9) 1000 (a_rowDigit ms), ce_J (rB 10) (kB 10) 12 (a_leapA ms), ce_J (rB 11) (kB 11) 12 (a_leapB ms), ce_I (rB 12) (kB 12) 3721 (a_fars ms), ce_I (rB 13) (kB 13) 3721 (a_queue ms)] H → va_D (fun q : Nat => s.heap.size ≤ q) [ce_pw rA , ce_net rA (a_net_t cs) (a_net_n cs) (a_net_units cs) (a_net_spin cs), ce_J (rA 2) (kA 2) 8 (a_reg cs), ce_mak rA (a_mak_common cs) (a_mak_u cs) (a_mak_v cs), ce_fac rA (a_fac_count cs) (a_fac_left cs), ce_J (rA 5) (kA 5) 40 (a_pri cs), ce_rsd rA (a_rsd_found cs), ce_num rA (a_num_base cs) (a_num_size cs) (a_num_digitOfW cs) (a_num_tail cs) (a_num_round cs) (a_num_rings cs) (a_num_ringed cs), ce_I (rA 8) (kA 8) 625 (a_mrk cs), ce_fl (rA 9) (a_fl_p cs) (a_fl_q cs) (a_fl_r cs), ce_fl (rA 10) (a_ot_p cs) (a_ot_q cs) (a_ot_r cs), ce_lea rA (a_lea_count cs), ce_J (rA 12) (kA 12) 12 (a_lps cs), ce_J (rA 13) (kA 13) 61 (a_sen cs), ce_J (rA 14) (kA 14) 61 (a_edg cs), ce_J (rA 15) (kA 15) 61 (a_nxt cs), ce_mod rB (a_mod_t ms) (a_mod_n ms) (a_mod_a ms) (a_mod_b ms) (a_mod_unitMany ms) (a_mod_quotA ms) (a_mod_quotB ms) (a_mod_unitUsed ms) (a_mod_fu ms) (a_mod_fuB ms) (a_mod_fv ms) (a_mod_fvB ms) (a_mod_madeA ms) (a_mod_madeB ms) (a_mod_partMany ms) (a_mod_leftA ms) (a_mod_leftB ms) (a_mod_rootA ms) (a_mod_rootB ms) (a_mod_tail ms) (a_mod_round ms) (a_mod_sum ms) (a_mod_rowMany ms) (a_mod_least ms) (a_mod_leastMany ms) (a_mod_netP ms) (a_mod_netQ ms) (a_mod_netR ms) (a_mod_leapMany ms), ce_J (rB 1) (kB 1) 8 (a_regA ms), ce_J (rB 2) (kB 2) 8 (a_regB ms), ce_J (rB 3) (kB 3) 6 (a_unitA ms), ce_J (rB 4) (kB 4) 6 (a_unitB ms), ce_J (rB 5) (kB 5) 40 (a_partA ms), ce_J (rB 6) (kB 6) 40 (a_partB ms), ce_J (rB 7) (kB 7) 1000 (a_rowA ms), ce_J (rB 8) (kB 8) 1000 (a_rowB ms), ce_I (rB 9) (kB 9) 1000 (a_rowDigit ms), ce_J (rB 10) (kB 10) 12 (a_leapA ms), ce_J (rB 11) (kB 11) 12 (a_leapB ms), ce_I (rB 12) (kB 12) 3721 (a_fars ms), ce_I (rB 13) (kB 13) 3721 (a_queue ms)] → va_S (fun q : Nat => s.heap.size ≤ q) s.heap H locs → lv_has ls 4 [(3, .int x3), (0, .ref b), (1, .ref (rA 0)), (2, .ref (rB 0))] → W p l e room_1 s m #[Value.ref b] below meth c H locs 30 11529 (lw_Z below #[Value.ref b] s) (F0 m 1298 ls []) := by
        intro cs ms H locs ls hR hP hD hS hl
        refine lv_iinc (v := (x3 + (9 : Int32))) (lv' := [(3, .int (x3 + (9 : Int32))), (0, .ref b), (1, .ref (rA 0)), (2, .ref (rB 0))]) hx hb dL_law_1298 hl (k := 0) rfl rfl (by decide) rfl (fun ls hl => ?_)
        refine lv_goto (tgt := 18) hx hb dL_law_1301 (by decide) ?_
        exact ih (i + 9) _ cs ms H locs ls (by omega) (by omega) (law_9 ex3) hR hP hD hS hl
      refine lv_aload_n hx hb dL_law_27 rfl (lv_at hl 1 rfl) ?_
      refine lv_iload_n hx hb dL_law_28 rfl (lv_at hl 0 rfl) ?_
      refine va_sld hx hb hX hbl hbA hS hin0 dL_law_29 ?_
      refine lv_bipush (v := (31 : Int32)) hx hb dL_law_30 (by decide) ?_
      refine lv_iand hx hb dL_law_32 ?_
      generalize hsel : (xs x3.toNatClampNeg &&& (31 : Int32)) = sel
      by_cases g_0 : sel = (0 : Int32)
      · refine lv_tableIn (tgt := 160) hx hb dL_law_33 (by rw [g_0]; decide) (by rw [g_0]; decide) (by rw [g_0]; rfl) (by decide) ?_
        clear g_0 hsel
        refine lv_aload_n hx hb dL_law_160 rfl (lv_at hl 2 rfl) ?_
        refine lv_aload_n hx hb dL_law_161 rfl (lv_at hl 1 rfl) ?_
        refine lv_iload_n hx hb dL_law_162 rfl (lv_at hl 0 rfl) ?_
        refine lv_iconst (v := (1 : Int32)) hx hb dL_law_163 (by decide) ?_
        refine lv_iadd hx hb dL_law_164 ?_
        refine va_sld hx hb hX hbl hbA hS hin1 dL_law_165 ?_
        obtain ⟨zp, zq, hzp, hzq, hzr, hR⟩ := hm_kind cs ms hR (xs (x3 + (1 : Int32)).toNatClampNeg)
        have hPc := hP.sub (ws' := [ce_pw rA , ce_net rA (a_net_t cs) (a_net_n cs) (a_net_units cs) (a_net_spin cs), ce_J (rA 2) (kA 2) 8 (a_reg cs)]) [0, 1, 2] rfl
        have hKc := hK.sub (tys' := [((kA 2), .long)]) [0] rfl
        have hDc := hD.sub (ws' := [ce_pw rA , ce_net rA (a_net_t cs) (a_net_n cs) (a_net_units cs) (a_net_spin cs), ce_J (rA 2) (kA 2) 8 (a_reg cs)]) [0, 1, 2] rfl rfl
        refine kw_i (wr := [ce_mak rA (a_mak_common cs) (a_mak_u cs) (a_mak_v cs), ce_fac rA (a_fac_count cs) (a_fac_left cs), ce_J (rA 5) (kA 5) 40 (a_pri cs), ce_rsd rA (a_rsd_found cs), ce_num rA (a_num_base cs) (a_num_size cs) (a_num_digitOfW cs) (a_num_tail cs) (a_num_round cs) (a_num_rings cs) (a_num_ringed cs), ce_I (rA 8) (kA 8) 625 (a_mrk cs), ce_fl (rA 9) (a_fl_p cs) (a_fl_q cs) (a_fl_r cs), ce_fl (rA 10) (a_ot_p cs) (a_ot_q cs) (a_ot_r cs), ce_lea rA (a_lea_count cs), ce_J (rA 12) (kA 12) 12 (a_lps cs), ce_J (rA 13) (kA 13) 61 (a_sen cs), ce_J (rA 14) (kA 14) 61 (a_edg cs), ce_J (rA 15) (kA 15) 61 (a_nxt cs), ce_mod rB (a_mod_t ms) (a_mod_n ms) (a_mod_a ms) (a_mod_b ms) (a_mod_unitMany ms) (a_mod_quotA ms) (a_mod_quotB ms) (a_mod_unitUsed ms) (a_mod_fu ms) (a_mod_fuB ms) (a_mod_fv ms) (a_mod_fvB ms) (a_mod_madeA ms) (a_mod_madeB ms) (a_mod_partMany ms) (a_mod_leftA ms) (a_mod_leftB ms) (a_mod_rootA ms) (a_mod_rootB ms) (a_mod_tail ms) (a_mod_round ms) (a_mod_sum ms) (a_mod_rowMany ms) (a_mod_least ms) (a_mod_leastMany ms) (a_mod_netP ms) (a_mod_netQ ms) (a_mod_netR ms) (a_mod_leapMany ms), ce_J (rB 1) (kB 1) 8 (a_regA ms), ce_J (rB 2) (kB 2) 8 (a_regB ms), ce_J (rB 3) (kB 3) 6 (a_unitA ms), ce_J (rB 4) (kB 4) 6 (a_unitB ms), ce_J (rB 5) (kB 5) 40 (a_partA ms), ce_J (rB 6) (kB 6) 40 (a_partB ms), ce_J (rB 7) (kB 7) 1000 (a_rowA ms), ce_J (rB 8) (kB 8) 1000 (a_rowB ms), ce_I (rB 9) (kB 9) 1000 (a_rowDigit ms), ce_J (rB 10) (kB 10) 12 (a_leapA ms), ce_J (rB 11) (kB 11) 12 (a_leapB ms), ce_I (rB 12) (kB 12) 3721 (a_fars ms), ce_I (rB 13) (kB 13) 3721 (a_queue ms)]) (ws' := [ce_pw rA , ce_net rA zp.2.1 zp.2.2.1 zp.2.2.2.1 zp.2.2.2.2.1, ce_J (rA 2) (kA 2) 8 zp.2.2.2.2.2, ce_mak rA (a_mak_common cs) (a_mak_u cs) (a_mak_v cs), ce_fac rA (a_fac_count cs) (a_fac_left cs), ce_J (rA 5) (kA 5) 40 (a_pri cs), ce_rsd rA (a_rsd_found cs), ce_num rA (a_num_base cs) (a_num_size cs) (a_num_digitOfW cs) (a_num_tail cs) (a_num_round cs) (a_num_rings cs) (a_num_ringed cs), ce_I (rA 8) (kA 8) 625 (a_mrk cs), ce_fl (rA 9) (a_fl_p cs) (a_fl_q cs) (a_fl_r cs), ce_fl (rA 10) (a_ot_p cs) (a_ot_q cs) (a_ot_r cs), ce_lea rA (a_lea_count cs), ce_J (rA 12) (kA 12) 12 (a_lps cs), ce_J (rA 13) (kA 13) 61 (a_sen cs), ce_J (rA 14) (kA 14) 61 (a_edg cs), ce_J (rA 15) (kA 15) 61 (a_nxt cs), ce_mod rB (a_mod_t ms) (a_mod_n ms) (a_mod_a ms) (a_mod_b ms) (a_mod_unitMany ms) (a_mod_quotA ms) (a_mod_quotB ms) (a_mod_unitUsed ms) (a_mod_fu ms) (a_mod_fuB ms) (a_mod_fv ms) (a_mod_fvB ms) (a_mod_madeA ms) (a_mod_madeB ms) (a_mod_partMany ms) (a_mod_leftA ms) (a_mod_leftB ms) (a_mod_rootA ms) (a_mod_rootB ms) (a_mod_tail ms) (a_mod_round ms) (a_mod_sum ms) (a_mod_rowMany ms) (a_mod_least ms) (a_mod_leastMany ms) (a_mod_netP ms) (a_mod_netQ ms) (a_mod_netR ms) (a_mod_leapMany ms), ce_J (rB 1) (kB 1) 8 (a_regA ms), ce_J (rB 2) (kB 2) 8 (a_regB ms), ce_J (rB 3) (kB 3) 6 (a_unitA ms), ce_J (rB 4) (kB 4) 6 (a_unitB ms), ce_J (rB 5) (kB 5) 40 (a_partA ms), ce_J (rB 6) (kB 6) 40 (a_partB ms), ce_J (rB 7) (kB 7) 1000 (a_rowA ms), ce_J (rB 8) (kB 8) 1000 (a_rowB ms), ce_I (rB 9) (kB 9) 1000 (a_rowDigit ms), ce_J (rB 10) (kB 10) 12 (a_leapA ms), ce_J (rB 11) (kB 11) 12 (a_leapB ms), ce_I (rB 12) (kB 12) 3721 (a_fars ms), ce_I (rB 13) (kB 13) 3721 (a_queue ms)]) (va_runV (As := [.int (xs (x3 + (1 : Int32)).toNatClampNeg)]) (rest := []) ⟨hx, hb, hml, hown, hts⟩ (c_X7_kind l dC dI rA kA tT tN H.size (a_net_t cs) (a_net_n cs) (a_net_units cs) (a_net_spin cs) (a_reg cs) (xs (x3 + (1 : Int32)).toNatClampNeg) hzp) (cwV 1 hts gL_X7_kind rfl rfl rfl hv_X7_kind ⟨(Nat.le_of_ble_eq_true rfl), (Nat.le_of_ble_eq_true rfl)⟩) ⟨fb_z, va_recv hK hP (ci := 7) (q0 := 0) rfl rfl, pre_z hPc hDc hKc hN hZ hS (va_free (wc := [ce_pw rA , ce_net rA (a_net_t cs) (a_net_n cs) (a_net_units cs) (a_net_spin cs), ce_J (rA 2) (kA 2) 8 (a_reg cs)]) hD hS hA [0, 1, 2] rfl)⟩ rfl rfl hl.1 rfl (lv_room (Nat.le_of_ble_eq_true rfl)) dL_law_166 ⟨(Nat.le_of_ble_eq_true rfl), (Nat.le_of_ble_eq_true rfl)⟩) hP hD hS hA [0, 1, 2] [3, 4, 5, 6, 7, 8, 9, 10, 11, 12, 13, 14, 15, 16, 17, 18, 19, 20, 21, 22, 23, 24, 25, 26, 27, 28, 29] [27, 28, 29, 0, 1, 2, 3, 4, 5, 6, 7, 8, 9, 10, 11, 12, 13, 14, 15, 16, 17, 18, 19, 20, 21, 22, 23, 24, 25, 26] rfl rfl rfl (by decide) rfl rfl rfl (fun H locs hP hD hS => ?_)
        refine lv_aload_n hx hb dL_law_169 rfl (lv_at hl 3 rfl) ?_
        refine lv_aload_n hx hb dL_law_170 rfl (lv_at hl 1 rfl) ?_
        refine lv_iload_n hx hb dL_law_171 rfl (lv_at hl 0 rfl) ?_
        refine lv_iconst (v := (1 : Int32)) hx hb dL_law_172 (by decide) ?_
        refine lv_iadd hx hb dL_law_173 ?_
        refine va_sld hx hb hX hbl hbA hS hin1 dL_law_174 ?_
        have hPc := hP.sub (ws' := [ce_mod rB (a_mod_t ms) (a_mod_n ms) (a_mod_a ms) (a_mod_b ms) (a_mod_unitMany ms) (a_mod_quotA ms) (a_mod_quotB ms) (a_mod_unitUsed ms) (a_mod_fu ms) (a_mod_fuB ms) (a_mod_fv ms) (a_mod_fvB ms) (a_mod_madeA ms) (a_mod_madeB ms) (a_mod_partMany ms) (a_mod_leftA ms) (a_mod_leftB ms) (a_mod_rootA ms) (a_mod_rootB ms) (a_mod_tail ms) (a_mod_round ms) (a_mod_sum ms) (a_mod_rowMany ms) (a_mod_least ms) (a_mod_leastMany ms) (a_mod_netP ms) (a_mod_netQ ms) (a_mod_netR ms) (a_mod_leapMany ms), ce_J (rB 1) (kB 1) 8 (a_regA ms), ce_J (rB 2) (kB 2) 8 (a_regB ms), ce_J (rB 3) (kB 3) 6 (a_unitA ms), ce_J (rB 4) (kB 4) 6 (a_unitB ms)]) [16, 17, 18, 19, 20] rfl
        have hKc := hK.sub (tys' := [((kB 1), .long), ((kB 2), .long), ((kB 3), .long), ((kB 4), .long)]) [7, 8, 9, 10] rfl
        have hDc := hD.sub (ws' := [ce_mod rB (a_mod_t ms) (a_mod_n ms) (a_mod_a ms) (a_mod_b ms) (a_mod_unitMany ms) (a_mod_quotA ms) (a_mod_quotB ms) (a_mod_unitUsed ms) (a_mod_fu ms) (a_mod_fuB ms) (a_mod_fv ms) (a_mod_fvB ms) (a_mod_madeA ms) (a_mod_madeB ms) (a_mod_partMany ms) (a_mod_leftA ms) (a_mod_leftB ms) (a_mod_rootA ms) (a_mod_rootB ms) (a_mod_tail ms) (a_mod_round ms) (a_mod_sum ms) (a_mod_rowMany ms) (a_mod_least ms) (a_mod_leastMany ms) (a_mod_netP ms) (a_mod_netQ ms) (a_mod_netR ms) (a_mod_leapMany ms), ce_J (rB 1) (kB 1) 8 (a_regA ms), ce_J (rB 2) (kB 2) 8 (a_regB ms), ce_J (rB 3) (kB 3) 6 (a_unitA ms), ce_J (rB 4) (kB 4) 6 (a_unitB ms)]) [16, 17, 18, 19, 20] rfl rfl
        refine kw_i (wr := [ce_pw rA , ce_net rA zp.2.1 zp.2.2.1 zp.2.2.2.1 zp.2.2.2.2.1, ce_J (rA 2) (kA 2) 8 zp.2.2.2.2.2, ce_mak rA (a_mak_common cs) (a_mak_u cs) (a_mak_v cs), ce_fac rA (a_fac_count cs) (a_fac_left cs), ce_J (rA 5) (kA 5) 40 (a_pri cs), ce_rsd rA (a_rsd_found cs), ce_num rA (a_num_base cs) (a_num_size cs) (a_num_digitOfW cs) (a_num_tail cs) (a_num_round cs) (a_num_rings cs) (a_num_ringed cs), ce_I (rA 8) (kA 8) 625 (a_mrk cs), ce_fl (rA 9) (a_fl_p cs) (a_fl_q cs) (a_fl_r cs), ce_fl (rA 10) (a_ot_p cs) (a_ot_q cs) (a_ot_r cs), ce_lea rA (a_lea_count cs), ce_J (rA 12) (kA 12) 12 (a_lps cs), ce_J (rA 13) (kA 13) 61 (a_sen cs), ce_J (rA 14) (kA 14) 61 (a_edg cs), ce_J (rA 15) (kA 15) 61 (a_nxt cs), ce_J (rB 5) (kB 5) 40 (a_partA ms), ce_J (rB 6) (kB 6) 40 (a_partB ms), ce_J (rB 7) (kB 7) 1000 (a_rowA ms), ce_J (rB 8) (kB 8) 1000 (a_rowB ms), ce_I (rB 9) (kB 9) 1000 (a_rowDigit ms), ce_J (rB 10) (kB 10) 12 (a_leapA ms), ce_J (rB 11) (kB 11) 12 (a_leapB ms), ce_I (rB 12) (kB 12) 3721 (a_fars ms), ce_I (rB 13) (kB 13) 3721 (a_queue ms)]) (ws' := [ce_pw rA , ce_net rA zp.2.1 zp.2.2.1 zp.2.2.2.1 zp.2.2.2.2.1, ce_J (rA 2) (kA 2) 8 zp.2.2.2.2.2, ce_mak rA (a_mak_common cs) (a_mak_u cs) (a_mak_v cs), ce_fac rA (a_fac_count cs) (a_fac_left cs), ce_J (rA 5) (kA 5) 40 (a_pri cs), ce_rsd rA (a_rsd_found cs), ce_num rA (a_num_base cs) (a_num_size cs) (a_num_digitOfW cs) (a_num_tail cs) (a_num_round cs) (a_num_rings cs) (a_num_ringed cs), ce_I (rA 8) (kA 8) 625 (a_mrk cs), ce_fl (rA 9) (a_fl_p cs) (a_fl_q cs) (a_fl_r cs), ce_fl (rA 10) (a_ot_p cs) (a_ot_q cs) (a_ot_r cs), ce_lea rA (a_lea_count cs), ce_J (rA 12) (kA 12) 12 (a_lps cs), ce_J (rA 13) (kA 13) 61 (a_sen cs), ce_J (rA 14) (kA 14) 61 (a_edg cs), ce_J (rA 15) (kA 15) 61 (a_nxt cs), ce_mod rB zq.2.1 zq.2.2.1 (a_mod_a ms) (a_mod_b ms) zq.2.2.2.1 (a_mod_quotA ms) (a_mod_quotB ms) (a_mod_unitUsed ms) (a_mod_fu ms) (a_mod_fuB ms) (a_mod_fv ms) (a_mod_fvB ms) (a_mod_madeA ms) (a_mod_madeB ms) (a_mod_partMany ms) (a_mod_leftA ms) (a_mod_leftB ms) (a_mod_rootA ms) (a_mod_rootB ms) (a_mod_tail ms) (a_mod_round ms) (a_mod_sum ms) (a_mod_rowMany ms) (a_mod_least ms) (a_mod_leastMany ms) (a_mod_netP ms) (a_mod_netQ ms) (a_mod_netR ms) (a_mod_leapMany ms), ce_J (rB 1) (kB 1) 8 zq.2.2.2.2.1, ce_J (rB 2) (kB 2) 8 zq.2.2.2.2.2.1, ce_J (rB 3) (kB 3) 6 zq.2.2.2.2.2.2.1, ce_J (rB 4) (kB 4) 6 zq.2.2.2.2.2.2.2, ce_J (rB 5) (kB 5) 40 (a_partA ms), ce_J (rB 6) (kB 6) 40 (a_partB ms), ce_J (rB 7) (kB 7) 1000 (a_rowA ms), ce_J (rB 8) (kB 8) 1000 (a_rowB ms), ce_I (rB 9) (kB 9) 1000 (a_rowDigit ms), ce_J (rB 10) (kB 10) 12 (a_leapA ms), ce_J (rB 11) (kB 11) 12 (a_leapB ms), ce_I (rB 12) (kB 12) 3721 (a_fars ms), ce_I (rB 13) (kB 13) 3721 (a_queue ms)]) (va_runV (As := [.int (xs (x3 + (1 : Int32)).toNatClampNeg)]) (rest := [.int zp.1]) ⟨hx, hb, hml, hown, hts⟩ (c_X8_kind l dC dI rB kB H.size (a_mod_t ms) (a_mod_n ms) (a_mod_a ms) (a_mod_b ms) (a_mod_unitMany ms) (a_mod_quotA ms) (a_mod_quotB ms) (a_mod_unitUsed ms) (a_mod_fu ms) (a_mod_fuB ms) (a_mod_fv ms) (a_mod_fvB ms) (a_mod_madeA ms) (a_mod_madeB ms) (a_mod_partMany ms) (a_mod_leftA ms) (a_mod_leftB ms) (a_mod_rootA ms) (a_mod_rootB ms) (a_mod_tail ms) (a_mod_round ms) (a_mod_sum ms) (a_mod_rowMany ms) (a_mod_least ms) (a_mod_leastMany ms) (a_mod_netP ms) (a_mod_netQ ms) (a_mod_netR ms) (a_mod_leapMany ms) (a_regA ms) (a_regB ms) (a_unitA ms) (a_unitB ms) (xs (x3 + (1 : Int32)).toNatClampNeg) hzq) (cwV 1 hts gL_X8_kind rfl rfl rfl hv_X8_kind ⟨(Nat.le_of_ble_eq_true rfl), (Nat.le_of_ble_eq_true rfl)⟩) ⟨fb_w, va_recv hK hP (ci := 8) (q0 := 16) rfl rfl, pre_w hPc hDc hKc hN⟩ rfl rfl hl.1 rfl (lv_room (Nat.le_of_ble_eq_true rfl)) dL_law_175 ⟨(Nat.le_of_ble_eq_true rfl), (Nat.le_of_ble_eq_true rfl)⟩) hP hD hS hA [16, 17, 18, 19, 20] [0, 1, 2, 3, 4, 5, 6, 7, 8, 9, 10, 11, 12, 13, 14, 15, 21, 22, 23, 24, 25, 26, 27, 28, 29] [0, 1, 2, 3, 4, 5, 6, 7, 8, 9, 10, 11, 12, 13, 14, 15, 25, 26, 27, 28, 29, 16, 17, 18, 19, 20, 21, 22, 23, 24] rfl rfl rfl (by decide) rfl rfl rfl (fun H locs hP hD hS => ?_)
        refine lv_icmp_eq (tgt := 1298) hx hb dL_law_178 (by decide) (fun c1 => ?_) (fun c1 => absurd hzr c1)
        exact hnext (zp.2.1, zp.2.2.1, zp.2.2.2.1, zp.2.2.2.2.1, zp.2.2.2.2.2, (a_mak_common cs), (a_mak_u cs), (a_mak_v cs), (a_fac_count cs), (a_fac_left cs), (a_pri cs), (a_rsd_found cs), (a_num_base cs), (a_num_size cs), (a_num_digitOfW cs), (a_num_tail cs), (a_num_round cs), (a_num_rings cs), (a_num_ringed cs), (a_mrk cs), (a_fl_p cs), (a_fl_q cs), (a_fl_r cs), (a_ot_p cs), (a_ot_q cs), (a_ot_r cs), (a_lea_count cs), (a_lps cs), (a_sen cs), (a_edg cs), (a_nxt cs)) (zq.2.1, zq.2.2.1, (a_mod_a ms), (a_mod_b ms), zq.2.2.2.1, (a_mod_quotA ms), (a_mod_quotB ms), (a_mod_unitUsed ms), (a_mod_fu ms), (a_mod_fuB ms), (a_mod_fv ms), (a_mod_fvB ms), (a_mod_madeA ms), (a_mod_madeB ms), (a_mod_partMany ms), (a_mod_leftA ms), (a_mod_leftB ms), (a_mod_rootA ms), (a_mod_rootB ms), (a_mod_tail ms), (a_mod_round ms), (a_mod_sum ms), (a_mod_rowMany ms), (a_mod_least ms), (a_mod_leastMany ms), (a_mod_netP ms), (a_mod_netQ ms), (a_mod_netR ms), (a_mod_leapMany ms), zq.2.2.2.2.1, zq.2.2.2.2.2.1, zq.2.2.2.2.2.2.1, zq.2.2.2.2.2.2.2, (a_partA ms), (a_partB ms), (a_rowA ms), (a_rowB ms), (a_rowDigit ms), (a_leapA ms), (a_leapB ms), (a_fars ms), (a_queue ms)) H locs ls hR hP hD hS hl
      by_cases g_1 : sel = (1 : Int32)
      · refine lv_tableIn (tgt := 183) hx hb dL_law_33 (by rw [g_1]; decide) (by rw [g_1]; decide) (by rw [g_1]; rfl) (by decide) ?_
        clear g_1 hsel
        refine lv_aload_n hx hb dL_law_183 rfl (lv_at hl 2 rfl) ?_
        refine lv_aload_n hx hb dL_law_184 rfl (lv_at hl 1 rfl) ?_
        refine lv_iload_n hx hb dL_law_185 rfl (lv_at hl 0 rfl) ?_
        refine lv_iconst (v := (1 : Int32)) hx hb dL_law_186 (by decide) ?_
        refine lv_iadd hx hb dL_law_187 ?_
        refine va_sld hx hb hX hbl hbA hS hin1 dL_law_188 ?_
        refine lv_aload_n hx hb dL_law_189 rfl (lv_at hl 1 rfl) ?_
        refine lv_iload_n hx hb dL_law_190 rfl (lv_at hl 0 rfl) ?_
        refine lv_iconst (v := (2 : Int32)) hx hb dL_law_191 (by decide) ?_
        refine lv_iadd hx hb dL_law_192 ?_
        refine va_sld hx hb hX hbl hbA hS hin2 dL_law_193 ?_
        refine lv_aload_n hx hb dL_law_194 rfl (lv_at hl 1 rfl) ?_
        refine lv_iload_n hx hb dL_law_195 rfl (lv_at hl 0 rfl) ?_
        refine lv_iconst (v := (3 : Int32)) hx hb dL_law_196 (by decide) ?_
        refine lv_iadd hx hb dL_law_197 ?_
        refine va_sld hx hb hX hbl hbA hS hin3 dL_law_198 ?_
        obtain ⟨zp, zq, hzp, hzq, hzr, hR⟩ := hm_set cs ms hR (xs (x3 + (1 : Int32)).toNatClampNeg) (xs (x3 + (2 : Int32)).toNatClampNeg) (xs (x3 + (3 : Int32)).toNatClampNeg)
        have hPc := hP.sub (ws' := [ce_pw rA , ce_J (rA 2) (kA 2) 8 (a_reg cs)]) [0, 2] rfl
        have hKc := hK.sub (tys' := [((kA 2), .long)]) [0] rfl
        have hDc := hD.sub (ws' := [ce_pw rA , ce_J (rA 2) (kA 2) 8 (a_reg cs)]) [0, 2] rfl rfl
        refine kw_i (wr := [ce_net rA (a_net_t cs) (a_net_n cs) (a_net_units cs) (a_net_spin cs), ce_mak rA (a_mak_common cs) (a_mak_u cs) (a_mak_v cs), ce_fac rA (a_fac_count cs) (a_fac_left cs), ce_J (rA 5) (kA 5) 40 (a_pri cs), ce_rsd rA (a_rsd_found cs), ce_num rA (a_num_base cs) (a_num_size cs) (a_num_digitOfW cs) (a_num_tail cs) (a_num_round cs) (a_num_rings cs) (a_num_ringed cs), ce_I (rA 8) (kA 8) 625 (a_mrk cs), ce_fl (rA 9) (a_fl_p cs) (a_fl_q cs) (a_fl_r cs), ce_fl (rA 10) (a_ot_p cs) (a_ot_q cs) (a_ot_r cs), ce_lea rA (a_lea_count cs), ce_J (rA 12) (kA 12) 12 (a_lps cs), ce_J (rA 13) (kA 13) 61 (a_sen cs), ce_J (rA 14) (kA 14) 61 (a_edg cs), ce_J (rA 15) (kA 15) 61 (a_nxt cs), ce_mod rB (a_mod_t ms) (a_mod_n ms) (a_mod_a ms) (a_mod_b ms) (a_mod_unitMany ms) (a_mod_quotA ms) (a_mod_quotB ms) (a_mod_unitUsed ms) (a_mod_fu ms) (a_mod_fuB ms) (a_mod_fv ms) (a_mod_fvB ms) (a_mod_madeA ms) (a_mod_madeB ms) (a_mod_partMany ms) (a_mod_leftA ms) (a_mod_leftB ms) (a_mod_rootA ms) (a_mod_rootB ms) (a_mod_tail ms) (a_mod_round ms) (a_mod_sum ms) (a_mod_rowMany ms) (a_mod_least ms) (a_mod_leastMany ms) (a_mod_netP ms) (a_mod_netQ ms) (a_mod_netR ms) (a_mod_leapMany ms), ce_J (rB 1) (kB 1) 8 (a_regA ms), ce_J (rB 2) (kB 2) 8 (a_regB ms), ce_J (rB 3) (kB 3) 6 (a_unitA ms), ce_J (rB 4) (kB 4) 6 (a_unitB ms), ce_J (rB 5) (kB 5) 40 (a_partA ms), ce_J (rB 6) (kB 6) 40 (a_partB ms), ce_J (rB 7) (kB 7) 1000 (a_rowA ms), ce_J (rB 8) (kB 8) 1000 (a_rowB ms), ce_I (rB 9) (kB 9) 1000 (a_rowDigit ms), ce_J (rB 10) (kB 10) 12 (a_leapA ms), ce_J (rB 11) (kB 11) 12 (a_leapB ms), ce_I (rB 12) (kB 12) 3721 (a_fars ms), ce_I (rB 13) (kB 13) 3721 (a_queue ms)]) (ws' := [ce_pw rA , ce_net rA (a_net_t cs) (a_net_n cs) (a_net_units cs) (a_net_spin cs), ce_J (rA 2) (kA 2) 8 zp.2, ce_mak rA (a_mak_common cs) (a_mak_u cs) (a_mak_v cs), ce_fac rA (a_fac_count cs) (a_fac_left cs), ce_J (rA 5) (kA 5) 40 (a_pri cs), ce_rsd rA (a_rsd_found cs), ce_num rA (a_num_base cs) (a_num_size cs) (a_num_digitOfW cs) (a_num_tail cs) (a_num_round cs) (a_num_rings cs) (a_num_ringed cs), ce_I (rA 8) (kA 8) 625 (a_mrk cs), ce_fl (rA 9) (a_fl_p cs) (a_fl_q cs) (a_fl_r cs), ce_fl (rA 10) (a_ot_p cs) (a_ot_q cs) (a_ot_r cs), ce_lea rA (a_lea_count cs), ce_J (rA 12) (kA 12) 12 (a_lps cs), ce_J (rA 13) (kA 13) 61 (a_sen cs), ce_J (rA 14) (kA 14) 61 (a_edg cs), ce_J (rA 15) (kA 15) 61 (a_nxt cs), ce_mod rB (a_mod_t ms) (a_mod_n ms) (a_mod_a ms) (a_mod_b ms) (a_mod_unitMany ms) (a_mod_quotA ms) (a_mod_quotB ms) (a_mod_unitUsed ms) (a_mod_fu ms) (a_mod_fuB ms) (a_mod_fv ms) (a_mod_fvB ms) (a_mod_madeA ms) (a_mod_madeB ms) (a_mod_partMany ms) (a_mod_leftA ms) (a_mod_leftB ms) (a_mod_rootA ms) (a_mod_rootB ms) (a_mod_tail ms) (a_mod_round ms) (a_mod_sum ms) (a_mod_rowMany ms) (a_mod_least ms) (a_mod_leastMany ms) (a_mod_netP ms) (a_mod_netQ ms) (a_mod_netR ms) (a_mod_leapMany ms), ce_J (rB 1) (kB 1) 8 (a_regA ms), ce_J (rB 2) (kB 2) 8 (a_regB ms), ce_J (rB 3) (kB 3) 6 (a_unitA ms), ce_J (rB 4) (kB 4) 6 (a_unitB ms), ce_J (rB 5) (kB 5) 40 (a_partA ms), ce_J (rB 6) (kB 6) 40 (a_partB ms), ce_J (rB 7) (kB 7) 1000 (a_rowA ms), ce_J (rB 8) (kB 8) 1000 (a_rowB ms), ce_I (rB 9) (kB 9) 1000 (a_rowDigit ms), ce_J (rB 10) (kB 10) 12 (a_leapA ms), ce_J (rB 11) (kB 11) 12 (a_leapB ms), ce_I (rB 12) (kB 12) 3721 (a_fars ms), ce_I (rB 13) (kB 13) 3721 (a_queue ms)]) (va_runV (As := [.int (xs (x3 + (1 : Int32)).toNatClampNeg), .int (xs (x3 + (2 : Int32)).toNatClampNeg), .int (xs (x3 + (3 : Int32)).toNatClampNeg)]) (rest := []) ⟨hx, hb, hml, hown, hts⟩ (c_X7_set l dC dI rA kA H.size (a_reg cs) (xs (x3 + (1 : Int32)).toNatClampNeg) (xs (x3 + (2 : Int32)).toNatClampNeg) (xs (x3 + (3 : Int32)).toNatClampNeg) hzp) (cwV 3 hts gL_X7_set rfl rfl rfl hv_X7_set ⟨(Nat.le_of_ble_eq_true rfl), (Nat.le_of_ble_eq_true rfl)⟩) ⟨fb_w, va_recv hK hP (ci := 7) (q0 := 0) rfl rfl, pre_w hPc hDc hKc hN⟩ rfl rfl hl.1 rfl (lv_room (Nat.le_of_ble_eq_true rfl)) dL_law_199 ⟨(Nat.le_of_ble_eq_true rfl), (Nat.le_of_ble_eq_true rfl)⟩) hP hD hS hA [0, 2] [1, 3, 4, 5, 6, 7, 8, 9, 10, 11, 12, 13, 14, 15, 16, 17, 18, 19, 20, 21, 22, 23, 24, 25, 26, 27, 28, 29] [28, 0, 29, 1, 2, 3, 4, 5, 6, 7, 8, 9, 10, 11, 12, 13, 14, 15, 16, 17, 18, 19, 20, 21, 22, 23, 24, 25, 26, 27] rfl rfl rfl (by decide) rfl rfl rfl (fun H locs hP hD hS => ?_)
        refine lv_aload_n hx hb dL_law_202 rfl (lv_at hl 3 rfl) ?_
        refine lv_aload_n hx hb dL_law_203 rfl (lv_at hl 1 rfl) ?_
        refine lv_iload_n hx hb dL_law_204 rfl (lv_at hl 0 rfl) ?_
        refine lv_iconst (v := (1 : Int32)) hx hb dL_law_205 (by decide) ?_
        refine lv_iadd hx hb dL_law_206 ?_
        refine va_sld hx hb hX hbl hbA hS hin1 dL_law_207 ?_
        refine lv_aload_n hx hb dL_law_208 rfl (lv_at hl 1 rfl) ?_
        refine lv_iload_n hx hb dL_law_209 rfl (lv_at hl 0 rfl) ?_
        refine lv_iconst (v := (2 : Int32)) hx hb dL_law_210 (by decide) ?_
        refine lv_iadd hx hb dL_law_211 ?_
        refine va_sld hx hb hX hbl hbA hS hin2 dL_law_212 ?_
        refine lv_aload_n hx hb dL_law_213 rfl (lv_at hl 1 rfl) ?_
        refine lv_iload_n hx hb dL_law_214 rfl (lv_at hl 0 rfl) ?_
        refine lv_iconst (v := (3 : Int32)) hx hb dL_law_215 (by decide) ?_
        refine lv_iadd hx hb dL_law_216 ?_
        refine va_sld hx hb hX hbl hbA hS hin3 dL_law_217 ?_
        have hPc := hP.sub (ws' := [ce_mod rB (a_mod_t ms) (a_mod_n ms) (a_mod_a ms) (a_mod_b ms) (a_mod_unitMany ms) (a_mod_quotA ms) (a_mod_quotB ms) (a_mod_unitUsed ms) (a_mod_fu ms) (a_mod_fuB ms) (a_mod_fv ms) (a_mod_fvB ms) (a_mod_madeA ms) (a_mod_madeB ms) (a_mod_partMany ms) (a_mod_leftA ms) (a_mod_leftB ms) (a_mod_rootA ms) (a_mod_rootB ms) (a_mod_tail ms) (a_mod_round ms) (a_mod_sum ms) (a_mod_rowMany ms) (a_mod_least ms) (a_mod_leastMany ms) (a_mod_netP ms) (a_mod_netQ ms) (a_mod_netR ms) (a_mod_leapMany ms), ce_J (rB 1) (kB 1) 8 (a_regA ms), ce_J (rB 2) (kB 2) 8 (a_regB ms)]) [16, 17, 18] rfl
        have hKc := hK.sub (tys' := [((kB 1), .long), ((kB 2), .long)]) [7, 8] rfl
        have hDc := hD.sub (ws' := [ce_mod rB (a_mod_t ms) (a_mod_n ms) (a_mod_a ms) (a_mod_b ms) (a_mod_unitMany ms) (a_mod_quotA ms) (a_mod_quotB ms) (a_mod_unitUsed ms) (a_mod_fu ms) (a_mod_fuB ms) (a_mod_fv ms) (a_mod_fvB ms) (a_mod_madeA ms) (a_mod_madeB ms) (a_mod_partMany ms) (a_mod_leftA ms) (a_mod_leftB ms) (a_mod_rootA ms) (a_mod_rootB ms) (a_mod_tail ms) (a_mod_round ms) (a_mod_sum ms) (a_mod_rowMany ms) (a_mod_least ms) (a_mod_leastMany ms) (a_mod_netP ms) (a_mod_netQ ms) (a_mod_netR ms) (a_mod_leapMany ms), ce_J (rB 1) (kB 1) 8 (a_regA ms), ce_J (rB 2) (kB 2) 8 (a_regB ms)]) [16, 17, 18] rfl rfl
        refine kw_i (wr := [ce_pw rA , ce_net rA (a_net_t cs) (a_net_n cs) (a_net_units cs) (a_net_spin cs), ce_J (rA 2) (kA 2) 8 zp.2, ce_mak rA (a_mak_common cs) (a_mak_u cs) (a_mak_v cs), ce_fac rA (a_fac_count cs) (a_fac_left cs), ce_J (rA 5) (kA 5) 40 (a_pri cs), ce_rsd rA (a_rsd_found cs), ce_num rA (a_num_base cs) (a_num_size cs) (a_num_digitOfW cs) (a_num_tail cs) (a_num_round cs) (a_num_rings cs) (a_num_ringed cs), ce_I (rA 8) (kA 8) 625 (a_mrk cs), ce_fl (rA 9) (a_fl_p cs) (a_fl_q cs) (a_fl_r cs), ce_fl (rA 10) (a_ot_p cs) (a_ot_q cs) (a_ot_r cs), ce_lea rA (a_lea_count cs), ce_J (rA 12) (kA 12) 12 (a_lps cs), ce_J (rA 13) (kA 13) 61 (a_sen cs), ce_J (rA 14) (kA 14) 61 (a_edg cs), ce_J (rA 15) (kA 15) 61 (a_nxt cs), ce_J (rB 3) (kB 3) 6 (a_unitA ms), ce_J (rB 4) (kB 4) 6 (a_unitB ms), ce_J (rB 5) (kB 5) 40 (a_partA ms), ce_J (rB 6) (kB 6) 40 (a_partB ms), ce_J (rB 7) (kB 7) 1000 (a_rowA ms), ce_J (rB 8) (kB 8) 1000 (a_rowB ms), ce_I (rB 9) (kB 9) 1000 (a_rowDigit ms), ce_J (rB 10) (kB 10) 12 (a_leapA ms), ce_J (rB 11) (kB 11) 12 (a_leapB ms), ce_I (rB 12) (kB 12) 3721 (a_fars ms), ce_I (rB 13) (kB 13) 3721 (a_queue ms)]) (ws' := [ce_pw rA , ce_net rA (a_net_t cs) (a_net_n cs) (a_net_units cs) (a_net_spin cs), ce_J (rA 2) (kA 2) 8 zp.2, ce_mak rA (a_mak_common cs) (a_mak_u cs) (a_mak_v cs), ce_fac rA (a_fac_count cs) (a_fac_left cs), ce_J (rA 5) (kA 5) 40 (a_pri cs), ce_rsd rA (a_rsd_found cs), ce_num rA (a_num_base cs) (a_num_size cs) (a_num_digitOfW cs) (a_num_tail cs) (a_num_round cs) (a_num_rings cs) (a_num_ringed cs), ce_I (rA 8) (kA 8) 625 (a_mrk cs), ce_fl (rA 9) (a_fl_p cs) (a_fl_q cs) (a_fl_r cs), ce_fl (rA 10) (a_ot_p cs) (a_ot_q cs) (a_ot_r cs), ce_lea rA (a_lea_count cs), ce_J (rA 12) (kA 12) 12 (a_lps cs), ce_J (rA 13) (kA 13) 61 (a_sen cs), ce_J (rA 14) (kA 14) 61 (a_edg cs), ce_J (rA 15) (kA 15) 61 (a_nxt cs), ce_mod rB (a_mod_t ms) (a_mod_n ms) (a_mod_a ms) (a_mod_b ms) (a_mod_unitMany ms) (a_mod_quotA ms) (a_mod_quotB ms) (a_mod_unitUsed ms) (a_mod_fu ms) (a_mod_fuB ms) (a_mod_fv ms) (a_mod_fvB ms) (a_mod_madeA ms) (a_mod_madeB ms) (a_mod_partMany ms) (a_mod_leftA ms) (a_mod_leftB ms) (a_mod_rootA ms) (a_mod_rootB ms) (a_mod_tail ms) (a_mod_round ms) (a_mod_sum ms) (a_mod_rowMany ms) (a_mod_least ms) (a_mod_leastMany ms) (a_mod_netP ms) (a_mod_netQ ms) (a_mod_netR ms) (a_mod_leapMany ms), ce_J (rB 1) (kB 1) 8 zq.2.1, ce_J (rB 2) (kB 2) 8 zq.2.2, ce_J (rB 3) (kB 3) 6 (a_unitA ms), ce_J (rB 4) (kB 4) 6 (a_unitB ms), ce_J (rB 5) (kB 5) 40 (a_partA ms), ce_J (rB 6) (kB 6) 40 (a_partB ms), ce_J (rB 7) (kB 7) 1000 (a_rowA ms), ce_J (rB 8) (kB 8) 1000 (a_rowB ms), ce_I (rB 9) (kB 9) 1000 (a_rowDigit ms), ce_J (rB 10) (kB 10) 12 (a_leapA ms), ce_J (rB 11) (kB 11) 12 (a_leapB ms), ce_I (rB 12) (kB 12) 3721 (a_fars ms), ce_I (rB 13) (kB 13) 3721 (a_queue ms)]) (va_runV (As := [.int (xs (x3 + (1 : Int32)).toNatClampNeg), .int (xs (x3 + (2 : Int32)).toNatClampNeg), .int (xs (x3 + (3 : Int32)).toNatClampNeg)]) (rest := [.int zp.1]) ⟨hx, hb, hml, hown, hts⟩ (c_X8_set l dC dI rB kB H.size (a_mod_t ms) (a_mod_n ms) (a_mod_a ms) (a_mod_b ms) (a_mod_unitMany ms) (a_mod_quotA ms) (a_mod_quotB ms) (a_mod_unitUsed ms) (a_mod_fu ms) (a_mod_fuB ms) (a_mod_fv ms) (a_mod_fvB ms) (a_mod_madeA ms) (a_mod_madeB ms) (a_mod_partMany ms) (a_mod_leftA ms) (a_mod_leftB ms) (a_mod_rootA ms) (a_mod_rootB ms) (a_mod_tail ms) (a_mod_round ms) (a_mod_sum ms) (a_mod_rowMany ms) (a_mod_least ms) (a_mod_leastMany ms) (a_mod_netP ms) (a_mod_netQ ms) (a_mod_netR ms) (a_mod_leapMany ms) (a_regA ms) (a_regB ms) (xs (x3 + (1 : Int32)).toNatClampNeg) (xs (x3 + (2 : Int32)).toNatClampNeg) (xs (x3 + (3 : Int32)).toNatClampNeg) hzq) (cwV 3 hts gL_X8_set rfl rfl rfl hv_X8_set ⟨(Nat.le_of_ble_eq_true rfl), (Nat.le_of_ble_eq_true rfl)⟩) ⟨fb_w, va_recv hK hP (ci := 8) (q0 := 16) rfl rfl, pre_w hPc hDc hKc hN⟩ rfl rfl hl.1 rfl (lv_room (Nat.le_of_ble_eq_true rfl)) dL_law_218 ⟨(Nat.le_of_ble_eq_true rfl), (Nat.le_of_ble_eq_true rfl)⟩) hP hD hS hA [16, 17, 18] [0, 1, 2, 3, 4, 5, 6, 7, 8, 9, 10, 11, 12, 13, 14, 15, 19, 20, 21, 22, 23, 24, 25, 26, 27, 28, 29] [0, 1, 2, 3, 4, 5, 6, 7, 8, 9, 10, 11, 12, 13, 14, 15, 27, 28, 29, 16, 17, 18, 19, 20, 21, 22, 23, 24, 25, 26] rfl rfl rfl (by decide) rfl rfl rfl (fun H locs hP hD hS => ?_)
        refine lv_icmp_eq (tgt := 1298) hx hb dL_law_221 (by decide) (fun c1 => ?_) (fun c1 => absurd hzr c1)
        exact hnext ((a_net_t cs), (a_net_n cs), (a_net_units cs), (a_net_spin cs), zp.2, (a_mak_common cs), (a_mak_u cs), (a_mak_v cs), (a_fac_count cs), (a_fac_left cs), (a_pri cs), (a_rsd_found cs), (a_num_base cs), (a_num_size cs), (a_num_digitOfW cs), (a_num_tail cs), (a_num_round cs), (a_num_rings cs), (a_num_ringed cs), (a_mrk cs), (a_fl_p cs), (a_fl_q cs), (a_fl_r cs), (a_ot_p cs), (a_ot_q cs), (a_ot_r cs), (a_lea_count cs), (a_lps cs), (a_sen cs), (a_edg cs), (a_nxt cs)) ((a_mod_t ms), (a_mod_n ms), (a_mod_a ms), (a_mod_b ms), (a_mod_unitMany ms), (a_mod_quotA ms), (a_mod_quotB ms), (a_mod_unitUsed ms), (a_mod_fu ms), (a_mod_fuB ms), (a_mod_fv ms), (a_mod_fvB ms), (a_mod_madeA ms), (a_mod_madeB ms), (a_mod_partMany ms), (a_mod_leftA ms), (a_mod_leftB ms), (a_mod_rootA ms), (a_mod_rootB ms), (a_mod_tail ms), (a_mod_round ms), (a_mod_sum ms), (a_mod_rowMany ms), (a_mod_least ms), (a_mod_leastMany ms), (a_mod_netP ms), (a_mod_netQ ms), (a_mod_netR ms), (a_mod_leapMany ms), zq.2.1, zq.2.2, (a_unitA ms), (a_unitB ms), (a_partA ms), (a_partB ms), (a_rowA ms), (a_rowB ms), (a_rowDigit ms), (a_leapA ms), (a_leapB ms), (a_fars ms), (a_queue ms)) H locs ls hR hP hD hS hl
      by_cases g_2 : sel = (2 : Int32)
      · refine lv_tableIn (tgt := 226) hx hb dL_law_33 (by rw [g_2]; decide) (by rw [g_2]; decide) (by rw [g_2]; rfl) (by decide) ?_
        clear g_2 hsel
        refine lv_aload_n hx hb dL_law_226 rfl (lv_at hl 2 rfl) ?_
        refine lv_aload_n hx hb dL_law_227 rfl (lv_at hl 1 rfl) ?_
        refine lv_iload_n hx hb dL_law_228 rfl (lv_at hl 0 rfl) ?_
        refine lv_iconst (v := (1 : Int32)) hx hb dL_law_229 (by decide) ?_
        refine lv_iadd hx hb dL_law_230 ?_
        refine va_sld hx hb hX hbl hbA hS hin1 dL_law_231 ?_
        refine lv_aload_n hx hb dL_law_232 rfl (lv_at hl 1 rfl) ?_
        refine lv_iload_n hx hb dL_law_233 rfl (lv_at hl 0 rfl) ?_
        refine lv_iconst (v := (2 : Int32)) hx hb dL_law_234 (by decide) ?_
        refine lv_iadd hx hb dL_law_235 ?_
        refine va_sld hx hb hX hbl hbA hS hin2 dL_law_236 ?_
        obtain ⟨zp, zq, hzp, hzq, hzr, hR⟩ := hm_get cs ms hR (xs (x3 + (1 : Int32)).toNatClampNeg) (xs (x3 + (2 : Int32)).toNatClampNeg)
        have hPc := hP.sub (ws' := [ce_pw rA , ce_J (rA 2) (kA 2) 8 (a_reg cs)]) [0, 2] rfl
        have hKc := hK.sub (tys' := [((kA 2), .long)]) [0] rfl
        refine kp_i (va_runV (As := [.int (xs (x3 + (1 : Int32)).toNatClampNeg), .int (xs (x3 + (2 : Int32)).toNatClampNeg)]) (rest := []) ⟨hx, hb, hml, hown, hts⟩ (c_X7_get l dC dI rA kA (a_reg cs) (xs (x3 + (1 : Int32)).toNatClampNeg) (xs (x3 + (2 : Int32)).toNatClampNeg) hzp) (cwV 2 hts gL_X7_get rfl rfl rfl hv_X7_get ⟨(Nat.le_of_ble_eq_true rfl), (Nat.le_of_ble_eq_true rfl)⟩) ⟨fb_p, va_recv hK hP (ci := 7) (q0 := 0) rfl rfl, pre_p hPc hKc hN⟩ rfl rfl hl.1 rfl (lv_room (Nat.le_of_ble_eq_true rfl)) dL_law_237 ⟨(Nat.le_of_ble_eq_true rfl), (Nat.le_of_ble_eq_true rfl)⟩) ?_
        refine lv_aload_n hx hb dL_law_240 rfl (lv_at hl 3 rfl) ?_
        refine lv_aload_n hx hb dL_law_241 rfl (lv_at hl 1 rfl) ?_
        refine lv_iload_n hx hb dL_law_242 rfl (lv_at hl 0 rfl) ?_
        refine lv_iconst (v := (1 : Int32)) hx hb dL_law_243 (by decide) ?_
        refine lv_iadd hx hb dL_law_244 ?_
        refine va_sld hx hb hX hbl hbA hS hin1 dL_law_245 ?_
        refine lv_aload_n hx hb dL_law_246 rfl (lv_at hl 1 rfl) ?_
        refine lv_iload_n hx hb dL_law_247 rfl (lv_at hl 0 rfl) ?_
        refine lv_iconst (v := (2 : Int32)) hx hb dL_law_248 (by decide) ?_
        refine lv_iadd hx hb dL_law_249 ?_
        refine va_sld hx hb hX hbl hbA hS hin2 dL_law_250 ?_
        have hPc := hP.sub (ws' := [ce_mod rB (a_mod_t ms) (a_mod_n ms) (a_mod_a ms) (a_mod_b ms) (a_mod_unitMany ms) (a_mod_quotA ms) (a_mod_quotB ms) (a_mod_unitUsed ms) (a_mod_fu ms) (a_mod_fuB ms) (a_mod_fv ms) (a_mod_fvB ms) (a_mod_madeA ms) (a_mod_madeB ms) (a_mod_partMany ms) (a_mod_leftA ms) (a_mod_leftB ms) (a_mod_rootA ms) (a_mod_rootB ms) (a_mod_tail ms) (a_mod_round ms) (a_mod_sum ms) (a_mod_rowMany ms) (a_mod_least ms) (a_mod_leastMany ms) (a_mod_netP ms) (a_mod_netQ ms) (a_mod_netR ms) (a_mod_leapMany ms), ce_J (rB 1) (kB 1) 8 (a_regA ms), ce_J (rB 2) (kB 2) 8 (a_regB ms)]) [16, 17, 18] rfl
        have hKc := hK.sub (tys' := [((kB 1), .long), ((kB 2), .long)]) [7, 8] rfl
        refine kp_i (va_runV (As := [.int (xs (x3 + (1 : Int32)).toNatClampNeg), .int (xs (x3 + (2 : Int32)).toNatClampNeg)]) (rest := [.int zp]) ⟨hx, hb, hml, hown, hts⟩ (c_X8_get l dC dI rB kB (a_mod_t ms) (a_mod_n ms) (a_mod_a ms) (a_mod_b ms) (a_mod_unitMany ms) (a_mod_quotA ms) (a_mod_quotB ms) (a_mod_unitUsed ms) (a_mod_fu ms) (a_mod_fuB ms) (a_mod_fv ms) (a_mod_fvB ms) (a_mod_madeA ms) (a_mod_madeB ms) (a_mod_partMany ms) (a_mod_leftA ms) (a_mod_leftB ms) (a_mod_rootA ms) (a_mod_rootB ms) (a_mod_tail ms) (a_mod_round ms) (a_mod_sum ms) (a_mod_rowMany ms) (a_mod_least ms) (a_mod_leastMany ms) (a_mod_netP ms) (a_mod_netQ ms) (a_mod_netR ms) (a_mod_leapMany ms) (a_regA ms) (a_regB ms) (xs (x3 + (1 : Int32)).toNatClampNeg) (xs (x3 + (2 : Int32)).toNatClampNeg) hzq) (cwV 2 hts gL_X8_get rfl rfl rfl hv_X8_get ⟨(Nat.le_of_ble_eq_true rfl), (Nat.le_of_ble_eq_true rfl)⟩) ⟨fb_p, va_recv hK hP (ci := 8) (q0 := 16) rfl rfl, pre_p hPc hKc hN⟩ rfl rfl hl.1 rfl (lv_room (Nat.le_of_ble_eq_true rfl)) dL_law_251 ⟨(Nat.le_of_ble_eq_true rfl), (Nat.le_of_ble_eq_true rfl)⟩) ?_
        refine lv_icmp_eq (tgt := 1298) hx hb dL_law_254 (by decide) (fun c1 => ?_) (fun c1 => absurd hzr c1)
        exact hnext ((a_net_t cs), (a_net_n cs), (a_net_units cs), (a_net_spin cs), (a_reg cs), (a_mak_common cs), (a_mak_u cs), (a_mak_v cs), (a_fac_count cs), (a_fac_left cs), (a_pri cs), (a_rsd_found cs), (a_num_base cs), (a_num_size cs), (a_num_digitOfW cs), (a_num_tail cs), (a_num_round cs), (a_num_rings cs), (a_num_ringed cs), (a_mrk cs), (a_fl_p cs), (a_fl_q cs), (a_fl_r cs), (a_ot_p cs), (a_ot_q cs), (a_ot_r cs), (a_lea_count cs), (a_lps cs), (a_sen cs), (a_edg cs), (a_nxt cs)) ((a_mod_t ms), (a_mod_n ms), (a_mod_a ms), (a_mod_b ms), (a_mod_unitMany ms), (a_mod_quotA ms), (a_mod_quotB ms), (a_mod_unitUsed ms), (a_mod_fu ms), (a_mod_fuB ms), (a_mod_fv ms), (a_mod_fvB ms), (a_mod_madeA ms), (a_mod_madeB ms), (a_mod_partMany ms), (a_mod_leftA ms), (a_mod_leftB ms), (a_mod_rootA ms), (a_mod_rootB ms), (a_mod_tail ms), (a_mod_round ms), (a_mod_sum ms), (a_mod_rowMany ms), (a_mod_least ms), (a_mod_leastMany ms), (a_mod_netP ms), (a_mod_netQ ms), (a_mod_netR ms), (a_mod_leapMany ms), (a_regA ms), (a_regB ms), (a_unitA ms), (a_unitB ms), (a_partA ms), (a_partB ms), (a_rowA ms), (a_rowB ms), (a_rowDigit ms), (a_leapA ms), (a_leapB ms), (a_fars ms), (a_queue ms)) H locs ls hR hP hD hS hl
      by_cases g_3 : sel = (3 : Int32)
      · refine lv_tableIn (tgt := 259) hx hb dL_law_33 (by rw [g_3]; decide) (by rw [g_3]; decide) (by rw [g_3]; rfl) (by decide) ?_
        clear g_3 hsel
        refine lv_aload_n hx hb dL_law_259 rfl (lv_at hl 2 rfl) ?_
        refine lv_aload_n hx hb dL_law_260 rfl (lv_at hl 1 rfl) ?_
        refine lv_iload_n hx hb dL_law_261 rfl (lv_at hl 0 rfl) ?_
        refine lv_iconst (v := (1 : Int32)) hx hb dL_law_262 (by decide) ?_
        refine lv_iadd hx hb dL_law_263 ?_
        refine va_sld hx hb hX hbl hbA hS hin1 dL_law_264 ?_
        obtain ⟨zp, zq, hzp, hzq, hzr, hR⟩ := hm_size cs ms hR (xs (x3 + (1 : Int32)).toNatClampNeg)
        have hPc := hP.sub (ws' := [ce_pw rA , ce_net rA (a_net_t cs) (a_net_n cs) (a_net_units cs) (a_net_spin cs), ce_J (rA 2) (kA 2) 8 (a_reg cs)]) [0, 1, 2] rfl
        have hKc := hK.sub (tys' := [((kA 2), .long)]) [0] rfl
        refine kp_l (va_runV (As := [.int (xs (x3 + (1 : Int32)).toNatClampNeg)]) (rest := []) ⟨hx, hb, hml, hown, hts⟩ (c_X7_size l dC dI rA kA (a_net_t cs) (a_net_n cs) (a_net_units cs) (a_net_spin cs) (a_reg cs) (xs (x3 + (1 : Int32)).toNatClampNeg) hzp) (cwV 1 hts gL_X7_size rfl rfl rfl hv_X7_size ⟨(Nat.le_of_ble_eq_true rfl), (Nat.le_of_ble_eq_true rfl)⟩) ⟨fb_p, va_recv hK hP (ci := 7) (q0 := 0) rfl rfl, pre_p hPc hKc hN⟩ rfl rfl hl.1 rfl (lv_room (Nat.le_of_ble_eq_true rfl)) dL_law_265 ⟨(Nat.le_of_ble_eq_true rfl), (Nat.le_of_ble_eq_true rfl)⟩) ?_
        refine lv_aload_n hx hb dL_law_268 rfl (lv_at hl 3 rfl) ?_
        refine lv_aload_n hx hb dL_law_269 rfl (lv_at hl 1 rfl) ?_
        refine lv_iload_n hx hb dL_law_270 rfl (lv_at hl 0 rfl) ?_
        refine lv_iconst (v := (1 : Int32)) hx hb dL_law_271 (by decide) ?_
        refine lv_iadd hx hb dL_law_272 ?_
        refine va_sld hx hb hX hbl hbA hS hin1 dL_law_273 ?_
        have hPc := hP.sub (ws' := [ce_mod rB (a_mod_t ms) (a_mod_n ms) (a_mod_a ms) (a_mod_b ms) (a_mod_unitMany ms) (a_mod_quotA ms) (a_mod_quotB ms) (a_mod_unitUsed ms) (a_mod_fu ms) (a_mod_fuB ms) (a_mod_fv ms) (a_mod_fvB ms) (a_mod_madeA ms) (a_mod_madeB ms) (a_mod_partMany ms) (a_mod_leftA ms) (a_mod_leftB ms) (a_mod_rootA ms) (a_mod_rootB ms) (a_mod_tail ms) (a_mod_round ms) (a_mod_sum ms) (a_mod_rowMany ms) (a_mod_least ms) (a_mod_leastMany ms) (a_mod_netP ms) (a_mod_netQ ms) (a_mod_netR ms) (a_mod_leapMany ms), ce_J (rB 1) (kB 1) 8 (a_regA ms), ce_J (rB 2) (kB 2) 8 (a_regB ms)]) [16, 17, 18] rfl
        have hKc := hK.sub (tys' := [((kB 1), .long), ((kB 2), .long)]) [7, 8] rfl
        refine kp_l (va_runV (As := [.int (xs (x3 + (1 : Int32)).toNatClampNeg)]) (rest := [.long zp]) ⟨hx, hb, hml, hown, hts⟩ (c_X8_size l dC dI rB kB (a_mod_t ms) (a_mod_n ms) (a_mod_a ms) (a_mod_b ms) (a_mod_unitMany ms) (a_mod_quotA ms) (a_mod_quotB ms) (a_mod_unitUsed ms) (a_mod_fu ms) (a_mod_fuB ms) (a_mod_fv ms) (a_mod_fvB ms) (a_mod_madeA ms) (a_mod_madeB ms) (a_mod_partMany ms) (a_mod_leftA ms) (a_mod_leftB ms) (a_mod_rootA ms) (a_mod_rootB ms) (a_mod_tail ms) (a_mod_round ms) (a_mod_sum ms) (a_mod_rowMany ms) (a_mod_least ms) (a_mod_leastMany ms) (a_mod_netP ms) (a_mod_netQ ms) (a_mod_netR ms) (a_mod_leapMany ms) (a_regA ms) (a_regB ms) (xs (x3 + (1 : Int32)).toNatClampNeg) hzq) (cwV 1 hts gL_X8_size rfl rfl rfl hv_X8_size ⟨(Nat.le_of_ble_eq_true rfl), (Nat.le_of_ble_eq_true rfl)⟩) ⟨fb_p, va_recv hK hP (ci := 8) (q0 := 16) rfl rfl, pre_p hPc hKc hN⟩ rfl rfl hl.1 rfl (lv_room (Nat.le_of_ble_eq_true rfl)) dL_law_274 ⟨(Nat.le_of_ble_eq_true rfl), (Nat.le_of_ble_eq_true rfl)⟩) ?_
        refine W.lcmp hx hb dL_law_277 ?_
        refine lv_if_eq (tgt := 1298) hx hb dL_law_278 (by decide) (fun c1 => ?_) (fun c1 => absurd ((lg_cmp_eq _ _).mpr hzr) c1)
        exact hnext ((a_net_t cs), (a_net_n cs), (a_net_units cs), (a_net_spin cs), (a_reg cs), (a_mak_common cs), (a_mak_u cs), (a_mak_v cs), (a_fac_count cs), (a_fac_left cs), (a_pri cs), (a_rsd_found cs), (a_num_base cs), (a_num_size cs), (a_num_digitOfW cs), (a_num_tail cs), (a_num_round cs), (a_num_rings cs), (a_num_ringed cs), (a_mrk cs), (a_fl_p cs), (a_fl_q cs), (a_fl_r cs), (a_ot_p cs), (a_ot_q cs), (a_ot_r cs), (a_lea_count cs), (a_lps cs), (a_sen cs), (a_edg cs), (a_nxt cs)) ((a_mod_t ms), (a_mod_n ms), (a_mod_a ms), (a_mod_b ms), (a_mod_unitMany ms), (a_mod_quotA ms), (a_mod_quotB ms), (a_mod_unitUsed ms), (a_mod_fu ms), (a_mod_fuB ms), (a_mod_fv ms), (a_mod_fvB ms), (a_mod_madeA ms), (a_mod_madeB ms), (a_mod_partMany ms), (a_mod_leftA ms), (a_mod_leftB ms), (a_mod_rootA ms), (a_mod_rootB ms), (a_mod_tail ms), (a_mod_round ms), (a_mod_sum ms), (a_mod_rowMany ms), (a_mod_least ms), (a_mod_leastMany ms), (a_mod_netP ms), (a_mod_netQ ms), (a_mod_netR ms), (a_mod_leapMany ms), (a_regA ms), (a_regB ms), (a_unitA ms), (a_unitB ms), (a_partA ms), (a_partB ms), (a_rowA ms), (a_rowB ms), (a_rowDigit ms), (a_leapA ms), (a_leapB ms), (a_fars ms), (a_queue ms)) H locs ls hR hP hD hS hl
      by_cases g_4 : sel = (4 : Int32)
      · refine lv_tableIn (tgt := 283) hx hb dL_law_33 (by rw [g_4]; decide) (by rw [g_4]; decide) (by rw [g_4]; rfl) (by decide) ?_
        clear g_4 hsel
        refine lv_aload_n hx hb dL_law_283 rfl (lv_at hl 2 rfl) ?_
        refine lv_aload_n hx hb dL_law_284 rfl (lv_at hl 1 rfl) ?_
        refine lv_iload_n hx hb dL_law_285 rfl (lv_at hl 0 rfl) ?_
        refine lv_iconst (v := (1 : Int32)) hx hb dL_law_286 (by decide) ?_
        refine lv_iadd hx hb dL_law_287 ?_
        refine va_sld hx hb hX hbl hbA hS hin1 dL_law_288 ?_
        refine lv_aload_n hx hb dL_law_289 rfl (lv_at hl 1 rfl) ?_
        refine lv_iload_n hx hb dL_law_290 rfl (lv_at hl 0 rfl) ?_
        refine lv_iconst (v := (2 : Int32)) hx hb dL_law_291 (by decide) ?_
        refine lv_iadd hx hb dL_law_292 ?_
        refine va_sld hx hb hX hbl hbA hS hin2 dL_law_293 ?_
        refine lv_aload_n hx hb dL_law_294 rfl (lv_at hl 1 rfl) ?_
        refine lv_iload_n hx hb dL_law_295 rfl (lv_at hl 0 rfl) ?_
        refine lv_iconst (v := (3 : Int32)) hx hb dL_law_296 (by decide) ?_
        refine lv_iadd hx hb dL_law_297 ?_
        refine va_sld hx hb hX hbl hbA hS hin3 dL_law_298 ?_
        refine lv_aload_n hx hb dL_law_299 rfl (lv_at hl 1 rfl) ?_
        refine lv_iload_n hx hb dL_law_300 rfl (lv_at hl 0 rfl) ?_
        refine lv_iconst (v := (4 : Int32)) hx hb dL_law_301 (by decide) ?_
        refine lv_iadd hx hb dL_law_302 ?_
        refine va_sld hx hb hX hbl hbA hS hin4 dL_law_303 ?_
        obtain ⟨zp, zq, hzp, hzq, hzr, hR⟩ := hm_reckon cs ms hR (xs (x3 + (1 : Int32)).toNatClampNeg) (xs (x3 + (2 : Int32)).toNatClampNeg) (xs (x3 + (3 : Int32)).toNatClampNeg) (xs (x3 + (4 : Int32)).toNatClampNeg)
        have hPc := hP.sub (ws' := [ce_pw rA , ce_net rA (a_net_t cs) (a_net_n cs) (a_net_units cs) (a_net_spin cs), ce_J (rA 2) (kA 2) 8 (a_reg cs)]) [0, 1, 2] rfl
        have hKc := hK.sub (tys' := [((kA 2), .long)]) [0] rfl
        have hDc := hD.sub (ws' := [ce_pw rA , ce_net rA (a_net_t cs) (a_net_n cs) (a_net_units cs) (a_net_spin cs), ce_J (rA 2) (kA 2) 8 (a_reg cs)]) [0, 1, 2] rfl rfl
        refine kw_i (wr := [ce_mak rA (a_mak_common cs) (a_mak_u cs) (a_mak_v cs), ce_fac rA (a_fac_count cs) (a_fac_left cs), ce_J (rA 5) (kA 5) 40 (a_pri cs), ce_rsd rA (a_rsd_found cs), ce_num rA (a_num_base cs) (a_num_size cs) (a_num_digitOfW cs) (a_num_tail cs) (a_num_round cs) (a_num_rings cs) (a_num_ringed cs), ce_I (rA 8) (kA 8) 625 (a_mrk cs), ce_fl (rA 9) (a_fl_p cs) (a_fl_q cs) (a_fl_r cs), ce_fl (rA 10) (a_ot_p cs) (a_ot_q cs) (a_ot_r cs), ce_lea rA (a_lea_count cs), ce_J (rA 12) (kA 12) 12 (a_lps cs), ce_J (rA 13) (kA 13) 61 (a_sen cs), ce_J (rA 14) (kA 14) 61 (a_edg cs), ce_J (rA 15) (kA 15) 61 (a_nxt cs), ce_mod rB (a_mod_t ms) (a_mod_n ms) (a_mod_a ms) (a_mod_b ms) (a_mod_unitMany ms) (a_mod_quotA ms) (a_mod_quotB ms) (a_mod_unitUsed ms) (a_mod_fu ms) (a_mod_fuB ms) (a_mod_fv ms) (a_mod_fvB ms) (a_mod_madeA ms) (a_mod_madeB ms) (a_mod_partMany ms) (a_mod_leftA ms) (a_mod_leftB ms) (a_mod_rootA ms) (a_mod_rootB ms) (a_mod_tail ms) (a_mod_round ms) (a_mod_sum ms) (a_mod_rowMany ms) (a_mod_least ms) (a_mod_leastMany ms) (a_mod_netP ms) (a_mod_netQ ms) (a_mod_netR ms) (a_mod_leapMany ms), ce_J (rB 1) (kB 1) 8 (a_regA ms), ce_J (rB 2) (kB 2) 8 (a_regB ms), ce_J (rB 3) (kB 3) 6 (a_unitA ms), ce_J (rB 4) (kB 4) 6 (a_unitB ms), ce_J (rB 5) (kB 5) 40 (a_partA ms), ce_J (rB 6) (kB 6) 40 (a_partB ms), ce_J (rB 7) (kB 7) 1000 (a_rowA ms), ce_J (rB 8) (kB 8) 1000 (a_rowB ms), ce_I (rB 9) (kB 9) 1000 (a_rowDigit ms), ce_J (rB 10) (kB 10) 12 (a_leapA ms), ce_J (rB 11) (kB 11) 12 (a_leapB ms), ce_I (rB 12) (kB 12) 3721 (a_fars ms), ce_I (rB 13) (kB 13) 3721 (a_queue ms)]) (ws' := [ce_pw rA , ce_net rA (a_net_t cs) (a_net_n cs) (a_net_units cs) (a_net_spin cs), ce_J (rA 2) (kA 2) 8 zp.2, ce_mak rA (a_mak_common cs) (a_mak_u cs) (a_mak_v cs), ce_fac rA (a_fac_count cs) (a_fac_left cs), ce_J (rA 5) (kA 5) 40 (a_pri cs), ce_rsd rA (a_rsd_found cs), ce_num rA (a_num_base cs) (a_num_size cs) (a_num_digitOfW cs) (a_num_tail cs) (a_num_round cs) (a_num_rings cs) (a_num_ringed cs), ce_I (rA 8) (kA 8) 625 (a_mrk cs), ce_fl (rA 9) (a_fl_p cs) (a_fl_q cs) (a_fl_r cs), ce_fl (rA 10) (a_ot_p cs) (a_ot_q cs) (a_ot_r cs), ce_lea rA (a_lea_count cs), ce_J (rA 12) (kA 12) 12 (a_lps cs), ce_J (rA 13) (kA 13) 61 (a_sen cs), ce_J (rA 14) (kA 14) 61 (a_edg cs), ce_J (rA 15) (kA 15) 61 (a_nxt cs), ce_mod rB (a_mod_t ms) (a_mod_n ms) (a_mod_a ms) (a_mod_b ms) (a_mod_unitMany ms) (a_mod_quotA ms) (a_mod_quotB ms) (a_mod_unitUsed ms) (a_mod_fu ms) (a_mod_fuB ms) (a_mod_fv ms) (a_mod_fvB ms) (a_mod_madeA ms) (a_mod_madeB ms) (a_mod_partMany ms) (a_mod_leftA ms) (a_mod_leftB ms) (a_mod_rootA ms) (a_mod_rootB ms) (a_mod_tail ms) (a_mod_round ms) (a_mod_sum ms) (a_mod_rowMany ms) (a_mod_least ms) (a_mod_leastMany ms) (a_mod_netP ms) (a_mod_netQ ms) (a_mod_netR ms) (a_mod_leapMany ms), ce_J (rB 1) (kB 1) 8 (a_regA ms), ce_J (rB 2) (kB 2) 8 (a_regB ms), ce_J (rB 3) (kB 3) 6 (a_unitA ms), ce_J (rB 4) (kB 4) 6 (a_unitB ms), ce_J (rB 5) (kB 5) 40 (a_partA ms), ce_J (rB 6) (kB 6) 40 (a_partB ms), ce_J (rB 7) (kB 7) 1000 (a_rowA ms), ce_J (rB 8) (kB 8) 1000 (a_rowB ms), ce_I (rB 9) (kB 9) 1000 (a_rowDigit ms), ce_J (rB 10) (kB 10) 12 (a_leapA ms), ce_J (rB 11) (kB 11) 12 (a_leapB ms), ce_I (rB 12) (kB 12) 3721 (a_fars ms), ce_I (rB 13) (kB 13) 3721 (a_queue ms)]) (va_runV (As := [.int (xs (x3 + (1 : Int32)).toNatClampNeg), .int (xs (x3 + (2 : Int32)).toNatClampNeg), .int (xs (x3 + (3 : Int32)).toNatClampNeg), .int (xs (x3 + (4 : Int32)).toNatClampNeg)]) (rest := []) ⟨hx, hb, hml, hown, hts⟩ (c_X7_reckon l dC dI rA kA H.size (a_net_t cs) (a_net_n cs) (a_net_units cs) (a_net_spin cs) (a_reg cs) (xs (x3 + (1 : Int32)).toNatClampNeg) (xs (x3 + (2 : Int32)).toNatClampNeg) (xs (x3 + (3 : Int32)).toNatClampNeg) (xs (x3 + (4 : Int32)).toNatClampNeg) hzp) (cwV 4 hts gL_X7_reckon rfl rfl rfl hv_X7_reckon ⟨(Nat.le_of_ble_eq_true rfl), (Nat.le_of_ble_eq_true rfl)⟩) ⟨fb_w, va_recv hK hP (ci := 7) (q0 := 0) rfl rfl, pre_w hPc hDc hKc hN⟩ rfl rfl hl.1 rfl (lv_room (Nat.le_of_ble_eq_true rfl)) dL_law_304 ⟨(Nat.le_of_ble_eq_true rfl), (Nat.le_of_ble_eq_true rfl)⟩) hP hD hS hA [0, 1, 2] [3, 4, 5, 6, 7, 8, 9, 10, 11, 12, 13, 14, 15, 16, 17, 18, 19, 20, 21, 22, 23, 24, 25, 26, 27, 28, 29] [27, 28, 29, 0, 1, 2, 3, 4, 5, 6, 7, 8, 9, 10, 11, 12, 13, 14, 15, 16, 17, 18, 19, 20, 21, 22, 23, 24, 25, 26] rfl rfl rfl (by decide) rfl rfl rfl (fun H locs hP hD hS => ?_)
        refine lv_aload_n hx hb dL_law_307 rfl (lv_at hl 3 rfl) ?_
        refine lv_aload_n hx hb dL_law_308 rfl (lv_at hl 1 rfl) ?_
        refine lv_iload_n hx hb dL_law_309 rfl (lv_at hl 0 rfl) ?_
        refine lv_iconst (v := (1 : Int32)) hx hb dL_law_310 (by decide) ?_
        refine lv_iadd hx hb dL_law_311 ?_
        refine va_sld hx hb hX hbl hbA hS hin1 dL_law_312 ?_
        refine lv_aload_n hx hb dL_law_313 rfl (lv_at hl 1 rfl) ?_
        refine lv_iload_n hx hb dL_law_314 rfl (lv_at hl 0 rfl) ?_
        refine lv_iconst (v := (2 : Int32)) hx hb dL_law_315 (by decide) ?_
        refine lv_iadd hx hb dL_law_316 ?_
        refine va_sld hx hb hX hbl hbA hS hin2 dL_law_317 ?_
        refine lv_aload_n hx hb dL_law_318 rfl (lv_at hl 1 rfl) ?_
        refine lv_iload_n hx hb dL_law_319 rfl (lv_at hl 0 rfl) ?_
        refine lv_iconst (v := (3 : Int32)) hx hb dL_law_320 (by decide) ?_
        refine lv_iadd hx hb dL_law_321 ?_
        refine va_sld hx hb hX hbl hbA hS hin3 dL_law_322 ?_
        refine lv_aload_n hx hb dL_law_323 rfl (lv_at hl 1 rfl) ?_
        refine lv_iload_n hx hb dL_law_324 rfl (lv_at hl 0 rfl) ?_
        refine lv_iconst (v := (4 : Int32)) hx hb dL_law_325 (by decide) ?_
        refine lv_iadd hx hb dL_law_326 ?_
        refine va_sld hx hb hX hbl hbA hS hin4 dL_law_327 ?_
        have hPc := hP.sub (ws' := [ce_mod rB (a_mod_t ms) (a_mod_n ms) (a_mod_a ms) (a_mod_b ms) (a_mod_unitMany ms) (a_mod_quotA ms) (a_mod_quotB ms) (a_mod_unitUsed ms) (a_mod_fu ms) (a_mod_fuB ms) (a_mod_fv ms) (a_mod_fvB ms) (a_mod_madeA ms) (a_mod_madeB ms) (a_mod_partMany ms) (a_mod_leftA ms) (a_mod_leftB ms) (a_mod_rootA ms) (a_mod_rootB ms) (a_mod_tail ms) (a_mod_round ms) (a_mod_sum ms) (a_mod_rowMany ms) (a_mod_least ms) (a_mod_leastMany ms) (a_mod_netP ms) (a_mod_netQ ms) (a_mod_netR ms) (a_mod_leapMany ms), ce_J (rB 1) (kB 1) 8 (a_regA ms), ce_J (rB 2) (kB 2) 8 (a_regB ms), ce_J (rB 3) (kB 3) 6 (a_unitA ms), ce_J (rB 4) (kB 4) 6 (a_unitB ms)]) [16, 17, 18, 19, 20] rfl
        have hKc := hK.sub (tys' := [((kB 1), .long), ((kB 2), .long), ((kB 3), .long), ((kB 4), .long)]) [7, 8, 9, 10] rfl
        have hDc := hD.sub (ws' := [ce_mod rB (a_mod_t ms) (a_mod_n ms) (a_mod_a ms) (a_mod_b ms) (a_mod_unitMany ms) (a_mod_quotA ms) (a_mod_quotB ms) (a_mod_unitUsed ms) (a_mod_fu ms) (a_mod_fuB ms) (a_mod_fv ms) (a_mod_fvB ms) (a_mod_madeA ms) (a_mod_madeB ms) (a_mod_partMany ms) (a_mod_leftA ms) (a_mod_leftB ms) (a_mod_rootA ms) (a_mod_rootB ms) (a_mod_tail ms) (a_mod_round ms) (a_mod_sum ms) (a_mod_rowMany ms) (a_mod_least ms) (a_mod_leastMany ms) (a_mod_netP ms) (a_mod_netQ ms) (a_mod_netR ms) (a_mod_leapMany ms), ce_J (rB 1) (kB 1) 8 (a_regA ms), ce_J (rB 2) (kB 2) 8 (a_regB ms), ce_J (rB 3) (kB 3) 6 (a_unitA ms), ce_J (rB 4) (kB 4) 6 (a_unitB ms)]) [16, 17, 18, 19, 20] rfl rfl
        refine kw_i (wr := [ce_pw rA , ce_net rA (a_net_t cs) (a_net_n cs) (a_net_units cs) (a_net_spin cs), ce_J (rA 2) (kA 2) 8 zp.2, ce_mak rA (a_mak_common cs) (a_mak_u cs) (a_mak_v cs), ce_fac rA (a_fac_count cs) (a_fac_left cs), ce_J (rA 5) (kA 5) 40 (a_pri cs), ce_rsd rA (a_rsd_found cs), ce_num rA (a_num_base cs) (a_num_size cs) (a_num_digitOfW cs) (a_num_tail cs) (a_num_round cs) (a_num_rings cs) (a_num_ringed cs), ce_I (rA 8) (kA 8) 625 (a_mrk cs), ce_fl (rA 9) (a_fl_p cs) (a_fl_q cs) (a_fl_r cs), ce_fl (rA 10) (a_ot_p cs) (a_ot_q cs) (a_ot_r cs), ce_lea rA (a_lea_count cs), ce_J (rA 12) (kA 12) 12 (a_lps cs), ce_J (rA 13) (kA 13) 61 (a_sen cs), ce_J (rA 14) (kA 14) 61 (a_edg cs), ce_J (rA 15) (kA 15) 61 (a_nxt cs), ce_J (rB 5) (kB 5) 40 (a_partA ms), ce_J (rB 6) (kB 6) 40 (a_partB ms), ce_J (rB 7) (kB 7) 1000 (a_rowA ms), ce_J (rB 8) (kB 8) 1000 (a_rowB ms), ce_I (rB 9) (kB 9) 1000 (a_rowDigit ms), ce_J (rB 10) (kB 10) 12 (a_leapA ms), ce_J (rB 11) (kB 11) 12 (a_leapB ms), ce_I (rB 12) (kB 12) 3721 (a_fars ms), ce_I (rB 13) (kB 13) 3721 (a_queue ms)]) (ws' := [ce_pw rA , ce_net rA (a_net_t cs) (a_net_n cs) (a_net_units cs) (a_net_spin cs), ce_J (rA 2) (kA 2) 8 zp.2, ce_mak rA (a_mak_common cs) (a_mak_u cs) (a_mak_v cs), ce_fac rA (a_fac_count cs) (a_fac_left cs), ce_J (rA 5) (kA 5) 40 (a_pri cs), ce_rsd rA (a_rsd_found cs), ce_num rA (a_num_base cs) (a_num_size cs) (a_num_digitOfW cs) (a_num_tail cs) (a_num_round cs) (a_num_rings cs) (a_num_ringed cs), ce_I (rA 8) (kA 8) 625 (a_mrk cs), ce_fl (rA 9) (a_fl_p cs) (a_fl_q cs) (a_fl_r cs), ce_fl (rA 10) (a_ot_p cs) (a_ot_q cs) (a_ot_r cs), ce_lea rA (a_lea_count cs), ce_J (rA 12) (kA 12) 12 (a_lps cs), ce_J (rA 13) (kA 13) 61 (a_sen cs), ce_J (rA 14) (kA 14) 61 (a_edg cs), ce_J (rA 15) (kA 15) 61 (a_nxt cs), ce_mod rB (a_mod_t ms) (a_mod_n ms) zq.2.1 zq.2.2.1 (a_mod_unitMany ms) zq.2.2.2.1 zq.2.2.2.2.1 zq.2.2.2.2.2.1 (a_mod_fu ms) (a_mod_fuB ms) (a_mod_fv ms) (a_mod_fvB ms) (a_mod_madeA ms) (a_mod_madeB ms) (a_mod_partMany ms) (a_mod_leftA ms) (a_mod_leftB ms) (a_mod_rootA ms) (a_mod_rootB ms) (a_mod_tail ms) (a_mod_round ms) (a_mod_sum ms) (a_mod_rowMany ms) (a_mod_least ms) (a_mod_leastMany ms) (a_mod_netP ms) (a_mod_netQ ms) (a_mod_netR ms) (a_mod_leapMany ms), ce_J (rB 1) (kB 1) 8 zq.2.2.2.2.2.2.1, ce_J (rB 2) (kB 2) 8 zq.2.2.2.2.2.2.2, ce_J (rB 3) (kB 3) 6 (a_unitA ms), ce_J (rB 4) (kB 4) 6 (a_unitB ms), ce_J (rB 5) (kB 5) 40 (a_partA ms), ce_J (rB 6) (kB 6) 40 (a_partB ms), ce_J (rB 7) (kB 7) 1000 (a_rowA ms), ce_J (rB 8) (kB 8) 1000 (a_rowB ms), ce_I (rB 9) (kB 9) 1000 (a_rowDigit ms), ce_J (rB 10) (kB 10) 12 (a_leapA ms), ce_J (rB 11) (kB 11) 12 (a_leapB ms), ce_I (rB 12) (kB 12) 3721 (a_fars ms), ce_I (rB 13) (kB 13) 3721 (a_queue ms)]) (va_runV (As := [.int (xs (x3 + (1 : Int32)).toNatClampNeg), .int (xs (x3 + (2 : Int32)).toNatClampNeg), .int (xs (x3 + (3 : Int32)).toNatClampNeg), .int (xs (x3 + (4 : Int32)).toNatClampNeg)]) (rest := [.int zp.1]) ⟨hx, hb, hml, hown, hts⟩ (c_X8_reckon l dC dI rB kB H.size (a_mod_t ms) (a_mod_n ms) (a_mod_a ms) (a_mod_b ms) (a_mod_unitMany ms) (a_mod_quotA ms) (a_mod_quotB ms) (a_mod_unitUsed ms) (a_mod_fu ms) (a_mod_fuB ms) (a_mod_fv ms) (a_mod_fvB ms) (a_mod_madeA ms) (a_mod_madeB ms) (a_mod_partMany ms) (a_mod_leftA ms) (a_mod_leftB ms) (a_mod_rootA ms) (a_mod_rootB ms) (a_mod_tail ms) (a_mod_round ms) (a_mod_sum ms) (a_mod_rowMany ms) (a_mod_least ms) (a_mod_leastMany ms) (a_mod_netP ms) (a_mod_netQ ms) (a_mod_netR ms) (a_mod_leapMany ms) (a_regA ms) (a_regB ms) (a_unitA ms) (a_unitB ms) (xs (x3 + (1 : Int32)).toNatClampNeg) (xs (x3 + (2 : Int32)).toNatClampNeg) (xs (x3 + (3 : Int32)).toNatClampNeg) (xs (x3 + (4 : Int32)).toNatClampNeg) hzq) (cwV 4 hts gL_X8_reckon rfl rfl rfl hv_X8_reckon ⟨(Nat.le_of_ble_eq_true rfl), (Nat.le_of_ble_eq_true rfl)⟩) ⟨fb_w, va_recv hK hP (ci := 8) (q0 := 16) rfl rfl, pre_w hPc hDc hKc hN⟩ rfl rfl hl.1 rfl (lv_room (Nat.le_of_ble_eq_true rfl)) dL_law_328 ⟨(Nat.le_of_ble_eq_true rfl), (Nat.le_of_ble_eq_true rfl)⟩) hP hD hS hA [16, 17, 18, 19, 20] [0, 1, 2, 3, 4, 5, 6, 7, 8, 9, 10, 11, 12, 13, 14, 15, 21, 22, 23, 24, 25, 26, 27, 28, 29] [0, 1, 2, 3, 4, 5, 6, 7, 8, 9, 10, 11, 12, 13, 14, 15, 25, 26, 27, 28, 29, 16, 17, 18, 19, 20, 21, 22, 23, 24] rfl rfl rfl (by decide) rfl rfl rfl (fun H locs hP hD hS => ?_)
        refine lv_icmp_eq (tgt := 1298) hx hb dL_law_331 (by decide) (fun c1 => ?_) (fun c1 => absurd hzr c1)
        exact hnext ((a_net_t cs), (a_net_n cs), (a_net_units cs), (a_net_spin cs), zp.2, (a_mak_common cs), (a_mak_u cs), (a_mak_v cs), (a_fac_count cs), (a_fac_left cs), (a_pri cs), (a_rsd_found cs), (a_num_base cs), (a_num_size cs), (a_num_digitOfW cs), (a_num_tail cs), (a_num_round cs), (a_num_rings cs), (a_num_ringed cs), (a_mrk cs), (a_fl_p cs), (a_fl_q cs), (a_fl_r cs), (a_ot_p cs), (a_ot_q cs), (a_ot_r cs), (a_lea_count cs), (a_lps cs), (a_sen cs), (a_edg cs), (a_nxt cs)) ((a_mod_t ms), (a_mod_n ms), zq.2.1, zq.2.2.1, (a_mod_unitMany ms), zq.2.2.2.1, zq.2.2.2.2.1, zq.2.2.2.2.2.1, (a_mod_fu ms), (a_mod_fuB ms), (a_mod_fv ms), (a_mod_fvB ms), (a_mod_madeA ms), (a_mod_madeB ms), (a_mod_partMany ms), (a_mod_leftA ms), (a_mod_leftB ms), (a_mod_rootA ms), (a_mod_rootB ms), (a_mod_tail ms), (a_mod_round ms), (a_mod_sum ms), (a_mod_rowMany ms), (a_mod_least ms), (a_mod_leastMany ms), (a_mod_netP ms), (a_mod_netQ ms), (a_mod_netR ms), (a_mod_leapMany ms), zq.2.2.2.2.2.2.1, zq.2.2.2.2.2.2.2, (a_unitA ms), (a_unitB ms), (a_partA ms), (a_partB ms), (a_rowA ms), (a_rowB ms), (a_rowDigit ms), (a_leapA ms), (a_leapB ms), (a_fars ms), (a_queue ms)) H locs ls hR hP hD hS hl
      by_cases g_5 : sel = (5 : Int32)
      · refine lv_tableIn (tgt := 336) hx hb dL_law_33 (by rw [g_5]; decide) (by rw [g_5]; decide) (by rw [g_5]; rfl) (by decide) ?_
        clear g_5 hsel
        refine lv_aload_n hx hb dL_law_336 rfl (lv_at hl 2 rfl) ?_
        refine lv_aload_n hx hb dL_law_337 rfl (lv_at hl 1 rfl) ?_
        refine lv_iload_n hx hb dL_law_338 rfl (lv_at hl 0 rfl) ?_
        refine lv_iconst (v := (1 : Int32)) hx hb dL_law_339 (by decide) ?_
        refine lv_iadd hx hb dL_law_340 ?_
        refine va_sld hx hb hX hbl hbA hS hin1 dL_law_341 ?_
        refine lv_aload_n hx hb dL_law_342 rfl (lv_at hl 1 rfl) ?_
        refine lv_iload_n hx hb dL_law_343 rfl (lv_at hl 0 rfl) ?_
        refine lv_iconst (v := (2 : Int32)) hx hb dL_law_344 (by decide) ?_
        refine lv_iadd hx hb dL_law_345 ?_
        refine va_sld hx hb hX hbl hbA hS hin2 dL_law_346 ?_
        refine lv_aload_n hx hb dL_law_347 rfl (lv_at hl 1 rfl) ?_
        refine lv_iload_n hx hb dL_law_348 rfl (lv_at hl 0 rfl) ?_
        refine lv_iconst (v := (3 : Int32)) hx hb dL_law_349 (by decide) ?_
        refine lv_iadd hx hb dL_law_350 ?_
        refine va_sld hx hb hX hbl hbA hS hin3 dL_law_351 ?_
        obtain ⟨zp, zq, hzp, hzq, hzr, hR⟩ := hm_turn cs ms hR (xs (x3 + (1 : Int32)).toNatClampNeg) (xs (x3 + (2 : Int32)).toNatClampNeg) (xs (x3 + (3 : Int32)).toNatClampNeg)
        have hPc := hP.sub (ws' := [ce_pw rA , ce_net rA (a_net_t cs) (a_net_n cs) (a_net_units cs) (a_net_spin cs), ce_J (rA 2) (kA 2) 8 (a_reg cs)]) [0, 1, 2] rfl
        have hKc := hK.sub (tys' := [((kA 2), .long)]) [0] rfl
        have hDc := hD.sub (ws' := [ce_pw rA , ce_net rA (a_net_t cs) (a_net_n cs) (a_net_units cs) (a_net_spin cs), ce_J (rA 2) (kA 2) 8 (a_reg cs)]) [0, 1, 2] rfl rfl
        refine kw_i (wr := [ce_mak rA (a_mak_common cs) (a_mak_u cs) (a_mak_v cs), ce_fac rA (a_fac_count cs) (a_fac_left cs), ce_J (rA 5) (kA 5) 40 (a_pri cs), ce_rsd rA (a_rsd_found cs), ce_num rA (a_num_base cs) (a_num_size cs) (a_num_digitOfW cs) (a_num_tail cs) (a_num_round cs) (a_num_rings cs) (a_num_ringed cs), ce_I (rA 8) (kA 8) 625 (a_mrk cs), ce_fl (rA 9) (a_fl_p cs) (a_fl_q cs) (a_fl_r cs), ce_fl (rA 10) (a_ot_p cs) (a_ot_q cs) (a_ot_r cs), ce_lea rA (a_lea_count cs), ce_J (rA 12) (kA 12) 12 (a_lps cs), ce_J (rA 13) (kA 13) 61 (a_sen cs), ce_J (rA 14) (kA 14) 61 (a_edg cs), ce_J (rA 15) (kA 15) 61 (a_nxt cs), ce_mod rB (a_mod_t ms) (a_mod_n ms) (a_mod_a ms) (a_mod_b ms) (a_mod_unitMany ms) (a_mod_quotA ms) (a_mod_quotB ms) (a_mod_unitUsed ms) (a_mod_fu ms) (a_mod_fuB ms) (a_mod_fv ms) (a_mod_fvB ms) (a_mod_madeA ms) (a_mod_madeB ms) (a_mod_partMany ms) (a_mod_leftA ms) (a_mod_leftB ms) (a_mod_rootA ms) (a_mod_rootB ms) (a_mod_tail ms) (a_mod_round ms) (a_mod_sum ms) (a_mod_rowMany ms) (a_mod_least ms) (a_mod_leastMany ms) (a_mod_netP ms) (a_mod_netQ ms) (a_mod_netR ms) (a_mod_leapMany ms), ce_J (rB 1) (kB 1) 8 (a_regA ms), ce_J (rB 2) (kB 2) 8 (a_regB ms), ce_J (rB 3) (kB 3) 6 (a_unitA ms), ce_J (rB 4) (kB 4) 6 (a_unitB ms), ce_J (rB 5) (kB 5) 40 (a_partA ms), ce_J (rB 6) (kB 6) 40 (a_partB ms), ce_J (rB 7) (kB 7) 1000 (a_rowA ms), ce_J (rB 8) (kB 8) 1000 (a_rowB ms), ce_I (rB 9) (kB 9) 1000 (a_rowDigit ms), ce_J (rB 10) (kB 10) 12 (a_leapA ms), ce_J (rB 11) (kB 11) 12 (a_leapB ms), ce_I (rB 12) (kB 12) 3721 (a_fars ms), ce_I (rB 13) (kB 13) 3721 (a_queue ms)]) (ws' := [ce_pw rA , ce_net rA (a_net_t cs) (a_net_n cs) (a_net_units cs) (a_net_spin cs), ce_J (rA 2) (kA 2) 8 zp.2, ce_mak rA (a_mak_common cs) (a_mak_u cs) (a_mak_v cs), ce_fac rA (a_fac_count cs) (a_fac_left cs), ce_J (rA 5) (kA 5) 40 (a_pri cs), ce_rsd rA (a_rsd_found cs), ce_num rA (a_num_base cs) (a_num_size cs) (a_num_digitOfW cs) (a_num_tail cs) (a_num_round cs) (a_num_rings cs) (a_num_ringed cs), ce_I (rA 8) (kA 8) 625 (a_mrk cs), ce_fl (rA 9) (a_fl_p cs) (a_fl_q cs) (a_fl_r cs), ce_fl (rA 10) (a_ot_p cs) (a_ot_q cs) (a_ot_r cs), ce_lea rA (a_lea_count cs), ce_J (rA 12) (kA 12) 12 (a_lps cs), ce_J (rA 13) (kA 13) 61 (a_sen cs), ce_J (rA 14) (kA 14) 61 (a_edg cs), ce_J (rA 15) (kA 15) 61 (a_nxt cs), ce_mod rB (a_mod_t ms) (a_mod_n ms) (a_mod_a ms) (a_mod_b ms) (a_mod_unitMany ms) (a_mod_quotA ms) (a_mod_quotB ms) (a_mod_unitUsed ms) (a_mod_fu ms) (a_mod_fuB ms) (a_mod_fv ms) (a_mod_fvB ms) (a_mod_madeA ms) (a_mod_madeB ms) (a_mod_partMany ms) (a_mod_leftA ms) (a_mod_leftB ms) (a_mod_rootA ms) (a_mod_rootB ms) (a_mod_tail ms) (a_mod_round ms) (a_mod_sum ms) (a_mod_rowMany ms) (a_mod_least ms) (a_mod_leastMany ms) (a_mod_netP ms) (a_mod_netQ ms) (a_mod_netR ms) (a_mod_leapMany ms), ce_J (rB 1) (kB 1) 8 (a_regA ms), ce_J (rB 2) (kB 2) 8 (a_regB ms), ce_J (rB 3) (kB 3) 6 (a_unitA ms), ce_J (rB 4) (kB 4) 6 (a_unitB ms), ce_J (rB 5) (kB 5) 40 (a_partA ms), ce_J (rB 6) (kB 6) 40 (a_partB ms), ce_J (rB 7) (kB 7) 1000 (a_rowA ms), ce_J (rB 8) (kB 8) 1000 (a_rowB ms), ce_I (rB 9) (kB 9) 1000 (a_rowDigit ms), ce_J (rB 10) (kB 10) 12 (a_leapA ms), ce_J (rB 11) (kB 11) 12 (a_leapB ms), ce_I (rB 12) (kB 12) 3721 (a_fars ms), ce_I (rB 13) (kB 13) 3721 (a_queue ms)]) (va_runV (As := [.int (xs (x3 + (1 : Int32)).toNatClampNeg), .int (xs (x3 + (2 : Int32)).toNatClampNeg), .int (xs (x3 + (3 : Int32)).toNatClampNeg)]) (rest := []) ⟨hx, hb, hml, hown, hts⟩ (c_X7_turn l dC dI rA kA H.size (a_net_t cs) (a_net_n cs) (a_net_units cs) (a_net_spin cs) (a_reg cs) (xs (x3 + (1 : Int32)).toNatClampNeg) (xs (x3 + (2 : Int32)).toNatClampNeg) (xs (x3 + (3 : Int32)).toNatClampNeg) hzp) (cwV 3 hts gL_X7_turn rfl rfl rfl hv_X7_turn ⟨(Nat.le_of_ble_eq_true rfl), (Nat.le_of_ble_eq_true rfl)⟩) ⟨fb_w, va_recv hK hP (ci := 7) (q0 := 0) rfl rfl, pre_w hPc hDc hKc hN⟩ rfl rfl hl.1 rfl (lv_room (Nat.le_of_ble_eq_true rfl)) dL_law_352 ⟨(Nat.le_of_ble_eq_true rfl), (Nat.le_of_ble_eq_true rfl)⟩) hP hD hS hA [0, 1, 2] [3, 4, 5, 6, 7, 8, 9, 10, 11, 12, 13, 14, 15, 16, 17, 18, 19, 20, 21, 22, 23, 24, 25, 26, 27, 28, 29] [27, 28, 29, 0, 1, 2, 3, 4, 5, 6, 7, 8, 9, 10, 11, 12, 13, 14, 15, 16, 17, 18, 19, 20, 21, 22, 23, 24, 25, 26] rfl rfl rfl (by decide) rfl rfl rfl (fun H locs hP hD hS => ?_)
        refine lv_aload_n hx hb dL_law_355 rfl (lv_at hl 3 rfl) ?_
        refine lv_aload_n hx hb dL_law_356 rfl (lv_at hl 1 rfl) ?_
        refine lv_iload_n hx hb dL_law_357 rfl (lv_at hl 0 rfl) ?_
        refine lv_iconst (v := (1 : Int32)) hx hb dL_law_358 (by decide) ?_
        refine lv_iadd hx hb dL_law_359 ?_
        refine va_sld hx hb hX hbl hbA hS hin1 dL_law_360 ?_
        refine lv_aload_n hx hb dL_law_361 rfl (lv_at hl 1 rfl) ?_
        refine lv_iload_n hx hb dL_law_362 rfl (lv_at hl 0 rfl) ?_
        refine lv_iconst (v := (2 : Int32)) hx hb dL_law_363 (by decide) ?_
        refine lv_iadd hx hb dL_law_364 ?_
        refine va_sld hx hb hX hbl hbA hS hin2 dL_law_365 ?_
        refine lv_aload_n hx hb dL_law_366 rfl (lv_at hl 1 rfl) ?_
        refine lv_iload_n hx hb dL_law_367 rfl (lv_at hl 0 rfl) ?_
        refine lv_iconst (v := (3 : Int32)) hx hb dL_law_368 (by decide) ?_
        refine lv_iadd hx hb dL_law_369 ?_
        refine va_sld hx hb hX hbl hbA hS hin3 dL_law_370 ?_
        have hPc := hP.sub (ws' := [ce_mod rB (a_mod_t ms) (a_mod_n ms) (a_mod_a ms) (a_mod_b ms) (a_mod_unitMany ms) (a_mod_quotA ms) (a_mod_quotB ms) (a_mod_unitUsed ms) (a_mod_fu ms) (a_mod_fuB ms) (a_mod_fv ms) (a_mod_fvB ms) (a_mod_madeA ms) (a_mod_madeB ms) (a_mod_partMany ms) (a_mod_leftA ms) (a_mod_leftB ms) (a_mod_rootA ms) (a_mod_rootB ms) (a_mod_tail ms) (a_mod_round ms) (a_mod_sum ms) (a_mod_rowMany ms) (a_mod_least ms) (a_mod_leastMany ms) (a_mod_netP ms) (a_mod_netQ ms) (a_mod_netR ms) (a_mod_leapMany ms), ce_J (rB 1) (kB 1) 8 (a_regA ms), ce_J (rB 2) (kB 2) 8 (a_regB ms), ce_J (rB 3) (kB 3) 6 (a_unitA ms), ce_J (rB 4) (kB 4) 6 (a_unitB ms)]) [16, 17, 18, 19, 20] rfl
        have hKc := hK.sub (tys' := [((kB 1), .long), ((kB 2), .long), ((kB 3), .long), ((kB 4), .long)]) [7, 8, 9, 10] rfl
        have hDc := hD.sub (ws' := [ce_mod rB (a_mod_t ms) (a_mod_n ms) (a_mod_a ms) (a_mod_b ms) (a_mod_unitMany ms) (a_mod_quotA ms) (a_mod_quotB ms) (a_mod_unitUsed ms) (a_mod_fu ms) (a_mod_fuB ms) (a_mod_fv ms) (a_mod_fvB ms) (a_mod_madeA ms) (a_mod_madeB ms) (a_mod_partMany ms) (a_mod_leftA ms) (a_mod_leftB ms) (a_mod_rootA ms) (a_mod_rootB ms) (a_mod_tail ms) (a_mod_round ms) (a_mod_sum ms) (a_mod_rowMany ms) (a_mod_least ms) (a_mod_leastMany ms) (a_mod_netP ms) (a_mod_netQ ms) (a_mod_netR ms) (a_mod_leapMany ms), ce_J (rB 1) (kB 1) 8 (a_regA ms), ce_J (rB 2) (kB 2) 8 (a_regB ms), ce_J (rB 3) (kB 3) 6 (a_unitA ms), ce_J (rB 4) (kB 4) 6 (a_unitB ms)]) [16, 17, 18, 19, 20] rfl rfl
        refine kw_i (wr := [ce_pw rA , ce_net rA (a_net_t cs) (a_net_n cs) (a_net_units cs) (a_net_spin cs), ce_J (rA 2) (kA 2) 8 zp.2, ce_mak rA (a_mak_common cs) (a_mak_u cs) (a_mak_v cs), ce_fac rA (a_fac_count cs) (a_fac_left cs), ce_J (rA 5) (kA 5) 40 (a_pri cs), ce_rsd rA (a_rsd_found cs), ce_num rA (a_num_base cs) (a_num_size cs) (a_num_digitOfW cs) (a_num_tail cs) (a_num_round cs) (a_num_rings cs) (a_num_ringed cs), ce_I (rA 8) (kA 8) 625 (a_mrk cs), ce_fl (rA 9) (a_fl_p cs) (a_fl_q cs) (a_fl_r cs), ce_fl (rA 10) (a_ot_p cs) (a_ot_q cs) (a_ot_r cs), ce_lea rA (a_lea_count cs), ce_J (rA 12) (kA 12) 12 (a_lps cs), ce_J (rA 13) (kA 13) 61 (a_sen cs), ce_J (rA 14) (kA 14) 61 (a_edg cs), ce_J (rA 15) (kA 15) 61 (a_nxt cs), ce_J (rB 5) (kB 5) 40 (a_partA ms), ce_J (rB 6) (kB 6) 40 (a_partB ms), ce_J (rB 7) (kB 7) 1000 (a_rowA ms), ce_J (rB 8) (kB 8) 1000 (a_rowB ms), ce_I (rB 9) (kB 9) 1000 (a_rowDigit ms), ce_J (rB 10) (kB 10) 12 (a_leapA ms), ce_J (rB 11) (kB 11) 12 (a_leapB ms), ce_I (rB 12) (kB 12) 3721 (a_fars ms), ce_I (rB 13) (kB 13) 3721 (a_queue ms)]) (ws' := [ce_pw rA , ce_net rA (a_net_t cs) (a_net_n cs) (a_net_units cs) (a_net_spin cs), ce_J (rA 2) (kA 2) 8 zp.2, ce_mak rA (a_mak_common cs) (a_mak_u cs) (a_mak_v cs), ce_fac rA (a_fac_count cs) (a_fac_left cs), ce_J (rA 5) (kA 5) 40 (a_pri cs), ce_rsd rA (a_rsd_found cs), ce_num rA (a_num_base cs) (a_num_size cs) (a_num_digitOfW cs) (a_num_tail cs) (a_num_round cs) (a_num_rings cs) (a_num_ringed cs), ce_I (rA 8) (kA 8) 625 (a_mrk cs), ce_fl (rA 9) (a_fl_p cs) (a_fl_q cs) (a_fl_r cs), ce_fl (rA 10) (a_ot_p cs) (a_ot_q cs) (a_ot_r cs), ce_lea rA (a_lea_count cs), ce_J (rA 12) (kA 12) 12 (a_lps cs), ce_J (rA 13) (kA 13) 61 (a_sen cs), ce_J (rA 14) (kA 14) 61 (a_edg cs), ce_J (rA 15) (kA 15) 61 (a_nxt cs), ce_mod rB (a_mod_t ms) (a_mod_n ms) zq.2.1 zq.2.2.1 (a_mod_unitMany ms) (a_mod_quotA ms) (a_mod_quotB ms) zq.2.2.2.1 (a_mod_fu ms) (a_mod_fuB ms) (a_mod_fv ms) (a_mod_fvB ms) (a_mod_madeA ms) (a_mod_madeB ms) (a_mod_partMany ms) (a_mod_leftA ms) (a_mod_leftB ms) (a_mod_rootA ms) (a_mod_rootB ms) (a_mod_tail ms) (a_mod_round ms) (a_mod_sum ms) (a_mod_rowMany ms) (a_mod_least ms) (a_mod_leastMany ms) (a_mod_netP ms) (a_mod_netQ ms) (a_mod_netR ms) (a_mod_leapMany ms), ce_J (rB 1) (kB 1) 8 zq.2.2.2.2.1, ce_J (rB 2) (kB 2) 8 zq.2.2.2.2.2, ce_J (rB 3) (kB 3) 6 (a_unitA ms), ce_J (rB 4) (kB 4) 6 (a_unitB ms), ce_J (rB 5) (kB 5) 40 (a_partA ms), ce_J (rB 6) (kB 6) 40 (a_partB ms), ce_J (rB 7) (kB 7) 1000 (a_rowA ms), ce_J (rB 8) (kB 8) 1000 (a_rowB ms), ce_I (rB 9) (kB 9) 1000 (a_rowDigit ms), ce_J (rB 10) (kB 10) 12 (a_leapA ms), ce_J (rB 11) (kB 11) 12 (a_leapB ms), ce_I (rB 12) (kB 12) 3721 (a_fars ms), ce_I (rB 13) (kB 13) 3721 (a_queue ms)]) (va_runV (As := [.int (xs (x3 + (1 : Int32)).toNatClampNeg), .int (xs (x3 + (2 : Int32)).toNatClampNeg), .int (xs (x3 + (3 : Int32)).toNatClampNeg)]) (rest := [.int zp.1]) ⟨hx, hb, hml, hown, hts⟩ (c_X8_turn l dC dI rB kB H.size (a_mod_t ms) (a_mod_n ms) (a_mod_a ms) (a_mod_b ms) (a_mod_unitMany ms) (a_mod_quotA ms) (a_mod_quotB ms) (a_mod_unitUsed ms) (a_mod_fu ms) (a_mod_fuB ms) (a_mod_fv ms) (a_mod_fvB ms) (a_mod_madeA ms) (a_mod_madeB ms) (a_mod_partMany ms) (a_mod_leftA ms) (a_mod_leftB ms) (a_mod_rootA ms) (a_mod_rootB ms) (a_mod_tail ms) (a_mod_round ms) (a_mod_sum ms) (a_mod_rowMany ms) (a_mod_least ms) (a_mod_leastMany ms) (a_mod_netP ms) (a_mod_netQ ms) (a_mod_netR ms) (a_mod_leapMany ms) (a_regA ms) (a_regB ms) (a_unitA ms) (a_unitB ms) (xs (x3 + (1 : Int32)).toNatClampNeg) (xs (x3 + (2 : Int32)).toNatClampNeg) (xs (x3 + (3 : Int32)).toNatClampNeg) hzq) (cwV 3 hts gL_X8_turn rfl rfl rfl hv_X8_turn ⟨(Nat.le_of_ble_eq_true rfl), (Nat.le_of_ble_eq_true rfl)⟩) ⟨fb_w, va_recv hK hP (ci := 8) (q0 := 16) rfl rfl, pre_w hPc hDc hKc hN⟩ rfl rfl hl.1 rfl (lv_room (Nat.le_of_ble_eq_true rfl)) dL_law_371 ⟨(Nat.le_of_ble_eq_true rfl), (Nat.le_of_ble_eq_true rfl)⟩) hP hD hS hA [16, 17, 18, 19, 20] [0, 1, 2, 3, 4, 5, 6, 7, 8, 9, 10, 11, 12, 13, 14, 15, 21, 22, 23, 24, 25, 26, 27, 28, 29] [0, 1, 2, 3, 4, 5, 6, 7, 8, 9, 10, 11, 12, 13, 14, 15, 25, 26, 27, 28, 29, 16, 17, 18, 19, 20, 21, 22, 23, 24] rfl rfl rfl (by decide) rfl rfl rfl (fun H locs hP hD hS => ?_)
        refine lv_icmp_eq (tgt := 1298) hx hb dL_law_374 (by decide) (fun c1 => ?_) (fun c1 => absurd hzr c1)
        exact hnext ((a_net_t cs), (a_net_n cs), (a_net_units cs), (a_net_spin cs), zp.2, (a_mak_common cs), (a_mak_u cs), (a_mak_v cs), (a_fac_count cs), (a_fac_left cs), (a_pri cs), (a_rsd_found cs), (a_num_base cs), (a_num_size cs), (a_num_digitOfW cs), (a_num_tail cs), (a_num_round cs), (a_num_rings cs), (a_num_ringed cs), (a_mrk cs), (a_fl_p cs), (a_fl_q cs), (a_fl_r cs), (a_ot_p cs), (a_ot_q cs), (a_ot_r cs), (a_lea_count cs), (a_lps cs), (a_sen cs), (a_edg cs), (a_nxt cs)) ((a_mod_t ms), (a_mod_n ms), zq.2.1, zq.2.2.1, (a_mod_unitMany ms), (a_mod_quotA ms), (a_mod_quotB ms), zq.2.2.2.1, (a_mod_fu ms), (a_mod_fuB ms), (a_mod_fv ms), (a_mod_fvB ms), (a_mod_madeA ms), (a_mod_madeB ms), (a_mod_partMany ms), (a_mod_leftA ms), (a_mod_leftB ms), (a_mod_rootA ms), (a_mod_rootB ms), (a_mod_tail ms), (a_mod_round ms), (a_mod_sum ms), (a_mod_rowMany ms), (a_mod_least ms), (a_mod_leastMany ms), (a_mod_netP ms), (a_mod_netQ ms), (a_mod_netR ms), (a_mod_leapMany ms), zq.2.2.2.2.1, zq.2.2.2.2.2, (a_unitA ms), (a_unitB ms), (a_partA ms), (a_partB ms), (a_rowA ms), (a_rowB ms), (a_rowDigit ms), (a_leapA ms), (a_leapB ms), (a_fars ms), (a_queue ms)) H locs ls hR hP hD hS hl
      by_cases g_6 : sel = (6 : Int32)
      · refine lv_tableIn (tgt := 379) hx hb dL_law_33 (by rw [g_6]; decide) (by rw [g_6]; decide) (by rw [g_6]; rfl) (by decide) ?_
        clear g_6 hsel
        refine lv_aload_n hx hb dL_law_379 rfl (lv_at hl 2 rfl) ?_
        refine lv_aload_n hx hb dL_law_380 rfl (lv_at hl 1 rfl) ?_
        refine lv_iload_n hx hb dL_law_381 rfl (lv_at hl 0 rfl) ?_
        refine lv_iconst (v := (1 : Int32)) hx hb dL_law_382 (by decide) ?_
        refine lv_iadd hx hb dL_law_383 ?_
        refine va_sld hx hb hX hbl hbA hS hin1 dL_law_384 ?_
        refine lv_aload_n hx hb dL_law_385 rfl (lv_at hl 1 rfl) ?_
        refine lv_iload_n hx hb dL_law_386 rfl (lv_at hl 0 rfl) ?_
        refine lv_iconst (v := (2 : Int32)) hx hb dL_law_387 (by decide) ?_
        refine lv_iadd hx hb dL_law_388 ?_
        refine va_sld hx hb hX hbl hbA hS hin2 dL_law_389 ?_
        refine lv_aload_n hx hb dL_law_390 rfl (lv_at hl 1 rfl) ?_
        refine lv_iload_n hx hb dL_law_391 rfl (lv_at hl 0 rfl) ?_
        refine lv_iconst (v := (3 : Int32)) hx hb dL_law_392 (by decide) ?_
        refine lv_iadd hx hb dL_law_393 ?_
        refine va_sld hx hb hX hbl hbA hS hin3 dL_law_394 ?_
        refine lv_aload_n hx hb dL_law_395 rfl (lv_at hl 1 rfl) ?_
        refine lv_iload_n hx hb dL_law_396 rfl (lv_at hl 0 rfl) ?_
        refine lv_iconst (v := (4 : Int32)) hx hb dL_law_397 (by decide) ?_
        refine lv_iadd hx hb dL_law_398 ?_
        refine va_sld hx hb hX hbl hbA hS hin4 dL_law_399 ?_
        obtain ⟨zp, zq, hzp, hzq, hzr, hR⟩ := hm_makes cs ms hR (xs (x3 + (1 : Int32)).toNatClampNeg) (xs (x3 + (2 : Int32)).toNatClampNeg) (xs (x3 + (3 : Int32)).toNatClampNeg) (xs (x3 + (4 : Int32)).toNatClampNeg)
        have hPc := hP.sub (ws' := [ce_pw rA , ce_net rA (a_net_t cs) (a_net_n cs) (a_net_units cs) (a_net_spin cs), ce_J (rA 2) (kA 2) 8 (a_reg cs), ce_mak rA (a_mak_common cs) (a_mak_u cs) (a_mak_v cs)]) [0, 1, 2, 3] rfl
        have hKc := hK.sub (tys' := [((kA 2), .long)]) [0] rfl
        have hDc := hD.sub (ws' := [ce_pw rA , ce_net rA (a_net_t cs) (a_net_n cs) (a_net_units cs) (a_net_spin cs), ce_J (rA 2) (kA 2) 8 (a_reg cs), ce_mak rA (a_mak_common cs) (a_mak_u cs) (a_mak_v cs)]) [0, 1, 2, 3] rfl rfl
        refine kw_i (wr := [ce_fac rA (a_fac_count cs) (a_fac_left cs), ce_J (rA 5) (kA 5) 40 (a_pri cs), ce_rsd rA (a_rsd_found cs), ce_num rA (a_num_base cs) (a_num_size cs) (a_num_digitOfW cs) (a_num_tail cs) (a_num_round cs) (a_num_rings cs) (a_num_ringed cs), ce_I (rA 8) (kA 8) 625 (a_mrk cs), ce_fl (rA 9) (a_fl_p cs) (a_fl_q cs) (a_fl_r cs), ce_fl (rA 10) (a_ot_p cs) (a_ot_q cs) (a_ot_r cs), ce_lea rA (a_lea_count cs), ce_J (rA 12) (kA 12) 12 (a_lps cs), ce_J (rA 13) (kA 13) 61 (a_sen cs), ce_J (rA 14) (kA 14) 61 (a_edg cs), ce_J (rA 15) (kA 15) 61 (a_nxt cs), ce_mod rB (a_mod_t ms) (a_mod_n ms) (a_mod_a ms) (a_mod_b ms) (a_mod_unitMany ms) (a_mod_quotA ms) (a_mod_quotB ms) (a_mod_unitUsed ms) (a_mod_fu ms) (a_mod_fuB ms) (a_mod_fv ms) (a_mod_fvB ms) (a_mod_madeA ms) (a_mod_madeB ms) (a_mod_partMany ms) (a_mod_leftA ms) (a_mod_leftB ms) (a_mod_rootA ms) (a_mod_rootB ms) (a_mod_tail ms) (a_mod_round ms) (a_mod_sum ms) (a_mod_rowMany ms) (a_mod_least ms) (a_mod_leastMany ms) (a_mod_netP ms) (a_mod_netQ ms) (a_mod_netR ms) (a_mod_leapMany ms), ce_J (rB 1) (kB 1) 8 (a_regA ms), ce_J (rB 2) (kB 2) 8 (a_regB ms), ce_J (rB 3) (kB 3) 6 (a_unitA ms), ce_J (rB 4) (kB 4) 6 (a_unitB ms), ce_J (rB 5) (kB 5) 40 (a_partA ms), ce_J (rB 6) (kB 6) 40 (a_partB ms), ce_J (rB 7) (kB 7) 1000 (a_rowA ms), ce_J (rB 8) (kB 8) 1000 (a_rowB ms), ce_I (rB 9) (kB 9) 1000 (a_rowDigit ms), ce_J (rB 10) (kB 10) 12 (a_leapA ms), ce_J (rB 11) (kB 11) 12 (a_leapB ms), ce_I (rB 12) (kB 12) 3721 (a_fars ms), ce_I (rB 13) (kB 13) 3721 (a_queue ms)]) (ws' := [ce_pw rA , ce_net rA (a_net_t cs) (a_net_n cs) (a_net_units cs) (a_net_spin cs), ce_J (rA 2) (kA 2) 8 zp.2.1, ce_mak rA zp.2.2.1 zp.2.2.2.1 zp.2.2.2.2, ce_fac rA (a_fac_count cs) (a_fac_left cs), ce_J (rA 5) (kA 5) 40 (a_pri cs), ce_rsd rA (a_rsd_found cs), ce_num rA (a_num_base cs) (a_num_size cs) (a_num_digitOfW cs) (a_num_tail cs) (a_num_round cs) (a_num_rings cs) (a_num_ringed cs), ce_I (rA 8) (kA 8) 625 (a_mrk cs), ce_fl (rA 9) (a_fl_p cs) (a_fl_q cs) (a_fl_r cs), ce_fl (rA 10) (a_ot_p cs) (a_ot_q cs) (a_ot_r cs), ce_lea rA (a_lea_count cs), ce_J (rA 12) (kA 12) 12 (a_lps cs), ce_J (rA 13) (kA 13) 61 (a_sen cs), ce_J (rA 14) (kA 14) 61 (a_edg cs), ce_J (rA 15) (kA 15) 61 (a_nxt cs), ce_mod rB (a_mod_t ms) (a_mod_n ms) (a_mod_a ms) (a_mod_b ms) (a_mod_unitMany ms) (a_mod_quotA ms) (a_mod_quotB ms) (a_mod_unitUsed ms) (a_mod_fu ms) (a_mod_fuB ms) (a_mod_fv ms) (a_mod_fvB ms) (a_mod_madeA ms) (a_mod_madeB ms) (a_mod_partMany ms) (a_mod_leftA ms) (a_mod_leftB ms) (a_mod_rootA ms) (a_mod_rootB ms) (a_mod_tail ms) (a_mod_round ms) (a_mod_sum ms) (a_mod_rowMany ms) (a_mod_least ms) (a_mod_leastMany ms) (a_mod_netP ms) (a_mod_netQ ms) (a_mod_netR ms) (a_mod_leapMany ms), ce_J (rB 1) (kB 1) 8 (a_regA ms), ce_J (rB 2) (kB 2) 8 (a_regB ms), ce_J (rB 3) (kB 3) 6 (a_unitA ms), ce_J (rB 4) (kB 4) 6 (a_unitB ms), ce_J (rB 5) (kB 5) 40 (a_partA ms), ce_J (rB 6) (kB 6) 40 (a_partB ms), ce_J (rB 7) (kB 7) 1000 (a_rowA ms), ce_J (rB 8) (kB 8) 1000 (a_rowB ms), ce_I (rB 9) (kB 9) 1000 (a_rowDigit ms), ce_J (rB 10) (kB 10) 12 (a_leapA ms), ce_J (rB 11) (kB 11) 12 (a_leapB ms), ce_I (rB 12) (kB 12) 3721 (a_fars ms), ce_I (rB 13) (kB 13) 3721 (a_queue ms)]) (va_runV (As := [.int (xs (x3 + (1 : Int32)).toNatClampNeg), .int (xs (x3 + (2 : Int32)).toNatClampNeg), .int (xs (x3 + (3 : Int32)).toNatClampNeg), .int (xs (x3 + (4 : Int32)).toNatClampNeg)]) (rest := []) ⟨hx, hb, hml, hown, hts⟩ (c_X7_makes l dC dI rA kA H.size (a_net_t cs) (a_net_n cs) (a_net_units cs) (a_net_spin cs) (a_reg cs) (a_mak_common cs) (a_mak_u cs) (a_mak_v cs) (xs (x3 + (1 : Int32)).toNatClampNeg) (xs (x3 + (2 : Int32)).toNatClampNeg) (xs (x3 + (3 : Int32)).toNatClampNeg) (xs (x3 + (4 : Int32)).toNatClampNeg) hzp) (cwV 4 hts gL_X7_makes rfl rfl rfl hv_X7_makes ⟨(Nat.le_of_ble_eq_true rfl), (Nat.le_of_ble_eq_true rfl)⟩) ⟨fb_w, va_recv hK hP (ci := 7) (q0 := 0) rfl rfl, pre_w hPc hDc hKc hN⟩ rfl rfl hl.1 rfl (lv_room (Nat.le_of_ble_eq_true rfl)) dL_law_400 ⟨(Nat.le_of_ble_eq_true rfl), (Nat.le_of_ble_eq_true rfl)⟩) hP hD hS hA [0, 1, 2, 3] [4, 5, 6, 7, 8, 9, 10, 11, 12, 13, 14, 15, 16, 17, 18, 19, 20, 21, 22, 23, 24, 25, 26, 27, 28, 29] [26, 27, 28, 29, 0, 1, 2, 3, 4, 5, 6, 7, 8, 9, 10, 11, 12, 13, 14, 15, 16, 17, 18, 19, 20, 21, 22, 23, 24, 25] rfl rfl rfl (by decide) rfl rfl rfl (fun H locs hP hD hS => ?_)
        refine lv_aload_n hx hb dL_law_403 rfl (lv_at hl 3 rfl) ?_
        refine lv_aload_n hx hb dL_law_404 rfl (lv_at hl 1 rfl) ?_
        refine lv_iload_n hx hb dL_law_405 rfl (lv_at hl 0 rfl) ?_
        refine lv_iconst (v := (1 : Int32)) hx hb dL_law_406 (by decide) ?_
        refine lv_iadd hx hb dL_law_407 ?_
        refine va_sld hx hb hX hbl hbA hS hin1 dL_law_408 ?_
        refine lv_aload_n hx hb dL_law_409 rfl (lv_at hl 1 rfl) ?_
        refine lv_iload_n hx hb dL_law_410 rfl (lv_at hl 0 rfl) ?_
        refine lv_iconst (v := (2 : Int32)) hx hb dL_law_411 (by decide) ?_
        refine lv_iadd hx hb dL_law_412 ?_
        refine va_sld hx hb hX hbl hbA hS hin2 dL_law_413 ?_
        refine lv_aload_n hx hb dL_law_414 rfl (lv_at hl 1 rfl) ?_
        refine lv_iload_n hx hb dL_law_415 rfl (lv_at hl 0 rfl) ?_
        refine lv_iconst (v := (3 : Int32)) hx hb dL_law_416 (by decide) ?_
        refine lv_iadd hx hb dL_law_417 ?_
        refine va_sld hx hb hX hbl hbA hS hin3 dL_law_418 ?_
        refine lv_aload_n hx hb dL_law_419 rfl (lv_at hl 1 rfl) ?_
        refine lv_iload_n hx hb dL_law_420 rfl (lv_at hl 0 rfl) ?_
        refine lv_iconst (v := (4 : Int32)) hx hb dL_law_421 (by decide) ?_
        refine lv_iadd hx hb dL_law_422 ?_
        refine va_sld hx hb hX hbl hbA hS hin4 dL_law_423 ?_
        have hPc := hP.sub (ws' := [ce_mod rB (a_mod_t ms) (a_mod_n ms) (a_mod_a ms) (a_mod_b ms) (a_mod_unitMany ms) (a_mod_quotA ms) (a_mod_quotB ms) (a_mod_unitUsed ms) (a_mod_fu ms) (a_mod_fuB ms) (a_mod_fv ms) (a_mod_fvB ms) (a_mod_madeA ms) (a_mod_madeB ms) (a_mod_partMany ms) (a_mod_leftA ms) (a_mod_leftB ms) (a_mod_rootA ms) (a_mod_rootB ms) (a_mod_tail ms) (a_mod_round ms) (a_mod_sum ms) (a_mod_rowMany ms) (a_mod_least ms) (a_mod_leastMany ms) (a_mod_netP ms) (a_mod_netQ ms) (a_mod_netR ms) (a_mod_leapMany ms), ce_J (rB 1) (kB 1) 8 (a_regA ms), ce_J (rB 2) (kB 2) 8 (a_regB ms), ce_J (rB 3) (kB 3) 6 (a_unitA ms), ce_J (rB 4) (kB 4) 6 (a_unitB ms)]) [16, 17, 18, 19, 20] rfl
        have hKc := hK.sub (tys' := [((kB 1), .long), ((kB 2), .long), ((kB 3), .long), ((kB 4), .long)]) [7, 8, 9, 10] rfl
        have hDc := hD.sub (ws' := [ce_mod rB (a_mod_t ms) (a_mod_n ms) (a_mod_a ms) (a_mod_b ms) (a_mod_unitMany ms) (a_mod_quotA ms) (a_mod_quotB ms) (a_mod_unitUsed ms) (a_mod_fu ms) (a_mod_fuB ms) (a_mod_fv ms) (a_mod_fvB ms) (a_mod_madeA ms) (a_mod_madeB ms) (a_mod_partMany ms) (a_mod_leftA ms) (a_mod_leftB ms) (a_mod_rootA ms) (a_mod_rootB ms) (a_mod_tail ms) (a_mod_round ms) (a_mod_sum ms) (a_mod_rowMany ms) (a_mod_least ms) (a_mod_leastMany ms) (a_mod_netP ms) (a_mod_netQ ms) (a_mod_netR ms) (a_mod_leapMany ms), ce_J (rB 1) (kB 1) 8 (a_regA ms), ce_J (rB 2) (kB 2) 8 (a_regB ms), ce_J (rB 3) (kB 3) 6 (a_unitA ms), ce_J (rB 4) (kB 4) 6 (a_unitB ms)]) [16, 17, 18, 19, 20] rfl rfl
        refine kw_i (wr := [ce_pw rA , ce_net rA (a_net_t cs) (a_net_n cs) (a_net_units cs) (a_net_spin cs), ce_J (rA 2) (kA 2) 8 zp.2.1, ce_mak rA zp.2.2.1 zp.2.2.2.1 zp.2.2.2.2, ce_fac rA (a_fac_count cs) (a_fac_left cs), ce_J (rA 5) (kA 5) 40 (a_pri cs), ce_rsd rA (a_rsd_found cs), ce_num rA (a_num_base cs) (a_num_size cs) (a_num_digitOfW cs) (a_num_tail cs) (a_num_round cs) (a_num_rings cs) (a_num_ringed cs), ce_I (rA 8) (kA 8) 625 (a_mrk cs), ce_fl (rA 9) (a_fl_p cs) (a_fl_q cs) (a_fl_r cs), ce_fl (rA 10) (a_ot_p cs) (a_ot_q cs) (a_ot_r cs), ce_lea rA (a_lea_count cs), ce_J (rA 12) (kA 12) 12 (a_lps cs), ce_J (rA 13) (kA 13) 61 (a_sen cs), ce_J (rA 14) (kA 14) 61 (a_edg cs), ce_J (rA 15) (kA 15) 61 (a_nxt cs), ce_J (rB 5) (kB 5) 40 (a_partA ms), ce_J (rB 6) (kB 6) 40 (a_partB ms), ce_J (rB 7) (kB 7) 1000 (a_rowA ms), ce_J (rB 8) (kB 8) 1000 (a_rowB ms), ce_I (rB 9) (kB 9) 1000 (a_rowDigit ms), ce_J (rB 10) (kB 10) 12 (a_leapA ms), ce_J (rB 11) (kB 11) 12 (a_leapB ms), ce_I (rB 12) (kB 12) 3721 (a_fars ms), ce_I (rB 13) (kB 13) 3721 (a_queue ms)]) (ws' := [ce_pw rA , ce_net rA (a_net_t cs) (a_net_n cs) (a_net_units cs) (a_net_spin cs), ce_J (rA 2) (kA 2) 8 zp.2.1, ce_mak rA zp.2.2.1 zp.2.2.2.1 zp.2.2.2.2, ce_fac rA (a_fac_count cs) (a_fac_left cs), ce_J (rA 5) (kA 5) 40 (a_pri cs), ce_rsd rA (a_rsd_found cs), ce_num rA (a_num_base cs) (a_num_size cs) (a_num_digitOfW cs) (a_num_tail cs) (a_num_round cs) (a_num_rings cs) (a_num_ringed cs), ce_I (rA 8) (kA 8) 625 (a_mrk cs), ce_fl (rA 9) (a_fl_p cs) (a_fl_q cs) (a_fl_r cs), ce_fl (rA 10) (a_ot_p cs) (a_ot_q cs) (a_ot_r cs), ce_lea rA (a_lea_count cs), ce_J (rA 12) (kA 12) 12 (a_lps cs), ce_J (rA 13) (kA 13) 61 (a_sen cs), ce_J (rA 14) (kA 14) 61 (a_edg cs), ce_J (rA 15) (kA 15) 61 (a_nxt cs), ce_mod rB (a_mod_t ms) (a_mod_n ms) zq.2.1 zq.2.2.1 (a_mod_unitMany ms) zq.2.2.2.1 zq.2.2.2.2.1 zq.2.2.2.2.2.1 zq.2.2.2.2.2.2.1 zq.2.2.2.2.2.2.2.1 zq.2.2.2.2.2.2.2.2.1 zq.2.2.2.2.2.2.2.2.2.1 zq.2.2.2.2.2.2.2.2.2.2.1 zq.2.2.2.2.2.2.2.2.2.2.2.1 (a_mod_partMany ms) (a_mod_leftA ms) (a_mod_leftB ms) (a_mod_rootA ms) (a_mod_rootB ms) (a_mod_tail ms) (a_mod_round ms) (a_mod_sum ms) (a_mod_rowMany ms) (a_mod_least ms) (a_mod_leastMany ms) (a_mod_netP ms) (a_mod_netQ ms) (a_mod_netR ms) (a_mod_leapMany ms), ce_J (rB 1) (kB 1) 8 zq.2.2.2.2.2.2.2.2.2.2.2.2.1, ce_J (rB 2) (kB 2) 8 zq.2.2.2.2.2.2.2.2.2.2.2.2.2, ce_J (rB 3) (kB 3) 6 (a_unitA ms), ce_J (rB 4) (kB 4) 6 (a_unitB ms), ce_J (rB 5) (kB 5) 40 (a_partA ms), ce_J (rB 6) (kB 6) 40 (a_partB ms), ce_J (rB 7) (kB 7) 1000 (a_rowA ms), ce_J (rB 8) (kB 8) 1000 (a_rowB ms), ce_I (rB 9) (kB 9) 1000 (a_rowDigit ms), ce_J (rB 10) (kB 10) 12 (a_leapA ms), ce_J (rB 11) (kB 11) 12 (a_leapB ms), ce_I (rB 12) (kB 12) 3721 (a_fars ms), ce_I (rB 13) (kB 13) 3721 (a_queue ms)]) (va_runV (As := [.int (xs (x3 + (1 : Int32)).toNatClampNeg), .int (xs (x3 + (2 : Int32)).toNatClampNeg), .int (xs (x3 + (3 : Int32)).toNatClampNeg), .int (xs (x3 + (4 : Int32)).toNatClampNeg)]) (rest := [.int zp.1]) ⟨hx, hb, hml, hown, hts⟩ (c_X8_makes l dC dI rB kB H.size (a_mod_t ms) (a_mod_n ms) (a_mod_a ms) (a_mod_b ms) (a_mod_unitMany ms) (a_mod_quotA ms) (a_mod_quotB ms) (a_mod_unitUsed ms) (a_mod_fu ms) (a_mod_fuB ms) (a_mod_fv ms) (a_mod_fvB ms) (a_mod_madeA ms) (a_mod_madeB ms) (a_mod_partMany ms) (a_mod_leftA ms) (a_mod_leftB ms) (a_mod_rootA ms) (a_mod_rootB ms) (a_mod_tail ms) (a_mod_round ms) (a_mod_sum ms) (a_mod_rowMany ms) (a_mod_least ms) (a_mod_leastMany ms) (a_mod_netP ms) (a_mod_netQ ms) (a_mod_netR ms) (a_mod_leapMany ms) (a_regA ms) (a_regB ms) (a_unitA ms) (a_unitB ms) (xs (x3 + (1 : Int32)).toNatClampNeg) (xs (x3 + (2 : Int32)).toNatClampNeg) (xs (x3 + (3 : Int32)).toNatClampNeg) (xs (x3 + (4 : Int32)).toNatClampNeg) hzq) (cwV 4 hts gL_X8_makes rfl rfl rfl hv_X8_makes ⟨(Nat.le_of_ble_eq_true rfl), (Nat.le_of_ble_eq_true rfl)⟩) ⟨fb_w, va_recv hK hP (ci := 8) (q0 := 16) rfl rfl, pre_w hPc hDc hKc hN⟩ rfl rfl hl.1 rfl (lv_room (Nat.le_of_ble_eq_true rfl)) dL_law_424 ⟨(Nat.le_of_ble_eq_true rfl), (Nat.le_of_ble_eq_true rfl)⟩) hP hD hS hA [16, 17, 18, 19, 20] [0, 1, 2, 3, 4, 5, 6, 7, 8, 9, 10, 11, 12, 13, 14, 15, 21, 22, 23, 24, 25, 26, 27, 28, 29] [0, 1, 2, 3, 4, 5, 6, 7, 8, 9, 10, 11, 12, 13, 14, 15, 25, 26, 27, 28, 29, 16, 17, 18, 19, 20, 21, 22, 23, 24] rfl rfl rfl (by decide) rfl rfl rfl (fun H locs hP hD hS => ?_)
        refine lv_icmp_eq (tgt := 1298) hx hb dL_law_427 (by decide) (fun c1 => ?_) (fun c1 => absurd hzr c1)
        exact hnext ((a_net_t cs), (a_net_n cs), (a_net_units cs), (a_net_spin cs), zp.2.1, zp.2.2.1, zp.2.2.2.1, zp.2.2.2.2, (a_fac_count cs), (a_fac_left cs), (a_pri cs), (a_rsd_found cs), (a_num_base cs), (a_num_size cs), (a_num_digitOfW cs), (a_num_tail cs), (a_num_round cs), (a_num_rings cs), (a_num_ringed cs), (a_mrk cs), (a_fl_p cs), (a_fl_q cs), (a_fl_r cs), (a_ot_p cs), (a_ot_q cs), (a_ot_r cs), (a_lea_count cs), (a_lps cs), (a_sen cs), (a_edg cs), (a_nxt cs)) ((a_mod_t ms), (a_mod_n ms), zq.2.1, zq.2.2.1, (a_mod_unitMany ms), zq.2.2.2.1, zq.2.2.2.2.1, zq.2.2.2.2.2.1, zq.2.2.2.2.2.2.1, zq.2.2.2.2.2.2.2.1, zq.2.2.2.2.2.2.2.2.1, zq.2.2.2.2.2.2.2.2.2.1, zq.2.2.2.2.2.2.2.2.2.2.1, zq.2.2.2.2.2.2.2.2.2.2.2.1, (a_mod_partMany ms), (a_mod_leftA ms), (a_mod_leftB ms), (a_mod_rootA ms), (a_mod_rootB ms), (a_mod_tail ms), (a_mod_round ms), (a_mod_sum ms), (a_mod_rowMany ms), (a_mod_least ms), (a_mod_leastMany ms), (a_mod_netP ms), (a_mod_netQ ms), (a_mod_netR ms), (a_mod_leapMany ms), zq.2.2.2.2.2.2.2.2.2.2.2.2.1, zq.2.2.2.2.2.2.2.2.2.2.2.2.2, (a_unitA ms), (a_unitB ms), (a_partA ms), (a_partB ms), (a_rowA ms), (a_rowB ms), (a_rowDigit ms), (a_leapA ms), (a_leapB ms), (a_fars ms), (a_queue ms)) H locs ls hR hP hD hS hl
      by_cases g_7 : sel = (7 : Int32)
      · refine lv_tableIn (tgt := 432) hx hb dL_law_33 (by rw [g_7]; decide) (by rw [g_7]; decide) (by rw [g_7]; rfl) (by decide) ?_
        clear g_7 hsel
        refine lv_aload_n hx hb dL_law_432 rfl (lv_at hl 2 rfl) ?_
        refine lv_aload_n hx hb dL_law_433 rfl (lv_at hl 1 rfl) ?_
        refine lv_iload_n hx hb dL_law_434 rfl (lv_at hl 0 rfl) ?_
        refine lv_iconst (v := (1 : Int32)) hx hb dL_law_435 (by decide) ?_
        refine lv_iadd hx hb dL_law_436 ?_
        refine va_sld hx hb hX hbl hbA hS hin1 dL_law_437 ?_
        refine lv_aload_n hx hb dL_law_438 rfl (lv_at hl 1 rfl) ?_
        refine lv_iload_n hx hb dL_law_439 rfl (lv_at hl 0 rfl) ?_
        refine lv_iconst (v := (2 : Int32)) hx hb dL_law_440 (by decide) ?_
        refine lv_iadd hx hb dL_law_441 ?_
        refine va_sld hx hb hX hbl hbA hS hin2 dL_law_442 ?_
        obtain ⟨zp, zq, hzp, hzq, hzr, hR⟩ := hm_like cs ms hR (xs (x3 + (1 : Int32)).toNatClampNeg) (xs (x3 + (2 : Int32)).toNatClampNeg)
        have hPc := hP.sub (ws' := [ce_pw rA , ce_net rA (a_net_t cs) (a_net_n cs) (a_net_units cs) (a_net_spin cs), ce_J (rA 2) (kA 2) 8 (a_reg cs)]) [0, 1, 2] rfl
        have hKc := hK.sub (tys' := [((kA 2), .long)]) [0] rfl
        refine kp_i (va_runV (As := [.int (xs (x3 + (1 : Int32)).toNatClampNeg), .int (xs (x3 + (2 : Int32)).toNatClampNeg)]) (rest := []) ⟨hx, hb, hml, hown, hts⟩ (c_X7_like l dC dI rA kA (a_net_t cs) (a_net_n cs) (a_net_units cs) (a_net_spin cs) (a_reg cs) (xs (x3 + (1 : Int32)).toNatClampNeg) (xs (x3 + (2 : Int32)).toNatClampNeg) hzp) (cwV 2 hts gL_X7_like rfl rfl rfl hv_X7_like ⟨(Nat.le_of_ble_eq_true rfl), (Nat.le_of_ble_eq_true rfl)⟩) ⟨fb_p, va_recv hK hP (ci := 7) (q0 := 0) rfl rfl, pre_p hPc hKc hN⟩ rfl rfl hl.1 rfl (lv_room (Nat.le_of_ble_eq_true rfl)) dL_law_443 ⟨(Nat.le_of_ble_eq_true rfl), (Nat.le_of_ble_eq_true rfl)⟩) ?_
        refine lv_aload_n hx hb dL_law_446 rfl (lv_at hl 3 rfl) ?_
        refine lv_aload_n hx hb dL_law_447 rfl (lv_at hl 1 rfl) ?_
        refine lv_iload_n hx hb dL_law_448 rfl (lv_at hl 0 rfl) ?_
        refine lv_iconst (v := (1 : Int32)) hx hb dL_law_449 (by decide) ?_
        refine lv_iadd hx hb dL_law_450 ?_
        refine va_sld hx hb hX hbl hbA hS hin1 dL_law_451 ?_
        refine lv_aload_n hx hb dL_law_452 rfl (lv_at hl 1 rfl) ?_
        refine lv_iload_n hx hb dL_law_453 rfl (lv_at hl 0 rfl) ?_
        refine lv_iconst (v := (2 : Int32)) hx hb dL_law_454 (by decide) ?_
        refine lv_iadd hx hb dL_law_455 ?_
        refine va_sld hx hb hX hbl hbA hS hin2 dL_law_456 ?_
        have hPc := hP.sub (ws' := [ce_mod rB (a_mod_t ms) (a_mod_n ms) (a_mod_a ms) (a_mod_b ms) (a_mod_unitMany ms) (a_mod_quotA ms) (a_mod_quotB ms) (a_mod_unitUsed ms) (a_mod_fu ms) (a_mod_fuB ms) (a_mod_fv ms) (a_mod_fvB ms) (a_mod_madeA ms) (a_mod_madeB ms) (a_mod_partMany ms) (a_mod_leftA ms) (a_mod_leftB ms) (a_mod_rootA ms) (a_mod_rootB ms) (a_mod_tail ms) (a_mod_round ms) (a_mod_sum ms) (a_mod_rowMany ms) (a_mod_least ms) (a_mod_leastMany ms) (a_mod_netP ms) (a_mod_netQ ms) (a_mod_netR ms) (a_mod_leapMany ms), ce_J (rB 1) (kB 1) 8 (a_regA ms), ce_J (rB 2) (kB 2) 8 (a_regB ms), ce_J (rB 3) (kB 3) 6 (a_unitA ms), ce_J (rB 4) (kB 4) 6 (a_unitB ms)]) [16, 17, 18, 19, 20] rfl
        have hKc := hK.sub (tys' := [((kB 1), .long), ((kB 2), .long), ((kB 3), .long), ((kB 4), .long)]) [7, 8, 9, 10] rfl
        have hDc := hD.sub (ws' := [ce_mod rB (a_mod_t ms) (a_mod_n ms) (a_mod_a ms) (a_mod_b ms) (a_mod_unitMany ms) (a_mod_quotA ms) (a_mod_quotB ms) (a_mod_unitUsed ms) (a_mod_fu ms) (a_mod_fuB ms) (a_mod_fv ms) (a_mod_fvB ms) (a_mod_madeA ms) (a_mod_madeB ms) (a_mod_partMany ms) (a_mod_leftA ms) (a_mod_leftB ms) (a_mod_rootA ms) (a_mod_rootB ms) (a_mod_tail ms) (a_mod_round ms) (a_mod_sum ms) (a_mod_rowMany ms) (a_mod_least ms) (a_mod_leastMany ms) (a_mod_netP ms) (a_mod_netQ ms) (a_mod_netR ms) (a_mod_leapMany ms), ce_J (rB 1) (kB 1) 8 (a_regA ms), ce_J (rB 2) (kB 2) 8 (a_regB ms), ce_J (rB 3) (kB 3) 6 (a_unitA ms), ce_J (rB 4) (kB 4) 6 (a_unitB ms)]) [16, 17, 18, 19, 20] rfl rfl
        refine kw_i (wr := [ce_pw rA , ce_net rA (a_net_t cs) (a_net_n cs) (a_net_units cs) (a_net_spin cs), ce_J (rA 2) (kA 2) 8 (a_reg cs), ce_mak rA (a_mak_common cs) (a_mak_u cs) (a_mak_v cs), ce_fac rA (a_fac_count cs) (a_fac_left cs), ce_J (rA 5) (kA 5) 40 (a_pri cs), ce_rsd rA (a_rsd_found cs), ce_num rA (a_num_base cs) (a_num_size cs) (a_num_digitOfW cs) (a_num_tail cs) (a_num_round cs) (a_num_rings cs) (a_num_ringed cs), ce_I (rA 8) (kA 8) 625 (a_mrk cs), ce_fl (rA 9) (a_fl_p cs) (a_fl_q cs) (a_fl_r cs), ce_fl (rA 10) (a_ot_p cs) (a_ot_q cs) (a_ot_r cs), ce_lea rA (a_lea_count cs), ce_J (rA 12) (kA 12) 12 (a_lps cs), ce_J (rA 13) (kA 13) 61 (a_sen cs), ce_J (rA 14) (kA 14) 61 (a_edg cs), ce_J (rA 15) (kA 15) 61 (a_nxt cs), ce_J (rB 5) (kB 5) 40 (a_partA ms), ce_J (rB 6) (kB 6) 40 (a_partB ms), ce_J (rB 7) (kB 7) 1000 (a_rowA ms), ce_J (rB 8) (kB 8) 1000 (a_rowB ms), ce_I (rB 9) (kB 9) 1000 (a_rowDigit ms), ce_J (rB 10) (kB 10) 12 (a_leapA ms), ce_J (rB 11) (kB 11) 12 (a_leapB ms), ce_I (rB 12) (kB 12) 3721 (a_fars ms), ce_I (rB 13) (kB 13) 3721 (a_queue ms)]) (ws' := [ce_pw rA , ce_net rA (a_net_t cs) (a_net_n cs) (a_net_units cs) (a_net_spin cs), ce_J (rA 2) (kA 2) 8 (a_reg cs), ce_mak rA (a_mak_common cs) (a_mak_u cs) (a_mak_v cs), ce_fac rA (a_fac_count cs) (a_fac_left cs), ce_J (rA 5) (kA 5) 40 (a_pri cs), ce_rsd rA (a_rsd_found cs), ce_num rA (a_num_base cs) (a_num_size cs) (a_num_digitOfW cs) (a_num_tail cs) (a_num_round cs) (a_num_rings cs) (a_num_ringed cs), ce_I (rA 8) (kA 8) 625 (a_mrk cs), ce_fl (rA 9) (a_fl_p cs) (a_fl_q cs) (a_fl_r cs), ce_fl (rA 10) (a_ot_p cs) (a_ot_q cs) (a_ot_r cs), ce_lea rA (a_lea_count cs), ce_J (rA 12) (kA 12) 12 (a_lps cs), ce_J (rA 13) (kA 13) 61 (a_sen cs), ce_J (rA 14) (kA 14) 61 (a_edg cs), ce_J (rA 15) (kA 15) 61 (a_nxt cs), ce_mod rB (a_mod_t ms) (a_mod_n ms) zq.2.1 zq.2.2 (a_mod_unitMany ms) (a_mod_quotA ms) (a_mod_quotB ms) (a_mod_unitUsed ms) (a_mod_fu ms) (a_mod_fuB ms) (a_mod_fv ms) (a_mod_fvB ms) (a_mod_madeA ms) (a_mod_madeB ms) (a_mod_partMany ms) (a_mod_leftA ms) (a_mod_leftB ms) (a_mod_rootA ms) (a_mod_rootB ms) (a_mod_tail ms) (a_mod_round ms) (a_mod_sum ms) (a_mod_rowMany ms) (a_mod_least ms) (a_mod_leastMany ms) (a_mod_netP ms) (a_mod_netQ ms) (a_mod_netR ms) (a_mod_leapMany ms), ce_J (rB 1) (kB 1) 8 (a_regA ms), ce_J (rB 2) (kB 2) 8 (a_regB ms), ce_J (rB 3) (kB 3) 6 (a_unitA ms), ce_J (rB 4) (kB 4) 6 (a_unitB ms), ce_J (rB 5) (kB 5) 40 (a_partA ms), ce_J (rB 6) (kB 6) 40 (a_partB ms), ce_J (rB 7) (kB 7) 1000 (a_rowA ms), ce_J (rB 8) (kB 8) 1000 (a_rowB ms), ce_I (rB 9) (kB 9) 1000 (a_rowDigit ms), ce_J (rB 10) (kB 10) 12 (a_leapA ms), ce_J (rB 11) (kB 11) 12 (a_leapB ms), ce_I (rB 12) (kB 12) 3721 (a_fars ms), ce_I (rB 13) (kB 13) 3721 (a_queue ms)]) (va_runV (As := [.int (xs (x3 + (1 : Int32)).toNatClampNeg), .int (xs (x3 + (2 : Int32)).toNatClampNeg)]) (rest := [.int zp]) ⟨hx, hb, hml, hown, hts⟩ (c_X8_like l dC dI rB kB H.size (a_mod_t ms) (a_mod_n ms) (a_mod_a ms) (a_mod_b ms) (a_mod_unitMany ms) (a_mod_quotA ms) (a_mod_quotB ms) (a_mod_unitUsed ms) (a_mod_fu ms) (a_mod_fuB ms) (a_mod_fv ms) (a_mod_fvB ms) (a_mod_madeA ms) (a_mod_madeB ms) (a_mod_partMany ms) (a_mod_leftA ms) (a_mod_leftB ms) (a_mod_rootA ms) (a_mod_rootB ms) (a_mod_tail ms) (a_mod_round ms) (a_mod_sum ms) (a_mod_rowMany ms) (a_mod_least ms) (a_mod_leastMany ms) (a_mod_netP ms) (a_mod_netQ ms) (a_mod_netR ms) (a_mod_leapMany ms) (a_regA ms) (a_regB ms) (a_unitA ms) (a_unitB ms) (xs (x3 + (1 : Int32)).toNatClampNeg) (xs (x3 + (2 : Int32)).toNatClampNeg) hzq) (cwV 2 hts gL_X8_like rfl rfl rfl hv_X8_like ⟨(Nat.le_of_ble_eq_true rfl), (Nat.le_of_ble_eq_true rfl)⟩) ⟨fb_w, va_recv hK hP (ci := 8) (q0 := 16) rfl rfl, pre_w hPc hDc hKc hN⟩ rfl rfl hl.1 rfl (lv_room (Nat.le_of_ble_eq_true rfl)) dL_law_457 ⟨(Nat.le_of_ble_eq_true rfl), (Nat.le_of_ble_eq_true rfl)⟩) hP hD hS hA [16, 17, 18, 19, 20] [0, 1, 2, 3, 4, 5, 6, 7, 8, 9, 10, 11, 12, 13, 14, 15, 21, 22, 23, 24, 25, 26, 27, 28, 29] [0, 1, 2, 3, 4, 5, 6, 7, 8, 9, 10, 11, 12, 13, 14, 15, 25, 26, 27, 28, 29, 16, 17, 18, 19, 20, 21, 22, 23, 24] rfl rfl rfl (by decide) rfl rfl rfl (fun H locs hP hD hS => ?_)
        refine lv_icmp_eq (tgt := 1298) hx hb dL_law_460 (by decide) (fun c1 => ?_) (fun c1 => absurd hzr c1)
        exact hnext ((a_net_t cs), (a_net_n cs), (a_net_units cs), (a_net_spin cs), (a_reg cs), (a_mak_common cs), (a_mak_u cs), (a_mak_v cs), (a_fac_count cs), (a_fac_left cs), (a_pri cs), (a_rsd_found cs), (a_num_base cs), (a_num_size cs), (a_num_digitOfW cs), (a_num_tail cs), (a_num_round cs), (a_num_rings cs), (a_num_ringed cs), (a_mrk cs), (a_fl_p cs), (a_fl_q cs), (a_fl_r cs), (a_ot_p cs), (a_ot_q cs), (a_ot_r cs), (a_lea_count cs), (a_lps cs), (a_sen cs), (a_edg cs), (a_nxt cs)) ((a_mod_t ms), (a_mod_n ms), zq.2.1, zq.2.2, (a_mod_unitMany ms), (a_mod_quotA ms), (a_mod_quotB ms), (a_mod_unitUsed ms), (a_mod_fu ms), (a_mod_fuB ms), (a_mod_fv ms), (a_mod_fvB ms), (a_mod_madeA ms), (a_mod_madeB ms), (a_mod_partMany ms), (a_mod_leftA ms), (a_mod_leftB ms), (a_mod_rootA ms), (a_mod_rootB ms), (a_mod_tail ms), (a_mod_round ms), (a_mod_sum ms), (a_mod_rowMany ms), (a_mod_least ms), (a_mod_leastMany ms), (a_mod_netP ms), (a_mod_netQ ms), (a_mod_netR ms), (a_mod_leapMany ms), (a_regA ms), (a_regB ms), (a_unitA ms), (a_unitB ms), (a_partA ms), (a_partB ms), (a_rowA ms), (a_rowB ms), (a_rowDigit ms), (a_leapA ms), (a_leapB ms), (a_fars ms), (a_queue ms)) H locs ls hR hP hD hS hl
      by_cases g_8 : sel = (8 : Int32)
      · refine lv_tableIn (tgt := 465) hx hb dL_law_33 (by rw [g_8]; decide) (by rw [g_8]; decide) (by rw [g_8]; rfl) (by decide) ?_
        clear g_8 hsel
        refine lv_aload_n hx hb dL_law_465 rfl (lv_at hl 2 rfl) ?_
        refine lv_aload_n hx hb dL_law_466 rfl (lv_at hl 1 rfl) ?_
        refine lv_iload_n hx hb dL_law_467 rfl (lv_at hl 0 rfl) ?_
        refine lv_iconst (v := (1 : Int32)) hx hb dL_law_468 (by decide) ?_
        refine lv_iadd hx hb dL_law_469 ?_
        refine va_sld hx hb hX hbl hbA hS hin1 dL_law_470 ?_
        obtain ⟨zp, zq, hzp, hzq, hzr, hR⟩ := hm_parts cs ms hR (xs (x3 + (1 : Int32)).toNatClampNeg)
        have hPc := hP.sub (ws' := [ce_pw rA , ce_net rA (a_net_t cs) (a_net_n cs) (a_net_units cs) (a_net_spin cs), ce_J (rA 2) (kA 2) 8 (a_reg cs), ce_fac rA (a_fac_count cs) (a_fac_left cs), ce_J (rA 5) (kA 5) 40 (a_pri cs)]) [0, 1, 2, 4, 5] rfl
        have hKc := hK.sub (tys' := [((kA 2), .long), ((kA 5), .long)]) [0, 1] rfl
        have hDc := hD.sub (ws' := [ce_pw rA , ce_net rA (a_net_t cs) (a_net_n cs) (a_net_units cs) (a_net_spin cs), ce_J (rA 2) (kA 2) 8 (a_reg cs), ce_fac rA (a_fac_count cs) (a_fac_left cs), ce_J (rA 5) (kA 5) 40 (a_pri cs)]) [0, 1, 2, 4, 5] rfl rfl
        refine kw_i (wr := [ce_mak rA (a_mak_common cs) (a_mak_u cs) (a_mak_v cs), ce_rsd rA (a_rsd_found cs), ce_num rA (a_num_base cs) (a_num_size cs) (a_num_digitOfW cs) (a_num_tail cs) (a_num_round cs) (a_num_rings cs) (a_num_ringed cs), ce_I (rA 8) (kA 8) 625 (a_mrk cs), ce_fl (rA 9) (a_fl_p cs) (a_fl_q cs) (a_fl_r cs), ce_fl (rA 10) (a_ot_p cs) (a_ot_q cs) (a_ot_r cs), ce_lea rA (a_lea_count cs), ce_J (rA 12) (kA 12) 12 (a_lps cs), ce_J (rA 13) (kA 13) 61 (a_sen cs), ce_J (rA 14) (kA 14) 61 (a_edg cs), ce_J (rA 15) (kA 15) 61 (a_nxt cs), ce_mod rB (a_mod_t ms) (a_mod_n ms) (a_mod_a ms) (a_mod_b ms) (a_mod_unitMany ms) (a_mod_quotA ms) (a_mod_quotB ms) (a_mod_unitUsed ms) (a_mod_fu ms) (a_mod_fuB ms) (a_mod_fv ms) (a_mod_fvB ms) (a_mod_madeA ms) (a_mod_madeB ms) (a_mod_partMany ms) (a_mod_leftA ms) (a_mod_leftB ms) (a_mod_rootA ms) (a_mod_rootB ms) (a_mod_tail ms) (a_mod_round ms) (a_mod_sum ms) (a_mod_rowMany ms) (a_mod_least ms) (a_mod_leastMany ms) (a_mod_netP ms) (a_mod_netQ ms) (a_mod_netR ms) (a_mod_leapMany ms), ce_J (rB 1) (kB 1) 8 (a_regA ms), ce_J (rB 2) (kB 2) 8 (a_regB ms), ce_J (rB 3) (kB 3) 6 (a_unitA ms), ce_J (rB 4) (kB 4) 6 (a_unitB ms), ce_J (rB 5) (kB 5) 40 (a_partA ms), ce_J (rB 6) (kB 6) 40 (a_partB ms), ce_J (rB 7) (kB 7) 1000 (a_rowA ms), ce_J (rB 8) (kB 8) 1000 (a_rowB ms), ce_I (rB 9) (kB 9) 1000 (a_rowDigit ms), ce_J (rB 10) (kB 10) 12 (a_leapA ms), ce_J (rB 11) (kB 11) 12 (a_leapB ms), ce_I (rB 12) (kB 12) 3721 (a_fars ms), ce_I (rB 13) (kB 13) 3721 (a_queue ms)]) (ws' := [ce_pw rA , ce_net rA (a_net_t cs) (a_net_n cs) (a_net_units cs) (a_net_spin cs), ce_J (rA 2) (kA 2) 8 (a_reg cs), ce_mak rA (a_mak_common cs) (a_mak_u cs) (a_mak_v cs), ce_fac rA zp.2.1 zp.2.2.1, ce_J (rA 5) (kA 5) 40 zp.2.2.2, ce_rsd rA (a_rsd_found cs), ce_num rA (a_num_base cs) (a_num_size cs) (a_num_digitOfW cs) (a_num_tail cs) (a_num_round cs) (a_num_rings cs) (a_num_ringed cs), ce_I (rA 8) (kA 8) 625 (a_mrk cs), ce_fl (rA 9) (a_fl_p cs) (a_fl_q cs) (a_fl_r cs), ce_fl (rA 10) (a_ot_p cs) (a_ot_q cs) (a_ot_r cs), ce_lea rA (a_lea_count cs), ce_J (rA 12) (kA 12) 12 (a_lps cs), ce_J (rA 13) (kA 13) 61 (a_sen cs), ce_J (rA 14) (kA 14) 61 (a_edg cs), ce_J (rA 15) (kA 15) 61 (a_nxt cs), ce_mod rB (a_mod_t ms) (a_mod_n ms) (a_mod_a ms) (a_mod_b ms) (a_mod_unitMany ms) (a_mod_quotA ms) (a_mod_quotB ms) (a_mod_unitUsed ms) (a_mod_fu ms) (a_mod_fuB ms) (a_mod_fv ms) (a_mod_fvB ms) (a_mod_madeA ms) (a_mod_madeB ms) (a_mod_partMany ms) (a_mod_leftA ms) (a_mod_leftB ms) (a_mod_rootA ms) (a_mod_rootB ms) (a_mod_tail ms) (a_mod_round ms) (a_mod_sum ms) (a_mod_rowMany ms) (a_mod_least ms) (a_mod_leastMany ms) (a_mod_netP ms) (a_mod_netQ ms) (a_mod_netR ms) (a_mod_leapMany ms), ce_J (rB 1) (kB 1) 8 (a_regA ms), ce_J (rB 2) (kB 2) 8 (a_regB ms), ce_J (rB 3) (kB 3) 6 (a_unitA ms), ce_J (rB 4) (kB 4) 6 (a_unitB ms), ce_J (rB 5) (kB 5) 40 (a_partA ms), ce_J (rB 6) (kB 6) 40 (a_partB ms), ce_J (rB 7) (kB 7) 1000 (a_rowA ms), ce_J (rB 8) (kB 8) 1000 (a_rowB ms), ce_I (rB 9) (kB 9) 1000 (a_rowDigit ms), ce_J (rB 10) (kB 10) 12 (a_leapA ms), ce_J (rB 11) (kB 11) 12 (a_leapB ms), ce_I (rB 12) (kB 12) 3721 (a_fars ms), ce_I (rB 13) (kB 13) 3721 (a_queue ms)]) (va_runV (As := [.int (xs (x3 + (1 : Int32)).toNatClampNeg)]) (rest := []) ⟨hx, hb, hml, hown, hts⟩ (c_X7_parts l dC dI rA kA H.size (a_net_t cs) (a_net_n cs) (a_net_units cs) (a_net_spin cs) (a_reg cs) (a_fac_count cs) (a_fac_left cs) (a_pri cs) (xs (x3 + (1 : Int32)).toNatClampNeg) hzp) (cwV 1 hts gL_X7_parts rfl rfl rfl hv_X7_parts ⟨(Nat.le_of_ble_eq_true rfl), (Nat.le_of_ble_eq_true rfl)⟩) ⟨fb_w, va_recv hK hP (ci := 7) (q0 := 0) rfl rfl, pre_w hPc hDc hKc hN⟩ rfl rfl hl.1 rfl (lv_room (Nat.le_of_ble_eq_true rfl)) dL_law_471 ⟨(Nat.le_of_ble_eq_true rfl), (Nat.le_of_ble_eq_true rfl)⟩) hP hD hS hA [0, 1, 2, 4, 5] [3, 6, 7, 8, 9, 10, 11, 12, 13, 14, 15, 16, 17, 18, 19, 20, 21, 22, 23, 24, 25, 26, 27, 28, 29] [25, 26, 27, 0, 28, 29, 1, 2, 3, 4, 5, 6, 7, 8, 9, 10, 11, 12, 13, 14, 15, 16, 17, 18, 19, 20, 21, 22, 23, 24] rfl rfl rfl (by decide) rfl rfl rfl (fun H locs hP hD hS => ?_)
        refine lv_aload_n hx hb dL_law_474 rfl (lv_at hl 3 rfl) ?_
        refine lv_aload_n hx hb dL_law_475 rfl (lv_at hl 1 rfl) ?_
        refine lv_iload_n hx hb dL_law_476 rfl (lv_at hl 0 rfl) ?_
        refine lv_iconst (v := (1 : Int32)) hx hb dL_law_477 (by decide) ?_
        refine lv_iadd hx hb dL_law_478 ?_
        refine va_sld hx hb hX hbl hbA hS hin1 dL_law_479 ?_
        have hPc := hP.sub (ws' := [ce_mod rB (a_mod_t ms) (a_mod_n ms) (a_mod_a ms) (a_mod_b ms) (a_mod_unitMany ms) (a_mod_quotA ms) (a_mod_quotB ms) (a_mod_unitUsed ms) (a_mod_fu ms) (a_mod_fuB ms) (a_mod_fv ms) (a_mod_fvB ms) (a_mod_madeA ms) (a_mod_madeB ms) (a_mod_partMany ms) (a_mod_leftA ms) (a_mod_leftB ms) (a_mod_rootA ms) (a_mod_rootB ms) (a_mod_tail ms) (a_mod_round ms) (a_mod_sum ms) (a_mod_rowMany ms) (a_mod_least ms) (a_mod_leastMany ms) (a_mod_netP ms) (a_mod_netQ ms) (a_mod_netR ms) (a_mod_leapMany ms), ce_J (rB 1) (kB 1) 8 (a_regA ms), ce_J (rB 2) (kB 2) 8 (a_regB ms), ce_J (rB 3) (kB 3) 6 (a_unitA ms), ce_J (rB 4) (kB 4) 6 (a_unitB ms), ce_J (rB 5) (kB 5) 40 (a_partA ms), ce_J (rB 6) (kB 6) 40 (a_partB ms)]) [16, 17, 18, 19, 20, 21, 22] rfl
        have hKc := hK.sub (tys' := [((kB 1), .long), ((kB 2), .long), ((kB 3), .long), ((kB 4), .long), ((kB 5), .long), ((kB 6), .long)]) [7, 8, 9, 10, 11, 12] rfl
        have hDc := hD.sub (ws' := [ce_mod rB (a_mod_t ms) (a_mod_n ms) (a_mod_a ms) (a_mod_b ms) (a_mod_unitMany ms) (a_mod_quotA ms) (a_mod_quotB ms) (a_mod_unitUsed ms) (a_mod_fu ms) (a_mod_fuB ms) (a_mod_fv ms) (a_mod_fvB ms) (a_mod_madeA ms) (a_mod_madeB ms) (a_mod_partMany ms) (a_mod_leftA ms) (a_mod_leftB ms) (a_mod_rootA ms) (a_mod_rootB ms) (a_mod_tail ms) (a_mod_round ms) (a_mod_sum ms) (a_mod_rowMany ms) (a_mod_least ms) (a_mod_leastMany ms) (a_mod_netP ms) (a_mod_netQ ms) (a_mod_netR ms) (a_mod_leapMany ms), ce_J (rB 1) (kB 1) 8 (a_regA ms), ce_J (rB 2) (kB 2) 8 (a_regB ms), ce_J (rB 3) (kB 3) 6 (a_unitA ms), ce_J (rB 4) (kB 4) 6 (a_unitB ms), ce_J (rB 5) (kB 5) 40 (a_partA ms), ce_J (rB 6) (kB 6) 40 (a_partB ms)]) [16, 17, 18, 19, 20, 21, 22] rfl rfl
        refine kw_i (wr := [ce_pw rA , ce_net rA (a_net_t cs) (a_net_n cs) (a_net_units cs) (a_net_spin cs), ce_J (rA 2) (kA 2) 8 (a_reg cs), ce_mak rA (a_mak_common cs) (a_mak_u cs) (a_mak_v cs), ce_fac rA zp.2.1 zp.2.2.1, ce_J (rA 5) (kA 5) 40 zp.2.2.2, ce_rsd rA (a_rsd_found cs), ce_num rA (a_num_base cs) (a_num_size cs) (a_num_digitOfW cs) (a_num_tail cs) (a_num_round cs) (a_num_rings cs) (a_num_ringed cs), ce_I (rA 8) (kA 8) 625 (a_mrk cs), ce_fl (rA 9) (a_fl_p cs) (a_fl_q cs) (a_fl_r cs), ce_fl (rA 10) (a_ot_p cs) (a_ot_q cs) (a_ot_r cs), ce_lea rA (a_lea_count cs), ce_J (rA 12) (kA 12) 12 (a_lps cs), ce_J (rA 13) (kA 13) 61 (a_sen cs), ce_J (rA 14) (kA 14) 61 (a_edg cs), ce_J (rA 15) (kA 15) 61 (a_nxt cs), ce_J (rB 7) (kB 7) 1000 (a_rowA ms), ce_J (rB 8) (kB 8) 1000 (a_rowB ms), ce_I (rB 9) (kB 9) 1000 (a_rowDigit ms), ce_J (rB 10) (kB 10) 12 (a_leapA ms), ce_J (rB 11) (kB 11) 12 (a_leapB ms), ce_I (rB 12) (kB 12) 3721 (a_fars ms), ce_I (rB 13) (kB 13) 3721 (a_queue ms)]) (ws' := [ce_pw rA , ce_net rA (a_net_t cs) (a_net_n cs) (a_net_units cs) (a_net_spin cs), ce_J (rA 2) (kA 2) 8 (a_reg cs), ce_mak rA (a_mak_common cs) (a_mak_u cs) (a_mak_v cs), ce_fac rA zp.2.1 zp.2.2.1, ce_J (rA 5) (kA 5) 40 zp.2.2.2, ce_rsd rA (a_rsd_found cs), ce_num rA (a_num_base cs) (a_num_size cs) (a_num_digitOfW cs) (a_num_tail cs) (a_num_round cs) (a_num_rings cs) (a_num_ringed cs), ce_I (rA 8) (kA 8) 625 (a_mrk cs), ce_fl (rA 9) (a_fl_p cs) (a_fl_q cs) (a_fl_r cs), ce_fl (rA 10) (a_ot_p cs) (a_ot_q cs) (a_ot_r cs), ce_lea rA (a_lea_count cs), ce_J (rA 12) (kA 12) 12 (a_lps cs), ce_J (rA 13) (kA 13) 61 (a_sen cs), ce_J (rA 14) (kA 14) 61 (a_edg cs), ce_J (rA 15) (kA 15) 61 (a_nxt cs), ce_mod rB (a_mod_t ms) (a_mod_n ms) zq.2.1 zq.2.2.1 (a_mod_unitMany ms) zq.2.2.2.1 zq.2.2.2.2.1 zq.2.2.2.2.2.1 (a_mod_fu ms) (a_mod_fuB ms) (a_mod_fv ms) (a_mod_fvB ms) (a_mod_madeA ms) (a_mod_madeB ms) zq.2.2.2.2.2.2.1 zq.2.2.2.2.2.2.2.1 zq.2.2.2.2.2.2.2.2.1 (a_mod_rootA ms) (a_mod_rootB ms) (a_mod_tail ms) (a_mod_round ms) (a_mod_sum ms) (a_mod_rowMany ms) (a_mod_least ms) (a_mod_leastMany ms) (a_mod_netP ms) (a_mod_netQ ms) (a_mod_netR ms) (a_mod_leapMany ms), ce_J (rB 1) (kB 1) 8 (a_regA ms), ce_J (rB 2) (kB 2) 8 (a_regB ms), ce_J (rB 3) (kB 3) 6 (a_unitA ms), ce_J (rB 4) (kB 4) 6 (a_unitB ms), ce_J (rB 5) (kB 5) 40 zq.2.2.2.2.2.2.2.2.2.1, ce_J (rB 6) (kB 6) 40 zq.2.2.2.2.2.2.2.2.2.2, ce_J (rB 7) (kB 7) 1000 (a_rowA ms), ce_J (rB 8) (kB 8) 1000 (a_rowB ms), ce_I (rB 9) (kB 9) 1000 (a_rowDigit ms), ce_J (rB 10) (kB 10) 12 (a_leapA ms), ce_J (rB 11) (kB 11) 12 (a_leapB ms), ce_I (rB 12) (kB 12) 3721 (a_fars ms), ce_I (rB 13) (kB 13) 3721 (a_queue ms)]) (va_runV (As := [.int (xs (x3 + (1 : Int32)).toNatClampNeg)]) (rest := [.int zp.1]) ⟨hx, hb, hml, hown, hts⟩ (c_X8_parts l dC dI rB kB H.size (a_mod_t ms) (a_mod_n ms) (a_mod_a ms) (a_mod_b ms) (a_mod_unitMany ms) (a_mod_quotA ms) (a_mod_quotB ms) (a_mod_unitUsed ms) (a_mod_fu ms) (a_mod_fuB ms) (a_mod_fv ms) (a_mod_fvB ms) (a_mod_madeA ms) (a_mod_madeB ms) (a_mod_partMany ms) (a_mod_leftA ms) (a_mod_leftB ms) (a_mod_rootA ms) (a_mod_rootB ms) (a_mod_tail ms) (a_mod_round ms) (a_mod_sum ms) (a_mod_rowMany ms) (a_mod_least ms) (a_mod_leastMany ms) (a_mod_netP ms) (a_mod_netQ ms) (a_mod_netR ms) (a_mod_leapMany ms) (a_regA ms) (a_regB ms) (a_unitA ms) (a_unitB ms) (a_partA ms) (a_partB ms) (xs (x3 + (1 : Int32)).toNatClampNeg) hzq) (cwV 1 hts gL_X8_parts rfl rfl rfl hv_X8_parts ⟨(Nat.le_of_ble_eq_true rfl), (Nat.le_of_ble_eq_true rfl)⟩) ⟨fb_w, va_recv hK hP (ci := 8) (q0 := 16) rfl rfl, pre_w hPc hDc hKc hN⟩ rfl rfl hl.1 rfl (lv_room (Nat.le_of_ble_eq_true rfl)) dL_law_480 ⟨(Nat.le_of_ble_eq_true rfl), (Nat.le_of_ble_eq_true rfl)⟩) hP hD hS hA [16, 17, 18, 19, 20, 21, 22] [0, 1, 2, 3, 4, 5, 6, 7, 8, 9, 10, 11, 12, 13, 14, 15, 23, 24, 25, 26, 27, 28, 29] [0, 1, 2, 3, 4, 5, 6, 7, 8, 9, 10, 11, 12, 13, 14, 15, 23, 24, 25, 26, 27, 28, 29, 16, 17, 18, 19, 20, 21, 22] rfl rfl rfl (by decide) rfl rfl rfl (fun H locs hP hD hS => ?_)
        refine lv_icmp_eq (tgt := 1298) hx hb dL_law_483 (by decide) (fun c1 => ?_) (fun c1 => absurd hzr c1)
        exact hnext ((a_net_t cs), (a_net_n cs), (a_net_units cs), (a_net_spin cs), (a_reg cs), (a_mak_common cs), (a_mak_u cs), (a_mak_v cs), zp.2.1, zp.2.2.1, zp.2.2.2, (a_rsd_found cs), (a_num_base cs), (a_num_size cs), (a_num_digitOfW cs), (a_num_tail cs), (a_num_round cs), (a_num_rings cs), (a_num_ringed cs), (a_mrk cs), (a_fl_p cs), (a_fl_q cs), (a_fl_r cs), (a_ot_p cs), (a_ot_q cs), (a_ot_r cs), (a_lea_count cs), (a_lps cs), (a_sen cs), (a_edg cs), (a_nxt cs)) ((a_mod_t ms), (a_mod_n ms), zq.2.1, zq.2.2.1, (a_mod_unitMany ms), zq.2.2.2.1, zq.2.2.2.2.1, zq.2.2.2.2.2.1, (a_mod_fu ms), (a_mod_fuB ms), (a_mod_fv ms), (a_mod_fvB ms), (a_mod_madeA ms), (a_mod_madeB ms), zq.2.2.2.2.2.2.1, zq.2.2.2.2.2.2.2.1, zq.2.2.2.2.2.2.2.2.1, (a_mod_rootA ms), (a_mod_rootB ms), (a_mod_tail ms), (a_mod_round ms), (a_mod_sum ms), (a_mod_rowMany ms), (a_mod_least ms), (a_mod_leastMany ms), (a_mod_netP ms), (a_mod_netQ ms), (a_mod_netR ms), (a_mod_leapMany ms), (a_regA ms), (a_regB ms), (a_unitA ms), (a_unitB ms), zq.2.2.2.2.2.2.2.2.2.1, zq.2.2.2.2.2.2.2.2.2.2, (a_rowA ms), (a_rowB ms), (a_rowDigit ms), (a_leapA ms), (a_leapB ms), (a_fars ms), (a_queue ms)) H locs ls hR hP hD hS hl
      by_cases g_9 : sel = (9 : Int32)
      · refine lv_tableIn (tgt := 488) hx hb dL_law_33 (by rw [g_9]; decide) (by rw [g_9]; decide) (by rw [g_9]; rfl) (by decide) ?_
        clear g_9 hsel
        refine lv_aload_n hx hb dL_law_488 rfl (lv_at hl 2 rfl) ?_
        refine lv_aload_n hx hb dL_law_489 rfl (lv_at hl 1 rfl) ?_
        refine lv_iload_n hx hb dL_law_490 rfl (lv_at hl 0 rfl) ?_
        refine lv_iconst (v := (1 : Int32)) hx hb dL_law_491 (by decide) ?_
        refine lv_iadd hx hb dL_law_492 ?_
        refine va_sld hx hb hX hbl hbA hS hin1 dL_law_493 ?_
        refine lv_aload_n hx hb dL_law_494 rfl (lv_at hl 1 rfl) ?_
        refine lv_iload_n hx hb dL_law_495 rfl (lv_at hl 0 rfl) ?_
        refine lv_iconst (v := (2 : Int32)) hx hb dL_law_496 (by decide) ?_
        refine lv_iadd hx hb dL_law_497 ?_
        refine va_sld hx hb hX hbl hbA hS hin2 dL_law_498 ?_
        refine lv_aload_n hx hb dL_law_499 rfl (lv_at hl 1 rfl) ?_
        refine lv_iload_n hx hb dL_law_500 rfl (lv_at hl 0 rfl) ?_
        refine lv_iconst (v := (3 : Int32)) hx hb dL_law_501 (by decide) ?_
        refine lv_iadd hx hb dL_law_502 ?_
        refine va_sld hx hb hX hbl hbA hS hin3 dL_law_503 ?_
        obtain ⟨zp, zq, hzp, hzq, hzr, hR⟩ := hm_part cs ms hR (xs (x3 + (1 : Int32)).toNatClampNeg) (xs (x3 + (2 : Int32)).toNatClampNeg) (xs (x3 + (3 : Int32)).toNatClampNeg)
        have hPc := hP.sub (ws' := [ce_pw rA , ce_net rA (a_net_t cs) (a_net_n cs) (a_net_units cs) (a_net_spin cs), ce_J (rA 2) (kA 2) 8 (a_reg cs), ce_fac rA (a_fac_count cs) (a_fac_left cs), ce_J (rA 5) (kA 5) 40 (a_pri cs)]) [0, 1, 2, 4, 5] rfl
        have hKc := hK.sub (tys' := [((kA 2), .long), ((kA 5), .long)]) [0, 1] rfl
        have hDc := hD.sub (ws' := [ce_pw rA , ce_net rA (a_net_t cs) (a_net_n cs) (a_net_units cs) (a_net_spin cs), ce_J (rA 2) (kA 2) 8 (a_reg cs), ce_fac rA (a_fac_count cs) (a_fac_left cs), ce_J (rA 5) (kA 5) 40 (a_pri cs)]) [0, 1, 2, 4, 5] rfl rfl
        refine kw_i (wr := [ce_mak rA (a_mak_common cs) (a_mak_u cs) (a_mak_v cs), ce_rsd rA (a_rsd_found cs), ce_num rA (a_num_base cs) (a_num_size cs) (a_num_digitOfW cs) (a_num_tail cs) (a_num_round cs) (a_num_rings cs) (a_num_ringed cs), ce_I (rA 8) (kA 8) 625 (a_mrk cs), ce_fl (rA 9) (a_fl_p cs) (a_fl_q cs) (a_fl_r cs), ce_fl (rA 10) (a_ot_p cs) (a_ot_q cs) (a_ot_r cs), ce_lea rA (a_lea_count cs), ce_J (rA 12) (kA 12) 12 (a_lps cs), ce_J (rA 13) (kA 13) 61 (a_sen cs), ce_J (rA 14) (kA 14) 61 (a_edg cs), ce_J (rA 15) (kA 15) 61 (a_nxt cs), ce_mod rB (a_mod_t ms) (a_mod_n ms) (a_mod_a ms) (a_mod_b ms) (a_mod_unitMany ms) (a_mod_quotA ms) (a_mod_quotB ms) (a_mod_unitUsed ms) (a_mod_fu ms) (a_mod_fuB ms) (a_mod_fv ms) (a_mod_fvB ms) (a_mod_madeA ms) (a_mod_madeB ms) (a_mod_partMany ms) (a_mod_leftA ms) (a_mod_leftB ms) (a_mod_rootA ms) (a_mod_rootB ms) (a_mod_tail ms) (a_mod_round ms) (a_mod_sum ms) (a_mod_rowMany ms) (a_mod_least ms) (a_mod_leastMany ms) (a_mod_netP ms) (a_mod_netQ ms) (a_mod_netR ms) (a_mod_leapMany ms), ce_J (rB 1) (kB 1) 8 (a_regA ms), ce_J (rB 2) (kB 2) 8 (a_regB ms), ce_J (rB 3) (kB 3) 6 (a_unitA ms), ce_J (rB 4) (kB 4) 6 (a_unitB ms), ce_J (rB 5) (kB 5) 40 (a_partA ms), ce_J (rB 6) (kB 6) 40 (a_partB ms), ce_J (rB 7) (kB 7) 1000 (a_rowA ms), ce_J (rB 8) (kB 8) 1000 (a_rowB ms), ce_I (rB 9) (kB 9) 1000 (a_rowDigit ms), ce_J (rB 10) (kB 10) 12 (a_leapA ms), ce_J (rB 11) (kB 11) 12 (a_leapB ms), ce_I (rB 12) (kB 12) 3721 (a_fars ms), ce_I (rB 13) (kB 13) 3721 (a_queue ms)]) (ws' := [ce_pw rA , ce_net rA (a_net_t cs) (a_net_n cs) (a_net_units cs) (a_net_spin cs), ce_J (rA 2) (kA 2) 8 zp.2.1, ce_mak rA (a_mak_common cs) (a_mak_u cs) (a_mak_v cs), ce_fac rA zp.2.2.1 zp.2.2.2.1, ce_J (rA 5) (kA 5) 40 zp.2.2.2.2, ce_rsd rA (a_rsd_found cs), ce_num rA (a_num_base cs) (a_num_size cs) (a_num_digitOfW cs) (a_num_tail cs) (a_num_round cs) (a_num_rings cs) (a_num_ringed cs), ce_I (rA 8) (kA 8) 625 (a_mrk cs), ce_fl (rA 9) (a_fl_p cs) (a_fl_q cs) (a_fl_r cs), ce_fl (rA 10) (a_ot_p cs) (a_ot_q cs) (a_ot_r cs), ce_lea rA (a_lea_count cs), ce_J (rA 12) (kA 12) 12 (a_lps cs), ce_J (rA 13) (kA 13) 61 (a_sen cs), ce_J (rA 14) (kA 14) 61 (a_edg cs), ce_J (rA 15) (kA 15) 61 (a_nxt cs), ce_mod rB (a_mod_t ms) (a_mod_n ms) (a_mod_a ms) (a_mod_b ms) (a_mod_unitMany ms) (a_mod_quotA ms) (a_mod_quotB ms) (a_mod_unitUsed ms) (a_mod_fu ms) (a_mod_fuB ms) (a_mod_fv ms) (a_mod_fvB ms) (a_mod_madeA ms) (a_mod_madeB ms) (a_mod_partMany ms) (a_mod_leftA ms) (a_mod_leftB ms) (a_mod_rootA ms) (a_mod_rootB ms) (a_mod_tail ms) (a_mod_round ms) (a_mod_sum ms) (a_mod_rowMany ms) (a_mod_least ms) (a_mod_leastMany ms) (a_mod_netP ms) (a_mod_netQ ms) (a_mod_netR ms) (a_mod_leapMany ms), ce_J (rB 1) (kB 1) 8 (a_regA ms), ce_J (rB 2) (kB 2) 8 (a_regB ms), ce_J (rB 3) (kB 3) 6 (a_unitA ms), ce_J (rB 4) (kB 4) 6 (a_unitB ms), ce_J (rB 5) (kB 5) 40 (a_partA ms), ce_J (rB 6) (kB 6) 40 (a_partB ms), ce_J (rB 7) (kB 7) 1000 (a_rowA ms), ce_J (rB 8) (kB 8) 1000 (a_rowB ms), ce_I (rB 9) (kB 9) 1000 (a_rowDigit ms), ce_J (rB 10) (kB 10) 12 (a_leapA ms), ce_J (rB 11) (kB 11) 12 (a_leapB ms), ce_I (rB 12) (kB 12) 3721 (a_fars ms), ce_I (rB 13) (kB 13) 3721 (a_queue ms)]) (va_runV (As := [.int (xs (x3 + (1 : Int32)).toNatClampNeg), .int (xs (x3 + (2 : Int32)).toNatClampNeg), .int (xs (x3 + (3 : Int32)).toNatClampNeg)]) (rest := []) ⟨hx, hb, hml, hown, hts⟩ (c_X7_part l dC dI rA kA H.size (a_net_t cs) (a_net_n cs) (a_net_units cs) (a_net_spin cs) (a_reg cs) (a_fac_count cs) (a_fac_left cs) (a_pri cs) (xs (x3 + (1 : Int32)).toNatClampNeg) (xs (x3 + (2 : Int32)).toNatClampNeg) (xs (x3 + (3 : Int32)).toNatClampNeg) hzp) (cwV 3 hts gL_X7_part rfl rfl rfl hv_X7_part ⟨(Nat.le_of_ble_eq_true rfl), (Nat.le_of_ble_eq_true rfl)⟩) ⟨fb_w, va_recv hK hP (ci := 7) (q0 := 0) rfl rfl, pre_w hPc hDc hKc hN⟩ rfl rfl hl.1 rfl (lv_room (Nat.le_of_ble_eq_true rfl)) dL_law_504 ⟨(Nat.le_of_ble_eq_true rfl), (Nat.le_of_ble_eq_true rfl)⟩) hP hD hS hA [0, 1, 2, 4, 5] [3, 6, 7, 8, 9, 10, 11, 12, 13, 14, 15, 16, 17, 18, 19, 20, 21, 22, 23, 24, 25, 26, 27, 28, 29] [25, 26, 27, 0, 28, 29, 1, 2, 3, 4, 5, 6, 7, 8, 9, 10, 11, 12, 13, 14, 15, 16, 17, 18, 19, 20, 21, 22, 23, 24] rfl rfl rfl (by decide) rfl rfl rfl (fun H locs hP hD hS => ?_)
        refine lv_aload_n hx hb dL_law_507 rfl (lv_at hl 3 rfl) ?_
        refine lv_aload_n hx hb dL_law_508 rfl (lv_at hl 1 rfl) ?_
        refine lv_iload_n hx hb dL_law_509 rfl (lv_at hl 0 rfl) ?_
        refine lv_iconst (v := (1 : Int32)) hx hb dL_law_510 (by decide) ?_
        refine lv_iadd hx hb dL_law_511 ?_
        refine va_sld hx hb hX hbl hbA hS hin1 dL_law_512 ?_
        refine lv_aload_n hx hb dL_law_513 rfl (lv_at hl 1 rfl) ?_
        refine lv_iload_n hx hb dL_law_514 rfl (lv_at hl 0 rfl) ?_
        refine lv_iconst (v := (2 : Int32)) hx hb dL_law_515 (by decide) ?_
        refine lv_iadd hx hb dL_law_516 ?_
        refine va_sld hx hb hX hbl hbA hS hin2 dL_law_517 ?_
        refine lv_aload_n hx hb dL_law_518 rfl (lv_at hl 1 rfl) ?_
        refine lv_iload_n hx hb dL_law_519 rfl (lv_at hl 0 rfl) ?_
        refine lv_iconst (v := (3 : Int32)) hx hb dL_law_520 (by decide) ?_
        refine lv_iadd hx hb dL_law_521 ?_
        refine va_sld hx hb hX hbl hbA hS hin3 dL_law_522 ?_
        have hPc := hP.sub (ws' := [ce_mod rB (a_mod_t ms) (a_mod_n ms) (a_mod_a ms) (a_mod_b ms) (a_mod_unitMany ms) (a_mod_quotA ms) (a_mod_quotB ms) (a_mod_unitUsed ms) (a_mod_fu ms) (a_mod_fuB ms) (a_mod_fv ms) (a_mod_fvB ms) (a_mod_madeA ms) (a_mod_madeB ms) (a_mod_partMany ms) (a_mod_leftA ms) (a_mod_leftB ms) (a_mod_rootA ms) (a_mod_rootB ms) (a_mod_tail ms) (a_mod_round ms) (a_mod_sum ms) (a_mod_rowMany ms) (a_mod_least ms) (a_mod_leastMany ms) (a_mod_netP ms) (a_mod_netQ ms) (a_mod_netR ms) (a_mod_leapMany ms), ce_J (rB 1) (kB 1) 8 (a_regA ms), ce_J (rB 2) (kB 2) 8 (a_regB ms), ce_J (rB 3) (kB 3) 6 (a_unitA ms), ce_J (rB 4) (kB 4) 6 (a_unitB ms), ce_J (rB 5) (kB 5) 40 (a_partA ms), ce_J (rB 6) (kB 6) 40 (a_partB ms)]) [16, 17, 18, 19, 20, 21, 22] rfl
        have hKc := hK.sub (tys' := [((kB 1), .long), ((kB 2), .long), ((kB 3), .long), ((kB 4), .long), ((kB 5), .long), ((kB 6), .long)]) [7, 8, 9, 10, 11, 12] rfl
        have hDc := hD.sub (ws' := [ce_mod rB (a_mod_t ms) (a_mod_n ms) (a_mod_a ms) (a_mod_b ms) (a_mod_unitMany ms) (a_mod_quotA ms) (a_mod_quotB ms) (a_mod_unitUsed ms) (a_mod_fu ms) (a_mod_fuB ms) (a_mod_fv ms) (a_mod_fvB ms) (a_mod_madeA ms) (a_mod_madeB ms) (a_mod_partMany ms) (a_mod_leftA ms) (a_mod_leftB ms) (a_mod_rootA ms) (a_mod_rootB ms) (a_mod_tail ms) (a_mod_round ms) (a_mod_sum ms) (a_mod_rowMany ms) (a_mod_least ms) (a_mod_leastMany ms) (a_mod_netP ms) (a_mod_netQ ms) (a_mod_netR ms) (a_mod_leapMany ms), ce_J (rB 1) (kB 1) 8 (a_regA ms), ce_J (rB 2) (kB 2) 8 (a_regB ms), ce_J (rB 3) (kB 3) 6 (a_unitA ms), ce_J (rB 4) (kB 4) 6 (a_unitB ms), ce_J (rB 5) (kB 5) 40 (a_partA ms), ce_J (rB 6) (kB 6) 40 (a_partB ms)]) [16, 17, 18, 19, 20, 21, 22] rfl rfl
        refine kw_i (wr := [ce_pw rA , ce_net rA (a_net_t cs) (a_net_n cs) (a_net_units cs) (a_net_spin cs), ce_J (rA 2) (kA 2) 8 zp.2.1, ce_mak rA (a_mak_common cs) (a_mak_u cs) (a_mak_v cs), ce_fac rA zp.2.2.1 zp.2.2.2.1, ce_J (rA 5) (kA 5) 40 zp.2.2.2.2, ce_rsd rA (a_rsd_found cs), ce_num rA (a_num_base cs) (a_num_size cs) (a_num_digitOfW cs) (a_num_tail cs) (a_num_round cs) (a_num_rings cs) (a_num_ringed cs), ce_I (rA 8) (kA 8) 625 (a_mrk cs), ce_fl (rA 9) (a_fl_p cs) (a_fl_q cs) (a_fl_r cs), ce_fl (rA 10) (a_ot_p cs) (a_ot_q cs) (a_ot_r cs), ce_lea rA (a_lea_count cs), ce_J (rA 12) (kA 12) 12 (a_lps cs), ce_J (rA 13) (kA 13) 61 (a_sen cs), ce_J (rA 14) (kA 14) 61 (a_edg cs), ce_J (rA 15) (kA 15) 61 (a_nxt cs), ce_J (rB 7) (kB 7) 1000 (a_rowA ms), ce_J (rB 8) (kB 8) 1000 (a_rowB ms), ce_I (rB 9) (kB 9) 1000 (a_rowDigit ms), ce_J (rB 10) (kB 10) 12 (a_leapA ms), ce_J (rB 11) (kB 11) 12 (a_leapB ms), ce_I (rB 12) (kB 12) 3721 (a_fars ms), ce_I (rB 13) (kB 13) 3721 (a_queue ms)]) (ws' := [ce_pw rA , ce_net rA (a_net_t cs) (a_net_n cs) (a_net_units cs) (a_net_spin cs), ce_J (rA 2) (kA 2) 8 zp.2.1, ce_mak rA (a_mak_common cs) (a_mak_u cs) (a_mak_v cs), ce_fac rA zp.2.2.1 zp.2.2.2.1, ce_J (rA 5) (kA 5) 40 zp.2.2.2.2, ce_rsd rA (a_rsd_found cs), ce_num rA (a_num_base cs) (a_num_size cs) (a_num_digitOfW cs) (a_num_tail cs) (a_num_round cs) (a_num_rings cs) (a_num_ringed cs), ce_I (rA 8) (kA 8) 625 (a_mrk cs), ce_fl (rA 9) (a_fl_p cs) (a_fl_q cs) (a_fl_r cs), ce_fl (rA 10) (a_ot_p cs) (a_ot_q cs) (a_ot_r cs), ce_lea rA (a_lea_count cs), ce_J (rA 12) (kA 12) 12 (a_lps cs), ce_J (rA 13) (kA 13) 61 (a_sen cs), ce_J (rA 14) (kA 14) 61 (a_edg cs), ce_J (rA 15) (kA 15) 61 (a_nxt cs), ce_mod rB (a_mod_t ms) (a_mod_n ms) zq.2.1 zq.2.2.1 (a_mod_unitMany ms) zq.2.2.2.1 zq.2.2.2.2.1 zq.2.2.2.2.2.1 (a_mod_fu ms) (a_mod_fuB ms) (a_mod_fv ms) (a_mod_fvB ms) (a_mod_madeA ms) (a_mod_madeB ms) zq.2.2.2.2.2.2.1 zq.2.2.2.2.2.2.2.1 zq.2.2.2.2.2.2.2.2.1 (a_mod_rootA ms) (a_mod_rootB ms) (a_mod_tail ms) (a_mod_round ms) (a_mod_sum ms) (a_mod_rowMany ms) (a_mod_least ms) (a_mod_leastMany ms) (a_mod_netP ms) (a_mod_netQ ms) (a_mod_netR ms) (a_mod_leapMany ms), ce_J (rB 1) (kB 1) 8 zq.2.2.2.2.2.2.2.2.2.1, ce_J (rB 2) (kB 2) 8 zq.2.2.2.2.2.2.2.2.2.2.1, ce_J (rB 3) (kB 3) 6 (a_unitA ms), ce_J (rB 4) (kB 4) 6 (a_unitB ms), ce_J (rB 5) (kB 5) 40 zq.2.2.2.2.2.2.2.2.2.2.2.1, ce_J (rB 6) (kB 6) 40 zq.2.2.2.2.2.2.2.2.2.2.2.2, ce_J (rB 7) (kB 7) 1000 (a_rowA ms), ce_J (rB 8) (kB 8) 1000 (a_rowB ms), ce_I (rB 9) (kB 9) 1000 (a_rowDigit ms), ce_J (rB 10) (kB 10) 12 (a_leapA ms), ce_J (rB 11) (kB 11) 12 (a_leapB ms), ce_I (rB 12) (kB 12) 3721 (a_fars ms), ce_I (rB 13) (kB 13) 3721 (a_queue ms)]) (va_runV (As := [.int (xs (x3 + (1 : Int32)).toNatClampNeg), .int (xs (x3 + (2 : Int32)).toNatClampNeg), .int (xs (x3 + (3 : Int32)).toNatClampNeg)]) (rest := [.int zp.1]) ⟨hx, hb, hml, hown, hts⟩ (c_X8_part l dC dI rB kB H.size (a_mod_t ms) (a_mod_n ms) (a_mod_a ms) (a_mod_b ms) (a_mod_unitMany ms) (a_mod_quotA ms) (a_mod_quotB ms) (a_mod_unitUsed ms) (a_mod_fu ms) (a_mod_fuB ms) (a_mod_fv ms) (a_mod_fvB ms) (a_mod_madeA ms) (a_mod_madeB ms) (a_mod_partMany ms) (a_mod_leftA ms) (a_mod_leftB ms) (a_mod_rootA ms) (a_mod_rootB ms) (a_mod_tail ms) (a_mod_round ms) (a_mod_sum ms) (a_mod_rowMany ms) (a_mod_least ms) (a_mod_leastMany ms) (a_mod_netP ms) (a_mod_netQ ms) (a_mod_netR ms) (a_mod_leapMany ms) (a_regA ms) (a_regB ms) (a_unitA ms) (a_unitB ms) (a_partA ms) (a_partB ms) (xs (x3 + (1 : Int32)).toNatClampNeg) (xs (x3 + (2 : Int32)).toNatClampNeg) (xs (x3 + (3 : Int32)).toNatClampNeg) hzq) (cwV 3 hts gL_X8_part rfl rfl rfl hv_X8_part ⟨(Nat.le_of_ble_eq_true rfl), (Nat.le_of_ble_eq_true rfl)⟩) ⟨fb_w, va_recv hK hP (ci := 8) (q0 := 16) rfl rfl, pre_w hPc hDc hKc hN⟩ rfl rfl hl.1 rfl (lv_room (Nat.le_of_ble_eq_true rfl)) dL_law_523 ⟨(Nat.le_of_ble_eq_true rfl), (Nat.le_of_ble_eq_true rfl)⟩) hP hD hS hA [16, 17, 18, 19, 20, 21, 22] [0, 1, 2, 3, 4, 5, 6, 7, 8, 9, 10, 11, 12, 13, 14, 15, 23, 24, 25, 26, 27, 28, 29] [0, 1, 2, 3, 4, 5, 6, 7, 8, 9, 10, 11, 12, 13, 14, 15, 23, 24, 25, 26, 27, 28, 29, 16, 17, 18, 19, 20, 21, 22] rfl rfl rfl (by decide) rfl rfl rfl (fun H locs hP hD hS => ?_)
        refine lv_icmp_eq (tgt := 1298) hx hb dL_law_526 (by decide) (fun c1 => ?_) (fun c1 => absurd hzr c1)
        exact hnext ((a_net_t cs), (a_net_n cs), (a_net_units cs), (a_net_spin cs), zp.2.1, (a_mak_common cs), (a_mak_u cs), (a_mak_v cs), zp.2.2.1, zp.2.2.2.1, zp.2.2.2.2, (a_rsd_found cs), (a_num_base cs), (a_num_size cs), (a_num_digitOfW cs), (a_num_tail cs), (a_num_round cs), (a_num_rings cs), (a_num_ringed cs), (a_mrk cs), (a_fl_p cs), (a_fl_q cs), (a_fl_r cs), (a_ot_p cs), (a_ot_q cs), (a_ot_r cs), (a_lea_count cs), (a_lps cs), (a_sen cs), (a_edg cs), (a_nxt cs)) ((a_mod_t ms), (a_mod_n ms), zq.2.1, zq.2.2.1, (a_mod_unitMany ms), zq.2.2.2.1, zq.2.2.2.2.1, zq.2.2.2.2.2.1, (a_mod_fu ms), (a_mod_fuB ms), (a_mod_fv ms), (a_mod_fvB ms), (a_mod_madeA ms), (a_mod_madeB ms), zq.2.2.2.2.2.2.1, zq.2.2.2.2.2.2.2.1, zq.2.2.2.2.2.2.2.2.1, (a_mod_rootA ms), (a_mod_rootB ms), (a_mod_tail ms), (a_mod_round ms), (a_mod_sum ms), (a_mod_rowMany ms), (a_mod_least ms), (a_mod_leastMany ms), (a_mod_netP ms), (a_mod_netQ ms), (a_mod_netR ms), (a_mod_leapMany ms), zq.2.2.2.2.2.2.2.2.2.1, zq.2.2.2.2.2.2.2.2.2.2.1, (a_unitA ms), (a_unitB ms), zq.2.2.2.2.2.2.2.2.2.2.2.1, zq.2.2.2.2.2.2.2.2.2.2.2.2, (a_rowA ms), (a_rowB ms), (a_rowDigit ms), (a_leapA ms), (a_leapB ms), (a_fars ms), (a_queue ms)) H locs ls hR hP hD hS hl
      by_cases g_10 : sel = (10 : Int32)
      · refine lv_tableIn (tgt := 531) hx hb dL_law_33 (by rw [g_10]; decide) (by rw [g_10]; decide) (by rw [g_10]; rfl) (by decide) ?_
        clear g_10 hsel
        refine lv_aload_n hx hb dL_law_531 rfl (lv_at hl 2 rfl) ?_
        refine lv_aload_n hx hb dL_law_532 rfl (lv_at hl 1 rfl) ?_
        refine lv_iload_n hx hb dL_law_533 rfl (lv_at hl 0 rfl) ?_
        refine lv_iconst (v := (1 : Int32)) hx hb dL_law_534 (by decide) ?_
        refine lv_iadd hx hb dL_law_535 ?_
        refine va_sld hx hb hX hbl hbA hS hin1 dL_law_536 ?_
        obtain ⟨zp, zq, hzp, hzq, hzr, hR⟩ := hm_ofSize cs ms hR (xs (x3 + (1 : Int32)).toNatClampNeg)
        have hPc := hP.sub (ws' := [ce_pw rA , ce_net rA (a_net_t cs) (a_net_n cs) (a_net_units cs) (a_net_spin cs)]) [0, 1] rfl
        have hKc := hK.sub (tys' := []) [] rfl
        refine kp_i (va_runV (As := [.int (xs (x3 + (1 : Int32)).toNatClampNeg)]) (rest := []) ⟨hx, hb, hml, hown, hts⟩ (c_X7_ofSize l dC dI rA kA (a_net_t cs) (a_net_n cs) (a_net_units cs) (a_net_spin cs) (xs (x3 + (1 : Int32)).toNatClampNeg) hzp) (cwV 1 hts gL_X7_ofSize rfl rfl rfl hv_X7_ofSize ⟨(Nat.le_of_ble_eq_true rfl), (Nat.le_of_ble_eq_true rfl)⟩) ⟨fb_p, va_recv hK hP (ci := 7) (q0 := 0) rfl rfl, pre_p hPc hKc hN⟩ rfl rfl hl.1 rfl (lv_room (Nat.le_of_ble_eq_true rfl)) dL_law_537 ⟨(Nat.le_of_ble_eq_true rfl), (Nat.le_of_ble_eq_true rfl)⟩) ?_
        refine lv_aload_n hx hb dL_law_540 rfl (lv_at hl 3 rfl) ?_
        refine lv_aload_n hx hb dL_law_541 rfl (lv_at hl 1 rfl) ?_
        refine lv_iload_n hx hb dL_law_542 rfl (lv_at hl 0 rfl) ?_
        refine lv_iconst (v := (1 : Int32)) hx hb dL_law_543 (by decide) ?_
        refine lv_iadd hx hb dL_law_544 ?_
        refine va_sld hx hb hX hbl hbA hS hin1 dL_law_545 ?_
        have hPc := hP.sub (ws' := [ce_mod rB (a_mod_t ms) (a_mod_n ms) (a_mod_a ms) (a_mod_b ms) (a_mod_unitMany ms) (a_mod_quotA ms) (a_mod_quotB ms) (a_mod_unitUsed ms) (a_mod_fu ms) (a_mod_fuB ms) (a_mod_fv ms) (a_mod_fvB ms) (a_mod_madeA ms) (a_mod_madeB ms) (a_mod_partMany ms) (a_mod_leftA ms) (a_mod_leftB ms) (a_mod_rootA ms) (a_mod_rootB ms) (a_mod_tail ms) (a_mod_round ms) (a_mod_sum ms) (a_mod_rowMany ms) (a_mod_least ms) (a_mod_leastMany ms) (a_mod_netP ms) (a_mod_netQ ms) (a_mod_netR ms) (a_mod_leapMany ms)]) [16] rfl
        have hKc := hK.sub (tys' := []) [] rfl
        refine kp_i (va_runV (As := [.int (xs (x3 + (1 : Int32)).toNatClampNeg)]) (rest := [.int zp]) ⟨hx, hb, hml, hown, hts⟩ (c_X8_ofSize l dC dI rB kB (a_mod_t ms) (a_mod_n ms) (a_mod_a ms) (a_mod_b ms) (a_mod_unitMany ms) (a_mod_quotA ms) (a_mod_quotB ms) (a_mod_unitUsed ms) (a_mod_fu ms) (a_mod_fuB ms) (a_mod_fv ms) (a_mod_fvB ms) (a_mod_madeA ms) (a_mod_madeB ms) (a_mod_partMany ms) (a_mod_leftA ms) (a_mod_leftB ms) (a_mod_rootA ms) (a_mod_rootB ms) (a_mod_tail ms) (a_mod_round ms) (a_mod_sum ms) (a_mod_rowMany ms) (a_mod_least ms) (a_mod_leastMany ms) (a_mod_netP ms) (a_mod_netQ ms) (a_mod_netR ms) (a_mod_leapMany ms) (xs (x3 + (1 : Int32)).toNatClampNeg) hzq) (cwV 1 hts gL_X8_ofSize rfl rfl rfl hv_X8_ofSize ⟨(Nat.le_of_ble_eq_true rfl), (Nat.le_of_ble_eq_true rfl)⟩) ⟨fb_p, va_recv hK hP (ci := 8) (q0 := 16) rfl rfl, pre_p hPc hKc hN⟩ rfl rfl hl.1 rfl (lv_room (Nat.le_of_ble_eq_true rfl)) dL_law_546 ⟨(Nat.le_of_ble_eq_true rfl), (Nat.le_of_ble_eq_true rfl)⟩) ?_
        refine lv_icmp_eq (tgt := 1298) hx hb dL_law_549 (by decide) (fun c1 => ?_) (fun c1 => absurd hzr c1)
        exact hnext ((a_net_t cs), (a_net_n cs), (a_net_units cs), (a_net_spin cs), (a_reg cs), (a_mak_common cs), (a_mak_u cs), (a_mak_v cs), (a_fac_count cs), (a_fac_left cs), (a_pri cs), (a_rsd_found cs), (a_num_base cs), (a_num_size cs), (a_num_digitOfW cs), (a_num_tail cs), (a_num_round cs), (a_num_rings cs), (a_num_ringed cs), (a_mrk cs), (a_fl_p cs), (a_fl_q cs), (a_fl_r cs), (a_ot_p cs), (a_ot_q cs), (a_ot_r cs), (a_lea_count cs), (a_lps cs), (a_sen cs), (a_edg cs), (a_nxt cs)) ((a_mod_t ms), (a_mod_n ms), (a_mod_a ms), (a_mod_b ms), (a_mod_unitMany ms), (a_mod_quotA ms), (a_mod_quotB ms), (a_mod_unitUsed ms), (a_mod_fu ms), (a_mod_fuB ms), (a_mod_fv ms), (a_mod_fvB ms), (a_mod_madeA ms), (a_mod_madeB ms), (a_mod_partMany ms), (a_mod_leftA ms), (a_mod_leftB ms), (a_mod_rootA ms), (a_mod_rootB ms), (a_mod_tail ms), (a_mod_round ms), (a_mod_sum ms), (a_mod_rowMany ms), (a_mod_least ms), (a_mod_leastMany ms), (a_mod_netP ms), (a_mod_netQ ms), (a_mod_netR ms), (a_mod_leapMany ms), (a_regA ms), (a_regB ms), (a_unitA ms), (a_unitB ms), (a_partA ms), (a_partB ms), (a_rowA ms), (a_rowB ms), (a_rowDigit ms), (a_leapA ms), (a_leapB ms), (a_fars ms), (a_queue ms)) H locs ls hR hP hD hS hl
      by_cases g_11 : sel = (11 : Int32)
      · refine lv_tableIn (tgt := 554) hx hb dL_law_33 (by rw [g_11]; decide) (by rw [g_11]; decide) (by rw [g_11]; rfl) (by decide) ?_
        clear g_11 hsel
        refine lv_aload_n hx hb dL_law_554 rfl (lv_at hl 2 rfl) ?_
        refine lv_aload_n hx hb dL_law_555 rfl (lv_at hl 1 rfl) ?_
        refine lv_iload_n hx hb dL_law_556 rfl (lv_at hl 0 rfl) ?_
        refine lv_iconst (v := (1 : Int32)) hx hb dL_law_557 (by decide) ?_
        refine lv_iadd hx hb dL_law_558 ?_
        refine va_sld hx hb hX hbl hbA hS hin1 dL_law_559 ?_
        obtain ⟨zp, zq, hzp, hzq, hzr, hR⟩ := hm_within cs ms hR (xs (x3 + (1 : Int32)).toNatClampNeg)
        have hPc := hP.sub (ws' := [ce_pw rA , ce_net rA (a_net_t cs) (a_net_n cs) (a_net_units cs) (a_net_spin cs)]) [0, 1] rfl
        have hKc := hK.sub (tys' := []) [] rfl
        refine kp_i (va_runV (As := [.int (xs (x3 + (1 : Int32)).toNatClampNeg)]) (rest := []) ⟨hx, hb, hml, hown, hts⟩ (c_X7_within l dC dI rA kA (a_net_t cs) (a_net_n cs) (a_net_units cs) (a_net_spin cs) (xs (x3 + (1 : Int32)).toNatClampNeg) hzp) (cwV 1 hts gL_X7_within rfl rfl rfl hv_X7_within ⟨(Nat.le_of_ble_eq_true rfl), (Nat.le_of_ble_eq_true rfl)⟩) ⟨fb_p, va_recv hK hP (ci := 7) (q0 := 0) rfl rfl, pre_p hPc hKc hN⟩ rfl rfl hl.1 rfl (lv_room (Nat.le_of_ble_eq_true rfl)) dL_law_560 ⟨(Nat.le_of_ble_eq_true rfl), (Nat.le_of_ble_eq_true rfl)⟩) ?_
        refine lv_aload_n hx hb dL_law_563 rfl (lv_at hl 3 rfl) ?_
        refine lv_aload_n hx hb dL_law_564 rfl (lv_at hl 1 rfl) ?_
        refine lv_iload_n hx hb dL_law_565 rfl (lv_at hl 0 rfl) ?_
        refine lv_iconst (v := (1 : Int32)) hx hb dL_law_566 (by decide) ?_
        refine lv_iadd hx hb dL_law_567 ?_
        refine va_sld hx hb hX hbl hbA hS hin1 dL_law_568 ?_
        have hPc := hP.sub (ws' := [ce_mod rB (a_mod_t ms) (a_mod_n ms) (a_mod_a ms) (a_mod_b ms) (a_mod_unitMany ms) (a_mod_quotA ms) (a_mod_quotB ms) (a_mod_unitUsed ms) (a_mod_fu ms) (a_mod_fuB ms) (a_mod_fv ms) (a_mod_fvB ms) (a_mod_madeA ms) (a_mod_madeB ms) (a_mod_partMany ms) (a_mod_leftA ms) (a_mod_leftB ms) (a_mod_rootA ms) (a_mod_rootB ms) (a_mod_tail ms) (a_mod_round ms) (a_mod_sum ms) (a_mod_rowMany ms) (a_mod_least ms) (a_mod_leastMany ms) (a_mod_netP ms) (a_mod_netQ ms) (a_mod_netR ms) (a_mod_leapMany ms)]) [16] rfl
        have hKc := hK.sub (tys' := []) [] rfl
        refine kp_i (va_runV (As := [.int (xs (x3 + (1 : Int32)).toNatClampNeg)]) (rest := [.int zp]) ⟨hx, hb, hml, hown, hts⟩ (c_X8_within l dC dI rB kB (a_mod_t ms) (a_mod_n ms) (a_mod_a ms) (a_mod_b ms) (a_mod_unitMany ms) (a_mod_quotA ms) (a_mod_quotB ms) (a_mod_unitUsed ms) (a_mod_fu ms) (a_mod_fuB ms) (a_mod_fv ms) (a_mod_fvB ms) (a_mod_madeA ms) (a_mod_madeB ms) (a_mod_partMany ms) (a_mod_leftA ms) (a_mod_leftB ms) (a_mod_rootA ms) (a_mod_rootB ms) (a_mod_tail ms) (a_mod_round ms) (a_mod_sum ms) (a_mod_rowMany ms) (a_mod_least ms) (a_mod_leastMany ms) (a_mod_netP ms) (a_mod_netQ ms) (a_mod_netR ms) (a_mod_leapMany ms) (xs (x3 + (1 : Int32)).toNatClampNeg) hzq) (cwV 1 hts gL_X8_within rfl rfl rfl hv_X8_within ⟨(Nat.le_of_ble_eq_true rfl), (Nat.le_of_ble_eq_true rfl)⟩) ⟨fb_p, va_recv hK hP (ci := 8) (q0 := 16) rfl rfl, pre_p hPc hKc hN⟩ rfl rfl hl.1 rfl (lv_room (Nat.le_of_ble_eq_true rfl)) dL_law_569 ⟨(Nat.le_of_ble_eq_true rfl), (Nat.le_of_ble_eq_true rfl)⟩) ?_
        refine lv_icmp_eq (tgt := 1298) hx hb dL_law_572 (by decide) (fun c1 => ?_) (fun c1 => absurd hzr c1)
        exact hnext ((a_net_t cs), (a_net_n cs), (a_net_units cs), (a_net_spin cs), (a_reg cs), (a_mak_common cs), (a_mak_u cs), (a_mak_v cs), (a_fac_count cs), (a_fac_left cs), (a_pri cs), (a_rsd_found cs), (a_num_base cs), (a_num_size cs), (a_num_digitOfW cs), (a_num_tail cs), (a_num_round cs), (a_num_rings cs), (a_num_ringed cs), (a_mrk cs), (a_fl_p cs), (a_fl_q cs), (a_fl_r cs), (a_ot_p cs), (a_ot_q cs), (a_ot_r cs), (a_lea_count cs), (a_lps cs), (a_sen cs), (a_edg cs), (a_nxt cs)) ((a_mod_t ms), (a_mod_n ms), (a_mod_a ms), (a_mod_b ms), (a_mod_unitMany ms), (a_mod_quotA ms), (a_mod_quotB ms), (a_mod_unitUsed ms), (a_mod_fu ms), (a_mod_fuB ms), (a_mod_fv ms), (a_mod_fvB ms), (a_mod_madeA ms), (a_mod_madeB ms), (a_mod_partMany ms), (a_mod_leftA ms), (a_mod_leftB ms), (a_mod_rootA ms), (a_mod_rootB ms), (a_mod_tail ms), (a_mod_round ms), (a_mod_sum ms), (a_mod_rowMany ms), (a_mod_least ms), (a_mod_leastMany ms), (a_mod_netP ms), (a_mod_netQ ms), (a_mod_netR ms), (a_mod_leapMany ms), (a_regA ms), (a_regB ms), (a_unitA ms), (a_unitB ms), (a_partA ms), (a_partB ms), (a_rowA ms), (a_rowB ms), (a_rowDigit ms), (a_leapA ms), (a_leapB ms), (a_fars ms), (a_queue ms)) H locs ls hR hP hD hS hl
      by_cases g_12 : sel = (12 : Int32)
      · refine lv_tableIn (tgt := 577) hx hb dL_law_33 (by rw [g_12]; decide) (by rw [g_12]; decide) (by rw [g_12]; rfl) (by decide) ?_
        clear g_12 hsel
        refine lv_aload_n hx hb dL_law_577 rfl (lv_at hl 2 rfl) ?_
        refine lv_aload_n hx hb dL_law_578 rfl (lv_at hl 1 rfl) ?_
        refine lv_iload_n hx hb dL_law_579 rfl (lv_at hl 0 rfl) ?_
        refine lv_iconst (v := (1 : Int32)) hx hb dL_law_580 (by decide) ?_
        refine lv_iadd hx hb dL_law_581 ?_
        refine va_sld hx hb hX hbl hbA hS hin1 dL_law_582 ?_
        refine lv_aload_n hx hb dL_law_583 rfl (lv_at hl 1 rfl) ?_
        refine lv_iload_n hx hb dL_law_584 rfl (lv_at hl 0 rfl) ?_
        refine lv_iconst (v := (2 : Int32)) hx hb dL_law_585 (by decide) ?_
        refine lv_iadd hx hb dL_law_586 ?_
        refine va_sld hx hb hX hbl hbA hS hin2 dL_law_587 ?_
        refine lv_aload_n hx hb dL_law_588 rfl (lv_at hl 1 rfl) ?_
        refine lv_iload_n hx hb dL_law_589 rfl (lv_at hl 0 rfl) ?_
        refine lv_iconst (v := (3 : Int32)) hx hb dL_law_590 (by decide) ?_
        refine lv_iadd hx hb dL_law_591 ?_
        refine va_sld hx hb hX hbl hbA hS hin3 dL_law_592 ?_
        refine lv_aload_n hx hb dL_law_593 rfl (lv_at hl 1 rfl) ?_
        refine lv_iload_n hx hb dL_law_594 rfl (lv_at hl 0 rfl) ?_
        refine lv_iconst (v := (4 : Int32)) hx hb dL_law_595 (by decide) ?_
        refine lv_iadd hx hb dL_law_596 ?_
        refine va_sld hx hb hX hbl hbA hS hin4 dL_law_597 ?_
        obtain ⟨zp, zq, hzp, hzq, hzr, hR⟩ := hm_power cs ms hR (xs (x3 + (1 : Int32)).toNatClampNeg) (xs (x3 + (2 : Int32)).toNatClampNeg) (xs (x3 + (3 : Int32)).toNatClampNeg) (xs (x3 + (4 : Int32)).toNatClampNeg)
        have hPc := hP.sub (ws' := [ce_pw rA , ce_net rA (a_net_t cs) (a_net_n cs) (a_net_units cs) (a_net_spin cs), ce_J (rA 2) (kA 2) 8 (a_reg cs), ce_rsd rA (a_rsd_found cs)]) [0, 1, 2, 6] rfl
        have hKc := hK.sub (tys' := [((kA 2), .long)]) [0] rfl
        have hDc := hD.sub (ws' := [ce_pw rA , ce_net rA (a_net_t cs) (a_net_n cs) (a_net_units cs) (a_net_spin cs), ce_J (rA 2) (kA 2) 8 (a_reg cs), ce_rsd rA (a_rsd_found cs)]) [0, 1, 2, 6] rfl rfl
        refine kw_i (wr := [ce_mak rA (a_mak_common cs) (a_mak_u cs) (a_mak_v cs), ce_fac rA (a_fac_count cs) (a_fac_left cs), ce_J (rA 5) (kA 5) 40 (a_pri cs), ce_num rA (a_num_base cs) (a_num_size cs) (a_num_digitOfW cs) (a_num_tail cs) (a_num_round cs) (a_num_rings cs) (a_num_ringed cs), ce_I (rA 8) (kA 8) 625 (a_mrk cs), ce_fl (rA 9) (a_fl_p cs) (a_fl_q cs) (a_fl_r cs), ce_fl (rA 10) (a_ot_p cs) (a_ot_q cs) (a_ot_r cs), ce_lea rA (a_lea_count cs), ce_J (rA 12) (kA 12) 12 (a_lps cs), ce_J (rA 13) (kA 13) 61 (a_sen cs), ce_J (rA 14) (kA 14) 61 (a_edg cs), ce_J (rA 15) (kA 15) 61 (a_nxt cs), ce_mod rB (a_mod_t ms) (a_mod_n ms) (a_mod_a ms) (a_mod_b ms) (a_mod_unitMany ms) (a_mod_quotA ms) (a_mod_quotB ms) (a_mod_unitUsed ms) (a_mod_fu ms) (a_mod_fuB ms) (a_mod_fv ms) (a_mod_fvB ms) (a_mod_madeA ms) (a_mod_madeB ms) (a_mod_partMany ms) (a_mod_leftA ms) (a_mod_leftB ms) (a_mod_rootA ms) (a_mod_rootB ms) (a_mod_tail ms) (a_mod_round ms) (a_mod_sum ms) (a_mod_rowMany ms) (a_mod_least ms) (a_mod_leastMany ms) (a_mod_netP ms) (a_mod_netQ ms) (a_mod_netR ms) (a_mod_leapMany ms), ce_J (rB 1) (kB 1) 8 (a_regA ms), ce_J (rB 2) (kB 2) 8 (a_regB ms), ce_J (rB 3) (kB 3) 6 (a_unitA ms), ce_J (rB 4) (kB 4) 6 (a_unitB ms), ce_J (rB 5) (kB 5) 40 (a_partA ms), ce_J (rB 6) (kB 6) 40 (a_partB ms), ce_J (rB 7) (kB 7) 1000 (a_rowA ms), ce_J (rB 8) (kB 8) 1000 (a_rowB ms), ce_I (rB 9) (kB 9) 1000 (a_rowDigit ms), ce_J (rB 10) (kB 10) 12 (a_leapA ms), ce_J (rB 11) (kB 11) 12 (a_leapB ms), ce_I (rB 12) (kB 12) 3721 (a_fars ms), ce_I (rB 13) (kB 13) 3721 (a_queue ms)]) (ws' := [ce_pw rA , ce_net rA (a_net_t cs) (a_net_n cs) (a_net_units cs) (a_net_spin cs), ce_J (rA 2) (kA 2) 8 zp.2, ce_mak rA (a_mak_common cs) (a_mak_u cs) (a_mak_v cs), ce_fac rA (a_fac_count cs) (a_fac_left cs), ce_J (rA 5) (kA 5) 40 (a_pri cs), ce_rsd rA (a_rsd_found cs), ce_num rA (a_num_base cs) (a_num_size cs) (a_num_digitOfW cs) (a_num_tail cs) (a_num_round cs) (a_num_rings cs) (a_num_ringed cs), ce_I (rA 8) (kA 8) 625 (a_mrk cs), ce_fl (rA 9) (a_fl_p cs) (a_fl_q cs) (a_fl_r cs), ce_fl (rA 10) (a_ot_p cs) (a_ot_q cs) (a_ot_r cs), ce_lea rA (a_lea_count cs), ce_J (rA 12) (kA 12) 12 (a_lps cs), ce_J (rA 13) (kA 13) 61 (a_sen cs), ce_J (rA 14) (kA 14) 61 (a_edg cs), ce_J (rA 15) (kA 15) 61 (a_nxt cs), ce_mod rB (a_mod_t ms) (a_mod_n ms) (a_mod_a ms) (a_mod_b ms) (a_mod_unitMany ms) (a_mod_quotA ms) (a_mod_quotB ms) (a_mod_unitUsed ms) (a_mod_fu ms) (a_mod_fuB ms) (a_mod_fv ms) (a_mod_fvB ms) (a_mod_madeA ms) (a_mod_madeB ms) (a_mod_partMany ms) (a_mod_leftA ms) (a_mod_leftB ms) (a_mod_rootA ms) (a_mod_rootB ms) (a_mod_tail ms) (a_mod_round ms) (a_mod_sum ms) (a_mod_rowMany ms) (a_mod_least ms) (a_mod_leastMany ms) (a_mod_netP ms) (a_mod_netQ ms) (a_mod_netR ms) (a_mod_leapMany ms), ce_J (rB 1) (kB 1) 8 (a_regA ms), ce_J (rB 2) (kB 2) 8 (a_regB ms), ce_J (rB 3) (kB 3) 6 (a_unitA ms), ce_J (rB 4) (kB 4) 6 (a_unitB ms), ce_J (rB 5) (kB 5) 40 (a_partA ms), ce_J (rB 6) (kB 6) 40 (a_partB ms), ce_J (rB 7) (kB 7) 1000 (a_rowA ms), ce_J (rB 8) (kB 8) 1000 (a_rowB ms), ce_I (rB 9) (kB 9) 1000 (a_rowDigit ms), ce_J (rB 10) (kB 10) 12 (a_leapA ms), ce_J (rB 11) (kB 11) 12 (a_leapB ms), ce_I (rB 12) (kB 12) 3721 (a_fars ms), ce_I (rB 13) (kB 13) 3721 (a_queue ms)]) (va_runV (As := [.int (xs (x3 + (1 : Int32)).toNatClampNeg), .int (xs (x3 + (2 : Int32)).toNatClampNeg), .int (xs (x3 + (3 : Int32)).toNatClampNeg), .int (xs (x3 + (4 : Int32)).toNatClampNeg)]) (rest := []) ⟨hx, hb, hml, hown, hts⟩ (c_X7_power l dC dI rA kA H.size (a_net_t cs) (a_net_n cs) (a_net_units cs) (a_net_spin cs) (a_reg cs) (a_rsd_found cs) (xs (x3 + (1 : Int32)).toNatClampNeg) (xs (x3 + (2 : Int32)).toNatClampNeg) (xs (x3 + (3 : Int32)).toNatClampNeg) (xs (x3 + (4 : Int32)).toNatClampNeg) hzp) (cwV 4 hts gL_X7_power rfl rfl rfl hv_X7_power ⟨(Nat.le_of_ble_eq_true rfl), (Nat.le_of_ble_eq_true rfl)⟩) ⟨fb_w, va_recv hK hP (ci := 7) (q0 := 0) rfl rfl, pre_w hPc hDc hKc hN⟩ rfl rfl hl.1 rfl (lv_room (Nat.le_of_ble_eq_true rfl)) dL_law_598 ⟨(Nat.le_of_ble_eq_true rfl), (Nat.le_of_ble_eq_true rfl)⟩) hP hD hS hA [0, 1, 2, 6] [3, 4, 5, 7, 8, 9, 10, 11, 12, 13, 14, 15, 16, 17, 18, 19, 20, 21, 22, 23, 24, 25, 26, 27, 28, 29] [26, 27, 28, 0, 1, 2, 29, 3, 4, 5, 6, 7, 8, 9, 10, 11, 12, 13, 14, 15, 16, 17, 18, 19, 20, 21, 22, 23, 24, 25] rfl rfl rfl (by decide) rfl rfl rfl (fun H locs hP hD hS => ?_)
        refine lv_aload_n hx hb dL_law_601 rfl (lv_at hl 3 rfl) ?_
        refine lv_aload_n hx hb dL_law_602 rfl (lv_at hl 1 rfl) ?_
        refine lv_iload_n hx hb dL_law_603 rfl (lv_at hl 0 rfl) ?_
        refine lv_iconst (v := (1 : Int32)) hx hb dL_law_604 (by decide) ?_
        refine lv_iadd hx hb dL_law_605 ?_
        refine va_sld hx hb hX hbl hbA hS hin1 dL_law_606 ?_
        refine lv_aload_n hx hb dL_law_607 rfl (lv_at hl 1 rfl) ?_
        refine lv_iload_n hx hb dL_law_608 rfl (lv_at hl 0 rfl) ?_
        refine lv_iconst (v := (2 : Int32)) hx hb dL_law_609 (by decide) ?_
        refine lv_iadd hx hb dL_law_610 ?_
        refine va_sld hx hb hX hbl hbA hS hin2 dL_law_611 ?_
        refine lv_aload_n hx hb dL_law_612 rfl (lv_at hl 1 rfl) ?_
        refine lv_iload_n hx hb dL_law_613 rfl (lv_at hl 0 rfl) ?_
        refine lv_iconst (v := (3 : Int32)) hx hb dL_law_614 (by decide) ?_
        refine lv_iadd hx hb dL_law_615 ?_
        refine va_sld hx hb hX hbl hbA hS hin3 dL_law_616 ?_
        refine lv_aload_n hx hb dL_law_617 rfl (lv_at hl 1 rfl) ?_
        refine lv_iload_n hx hb dL_law_618 rfl (lv_at hl 0 rfl) ?_
        refine lv_iconst (v := (4 : Int32)) hx hb dL_law_619 (by decide) ?_
        refine lv_iadd hx hb dL_law_620 ?_
        refine va_sld hx hb hX hbl hbA hS hin4 dL_law_621 ?_
        have hPc := hP.sub (ws' := [ce_mod rB (a_mod_t ms) (a_mod_n ms) (a_mod_a ms) (a_mod_b ms) (a_mod_unitMany ms) (a_mod_quotA ms) (a_mod_quotB ms) (a_mod_unitUsed ms) (a_mod_fu ms) (a_mod_fuB ms) (a_mod_fv ms) (a_mod_fvB ms) (a_mod_madeA ms) (a_mod_madeB ms) (a_mod_partMany ms) (a_mod_leftA ms) (a_mod_leftB ms) (a_mod_rootA ms) (a_mod_rootB ms) (a_mod_tail ms) (a_mod_round ms) (a_mod_sum ms) (a_mod_rowMany ms) (a_mod_least ms) (a_mod_leastMany ms) (a_mod_netP ms) (a_mod_netQ ms) (a_mod_netR ms) (a_mod_leapMany ms), ce_J (rB 1) (kB 1) 8 (a_regA ms), ce_J (rB 2) (kB 2) 8 (a_regB ms)]) [16, 17, 18] rfl
        have hKc := hK.sub (tys' := [((kB 1), .long), ((kB 2), .long)]) [7, 8] rfl
        have hDc := hD.sub (ws' := [ce_mod rB (a_mod_t ms) (a_mod_n ms) (a_mod_a ms) (a_mod_b ms) (a_mod_unitMany ms) (a_mod_quotA ms) (a_mod_quotB ms) (a_mod_unitUsed ms) (a_mod_fu ms) (a_mod_fuB ms) (a_mod_fv ms) (a_mod_fvB ms) (a_mod_madeA ms) (a_mod_madeB ms) (a_mod_partMany ms) (a_mod_leftA ms) (a_mod_leftB ms) (a_mod_rootA ms) (a_mod_rootB ms) (a_mod_tail ms) (a_mod_round ms) (a_mod_sum ms) (a_mod_rowMany ms) (a_mod_least ms) (a_mod_leastMany ms) (a_mod_netP ms) (a_mod_netQ ms) (a_mod_netR ms) (a_mod_leapMany ms), ce_J (rB 1) (kB 1) 8 (a_regA ms), ce_J (rB 2) (kB 2) 8 (a_regB ms)]) [16, 17, 18] rfl rfl
        refine kw_i (wr := [ce_pw rA , ce_net rA (a_net_t cs) (a_net_n cs) (a_net_units cs) (a_net_spin cs), ce_J (rA 2) (kA 2) 8 zp.2, ce_mak rA (a_mak_common cs) (a_mak_u cs) (a_mak_v cs), ce_fac rA (a_fac_count cs) (a_fac_left cs), ce_J (rA 5) (kA 5) 40 (a_pri cs), ce_rsd rA (a_rsd_found cs), ce_num rA (a_num_base cs) (a_num_size cs) (a_num_digitOfW cs) (a_num_tail cs) (a_num_round cs) (a_num_rings cs) (a_num_ringed cs), ce_I (rA 8) (kA 8) 625 (a_mrk cs), ce_fl (rA 9) (a_fl_p cs) (a_fl_q cs) (a_fl_r cs), ce_fl (rA 10) (a_ot_p cs) (a_ot_q cs) (a_ot_r cs), ce_lea rA (a_lea_count cs), ce_J (rA 12) (kA 12) 12 (a_lps cs), ce_J (rA 13) (kA 13) 61 (a_sen cs), ce_J (rA 14) (kA 14) 61 (a_edg cs), ce_J (rA 15) (kA 15) 61 (a_nxt cs), ce_J (rB 3) (kB 3) 6 (a_unitA ms), ce_J (rB 4) (kB 4) 6 (a_unitB ms), ce_J (rB 5) (kB 5) 40 (a_partA ms), ce_J (rB 6) (kB 6) 40 (a_partB ms), ce_J (rB 7) (kB 7) 1000 (a_rowA ms), ce_J (rB 8) (kB 8) 1000 (a_rowB ms), ce_I (rB 9) (kB 9) 1000 (a_rowDigit ms), ce_J (rB 10) (kB 10) 12 (a_leapA ms), ce_J (rB 11) (kB 11) 12 (a_leapB ms), ce_I (rB 12) (kB 12) 3721 (a_fars ms), ce_I (rB 13) (kB 13) 3721 (a_queue ms)]) (ws' := [ce_pw rA , ce_net rA (a_net_t cs) (a_net_n cs) (a_net_units cs) (a_net_spin cs), ce_J (rA 2) (kA 2) 8 zp.2, ce_mak rA (a_mak_common cs) (a_mak_u cs) (a_mak_v cs), ce_fac rA (a_fac_count cs) (a_fac_left cs), ce_J (rA 5) (kA 5) 40 (a_pri cs), ce_rsd rA (a_rsd_found cs), ce_num rA (a_num_base cs) (a_num_size cs) (a_num_digitOfW cs) (a_num_tail cs) (a_num_round cs) (a_num_rings cs) (a_num_ringed cs), ce_I (rA 8) (kA 8) 625 (a_mrk cs), ce_fl (rA 9) (a_fl_p cs) (a_fl_q cs) (a_fl_r cs), ce_fl (rA 10) (a_ot_p cs) (a_ot_q cs) (a_ot_r cs), ce_lea rA (a_lea_count cs), ce_J (rA 12) (kA 12) 12 (a_lps cs), ce_J (rA 13) (kA 13) 61 (a_sen cs), ce_J (rA 14) (kA 14) 61 (a_edg cs), ce_J (rA 15) (kA 15) 61 (a_nxt cs), ce_mod rB (a_mod_t ms) (a_mod_n ms) zq.2.1 zq.2.2.1 (a_mod_unitMany ms) zq.2.2.2.1 zq.2.2.2.2.1 (a_mod_unitUsed ms) (a_mod_fu ms) (a_mod_fuB ms) (a_mod_fv ms) (a_mod_fvB ms) (a_mod_madeA ms) (a_mod_madeB ms) (a_mod_partMany ms) (a_mod_leftA ms) (a_mod_leftB ms) (a_mod_rootA ms) (a_mod_rootB ms) (a_mod_tail ms) (a_mod_round ms) (a_mod_sum ms) (a_mod_rowMany ms) (a_mod_least ms) (a_mod_leastMany ms) (a_mod_netP ms) (a_mod_netQ ms) (a_mod_netR ms) (a_mod_leapMany ms), ce_J (rB 1) (kB 1) 8 zq.2.2.2.2.2.1, ce_J (rB 2) (kB 2) 8 zq.2.2.2.2.2.2, ce_J (rB 3) (kB 3) 6 (a_unitA ms), ce_J (rB 4) (kB 4) 6 (a_unitB ms), ce_J (rB 5) (kB 5) 40 (a_partA ms), ce_J (rB 6) (kB 6) 40 (a_partB ms), ce_J (rB 7) (kB 7) 1000 (a_rowA ms), ce_J (rB 8) (kB 8) 1000 (a_rowB ms), ce_I (rB 9) (kB 9) 1000 (a_rowDigit ms), ce_J (rB 10) (kB 10) 12 (a_leapA ms), ce_J (rB 11) (kB 11) 12 (a_leapB ms), ce_I (rB 12) (kB 12) 3721 (a_fars ms), ce_I (rB 13) (kB 13) 3721 (a_queue ms)]) (va_runV (As := [.int (xs (x3 + (1 : Int32)).toNatClampNeg), .int (xs (x3 + (2 : Int32)).toNatClampNeg), .int (xs (x3 + (3 : Int32)).toNatClampNeg), .int (xs (x3 + (4 : Int32)).toNatClampNeg)]) (rest := [.int zp.1]) ⟨hx, hb, hml, hown, hts⟩ (c_X8_power l dC dI rB kB H.size (a_mod_t ms) (a_mod_n ms) (a_mod_a ms) (a_mod_b ms) (a_mod_unitMany ms) (a_mod_quotA ms) (a_mod_quotB ms) (a_mod_unitUsed ms) (a_mod_fu ms) (a_mod_fuB ms) (a_mod_fv ms) (a_mod_fvB ms) (a_mod_madeA ms) (a_mod_madeB ms) (a_mod_partMany ms) (a_mod_leftA ms) (a_mod_leftB ms) (a_mod_rootA ms) (a_mod_rootB ms) (a_mod_tail ms) (a_mod_round ms) (a_mod_sum ms) (a_mod_rowMany ms) (a_mod_least ms) (a_mod_leastMany ms) (a_mod_netP ms) (a_mod_netQ ms) (a_mod_netR ms) (a_mod_leapMany ms) (a_regA ms) (a_regB ms) (xs (x3 + (1 : Int32)).toNatClampNeg) (xs (x3 + (2 : Int32)).toNatClampNeg) (xs (x3 + (3 : Int32)).toNatClampNeg) (xs (x3 + (4 : Int32)).toNatClampNeg) hzq) (cwV 4 hts gL_X8_power rfl rfl rfl hv_X8_power ⟨(Nat.le_of_ble_eq_true rfl), (Nat.le_of_ble_eq_true rfl)⟩) ⟨fb_w, va_recv hK hP (ci := 8) (q0 := 16) rfl rfl, pre_w hPc hDc hKc hN⟩ rfl rfl hl.1 rfl (lv_room (Nat.le_of_ble_eq_true rfl)) dL_law_622 ⟨(Nat.le_of_ble_eq_true rfl), (Nat.le_of_ble_eq_true rfl)⟩) hP hD hS hA [16, 17, 18] [0, 1, 2, 3, 4, 5, 6, 7, 8, 9, 10, 11, 12, 13, 14, 15, 19, 20, 21, 22, 23, 24, 25, 26, 27, 28, 29] [0, 1, 2, 3, 4, 5, 6, 7, 8, 9, 10, 11, 12, 13, 14, 15, 27, 28, 29, 16, 17, 18, 19, 20, 21, 22, 23, 24, 25, 26] rfl rfl rfl (by decide) rfl rfl rfl (fun H locs hP hD hS => ?_)
        refine lv_icmp_eq (tgt := 1298) hx hb dL_law_625 (by decide) (fun c1 => ?_) (fun c1 => absurd hzr c1)
        exact hnext ((a_net_t cs), (a_net_n cs), (a_net_units cs), (a_net_spin cs), zp.2, (a_mak_common cs), (a_mak_u cs), (a_mak_v cs), (a_fac_count cs), (a_fac_left cs), (a_pri cs), (a_rsd_found cs), (a_num_base cs), (a_num_size cs), (a_num_digitOfW cs), (a_num_tail cs), (a_num_round cs), (a_num_rings cs), (a_num_ringed cs), (a_mrk cs), (a_fl_p cs), (a_fl_q cs), (a_fl_r cs), (a_ot_p cs), (a_ot_q cs), (a_ot_r cs), (a_lea_count cs), (a_lps cs), (a_sen cs), (a_edg cs), (a_nxt cs)) ((a_mod_t ms), (a_mod_n ms), zq.2.1, zq.2.2.1, (a_mod_unitMany ms), zq.2.2.2.1, zq.2.2.2.2.1, (a_mod_unitUsed ms), (a_mod_fu ms), (a_mod_fuB ms), (a_mod_fv ms), (a_mod_fvB ms), (a_mod_madeA ms), (a_mod_madeB ms), (a_mod_partMany ms), (a_mod_leftA ms), (a_mod_leftB ms), (a_mod_rootA ms), (a_mod_rootB ms), (a_mod_tail ms), (a_mod_round ms), (a_mod_sum ms), (a_mod_rowMany ms), (a_mod_least ms), (a_mod_leastMany ms), (a_mod_netP ms), (a_mod_netQ ms), (a_mod_netR ms), (a_mod_leapMany ms), zq.2.2.2.2.2.1, zq.2.2.2.2.2.2, (a_unitA ms), (a_unitB ms), (a_partA ms), (a_partB ms), (a_rowA ms), (a_rowB ms), (a_rowDigit ms), (a_leapA ms), (a_leapB ms), (a_fars ms), (a_queue ms)) H locs ls hR hP hD hS hl
      by_cases g_13 : sel = (13 : Int32)
      · refine lv_tableIn (tgt := 630) hx hb dL_law_33 (by rw [g_13]; decide) (by rw [g_13]; decide) (by rw [g_13]; rfl) (by decide) ?_
        clear g_13 hsel
        refine lv_aload_n hx hb dL_law_630 rfl (lv_at hl 2 rfl) ?_
        refine lv_aload_n hx hb dL_law_631 rfl (lv_at hl 1 rfl) ?_
        refine lv_iload_n hx hb dL_law_632 rfl (lv_at hl 0 rfl) ?_
        refine lv_iconst (v := (1 : Int32)) hx hb dL_law_633 (by decide) ?_
        refine lv_iadd hx hb dL_law_634 ?_
        refine va_sld hx hb hX hbl hbA hS hin1 dL_law_635 ?_
        refine lv_aload_n hx hb dL_law_636 rfl (lv_at hl 1 rfl) ?_
        refine lv_iload_n hx hb dL_law_637 rfl (lv_at hl 0 rfl) ?_
        refine lv_iconst (v := (2 : Int32)) hx hb dL_law_638 (by decide) ?_
        refine lv_iadd hx hb dL_law_639 ?_
        refine va_sld hx hb hX hbl hbA hS hin2 dL_law_640 ?_
        obtain ⟨zp, zq, hzp, hzq, hzr, hR⟩ := hm_order cs ms hR (xs (x3 + (1 : Int32)).toNatClampNeg) (xs (x3 + (2 : Int32)).toNatClampNeg)
        have hPc := hP.sub (ws' := [ce_pw rA , ce_net rA (a_net_t cs) (a_net_n cs) (a_net_units cs) (a_net_spin cs), ce_J (rA 2) (kA 2) 8 (a_reg cs), ce_fac rA (a_fac_count cs) (a_fac_left cs), ce_J (rA 5) (kA 5) 40 (a_pri cs), ce_rsd rA (a_rsd_found cs)]) [0, 1, 2, 4, 5, 6] rfl
        have hKc := hK.sub (tys' := [((kA 2), .long), ((kA 5), .long)]) [0, 1] rfl
        have hDc := hD.sub (ws' := [ce_pw rA , ce_net rA (a_net_t cs) (a_net_n cs) (a_net_units cs) (a_net_spin cs), ce_J (rA 2) (kA 2) 8 (a_reg cs), ce_fac rA (a_fac_count cs) (a_fac_left cs), ce_J (rA 5) (kA 5) 40 (a_pri cs), ce_rsd rA (a_rsd_found cs)]) [0, 1, 2, 4, 5, 6] rfl rfl
        refine kw_i (wr := [ce_mak rA (a_mak_common cs) (a_mak_u cs) (a_mak_v cs), ce_num rA (a_num_base cs) (a_num_size cs) (a_num_digitOfW cs) (a_num_tail cs) (a_num_round cs) (a_num_rings cs) (a_num_ringed cs), ce_I (rA 8) (kA 8) 625 (a_mrk cs), ce_fl (rA 9) (a_fl_p cs) (a_fl_q cs) (a_fl_r cs), ce_fl (rA 10) (a_ot_p cs) (a_ot_q cs) (a_ot_r cs), ce_lea rA (a_lea_count cs), ce_J (rA 12) (kA 12) 12 (a_lps cs), ce_J (rA 13) (kA 13) 61 (a_sen cs), ce_J (rA 14) (kA 14) 61 (a_edg cs), ce_J (rA 15) (kA 15) 61 (a_nxt cs), ce_mod rB (a_mod_t ms) (a_mod_n ms) (a_mod_a ms) (a_mod_b ms) (a_mod_unitMany ms) (a_mod_quotA ms) (a_mod_quotB ms) (a_mod_unitUsed ms) (a_mod_fu ms) (a_mod_fuB ms) (a_mod_fv ms) (a_mod_fvB ms) (a_mod_madeA ms) (a_mod_madeB ms) (a_mod_partMany ms) (a_mod_leftA ms) (a_mod_leftB ms) (a_mod_rootA ms) (a_mod_rootB ms) (a_mod_tail ms) (a_mod_round ms) (a_mod_sum ms) (a_mod_rowMany ms) (a_mod_least ms) (a_mod_leastMany ms) (a_mod_netP ms) (a_mod_netQ ms) (a_mod_netR ms) (a_mod_leapMany ms), ce_J (rB 1) (kB 1) 8 (a_regA ms), ce_J (rB 2) (kB 2) 8 (a_regB ms), ce_J (rB 3) (kB 3) 6 (a_unitA ms), ce_J (rB 4) (kB 4) 6 (a_unitB ms), ce_J (rB 5) (kB 5) 40 (a_partA ms), ce_J (rB 6) (kB 6) 40 (a_partB ms), ce_J (rB 7) (kB 7) 1000 (a_rowA ms), ce_J (rB 8) (kB 8) 1000 (a_rowB ms), ce_I (rB 9) (kB 9) 1000 (a_rowDigit ms), ce_J (rB 10) (kB 10) 12 (a_leapA ms), ce_J (rB 11) (kB 11) 12 (a_leapB ms), ce_I (rB 12) (kB 12) 3721 (a_fars ms), ce_I (rB 13) (kB 13) 3721 (a_queue ms)]) (ws' := [ce_pw rA , ce_net rA (a_net_t cs) (a_net_n cs) (a_net_units cs) (a_net_spin cs), ce_J (rA 2) (kA 2) 8 (a_reg cs), ce_mak rA (a_mak_common cs) (a_mak_u cs) (a_mak_v cs), ce_fac rA zp.2.1 zp.2.2.1, ce_J (rA 5) (kA 5) 40 zp.2.2.2, ce_rsd rA (a_rsd_found cs), ce_num rA (a_num_base cs) (a_num_size cs) (a_num_digitOfW cs) (a_num_tail cs) (a_num_round cs) (a_num_rings cs) (a_num_ringed cs), ce_I (rA 8) (kA 8) 625 (a_mrk cs), ce_fl (rA 9) (a_fl_p cs) (a_fl_q cs) (a_fl_r cs), ce_fl (rA 10) (a_ot_p cs) (a_ot_q cs) (a_ot_r cs), ce_lea rA (a_lea_count cs), ce_J (rA 12) (kA 12) 12 (a_lps cs), ce_J (rA 13) (kA 13) 61 (a_sen cs), ce_J (rA 14) (kA 14) 61 (a_edg cs), ce_J (rA 15) (kA 15) 61 (a_nxt cs), ce_mod rB (a_mod_t ms) (a_mod_n ms) (a_mod_a ms) (a_mod_b ms) (a_mod_unitMany ms) (a_mod_quotA ms) (a_mod_quotB ms) (a_mod_unitUsed ms) (a_mod_fu ms) (a_mod_fuB ms) (a_mod_fv ms) (a_mod_fvB ms) (a_mod_madeA ms) (a_mod_madeB ms) (a_mod_partMany ms) (a_mod_leftA ms) (a_mod_leftB ms) (a_mod_rootA ms) (a_mod_rootB ms) (a_mod_tail ms) (a_mod_round ms) (a_mod_sum ms) (a_mod_rowMany ms) (a_mod_least ms) (a_mod_leastMany ms) (a_mod_netP ms) (a_mod_netQ ms) (a_mod_netR ms) (a_mod_leapMany ms), ce_J (rB 1) (kB 1) 8 (a_regA ms), ce_J (rB 2) (kB 2) 8 (a_regB ms), ce_J (rB 3) (kB 3) 6 (a_unitA ms), ce_J (rB 4) (kB 4) 6 (a_unitB ms), ce_J (rB 5) (kB 5) 40 (a_partA ms), ce_J (rB 6) (kB 6) 40 (a_partB ms), ce_J (rB 7) (kB 7) 1000 (a_rowA ms), ce_J (rB 8) (kB 8) 1000 (a_rowB ms), ce_I (rB 9) (kB 9) 1000 (a_rowDigit ms), ce_J (rB 10) (kB 10) 12 (a_leapA ms), ce_J (rB 11) (kB 11) 12 (a_leapB ms), ce_I (rB 12) (kB 12) 3721 (a_fars ms), ce_I (rB 13) (kB 13) 3721 (a_queue ms)]) (va_runV (As := [.int (xs (x3 + (1 : Int32)).toNatClampNeg), .int (xs (x3 + (2 : Int32)).toNatClampNeg)]) (rest := []) ⟨hx, hb, hml, hown, hts⟩ (c_X7_order l dC dI rA kA H.size (a_net_t cs) (a_net_n cs) (a_net_units cs) (a_net_spin cs) (a_reg cs) (a_fac_count cs) (a_fac_left cs) (a_pri cs) (a_rsd_found cs) (xs (x3 + (1 : Int32)).toNatClampNeg) (xs (x3 + (2 : Int32)).toNatClampNeg) hzp) (cwV 2 hts gL_X7_order rfl rfl rfl hv_X7_order ⟨(Nat.le_of_ble_eq_true rfl), (Nat.le_of_ble_eq_true rfl)⟩) ⟨fb_w, va_recv hK hP (ci := 7) (q0 := 0) rfl rfl, pre_w hPc hDc hKc hN⟩ rfl rfl hl.1 rfl (lv_room (Nat.le_of_ble_eq_true rfl)) dL_law_641 ⟨(Nat.le_of_ble_eq_true rfl), (Nat.le_of_ble_eq_true rfl)⟩) hP hD hS hA [0, 1, 2, 4, 5, 6] [3, 7, 8, 9, 10, 11, 12, 13, 14, 15, 16, 17, 18, 19, 20, 21, 22, 23, 24, 25, 26, 27, 28, 29] [24, 25, 26, 0, 27, 28, 29, 1, 2, 3, 4, 5, 6, 7, 8, 9, 10, 11, 12, 13, 14, 15, 16, 17, 18, 19, 20, 21, 22, 23] rfl rfl rfl (by decide) rfl rfl rfl (fun H locs hP hD hS => ?_)
        refine lv_aload_n hx hb dL_law_644 rfl (lv_at hl 3 rfl) ?_
        refine lv_aload_n hx hb dL_law_645 rfl (lv_at hl 1 rfl) ?_
        refine lv_iload_n hx hb dL_law_646 rfl (lv_at hl 0 rfl) ?_
        refine lv_iconst (v := (1 : Int32)) hx hb dL_law_647 (by decide) ?_
        refine lv_iadd hx hb dL_law_648 ?_
        refine va_sld hx hb hX hbl hbA hS hin1 dL_law_649 ?_
        refine lv_aload_n hx hb dL_law_650 rfl (lv_at hl 1 rfl) ?_
        refine lv_iload_n hx hb dL_law_651 rfl (lv_at hl 0 rfl) ?_
        refine lv_iconst (v := (2 : Int32)) hx hb dL_law_652 (by decide) ?_
        refine lv_iadd hx hb dL_law_653 ?_
        refine va_sld hx hb hX hbl hbA hS hin2 dL_law_654 ?_
        have hPc := hP.sub (ws' := [ce_mod rB (a_mod_t ms) (a_mod_n ms) (a_mod_a ms) (a_mod_b ms) (a_mod_unitMany ms) (a_mod_quotA ms) (a_mod_quotB ms) (a_mod_unitUsed ms) (a_mod_fu ms) (a_mod_fuB ms) (a_mod_fv ms) (a_mod_fvB ms) (a_mod_madeA ms) (a_mod_madeB ms) (a_mod_partMany ms) (a_mod_leftA ms) (a_mod_leftB ms) (a_mod_rootA ms) (a_mod_rootB ms) (a_mod_tail ms) (a_mod_round ms) (a_mod_sum ms) (a_mod_rowMany ms) (a_mod_least ms) (a_mod_leastMany ms) (a_mod_netP ms) (a_mod_netQ ms) (a_mod_netR ms) (a_mod_leapMany ms), ce_J (rB 1) (kB 1) 8 (a_regA ms), ce_J (rB 2) (kB 2) 8 (a_regB ms), ce_J (rB 3) (kB 3) 6 (a_unitA ms), ce_J (rB 4) (kB 4) 6 (a_unitB ms)]) [16, 17, 18, 19, 20] rfl
        have hKc := hK.sub (tys' := [((kB 1), .long), ((kB 2), .long), ((kB 3), .long), ((kB 4), .long)]) [7, 8, 9, 10] rfl
        have hDc := hD.sub (ws' := [ce_mod rB (a_mod_t ms) (a_mod_n ms) (a_mod_a ms) (a_mod_b ms) (a_mod_unitMany ms) (a_mod_quotA ms) (a_mod_quotB ms) (a_mod_unitUsed ms) (a_mod_fu ms) (a_mod_fuB ms) (a_mod_fv ms) (a_mod_fvB ms) (a_mod_madeA ms) (a_mod_madeB ms) (a_mod_partMany ms) (a_mod_leftA ms) (a_mod_leftB ms) (a_mod_rootA ms) (a_mod_rootB ms) (a_mod_tail ms) (a_mod_round ms) (a_mod_sum ms) (a_mod_rowMany ms) (a_mod_least ms) (a_mod_leastMany ms) (a_mod_netP ms) (a_mod_netQ ms) (a_mod_netR ms) (a_mod_leapMany ms), ce_J (rB 1) (kB 1) 8 (a_regA ms), ce_J (rB 2) (kB 2) 8 (a_regB ms), ce_J (rB 3) (kB 3) 6 (a_unitA ms), ce_J (rB 4) (kB 4) 6 (a_unitB ms)]) [16, 17, 18, 19, 20] rfl rfl
        refine kw_i (wr := [ce_pw rA , ce_net rA (a_net_t cs) (a_net_n cs) (a_net_units cs) (a_net_spin cs), ce_J (rA 2) (kA 2) 8 (a_reg cs), ce_mak rA (a_mak_common cs) (a_mak_u cs) (a_mak_v cs), ce_fac rA zp.2.1 zp.2.2.1, ce_J (rA 5) (kA 5) 40 zp.2.2.2, ce_rsd rA (a_rsd_found cs), ce_num rA (a_num_base cs) (a_num_size cs) (a_num_digitOfW cs) (a_num_tail cs) (a_num_round cs) (a_num_rings cs) (a_num_ringed cs), ce_I (rA 8) (kA 8) 625 (a_mrk cs), ce_fl (rA 9) (a_fl_p cs) (a_fl_q cs) (a_fl_r cs), ce_fl (rA 10) (a_ot_p cs) (a_ot_q cs) (a_ot_r cs), ce_lea rA (a_lea_count cs), ce_J (rA 12) (kA 12) 12 (a_lps cs), ce_J (rA 13) (kA 13) 61 (a_sen cs), ce_J (rA 14) (kA 14) 61 (a_edg cs), ce_J (rA 15) (kA 15) 61 (a_nxt cs), ce_J (rB 5) (kB 5) 40 (a_partA ms), ce_J (rB 6) (kB 6) 40 (a_partB ms), ce_J (rB 7) (kB 7) 1000 (a_rowA ms), ce_J (rB 8) (kB 8) 1000 (a_rowB ms), ce_I (rB 9) (kB 9) 1000 (a_rowDigit ms), ce_J (rB 10) (kB 10) 12 (a_leapA ms), ce_J (rB 11) (kB 11) 12 (a_leapB ms), ce_I (rB 12) (kB 12) 3721 (a_fars ms), ce_I (rB 13) (kB 13) 3721 (a_queue ms)]) (ws' := [ce_pw rA , ce_net rA (a_net_t cs) (a_net_n cs) (a_net_units cs) (a_net_spin cs), ce_J (rA 2) (kA 2) 8 (a_reg cs), ce_mak rA (a_mak_common cs) (a_mak_u cs) (a_mak_v cs), ce_fac rA zp.2.1 zp.2.2.1, ce_J (rA 5) (kA 5) 40 zp.2.2.2, ce_rsd rA (a_rsd_found cs), ce_num rA (a_num_base cs) (a_num_size cs) (a_num_digitOfW cs) (a_num_tail cs) (a_num_round cs) (a_num_rings cs) (a_num_ringed cs), ce_I (rA 8) (kA 8) 625 (a_mrk cs), ce_fl (rA 9) (a_fl_p cs) (a_fl_q cs) (a_fl_r cs), ce_fl (rA 10) (a_ot_p cs) (a_ot_q cs) (a_ot_r cs), ce_lea rA (a_lea_count cs), ce_J (rA 12) (kA 12) 12 (a_lps cs), ce_J (rA 13) (kA 13) 61 (a_sen cs), ce_J (rA 14) (kA 14) 61 (a_edg cs), ce_J (rA 15) (kA 15) 61 (a_nxt cs), ce_mod rB (a_mod_t ms) (a_mod_n ms) zq.2.1 zq.2.2.1 (a_mod_unitMany ms) zq.2.2.2.1 zq.2.2.2.2.1 zq.2.2.2.2.2 (a_mod_fu ms) (a_mod_fuB ms) (a_mod_fv ms) (a_mod_fvB ms) (a_mod_madeA ms) (a_mod_madeB ms) (a_mod_partMany ms) (a_mod_leftA ms) (a_mod_leftB ms) (a_mod_rootA ms) (a_mod_rootB ms) (a_mod_tail ms) (a_mod_round ms) (a_mod_sum ms) (a_mod_rowMany ms) (a_mod_least ms) (a_mod_leastMany ms) (a_mod_netP ms) (a_mod_netQ ms) (a_mod_netR ms) (a_mod_leapMany ms), ce_J (rB 1) (kB 1) 8 (a_regA ms), ce_J (rB 2) (kB 2) 8 (a_regB ms), ce_J (rB 3) (kB 3) 6 (a_unitA ms), ce_J (rB 4) (kB 4) 6 (a_unitB ms), ce_J (rB 5) (kB 5) 40 (a_partA ms), ce_J (rB 6) (kB 6) 40 (a_partB ms), ce_J (rB 7) (kB 7) 1000 (a_rowA ms), ce_J (rB 8) (kB 8) 1000 (a_rowB ms), ce_I (rB 9) (kB 9) 1000 (a_rowDigit ms), ce_J (rB 10) (kB 10) 12 (a_leapA ms), ce_J (rB 11) (kB 11) 12 (a_leapB ms), ce_I (rB 12) (kB 12) 3721 (a_fars ms), ce_I (rB 13) (kB 13) 3721 (a_queue ms)]) (va_runV (As := [.int (xs (x3 + (1 : Int32)).toNatClampNeg), .int (xs (x3 + (2 : Int32)).toNatClampNeg)]) (rest := [.int zp.1]) ⟨hx, hb, hml, hown, hts⟩ (c_X8_order l dC dI rB kB H.size (a_mod_t ms) (a_mod_n ms) (a_mod_a ms) (a_mod_b ms) (a_mod_unitMany ms) (a_mod_quotA ms) (a_mod_quotB ms) (a_mod_unitUsed ms) (a_mod_fu ms) (a_mod_fuB ms) (a_mod_fv ms) (a_mod_fvB ms) (a_mod_madeA ms) (a_mod_madeB ms) (a_mod_partMany ms) (a_mod_leftA ms) (a_mod_leftB ms) (a_mod_rootA ms) (a_mod_rootB ms) (a_mod_tail ms) (a_mod_round ms) (a_mod_sum ms) (a_mod_rowMany ms) (a_mod_least ms) (a_mod_leastMany ms) (a_mod_netP ms) (a_mod_netQ ms) (a_mod_netR ms) (a_mod_leapMany ms) (a_regA ms) (a_regB ms) (a_unitA ms) (a_unitB ms) (xs (x3 + (1 : Int32)).toNatClampNeg) (xs (x3 + (2 : Int32)).toNatClampNeg) hzq) (cwV 2 hts gL_X8_order rfl rfl rfl hv_X8_order ⟨(Nat.le_of_ble_eq_true rfl), (Nat.le_of_ble_eq_true rfl)⟩) ⟨fb_w, va_recv hK hP (ci := 8) (q0 := 16) rfl rfl, pre_w hPc hDc hKc hN⟩ rfl rfl hl.1 rfl (lv_room (Nat.le_of_ble_eq_true rfl)) dL_law_655 ⟨(Nat.le_of_ble_eq_true rfl), (Nat.le_of_ble_eq_true rfl)⟩) hP hD hS hA [16, 17, 18, 19, 20] [0, 1, 2, 3, 4, 5, 6, 7, 8, 9, 10, 11, 12, 13, 14, 15, 21, 22, 23, 24, 25, 26, 27, 28, 29] [0, 1, 2, 3, 4, 5, 6, 7, 8, 9, 10, 11, 12, 13, 14, 15, 25, 26, 27, 28, 29, 16, 17, 18, 19, 20, 21, 22, 23, 24] rfl rfl rfl (by decide) rfl rfl rfl (fun H locs hP hD hS => ?_)
        refine lv_icmp_eq (tgt := 1298) hx hb dL_law_658 (by decide) (fun c1 => ?_) (fun c1 => absurd hzr c1)
        exact hnext ((a_net_t cs), (a_net_n cs), (a_net_units cs), (a_net_spin cs), (a_reg cs), (a_mak_common cs), (a_mak_u cs), (a_mak_v cs), zp.2.1, zp.2.2.1, zp.2.2.2, (a_rsd_found cs), (a_num_base cs), (a_num_size cs), (a_num_digitOfW cs), (a_num_tail cs), (a_num_round cs), (a_num_rings cs), (a_num_ringed cs), (a_mrk cs), (a_fl_p cs), (a_fl_q cs), (a_fl_r cs), (a_ot_p cs), (a_ot_q cs), (a_ot_r cs), (a_lea_count cs), (a_lps cs), (a_sen cs), (a_edg cs), (a_nxt cs)) ((a_mod_t ms), (a_mod_n ms), zq.2.1, zq.2.2.1, (a_mod_unitMany ms), zq.2.2.2.1, zq.2.2.2.2.1, zq.2.2.2.2.2, (a_mod_fu ms), (a_mod_fuB ms), (a_mod_fv ms), (a_mod_fvB ms), (a_mod_madeA ms), (a_mod_madeB ms), (a_mod_partMany ms), (a_mod_leftA ms), (a_mod_leftB ms), (a_mod_rootA ms), (a_mod_rootB ms), (a_mod_tail ms), (a_mod_round ms), (a_mod_sum ms), (a_mod_rowMany ms), (a_mod_least ms), (a_mod_leastMany ms), (a_mod_netP ms), (a_mod_netQ ms), (a_mod_netR ms), (a_mod_leapMany ms), (a_regA ms), (a_regB ms), (a_unitA ms), (a_unitB ms), (a_partA ms), (a_partB ms), (a_rowA ms), (a_rowB ms), (a_rowDigit ms), (a_leapA ms), (a_leapB ms), (a_fars ms), (a_queue ms)) H locs ls hR hP hD hS hl
      by_cases g_14 : sel = (14 : Int32)
      · refine lv_tableIn (tgt := 663) hx hb dL_law_33 (by rw [g_14]; decide) (by rw [g_14]; decide) (by rw [g_14]; rfl) (by decide) ?_
        clear g_14 hsel
        refine lv_aload_n hx hb dL_law_663 rfl (lv_at hl 2 rfl) ?_
        refine lv_aload_n hx hb dL_law_664 rfl (lv_at hl 1 rfl) ?_
        refine lv_iload_n hx hb dL_law_665 rfl (lv_at hl 0 rfl) ?_
        refine lv_iconst (v := (1 : Int32)) hx hb dL_law_666 (by decide) ?_
        refine lv_iadd hx hb dL_law_667 ?_
        refine va_sld hx hb hX hbl hbA hS hin1 dL_law_668 ?_
        refine lv_aload_n hx hb dL_law_669 rfl (lv_at hl 1 rfl) ?_
        refine lv_iload_n hx hb dL_law_670 rfl (lv_at hl 0 rfl) ?_
        refine lv_iconst (v := (2 : Int32)) hx hb dL_law_671 (by decide) ?_
        refine lv_iadd hx hb dL_law_672 ?_
        refine va_sld hx hb hX hbl hbA hS hin2 dL_law_673 ?_
        refine lv_aload_n hx hb dL_law_674 rfl (lv_at hl 1 rfl) ?_
        refine lv_iload_n hx hb dL_law_675 rfl (lv_at hl 0 rfl) ?_
        refine lv_iconst (v := (3 : Int32)) hx hb dL_law_676 (by decide) ?_
        refine lv_iadd hx hb dL_law_677 ?_
        refine va_sld hx hb hX hbl hbA hS hin3 dL_law_678 ?_
        obtain ⟨zp, zq, hzp, hzq, hzr, hR⟩ := hm_inverse cs ms hR (xs (x3 + (1 : Int32)).toNatClampNeg) (xs (x3 + (2 : Int32)).toNatClampNeg) (xs (x3 + (3 : Int32)).toNatClampNeg)
        have hPc := hP.sub (ws' := [ce_pw rA , ce_net rA (a_net_t cs) (a_net_n cs) (a_net_units cs) (a_net_spin cs), ce_J (rA 2) (kA 2) 8 (a_reg cs), ce_mak rA (a_mak_common cs) (a_mak_u cs) (a_mak_v cs), ce_rsd rA (a_rsd_found cs)]) [0, 1, 2, 3, 6] rfl
        have hKc := hK.sub (tys' := [((kA 2), .long)]) [0] rfl
        have hDc := hD.sub (ws' := [ce_pw rA , ce_net rA (a_net_t cs) (a_net_n cs) (a_net_units cs) (a_net_spin cs), ce_J (rA 2) (kA 2) 8 (a_reg cs), ce_mak rA (a_mak_common cs) (a_mak_u cs) (a_mak_v cs), ce_rsd rA (a_rsd_found cs)]) [0, 1, 2, 3, 6] rfl rfl
        refine kw_i (wr := [ce_fac rA (a_fac_count cs) (a_fac_left cs), ce_J (rA 5) (kA 5) 40 (a_pri cs), ce_num rA (a_num_base cs) (a_num_size cs) (a_num_digitOfW cs) (a_num_tail cs) (a_num_round cs) (a_num_rings cs) (a_num_ringed cs), ce_I (rA 8) (kA 8) 625 (a_mrk cs), ce_fl (rA 9) (a_fl_p cs) (a_fl_q cs) (a_fl_r cs), ce_fl (rA 10) (a_ot_p cs) (a_ot_q cs) (a_ot_r cs), ce_lea rA (a_lea_count cs), ce_J (rA 12) (kA 12) 12 (a_lps cs), ce_J (rA 13) (kA 13) 61 (a_sen cs), ce_J (rA 14) (kA 14) 61 (a_edg cs), ce_J (rA 15) (kA 15) 61 (a_nxt cs), ce_mod rB (a_mod_t ms) (a_mod_n ms) (a_mod_a ms) (a_mod_b ms) (a_mod_unitMany ms) (a_mod_quotA ms) (a_mod_quotB ms) (a_mod_unitUsed ms) (a_mod_fu ms) (a_mod_fuB ms) (a_mod_fv ms) (a_mod_fvB ms) (a_mod_madeA ms) (a_mod_madeB ms) (a_mod_partMany ms) (a_mod_leftA ms) (a_mod_leftB ms) (a_mod_rootA ms) (a_mod_rootB ms) (a_mod_tail ms) (a_mod_round ms) (a_mod_sum ms) (a_mod_rowMany ms) (a_mod_least ms) (a_mod_leastMany ms) (a_mod_netP ms) (a_mod_netQ ms) (a_mod_netR ms) (a_mod_leapMany ms), ce_J (rB 1) (kB 1) 8 (a_regA ms), ce_J (rB 2) (kB 2) 8 (a_regB ms), ce_J (rB 3) (kB 3) 6 (a_unitA ms), ce_J (rB 4) (kB 4) 6 (a_unitB ms), ce_J (rB 5) (kB 5) 40 (a_partA ms), ce_J (rB 6) (kB 6) 40 (a_partB ms), ce_J (rB 7) (kB 7) 1000 (a_rowA ms), ce_J (rB 8) (kB 8) 1000 (a_rowB ms), ce_I (rB 9) (kB 9) 1000 (a_rowDigit ms), ce_J (rB 10) (kB 10) 12 (a_leapA ms), ce_J (rB 11) (kB 11) 12 (a_leapB ms), ce_I (rB 12) (kB 12) 3721 (a_fars ms), ce_I (rB 13) (kB 13) 3721 (a_queue ms)]) (ws' := [ce_pw rA , ce_net rA (a_net_t cs) (a_net_n cs) (a_net_units cs) (a_net_spin cs), ce_J (rA 2) (kA 2) 8 zp.2.1, ce_mak rA zp.2.2.1 zp.2.2.2.1 zp.2.2.2.2.1, ce_fac rA (a_fac_count cs) (a_fac_left cs), ce_J (rA 5) (kA 5) 40 (a_pri cs), ce_rsd rA zp.2.2.2.2.2, ce_num rA (a_num_base cs) (a_num_size cs) (a_num_digitOfW cs) (a_num_tail cs) (a_num_round cs) (a_num_rings cs) (a_num_ringed cs), ce_I (rA 8) (kA 8) 625 (a_mrk cs), ce_fl (rA 9) (a_fl_p cs) (a_fl_q cs) (a_fl_r cs), ce_fl (rA 10) (a_ot_p cs) (a_ot_q cs) (a_ot_r cs), ce_lea rA (a_lea_count cs), ce_J (rA 12) (kA 12) 12 (a_lps cs), ce_J (rA 13) (kA 13) 61 (a_sen cs), ce_J (rA 14) (kA 14) 61 (a_edg cs), ce_J (rA 15) (kA 15) 61 (a_nxt cs), ce_mod rB (a_mod_t ms) (a_mod_n ms) (a_mod_a ms) (a_mod_b ms) (a_mod_unitMany ms) (a_mod_quotA ms) (a_mod_quotB ms) (a_mod_unitUsed ms) (a_mod_fu ms) (a_mod_fuB ms) (a_mod_fv ms) (a_mod_fvB ms) (a_mod_madeA ms) (a_mod_madeB ms) (a_mod_partMany ms) (a_mod_leftA ms) (a_mod_leftB ms) (a_mod_rootA ms) (a_mod_rootB ms) (a_mod_tail ms) (a_mod_round ms) (a_mod_sum ms) (a_mod_rowMany ms) (a_mod_least ms) (a_mod_leastMany ms) (a_mod_netP ms) (a_mod_netQ ms) (a_mod_netR ms) (a_mod_leapMany ms), ce_J (rB 1) (kB 1) 8 (a_regA ms), ce_J (rB 2) (kB 2) 8 (a_regB ms), ce_J (rB 3) (kB 3) 6 (a_unitA ms), ce_J (rB 4) (kB 4) 6 (a_unitB ms), ce_J (rB 5) (kB 5) 40 (a_partA ms), ce_J (rB 6) (kB 6) 40 (a_partB ms), ce_J (rB 7) (kB 7) 1000 (a_rowA ms), ce_J (rB 8) (kB 8) 1000 (a_rowB ms), ce_I (rB 9) (kB 9) 1000 (a_rowDigit ms), ce_J (rB 10) (kB 10) 12 (a_leapA ms), ce_J (rB 11) (kB 11) 12 (a_leapB ms), ce_I (rB 12) (kB 12) 3721 (a_fars ms), ce_I (rB 13) (kB 13) 3721 (a_queue ms)]) (va_runV (As := [.int (xs (x3 + (1 : Int32)).toNatClampNeg), .int (xs (x3 + (2 : Int32)).toNatClampNeg), .int (xs (x3 + (3 : Int32)).toNatClampNeg)]) (rest := []) ⟨hx, hb, hml, hown, hts⟩ (c_X7_inverse l dC dI rA kA H.size (a_net_t cs) (a_net_n cs) (a_net_units cs) (a_net_spin cs) (a_reg cs) (a_mak_common cs) (a_mak_u cs) (a_mak_v cs) (a_rsd_found cs) (xs (x3 + (1 : Int32)).toNatClampNeg) (xs (x3 + (2 : Int32)).toNatClampNeg) (xs (x3 + (3 : Int32)).toNatClampNeg) hzp) (cwV 3 hts gL_X7_inverse rfl rfl rfl hv_X7_inverse ⟨(Nat.le_of_ble_eq_true rfl), (Nat.le_of_ble_eq_true rfl)⟩) ⟨fb_w, va_recv hK hP (ci := 7) (q0 := 0) rfl rfl, pre_w hPc hDc hKc hN⟩ rfl rfl hl.1 rfl (lv_room (Nat.le_of_ble_eq_true rfl)) dL_law_679 ⟨(Nat.le_of_ble_eq_true rfl), (Nat.le_of_ble_eq_true rfl)⟩) hP hD hS hA [0, 1, 2, 3, 6] [4, 5, 7, 8, 9, 10, 11, 12, 13, 14, 15, 16, 17, 18, 19, 20, 21, 22, 23, 24, 25, 26, 27, 28, 29] [25, 26, 27, 28, 0, 1, 29, 2, 3, 4, 5, 6, 7, 8, 9, 10, 11, 12, 13, 14, 15, 16, 17, 18, 19, 20, 21, 22, 23, 24] rfl rfl rfl (by decide) rfl rfl rfl (fun H locs hP hD hS => ?_)
        refine lv_aload_n hx hb dL_law_682 rfl (lv_at hl 3 rfl) ?_
        refine lv_aload_n hx hb dL_law_683 rfl (lv_at hl 1 rfl) ?_
        refine lv_iload_n hx hb dL_law_684 rfl (lv_at hl 0 rfl) ?_
        refine lv_iconst (v := (1 : Int32)) hx hb dL_law_685 (by decide) ?_
        refine lv_iadd hx hb dL_law_686 ?_
        refine va_sld hx hb hX hbl hbA hS hin1 dL_law_687 ?_
        refine lv_aload_n hx hb dL_law_688 rfl (lv_at hl 1 rfl) ?_
        refine lv_iload_n hx hb dL_law_689 rfl (lv_at hl 0 rfl) ?_
        refine lv_iconst (v := (2 : Int32)) hx hb dL_law_690 (by decide) ?_
        refine lv_iadd hx hb dL_law_691 ?_
        refine va_sld hx hb hX hbl hbA hS hin2 dL_law_692 ?_
        refine lv_aload_n hx hb dL_law_693 rfl (lv_at hl 1 rfl) ?_
        refine lv_iload_n hx hb dL_law_694 rfl (lv_at hl 0 rfl) ?_
        refine lv_iconst (v := (3 : Int32)) hx hb dL_law_695 (by decide) ?_
        refine lv_iadd hx hb dL_law_696 ?_
        refine va_sld hx hb hX hbl hbA hS hin3 dL_law_697 ?_
        have hPc := hP.sub (ws' := [ce_mod rB (a_mod_t ms) (a_mod_n ms) (a_mod_a ms) (a_mod_b ms) (a_mod_unitMany ms) (a_mod_quotA ms) (a_mod_quotB ms) (a_mod_unitUsed ms) (a_mod_fu ms) (a_mod_fuB ms) (a_mod_fv ms) (a_mod_fvB ms) (a_mod_madeA ms) (a_mod_madeB ms) (a_mod_partMany ms) (a_mod_leftA ms) (a_mod_leftB ms) (a_mod_rootA ms) (a_mod_rootB ms) (a_mod_tail ms) (a_mod_round ms) (a_mod_sum ms) (a_mod_rowMany ms) (a_mod_least ms) (a_mod_leastMany ms) (a_mod_netP ms) (a_mod_netQ ms) (a_mod_netR ms) (a_mod_leapMany ms), ce_J (rB 1) (kB 1) 8 (a_regA ms), ce_J (rB 2) (kB 2) 8 (a_regB ms)]) [16, 17, 18] rfl
        have hKc := hK.sub (tys' := [((kB 1), .long), ((kB 2), .long)]) [7, 8] rfl
        have hDc := hD.sub (ws' := [ce_mod rB (a_mod_t ms) (a_mod_n ms) (a_mod_a ms) (a_mod_b ms) (a_mod_unitMany ms) (a_mod_quotA ms) (a_mod_quotB ms) (a_mod_unitUsed ms) (a_mod_fu ms) (a_mod_fuB ms) (a_mod_fv ms) (a_mod_fvB ms) (a_mod_madeA ms) (a_mod_madeB ms) (a_mod_partMany ms) (a_mod_leftA ms) (a_mod_leftB ms) (a_mod_rootA ms) (a_mod_rootB ms) (a_mod_tail ms) (a_mod_round ms) (a_mod_sum ms) (a_mod_rowMany ms) (a_mod_least ms) (a_mod_leastMany ms) (a_mod_netP ms) (a_mod_netQ ms) (a_mod_netR ms) (a_mod_leapMany ms), ce_J (rB 1) (kB 1) 8 (a_regA ms), ce_J (rB 2) (kB 2) 8 (a_regB ms)]) [16, 17, 18] rfl rfl
        refine kw_i (wr := [ce_pw rA , ce_net rA (a_net_t cs) (a_net_n cs) (a_net_units cs) (a_net_spin cs), ce_J (rA 2) (kA 2) 8 zp.2.1, ce_mak rA zp.2.2.1 zp.2.2.2.1 zp.2.2.2.2.1, ce_fac rA (a_fac_count cs) (a_fac_left cs), ce_J (rA 5) (kA 5) 40 (a_pri cs), ce_rsd rA zp.2.2.2.2.2, ce_num rA (a_num_base cs) (a_num_size cs) (a_num_digitOfW cs) (a_num_tail cs) (a_num_round cs) (a_num_rings cs) (a_num_ringed cs), ce_I (rA 8) (kA 8) 625 (a_mrk cs), ce_fl (rA 9) (a_fl_p cs) (a_fl_q cs) (a_fl_r cs), ce_fl (rA 10) (a_ot_p cs) (a_ot_q cs) (a_ot_r cs), ce_lea rA (a_lea_count cs), ce_J (rA 12) (kA 12) 12 (a_lps cs), ce_J (rA 13) (kA 13) 61 (a_sen cs), ce_J (rA 14) (kA 14) 61 (a_edg cs), ce_J (rA 15) (kA 15) 61 (a_nxt cs), ce_J (rB 3) (kB 3) 6 (a_unitA ms), ce_J (rB 4) (kB 4) 6 (a_unitB ms), ce_J (rB 5) (kB 5) 40 (a_partA ms), ce_J (rB 6) (kB 6) 40 (a_partB ms), ce_J (rB 7) (kB 7) 1000 (a_rowA ms), ce_J (rB 8) (kB 8) 1000 (a_rowB ms), ce_I (rB 9) (kB 9) 1000 (a_rowDigit ms), ce_J (rB 10) (kB 10) 12 (a_leapA ms), ce_J (rB 11) (kB 11) 12 (a_leapB ms), ce_I (rB 12) (kB 12) 3721 (a_fars ms), ce_I (rB 13) (kB 13) 3721 (a_queue ms)]) (ws' := [ce_pw rA , ce_net rA (a_net_t cs) (a_net_n cs) (a_net_units cs) (a_net_spin cs), ce_J (rA 2) (kA 2) 8 zp.2.1, ce_mak rA zp.2.2.1 zp.2.2.2.1 zp.2.2.2.2.1, ce_fac rA (a_fac_count cs) (a_fac_left cs), ce_J (rA 5) (kA 5) 40 (a_pri cs), ce_rsd rA zp.2.2.2.2.2, ce_num rA (a_num_base cs) (a_num_size cs) (a_num_digitOfW cs) (a_num_tail cs) (a_num_round cs) (a_num_rings cs) (a_num_ringed cs), ce_I (rA 8) (kA 8) 625 (a_mrk cs), ce_fl (rA 9) (a_fl_p cs) (a_fl_q cs) (a_fl_r cs), ce_fl (rA 10) (a_ot_p cs) (a_ot_q cs) (a_ot_r cs), ce_lea rA (a_lea_count cs), ce_J (rA 12) (kA 12) 12 (a_lps cs), ce_J (rA 13) (kA 13) 61 (a_sen cs), ce_J (rA 14) (kA 14) 61 (a_edg cs), ce_J (rA 15) (kA 15) 61 (a_nxt cs), ce_mod rB (a_mod_t ms) (a_mod_n ms) zq.2.1 zq.2.2.1 (a_mod_unitMany ms) zq.2.2.2.1 zq.2.2.2.2.1 (a_mod_unitUsed ms) zq.2.2.2.2.2.1 zq.2.2.2.2.2.2.1 zq.2.2.2.2.2.2.2.1 zq.2.2.2.2.2.2.2.2.1 zq.2.2.2.2.2.2.2.2.2.1 zq.2.2.2.2.2.2.2.2.2.2.1 (a_mod_partMany ms) (a_mod_leftA ms) (a_mod_leftB ms) (a_mod_rootA ms) (a_mod_rootB ms) (a_mod_tail ms) (a_mod_round ms) (a_mod_sum ms) (a_mod_rowMany ms) (a_mod_least ms) (a_mod_leastMany ms) (a_mod_netP ms) (a_mod_netQ ms) (a_mod_netR ms) (a_mod_leapMany ms), ce_J (rB 1) (kB 1) 8 zq.2.2.2.2.2.2.2.2.2.2.2.1, ce_J (rB 2) (kB 2) 8 zq.2.2.2.2.2.2.2.2.2.2.2.2, ce_J (rB 3) (kB 3) 6 (a_unitA ms), ce_J (rB 4) (kB 4) 6 (a_unitB ms), ce_J (rB 5) (kB 5) 40 (a_partA ms), ce_J (rB 6) (kB 6) 40 (a_partB ms), ce_J (rB 7) (kB 7) 1000 (a_rowA ms), ce_J (rB 8) (kB 8) 1000 (a_rowB ms), ce_I (rB 9) (kB 9) 1000 (a_rowDigit ms), ce_J (rB 10) (kB 10) 12 (a_leapA ms), ce_J (rB 11) (kB 11) 12 (a_leapB ms), ce_I (rB 12) (kB 12) 3721 (a_fars ms), ce_I (rB 13) (kB 13) 3721 (a_queue ms)]) (va_runV (As := [.int (xs (x3 + (1 : Int32)).toNatClampNeg), .int (xs (x3 + (2 : Int32)).toNatClampNeg), .int (xs (x3 + (3 : Int32)).toNatClampNeg)]) (rest := [.int zp.1]) ⟨hx, hb, hml, hown, hts⟩ (c_X8_inverse l dC dI rB kB H.size (a_mod_t ms) (a_mod_n ms) (a_mod_a ms) (a_mod_b ms) (a_mod_unitMany ms) (a_mod_quotA ms) (a_mod_quotB ms) (a_mod_unitUsed ms) (a_mod_fu ms) (a_mod_fuB ms) (a_mod_fv ms) (a_mod_fvB ms) (a_mod_madeA ms) (a_mod_madeB ms) (a_mod_partMany ms) (a_mod_leftA ms) (a_mod_leftB ms) (a_mod_rootA ms) (a_mod_rootB ms) (a_mod_tail ms) (a_mod_round ms) (a_mod_sum ms) (a_mod_rowMany ms) (a_mod_least ms) (a_mod_leastMany ms) (a_mod_netP ms) (a_mod_netQ ms) (a_mod_netR ms) (a_mod_leapMany ms) (a_regA ms) (a_regB ms) (xs (x3 + (1 : Int32)).toNatClampNeg) (xs (x3 + (2 : Int32)).toNatClampNeg) (xs (x3 + (3 : Int32)).toNatClampNeg) hzq) (cwV 3 hts gL_X8_inverse rfl rfl rfl hv_X8_inverse ⟨(Nat.le_of_ble_eq_true rfl), (Nat.le_of_ble_eq_true rfl)⟩) ⟨fb_w, va_recv hK hP (ci := 8) (q0 := 16) rfl rfl, pre_w hPc hDc hKc hN⟩ rfl rfl hl.1 rfl (lv_room (Nat.le_of_ble_eq_true rfl)) dL_law_698 ⟨(Nat.le_of_ble_eq_true rfl), (Nat.le_of_ble_eq_true rfl)⟩) hP hD hS hA [16, 17, 18] [0, 1, 2, 3, 4, 5, 6, 7, 8, 9, 10, 11, 12, 13, 14, 15, 19, 20, 21, 22, 23, 24, 25, 26, 27, 28, 29] [0, 1, 2, 3, 4, 5, 6, 7, 8, 9, 10, 11, 12, 13, 14, 15, 27, 28, 29, 16, 17, 18, 19, 20, 21, 22, 23, 24, 25, 26] rfl rfl rfl (by decide) rfl rfl rfl (fun H locs hP hD hS => ?_)
        refine lv_icmp_eq (tgt := 1298) hx hb dL_law_701 (by decide) (fun c1 => ?_) (fun c1 => absurd hzr c1)
        exact hnext ((a_net_t cs), (a_net_n cs), (a_net_units cs), (a_net_spin cs), zp.2.1, zp.2.2.1, zp.2.2.2.1, zp.2.2.2.2.1, (a_fac_count cs), (a_fac_left cs), (a_pri cs), zp.2.2.2.2.2, (a_num_base cs), (a_num_size cs), (a_num_digitOfW cs), (a_num_tail cs), (a_num_round cs), (a_num_rings cs), (a_num_ringed cs), (a_mrk cs), (a_fl_p cs), (a_fl_q cs), (a_fl_r cs), (a_ot_p cs), (a_ot_q cs), (a_ot_r cs), (a_lea_count cs), (a_lps cs), (a_sen cs), (a_edg cs), (a_nxt cs)) ((a_mod_t ms), (a_mod_n ms), zq.2.1, zq.2.2.1, (a_mod_unitMany ms), zq.2.2.2.1, zq.2.2.2.2.1, (a_mod_unitUsed ms), zq.2.2.2.2.2.1, zq.2.2.2.2.2.2.1, zq.2.2.2.2.2.2.2.1, zq.2.2.2.2.2.2.2.2.1, zq.2.2.2.2.2.2.2.2.2.1, zq.2.2.2.2.2.2.2.2.2.2.1, (a_mod_partMany ms), (a_mod_leftA ms), (a_mod_leftB ms), (a_mod_rootA ms), (a_mod_rootB ms), (a_mod_tail ms), (a_mod_round ms), (a_mod_sum ms), (a_mod_rowMany ms), (a_mod_least ms), (a_mod_leastMany ms), (a_mod_netP ms), (a_mod_netQ ms), (a_mod_netR ms), (a_mod_leapMany ms), zq.2.2.2.2.2.2.2.2.2.2.2.1, zq.2.2.2.2.2.2.2.2.2.2.2.2, (a_unitA ms), (a_unitB ms), (a_partA ms), (a_partB ms), (a_rowA ms), (a_rowB ms), (a_rowDigit ms), (a_leapA ms), (a_leapB ms), (a_fars ms), (a_queue ms)) H locs ls hR hP hD hS hl
      by_cases g_15 : sel = (15 : Int32)
      · refine lv_tableIn (tgt := 706) hx hb dL_law_33 (by rw [g_15]; decide) (by rw [g_15]; decide) (by rw [g_15]; rfl) (by decide) ?_
        clear g_15 hsel
        refine lv_aload_n hx hb dL_law_706 rfl (lv_at hl 2 rfl) ?_
        refine lv_aload_n hx hb dL_law_707 rfl (lv_at hl 1 rfl) ?_
        refine lv_iload_n hx hb dL_law_708 rfl (lv_at hl 0 rfl) ?_
        refine lv_iconst (v := (1 : Int32)) hx hb dL_law_709 (by decide) ?_
        refine lv_iadd hx hb dL_law_710 ?_
        refine va_sld hx hb hX hbl hbA hS hin1 dL_law_711 ?_
        obtain ⟨zp, zq, hzp, hzq, hzr, hR⟩ := hm_single cs ms hR (xs (x3 + (1 : Int32)).toNatClampNeg)
        have hPc := hP.sub (ws' := [ce_pw rA , ce_net rA (a_net_t cs) (a_net_n cs) (a_net_units cs) (a_net_spin cs), ce_J (rA 2) (kA 2) 8 (a_reg cs), ce_fac rA (a_fac_count cs) (a_fac_left cs), ce_J (rA 5) (kA 5) 40 (a_pri cs)]) [0, 1, 2, 4, 5] rfl
        have hKc := hK.sub (tys' := [((kA 2), .long), ((kA 5), .long)]) [0, 1] rfl
        have hDc := hD.sub (ws' := [ce_pw rA , ce_net rA (a_net_t cs) (a_net_n cs) (a_net_units cs) (a_net_spin cs), ce_J (rA 2) (kA 2) 8 (a_reg cs), ce_fac rA (a_fac_count cs) (a_fac_left cs), ce_J (rA 5) (kA 5) 40 (a_pri cs)]) [0, 1, 2, 4, 5] rfl rfl
        refine kw_i (wr := [ce_mak rA (a_mak_common cs) (a_mak_u cs) (a_mak_v cs), ce_rsd rA (a_rsd_found cs), ce_num rA (a_num_base cs) (a_num_size cs) (a_num_digitOfW cs) (a_num_tail cs) (a_num_round cs) (a_num_rings cs) (a_num_ringed cs), ce_I (rA 8) (kA 8) 625 (a_mrk cs), ce_fl (rA 9) (a_fl_p cs) (a_fl_q cs) (a_fl_r cs), ce_fl (rA 10) (a_ot_p cs) (a_ot_q cs) (a_ot_r cs), ce_lea rA (a_lea_count cs), ce_J (rA 12) (kA 12) 12 (a_lps cs), ce_J (rA 13) (kA 13) 61 (a_sen cs), ce_J (rA 14) (kA 14) 61 (a_edg cs), ce_J (rA 15) (kA 15) 61 (a_nxt cs), ce_mod rB (a_mod_t ms) (a_mod_n ms) (a_mod_a ms) (a_mod_b ms) (a_mod_unitMany ms) (a_mod_quotA ms) (a_mod_quotB ms) (a_mod_unitUsed ms) (a_mod_fu ms) (a_mod_fuB ms) (a_mod_fv ms) (a_mod_fvB ms) (a_mod_madeA ms) (a_mod_madeB ms) (a_mod_partMany ms) (a_mod_leftA ms) (a_mod_leftB ms) (a_mod_rootA ms) (a_mod_rootB ms) (a_mod_tail ms) (a_mod_round ms) (a_mod_sum ms) (a_mod_rowMany ms) (a_mod_least ms) (a_mod_leastMany ms) (a_mod_netP ms) (a_mod_netQ ms) (a_mod_netR ms) (a_mod_leapMany ms), ce_J (rB 1) (kB 1) 8 (a_regA ms), ce_J (rB 2) (kB 2) 8 (a_regB ms), ce_J (rB 3) (kB 3) 6 (a_unitA ms), ce_J (rB 4) (kB 4) 6 (a_unitB ms), ce_J (rB 5) (kB 5) 40 (a_partA ms), ce_J (rB 6) (kB 6) 40 (a_partB ms), ce_J (rB 7) (kB 7) 1000 (a_rowA ms), ce_J (rB 8) (kB 8) 1000 (a_rowB ms), ce_I (rB 9) (kB 9) 1000 (a_rowDigit ms), ce_J (rB 10) (kB 10) 12 (a_leapA ms), ce_J (rB 11) (kB 11) 12 (a_leapB ms), ce_I (rB 12) (kB 12) 3721 (a_fars ms), ce_I (rB 13) (kB 13) 3721 (a_queue ms)]) (ws' := [ce_pw rA , ce_net rA (a_net_t cs) (a_net_n cs) (a_net_units cs) (a_net_spin cs), ce_J (rA 2) (kA 2) 8 (a_reg cs), ce_mak rA (a_mak_common cs) (a_mak_u cs) (a_mak_v cs), ce_fac rA zp.2.1 zp.2.2.1, ce_J (rA 5) (kA 5) 40 zp.2.2.2, ce_rsd rA (a_rsd_found cs), ce_num rA (a_num_base cs) (a_num_size cs) (a_num_digitOfW cs) (a_num_tail cs) (a_num_round cs) (a_num_rings cs) (a_num_ringed cs), ce_I (rA 8) (kA 8) 625 (a_mrk cs), ce_fl (rA 9) (a_fl_p cs) (a_fl_q cs) (a_fl_r cs), ce_fl (rA 10) (a_ot_p cs) (a_ot_q cs) (a_ot_r cs), ce_lea rA (a_lea_count cs), ce_J (rA 12) (kA 12) 12 (a_lps cs), ce_J (rA 13) (kA 13) 61 (a_sen cs), ce_J (rA 14) (kA 14) 61 (a_edg cs), ce_J (rA 15) (kA 15) 61 (a_nxt cs), ce_mod rB (a_mod_t ms) (a_mod_n ms) (a_mod_a ms) (a_mod_b ms) (a_mod_unitMany ms) (a_mod_quotA ms) (a_mod_quotB ms) (a_mod_unitUsed ms) (a_mod_fu ms) (a_mod_fuB ms) (a_mod_fv ms) (a_mod_fvB ms) (a_mod_madeA ms) (a_mod_madeB ms) (a_mod_partMany ms) (a_mod_leftA ms) (a_mod_leftB ms) (a_mod_rootA ms) (a_mod_rootB ms) (a_mod_tail ms) (a_mod_round ms) (a_mod_sum ms) (a_mod_rowMany ms) (a_mod_least ms) (a_mod_leastMany ms) (a_mod_netP ms) (a_mod_netQ ms) (a_mod_netR ms) (a_mod_leapMany ms), ce_J (rB 1) (kB 1) 8 (a_regA ms), ce_J (rB 2) (kB 2) 8 (a_regB ms), ce_J (rB 3) (kB 3) 6 (a_unitA ms), ce_J (rB 4) (kB 4) 6 (a_unitB ms), ce_J (rB 5) (kB 5) 40 (a_partA ms), ce_J (rB 6) (kB 6) 40 (a_partB ms), ce_J (rB 7) (kB 7) 1000 (a_rowA ms), ce_J (rB 8) (kB 8) 1000 (a_rowB ms), ce_I (rB 9) (kB 9) 1000 (a_rowDigit ms), ce_J (rB 10) (kB 10) 12 (a_leapA ms), ce_J (rB 11) (kB 11) 12 (a_leapB ms), ce_I (rB 12) (kB 12) 3721 (a_fars ms), ce_I (rB 13) (kB 13) 3721 (a_queue ms)]) (va_runV (As := [.int (xs (x3 + (1 : Int32)).toNatClampNeg)]) (rest := []) ⟨hx, hb, hml, hown, hts⟩ (c_X7_single l dC dI rA kA H.size (a_net_t cs) (a_net_n cs) (a_net_units cs) (a_net_spin cs) (a_reg cs) (a_fac_count cs) (a_fac_left cs) (a_pri cs) (xs (x3 + (1 : Int32)).toNatClampNeg) hzp) (cwV 1 hts gL_X7_single rfl rfl rfl hv_X7_single ⟨(Nat.le_of_ble_eq_true rfl), (Nat.le_of_ble_eq_true rfl)⟩) ⟨fb_w, va_recv hK hP (ci := 7) (q0 := 0) rfl rfl, pre_w hPc hDc hKc hN⟩ rfl rfl hl.1 rfl (lv_room (Nat.le_of_ble_eq_true rfl)) dL_law_712 ⟨(Nat.le_of_ble_eq_true rfl), (Nat.le_of_ble_eq_true rfl)⟩) hP hD hS hA [0, 1, 2, 4, 5] [3, 6, 7, 8, 9, 10, 11, 12, 13, 14, 15, 16, 17, 18, 19, 20, 21, 22, 23, 24, 25, 26, 27, 28, 29] [25, 26, 27, 0, 28, 29, 1, 2, 3, 4, 5, 6, 7, 8, 9, 10, 11, 12, 13, 14, 15, 16, 17, 18, 19, 20, 21, 22, 23, 24] rfl rfl rfl (by decide) rfl rfl rfl (fun H locs hP hD hS => ?_)
        refine lv_aload_n hx hb dL_law_715 rfl (lv_at hl 3 rfl) ?_
        refine lv_aload_n hx hb dL_law_716 rfl (lv_at hl 1 rfl) ?_
        refine lv_iload_n hx hb dL_law_717 rfl (lv_at hl 0 rfl) ?_
        refine lv_iconst (v := (1 : Int32)) hx hb dL_law_718 (by decide) ?_
        refine lv_iadd hx hb dL_law_719 ?_
        refine va_sld hx hb hX hbl hbA hS hin1 dL_law_720 ?_
        have hPc := hP.sub (ws' := [ce_mod rB (a_mod_t ms) (a_mod_n ms) (a_mod_a ms) (a_mod_b ms) (a_mod_unitMany ms) (a_mod_quotA ms) (a_mod_quotB ms) (a_mod_unitUsed ms) (a_mod_fu ms) (a_mod_fuB ms) (a_mod_fv ms) (a_mod_fvB ms) (a_mod_madeA ms) (a_mod_madeB ms) (a_mod_partMany ms) (a_mod_leftA ms) (a_mod_leftB ms) (a_mod_rootA ms) (a_mod_rootB ms) (a_mod_tail ms) (a_mod_round ms) (a_mod_sum ms) (a_mod_rowMany ms) (a_mod_least ms) (a_mod_leastMany ms) (a_mod_netP ms) (a_mod_netQ ms) (a_mod_netR ms) (a_mod_leapMany ms), ce_J (rB 1) (kB 1) 8 (a_regA ms), ce_J (rB 2) (kB 2) 8 (a_regB ms), ce_J (rB 3) (kB 3) 6 (a_unitA ms), ce_J (rB 4) (kB 4) 6 (a_unitB ms), ce_J (rB 5) (kB 5) 40 (a_partA ms), ce_J (rB 6) (kB 6) 40 (a_partB ms)]) [16, 17, 18, 19, 20, 21, 22] rfl
        have hKc := hK.sub (tys' := [((kB 1), .long), ((kB 2), .long), ((kB 3), .long), ((kB 4), .long), ((kB 5), .long), ((kB 6), .long)]) [7, 8, 9, 10, 11, 12] rfl
        have hDc := hD.sub (ws' := [ce_mod rB (a_mod_t ms) (a_mod_n ms) (a_mod_a ms) (a_mod_b ms) (a_mod_unitMany ms) (a_mod_quotA ms) (a_mod_quotB ms) (a_mod_unitUsed ms) (a_mod_fu ms) (a_mod_fuB ms) (a_mod_fv ms) (a_mod_fvB ms) (a_mod_madeA ms) (a_mod_madeB ms) (a_mod_partMany ms) (a_mod_leftA ms) (a_mod_leftB ms) (a_mod_rootA ms) (a_mod_rootB ms) (a_mod_tail ms) (a_mod_round ms) (a_mod_sum ms) (a_mod_rowMany ms) (a_mod_least ms) (a_mod_leastMany ms) (a_mod_netP ms) (a_mod_netQ ms) (a_mod_netR ms) (a_mod_leapMany ms), ce_J (rB 1) (kB 1) 8 (a_regA ms), ce_J (rB 2) (kB 2) 8 (a_regB ms), ce_J (rB 3) (kB 3) 6 (a_unitA ms), ce_J (rB 4) (kB 4) 6 (a_unitB ms), ce_J (rB 5) (kB 5) 40 (a_partA ms), ce_J (rB 6) (kB 6) 40 (a_partB ms)]) [16, 17, 18, 19, 20, 21, 22] rfl rfl
        refine kw_i (wr := [ce_pw rA , ce_net rA (a_net_t cs) (a_net_n cs) (a_net_units cs) (a_net_spin cs), ce_J (rA 2) (kA 2) 8 (a_reg cs), ce_mak rA (a_mak_common cs) (a_mak_u cs) (a_mak_v cs), ce_fac rA zp.2.1 zp.2.2.1, ce_J (rA 5) (kA 5) 40 zp.2.2.2, ce_rsd rA (a_rsd_found cs), ce_num rA (a_num_base cs) (a_num_size cs) (a_num_digitOfW cs) (a_num_tail cs) (a_num_round cs) (a_num_rings cs) (a_num_ringed cs), ce_I (rA 8) (kA 8) 625 (a_mrk cs), ce_fl (rA 9) (a_fl_p cs) (a_fl_q cs) (a_fl_r cs), ce_fl (rA 10) (a_ot_p cs) (a_ot_q cs) (a_ot_r cs), ce_lea rA (a_lea_count cs), ce_J (rA 12) (kA 12) 12 (a_lps cs), ce_J (rA 13) (kA 13) 61 (a_sen cs), ce_J (rA 14) (kA 14) 61 (a_edg cs), ce_J (rA 15) (kA 15) 61 (a_nxt cs), ce_J (rB 7) (kB 7) 1000 (a_rowA ms), ce_J (rB 8) (kB 8) 1000 (a_rowB ms), ce_I (rB 9) (kB 9) 1000 (a_rowDigit ms), ce_J (rB 10) (kB 10) 12 (a_leapA ms), ce_J (rB 11) (kB 11) 12 (a_leapB ms), ce_I (rB 12) (kB 12) 3721 (a_fars ms), ce_I (rB 13) (kB 13) 3721 (a_queue ms)]) (ws' := [ce_pw rA , ce_net rA (a_net_t cs) (a_net_n cs) (a_net_units cs) (a_net_spin cs), ce_J (rA 2) (kA 2) 8 (a_reg cs), ce_mak rA (a_mak_common cs) (a_mak_u cs) (a_mak_v cs), ce_fac rA zp.2.1 zp.2.2.1, ce_J (rA 5) (kA 5) 40 zp.2.2.2, ce_rsd rA (a_rsd_found cs), ce_num rA (a_num_base cs) (a_num_size cs) (a_num_digitOfW cs) (a_num_tail cs) (a_num_round cs) (a_num_rings cs) (a_num_ringed cs), ce_I (rA 8) (kA 8) 625 (a_mrk cs), ce_fl (rA 9) (a_fl_p cs) (a_fl_q cs) (a_fl_r cs), ce_fl (rA 10) (a_ot_p cs) (a_ot_q cs) (a_ot_r cs), ce_lea rA (a_lea_count cs), ce_J (rA 12) (kA 12) 12 (a_lps cs), ce_J (rA 13) (kA 13) 61 (a_sen cs), ce_J (rA 14) (kA 14) 61 (a_edg cs), ce_J (rA 15) (kA 15) 61 (a_nxt cs), ce_mod rB (a_mod_t ms) (a_mod_n ms) zq.2.1 zq.2.2.1 (a_mod_unitMany ms) zq.2.2.2.1 zq.2.2.2.2.1 zq.2.2.2.2.2.1 (a_mod_fu ms) (a_mod_fuB ms) (a_mod_fv ms) (a_mod_fvB ms) (a_mod_madeA ms) (a_mod_madeB ms) zq.2.2.2.2.2.2.1 zq.2.2.2.2.2.2.2.1 zq.2.2.2.2.2.2.2.2.1 (a_mod_rootA ms) (a_mod_rootB ms) (a_mod_tail ms) (a_mod_round ms) (a_mod_sum ms) (a_mod_rowMany ms) (a_mod_least ms) (a_mod_leastMany ms) (a_mod_netP ms) (a_mod_netQ ms) (a_mod_netR ms) (a_mod_leapMany ms), ce_J (rB 1) (kB 1) 8 (a_regA ms), ce_J (rB 2) (kB 2) 8 (a_regB ms), ce_J (rB 3) (kB 3) 6 (a_unitA ms), ce_J (rB 4) (kB 4) 6 (a_unitB ms), ce_J (rB 5) (kB 5) 40 zq.2.2.2.2.2.2.2.2.2.1, ce_J (rB 6) (kB 6) 40 zq.2.2.2.2.2.2.2.2.2.2, ce_J (rB 7) (kB 7) 1000 (a_rowA ms), ce_J (rB 8) (kB 8) 1000 (a_rowB ms), ce_I (rB 9) (kB 9) 1000 (a_rowDigit ms), ce_J (rB 10) (kB 10) 12 (a_leapA ms), ce_J (rB 11) (kB 11) 12 (a_leapB ms), ce_I (rB 12) (kB 12) 3721 (a_fars ms), ce_I (rB 13) (kB 13) 3721 (a_queue ms)]) (va_runV (As := [.int (xs (x3 + (1 : Int32)).toNatClampNeg)]) (rest := [.int zp.1]) ⟨hx, hb, hml, hown, hts⟩ (c_X8_single l dC dI rB kB H.size (a_mod_t ms) (a_mod_n ms) (a_mod_a ms) (a_mod_b ms) (a_mod_unitMany ms) (a_mod_quotA ms) (a_mod_quotB ms) (a_mod_unitUsed ms) (a_mod_fu ms) (a_mod_fuB ms) (a_mod_fv ms) (a_mod_fvB ms) (a_mod_madeA ms) (a_mod_madeB ms) (a_mod_partMany ms) (a_mod_leftA ms) (a_mod_leftB ms) (a_mod_rootA ms) (a_mod_rootB ms) (a_mod_tail ms) (a_mod_round ms) (a_mod_sum ms) (a_mod_rowMany ms) (a_mod_least ms) (a_mod_leastMany ms) (a_mod_netP ms) (a_mod_netQ ms) (a_mod_netR ms) (a_mod_leapMany ms) (a_regA ms) (a_regB ms) (a_unitA ms) (a_unitB ms) (a_partA ms) (a_partB ms) (xs (x3 + (1 : Int32)).toNatClampNeg) hzq) (cwV 1 hts gL_X8_single rfl rfl rfl hv_X8_single ⟨(Nat.le_of_ble_eq_true rfl), (Nat.le_of_ble_eq_true rfl)⟩) ⟨fb_w, va_recv hK hP (ci := 8) (q0 := 16) rfl rfl, pre_w hPc hDc hKc hN⟩ rfl rfl hl.1 rfl (lv_room (Nat.le_of_ble_eq_true rfl)) dL_law_721 ⟨(Nat.le_of_ble_eq_true rfl), (Nat.le_of_ble_eq_true rfl)⟩) hP hD hS hA [16, 17, 18, 19, 20, 21, 22] [0, 1, 2, 3, 4, 5, 6, 7, 8, 9, 10, 11, 12, 13, 14, 15, 23, 24, 25, 26, 27, 28, 29] [0, 1, 2, 3, 4, 5, 6, 7, 8, 9, 10, 11, 12, 13, 14, 15, 23, 24, 25, 26, 27, 28, 29, 16, 17, 18, 19, 20, 21, 22] rfl rfl rfl (by decide) rfl rfl rfl (fun H locs hP hD hS => ?_)
        refine lv_icmp_eq (tgt := 1298) hx hb dL_law_724 (by decide) (fun c1 => ?_) (fun c1 => absurd hzr c1)
        exact hnext ((a_net_t cs), (a_net_n cs), (a_net_units cs), (a_net_spin cs), (a_reg cs), (a_mak_common cs), (a_mak_u cs), (a_mak_v cs), zp.2.1, zp.2.2.1, zp.2.2.2, (a_rsd_found cs), (a_num_base cs), (a_num_size cs), (a_num_digitOfW cs), (a_num_tail cs), (a_num_round cs), (a_num_rings cs), (a_num_ringed cs), (a_mrk cs), (a_fl_p cs), (a_fl_q cs), (a_fl_r cs), (a_ot_p cs), (a_ot_q cs), (a_ot_r cs), (a_lea_count cs), (a_lps cs), (a_sen cs), (a_edg cs), (a_nxt cs)) ((a_mod_t ms), (a_mod_n ms), zq.2.1, zq.2.2.1, (a_mod_unitMany ms), zq.2.2.2.1, zq.2.2.2.2.1, zq.2.2.2.2.2.1, (a_mod_fu ms), (a_mod_fuB ms), (a_mod_fv ms), (a_mod_fvB ms), (a_mod_madeA ms), (a_mod_madeB ms), zq.2.2.2.2.2.2.1, zq.2.2.2.2.2.2.2.1, zq.2.2.2.2.2.2.2.2.1, (a_mod_rootA ms), (a_mod_rootB ms), (a_mod_tail ms), (a_mod_round ms), (a_mod_sum ms), (a_mod_rowMany ms), (a_mod_least ms), (a_mod_leastMany ms), (a_mod_netP ms), (a_mod_netQ ms), (a_mod_netR ms), (a_mod_leapMany ms), (a_regA ms), (a_regB ms), (a_unitA ms), (a_unitB ms), zq.2.2.2.2.2.2.2.2.2.1, zq.2.2.2.2.2.2.2.2.2.2, (a_rowA ms), (a_rowB ms), (a_rowDigit ms), (a_leapA ms), (a_leapB ms), (a_fars ms), (a_queue ms)) H locs ls hR hP hD hS hl
      by_cases g_16 : sel = (16 : Int32)
      · refine lv_tableIn (tgt := 729) hx hb dL_law_33 (by rw [g_16]; decide) (by rw [g_16]; decide) (by rw [g_16]; rfl) (by decide) ?_
        clear g_16 hsel
        refine lv_aload_n hx hb dL_law_729 rfl (lv_at hl 2 rfl) ?_
        refine lv_aload_n hx hb dL_law_730 rfl (lv_at hl 1 rfl) ?_
        refine lv_iload_n hx hb dL_law_731 rfl (lv_at hl 0 rfl) ?_
        refine lv_iconst (v := (1 : Int32)) hx hb dL_law_732 (by decide) ?_
        refine lv_iadd hx hb dL_law_733 ?_
        refine va_sld hx hb hX hbl hbA hS hin1 dL_law_734 ?_
        refine lv_aload_n hx hb dL_law_735 rfl (lv_at hl 1 rfl) ?_
        refine lv_iload_n hx hb dL_law_736 rfl (lv_at hl 0 rfl) ?_
        refine lv_iconst (v := (2 : Int32)) hx hb dL_law_737 (by decide) ?_
        refine lv_iadd hx hb dL_law_738 ?_
        refine va_sld hx hb hX hbl hbA hS hin2 dL_law_739 ?_
        obtain ⟨zp, zq, hzp, hzq, hzr, hR⟩ := hm_roots cs ms hR (xs (x3 + (1 : Int32)).toNatClampNeg) (xs (x3 + (2 : Int32)).toNatClampNeg)
        have hPc := hP.sub (ws' := [ce_pw rA , ce_net rA (a_net_t cs) (a_net_n cs) (a_net_units cs) (a_net_spin cs), ce_J (rA 2) (kA 2) 8 (a_reg cs), ce_rsd rA (a_rsd_found cs)]) [0, 1, 2, 6] rfl
        have hKc := hK.sub (tys' := [((kA 2), .long)]) [0] rfl
        have hDc := hD.sub (ws' := [ce_pw rA , ce_net rA (a_net_t cs) (a_net_n cs) (a_net_units cs) (a_net_spin cs), ce_J (rA 2) (kA 2) 8 (a_reg cs), ce_rsd rA (a_rsd_found cs)]) [0, 1, 2, 6] rfl rfl
        refine kw_i (wr := [ce_mak rA (a_mak_common cs) (a_mak_u cs) (a_mak_v cs), ce_fac rA (a_fac_count cs) (a_fac_left cs), ce_J (rA 5) (kA 5) 40 (a_pri cs), ce_num rA (a_num_base cs) (a_num_size cs) (a_num_digitOfW cs) (a_num_tail cs) (a_num_round cs) (a_num_rings cs) (a_num_ringed cs), ce_I (rA 8) (kA 8) 625 (a_mrk cs), ce_fl (rA 9) (a_fl_p cs) (a_fl_q cs) (a_fl_r cs), ce_fl (rA 10) (a_ot_p cs) (a_ot_q cs) (a_ot_r cs), ce_lea rA (a_lea_count cs), ce_J (rA 12) (kA 12) 12 (a_lps cs), ce_J (rA 13) (kA 13) 61 (a_sen cs), ce_J (rA 14) (kA 14) 61 (a_edg cs), ce_J (rA 15) (kA 15) 61 (a_nxt cs), ce_mod rB (a_mod_t ms) (a_mod_n ms) (a_mod_a ms) (a_mod_b ms) (a_mod_unitMany ms) (a_mod_quotA ms) (a_mod_quotB ms) (a_mod_unitUsed ms) (a_mod_fu ms) (a_mod_fuB ms) (a_mod_fv ms) (a_mod_fvB ms) (a_mod_madeA ms) (a_mod_madeB ms) (a_mod_partMany ms) (a_mod_leftA ms) (a_mod_leftB ms) (a_mod_rootA ms) (a_mod_rootB ms) (a_mod_tail ms) (a_mod_round ms) (a_mod_sum ms) (a_mod_rowMany ms) (a_mod_least ms) (a_mod_leastMany ms) (a_mod_netP ms) (a_mod_netQ ms) (a_mod_netR ms) (a_mod_leapMany ms), ce_J (rB 1) (kB 1) 8 (a_regA ms), ce_J (rB 2) (kB 2) 8 (a_regB ms), ce_J (rB 3) (kB 3) 6 (a_unitA ms), ce_J (rB 4) (kB 4) 6 (a_unitB ms), ce_J (rB 5) (kB 5) 40 (a_partA ms), ce_J (rB 6) (kB 6) 40 (a_partB ms), ce_J (rB 7) (kB 7) 1000 (a_rowA ms), ce_J (rB 8) (kB 8) 1000 (a_rowB ms), ce_I (rB 9) (kB 9) 1000 (a_rowDigit ms), ce_J (rB 10) (kB 10) 12 (a_leapA ms), ce_J (rB 11) (kB 11) 12 (a_leapB ms), ce_I (rB 12) (kB 12) 3721 (a_fars ms), ce_I (rB 13) (kB 13) 3721 (a_queue ms)]) (ws' := [ce_pw rA , ce_net rA (a_net_t cs) (a_net_n cs) (a_net_units cs) (a_net_spin cs), ce_J (rA 2) (kA 2) 8 (a_reg cs), ce_mak rA (a_mak_common cs) (a_mak_u cs) (a_mak_v cs), ce_fac rA (a_fac_count cs) (a_fac_left cs), ce_J (rA 5) (kA 5) 40 (a_pri cs), ce_rsd rA zp.2, ce_num rA (a_num_base cs) (a_num_size cs) (a_num_digitOfW cs) (a_num_tail cs) (a_num_round cs) (a_num_rings cs) (a_num_ringed cs), ce_I (rA 8) (kA 8) 625 (a_mrk cs), ce_fl (rA 9) (a_fl_p cs) (a_fl_q cs) (a_fl_r cs), ce_fl (rA 10) (a_ot_p cs) (a_ot_q cs) (a_ot_r cs), ce_lea rA (a_lea_count cs), ce_J (rA 12) (kA 12) 12 (a_lps cs), ce_J (rA 13) (kA 13) 61 (a_sen cs), ce_J (rA 14) (kA 14) 61 (a_edg cs), ce_J (rA 15) (kA 15) 61 (a_nxt cs), ce_mod rB (a_mod_t ms) (a_mod_n ms) (a_mod_a ms) (a_mod_b ms) (a_mod_unitMany ms) (a_mod_quotA ms) (a_mod_quotB ms) (a_mod_unitUsed ms) (a_mod_fu ms) (a_mod_fuB ms) (a_mod_fv ms) (a_mod_fvB ms) (a_mod_madeA ms) (a_mod_madeB ms) (a_mod_partMany ms) (a_mod_leftA ms) (a_mod_leftB ms) (a_mod_rootA ms) (a_mod_rootB ms) (a_mod_tail ms) (a_mod_round ms) (a_mod_sum ms) (a_mod_rowMany ms) (a_mod_least ms) (a_mod_leastMany ms) (a_mod_netP ms) (a_mod_netQ ms) (a_mod_netR ms) (a_mod_leapMany ms), ce_J (rB 1) (kB 1) 8 (a_regA ms), ce_J (rB 2) (kB 2) 8 (a_regB ms), ce_J (rB 3) (kB 3) 6 (a_unitA ms), ce_J (rB 4) (kB 4) 6 (a_unitB ms), ce_J (rB 5) (kB 5) 40 (a_partA ms), ce_J (rB 6) (kB 6) 40 (a_partB ms), ce_J (rB 7) (kB 7) 1000 (a_rowA ms), ce_J (rB 8) (kB 8) 1000 (a_rowB ms), ce_I (rB 9) (kB 9) 1000 (a_rowDigit ms), ce_J (rB 10) (kB 10) 12 (a_leapA ms), ce_J (rB 11) (kB 11) 12 (a_leapB ms), ce_I (rB 12) (kB 12) 3721 (a_fars ms), ce_I (rB 13) (kB 13) 3721 (a_queue ms)]) (va_runV (As := [.int (xs (x3 + (1 : Int32)).toNatClampNeg), .int (xs (x3 + (2 : Int32)).toNatClampNeg)]) (rest := []) ⟨hx, hb, hml, hown, hts⟩ (c_X7_roots l dC dI rA kA H.size (a_net_t cs) (a_net_n cs) (a_net_units cs) (a_net_spin cs) (a_reg cs) (a_rsd_found cs) (xs (x3 + (1 : Int32)).toNatClampNeg) (xs (x3 + (2 : Int32)).toNatClampNeg) hzp) (cwV 2 hts gL_X7_roots rfl rfl rfl hv_X7_roots ⟨(Nat.le_of_ble_eq_true rfl), (Nat.le_of_ble_eq_true rfl)⟩) ⟨fb_w, va_recv hK hP (ci := 7) (q0 := 0) rfl rfl, pre_w hPc hDc hKc hN⟩ rfl rfl hl.1 rfl (lv_room (Nat.le_of_ble_eq_true rfl)) dL_law_740 ⟨(Nat.le_of_ble_eq_true rfl), (Nat.le_of_ble_eq_true rfl)⟩) hP hD hS hA [0, 1, 2, 6] [3, 4, 5, 7, 8, 9, 10, 11, 12, 13, 14, 15, 16, 17, 18, 19, 20, 21, 22, 23, 24, 25, 26, 27, 28, 29] [26, 27, 28, 0, 1, 2, 29, 3, 4, 5, 6, 7, 8, 9, 10, 11, 12, 13, 14, 15, 16, 17, 18, 19, 20, 21, 22, 23, 24, 25] rfl rfl rfl (by decide) rfl rfl rfl (fun H locs hP hD hS => ?_)
        refine lv_aload_n hx hb dL_law_743 rfl (lv_at hl 3 rfl) ?_
        refine lv_aload_n hx hb dL_law_744 rfl (lv_at hl 1 rfl) ?_
        refine lv_iload_n hx hb dL_law_745 rfl (lv_at hl 0 rfl) ?_
        refine lv_iconst (v := (1 : Int32)) hx hb dL_law_746 (by decide) ?_
        refine lv_iadd hx hb dL_law_747 ?_
        refine va_sld hx hb hX hbl hbA hS hin1 dL_law_748 ?_
        refine lv_aload_n hx hb dL_law_749 rfl (lv_at hl 1 rfl) ?_
        refine lv_iload_n hx hb dL_law_750 rfl (lv_at hl 0 rfl) ?_
        refine lv_iconst (v := (2 : Int32)) hx hb dL_law_751 (by decide) ?_
        refine lv_iadd hx hb dL_law_752 ?_
        refine va_sld hx hb hX hbl hbA hS hin2 dL_law_753 ?_
        have hPc := hP.sub (ws' := [ce_mod rB (a_mod_t ms) (a_mod_n ms) (a_mod_a ms) (a_mod_b ms) (a_mod_unitMany ms) (a_mod_quotA ms) (a_mod_quotB ms) (a_mod_unitUsed ms) (a_mod_fu ms) (a_mod_fuB ms) (a_mod_fv ms) (a_mod_fvB ms) (a_mod_madeA ms) (a_mod_madeB ms) (a_mod_partMany ms) (a_mod_leftA ms) (a_mod_leftB ms) (a_mod_rootA ms) (a_mod_rootB ms) (a_mod_tail ms) (a_mod_round ms) (a_mod_sum ms) (a_mod_rowMany ms) (a_mod_least ms) (a_mod_leastMany ms) (a_mod_netP ms) (a_mod_netQ ms) (a_mod_netR ms) (a_mod_leapMany ms), ce_J (rB 1) (kB 1) 8 (a_regA ms), ce_J (rB 2) (kB 2) 8 (a_regB ms)]) [16, 17, 18] rfl
        have hKc := hK.sub (tys' := [((kB 1), .long), ((kB 2), .long)]) [7, 8] rfl
        have hDc := hD.sub (ws' := [ce_mod rB (a_mod_t ms) (a_mod_n ms) (a_mod_a ms) (a_mod_b ms) (a_mod_unitMany ms) (a_mod_quotA ms) (a_mod_quotB ms) (a_mod_unitUsed ms) (a_mod_fu ms) (a_mod_fuB ms) (a_mod_fv ms) (a_mod_fvB ms) (a_mod_madeA ms) (a_mod_madeB ms) (a_mod_partMany ms) (a_mod_leftA ms) (a_mod_leftB ms) (a_mod_rootA ms) (a_mod_rootB ms) (a_mod_tail ms) (a_mod_round ms) (a_mod_sum ms) (a_mod_rowMany ms) (a_mod_least ms) (a_mod_leastMany ms) (a_mod_netP ms) (a_mod_netQ ms) (a_mod_netR ms) (a_mod_leapMany ms), ce_J (rB 1) (kB 1) 8 (a_regA ms), ce_J (rB 2) (kB 2) 8 (a_regB ms)]) [16, 17, 18] rfl rfl
        refine kw_i (wr := [ce_pw rA , ce_net rA (a_net_t cs) (a_net_n cs) (a_net_units cs) (a_net_spin cs), ce_J (rA 2) (kA 2) 8 (a_reg cs), ce_mak rA (a_mak_common cs) (a_mak_u cs) (a_mak_v cs), ce_fac rA (a_fac_count cs) (a_fac_left cs), ce_J (rA 5) (kA 5) 40 (a_pri cs), ce_rsd rA zp.2, ce_num rA (a_num_base cs) (a_num_size cs) (a_num_digitOfW cs) (a_num_tail cs) (a_num_round cs) (a_num_rings cs) (a_num_ringed cs), ce_I (rA 8) (kA 8) 625 (a_mrk cs), ce_fl (rA 9) (a_fl_p cs) (a_fl_q cs) (a_fl_r cs), ce_fl (rA 10) (a_ot_p cs) (a_ot_q cs) (a_ot_r cs), ce_lea rA (a_lea_count cs), ce_J (rA 12) (kA 12) 12 (a_lps cs), ce_J (rA 13) (kA 13) 61 (a_sen cs), ce_J (rA 14) (kA 14) 61 (a_edg cs), ce_J (rA 15) (kA 15) 61 (a_nxt cs), ce_J (rB 3) (kB 3) 6 (a_unitA ms), ce_J (rB 4) (kB 4) 6 (a_unitB ms), ce_J (rB 5) (kB 5) 40 (a_partA ms), ce_J (rB 6) (kB 6) 40 (a_partB ms), ce_J (rB 7) (kB 7) 1000 (a_rowA ms), ce_J (rB 8) (kB 8) 1000 (a_rowB ms), ce_I (rB 9) (kB 9) 1000 (a_rowDigit ms), ce_J (rB 10) (kB 10) 12 (a_leapA ms), ce_J (rB 11) (kB 11) 12 (a_leapB ms), ce_I (rB 12) (kB 12) 3721 (a_fars ms), ce_I (rB 13) (kB 13) 3721 (a_queue ms)]) (ws' := [ce_pw rA , ce_net rA (a_net_t cs) (a_net_n cs) (a_net_units cs) (a_net_spin cs), ce_J (rA 2) (kA 2) 8 (a_reg cs), ce_mak rA (a_mak_common cs) (a_mak_u cs) (a_mak_v cs), ce_fac rA (a_fac_count cs) (a_fac_left cs), ce_J (rA 5) (kA 5) 40 (a_pri cs), ce_rsd rA zp.2, ce_num rA (a_num_base cs) (a_num_size cs) (a_num_digitOfW cs) (a_num_tail cs) (a_num_round cs) (a_num_rings cs) (a_num_ringed cs), ce_I (rA 8) (kA 8) 625 (a_mrk cs), ce_fl (rA 9) (a_fl_p cs) (a_fl_q cs) (a_fl_r cs), ce_fl (rA 10) (a_ot_p cs) (a_ot_q cs) (a_ot_r cs), ce_lea rA (a_lea_count cs), ce_J (rA 12) (kA 12) 12 (a_lps cs), ce_J (rA 13) (kA 13) 61 (a_sen cs), ce_J (rA 14) (kA 14) 61 (a_edg cs), ce_J (rA 15) (kA 15) 61 (a_nxt cs), ce_mod rB (a_mod_t ms) (a_mod_n ms) zq.2.1 zq.2.2.1 (a_mod_unitMany ms) zq.2.2.2.1 zq.2.2.2.2.1 (a_mod_unitUsed ms) (a_mod_fu ms) (a_mod_fuB ms) (a_mod_fv ms) (a_mod_fvB ms) (a_mod_madeA ms) (a_mod_madeB ms) (a_mod_partMany ms) (a_mod_leftA ms) (a_mod_leftB ms) zq.2.2.2.2.2.1 zq.2.2.2.2.2.2 (a_mod_tail ms) (a_mod_round ms) (a_mod_sum ms) (a_mod_rowMany ms) (a_mod_least ms) (a_mod_leastMany ms) (a_mod_netP ms) (a_mod_netQ ms) (a_mod_netR ms) (a_mod_leapMany ms), ce_J (rB 1) (kB 1) 8 (a_regA ms), ce_J (rB 2) (kB 2) 8 (a_regB ms), ce_J (rB 3) (kB 3) 6 (a_unitA ms), ce_J (rB 4) (kB 4) 6 (a_unitB ms), ce_J (rB 5) (kB 5) 40 (a_partA ms), ce_J (rB 6) (kB 6) 40 (a_partB ms), ce_J (rB 7) (kB 7) 1000 (a_rowA ms), ce_J (rB 8) (kB 8) 1000 (a_rowB ms), ce_I (rB 9) (kB 9) 1000 (a_rowDigit ms), ce_J (rB 10) (kB 10) 12 (a_leapA ms), ce_J (rB 11) (kB 11) 12 (a_leapB ms), ce_I (rB 12) (kB 12) 3721 (a_fars ms), ce_I (rB 13) (kB 13) 3721 (a_queue ms)]) (va_runV (As := [.int (xs (x3 + (1 : Int32)).toNatClampNeg), .int (xs (x3 + (2 : Int32)).toNatClampNeg)]) (rest := [.int zp.1]) ⟨hx, hb, hml, hown, hts⟩ (c_X8_roots l dC dI rB kB H.size (a_mod_t ms) (a_mod_n ms) (a_mod_a ms) (a_mod_b ms) (a_mod_unitMany ms) (a_mod_quotA ms) (a_mod_quotB ms) (a_mod_unitUsed ms) (a_mod_fu ms) (a_mod_fuB ms) (a_mod_fv ms) (a_mod_fvB ms) (a_mod_madeA ms) (a_mod_madeB ms) (a_mod_partMany ms) (a_mod_leftA ms) (a_mod_leftB ms) (a_mod_rootA ms) (a_mod_rootB ms) (a_mod_tail ms) (a_mod_round ms) (a_mod_sum ms) (a_mod_rowMany ms) (a_mod_least ms) (a_mod_leastMany ms) (a_mod_netP ms) (a_mod_netQ ms) (a_mod_netR ms) (a_mod_leapMany ms) (a_regA ms) (a_regB ms) (xs (x3 + (1 : Int32)).toNatClampNeg) (xs (x3 + (2 : Int32)).toNatClampNeg) hzq) (cwV 2 hts gL_X8_roots rfl rfl rfl hv_X8_roots ⟨(Nat.le_of_ble_eq_true rfl), (Nat.le_of_ble_eq_true rfl)⟩) ⟨fb_w, va_recv hK hP (ci := 8) (q0 := 16) rfl rfl, pre_w hPc hDc hKc hN⟩ rfl rfl hl.1 rfl (lv_room (Nat.le_of_ble_eq_true rfl)) dL_law_754 ⟨(Nat.le_of_ble_eq_true rfl), (Nat.le_of_ble_eq_true rfl)⟩) hP hD hS hA [16, 17, 18] [0, 1, 2, 3, 4, 5, 6, 7, 8, 9, 10, 11, 12, 13, 14, 15, 19, 20, 21, 22, 23, 24, 25, 26, 27, 28, 29] [0, 1, 2, 3, 4, 5, 6, 7, 8, 9, 10, 11, 12, 13, 14, 15, 27, 28, 29, 16, 17, 18, 19, 20, 21, 22, 23, 24, 25, 26] rfl rfl rfl (by decide) rfl rfl rfl (fun H locs hP hD hS => ?_)
        refine lv_icmp_eq (tgt := 1298) hx hb dL_law_757 (by decide) (fun c1 => ?_) (fun c1 => absurd hzr c1)
        exact hnext ((a_net_t cs), (a_net_n cs), (a_net_units cs), (a_net_spin cs), (a_reg cs), (a_mak_common cs), (a_mak_u cs), (a_mak_v cs), (a_fac_count cs), (a_fac_left cs), (a_pri cs), zp.2, (a_num_base cs), (a_num_size cs), (a_num_digitOfW cs), (a_num_tail cs), (a_num_round cs), (a_num_rings cs), (a_num_ringed cs), (a_mrk cs), (a_fl_p cs), (a_fl_q cs), (a_fl_r cs), (a_ot_p cs), (a_ot_q cs), (a_ot_r cs), (a_lea_count cs), (a_lps cs), (a_sen cs), (a_edg cs), (a_nxt cs)) ((a_mod_t ms), (a_mod_n ms), zq.2.1, zq.2.2.1, (a_mod_unitMany ms), zq.2.2.2.1, zq.2.2.2.2.1, (a_mod_unitUsed ms), (a_mod_fu ms), (a_mod_fuB ms), (a_mod_fv ms), (a_mod_fvB ms), (a_mod_madeA ms), (a_mod_madeB ms), (a_mod_partMany ms), (a_mod_leftA ms), (a_mod_leftB ms), zq.2.2.2.2.2.1, zq.2.2.2.2.2.2, (a_mod_tail ms), (a_mod_round ms), (a_mod_sum ms), (a_mod_rowMany ms), (a_mod_least ms), (a_mod_leastMany ms), (a_mod_netP ms), (a_mod_netQ ms), (a_mod_netR ms), (a_mod_leapMany ms), (a_regA ms), (a_regB ms), (a_unitA ms), (a_unitB ms), (a_partA ms), (a_partB ms), (a_rowA ms), (a_rowB ms), (a_rowDigit ms), (a_leapA ms), (a_leapB ms), (a_fars ms), (a_queue ms)) H locs ls hR hP hD hS hl
      by_cases g_17 : sel = (17 : Int32)
      · refine lv_tableIn (tgt := 762) hx hb dL_law_33 (by rw [g_17]; decide) (by rw [g_17]; decide) (by rw [g_17]; rfl) (by decide) ?_
        clear g_17 hsel
        refine lv_aload_n hx hb dL_law_762 rfl (lv_at hl 2 rfl) ?_
        refine lv_aload_n hx hb dL_law_763 rfl (lv_at hl 1 rfl) ?_
        refine lv_iload_n hx hb dL_law_764 rfl (lv_at hl 0 rfl) ?_
        refine lv_iconst (v := (1 : Int32)) hx hb dL_law_765 (by decide) ?_
        refine lv_iadd hx hb dL_law_766 ?_
        refine va_sld hx hb hX hbl hbA hS hin1 dL_law_767 ?_
        refine lv_aload_n hx hb dL_law_768 rfl (lv_at hl 1 rfl) ?_
        refine lv_iload_n hx hb dL_law_769 rfl (lv_at hl 0 rfl) ?_
        refine lv_iconst (v := (2 : Int32)) hx hb dL_law_770 (by decide) ?_
        refine lv_iadd hx hb dL_law_771 ?_
        refine va_sld hx hb hX hbl hbA hS hin2 dL_law_772 ?_
        refine lv_aload_n hx hb dL_law_773 rfl (lv_at hl 1 rfl) ?_
        refine lv_iload_n hx hb dL_law_774 rfl (lv_at hl 0 rfl) ?_
        refine lv_iconst (v := (3 : Int32)) hx hb dL_law_775 (by decide) ?_
        refine lv_iadd hx hb dL_law_776 ?_
        refine va_sld hx hb hX hbl hbA hS hin3 dL_law_777 ?_
        refine lv_aload_n hx hb dL_law_778 rfl (lv_at hl 1 rfl) ?_
        refine lv_iload_n hx hb dL_law_779 rfl (lv_at hl 0 rfl) ?_
        refine lv_iconst (v := (4 : Int32)) hx hb dL_law_780 (by decide) ?_
        refine lv_iadd hx hb dL_law_781 ?_
        refine va_sld hx hb hX hbl hbA hS hin4 dL_law_782 ?_
        obtain ⟨zp, zq, hzp, hzq, hzr, hR⟩ := hm_root cs ms hR (xs (x3 + (1 : Int32)).toNatClampNeg) (xs (x3 + (2 : Int32)).toNatClampNeg) (xs (x3 + (3 : Int32)).toNatClampNeg) (xs (x3 + (4 : Int32)).toNatClampNeg)
        have hPc := hP.sub (ws' := [ce_pw rA , ce_net rA (a_net_t cs) (a_net_n cs) (a_net_units cs) (a_net_spin cs), ce_J (rA 2) (kA 2) 8 (a_reg cs), ce_rsd rA (a_rsd_found cs)]) [0, 1, 2, 6] rfl
        have hKc := hK.sub (tys' := [((kA 2), .long)]) [0] rfl
        have hDc := hD.sub (ws' := [ce_pw rA , ce_net rA (a_net_t cs) (a_net_n cs) (a_net_units cs) (a_net_spin cs), ce_J (rA 2) (kA 2) 8 (a_reg cs), ce_rsd rA (a_rsd_found cs)]) [0, 1, 2, 6] rfl rfl
        refine kw_i (wr := [ce_mak rA (a_mak_common cs) (a_mak_u cs) (a_mak_v cs), ce_fac rA (a_fac_count cs) (a_fac_left cs), ce_J (rA 5) (kA 5) 40 (a_pri cs), ce_num rA (a_num_base cs) (a_num_size cs) (a_num_digitOfW cs) (a_num_tail cs) (a_num_round cs) (a_num_rings cs) (a_num_ringed cs), ce_I (rA 8) (kA 8) 625 (a_mrk cs), ce_fl (rA 9) (a_fl_p cs) (a_fl_q cs) (a_fl_r cs), ce_fl (rA 10) (a_ot_p cs) (a_ot_q cs) (a_ot_r cs), ce_lea rA (a_lea_count cs), ce_J (rA 12) (kA 12) 12 (a_lps cs), ce_J (rA 13) (kA 13) 61 (a_sen cs), ce_J (rA 14) (kA 14) 61 (a_edg cs), ce_J (rA 15) (kA 15) 61 (a_nxt cs), ce_mod rB (a_mod_t ms) (a_mod_n ms) (a_mod_a ms) (a_mod_b ms) (a_mod_unitMany ms) (a_mod_quotA ms) (a_mod_quotB ms) (a_mod_unitUsed ms) (a_mod_fu ms) (a_mod_fuB ms) (a_mod_fv ms) (a_mod_fvB ms) (a_mod_madeA ms) (a_mod_madeB ms) (a_mod_partMany ms) (a_mod_leftA ms) (a_mod_leftB ms) (a_mod_rootA ms) (a_mod_rootB ms) (a_mod_tail ms) (a_mod_round ms) (a_mod_sum ms) (a_mod_rowMany ms) (a_mod_least ms) (a_mod_leastMany ms) (a_mod_netP ms) (a_mod_netQ ms) (a_mod_netR ms) (a_mod_leapMany ms), ce_J (rB 1) (kB 1) 8 (a_regA ms), ce_J (rB 2) (kB 2) 8 (a_regB ms), ce_J (rB 3) (kB 3) 6 (a_unitA ms), ce_J (rB 4) (kB 4) 6 (a_unitB ms), ce_J (rB 5) (kB 5) 40 (a_partA ms), ce_J (rB 6) (kB 6) 40 (a_partB ms), ce_J (rB 7) (kB 7) 1000 (a_rowA ms), ce_J (rB 8) (kB 8) 1000 (a_rowB ms), ce_I (rB 9) (kB 9) 1000 (a_rowDigit ms), ce_J (rB 10) (kB 10) 12 (a_leapA ms), ce_J (rB 11) (kB 11) 12 (a_leapB ms), ce_I (rB 12) (kB 12) 3721 (a_fars ms), ce_I (rB 13) (kB 13) 3721 (a_queue ms)]) (ws' := [ce_pw rA , ce_net rA (a_net_t cs) (a_net_n cs) (a_net_units cs) (a_net_spin cs), ce_J (rA 2) (kA 2) 8 zp.2.1, ce_mak rA (a_mak_common cs) (a_mak_u cs) (a_mak_v cs), ce_fac rA (a_fac_count cs) (a_fac_left cs), ce_J (rA 5) (kA 5) 40 (a_pri cs), ce_rsd rA zp.2.2, ce_num rA (a_num_base cs) (a_num_size cs) (a_num_digitOfW cs) (a_num_tail cs) (a_num_round cs) (a_num_rings cs) (a_num_ringed cs), ce_I (rA 8) (kA 8) 625 (a_mrk cs), ce_fl (rA 9) (a_fl_p cs) (a_fl_q cs) (a_fl_r cs), ce_fl (rA 10) (a_ot_p cs) (a_ot_q cs) (a_ot_r cs), ce_lea rA (a_lea_count cs), ce_J (rA 12) (kA 12) 12 (a_lps cs), ce_J (rA 13) (kA 13) 61 (a_sen cs), ce_J (rA 14) (kA 14) 61 (a_edg cs), ce_J (rA 15) (kA 15) 61 (a_nxt cs), ce_mod rB (a_mod_t ms) (a_mod_n ms) (a_mod_a ms) (a_mod_b ms) (a_mod_unitMany ms) (a_mod_quotA ms) (a_mod_quotB ms) (a_mod_unitUsed ms) (a_mod_fu ms) (a_mod_fuB ms) (a_mod_fv ms) (a_mod_fvB ms) (a_mod_madeA ms) (a_mod_madeB ms) (a_mod_partMany ms) (a_mod_leftA ms) (a_mod_leftB ms) (a_mod_rootA ms) (a_mod_rootB ms) (a_mod_tail ms) (a_mod_round ms) (a_mod_sum ms) (a_mod_rowMany ms) (a_mod_least ms) (a_mod_leastMany ms) (a_mod_netP ms) (a_mod_netQ ms) (a_mod_netR ms) (a_mod_leapMany ms), ce_J (rB 1) (kB 1) 8 (a_regA ms), ce_J (rB 2) (kB 2) 8 (a_regB ms), ce_J (rB 3) (kB 3) 6 (a_unitA ms), ce_J (rB 4) (kB 4) 6 (a_unitB ms), ce_J (rB 5) (kB 5) 40 (a_partA ms), ce_J (rB 6) (kB 6) 40 (a_partB ms), ce_J (rB 7) (kB 7) 1000 (a_rowA ms), ce_J (rB 8) (kB 8) 1000 (a_rowB ms), ce_I (rB 9) (kB 9) 1000 (a_rowDigit ms), ce_J (rB 10) (kB 10) 12 (a_leapA ms), ce_J (rB 11) (kB 11) 12 (a_leapB ms), ce_I (rB 12) (kB 12) 3721 (a_fars ms), ce_I (rB 13) (kB 13) 3721 (a_queue ms)]) (va_runV (As := [.int (xs (x3 + (1 : Int32)).toNatClampNeg), .int (xs (x3 + (2 : Int32)).toNatClampNeg), .int (xs (x3 + (3 : Int32)).toNatClampNeg), .int (xs (x3 + (4 : Int32)).toNatClampNeg)]) (rest := []) ⟨hx, hb, hml, hown, hts⟩ (c_X7_root l dC dI rA kA H.size (a_net_t cs) (a_net_n cs) (a_net_units cs) (a_net_spin cs) (a_reg cs) (a_rsd_found cs) (xs (x3 + (1 : Int32)).toNatClampNeg) (xs (x3 + (2 : Int32)).toNatClampNeg) (xs (x3 + (3 : Int32)).toNatClampNeg) (xs (x3 + (4 : Int32)).toNatClampNeg) hzp) (cwV 4 hts gL_X7_root rfl rfl rfl hv_X7_root ⟨(Nat.le_of_ble_eq_true rfl), (Nat.le_of_ble_eq_true rfl)⟩) ⟨fb_w, va_recv hK hP (ci := 7) (q0 := 0) rfl rfl, pre_w hPc hDc hKc hN⟩ rfl rfl hl.1 rfl (lv_room (Nat.le_of_ble_eq_true rfl)) dL_law_783 ⟨(Nat.le_of_ble_eq_true rfl), (Nat.le_of_ble_eq_true rfl)⟩) hP hD hS hA [0, 1, 2, 6] [3, 4, 5, 7, 8, 9, 10, 11, 12, 13, 14, 15, 16, 17, 18, 19, 20, 21, 22, 23, 24, 25, 26, 27, 28, 29] [26, 27, 28, 0, 1, 2, 29, 3, 4, 5, 6, 7, 8, 9, 10, 11, 12, 13, 14, 15, 16, 17, 18, 19, 20, 21, 22, 23, 24, 25] rfl rfl rfl (by decide) rfl rfl rfl (fun H locs hP hD hS => ?_)
        refine lv_aload_n hx hb dL_law_786 rfl (lv_at hl 3 rfl) ?_
        refine lv_aload_n hx hb dL_law_787 rfl (lv_at hl 1 rfl) ?_
        refine lv_iload_n hx hb dL_law_788 rfl (lv_at hl 0 rfl) ?_
        refine lv_iconst (v := (1 : Int32)) hx hb dL_law_789 (by decide) ?_
        refine lv_iadd hx hb dL_law_790 ?_
        refine va_sld hx hb hX hbl hbA hS hin1 dL_law_791 ?_
        refine lv_aload_n hx hb dL_law_792 rfl (lv_at hl 1 rfl) ?_
        refine lv_iload_n hx hb dL_law_793 rfl (lv_at hl 0 rfl) ?_
        refine lv_iconst (v := (2 : Int32)) hx hb dL_law_794 (by decide) ?_
        refine lv_iadd hx hb dL_law_795 ?_
        refine va_sld hx hb hX hbl hbA hS hin2 dL_law_796 ?_
        refine lv_aload_n hx hb dL_law_797 rfl (lv_at hl 1 rfl) ?_
        refine lv_iload_n hx hb dL_law_798 rfl (lv_at hl 0 rfl) ?_
        refine lv_iconst (v := (3 : Int32)) hx hb dL_law_799 (by decide) ?_
        refine lv_iadd hx hb dL_law_800 ?_
        refine va_sld hx hb hX hbl hbA hS hin3 dL_law_801 ?_
        refine lv_aload_n hx hb dL_law_802 rfl (lv_at hl 1 rfl) ?_
        refine lv_iload_n hx hb dL_law_803 rfl (lv_at hl 0 rfl) ?_
        refine lv_iconst (v := (4 : Int32)) hx hb dL_law_804 (by decide) ?_
        refine lv_iadd hx hb dL_law_805 ?_
        refine va_sld hx hb hX hbl hbA hS hin4 dL_law_806 ?_
        have hPc := hP.sub (ws' := [ce_mod rB (a_mod_t ms) (a_mod_n ms) (a_mod_a ms) (a_mod_b ms) (a_mod_unitMany ms) (a_mod_quotA ms) (a_mod_quotB ms) (a_mod_unitUsed ms) (a_mod_fu ms) (a_mod_fuB ms) (a_mod_fv ms) (a_mod_fvB ms) (a_mod_madeA ms) (a_mod_madeB ms) (a_mod_partMany ms) (a_mod_leftA ms) (a_mod_leftB ms) (a_mod_rootA ms) (a_mod_rootB ms) (a_mod_tail ms) (a_mod_round ms) (a_mod_sum ms) (a_mod_rowMany ms) (a_mod_least ms) (a_mod_leastMany ms) (a_mod_netP ms) (a_mod_netQ ms) (a_mod_netR ms) (a_mod_leapMany ms), ce_J (rB 1) (kB 1) 8 (a_regA ms), ce_J (rB 2) (kB 2) 8 (a_regB ms)]) [16, 17, 18] rfl
        have hKc := hK.sub (tys' := [((kB 1), .long), ((kB 2), .long)]) [7, 8] rfl
        have hDc := hD.sub (ws' := [ce_mod rB (a_mod_t ms) (a_mod_n ms) (a_mod_a ms) (a_mod_b ms) (a_mod_unitMany ms) (a_mod_quotA ms) (a_mod_quotB ms) (a_mod_unitUsed ms) (a_mod_fu ms) (a_mod_fuB ms) (a_mod_fv ms) (a_mod_fvB ms) (a_mod_madeA ms) (a_mod_madeB ms) (a_mod_partMany ms) (a_mod_leftA ms) (a_mod_leftB ms) (a_mod_rootA ms) (a_mod_rootB ms) (a_mod_tail ms) (a_mod_round ms) (a_mod_sum ms) (a_mod_rowMany ms) (a_mod_least ms) (a_mod_leastMany ms) (a_mod_netP ms) (a_mod_netQ ms) (a_mod_netR ms) (a_mod_leapMany ms), ce_J (rB 1) (kB 1) 8 (a_regA ms), ce_J (rB 2) (kB 2) 8 (a_regB ms)]) [16, 17, 18] rfl rfl
        refine kw_i (wr := [ce_pw rA , ce_net rA (a_net_t cs) (a_net_n cs) (a_net_units cs) (a_net_spin cs), ce_J (rA 2) (kA 2) 8 zp.2.1, ce_mak rA (a_mak_common cs) (a_mak_u cs) (a_mak_v cs), ce_fac rA (a_fac_count cs) (a_fac_left cs), ce_J (rA 5) (kA 5) 40 (a_pri cs), ce_rsd rA zp.2.2, ce_num rA (a_num_base cs) (a_num_size cs) (a_num_digitOfW cs) (a_num_tail cs) (a_num_round cs) (a_num_rings cs) (a_num_ringed cs), ce_I (rA 8) (kA 8) 625 (a_mrk cs), ce_fl (rA 9) (a_fl_p cs) (a_fl_q cs) (a_fl_r cs), ce_fl (rA 10) (a_ot_p cs) (a_ot_q cs) (a_ot_r cs), ce_lea rA (a_lea_count cs), ce_J (rA 12) (kA 12) 12 (a_lps cs), ce_J (rA 13) (kA 13) 61 (a_sen cs), ce_J (rA 14) (kA 14) 61 (a_edg cs), ce_J (rA 15) (kA 15) 61 (a_nxt cs), ce_J (rB 3) (kB 3) 6 (a_unitA ms), ce_J (rB 4) (kB 4) 6 (a_unitB ms), ce_J (rB 5) (kB 5) 40 (a_partA ms), ce_J (rB 6) (kB 6) 40 (a_partB ms), ce_J (rB 7) (kB 7) 1000 (a_rowA ms), ce_J (rB 8) (kB 8) 1000 (a_rowB ms), ce_I (rB 9) (kB 9) 1000 (a_rowDigit ms), ce_J (rB 10) (kB 10) 12 (a_leapA ms), ce_J (rB 11) (kB 11) 12 (a_leapB ms), ce_I (rB 12) (kB 12) 3721 (a_fars ms), ce_I (rB 13) (kB 13) 3721 (a_queue ms)]) (ws' := [ce_pw rA , ce_net rA (a_net_t cs) (a_net_n cs) (a_net_units cs) (a_net_spin cs), ce_J (rA 2) (kA 2) 8 zp.2.1, ce_mak rA (a_mak_common cs) (a_mak_u cs) (a_mak_v cs), ce_fac rA (a_fac_count cs) (a_fac_left cs), ce_J (rA 5) (kA 5) 40 (a_pri cs), ce_rsd rA zp.2.2, ce_num rA (a_num_base cs) (a_num_size cs) (a_num_digitOfW cs) (a_num_tail cs) (a_num_round cs) (a_num_rings cs) (a_num_ringed cs), ce_I (rA 8) (kA 8) 625 (a_mrk cs), ce_fl (rA 9) (a_fl_p cs) (a_fl_q cs) (a_fl_r cs), ce_fl (rA 10) (a_ot_p cs) (a_ot_q cs) (a_ot_r cs), ce_lea rA (a_lea_count cs), ce_J (rA 12) (kA 12) 12 (a_lps cs), ce_J (rA 13) (kA 13) 61 (a_sen cs), ce_J (rA 14) (kA 14) 61 (a_edg cs), ce_J (rA 15) (kA 15) 61 (a_nxt cs), ce_mod rB (a_mod_t ms) (a_mod_n ms) zq.2.1 zq.2.2.1 (a_mod_unitMany ms) zq.2.2.2.1 zq.2.2.2.2.1 (a_mod_unitUsed ms) (a_mod_fu ms) (a_mod_fuB ms) (a_mod_fv ms) (a_mod_fvB ms) (a_mod_madeA ms) (a_mod_madeB ms) (a_mod_partMany ms) (a_mod_leftA ms) (a_mod_leftB ms) zq.2.2.2.2.2.1 zq.2.2.2.2.2.2.1 (a_mod_tail ms) (a_mod_round ms) (a_mod_sum ms) (a_mod_rowMany ms) (a_mod_least ms) (a_mod_leastMany ms) (a_mod_netP ms) (a_mod_netQ ms) (a_mod_netR ms) (a_mod_leapMany ms), ce_J (rB 1) (kB 1) 8 zq.2.2.2.2.2.2.2.1, ce_J (rB 2) (kB 2) 8 zq.2.2.2.2.2.2.2.2, ce_J (rB 3) (kB 3) 6 (a_unitA ms), ce_J (rB 4) (kB 4) 6 (a_unitB ms), ce_J (rB 5) (kB 5) 40 (a_partA ms), ce_J (rB 6) (kB 6) 40 (a_partB ms), ce_J (rB 7) (kB 7) 1000 (a_rowA ms), ce_J (rB 8) (kB 8) 1000 (a_rowB ms), ce_I (rB 9) (kB 9) 1000 (a_rowDigit ms), ce_J (rB 10) (kB 10) 12 (a_leapA ms), ce_J (rB 11) (kB 11) 12 (a_leapB ms), ce_I (rB 12) (kB 12) 3721 (a_fars ms), ce_I (rB 13) (kB 13) 3721 (a_queue ms)]) (va_runV (As := [.int (xs (x3 + (1 : Int32)).toNatClampNeg), .int (xs (x3 + (2 : Int32)).toNatClampNeg), .int (xs (x3 + (3 : Int32)).toNatClampNeg), .int (xs (x3 + (4 : Int32)).toNatClampNeg)]) (rest := [.int zp.1]) ⟨hx, hb, hml, hown, hts⟩ (c_X8_root l dC dI rB kB H.size (a_mod_t ms) (a_mod_n ms) (a_mod_a ms) (a_mod_b ms) (a_mod_unitMany ms) (a_mod_quotA ms) (a_mod_quotB ms) (a_mod_unitUsed ms) (a_mod_fu ms) (a_mod_fuB ms) (a_mod_fv ms) (a_mod_fvB ms) (a_mod_madeA ms) (a_mod_madeB ms) (a_mod_partMany ms) (a_mod_leftA ms) (a_mod_leftB ms) (a_mod_rootA ms) (a_mod_rootB ms) (a_mod_tail ms) (a_mod_round ms) (a_mod_sum ms) (a_mod_rowMany ms) (a_mod_least ms) (a_mod_leastMany ms) (a_mod_netP ms) (a_mod_netQ ms) (a_mod_netR ms) (a_mod_leapMany ms) (a_regA ms) (a_regB ms) (xs (x3 + (1 : Int32)).toNatClampNeg) (xs (x3 + (2 : Int32)).toNatClampNeg) (xs (x3 + (3 : Int32)).toNatClampNeg) (xs (x3 + (4 : Int32)).toNatClampNeg) hzq) (cwV 4 hts gL_X8_root rfl rfl rfl hv_X8_root ⟨(Nat.le_of_ble_eq_true rfl), (Nat.le_of_ble_eq_true rfl)⟩) ⟨fb_w, va_recv hK hP (ci := 8) (q0 := 16) rfl rfl, pre_w hPc hDc hKc hN⟩ rfl rfl hl.1 rfl (lv_room (Nat.le_of_ble_eq_true rfl)) dL_law_807 ⟨(Nat.le_of_ble_eq_true rfl), (Nat.le_of_ble_eq_true rfl)⟩) hP hD hS hA [16, 17, 18] [0, 1, 2, 3, 4, 5, 6, 7, 8, 9, 10, 11, 12, 13, 14, 15, 19, 20, 21, 22, 23, 24, 25, 26, 27, 28, 29] [0, 1, 2, 3, 4, 5, 6, 7, 8, 9, 10, 11, 12, 13, 14, 15, 27, 28, 29, 16, 17, 18, 19, 20, 21, 22, 23, 24, 25, 26] rfl rfl rfl (by decide) rfl rfl rfl (fun H locs hP hD hS => ?_)
        refine lv_icmp_eq (tgt := 1298) hx hb dL_law_810 (by decide) (fun c1 => ?_) (fun c1 => absurd hzr c1)
        exact hnext ((a_net_t cs), (a_net_n cs), (a_net_units cs), (a_net_spin cs), zp.2.1, (a_mak_common cs), (a_mak_u cs), (a_mak_v cs), (a_fac_count cs), (a_fac_left cs), (a_pri cs), zp.2.2, (a_num_base cs), (a_num_size cs), (a_num_digitOfW cs), (a_num_tail cs), (a_num_round cs), (a_num_rings cs), (a_num_ringed cs), (a_mrk cs), (a_fl_p cs), (a_fl_q cs), (a_fl_r cs), (a_ot_p cs), (a_ot_q cs), (a_ot_r cs), (a_lea_count cs), (a_lps cs), (a_sen cs), (a_edg cs), (a_nxt cs)) ((a_mod_t ms), (a_mod_n ms), zq.2.1, zq.2.2.1, (a_mod_unitMany ms), zq.2.2.2.1, zq.2.2.2.2.1, (a_mod_unitUsed ms), (a_mod_fu ms), (a_mod_fuB ms), (a_mod_fv ms), (a_mod_fvB ms), (a_mod_madeA ms), (a_mod_madeB ms), (a_mod_partMany ms), (a_mod_leftA ms), (a_mod_leftB ms), zq.2.2.2.2.2.1, zq.2.2.2.2.2.2.1, (a_mod_tail ms), (a_mod_round ms), (a_mod_sum ms), (a_mod_rowMany ms), (a_mod_least ms), (a_mod_leastMany ms), (a_mod_netP ms), (a_mod_netQ ms), (a_mod_netR ms), (a_mod_leapMany ms), zq.2.2.2.2.2.2.2.1, zq.2.2.2.2.2.2.2.2, (a_unitA ms), (a_unitB ms), (a_partA ms), (a_partB ms), (a_rowA ms), (a_rowB ms), (a_rowDigit ms), (a_leapA ms), (a_leapB ms), (a_fars ms), (a_queue ms)) H locs ls hR hP hD hS hl
      by_cases g_18 : sel = (18 : Int32)
      · refine lv_tableIn (tgt := 815) hx hb dL_law_33 (by rw [g_18]; decide) (by rw [g_18]; decide) (by rw [g_18]; rfl) (by decide) ?_
        clear g_18 hsel
        refine lv_aload_n hx hb dL_law_815 rfl (lv_at hl 2 rfl) ?_
        refine lv_aload_n hx hb dL_law_816 rfl (lv_at hl 1 rfl) ?_
        refine lv_iload_n hx hb dL_law_817 rfl (lv_at hl 0 rfl) ?_
        refine lv_iconst (v := (1 : Int32)) hx hb dL_law_818 (by decide) ?_
        refine lv_iadd hx hb dL_law_819 ?_
        refine va_sld hx hb hX hbl hbA hS hin1 dL_law_820 ?_
        refine lv_aload_n hx hb dL_law_821 rfl (lv_at hl 1 rfl) ?_
        refine lv_iload_n hx hb dL_law_822 rfl (lv_at hl 0 rfl) ?_
        refine lv_iconst (v := (2 : Int32)) hx hb dL_law_823 (by decide) ?_
        refine lv_iadd hx hb dL_law_824 ?_
        refine va_sld hx hb hX hbl hbA hS hin2 dL_law_825 ?_
        refine lv_aload_n hx hb dL_law_826 rfl (lv_at hl 1 rfl) ?_
        refine lv_iload_n hx hb dL_law_827 rfl (lv_at hl 0 rfl) ?_
        refine lv_iconst (v := (3 : Int32)) hx hb dL_law_828 (by decide) ?_
        refine lv_iadd hx hb dL_law_829 ?_
        refine va_sld hx hb hX hbl hbA hS hin3 dL_law_830 ?_
        obtain ⟨zp, zq, hzp, hzq, hzr, hR⟩ := hm_digit cs ms hR (xs (x3 + (1 : Int32)).toNatClampNeg) (xs (x3 + (2 : Int32)).toNatClampNeg) (xs (x3 + (3 : Int32)).toNatClampNeg)
        have hPc := hP.sub (ws' := [ce_pw rA , ce_net rA (a_net_t cs) (a_net_n cs) (a_net_units cs) (a_net_spin cs), ce_J (rA 2) (kA 2) 8 (a_reg cs), ce_num rA (a_num_base cs) (a_num_size cs) (a_num_digitOfW cs) (a_num_tail cs) (a_num_round cs) (a_num_rings cs) (a_num_ringed cs)]) [0, 1, 2, 7] rfl
        have hKc := hK.sub (tys' := [((kA 2), .long)]) [0] rfl
        have hDc := hD.sub (ws' := [ce_pw rA , ce_net rA (a_net_t cs) (a_net_n cs) (a_net_units cs) (a_net_spin cs), ce_J (rA 2) (kA 2) 8 (a_reg cs), ce_num rA (a_num_base cs) (a_num_size cs) (a_num_digitOfW cs) (a_num_tail cs) (a_num_round cs) (a_num_rings cs) (a_num_ringed cs)]) [0, 1, 2, 7] rfl rfl
        refine kw_i (wr := [ce_mak rA (a_mak_common cs) (a_mak_u cs) (a_mak_v cs), ce_fac rA (a_fac_count cs) (a_fac_left cs), ce_J (rA 5) (kA 5) 40 (a_pri cs), ce_rsd rA (a_rsd_found cs), ce_I (rA 8) (kA 8) 625 (a_mrk cs), ce_fl (rA 9) (a_fl_p cs) (a_fl_q cs) (a_fl_r cs), ce_fl (rA 10) (a_ot_p cs) (a_ot_q cs) (a_ot_r cs), ce_lea rA (a_lea_count cs), ce_J (rA 12) (kA 12) 12 (a_lps cs), ce_J (rA 13) (kA 13) 61 (a_sen cs), ce_J (rA 14) (kA 14) 61 (a_edg cs), ce_J (rA 15) (kA 15) 61 (a_nxt cs), ce_mod rB (a_mod_t ms) (a_mod_n ms) (a_mod_a ms) (a_mod_b ms) (a_mod_unitMany ms) (a_mod_quotA ms) (a_mod_quotB ms) (a_mod_unitUsed ms) (a_mod_fu ms) (a_mod_fuB ms) (a_mod_fv ms) (a_mod_fvB ms) (a_mod_madeA ms) (a_mod_madeB ms) (a_mod_partMany ms) (a_mod_leftA ms) (a_mod_leftB ms) (a_mod_rootA ms) (a_mod_rootB ms) (a_mod_tail ms) (a_mod_round ms) (a_mod_sum ms) (a_mod_rowMany ms) (a_mod_least ms) (a_mod_leastMany ms) (a_mod_netP ms) (a_mod_netQ ms) (a_mod_netR ms) (a_mod_leapMany ms), ce_J (rB 1) (kB 1) 8 (a_regA ms), ce_J (rB 2) (kB 2) 8 (a_regB ms), ce_J (rB 3) (kB 3) 6 (a_unitA ms), ce_J (rB 4) (kB 4) 6 (a_unitB ms), ce_J (rB 5) (kB 5) 40 (a_partA ms), ce_J (rB 6) (kB 6) 40 (a_partB ms), ce_J (rB 7) (kB 7) 1000 (a_rowA ms), ce_J (rB 8) (kB 8) 1000 (a_rowB ms), ce_I (rB 9) (kB 9) 1000 (a_rowDigit ms), ce_J (rB 10) (kB 10) 12 (a_leapA ms), ce_J (rB 11) (kB 11) 12 (a_leapB ms), ce_I (rB 12) (kB 12) 3721 (a_fars ms), ce_I (rB 13) (kB 13) 3721 (a_queue ms)]) (ws' := [ce_pw rA , ce_net rA (a_net_t cs) (a_net_n cs) (a_net_units cs) (a_net_spin cs), ce_J (rA 2) (kA 2) 8 (a_reg cs), ce_mak rA (a_mak_common cs) (a_mak_u cs) (a_mak_v cs), ce_fac rA (a_fac_count cs) (a_fac_left cs), ce_J (rA 5) (kA 5) 40 (a_pri cs), ce_rsd rA (a_rsd_found cs), ce_num rA zp.2.1 zp.2.2.1 zp.2.2.2.1 zp.2.2.2.2.1 zp.2.2.2.2.2 (a_num_rings cs) (a_num_ringed cs), ce_I (rA 8) (kA 8) 625 (a_mrk cs), ce_fl (rA 9) (a_fl_p cs) (a_fl_q cs) (a_fl_r cs), ce_fl (rA 10) (a_ot_p cs) (a_ot_q cs) (a_ot_r cs), ce_lea rA (a_lea_count cs), ce_J (rA 12) (kA 12) 12 (a_lps cs), ce_J (rA 13) (kA 13) 61 (a_sen cs), ce_J (rA 14) (kA 14) 61 (a_edg cs), ce_J (rA 15) (kA 15) 61 (a_nxt cs), ce_mod rB (a_mod_t ms) (a_mod_n ms) (a_mod_a ms) (a_mod_b ms) (a_mod_unitMany ms) (a_mod_quotA ms) (a_mod_quotB ms) (a_mod_unitUsed ms) (a_mod_fu ms) (a_mod_fuB ms) (a_mod_fv ms) (a_mod_fvB ms) (a_mod_madeA ms) (a_mod_madeB ms) (a_mod_partMany ms) (a_mod_leftA ms) (a_mod_leftB ms) (a_mod_rootA ms) (a_mod_rootB ms) (a_mod_tail ms) (a_mod_round ms) (a_mod_sum ms) (a_mod_rowMany ms) (a_mod_least ms) (a_mod_leastMany ms) (a_mod_netP ms) (a_mod_netQ ms) (a_mod_netR ms) (a_mod_leapMany ms), ce_J (rB 1) (kB 1) 8 (a_regA ms), ce_J (rB 2) (kB 2) 8 (a_regB ms), ce_J (rB 3) (kB 3) 6 (a_unitA ms), ce_J (rB 4) (kB 4) 6 (a_unitB ms), ce_J (rB 5) (kB 5) 40 (a_partA ms), ce_J (rB 6) (kB 6) 40 (a_partB ms), ce_J (rB 7) (kB 7) 1000 (a_rowA ms), ce_J (rB 8) (kB 8) 1000 (a_rowB ms), ce_I (rB 9) (kB 9) 1000 (a_rowDigit ms), ce_J (rB 10) (kB 10) 12 (a_leapA ms), ce_J (rB 11) (kB 11) 12 (a_leapB ms), ce_I (rB 12) (kB 12) 3721 (a_fars ms), ce_I (rB 13) (kB 13) 3721 (a_queue ms)]) (va_runV (As := [.int (xs (x3 + (1 : Int32)).toNatClampNeg), .int (xs (x3 + (2 : Int32)).toNatClampNeg), .int (xs (x3 + (3 : Int32)).toNatClampNeg)]) (rest := []) ⟨hx, hb, hml, hown, hts⟩ (c_X7_digit l dC dI rA kA H.size (a_net_t cs) (a_net_n cs) (a_net_units cs) (a_net_spin cs) (a_reg cs) (a_num_base cs) (a_num_size cs) (a_num_digitOfW cs) (a_num_tail cs) (a_num_round cs) (a_num_rings cs) (a_num_ringed cs) (xs (x3 + (1 : Int32)).toNatClampNeg) (xs (x3 + (2 : Int32)).toNatClampNeg) (xs (x3 + (3 : Int32)).toNatClampNeg) hzp) (cwV 3 hts gL_X7_digit rfl rfl rfl hv_X7_digit ⟨(Nat.le_of_ble_eq_true rfl), (Nat.le_of_ble_eq_true rfl)⟩) ⟨fb_w, va_recv hK hP (ci := 7) (q0 := 0) rfl rfl, pre_w hPc hDc hKc hN⟩ rfl rfl hl.1 rfl (lv_room (Nat.le_of_ble_eq_true rfl)) dL_law_831 ⟨(Nat.le_of_ble_eq_true rfl), (Nat.le_of_ble_eq_true rfl)⟩) hP hD hS hA [0, 1, 2, 7] [3, 4, 5, 6, 8, 9, 10, 11, 12, 13, 14, 15, 16, 17, 18, 19, 20, 21, 22, 23, 24, 25, 26, 27, 28, 29] [26, 27, 28, 0, 1, 2, 3, 29, 4, 5, 6, 7, 8, 9, 10, 11, 12, 13, 14, 15, 16, 17, 18, 19, 20, 21, 22, 23, 24, 25] rfl rfl rfl (by decide) rfl rfl rfl (fun H locs hP hD hS => ?_)
        refine lv_aload_n hx hb dL_law_834 rfl (lv_at hl 3 rfl) ?_
        refine lv_aload_n hx hb dL_law_835 rfl (lv_at hl 1 rfl) ?_
        refine lv_iload_n hx hb dL_law_836 rfl (lv_at hl 0 rfl) ?_
        refine lv_iconst (v := (1 : Int32)) hx hb dL_law_837 (by decide) ?_
        refine lv_iadd hx hb dL_law_838 ?_
        refine va_sld hx hb hX hbl hbA hS hin1 dL_law_839 ?_
        refine lv_aload_n hx hb dL_law_840 rfl (lv_at hl 1 rfl) ?_
        refine lv_iload_n hx hb dL_law_841 rfl (lv_at hl 0 rfl) ?_
        refine lv_iconst (v := (2 : Int32)) hx hb dL_law_842 (by decide) ?_
        refine lv_iadd hx hb dL_law_843 ?_
        refine va_sld hx hb hX hbl hbA hS hin2 dL_law_844 ?_
        refine lv_aload_n hx hb dL_law_845 rfl (lv_at hl 1 rfl) ?_
        refine lv_iload_n hx hb dL_law_846 rfl (lv_at hl 0 rfl) ?_
        refine lv_iconst (v := (3 : Int32)) hx hb dL_law_847 (by decide) ?_
        refine lv_iadd hx hb dL_law_848 ?_
        refine va_sld hx hb hX hbl hbA hS hin3 dL_law_849 ?_
        have hPc := hP.sub (ws' := [ce_mod rB (a_mod_t ms) (a_mod_n ms) (a_mod_a ms) (a_mod_b ms) (a_mod_unitMany ms) (a_mod_quotA ms) (a_mod_quotB ms) (a_mod_unitUsed ms) (a_mod_fu ms) (a_mod_fuB ms) (a_mod_fv ms) (a_mod_fvB ms) (a_mod_madeA ms) (a_mod_madeB ms) (a_mod_partMany ms) (a_mod_leftA ms) (a_mod_leftB ms) (a_mod_rootA ms) (a_mod_rootB ms) (a_mod_tail ms) (a_mod_round ms) (a_mod_sum ms) (a_mod_rowMany ms) (a_mod_least ms) (a_mod_leastMany ms) (a_mod_netP ms) (a_mod_netQ ms) (a_mod_netR ms) (a_mod_leapMany ms), ce_J (rB 1) (kB 1) 8 (a_regA ms), ce_J (rB 2) (kB 2) 8 (a_regB ms), ce_J (rB 7) (kB 7) 1000 (a_rowA ms), ce_J (rB 8) (kB 8) 1000 (a_rowB ms), ce_I (rB 9) (kB 9) 1000 (a_rowDigit ms)]) [16, 17, 18, 23, 24, 25] rfl
        have hKc := hK.sub (tys' := [((kB 1), .long), ((kB 2), .long), ((kB 7), .long), ((kB 8), .long), ((kB 9), .int)]) [7, 8, 13, 14, 15] rfl
        have hDc := hD.sub (ws' := [ce_mod rB (a_mod_t ms) (a_mod_n ms) (a_mod_a ms) (a_mod_b ms) (a_mod_unitMany ms) (a_mod_quotA ms) (a_mod_quotB ms) (a_mod_unitUsed ms) (a_mod_fu ms) (a_mod_fuB ms) (a_mod_fv ms) (a_mod_fvB ms) (a_mod_madeA ms) (a_mod_madeB ms) (a_mod_partMany ms) (a_mod_leftA ms) (a_mod_leftB ms) (a_mod_rootA ms) (a_mod_rootB ms) (a_mod_tail ms) (a_mod_round ms) (a_mod_sum ms) (a_mod_rowMany ms) (a_mod_least ms) (a_mod_leastMany ms) (a_mod_netP ms) (a_mod_netQ ms) (a_mod_netR ms) (a_mod_leapMany ms), ce_J (rB 1) (kB 1) 8 (a_regA ms), ce_J (rB 2) (kB 2) 8 (a_regB ms), ce_J (rB 7) (kB 7) 1000 (a_rowA ms), ce_J (rB 8) (kB 8) 1000 (a_rowB ms), ce_I (rB 9) (kB 9) 1000 (a_rowDigit ms)]) [16, 17, 18, 23, 24, 25] rfl rfl
        refine kw_i (wr := [ce_pw rA , ce_net rA (a_net_t cs) (a_net_n cs) (a_net_units cs) (a_net_spin cs), ce_J (rA 2) (kA 2) 8 (a_reg cs), ce_mak rA (a_mak_common cs) (a_mak_u cs) (a_mak_v cs), ce_fac rA (a_fac_count cs) (a_fac_left cs), ce_J (rA 5) (kA 5) 40 (a_pri cs), ce_rsd rA (a_rsd_found cs), ce_num rA zp.2.1 zp.2.2.1 zp.2.2.2.1 zp.2.2.2.2.1 zp.2.2.2.2.2 (a_num_rings cs) (a_num_ringed cs), ce_I (rA 8) (kA 8) 625 (a_mrk cs), ce_fl (rA 9) (a_fl_p cs) (a_fl_q cs) (a_fl_r cs), ce_fl (rA 10) (a_ot_p cs) (a_ot_q cs) (a_ot_r cs), ce_lea rA (a_lea_count cs), ce_J (rA 12) (kA 12) 12 (a_lps cs), ce_J (rA 13) (kA 13) 61 (a_sen cs), ce_J (rA 14) (kA 14) 61 (a_edg cs), ce_J (rA 15) (kA 15) 61 (a_nxt cs), ce_J (rB 3) (kB 3) 6 (a_unitA ms), ce_J (rB 4) (kB 4) 6 (a_unitB ms), ce_J (rB 5) (kB 5) 40 (a_partA ms), ce_J (rB 6) (kB 6) 40 (a_partB ms), ce_J (rB 10) (kB 10) 12 (a_leapA ms), ce_J (rB 11) (kB 11) 12 (a_leapB ms), ce_I (rB 12) (kB 12) 3721 (a_fars ms), ce_I (rB 13) (kB 13) 3721 (a_queue ms)]) (ws' := [ce_pw rA , ce_net rA (a_net_t cs) (a_net_n cs) (a_net_units cs) (a_net_spin cs), ce_J (rA 2) (kA 2) 8 (a_reg cs), ce_mak rA (a_mak_common cs) (a_mak_u cs) (a_mak_v cs), ce_fac rA (a_fac_count cs) (a_fac_left cs), ce_J (rA 5) (kA 5) 40 (a_pri cs), ce_rsd rA (a_rsd_found cs), ce_num rA zp.2.1 zp.2.2.1 zp.2.2.2.1 zp.2.2.2.2.1 zp.2.2.2.2.2 (a_num_rings cs) (a_num_ringed cs), ce_I (rA 8) (kA 8) 625 (a_mrk cs), ce_fl (rA 9) (a_fl_p cs) (a_fl_q cs) (a_fl_r cs), ce_fl (rA 10) (a_ot_p cs) (a_ot_q cs) (a_ot_r cs), ce_lea rA (a_lea_count cs), ce_J (rA 12) (kA 12) 12 (a_lps cs), ce_J (rA 13) (kA 13) 61 (a_sen cs), ce_J (rA 14) (kA 14) 61 (a_edg cs), ce_J (rA 15) (kA 15) 61 (a_nxt cs), ce_mod rB (a_mod_t ms) (a_mod_n ms) zq.2.1 zq.2.2.1 (a_mod_unitMany ms) zq.2.2.2.1 zq.2.2.2.2.1 (a_mod_unitUsed ms) (a_mod_fu ms) (a_mod_fuB ms) (a_mod_fv ms) (a_mod_fvB ms) (a_mod_madeA ms) (a_mod_madeB ms) (a_mod_partMany ms) (a_mod_leftA ms) (a_mod_leftB ms) (a_mod_rootA ms) (a_mod_rootB ms) zq.2.2.2.2.2.1 zq.2.2.2.2.2.2.1 zq.2.2.2.2.2.2.2.1 zq.2.2.2.2.2.2.2.2.1 (a_mod_least ms) (a_mod_leastMany ms) (a_mod_netP ms) (a_mod_netQ ms) (a_mod_netR ms) (a_mod_leapMany ms), ce_J (rB 1) (kB 1) 8 (a_regA ms), ce_J (rB 2) (kB 2) 8 (a_regB ms), ce_J (rB 3) (kB 3) 6 (a_unitA ms), ce_J (rB 4) (kB 4) 6 (a_unitB ms), ce_J (rB 5) (kB 5) 40 (a_partA ms), ce_J (rB 6) (kB 6) 40 (a_partB ms), ce_J (rB 7) (kB 7) 1000 zq.2.2.2.2.2.2.2.2.2.1, ce_J (rB 8) (kB 8) 1000 zq.2.2.2.2.2.2.2.2.2.2.1, ce_I (rB 9) (kB 9) 1000 zq.2.2.2.2.2.2.2.2.2.2.2, ce_J (rB 10) (kB 10) 12 (a_leapA ms), ce_J (rB 11) (kB 11) 12 (a_leapB ms), ce_I (rB 12) (kB 12) 3721 (a_fars ms), ce_I (rB 13) (kB 13) 3721 (a_queue ms)]) (va_runV (As := [.int (xs (x3 + (1 : Int32)).toNatClampNeg), .int (xs (x3 + (2 : Int32)).toNatClampNeg), .int (xs (x3 + (3 : Int32)).toNatClampNeg)]) (rest := [.int zp.1]) ⟨hx, hb, hml, hown, hts⟩ (c_X8_digit l dC dI rB kB H.size (a_mod_t ms) (a_mod_n ms) (a_mod_a ms) (a_mod_b ms) (a_mod_unitMany ms) (a_mod_quotA ms) (a_mod_quotB ms) (a_mod_unitUsed ms) (a_mod_fu ms) (a_mod_fuB ms) (a_mod_fv ms) (a_mod_fvB ms) (a_mod_madeA ms) (a_mod_madeB ms) (a_mod_partMany ms) (a_mod_leftA ms) (a_mod_leftB ms) (a_mod_rootA ms) (a_mod_rootB ms) (a_mod_tail ms) (a_mod_round ms) (a_mod_sum ms) (a_mod_rowMany ms) (a_mod_least ms) (a_mod_leastMany ms) (a_mod_netP ms) (a_mod_netQ ms) (a_mod_netR ms) (a_mod_leapMany ms) (a_regA ms) (a_regB ms) (a_rowA ms) (a_rowB ms) (a_rowDigit ms) (xs (x3 + (1 : Int32)).toNatClampNeg) (xs (x3 + (2 : Int32)).toNatClampNeg) (xs (x3 + (3 : Int32)).toNatClampNeg) hzq) (cwV 3 hts gL_X8_digit rfl rfl rfl hv_X8_digit ⟨(Nat.le_of_ble_eq_true rfl), (Nat.le_of_ble_eq_true rfl)⟩) ⟨fb_w, va_recv hK hP (ci := 8) (q0 := 16) rfl rfl, pre_w hPc hDc hKc hN⟩ rfl rfl hl.1 rfl (lv_room (Nat.le_of_ble_eq_true rfl)) dL_law_850 ⟨(Nat.le_of_ble_eq_true rfl), (Nat.le_of_ble_eq_true rfl)⟩) hP hD hS hA [16, 17, 18, 23, 24, 25] [0, 1, 2, 3, 4, 5, 6, 7, 8, 9, 10, 11, 12, 13, 14, 15, 19, 20, 21, 22, 26, 27, 28, 29] [0, 1, 2, 3, 4, 5, 6, 7, 8, 9, 10, 11, 12, 13, 14, 15, 24, 25, 26, 16, 17, 18, 19, 27, 28, 29, 20, 21, 22, 23] rfl rfl rfl (by decide) rfl rfl rfl (fun H locs hP hD hS => ?_)
        refine lv_icmp_eq (tgt := 1298) hx hb dL_law_853 (by decide) (fun c1 => ?_) (fun c1 => absurd hzr c1)
        exact hnext ((a_net_t cs), (a_net_n cs), (a_net_units cs), (a_net_spin cs), (a_reg cs), (a_mak_common cs), (a_mak_u cs), (a_mak_v cs), (a_fac_count cs), (a_fac_left cs), (a_pri cs), (a_rsd_found cs), zp.2.1, zp.2.2.1, zp.2.2.2.1, zp.2.2.2.2.1, zp.2.2.2.2.2, (a_num_rings cs), (a_num_ringed cs), (a_mrk cs), (a_fl_p cs), (a_fl_q cs), (a_fl_r cs), (a_ot_p cs), (a_ot_q cs), (a_ot_r cs), (a_lea_count cs), (a_lps cs), (a_sen cs), (a_edg cs), (a_nxt cs)) ((a_mod_t ms), (a_mod_n ms), zq.2.1, zq.2.2.1, (a_mod_unitMany ms), zq.2.2.2.1, zq.2.2.2.2.1, (a_mod_unitUsed ms), (a_mod_fu ms), (a_mod_fuB ms), (a_mod_fv ms), (a_mod_fvB ms), (a_mod_madeA ms), (a_mod_madeB ms), (a_mod_partMany ms), (a_mod_leftA ms), (a_mod_leftB ms), (a_mod_rootA ms), (a_mod_rootB ms), zq.2.2.2.2.2.1, zq.2.2.2.2.2.2.1, zq.2.2.2.2.2.2.2.1, zq.2.2.2.2.2.2.2.2.1, (a_mod_least ms), (a_mod_leastMany ms), (a_mod_netP ms), (a_mod_netQ ms), (a_mod_netR ms), (a_mod_leapMany ms), (a_regA ms), (a_regB ms), (a_unitA ms), (a_unitB ms), (a_partA ms), (a_partB ms), zq.2.2.2.2.2.2.2.2.2.1, zq.2.2.2.2.2.2.2.2.2.2.1, zq.2.2.2.2.2.2.2.2.2.2.2, (a_leapA ms), (a_leapB ms), (a_fars ms), (a_queue ms)) H locs ls hR hP hD hS hl
      by_cases g_19 : sel = (19 : Int32)
      · refine lv_tableIn (tgt := 858) hx hb dL_law_33 (by rw [g_19]; decide) (by rw [g_19]; decide) (by rw [g_19]; rfl) (by decide) ?_
        clear g_19 hsel
        refine lv_aload_n hx hb dL_law_858 rfl (lv_at hl 2 rfl) ?_
        refine lv_aload_n hx hb dL_law_859 rfl (lv_at hl 1 rfl) ?_
        refine lv_iload_n hx hb dL_law_860 rfl (lv_at hl 0 rfl) ?_
        refine lv_iconst (v := (1 : Int32)) hx hb dL_law_861 (by decide) ?_
        refine lv_iadd hx hb dL_law_862 ?_
        refine va_sld hx hb hX hbl hbA hS hin1 dL_law_863 ?_
        refine lv_aload_n hx hb dL_law_864 rfl (lv_at hl 1 rfl) ?_
        refine lv_iload_n hx hb dL_law_865 rfl (lv_at hl 0 rfl) ?_
        refine lv_iconst (v := (2 : Int32)) hx hb dL_law_866 (by decide) ?_
        refine lv_iadd hx hb dL_law_867 ?_
        refine va_sld hx hb hX hbl hbA hS hin2 dL_law_868 ?_
        refine lv_aload_n hx hb dL_law_869 rfl (lv_at hl 1 rfl) ?_
        refine lv_iload_n hx hb dL_law_870 rfl (lv_at hl 0 rfl) ?_
        refine lv_iconst (v := (3 : Int32)) hx hb dL_law_871 (by decide) ?_
        refine lv_iadd hx hb dL_law_872 ?_
        refine va_sld hx hb hX hbl hbA hS hin3 dL_law_873 ?_
        obtain ⟨zp, zq, hzp, hzq, hzr, hR⟩ := hm_digits cs ms hR (xs (x3 + (1 : Int32)).toNatClampNeg) (xs (x3 + (2 : Int32)).toNatClampNeg) (xs (x3 + (3 : Int32)).toNatClampNeg)
        have hPc := hP.sub (ws' := [ce_pw rA , ce_net rA (a_net_t cs) (a_net_n cs) (a_net_units cs) (a_net_spin cs), ce_J (rA 2) (kA 2) 8 (a_reg cs), ce_num rA (a_num_base cs) (a_num_size cs) (a_num_digitOfW cs) (a_num_tail cs) (a_num_round cs) (a_num_rings cs) (a_num_ringed cs)]) [0, 1, 2, 7] rfl
        have hKc := hK.sub (tys' := [((kA 2), .long)]) [0] rfl
        have hDc := hD.sub (ws' := [ce_pw rA , ce_net rA (a_net_t cs) (a_net_n cs) (a_net_units cs) (a_net_spin cs), ce_J (rA 2) (kA 2) 8 (a_reg cs), ce_num rA (a_num_base cs) (a_num_size cs) (a_num_digitOfW cs) (a_num_tail cs) (a_num_round cs) (a_num_rings cs) (a_num_ringed cs)]) [0, 1, 2, 7] rfl rfl
        refine kw_i (wr := [ce_mak rA (a_mak_common cs) (a_mak_u cs) (a_mak_v cs), ce_fac rA (a_fac_count cs) (a_fac_left cs), ce_J (rA 5) (kA 5) 40 (a_pri cs), ce_rsd rA (a_rsd_found cs), ce_I (rA 8) (kA 8) 625 (a_mrk cs), ce_fl (rA 9) (a_fl_p cs) (a_fl_q cs) (a_fl_r cs), ce_fl (rA 10) (a_ot_p cs) (a_ot_q cs) (a_ot_r cs), ce_lea rA (a_lea_count cs), ce_J (rA 12) (kA 12) 12 (a_lps cs), ce_J (rA 13) (kA 13) 61 (a_sen cs), ce_J (rA 14) (kA 14) 61 (a_edg cs), ce_J (rA 15) (kA 15) 61 (a_nxt cs), ce_mod rB (a_mod_t ms) (a_mod_n ms) (a_mod_a ms) (a_mod_b ms) (a_mod_unitMany ms) (a_mod_quotA ms) (a_mod_quotB ms) (a_mod_unitUsed ms) (a_mod_fu ms) (a_mod_fuB ms) (a_mod_fv ms) (a_mod_fvB ms) (a_mod_madeA ms) (a_mod_madeB ms) (a_mod_partMany ms) (a_mod_leftA ms) (a_mod_leftB ms) (a_mod_rootA ms) (a_mod_rootB ms) (a_mod_tail ms) (a_mod_round ms) (a_mod_sum ms) (a_mod_rowMany ms) (a_mod_least ms) (a_mod_leastMany ms) (a_mod_netP ms) (a_mod_netQ ms) (a_mod_netR ms) (a_mod_leapMany ms), ce_J (rB 1) (kB 1) 8 (a_regA ms), ce_J (rB 2) (kB 2) 8 (a_regB ms), ce_J (rB 3) (kB 3) 6 (a_unitA ms), ce_J (rB 4) (kB 4) 6 (a_unitB ms), ce_J (rB 5) (kB 5) 40 (a_partA ms), ce_J (rB 6) (kB 6) 40 (a_partB ms), ce_J (rB 7) (kB 7) 1000 (a_rowA ms), ce_J (rB 8) (kB 8) 1000 (a_rowB ms), ce_I (rB 9) (kB 9) 1000 (a_rowDigit ms), ce_J (rB 10) (kB 10) 12 (a_leapA ms), ce_J (rB 11) (kB 11) 12 (a_leapB ms), ce_I (rB 12) (kB 12) 3721 (a_fars ms), ce_I (rB 13) (kB 13) 3721 (a_queue ms)]) (ws' := [ce_pw rA , ce_net rA (a_net_t cs) (a_net_n cs) (a_net_units cs) (a_net_spin cs), ce_J (rA 2) (kA 2) 8 (a_reg cs), ce_mak rA (a_mak_common cs) (a_mak_u cs) (a_mak_v cs), ce_fac rA (a_fac_count cs) (a_fac_left cs), ce_J (rA 5) (kA 5) 40 (a_pri cs), ce_rsd rA (a_rsd_found cs), ce_num rA zp.2.1 zp.2.2.1 zp.2.2.2.1 zp.2.2.2.2.1 zp.2.2.2.2.2 (a_num_rings cs) (a_num_ringed cs), ce_I (rA 8) (kA 8) 625 (a_mrk cs), ce_fl (rA 9) (a_fl_p cs) (a_fl_q cs) (a_fl_r cs), ce_fl (rA 10) (a_ot_p cs) (a_ot_q cs) (a_ot_r cs), ce_lea rA (a_lea_count cs), ce_J (rA 12) (kA 12) 12 (a_lps cs), ce_J (rA 13) (kA 13) 61 (a_sen cs), ce_J (rA 14) (kA 14) 61 (a_edg cs), ce_J (rA 15) (kA 15) 61 (a_nxt cs), ce_mod rB (a_mod_t ms) (a_mod_n ms) (a_mod_a ms) (a_mod_b ms) (a_mod_unitMany ms) (a_mod_quotA ms) (a_mod_quotB ms) (a_mod_unitUsed ms) (a_mod_fu ms) (a_mod_fuB ms) (a_mod_fv ms) (a_mod_fvB ms) (a_mod_madeA ms) (a_mod_madeB ms) (a_mod_partMany ms) (a_mod_leftA ms) (a_mod_leftB ms) (a_mod_rootA ms) (a_mod_rootB ms) (a_mod_tail ms) (a_mod_round ms) (a_mod_sum ms) (a_mod_rowMany ms) (a_mod_least ms) (a_mod_leastMany ms) (a_mod_netP ms) (a_mod_netQ ms) (a_mod_netR ms) (a_mod_leapMany ms), ce_J (rB 1) (kB 1) 8 (a_regA ms), ce_J (rB 2) (kB 2) 8 (a_regB ms), ce_J (rB 3) (kB 3) 6 (a_unitA ms), ce_J (rB 4) (kB 4) 6 (a_unitB ms), ce_J (rB 5) (kB 5) 40 (a_partA ms), ce_J (rB 6) (kB 6) 40 (a_partB ms), ce_J (rB 7) (kB 7) 1000 (a_rowA ms), ce_J (rB 8) (kB 8) 1000 (a_rowB ms), ce_I (rB 9) (kB 9) 1000 (a_rowDigit ms), ce_J (rB 10) (kB 10) 12 (a_leapA ms), ce_J (rB 11) (kB 11) 12 (a_leapB ms), ce_I (rB 12) (kB 12) 3721 (a_fars ms), ce_I (rB 13) (kB 13) 3721 (a_queue ms)]) (va_runV (As := [.int (xs (x3 + (1 : Int32)).toNatClampNeg), .int (xs (x3 + (2 : Int32)).toNatClampNeg), .int (xs (x3 + (3 : Int32)).toNatClampNeg)]) (rest := []) ⟨hx, hb, hml, hown, hts⟩ (c_X7_digits l dC dI rA kA H.size (a_net_t cs) (a_net_n cs) (a_net_units cs) (a_net_spin cs) (a_reg cs) (a_num_base cs) (a_num_size cs) (a_num_digitOfW cs) (a_num_tail cs) (a_num_round cs) (a_num_rings cs) (a_num_ringed cs) (xs (x3 + (1 : Int32)).toNatClampNeg) (xs (x3 + (2 : Int32)).toNatClampNeg) (xs (x3 + (3 : Int32)).toNatClampNeg) hzp) (cwV 3 hts gL_X7_digits rfl rfl rfl hv_X7_digits ⟨(Nat.le_of_ble_eq_true rfl), (Nat.le_of_ble_eq_true rfl)⟩) ⟨fb_w, va_recv hK hP (ci := 7) (q0 := 0) rfl rfl, pre_w hPc hDc hKc hN⟩ rfl rfl hl.1 rfl (lv_room (Nat.le_of_ble_eq_true rfl)) dL_law_874 ⟨(Nat.le_of_ble_eq_true rfl), (Nat.le_of_ble_eq_true rfl)⟩) hP hD hS hA [0, 1, 2, 7] [3, 4, 5, 6, 8, 9, 10, 11, 12, 13, 14, 15, 16, 17, 18, 19, 20, 21, 22, 23, 24, 25, 26, 27, 28, 29] [26, 27, 28, 0, 1, 2, 3, 29, 4, 5, 6, 7, 8, 9, 10, 11, 12, 13, 14, 15, 16, 17, 18, 19, 20, 21, 22, 23, 24, 25] rfl rfl rfl (by decide) rfl rfl rfl (fun H locs hP hD hS => ?_)
        refine lv_aload_n hx hb dL_law_877 rfl (lv_at hl 3 rfl) ?_
        refine lv_aload_n hx hb dL_law_878 rfl (lv_at hl 1 rfl) ?_
        refine lv_iload_n hx hb dL_law_879 rfl (lv_at hl 0 rfl) ?_
        refine lv_iconst (v := (1 : Int32)) hx hb dL_law_880 (by decide) ?_
        refine lv_iadd hx hb dL_law_881 ?_
        refine va_sld hx hb hX hbl hbA hS hin1 dL_law_882 ?_
        refine lv_aload_n hx hb dL_law_883 rfl (lv_at hl 1 rfl) ?_
        refine lv_iload_n hx hb dL_law_884 rfl (lv_at hl 0 rfl) ?_
        refine lv_iconst (v := (2 : Int32)) hx hb dL_law_885 (by decide) ?_
        refine lv_iadd hx hb dL_law_886 ?_
        refine va_sld hx hb hX hbl hbA hS hin2 dL_law_887 ?_
        refine lv_aload_n hx hb dL_law_888 rfl (lv_at hl 1 rfl) ?_
        refine lv_iload_n hx hb dL_law_889 rfl (lv_at hl 0 rfl) ?_
        refine lv_iconst (v := (3 : Int32)) hx hb dL_law_890 (by decide) ?_
        refine lv_iadd hx hb dL_law_891 ?_
        refine va_sld hx hb hX hbl hbA hS hin3 dL_law_892 ?_
        have hPc := hP.sub (ws' := [ce_mod rB (a_mod_t ms) (a_mod_n ms) (a_mod_a ms) (a_mod_b ms) (a_mod_unitMany ms) (a_mod_quotA ms) (a_mod_quotB ms) (a_mod_unitUsed ms) (a_mod_fu ms) (a_mod_fuB ms) (a_mod_fv ms) (a_mod_fvB ms) (a_mod_madeA ms) (a_mod_madeB ms) (a_mod_partMany ms) (a_mod_leftA ms) (a_mod_leftB ms) (a_mod_rootA ms) (a_mod_rootB ms) (a_mod_tail ms) (a_mod_round ms) (a_mod_sum ms) (a_mod_rowMany ms) (a_mod_least ms) (a_mod_leastMany ms) (a_mod_netP ms) (a_mod_netQ ms) (a_mod_netR ms) (a_mod_leapMany ms), ce_J (rB 1) (kB 1) 8 (a_regA ms), ce_J (rB 2) (kB 2) 8 (a_regB ms), ce_J (rB 7) (kB 7) 1000 (a_rowA ms), ce_J (rB 8) (kB 8) 1000 (a_rowB ms), ce_I (rB 9) (kB 9) 1000 (a_rowDigit ms)]) [16, 17, 18, 23, 24, 25] rfl
        have hKc := hK.sub (tys' := [((kB 1), .long), ((kB 2), .long), ((kB 7), .long), ((kB 8), .long), ((kB 9), .int)]) [7, 8, 13, 14, 15] rfl
        have hDc := hD.sub (ws' := [ce_mod rB (a_mod_t ms) (a_mod_n ms) (a_mod_a ms) (a_mod_b ms) (a_mod_unitMany ms) (a_mod_quotA ms) (a_mod_quotB ms) (a_mod_unitUsed ms) (a_mod_fu ms) (a_mod_fuB ms) (a_mod_fv ms) (a_mod_fvB ms) (a_mod_madeA ms) (a_mod_madeB ms) (a_mod_partMany ms) (a_mod_leftA ms) (a_mod_leftB ms) (a_mod_rootA ms) (a_mod_rootB ms) (a_mod_tail ms) (a_mod_round ms) (a_mod_sum ms) (a_mod_rowMany ms) (a_mod_least ms) (a_mod_leastMany ms) (a_mod_netP ms) (a_mod_netQ ms) (a_mod_netR ms) (a_mod_leapMany ms), ce_J (rB 1) (kB 1) 8 (a_regA ms), ce_J (rB 2) (kB 2) 8 (a_regB ms), ce_J (rB 7) (kB 7) 1000 (a_rowA ms), ce_J (rB 8) (kB 8) 1000 (a_rowB ms), ce_I (rB 9) (kB 9) 1000 (a_rowDigit ms)]) [16, 17, 18, 23, 24, 25] rfl rfl
        refine kw_i (wr := [ce_pw rA , ce_net rA (a_net_t cs) (a_net_n cs) (a_net_units cs) (a_net_spin cs), ce_J (rA 2) (kA 2) 8 (a_reg cs), ce_mak rA (a_mak_common cs) (a_mak_u cs) (a_mak_v cs), ce_fac rA (a_fac_count cs) (a_fac_left cs), ce_J (rA 5) (kA 5) 40 (a_pri cs), ce_rsd rA (a_rsd_found cs), ce_num rA zp.2.1 zp.2.2.1 zp.2.2.2.1 zp.2.2.2.2.1 zp.2.2.2.2.2 (a_num_rings cs) (a_num_ringed cs), ce_I (rA 8) (kA 8) 625 (a_mrk cs), ce_fl (rA 9) (a_fl_p cs) (a_fl_q cs) (a_fl_r cs), ce_fl (rA 10) (a_ot_p cs) (a_ot_q cs) (a_ot_r cs), ce_lea rA (a_lea_count cs), ce_J (rA 12) (kA 12) 12 (a_lps cs), ce_J (rA 13) (kA 13) 61 (a_sen cs), ce_J (rA 14) (kA 14) 61 (a_edg cs), ce_J (rA 15) (kA 15) 61 (a_nxt cs), ce_J (rB 3) (kB 3) 6 (a_unitA ms), ce_J (rB 4) (kB 4) 6 (a_unitB ms), ce_J (rB 5) (kB 5) 40 (a_partA ms), ce_J (rB 6) (kB 6) 40 (a_partB ms), ce_J (rB 10) (kB 10) 12 (a_leapA ms), ce_J (rB 11) (kB 11) 12 (a_leapB ms), ce_I (rB 12) (kB 12) 3721 (a_fars ms), ce_I (rB 13) (kB 13) 3721 (a_queue ms)]) (ws' := [ce_pw rA , ce_net rA (a_net_t cs) (a_net_n cs) (a_net_units cs) (a_net_spin cs), ce_J (rA 2) (kA 2) 8 (a_reg cs), ce_mak rA (a_mak_common cs) (a_mak_u cs) (a_mak_v cs), ce_fac rA (a_fac_count cs) (a_fac_left cs), ce_J (rA 5) (kA 5) 40 (a_pri cs), ce_rsd rA (a_rsd_found cs), ce_num rA zp.2.1 zp.2.2.1 zp.2.2.2.1 zp.2.2.2.2.1 zp.2.2.2.2.2 (a_num_rings cs) (a_num_ringed cs), ce_I (rA 8) (kA 8) 625 (a_mrk cs), ce_fl (rA 9) (a_fl_p cs) (a_fl_q cs) (a_fl_r cs), ce_fl (rA 10) (a_ot_p cs) (a_ot_q cs) (a_ot_r cs), ce_lea rA (a_lea_count cs), ce_J (rA 12) (kA 12) 12 (a_lps cs), ce_J (rA 13) (kA 13) 61 (a_sen cs), ce_J (rA 14) (kA 14) 61 (a_edg cs), ce_J (rA 15) (kA 15) 61 (a_nxt cs), ce_mod rB (a_mod_t ms) (a_mod_n ms) zq.2.1 zq.2.2.1 (a_mod_unitMany ms) zq.2.2.2.1 zq.2.2.2.2.1 (a_mod_unitUsed ms) (a_mod_fu ms) (a_mod_fuB ms) (a_mod_fv ms) (a_mod_fvB ms) (a_mod_madeA ms) (a_mod_madeB ms) (a_mod_partMany ms) (a_mod_leftA ms) (a_mod_leftB ms) (a_mod_rootA ms) (a_mod_rootB ms) zq.2.2.2.2.2.1 zq.2.2.2.2.2.2.1 zq.2.2.2.2.2.2.2.1 zq.2.2.2.2.2.2.2.2.1 (a_mod_least ms) (a_mod_leastMany ms) (a_mod_netP ms) (a_mod_netQ ms) (a_mod_netR ms) (a_mod_leapMany ms), ce_J (rB 1) (kB 1) 8 (a_regA ms), ce_J (rB 2) (kB 2) 8 (a_regB ms), ce_J (rB 3) (kB 3) 6 (a_unitA ms), ce_J (rB 4) (kB 4) 6 (a_unitB ms), ce_J (rB 5) (kB 5) 40 (a_partA ms), ce_J (rB 6) (kB 6) 40 (a_partB ms), ce_J (rB 7) (kB 7) 1000 zq.2.2.2.2.2.2.2.2.2.1, ce_J (rB 8) (kB 8) 1000 zq.2.2.2.2.2.2.2.2.2.2.1, ce_I (rB 9) (kB 9) 1000 zq.2.2.2.2.2.2.2.2.2.2.2, ce_J (rB 10) (kB 10) 12 (a_leapA ms), ce_J (rB 11) (kB 11) 12 (a_leapB ms), ce_I (rB 12) (kB 12) 3721 (a_fars ms), ce_I (rB 13) (kB 13) 3721 (a_queue ms)]) (va_runV (As := [.int (xs (x3 + (1 : Int32)).toNatClampNeg), .int (xs (x3 + (2 : Int32)).toNatClampNeg), .int (xs (x3 + (3 : Int32)).toNatClampNeg)]) (rest := [.int zp.1]) ⟨hx, hb, hml, hown, hts⟩ (c_X8_digits l dC dI rB kB H.size (a_mod_t ms) (a_mod_n ms) (a_mod_a ms) (a_mod_b ms) (a_mod_unitMany ms) (a_mod_quotA ms) (a_mod_quotB ms) (a_mod_unitUsed ms) (a_mod_fu ms) (a_mod_fuB ms) (a_mod_fv ms) (a_mod_fvB ms) (a_mod_madeA ms) (a_mod_madeB ms) (a_mod_partMany ms) (a_mod_leftA ms) (a_mod_leftB ms) (a_mod_rootA ms) (a_mod_rootB ms) (a_mod_tail ms) (a_mod_round ms) (a_mod_sum ms) (a_mod_rowMany ms) (a_mod_least ms) (a_mod_leastMany ms) (a_mod_netP ms) (a_mod_netQ ms) (a_mod_netR ms) (a_mod_leapMany ms) (a_regA ms) (a_regB ms) (a_rowA ms) (a_rowB ms) (a_rowDigit ms) (xs (x3 + (1 : Int32)).toNatClampNeg) (xs (x3 + (2 : Int32)).toNatClampNeg) (xs (x3 + (3 : Int32)).toNatClampNeg) hzq) (cwV 3 hts gL_X8_digits rfl rfl rfl hv_X8_digits ⟨(Nat.le_of_ble_eq_true rfl), (Nat.le_of_ble_eq_true rfl)⟩) ⟨fb_w, va_recv hK hP (ci := 8) (q0 := 16) rfl rfl, pre_w hPc hDc hKc hN⟩ rfl rfl hl.1 rfl (lv_room (Nat.le_of_ble_eq_true rfl)) dL_law_893 ⟨(Nat.le_of_ble_eq_true rfl), (Nat.le_of_ble_eq_true rfl)⟩) hP hD hS hA [16, 17, 18, 23, 24, 25] [0, 1, 2, 3, 4, 5, 6, 7, 8, 9, 10, 11, 12, 13, 14, 15, 19, 20, 21, 22, 26, 27, 28, 29] [0, 1, 2, 3, 4, 5, 6, 7, 8, 9, 10, 11, 12, 13, 14, 15, 24, 25, 26, 16, 17, 18, 19, 27, 28, 29, 20, 21, 22, 23] rfl rfl rfl (by decide) rfl rfl rfl (fun H locs hP hD hS => ?_)
        refine lv_icmp_eq (tgt := 1298) hx hb dL_law_896 (by decide) (fun c1 => ?_) (fun c1 => absurd hzr c1)
        exact hnext ((a_net_t cs), (a_net_n cs), (a_net_units cs), (a_net_spin cs), (a_reg cs), (a_mak_common cs), (a_mak_u cs), (a_mak_v cs), (a_fac_count cs), (a_fac_left cs), (a_pri cs), (a_rsd_found cs), zp.2.1, zp.2.2.1, zp.2.2.2.1, zp.2.2.2.2.1, zp.2.2.2.2.2, (a_num_rings cs), (a_num_ringed cs), (a_mrk cs), (a_fl_p cs), (a_fl_q cs), (a_fl_r cs), (a_ot_p cs), (a_ot_q cs), (a_ot_r cs), (a_lea_count cs), (a_lps cs), (a_sen cs), (a_edg cs), (a_nxt cs)) ((a_mod_t ms), (a_mod_n ms), zq.2.1, zq.2.2.1, (a_mod_unitMany ms), zq.2.2.2.1, zq.2.2.2.2.1, (a_mod_unitUsed ms), (a_mod_fu ms), (a_mod_fuB ms), (a_mod_fv ms), (a_mod_fvB ms), (a_mod_madeA ms), (a_mod_madeB ms), (a_mod_partMany ms), (a_mod_leftA ms), (a_mod_leftB ms), (a_mod_rootA ms), (a_mod_rootB ms), zq.2.2.2.2.2.1, zq.2.2.2.2.2.2.1, zq.2.2.2.2.2.2.2.1, zq.2.2.2.2.2.2.2.2.1, (a_mod_least ms), (a_mod_leastMany ms), (a_mod_netP ms), (a_mod_netQ ms), (a_mod_netR ms), (a_mod_leapMany ms), (a_regA ms), (a_regB ms), (a_unitA ms), (a_unitB ms), (a_partA ms), (a_partB ms), zq.2.2.2.2.2.2.2.2.2.1, zq.2.2.2.2.2.2.2.2.2.2.1, zq.2.2.2.2.2.2.2.2.2.2.2, (a_leapA ms), (a_leapB ms), (a_fars ms), (a_queue ms)) H locs ls hR hP hD hS hl
      by_cases g_20 : sel = (20 : Int32)
      · refine lv_tableIn (tgt := 901) hx hb dL_law_33 (by rw [g_20]; decide) (by rw [g_20]; decide) (by rw [g_20]; rfl) (by decide) ?_
        clear g_20 hsel
        refine lv_aload_n hx hb dL_law_901 rfl (lv_at hl 2 rfl) ?_
        refine lv_aload_n hx hb dL_law_902 rfl (lv_at hl 1 rfl) ?_
        refine lv_iload_n hx hb dL_law_903 rfl (lv_at hl 0 rfl) ?_
        refine lv_iconst (v := (1 : Int32)) hx hb dL_law_904 (by decide) ?_
        refine lv_iadd hx hb dL_law_905 ?_
        refine va_sld hx hb hX hbl hbA hS hin1 dL_law_906 ?_
        refine lv_aload_n hx hb dL_law_907 rfl (lv_at hl 1 rfl) ?_
        refine lv_iload_n hx hb dL_law_908 rfl (lv_at hl 0 rfl) ?_
        refine lv_iconst (v := (2 : Int32)) hx hb dL_law_909 (by decide) ?_
        refine lv_iadd hx hb dL_law_910 ?_
        refine va_sld hx hb hX hbl hbA hS hin2 dL_law_911 ?_
        obtain ⟨zp, zq, hzp, hzq, hzr, hR⟩ := hm_rounds cs ms hR (xs (x3 + (1 : Int32)).toNatClampNeg) (xs (x3 + (2 : Int32)).toNatClampNeg)
        have hPc := hP.sub (ws' := [ce_pw rA , ce_net rA (a_net_t cs) (a_net_n cs) (a_net_units cs) (a_net_spin cs), ce_J (rA 2) (kA 2) 8 (a_reg cs), ce_num rA (a_num_base cs) (a_num_size cs) (a_num_digitOfW cs) (a_num_tail cs) (a_num_round cs) (a_num_rings cs) (a_num_ringed cs), ce_I (rA 8) (kA 8) 625 (a_mrk cs)]) [0, 1, 2, 7, 8] rfl
        have hKc := hK.sub (tys' := [((kA 2), .long), ((kA 8), .int)]) [0, 2] rfl
        have hDc := hD.sub (ws' := [ce_pw rA , ce_net rA (a_net_t cs) (a_net_n cs) (a_net_units cs) (a_net_spin cs), ce_J (rA 2) (kA 2) 8 (a_reg cs), ce_num rA (a_num_base cs) (a_num_size cs) (a_num_digitOfW cs) (a_num_tail cs) (a_num_round cs) (a_num_rings cs) (a_num_ringed cs), ce_I (rA 8) (kA 8) 625 (a_mrk cs)]) [0, 1, 2, 7, 8] rfl rfl
        refine kw_i (wr := [ce_mak rA (a_mak_common cs) (a_mak_u cs) (a_mak_v cs), ce_fac rA (a_fac_count cs) (a_fac_left cs), ce_J (rA 5) (kA 5) 40 (a_pri cs), ce_rsd rA (a_rsd_found cs), ce_fl (rA 9) (a_fl_p cs) (a_fl_q cs) (a_fl_r cs), ce_fl (rA 10) (a_ot_p cs) (a_ot_q cs) (a_ot_r cs), ce_lea rA (a_lea_count cs), ce_J (rA 12) (kA 12) 12 (a_lps cs), ce_J (rA 13) (kA 13) 61 (a_sen cs), ce_J (rA 14) (kA 14) 61 (a_edg cs), ce_J (rA 15) (kA 15) 61 (a_nxt cs), ce_mod rB (a_mod_t ms) (a_mod_n ms) (a_mod_a ms) (a_mod_b ms) (a_mod_unitMany ms) (a_mod_quotA ms) (a_mod_quotB ms) (a_mod_unitUsed ms) (a_mod_fu ms) (a_mod_fuB ms) (a_mod_fv ms) (a_mod_fvB ms) (a_mod_madeA ms) (a_mod_madeB ms) (a_mod_partMany ms) (a_mod_leftA ms) (a_mod_leftB ms) (a_mod_rootA ms) (a_mod_rootB ms) (a_mod_tail ms) (a_mod_round ms) (a_mod_sum ms) (a_mod_rowMany ms) (a_mod_least ms) (a_mod_leastMany ms) (a_mod_netP ms) (a_mod_netQ ms) (a_mod_netR ms) (a_mod_leapMany ms), ce_J (rB 1) (kB 1) 8 (a_regA ms), ce_J (rB 2) (kB 2) 8 (a_regB ms), ce_J (rB 3) (kB 3) 6 (a_unitA ms), ce_J (rB 4) (kB 4) 6 (a_unitB ms), ce_J (rB 5) (kB 5) 40 (a_partA ms), ce_J (rB 6) (kB 6) 40 (a_partB ms), ce_J (rB 7) (kB 7) 1000 (a_rowA ms), ce_J (rB 8) (kB 8) 1000 (a_rowB ms), ce_I (rB 9) (kB 9) 1000 (a_rowDigit ms), ce_J (rB 10) (kB 10) 12 (a_leapA ms), ce_J (rB 11) (kB 11) 12 (a_leapB ms), ce_I (rB 12) (kB 12) 3721 (a_fars ms), ce_I (rB 13) (kB 13) 3721 (a_queue ms)]) (ws' := [ce_pw rA , ce_net rA (a_net_t cs) (a_net_n cs) (a_net_units cs) (a_net_spin cs), ce_J (rA 2) (kA 2) 8 (a_reg cs), ce_mak rA (a_mak_common cs) (a_mak_u cs) (a_mak_v cs), ce_fac rA (a_fac_count cs) (a_fac_left cs), ce_J (rA 5) (kA 5) 40 (a_pri cs), ce_rsd rA (a_rsd_found cs), ce_num rA zp.2.1 zp.2.2.1 zp.2.2.2.1 (a_num_tail cs) (a_num_round cs) zp.2.2.2.2.1 zp.2.2.2.2.2.1, ce_I (rA 8) (kA 8) 625 zp.2.2.2.2.2.2, ce_fl (rA 9) (a_fl_p cs) (a_fl_q cs) (a_fl_r cs), ce_fl (rA 10) (a_ot_p cs) (a_ot_q cs) (a_ot_r cs), ce_lea rA (a_lea_count cs), ce_J (rA 12) (kA 12) 12 (a_lps cs), ce_J (rA 13) (kA 13) 61 (a_sen cs), ce_J (rA 14) (kA 14) 61 (a_edg cs), ce_J (rA 15) (kA 15) 61 (a_nxt cs), ce_mod rB (a_mod_t ms) (a_mod_n ms) (a_mod_a ms) (a_mod_b ms) (a_mod_unitMany ms) (a_mod_quotA ms) (a_mod_quotB ms) (a_mod_unitUsed ms) (a_mod_fu ms) (a_mod_fuB ms) (a_mod_fv ms) (a_mod_fvB ms) (a_mod_madeA ms) (a_mod_madeB ms) (a_mod_partMany ms) (a_mod_leftA ms) (a_mod_leftB ms) (a_mod_rootA ms) (a_mod_rootB ms) (a_mod_tail ms) (a_mod_round ms) (a_mod_sum ms) (a_mod_rowMany ms) (a_mod_least ms) (a_mod_leastMany ms) (a_mod_netP ms) (a_mod_netQ ms) (a_mod_netR ms) (a_mod_leapMany ms), ce_J (rB 1) (kB 1) 8 (a_regA ms), ce_J (rB 2) (kB 2) 8 (a_regB ms), ce_J (rB 3) (kB 3) 6 (a_unitA ms), ce_J (rB 4) (kB 4) 6 (a_unitB ms), ce_J (rB 5) (kB 5) 40 (a_partA ms), ce_J (rB 6) (kB 6) 40 (a_partB ms), ce_J (rB 7) (kB 7) 1000 (a_rowA ms), ce_J (rB 8) (kB 8) 1000 (a_rowB ms), ce_I (rB 9) (kB 9) 1000 (a_rowDigit ms), ce_J (rB 10) (kB 10) 12 (a_leapA ms), ce_J (rB 11) (kB 11) 12 (a_leapB ms), ce_I (rB 12) (kB 12) 3721 (a_fars ms), ce_I (rB 13) (kB 13) 3721 (a_queue ms)]) (va_runV (As := [.int (xs (x3 + (1 : Int32)).toNatClampNeg), .int (xs (x3 + (2 : Int32)).toNatClampNeg)]) (rest := []) ⟨hx, hb, hml, hown, hts⟩ (c_X7_rounds l dC dI rA kA H.size (a_net_t cs) (a_net_n cs) (a_net_units cs) (a_net_spin cs) (a_reg cs) (a_num_base cs) (a_num_size cs) (a_num_digitOfW cs) (a_num_tail cs) (a_num_round cs) (a_num_rings cs) (a_num_ringed cs) (a_mrk cs) (xs (x3 + (1 : Int32)).toNatClampNeg) (xs (x3 + (2 : Int32)).toNatClampNeg) hzp) (cwV 2 hts gL_X7_rounds rfl rfl rfl hv_X7_rounds ⟨(Nat.le_of_ble_eq_true rfl), (Nat.le_of_ble_eq_true rfl)⟩) ⟨fb_w, va_recv hK hP (ci := 7) (q0 := 0) rfl rfl, pre_w hPc hDc hKc hN⟩ rfl rfl hl.1 rfl (lv_room (Nat.le_of_ble_eq_true rfl)) dL_law_912 ⟨(Nat.le_of_ble_eq_true rfl), (Nat.le_of_ble_eq_true rfl)⟩) hP hD hS hA [0, 1, 2, 7, 8] [3, 4, 5, 6, 9, 10, 11, 12, 13, 14, 15, 16, 17, 18, 19, 20, 21, 22, 23, 24, 25, 26, 27, 28, 29] [25, 26, 27, 0, 1, 2, 3, 28, 29, 4, 5, 6, 7, 8, 9, 10, 11, 12, 13, 14, 15, 16, 17, 18, 19, 20, 21, 22, 23, 24] rfl rfl rfl (by decide) rfl rfl rfl (fun H locs hP hD hS => ?_)
        refine lv_aload_n hx hb dL_law_915 rfl (lv_at hl 3 rfl) ?_
        refine lv_aload_n hx hb dL_law_916 rfl (lv_at hl 1 rfl) ?_
        refine lv_iload_n hx hb dL_law_917 rfl (lv_at hl 0 rfl) ?_
        refine lv_iconst (v := (1 : Int32)) hx hb dL_law_918 (by decide) ?_
        refine lv_iadd hx hb dL_law_919 ?_
        refine va_sld hx hb hX hbl hbA hS hin1 dL_law_920 ?_
        refine lv_aload_n hx hb dL_law_921 rfl (lv_at hl 1 rfl) ?_
        refine lv_iload_n hx hb dL_law_922 rfl (lv_at hl 0 rfl) ?_
        refine lv_iconst (v := (2 : Int32)) hx hb dL_law_923 (by decide) ?_
        refine lv_iadd hx hb dL_law_924 ?_
        refine va_sld hx hb hX hbl hbA hS hin2 dL_law_925 ?_
        have hPc := hP.sub (ws' := [ce_mod rB (a_mod_t ms) (a_mod_n ms) (a_mod_a ms) (a_mod_b ms) (a_mod_unitMany ms) (a_mod_quotA ms) (a_mod_quotB ms) (a_mod_unitUsed ms) (a_mod_fu ms) (a_mod_fuB ms) (a_mod_fv ms) (a_mod_fvB ms) (a_mod_madeA ms) (a_mod_madeB ms) (a_mod_partMany ms) (a_mod_leftA ms) (a_mod_leftB ms) (a_mod_rootA ms) (a_mod_rootB ms) (a_mod_tail ms) (a_mod_round ms) (a_mod_sum ms) (a_mod_rowMany ms) (a_mod_least ms) (a_mod_leastMany ms) (a_mod_netP ms) (a_mod_netQ ms) (a_mod_netR ms) (a_mod_leapMany ms), ce_J (rB 1) (kB 1) 8 (a_regA ms), ce_J (rB 2) (kB 2) 8 (a_regB ms), ce_J (rB 7) (kB 7) 1000 (a_rowA ms), ce_J (rB 8) (kB 8) 1000 (a_rowB ms), ce_I (rB 9) (kB 9) 1000 (a_rowDigit ms)]) [16, 17, 18, 23, 24, 25] rfl
        have hKc := hK.sub (tys' := [((kB 1), .long), ((kB 2), .long), ((kB 7), .long), ((kB 8), .long), ((kB 9), .int)]) [7, 8, 13, 14, 15] rfl
        have hDc := hD.sub (ws' := [ce_mod rB (a_mod_t ms) (a_mod_n ms) (a_mod_a ms) (a_mod_b ms) (a_mod_unitMany ms) (a_mod_quotA ms) (a_mod_quotB ms) (a_mod_unitUsed ms) (a_mod_fu ms) (a_mod_fuB ms) (a_mod_fv ms) (a_mod_fvB ms) (a_mod_madeA ms) (a_mod_madeB ms) (a_mod_partMany ms) (a_mod_leftA ms) (a_mod_leftB ms) (a_mod_rootA ms) (a_mod_rootB ms) (a_mod_tail ms) (a_mod_round ms) (a_mod_sum ms) (a_mod_rowMany ms) (a_mod_least ms) (a_mod_leastMany ms) (a_mod_netP ms) (a_mod_netQ ms) (a_mod_netR ms) (a_mod_leapMany ms), ce_J (rB 1) (kB 1) 8 (a_regA ms), ce_J (rB 2) (kB 2) 8 (a_regB ms), ce_J (rB 7) (kB 7) 1000 (a_rowA ms), ce_J (rB 8) (kB 8) 1000 (a_rowB ms), ce_I (rB 9) (kB 9) 1000 (a_rowDigit ms)]) [16, 17, 18, 23, 24, 25] rfl rfl
        refine kw_i (wr := [ce_pw rA , ce_net rA (a_net_t cs) (a_net_n cs) (a_net_units cs) (a_net_spin cs), ce_J (rA 2) (kA 2) 8 (a_reg cs), ce_mak rA (a_mak_common cs) (a_mak_u cs) (a_mak_v cs), ce_fac rA (a_fac_count cs) (a_fac_left cs), ce_J (rA 5) (kA 5) 40 (a_pri cs), ce_rsd rA (a_rsd_found cs), ce_num rA zp.2.1 zp.2.2.1 zp.2.2.2.1 (a_num_tail cs) (a_num_round cs) zp.2.2.2.2.1 zp.2.2.2.2.2.1, ce_I (rA 8) (kA 8) 625 zp.2.2.2.2.2.2, ce_fl (rA 9) (a_fl_p cs) (a_fl_q cs) (a_fl_r cs), ce_fl (rA 10) (a_ot_p cs) (a_ot_q cs) (a_ot_r cs), ce_lea rA (a_lea_count cs), ce_J (rA 12) (kA 12) 12 (a_lps cs), ce_J (rA 13) (kA 13) 61 (a_sen cs), ce_J (rA 14) (kA 14) 61 (a_edg cs), ce_J (rA 15) (kA 15) 61 (a_nxt cs), ce_J (rB 3) (kB 3) 6 (a_unitA ms), ce_J (rB 4) (kB 4) 6 (a_unitB ms), ce_J (rB 5) (kB 5) 40 (a_partA ms), ce_J (rB 6) (kB 6) 40 (a_partB ms), ce_J (rB 10) (kB 10) 12 (a_leapA ms), ce_J (rB 11) (kB 11) 12 (a_leapB ms), ce_I (rB 12) (kB 12) 3721 (a_fars ms), ce_I (rB 13) (kB 13) 3721 (a_queue ms)]) (ws' := [ce_pw rA , ce_net rA (a_net_t cs) (a_net_n cs) (a_net_units cs) (a_net_spin cs), ce_J (rA 2) (kA 2) 8 (a_reg cs), ce_mak rA (a_mak_common cs) (a_mak_u cs) (a_mak_v cs), ce_fac rA (a_fac_count cs) (a_fac_left cs), ce_J (rA 5) (kA 5) 40 (a_pri cs), ce_rsd rA (a_rsd_found cs), ce_num rA zp.2.1 zp.2.2.1 zp.2.2.2.1 (a_num_tail cs) (a_num_round cs) zp.2.2.2.2.1 zp.2.2.2.2.2.1, ce_I (rA 8) (kA 8) 625 zp.2.2.2.2.2.2, ce_fl (rA 9) (a_fl_p cs) (a_fl_q cs) (a_fl_r cs), ce_fl (rA 10) (a_ot_p cs) (a_ot_q cs) (a_ot_r cs), ce_lea rA (a_lea_count cs), ce_J (rA 12) (kA 12) 12 (a_lps cs), ce_J (rA 13) (kA 13) 61 (a_sen cs), ce_J (rA 14) (kA 14) 61 (a_edg cs), ce_J (rA 15) (kA 15) 61 (a_nxt cs), ce_mod rB (a_mod_t ms) (a_mod_n ms) zq.2.1 zq.2.2.1 (a_mod_unitMany ms) zq.2.2.2.1 zq.2.2.2.2.1 (a_mod_unitUsed ms) (a_mod_fu ms) (a_mod_fuB ms) (a_mod_fv ms) (a_mod_fvB ms) (a_mod_madeA ms) (a_mod_madeB ms) (a_mod_partMany ms) (a_mod_leftA ms) (a_mod_leftB ms) (a_mod_rootA ms) (a_mod_rootB ms) zq.2.2.2.2.2.1 zq.2.2.2.2.2.2.1 zq.2.2.2.2.2.2.2.1 zq.2.2.2.2.2.2.2.2.1 (a_mod_least ms) (a_mod_leastMany ms) (a_mod_netP ms) (a_mod_netQ ms) (a_mod_netR ms) (a_mod_leapMany ms), ce_J (rB 1) (kB 1) 8 (a_regA ms), ce_J (rB 2) (kB 2) 8 (a_regB ms), ce_J (rB 3) (kB 3) 6 (a_unitA ms), ce_J (rB 4) (kB 4) 6 (a_unitB ms), ce_J (rB 5) (kB 5) 40 (a_partA ms), ce_J (rB 6) (kB 6) 40 (a_partB ms), ce_J (rB 7) (kB 7) 1000 zq.2.2.2.2.2.2.2.2.2.1, ce_J (rB 8) (kB 8) 1000 zq.2.2.2.2.2.2.2.2.2.2.1, ce_I (rB 9) (kB 9) 1000 zq.2.2.2.2.2.2.2.2.2.2.2, ce_J (rB 10) (kB 10) 12 (a_leapA ms), ce_J (rB 11) (kB 11) 12 (a_leapB ms), ce_I (rB 12) (kB 12) 3721 (a_fars ms), ce_I (rB 13) (kB 13) 3721 (a_queue ms)]) (va_runV (As := [.int (xs (x3 + (1 : Int32)).toNatClampNeg), .int (xs (x3 + (2 : Int32)).toNatClampNeg)]) (rest := [.int zp.1]) ⟨hx, hb, hml, hown, hts⟩ (c_X8_rounds l dC dI rB kB H.size (a_mod_t ms) (a_mod_n ms) (a_mod_a ms) (a_mod_b ms) (a_mod_unitMany ms) (a_mod_quotA ms) (a_mod_quotB ms) (a_mod_unitUsed ms) (a_mod_fu ms) (a_mod_fuB ms) (a_mod_fv ms) (a_mod_fvB ms) (a_mod_madeA ms) (a_mod_madeB ms) (a_mod_partMany ms) (a_mod_leftA ms) (a_mod_leftB ms) (a_mod_rootA ms) (a_mod_rootB ms) (a_mod_tail ms) (a_mod_round ms) (a_mod_sum ms) (a_mod_rowMany ms) (a_mod_least ms) (a_mod_leastMany ms) (a_mod_netP ms) (a_mod_netQ ms) (a_mod_netR ms) (a_mod_leapMany ms) (a_regA ms) (a_regB ms) (a_rowA ms) (a_rowB ms) (a_rowDigit ms) (xs (x3 + (1 : Int32)).toNatClampNeg) (xs (x3 + (2 : Int32)).toNatClampNeg) hzq) (cwV 2 hts gL_X8_rounds rfl rfl rfl hv_X8_rounds ⟨(Nat.le_of_ble_eq_true rfl), (Nat.le_of_ble_eq_true rfl)⟩) ⟨fb_w, va_recv hK hP (ci := 8) (q0 := 16) rfl rfl, pre_w hPc hDc hKc hN⟩ rfl rfl hl.1 rfl (lv_room (Nat.le_of_ble_eq_true rfl)) dL_law_926 ⟨(Nat.le_of_ble_eq_true rfl), (Nat.le_of_ble_eq_true rfl)⟩) hP hD hS hA [16, 17, 18, 23, 24, 25] [0, 1, 2, 3, 4, 5, 6, 7, 8, 9, 10, 11, 12, 13, 14, 15, 19, 20, 21, 22, 26, 27, 28, 29] [0, 1, 2, 3, 4, 5, 6, 7, 8, 9, 10, 11, 12, 13, 14, 15, 24, 25, 26, 16, 17, 18, 19, 27, 28, 29, 20, 21, 22, 23] rfl rfl rfl (by decide) rfl rfl rfl (fun H locs hP hD hS => ?_)
        refine lv_icmp_eq (tgt := 1298) hx hb dL_law_929 (by decide) (fun c1 => ?_) (fun c1 => absurd hzr c1)
        exact hnext ((a_net_t cs), (a_net_n cs), (a_net_units cs), (a_net_spin cs), (a_reg cs), (a_mak_common cs), (a_mak_u cs), (a_mak_v cs), (a_fac_count cs), (a_fac_left cs), (a_pri cs), (a_rsd_found cs), zp.2.1, zp.2.2.1, zp.2.2.2.1, (a_num_tail cs), (a_num_round cs), zp.2.2.2.2.1, zp.2.2.2.2.2.1, zp.2.2.2.2.2.2, (a_fl_p cs), (a_fl_q cs), (a_fl_r cs), (a_ot_p cs), (a_ot_q cs), (a_ot_r cs), (a_lea_count cs), (a_lps cs), (a_sen cs), (a_edg cs), (a_nxt cs)) ((a_mod_t ms), (a_mod_n ms), zq.2.1, zq.2.2.1, (a_mod_unitMany ms), zq.2.2.2.1, zq.2.2.2.2.1, (a_mod_unitUsed ms), (a_mod_fu ms), (a_mod_fuB ms), (a_mod_fv ms), (a_mod_fvB ms), (a_mod_madeA ms), (a_mod_madeB ms), (a_mod_partMany ms), (a_mod_leftA ms), (a_mod_leftB ms), (a_mod_rootA ms), (a_mod_rootB ms), zq.2.2.2.2.2.1, zq.2.2.2.2.2.2.1, zq.2.2.2.2.2.2.2.1, zq.2.2.2.2.2.2.2.2.1, (a_mod_least ms), (a_mod_leastMany ms), (a_mod_netP ms), (a_mod_netQ ms), (a_mod_netR ms), (a_mod_leapMany ms), (a_regA ms), (a_regB ms), (a_unitA ms), (a_unitB ms), (a_partA ms), (a_partB ms), zq.2.2.2.2.2.2.2.2.2.1, zq.2.2.2.2.2.2.2.2.2.2.1, zq.2.2.2.2.2.2.2.2.2.2.2, (a_leapA ms), (a_leapB ms), (a_fars ms), (a_queue ms)) H locs ls hR hP hD hS hl
      by_cases g_21 : sel = (21 : Int32)
      · refine lv_tableIn (tgt := 934) hx hb dL_law_33 (by rw [g_21]; decide) (by rw [g_21]; decide) (by rw [g_21]; rfl) (by decide) ?_
        clear g_21 hsel
        refine lv_aload_n hx hb dL_law_934 rfl (lv_at hl 2 rfl) ?_
        refine lv_aload_n hx hb dL_law_935 rfl (lv_at hl 1 rfl) ?_
        refine lv_iload_n hx hb dL_law_936 rfl (lv_at hl 0 rfl) ?_
        refine lv_iconst (v := (1 : Int32)) hx hb dL_law_937 (by decide) ?_
        refine lv_iadd hx hb dL_law_938 ?_
        refine va_sld hx hb hX hbl hbA hS hin1 dL_law_939 ?_
        refine lv_aload_n hx hb dL_law_940 rfl (lv_at hl 1 rfl) ?_
        refine lv_iload_n hx hb dL_law_941 rfl (lv_at hl 0 rfl) ?_
        refine lv_iconst (v := (2 : Int32)) hx hb dL_law_942 (by decide) ?_
        refine lv_iadd hx hb dL_law_943 ?_
        refine va_sld hx hb hX hbl hbA hS hin2 dL_law_944 ?_
        obtain ⟨zp, zq, hzp, hzq, hzr, hR⟩ := hm_flocks cs ms hR (xs (x3 + (1 : Int32)).toNatClampNeg) (xs (x3 + (2 : Int32)).toNatClampNeg)
        have hPc := hP.sub (ws' := [ce_pw rA , ce_net rA (a_net_t cs) (a_net_n cs) (a_net_units cs) (a_net_spin cs), ce_fl (rA 9) (a_fl_p cs) (a_fl_q cs) (a_fl_r cs)]) [0, 1, 9] rfl
        have hKc := hK.sub (tys' := []) [] rfl
        have hDc := hD.sub (ws' := [ce_pw rA , ce_net rA (a_net_t cs) (a_net_n cs) (a_net_units cs) (a_net_spin cs), ce_fl (rA 9) (a_fl_p cs) (a_fl_q cs) (a_fl_r cs)]) [0, 1, 9] rfl rfl
        refine kw_i (wr := [ce_J (rA 2) (kA 2) 8 (a_reg cs), ce_mak rA (a_mak_common cs) (a_mak_u cs) (a_mak_v cs), ce_fac rA (a_fac_count cs) (a_fac_left cs), ce_J (rA 5) (kA 5) 40 (a_pri cs), ce_rsd rA (a_rsd_found cs), ce_num rA (a_num_base cs) (a_num_size cs) (a_num_digitOfW cs) (a_num_tail cs) (a_num_round cs) (a_num_rings cs) (a_num_ringed cs), ce_I (rA 8) (kA 8) 625 (a_mrk cs), ce_fl (rA 10) (a_ot_p cs) (a_ot_q cs) (a_ot_r cs), ce_lea rA (a_lea_count cs), ce_J (rA 12) (kA 12) 12 (a_lps cs), ce_J (rA 13) (kA 13) 61 (a_sen cs), ce_J (rA 14) (kA 14) 61 (a_edg cs), ce_J (rA 15) (kA 15) 61 (a_nxt cs), ce_mod rB (a_mod_t ms) (a_mod_n ms) (a_mod_a ms) (a_mod_b ms) (a_mod_unitMany ms) (a_mod_quotA ms) (a_mod_quotB ms) (a_mod_unitUsed ms) (a_mod_fu ms) (a_mod_fuB ms) (a_mod_fv ms) (a_mod_fvB ms) (a_mod_madeA ms) (a_mod_madeB ms) (a_mod_partMany ms) (a_mod_leftA ms) (a_mod_leftB ms) (a_mod_rootA ms) (a_mod_rootB ms) (a_mod_tail ms) (a_mod_round ms) (a_mod_sum ms) (a_mod_rowMany ms) (a_mod_least ms) (a_mod_leastMany ms) (a_mod_netP ms) (a_mod_netQ ms) (a_mod_netR ms) (a_mod_leapMany ms), ce_J (rB 1) (kB 1) 8 (a_regA ms), ce_J (rB 2) (kB 2) 8 (a_regB ms), ce_J (rB 3) (kB 3) 6 (a_unitA ms), ce_J (rB 4) (kB 4) 6 (a_unitB ms), ce_J (rB 5) (kB 5) 40 (a_partA ms), ce_J (rB 6) (kB 6) 40 (a_partB ms), ce_J (rB 7) (kB 7) 1000 (a_rowA ms), ce_J (rB 8) (kB 8) 1000 (a_rowB ms), ce_I (rB 9) (kB 9) 1000 (a_rowDigit ms), ce_J (rB 10) (kB 10) 12 (a_leapA ms), ce_J (rB 11) (kB 11) 12 (a_leapB ms), ce_I (rB 12) (kB 12) 3721 (a_fars ms), ce_I (rB 13) (kB 13) 3721 (a_queue ms)]) (ws' := [ce_pw rA , ce_net rA (a_net_t cs) (a_net_n cs) (a_net_units cs) (a_net_spin cs), ce_J (rA 2) (kA 2) 8 (a_reg cs), ce_mak rA (a_mak_common cs) (a_mak_u cs) (a_mak_v cs), ce_fac rA (a_fac_count cs) (a_fac_left cs), ce_J (rA 5) (kA 5) 40 (a_pri cs), ce_rsd rA (a_rsd_found cs), ce_num rA (a_num_base cs) (a_num_size cs) (a_num_digitOfW cs) (a_num_tail cs) (a_num_round cs) (a_num_rings cs) (a_num_ringed cs), ce_I (rA 8) (kA 8) 625 (a_mrk cs), ce_fl (rA 9) zp.2.1 zp.2.2.1 zp.2.2.2, ce_fl (rA 10) (a_ot_p cs) (a_ot_q cs) (a_ot_r cs), ce_lea rA (a_lea_count cs), ce_J (rA 12) (kA 12) 12 (a_lps cs), ce_J (rA 13) (kA 13) 61 (a_sen cs), ce_J (rA 14) (kA 14) 61 (a_edg cs), ce_J (rA 15) (kA 15) 61 (a_nxt cs), ce_mod rB (a_mod_t ms) (a_mod_n ms) (a_mod_a ms) (a_mod_b ms) (a_mod_unitMany ms) (a_mod_quotA ms) (a_mod_quotB ms) (a_mod_unitUsed ms) (a_mod_fu ms) (a_mod_fuB ms) (a_mod_fv ms) (a_mod_fvB ms) (a_mod_madeA ms) (a_mod_madeB ms) (a_mod_partMany ms) (a_mod_leftA ms) (a_mod_leftB ms) (a_mod_rootA ms) (a_mod_rootB ms) (a_mod_tail ms) (a_mod_round ms) (a_mod_sum ms) (a_mod_rowMany ms) (a_mod_least ms) (a_mod_leastMany ms) (a_mod_netP ms) (a_mod_netQ ms) (a_mod_netR ms) (a_mod_leapMany ms), ce_J (rB 1) (kB 1) 8 (a_regA ms), ce_J (rB 2) (kB 2) 8 (a_regB ms), ce_J (rB 3) (kB 3) 6 (a_unitA ms), ce_J (rB 4) (kB 4) 6 (a_unitB ms), ce_J (rB 5) (kB 5) 40 (a_partA ms), ce_J (rB 6) (kB 6) 40 (a_partB ms), ce_J (rB 7) (kB 7) 1000 (a_rowA ms), ce_J (rB 8) (kB 8) 1000 (a_rowB ms), ce_I (rB 9) (kB 9) 1000 (a_rowDigit ms), ce_J (rB 10) (kB 10) 12 (a_leapA ms), ce_J (rB 11) (kB 11) 12 (a_leapB ms), ce_I (rB 12) (kB 12) 3721 (a_fars ms), ce_I (rB 13) (kB 13) 3721 (a_queue ms)]) (va_runV (As := [.int (xs (x3 + (1 : Int32)).toNatClampNeg), .int (xs (x3 + (2 : Int32)).toNatClampNeg)]) (rest := []) ⟨hx, hb, hml, hown, hts⟩ (c_X7_flocks l dC dI rA kA H.size (a_net_t cs) (a_net_n cs) (a_net_units cs) (a_net_spin cs) (a_fl_p cs) (a_fl_q cs) (a_fl_r cs) (xs (x3 + (1 : Int32)).toNatClampNeg) (xs (x3 + (2 : Int32)).toNatClampNeg) hzp) (cwV 2 hts gL_X7_flocks rfl rfl rfl hv_X7_flocks ⟨(Nat.le_of_ble_eq_true rfl), (Nat.le_of_ble_eq_true rfl)⟩) ⟨fb_w, va_recv hK hP (ci := 7) (q0 := 0) rfl rfl, pre_w hPc hDc hKc hN⟩ rfl rfl hl.1 rfl (lv_room (Nat.le_of_ble_eq_true rfl)) dL_law_945 ⟨(Nat.le_of_ble_eq_true rfl), (Nat.le_of_ble_eq_true rfl)⟩) hP hD hS hA [0, 1, 9] [2, 3, 4, 5, 6, 7, 8, 10, 11, 12, 13, 14, 15, 16, 17, 18, 19, 20, 21, 22, 23, 24, 25, 26, 27, 28, 29] [27, 28, 0, 1, 2, 3, 4, 5, 6, 29, 7, 8, 9, 10, 11, 12, 13, 14, 15, 16, 17, 18, 19, 20, 21, 22, 23, 24, 25, 26] rfl rfl rfl (by decide) rfl rfl rfl (fun H locs hP hD hS => ?_)
        refine lv_aload_n hx hb dL_law_948 rfl (lv_at hl 3 rfl) ?_
        refine lv_aload_n hx hb dL_law_949 rfl (lv_at hl 1 rfl) ?_
        refine lv_iload_n hx hb dL_law_950 rfl (lv_at hl 0 rfl) ?_
        refine lv_iconst (v := (1 : Int32)) hx hb dL_law_951 (by decide) ?_
        refine lv_iadd hx hb dL_law_952 ?_
        refine va_sld hx hb hX hbl hbA hS hin1 dL_law_953 ?_
        refine lv_aload_n hx hb dL_law_954 rfl (lv_at hl 1 rfl) ?_
        refine lv_iload_n hx hb dL_law_955 rfl (lv_at hl 0 rfl) ?_
        refine lv_iconst (v := (2 : Int32)) hx hb dL_law_956 (by decide) ?_
        refine lv_iadd hx hb dL_law_957 ?_
        refine va_sld hx hb hX hbl hbA hS hin2 dL_law_958 ?_
        have hPc := hP.sub (ws' := [ce_mod rB (a_mod_t ms) (a_mod_n ms) (a_mod_a ms) (a_mod_b ms) (a_mod_unitMany ms) (a_mod_quotA ms) (a_mod_quotB ms) (a_mod_unitUsed ms) (a_mod_fu ms) (a_mod_fuB ms) (a_mod_fv ms) (a_mod_fvB ms) (a_mod_madeA ms) (a_mod_madeB ms) (a_mod_partMany ms) (a_mod_leftA ms) (a_mod_leftB ms) (a_mod_rootA ms) (a_mod_rootB ms) (a_mod_tail ms) (a_mod_round ms) (a_mod_sum ms) (a_mod_rowMany ms) (a_mod_least ms) (a_mod_leastMany ms) (a_mod_netP ms) (a_mod_netQ ms) (a_mod_netR ms) (a_mod_leapMany ms)]) [16] rfl
        have hKc := hK.sub (tys' := []) [] rfl
        refine kp_i (va_runV (As := [.int (xs (x3 + (1 : Int32)).toNatClampNeg), .int (xs (x3 + (2 : Int32)).toNatClampNeg)]) (rest := [.int zp.1]) ⟨hx, hb, hml, hown, hts⟩ (c_X8_flocks l dC dI rB kB (a_mod_t ms) (a_mod_n ms) (a_mod_a ms) (a_mod_b ms) (a_mod_unitMany ms) (a_mod_quotA ms) (a_mod_quotB ms) (a_mod_unitUsed ms) (a_mod_fu ms) (a_mod_fuB ms) (a_mod_fv ms) (a_mod_fvB ms) (a_mod_madeA ms) (a_mod_madeB ms) (a_mod_partMany ms) (a_mod_leftA ms) (a_mod_leftB ms) (a_mod_rootA ms) (a_mod_rootB ms) (a_mod_tail ms) (a_mod_round ms) (a_mod_sum ms) (a_mod_rowMany ms) (a_mod_least ms) (a_mod_leastMany ms) (a_mod_netP ms) (a_mod_netQ ms) (a_mod_netR ms) (a_mod_leapMany ms) (xs (x3 + (1 : Int32)).toNatClampNeg) (xs (x3 + (2 : Int32)).toNatClampNeg) hzq) (cwV 2 hts gL_X8_flocks rfl rfl rfl hv_X8_flocks ⟨(Nat.le_of_ble_eq_true rfl), (Nat.le_of_ble_eq_true rfl)⟩) ⟨fb_p, va_recv hK hP (ci := 8) (q0 := 16) rfl rfl, pre_p hPc hKc hN⟩ rfl rfl hl.1 rfl (lv_room (Nat.le_of_ble_eq_true rfl)) dL_law_959 ⟨(Nat.le_of_ble_eq_true rfl), (Nat.le_of_ble_eq_true rfl)⟩) ?_
        refine lv_icmp_eq (tgt := 1298) hx hb dL_law_962 (by decide) (fun c1 => ?_) (fun c1 => absurd hzr c1)
        exact hnext ((a_net_t cs), (a_net_n cs), (a_net_units cs), (a_net_spin cs), (a_reg cs), (a_mak_common cs), (a_mak_u cs), (a_mak_v cs), (a_fac_count cs), (a_fac_left cs), (a_pri cs), (a_rsd_found cs), (a_num_base cs), (a_num_size cs), (a_num_digitOfW cs), (a_num_tail cs), (a_num_round cs), (a_num_rings cs), (a_num_ringed cs), (a_mrk cs), zp.2.1, zp.2.2.1, zp.2.2.2, (a_ot_p cs), (a_ot_q cs), (a_ot_r cs), (a_lea_count cs), (a_lps cs), (a_sen cs), (a_edg cs), (a_nxt cs)) ((a_mod_t ms), (a_mod_n ms), (a_mod_a ms), (a_mod_b ms), (a_mod_unitMany ms), (a_mod_quotA ms), (a_mod_quotB ms), (a_mod_unitUsed ms), (a_mod_fu ms), (a_mod_fuB ms), (a_mod_fv ms), (a_mod_fvB ms), (a_mod_madeA ms), (a_mod_madeB ms), (a_mod_partMany ms), (a_mod_leftA ms), (a_mod_leftB ms), (a_mod_rootA ms), (a_mod_rootB ms), (a_mod_tail ms), (a_mod_round ms), (a_mod_sum ms), (a_mod_rowMany ms), (a_mod_least ms), (a_mod_leastMany ms), (a_mod_netP ms), (a_mod_netQ ms), (a_mod_netR ms), (a_mod_leapMany ms), (a_regA ms), (a_regB ms), (a_unitA ms), (a_unitB ms), (a_partA ms), (a_partB ms), (a_rowA ms), (a_rowB ms), (a_rowDigit ms), (a_leapA ms), (a_leapB ms), (a_fars ms), (a_queue ms)) H locs ls hR hP hD hS hl
      by_cases g_22 : sel = (22 : Int32)
      · refine lv_tableIn (tgt := 967) hx hb dL_law_33 (by rw [g_22]; decide) (by rw [g_22]; decide) (by rw [g_22]; rfl) (by decide) ?_
        clear g_22 hsel
        refine lv_aload_n hx hb dL_law_967 rfl (lv_at hl 2 rfl) ?_
        refine lv_aload_n hx hb dL_law_968 rfl (lv_at hl 1 rfl) ?_
        refine lv_iload_n hx hb dL_law_969 rfl (lv_at hl 0 rfl) ?_
        refine lv_iconst (v := (1 : Int32)) hx hb dL_law_970 (by decide) ?_
        refine lv_iadd hx hb dL_law_971 ?_
        refine va_sld hx hb hX hbl hbA hS hin1 dL_law_972 ?_
        refine lv_aload_n hx hb dL_law_973 rfl (lv_at hl 1 rfl) ?_
        refine lv_iload_n hx hb dL_law_974 rfl (lv_at hl 0 rfl) ?_
        refine lv_iconst (v := (2 : Int32)) hx hb dL_law_975 (by decide) ?_
        refine lv_iadd hx hb dL_law_976 ?_
        refine va_sld hx hb hX hbl hbA hS hin2 dL_law_977 ?_
        refine lv_aload_n hx hb dL_law_978 rfl (lv_at hl 1 rfl) ?_
        refine lv_iload_n hx hb dL_law_979 rfl (lv_at hl 0 rfl) ?_
        refine lv_iconst (v := (3 : Int32)) hx hb dL_law_980 (by decide) ?_
        refine lv_iadd hx hb dL_law_981 ?_
        refine va_sld hx hb hX hbl hbA hS hin3 dL_law_982 ?_
        obtain ⟨zp, zq, hzp, hzq, hzr, hR⟩ := hm_flock cs ms hR (xs (x3 + (1 : Int32)).toNatClampNeg) (xs (x3 + (2 : Int32)).toNatClampNeg) (xs (x3 + (3 : Int32)).toNatClampNeg)
        have hPc := hP.sub (ws' := [ce_pw rA , ce_net rA (a_net_t cs) (a_net_n cs) (a_net_units cs) (a_net_spin cs), ce_fl (rA 9) (a_fl_p cs) (a_fl_q cs) (a_fl_r cs)]) [0, 1, 9] rfl
        have hKc := hK.sub (tys' := []) [] rfl
        have hDc := hD.sub (ws' := [ce_pw rA , ce_net rA (a_net_t cs) (a_net_n cs) (a_net_units cs) (a_net_spin cs), ce_fl (rA 9) (a_fl_p cs) (a_fl_q cs) (a_fl_r cs)]) [0, 1, 9] rfl rfl
        refine kw_i (wr := [ce_J (rA 2) (kA 2) 8 (a_reg cs), ce_mak rA (a_mak_common cs) (a_mak_u cs) (a_mak_v cs), ce_fac rA (a_fac_count cs) (a_fac_left cs), ce_J (rA 5) (kA 5) 40 (a_pri cs), ce_rsd rA (a_rsd_found cs), ce_num rA (a_num_base cs) (a_num_size cs) (a_num_digitOfW cs) (a_num_tail cs) (a_num_round cs) (a_num_rings cs) (a_num_ringed cs), ce_I (rA 8) (kA 8) 625 (a_mrk cs), ce_fl (rA 10) (a_ot_p cs) (a_ot_q cs) (a_ot_r cs), ce_lea rA (a_lea_count cs), ce_J (rA 12) (kA 12) 12 (a_lps cs), ce_J (rA 13) (kA 13) 61 (a_sen cs), ce_J (rA 14) (kA 14) 61 (a_edg cs), ce_J (rA 15) (kA 15) 61 (a_nxt cs), ce_mod rB (a_mod_t ms) (a_mod_n ms) (a_mod_a ms) (a_mod_b ms) (a_mod_unitMany ms) (a_mod_quotA ms) (a_mod_quotB ms) (a_mod_unitUsed ms) (a_mod_fu ms) (a_mod_fuB ms) (a_mod_fv ms) (a_mod_fvB ms) (a_mod_madeA ms) (a_mod_madeB ms) (a_mod_partMany ms) (a_mod_leftA ms) (a_mod_leftB ms) (a_mod_rootA ms) (a_mod_rootB ms) (a_mod_tail ms) (a_mod_round ms) (a_mod_sum ms) (a_mod_rowMany ms) (a_mod_least ms) (a_mod_leastMany ms) (a_mod_netP ms) (a_mod_netQ ms) (a_mod_netR ms) (a_mod_leapMany ms), ce_J (rB 1) (kB 1) 8 (a_regA ms), ce_J (rB 2) (kB 2) 8 (a_regB ms), ce_J (rB 3) (kB 3) 6 (a_unitA ms), ce_J (rB 4) (kB 4) 6 (a_unitB ms), ce_J (rB 5) (kB 5) 40 (a_partA ms), ce_J (rB 6) (kB 6) 40 (a_partB ms), ce_J (rB 7) (kB 7) 1000 (a_rowA ms), ce_J (rB 8) (kB 8) 1000 (a_rowB ms), ce_I (rB 9) (kB 9) 1000 (a_rowDigit ms), ce_J (rB 10) (kB 10) 12 (a_leapA ms), ce_J (rB 11) (kB 11) 12 (a_leapB ms), ce_I (rB 12) (kB 12) 3721 (a_fars ms), ce_I (rB 13) (kB 13) 3721 (a_queue ms)]) (ws' := [ce_pw rA , ce_net rA (a_net_t cs) (a_net_n cs) (a_net_units cs) (a_net_spin cs), ce_J (rA 2) (kA 2) 8 (a_reg cs), ce_mak rA (a_mak_common cs) (a_mak_u cs) (a_mak_v cs), ce_fac rA (a_fac_count cs) (a_fac_left cs), ce_J (rA 5) (kA 5) 40 (a_pri cs), ce_rsd rA (a_rsd_found cs), ce_num rA (a_num_base cs) (a_num_size cs) (a_num_digitOfW cs) (a_num_tail cs) (a_num_round cs) (a_num_rings cs) (a_num_ringed cs), ce_I (rA 8) (kA 8) 625 (a_mrk cs), ce_fl (rA 9) zp.2.1 zp.2.2.1 zp.2.2.2, ce_fl (rA 10) (a_ot_p cs) (a_ot_q cs) (a_ot_r cs), ce_lea rA (a_lea_count cs), ce_J (rA 12) (kA 12) 12 (a_lps cs), ce_J (rA 13) (kA 13) 61 (a_sen cs), ce_J (rA 14) (kA 14) 61 (a_edg cs), ce_J (rA 15) (kA 15) 61 (a_nxt cs), ce_mod rB (a_mod_t ms) (a_mod_n ms) (a_mod_a ms) (a_mod_b ms) (a_mod_unitMany ms) (a_mod_quotA ms) (a_mod_quotB ms) (a_mod_unitUsed ms) (a_mod_fu ms) (a_mod_fuB ms) (a_mod_fv ms) (a_mod_fvB ms) (a_mod_madeA ms) (a_mod_madeB ms) (a_mod_partMany ms) (a_mod_leftA ms) (a_mod_leftB ms) (a_mod_rootA ms) (a_mod_rootB ms) (a_mod_tail ms) (a_mod_round ms) (a_mod_sum ms) (a_mod_rowMany ms) (a_mod_least ms) (a_mod_leastMany ms) (a_mod_netP ms) (a_mod_netQ ms) (a_mod_netR ms) (a_mod_leapMany ms), ce_J (rB 1) (kB 1) 8 (a_regA ms), ce_J (rB 2) (kB 2) 8 (a_regB ms), ce_J (rB 3) (kB 3) 6 (a_unitA ms), ce_J (rB 4) (kB 4) 6 (a_unitB ms), ce_J (rB 5) (kB 5) 40 (a_partA ms), ce_J (rB 6) (kB 6) 40 (a_partB ms), ce_J (rB 7) (kB 7) 1000 (a_rowA ms), ce_J (rB 8) (kB 8) 1000 (a_rowB ms), ce_I (rB 9) (kB 9) 1000 (a_rowDigit ms), ce_J (rB 10) (kB 10) 12 (a_leapA ms), ce_J (rB 11) (kB 11) 12 (a_leapB ms), ce_I (rB 12) (kB 12) 3721 (a_fars ms), ce_I (rB 13) (kB 13) 3721 (a_queue ms)]) (va_runV (As := [.int (xs (x3 + (1 : Int32)).toNatClampNeg), .int (xs (x3 + (2 : Int32)).toNatClampNeg), .int (xs (x3 + (3 : Int32)).toNatClampNeg)]) (rest := []) ⟨hx, hb, hml, hown, hts⟩ (c_X7_flock l dC dI rA kA H.size (a_net_t cs) (a_net_n cs) (a_net_units cs) (a_net_spin cs) (a_fl_p cs) (a_fl_q cs) (a_fl_r cs) (xs (x3 + (1 : Int32)).toNatClampNeg) (xs (x3 + (2 : Int32)).toNatClampNeg) (xs (x3 + (3 : Int32)).toNatClampNeg) hzp) (cwV 3 hts gL_X7_flock rfl rfl rfl hv_X7_flock ⟨(Nat.le_of_ble_eq_true rfl), (Nat.le_of_ble_eq_true rfl)⟩) ⟨fb_w, va_recv hK hP (ci := 7) (q0 := 0) rfl rfl, pre_w hPc hDc hKc hN⟩ rfl rfl hl.1 rfl (lv_room (Nat.le_of_ble_eq_true rfl)) dL_law_983 ⟨(Nat.le_of_ble_eq_true rfl), (Nat.le_of_ble_eq_true rfl)⟩) hP hD hS hA [0, 1, 9] [2, 3, 4, 5, 6, 7, 8, 10, 11, 12, 13, 14, 15, 16, 17, 18, 19, 20, 21, 22, 23, 24, 25, 26, 27, 28, 29] [27, 28, 0, 1, 2, 3, 4, 5, 6, 29, 7, 8, 9, 10, 11, 12, 13, 14, 15, 16, 17, 18, 19, 20, 21, 22, 23, 24, 25, 26] rfl rfl rfl (by decide) rfl rfl rfl (fun H locs hP hD hS => ?_)
        refine lv_aload_n hx hb dL_law_986 rfl (lv_at hl 3 rfl) ?_
        refine lv_aload_n hx hb dL_law_987 rfl (lv_at hl 1 rfl) ?_
        refine lv_iload_n hx hb dL_law_988 rfl (lv_at hl 0 rfl) ?_
        refine lv_iconst (v := (1 : Int32)) hx hb dL_law_989 (by decide) ?_
        refine lv_iadd hx hb dL_law_990 ?_
        refine va_sld hx hb hX hbl hbA hS hin1 dL_law_991 ?_
        refine lv_aload_n hx hb dL_law_992 rfl (lv_at hl 1 rfl) ?_
        refine lv_iload_n hx hb dL_law_993 rfl (lv_at hl 0 rfl) ?_
        refine lv_iconst (v := (2 : Int32)) hx hb dL_law_994 (by decide) ?_
        refine lv_iadd hx hb dL_law_995 ?_
        refine va_sld hx hb hX hbl hbA hS hin2 dL_law_996 ?_
        refine lv_aload_n hx hb dL_law_997 rfl (lv_at hl 1 rfl) ?_
        refine lv_iload_n hx hb dL_law_998 rfl (lv_at hl 0 rfl) ?_
        refine lv_iconst (v := (3 : Int32)) hx hb dL_law_999 (by decide) ?_
        refine lv_iadd hx hb dL_law_1000 ?_
        refine va_sld hx hb hX hbl hbA hS hin3 dL_law_1001 ?_
        have hPc := hP.sub (ws' := [ce_mod rB (a_mod_t ms) (a_mod_n ms) (a_mod_a ms) (a_mod_b ms) (a_mod_unitMany ms) (a_mod_quotA ms) (a_mod_quotB ms) (a_mod_unitUsed ms) (a_mod_fu ms) (a_mod_fuB ms) (a_mod_fv ms) (a_mod_fvB ms) (a_mod_madeA ms) (a_mod_madeB ms) (a_mod_partMany ms) (a_mod_leftA ms) (a_mod_leftB ms) (a_mod_rootA ms) (a_mod_rootB ms) (a_mod_tail ms) (a_mod_round ms) (a_mod_sum ms) (a_mod_rowMany ms) (a_mod_least ms) (a_mod_leastMany ms) (a_mod_netP ms) (a_mod_netQ ms) (a_mod_netR ms) (a_mod_leapMany ms)]) [16] rfl
        have hKc := hK.sub (tys' := []) [] rfl
        have hDc := hD.sub (ws' := [ce_mod rB (a_mod_t ms) (a_mod_n ms) (a_mod_a ms) (a_mod_b ms) (a_mod_unitMany ms) (a_mod_quotA ms) (a_mod_quotB ms) (a_mod_unitUsed ms) (a_mod_fu ms) (a_mod_fuB ms) (a_mod_fv ms) (a_mod_fvB ms) (a_mod_madeA ms) (a_mod_madeB ms) (a_mod_partMany ms) (a_mod_leftA ms) (a_mod_leftB ms) (a_mod_rootA ms) (a_mod_rootB ms) (a_mod_tail ms) (a_mod_round ms) (a_mod_sum ms) (a_mod_rowMany ms) (a_mod_least ms) (a_mod_leastMany ms) (a_mod_netP ms) (a_mod_netQ ms) (a_mod_netR ms) (a_mod_leapMany ms)]) [16] rfl rfl
        refine kw_i (wr := [ce_pw rA , ce_net rA (a_net_t cs) (a_net_n cs) (a_net_units cs) (a_net_spin cs), ce_J (rA 2) (kA 2) 8 (a_reg cs), ce_mak rA (a_mak_common cs) (a_mak_u cs) (a_mak_v cs), ce_fac rA (a_fac_count cs) (a_fac_left cs), ce_J (rA 5) (kA 5) 40 (a_pri cs), ce_rsd rA (a_rsd_found cs), ce_num rA (a_num_base cs) (a_num_size cs) (a_num_digitOfW cs) (a_num_tail cs) (a_num_round cs) (a_num_rings cs) (a_num_ringed cs), ce_I (rA 8) (kA 8) 625 (a_mrk cs), ce_fl (rA 9) zp.2.1 zp.2.2.1 zp.2.2.2, ce_fl (rA 10) (a_ot_p cs) (a_ot_q cs) (a_ot_r cs), ce_lea rA (a_lea_count cs), ce_J (rA 12) (kA 12) 12 (a_lps cs), ce_J (rA 13) (kA 13) 61 (a_sen cs), ce_J (rA 14) (kA 14) 61 (a_edg cs), ce_J (rA 15) (kA 15) 61 (a_nxt cs), ce_J (rB 1) (kB 1) 8 (a_regA ms), ce_J (rB 2) (kB 2) 8 (a_regB ms), ce_J (rB 3) (kB 3) 6 (a_unitA ms), ce_J (rB 4) (kB 4) 6 (a_unitB ms), ce_J (rB 5) (kB 5) 40 (a_partA ms), ce_J (rB 6) (kB 6) 40 (a_partB ms), ce_J (rB 7) (kB 7) 1000 (a_rowA ms), ce_J (rB 8) (kB 8) 1000 (a_rowB ms), ce_I (rB 9) (kB 9) 1000 (a_rowDigit ms), ce_J (rB 10) (kB 10) 12 (a_leapA ms), ce_J (rB 11) (kB 11) 12 (a_leapB ms), ce_I (rB 12) (kB 12) 3721 (a_fars ms), ce_I (rB 13) (kB 13) 3721 (a_queue ms)]) (ws' := [ce_pw rA , ce_net rA (a_net_t cs) (a_net_n cs) (a_net_units cs) (a_net_spin cs), ce_J (rA 2) (kA 2) 8 (a_reg cs), ce_mak rA (a_mak_common cs) (a_mak_u cs) (a_mak_v cs), ce_fac rA (a_fac_count cs) (a_fac_left cs), ce_J (rA 5) (kA 5) 40 (a_pri cs), ce_rsd rA (a_rsd_found cs), ce_num rA (a_num_base cs) (a_num_size cs) (a_num_digitOfW cs) (a_num_tail cs) (a_num_round cs) (a_num_rings cs) (a_num_ringed cs), ce_I (rA 8) (kA 8) 625 (a_mrk cs), ce_fl (rA 9) zp.2.1 zp.2.2.1 zp.2.2.2, ce_fl (rA 10) (a_ot_p cs) (a_ot_q cs) (a_ot_r cs), ce_lea rA (a_lea_count cs), ce_J (rA 12) (kA 12) 12 (a_lps cs), ce_J (rA 13) (kA 13) 61 (a_sen cs), ce_J (rA 14) (kA 14) 61 (a_edg cs), ce_J (rA 15) (kA 15) 61 (a_nxt cs), ce_mod rB (a_mod_t ms) (a_mod_n ms) (a_mod_a ms) (a_mod_b ms) (a_mod_unitMany ms) (a_mod_quotA ms) (a_mod_quotB ms) (a_mod_unitUsed ms) (a_mod_fu ms) (a_mod_fuB ms) (a_mod_fv ms) (a_mod_fvB ms) (a_mod_madeA ms) (a_mod_madeB ms) (a_mod_partMany ms) (a_mod_leftA ms) (a_mod_leftB ms) (a_mod_rootA ms) (a_mod_rootB ms) (a_mod_tail ms) (a_mod_round ms) (a_mod_sum ms) (a_mod_rowMany ms) zq.2.1 zq.2.2 (a_mod_netP ms) (a_mod_netQ ms) (a_mod_netR ms) (a_mod_leapMany ms), ce_J (rB 1) (kB 1) 8 (a_regA ms), ce_J (rB 2) (kB 2) 8 (a_regB ms), ce_J (rB 3) (kB 3) 6 (a_unitA ms), ce_J (rB 4) (kB 4) 6 (a_unitB ms), ce_J (rB 5) (kB 5) 40 (a_partA ms), ce_J (rB 6) (kB 6) 40 (a_partB ms), ce_J (rB 7) (kB 7) 1000 (a_rowA ms), ce_J (rB 8) (kB 8) 1000 (a_rowB ms), ce_I (rB 9) (kB 9) 1000 (a_rowDigit ms), ce_J (rB 10) (kB 10) 12 (a_leapA ms), ce_J (rB 11) (kB 11) 12 (a_leapB ms), ce_I (rB 12) (kB 12) 3721 (a_fars ms), ce_I (rB 13) (kB 13) 3721 (a_queue ms)]) (va_runV (As := [.int (xs (x3 + (1 : Int32)).toNatClampNeg), .int (xs (x3 + (2 : Int32)).toNatClampNeg), .int (xs (x3 + (3 : Int32)).toNatClampNeg)]) (rest := [.int zp.1]) ⟨hx, hb, hml, hown, hts⟩ (c_X8_flock l dC dI rB kB H.size (a_mod_t ms) (a_mod_n ms) (a_mod_a ms) (a_mod_b ms) (a_mod_unitMany ms) (a_mod_quotA ms) (a_mod_quotB ms) (a_mod_unitUsed ms) (a_mod_fu ms) (a_mod_fuB ms) (a_mod_fv ms) (a_mod_fvB ms) (a_mod_madeA ms) (a_mod_madeB ms) (a_mod_partMany ms) (a_mod_leftA ms) (a_mod_leftB ms) (a_mod_rootA ms) (a_mod_rootB ms) (a_mod_tail ms) (a_mod_round ms) (a_mod_sum ms) (a_mod_rowMany ms) (a_mod_least ms) (a_mod_leastMany ms) (a_mod_netP ms) (a_mod_netQ ms) (a_mod_netR ms) (a_mod_leapMany ms) (xs (x3 + (1 : Int32)).toNatClampNeg) (xs (x3 + (2 : Int32)).toNatClampNeg) (xs (x3 + (3 : Int32)).toNatClampNeg) hzq) (cwV 3 hts gL_X8_flock rfl rfl rfl hv_X8_flock ⟨(Nat.le_of_ble_eq_true rfl), (Nat.le_of_ble_eq_true rfl)⟩) ⟨fb_w, va_recv hK hP (ci := 8) (q0 := 16) rfl rfl, pre_w hPc hDc hKc hN⟩ rfl rfl hl.1 rfl (lv_room (Nat.le_of_ble_eq_true rfl)) dL_law_1002 ⟨(Nat.le_of_ble_eq_true rfl), (Nat.le_of_ble_eq_true rfl)⟩) hP hD hS hA [16] [0, 1, 2, 3, 4, 5, 6, 7, 8, 9, 10, 11, 12, 13, 14, 15, 17, 18, 19, 20, 21, 22, 23, 24, 25, 26, 27, 28, 29] [0, 1, 2, 3, 4, 5, 6, 7, 8, 9, 10, 11, 12, 13, 14, 15, 29, 16, 17, 18, 19, 20, 21, 22, 23, 24, 25, 26, 27, 28] rfl rfl rfl (by decide) rfl rfl rfl (fun H locs hP hD hS => ?_)
        refine lv_icmp_eq (tgt := 1298) hx hb dL_law_1005 (by decide) (fun c1 => ?_) (fun c1 => absurd hzr c1)
        exact hnext ((a_net_t cs), (a_net_n cs), (a_net_units cs), (a_net_spin cs), (a_reg cs), (a_mak_common cs), (a_mak_u cs), (a_mak_v cs), (a_fac_count cs), (a_fac_left cs), (a_pri cs), (a_rsd_found cs), (a_num_base cs), (a_num_size cs), (a_num_digitOfW cs), (a_num_tail cs), (a_num_round cs), (a_num_rings cs), (a_num_ringed cs), (a_mrk cs), zp.2.1, zp.2.2.1, zp.2.2.2, (a_ot_p cs), (a_ot_q cs), (a_ot_r cs), (a_lea_count cs), (a_lps cs), (a_sen cs), (a_edg cs), (a_nxt cs)) ((a_mod_t ms), (a_mod_n ms), (a_mod_a ms), (a_mod_b ms), (a_mod_unitMany ms), (a_mod_quotA ms), (a_mod_quotB ms), (a_mod_unitUsed ms), (a_mod_fu ms), (a_mod_fuB ms), (a_mod_fv ms), (a_mod_fvB ms), (a_mod_madeA ms), (a_mod_madeB ms), (a_mod_partMany ms), (a_mod_leftA ms), (a_mod_leftB ms), (a_mod_rootA ms), (a_mod_rootB ms), (a_mod_tail ms), (a_mod_round ms), (a_mod_sum ms), (a_mod_rowMany ms), zq.2.1, zq.2.2, (a_mod_netP ms), (a_mod_netQ ms), (a_mod_netR ms), (a_mod_leapMany ms), (a_regA ms), (a_regB ms), (a_unitA ms), (a_unitB ms), (a_partA ms), (a_partB ms), (a_rowA ms), (a_rowB ms), (a_rowDigit ms), (a_leapA ms), (a_leapB ms), (a_fars ms), (a_queue ms)) H locs ls hR hP hD hS hl
      by_cases g_23 : sel = (23 : Int32)
      · refine lv_tableIn (tgt := 1010) hx hb dL_law_33 (by rw [g_23]; decide) (by rw [g_23]; decide) (by rw [g_23]; rfl) (by decide) ?_
        clear g_23 hsel
        refine lv_aload_n hx hb dL_law_1010 rfl (lv_at hl 2 rfl) ?_
        refine lv_aload_n hx hb dL_law_1011 rfl (lv_at hl 1 rfl) ?_
        refine lv_iload_n hx hb dL_law_1012 rfl (lv_at hl 0 rfl) ?_
        refine lv_iconst (v := (1 : Int32)) hx hb dL_law_1013 (by decide) ?_
        refine lv_iadd hx hb dL_law_1014 ?_
        refine va_sld hx hb hX hbl hbA hS hin1 dL_law_1015 ?_
        refine lv_aload_n hx hb dL_law_1016 rfl (lv_at hl 1 rfl) ?_
        refine lv_iload_n hx hb dL_law_1017 rfl (lv_at hl 0 rfl) ?_
        refine lv_iconst (v := (2 : Int32)) hx hb dL_law_1018 (by decide) ?_
        refine lv_iadd hx hb dL_law_1019 ?_
        refine va_sld hx hb hX hbl hbA hS hin2 dL_law_1020 ?_
        refine lv_aload_n hx hb dL_law_1021 rfl (lv_at hl 1 rfl) ?_
        refine lv_iload_n hx hb dL_law_1022 rfl (lv_at hl 0 rfl) ?_
        refine lv_iconst (v := (3 : Int32)) hx hb dL_law_1023 (by decide) ?_
        refine lv_iadd hx hb dL_law_1024 ?_
        refine va_sld hx hb hX hbl hbA hS hin3 dL_law_1025 ?_
        refine lv_aload_n hx hb dL_law_1026 rfl (lv_at hl 1 rfl) ?_
        refine lv_iload_n hx hb dL_law_1027 rfl (lv_at hl 0 rfl) ?_
        refine lv_iconst (v := (4 : Int32)) hx hb dL_law_1028 (by decide) ?_
        refine lv_iadd hx hb dL_law_1029 ?_
        refine va_sld hx hb hX hbl hbA hS hin4 dL_law_1030 ?_
        obtain ⟨zp, zq, hzp, hzq, hzr, hR⟩ := hm_has cs ms hR (xs (x3 + (1 : Int32)).toNatClampNeg) (xs (x3 + (2 : Int32)).toNatClampNeg) (xs (x3 + (3 : Int32)).toNatClampNeg) (xs (x3 + (4 : Int32)).toNatClampNeg)
        have hPc := hP.sub (ws' := [ce_pw rA , ce_J (rA 2) (kA 2) 8 (a_reg cs), ce_fl (rA 9) (a_fl_p cs) (a_fl_q cs) (a_fl_r cs)]) [0, 2, 9] rfl
        have hKc := hK.sub (tys' := [((kA 2), .long)]) [0] rfl
        have hDc := hD.sub (ws' := [ce_pw rA , ce_J (rA 2) (kA 2) 8 (a_reg cs), ce_fl (rA 9) (a_fl_p cs) (a_fl_q cs) (a_fl_r cs)]) [0, 2, 9] rfl rfl
        refine kw_i (wr := [ce_net rA (a_net_t cs) (a_net_n cs) (a_net_units cs) (a_net_spin cs), ce_mak rA (a_mak_common cs) (a_mak_u cs) (a_mak_v cs), ce_fac rA (a_fac_count cs) (a_fac_left cs), ce_J (rA 5) (kA 5) 40 (a_pri cs), ce_rsd rA (a_rsd_found cs), ce_num rA (a_num_base cs) (a_num_size cs) (a_num_digitOfW cs) (a_num_tail cs) (a_num_round cs) (a_num_rings cs) (a_num_ringed cs), ce_I (rA 8) (kA 8) 625 (a_mrk cs), ce_fl (rA 10) (a_ot_p cs) (a_ot_q cs) (a_ot_r cs), ce_lea rA (a_lea_count cs), ce_J (rA 12) (kA 12) 12 (a_lps cs), ce_J (rA 13) (kA 13) 61 (a_sen cs), ce_J (rA 14) (kA 14) 61 (a_edg cs), ce_J (rA 15) (kA 15) 61 (a_nxt cs), ce_mod rB (a_mod_t ms) (a_mod_n ms) (a_mod_a ms) (a_mod_b ms) (a_mod_unitMany ms) (a_mod_quotA ms) (a_mod_quotB ms) (a_mod_unitUsed ms) (a_mod_fu ms) (a_mod_fuB ms) (a_mod_fv ms) (a_mod_fvB ms) (a_mod_madeA ms) (a_mod_madeB ms) (a_mod_partMany ms) (a_mod_leftA ms) (a_mod_leftB ms) (a_mod_rootA ms) (a_mod_rootB ms) (a_mod_tail ms) (a_mod_round ms) (a_mod_sum ms) (a_mod_rowMany ms) (a_mod_least ms) (a_mod_leastMany ms) (a_mod_netP ms) (a_mod_netQ ms) (a_mod_netR ms) (a_mod_leapMany ms), ce_J (rB 1) (kB 1) 8 (a_regA ms), ce_J (rB 2) (kB 2) 8 (a_regB ms), ce_J (rB 3) (kB 3) 6 (a_unitA ms), ce_J (rB 4) (kB 4) 6 (a_unitB ms), ce_J (rB 5) (kB 5) 40 (a_partA ms), ce_J (rB 6) (kB 6) 40 (a_partB ms), ce_J (rB 7) (kB 7) 1000 (a_rowA ms), ce_J (rB 8) (kB 8) 1000 (a_rowB ms), ce_I (rB 9) (kB 9) 1000 (a_rowDigit ms), ce_J (rB 10) (kB 10) 12 (a_leapA ms), ce_J (rB 11) (kB 11) 12 (a_leapB ms), ce_I (rB 12) (kB 12) 3721 (a_fars ms), ce_I (rB 13) (kB 13) 3721 (a_queue ms)]) (ws' := [ce_pw rA , ce_net rA (a_net_t cs) (a_net_n cs) (a_net_units cs) (a_net_spin cs), ce_J (rA 2) (kA 2) 8 (a_reg cs), ce_mak rA (a_mak_common cs) (a_mak_u cs) (a_mak_v cs), ce_fac rA (a_fac_count cs) (a_fac_left cs), ce_J (rA 5) (kA 5) 40 (a_pri cs), ce_rsd rA (a_rsd_found cs), ce_num rA (a_num_base cs) (a_num_size cs) (a_num_digitOfW cs) (a_num_tail cs) (a_num_round cs) (a_num_rings cs) (a_num_ringed cs), ce_I (rA 8) (kA 8) 625 (a_mrk cs), ce_fl (rA 9) zp.2.1 zp.2.2.1 zp.2.2.2, ce_fl (rA 10) (a_ot_p cs) (a_ot_q cs) (a_ot_r cs), ce_lea rA (a_lea_count cs), ce_J (rA 12) (kA 12) 12 (a_lps cs), ce_J (rA 13) (kA 13) 61 (a_sen cs), ce_J (rA 14) (kA 14) 61 (a_edg cs), ce_J (rA 15) (kA 15) 61 (a_nxt cs), ce_mod rB (a_mod_t ms) (a_mod_n ms) (a_mod_a ms) (a_mod_b ms) (a_mod_unitMany ms) (a_mod_quotA ms) (a_mod_quotB ms) (a_mod_unitUsed ms) (a_mod_fu ms) (a_mod_fuB ms) (a_mod_fv ms) (a_mod_fvB ms) (a_mod_madeA ms) (a_mod_madeB ms) (a_mod_partMany ms) (a_mod_leftA ms) (a_mod_leftB ms) (a_mod_rootA ms) (a_mod_rootB ms) (a_mod_tail ms) (a_mod_round ms) (a_mod_sum ms) (a_mod_rowMany ms) (a_mod_least ms) (a_mod_leastMany ms) (a_mod_netP ms) (a_mod_netQ ms) (a_mod_netR ms) (a_mod_leapMany ms), ce_J (rB 1) (kB 1) 8 (a_regA ms), ce_J (rB 2) (kB 2) 8 (a_regB ms), ce_J (rB 3) (kB 3) 6 (a_unitA ms), ce_J (rB 4) (kB 4) 6 (a_unitB ms), ce_J (rB 5) (kB 5) 40 (a_partA ms), ce_J (rB 6) (kB 6) 40 (a_partB ms), ce_J (rB 7) (kB 7) 1000 (a_rowA ms), ce_J (rB 8) (kB 8) 1000 (a_rowB ms), ce_I (rB 9) (kB 9) 1000 (a_rowDigit ms), ce_J (rB 10) (kB 10) 12 (a_leapA ms), ce_J (rB 11) (kB 11) 12 (a_leapB ms), ce_I (rB 12) (kB 12) 3721 (a_fars ms), ce_I (rB 13) (kB 13) 3721 (a_queue ms)]) (va_runV (As := [.int (xs (x3 + (1 : Int32)).toNatClampNeg), .int (xs (x3 + (2 : Int32)).toNatClampNeg), .int (xs (x3 + (3 : Int32)).toNatClampNeg), .int (xs (x3 + (4 : Int32)).toNatClampNeg)]) (rest := []) ⟨hx, hb, hml, hown, hts⟩ (c_X7_has l dC dI rA kA H.size (a_reg cs) (a_fl_p cs) (a_fl_q cs) (a_fl_r cs) (xs (x3 + (1 : Int32)).toNatClampNeg) (xs (x3 + (2 : Int32)).toNatClampNeg) (xs (x3 + (3 : Int32)).toNatClampNeg) (xs (x3 + (4 : Int32)).toNatClampNeg) hzp) (cwV 4 hts gL_X7_has rfl rfl rfl hv_X7_has ⟨(Nat.le_of_ble_eq_true rfl), (Nat.le_of_ble_eq_true rfl)⟩) ⟨fb_w, va_recv hK hP (ci := 7) (q0 := 0) rfl rfl, pre_w hPc hDc hKc hN⟩ rfl rfl hl.1 rfl (lv_room (Nat.le_of_ble_eq_true rfl)) dL_law_1031 ⟨(Nat.le_of_ble_eq_true rfl), (Nat.le_of_ble_eq_true rfl)⟩) hP hD hS hA [0, 2, 9] [1, 3, 4, 5, 6, 7, 8, 10, 11, 12, 13, 14, 15, 16, 17, 18, 19, 20, 21, 22, 23, 24, 25, 26, 27, 28, 29] [27, 0, 28, 1, 2, 3, 4, 5, 6, 29, 7, 8, 9, 10, 11, 12, 13, 14, 15, 16, 17, 18, 19, 20, 21, 22, 23, 24, 25, 26] rfl rfl rfl (by decide) rfl rfl rfl (fun H locs hP hD hS => ?_)
        refine lv_aload_n hx hb dL_law_1034 rfl (lv_at hl 3 rfl) ?_
        refine lv_aload_n hx hb dL_law_1035 rfl (lv_at hl 1 rfl) ?_
        refine lv_iload_n hx hb dL_law_1036 rfl (lv_at hl 0 rfl) ?_
        refine lv_iconst (v := (1 : Int32)) hx hb dL_law_1037 (by decide) ?_
        refine lv_iadd hx hb dL_law_1038 ?_
        refine va_sld hx hb hX hbl hbA hS hin1 dL_law_1039 ?_
        refine lv_aload_n hx hb dL_law_1040 rfl (lv_at hl 1 rfl) ?_
        refine lv_iload_n hx hb dL_law_1041 rfl (lv_at hl 0 rfl) ?_
        refine lv_iconst (v := (2 : Int32)) hx hb dL_law_1042 (by decide) ?_
        refine lv_iadd hx hb dL_law_1043 ?_
        refine va_sld hx hb hX hbl hbA hS hin2 dL_law_1044 ?_
        refine lv_aload_n hx hb dL_law_1045 rfl (lv_at hl 1 rfl) ?_
        refine lv_iload_n hx hb dL_law_1046 rfl (lv_at hl 0 rfl) ?_
        refine lv_iconst (v := (3 : Int32)) hx hb dL_law_1047 (by decide) ?_
        refine lv_iadd hx hb dL_law_1048 ?_
        refine va_sld hx hb hX hbl hbA hS hin3 dL_law_1049 ?_
        refine lv_aload_n hx hb dL_law_1050 rfl (lv_at hl 1 rfl) ?_
        refine lv_iload_n hx hb dL_law_1051 rfl (lv_at hl 0 rfl) ?_
        refine lv_iconst (v := (4 : Int32)) hx hb dL_law_1052 (by decide) ?_
        refine lv_iadd hx hb dL_law_1053 ?_
        refine va_sld hx hb hX hbl hbA hS hin4 dL_law_1054 ?_
        have hPc := hP.sub (ws' := [ce_mod rB (a_mod_t ms) (a_mod_n ms) (a_mod_a ms) (a_mod_b ms) (a_mod_unitMany ms) (a_mod_quotA ms) (a_mod_quotB ms) (a_mod_unitUsed ms) (a_mod_fu ms) (a_mod_fuB ms) (a_mod_fv ms) (a_mod_fvB ms) (a_mod_madeA ms) (a_mod_madeB ms) (a_mod_partMany ms) (a_mod_leftA ms) (a_mod_leftB ms) (a_mod_rootA ms) (a_mod_rootB ms) (a_mod_tail ms) (a_mod_round ms) (a_mod_sum ms) (a_mod_rowMany ms) (a_mod_least ms) (a_mod_leastMany ms) (a_mod_netP ms) (a_mod_netQ ms) (a_mod_netR ms) (a_mod_leapMany ms), ce_J (rB 1) (kB 1) 8 (a_regA ms), ce_J (rB 2) (kB 2) 8 (a_regB ms)]) [16, 17, 18] rfl
        have hKc := hK.sub (tys' := [((kB 1), .long), ((kB 2), .long)]) [7, 8] rfl
        refine kp_i (va_runV (As := [.int (xs (x3 + (1 : Int32)).toNatClampNeg), .int (xs (x3 + (2 : Int32)).toNatClampNeg), .int (xs (x3 + (3 : Int32)).toNatClampNeg), .int (xs (x3 + (4 : Int32)).toNatClampNeg)]) (rest := [.int zp.1]) ⟨hx, hb, hml, hown, hts⟩ (c_X8_has l dC dI rB kB (a_mod_t ms) (a_mod_n ms) (a_mod_a ms) (a_mod_b ms) (a_mod_unitMany ms) (a_mod_quotA ms) (a_mod_quotB ms) (a_mod_unitUsed ms) (a_mod_fu ms) (a_mod_fuB ms) (a_mod_fv ms) (a_mod_fvB ms) (a_mod_madeA ms) (a_mod_madeB ms) (a_mod_partMany ms) (a_mod_leftA ms) (a_mod_leftB ms) (a_mod_rootA ms) (a_mod_rootB ms) (a_mod_tail ms) (a_mod_round ms) (a_mod_sum ms) (a_mod_rowMany ms) (a_mod_least ms) (a_mod_leastMany ms) (a_mod_netP ms) (a_mod_netQ ms) (a_mod_netR ms) (a_mod_leapMany ms) (a_regA ms) (a_regB ms) (xs (x3 + (1 : Int32)).toNatClampNeg) (xs (x3 + (2 : Int32)).toNatClampNeg) (xs (x3 + (3 : Int32)).toNatClampNeg) (xs (x3 + (4 : Int32)).toNatClampNeg) hzq) (cwV 4 hts gL_X8_has rfl rfl rfl hv_X8_has ⟨(Nat.le_of_ble_eq_true rfl), (Nat.le_of_ble_eq_true rfl)⟩) ⟨fb_p, va_recv hK hP (ci := 8) (q0 := 16) rfl rfl, pre_p hPc hKc hN⟩ rfl rfl hl.1 rfl (lv_room (Nat.le_of_ble_eq_true rfl)) dL_law_1055 ⟨(Nat.le_of_ble_eq_true rfl), (Nat.le_of_ble_eq_true rfl)⟩) ?_
        refine lv_icmp_eq (tgt := 1298) hx hb dL_law_1058 (by decide) (fun c1 => ?_) (fun c1 => absurd hzr c1)
        exact hnext ((a_net_t cs), (a_net_n cs), (a_net_units cs), (a_net_spin cs), (a_reg cs), (a_mak_common cs), (a_mak_u cs), (a_mak_v cs), (a_fac_count cs), (a_fac_left cs), (a_pri cs), (a_rsd_found cs), (a_num_base cs), (a_num_size cs), (a_num_digitOfW cs), (a_num_tail cs), (a_num_round cs), (a_num_rings cs), (a_num_ringed cs), (a_mrk cs), zp.2.1, zp.2.2.1, zp.2.2.2, (a_ot_p cs), (a_ot_q cs), (a_ot_r cs), (a_lea_count cs), (a_lps cs), (a_sen cs), (a_edg cs), (a_nxt cs)) ((a_mod_t ms), (a_mod_n ms), (a_mod_a ms), (a_mod_b ms), (a_mod_unitMany ms), (a_mod_quotA ms), (a_mod_quotB ms), (a_mod_unitUsed ms), (a_mod_fu ms), (a_mod_fuB ms), (a_mod_fv ms), (a_mod_fvB ms), (a_mod_madeA ms), (a_mod_madeB ms), (a_mod_partMany ms), (a_mod_leftA ms), (a_mod_leftB ms), (a_mod_rootA ms), (a_mod_rootB ms), (a_mod_tail ms), (a_mod_round ms), (a_mod_sum ms), (a_mod_rowMany ms), (a_mod_least ms), (a_mod_leastMany ms), (a_mod_netP ms), (a_mod_netQ ms), (a_mod_netR ms), (a_mod_leapMany ms), (a_regA ms), (a_regB ms), (a_unitA ms), (a_unitB ms), (a_partA ms), (a_partB ms), (a_rowA ms), (a_rowB ms), (a_rowDigit ms), (a_leapA ms), (a_leapB ms), (a_fars ms), (a_queue ms)) H locs ls hR hP hD hS hl
      by_cases g_24 : sel = (24 : Int32)
      · refine lv_tableIn (tgt := 1063) hx hb dL_law_33 (by rw [g_24]; decide) (by rw [g_24]; decide) (by rw [g_24]; rfl) (by decide) ?_
        clear g_24 hsel
        refine lv_aload_n hx hb dL_law_1063 rfl (lv_at hl 2 rfl) ?_
        refine lv_aload_n hx hb dL_law_1064 rfl (lv_at hl 1 rfl) ?_
        refine lv_iload_n hx hb dL_law_1065 rfl (lv_at hl 0 rfl) ?_
        refine lv_iconst (v := (1 : Int32)) hx hb dL_law_1066 (by decide) ?_
        refine lv_iadd hx hb dL_law_1067 ?_
        refine va_sld hx hb hX hbl hbA hS hin1 dL_law_1068 ?_
        refine lv_aload_n hx hb dL_law_1069 rfl (lv_at hl 1 rfl) ?_
        refine lv_iload_n hx hb dL_law_1070 rfl (lv_at hl 0 rfl) ?_
        refine lv_iconst (v := (2 : Int32)) hx hb dL_law_1071 (by decide) ?_
        refine lv_iadd hx hb dL_law_1072 ?_
        refine va_sld hx hb hX hbl hbA hS hin2 dL_law_1073 ?_
        refine lv_aload_n hx hb dL_law_1074 rfl (lv_at hl 1 rfl) ?_
        refine lv_iload_n hx hb dL_law_1075 rfl (lv_at hl 0 rfl) ?_
        refine lv_iconst (v := (3 : Int32)) hx hb dL_law_1076 (by decide) ?_
        refine lv_iadd hx hb dL_law_1077 ?_
        refine va_sld hx hb hX hbl hbA hS hin3 dL_law_1078 ?_
        refine lv_aload_n hx hb dL_law_1079 rfl (lv_at hl 1 rfl) ?_
        refine lv_iload_n hx hb dL_law_1080 rfl (lv_at hl 0 rfl) ?_
        refine lv_iconst (v := (4 : Int32)) hx hb dL_law_1081 (by decide) ?_
        refine lv_iadd hx hb dL_law_1082 ?_
        refine va_sld hx hb hX hbl hbA hS hin4 dL_law_1083 ?_
        refine lv_aload_n hx hb dL_law_1084 rfl (lv_at hl 1 rfl) ?_
        refine lv_iload_n hx hb dL_law_1085 rfl (lv_at hl 0 rfl) ?_
        refine lv_iconst (v := (5 : Int32)) hx hb dL_law_1086 (by decide) ?_
        refine lv_iadd hx hb dL_law_1087 ?_
        refine va_sld hx hb hX hbl hbA hS hin5 dL_law_1088 ?_
        refine lv_aload_n hx hb dL_law_1089 rfl (lv_at hl 1 rfl) ?_
        refine lv_iload_n hx hb dL_law_1090 rfl (lv_at hl 0 rfl) ?_
        refine lv_bipush (v := (6 : Int32)) hx hb dL_law_1091 (by decide) ?_
        refine lv_iadd hx hb dL_law_1093 ?_
        refine va_sld hx hb hX hbl hbA hS hin6 dL_law_1094 ?_
        refine lv_aload_n hx hb dL_law_1095 rfl (lv_at hl 1 rfl) ?_
        refine lv_iload_n hx hb dL_law_1096 rfl (lv_at hl 0 rfl) ?_
        refine lv_bipush (v := (7 : Int32)) hx hb dL_law_1097 (by decide) ?_
        refine lv_iadd hx hb dL_law_1099 ?_
        refine va_sld hx hb hX hbl hbA hS hin7 dL_law_1100 ?_
        refine lv_if_eq (tgt := 1108) hx hb dL_law_1101 (by decide) (fun cB => ?_) (fun cB => ?_)
        · refine lv_iconst (v := (0 : Int32)) hx hb dL_law_1108 (by decide) ?_
          refine lv_aload_n hx hb dL_law_1109 rfl (lv_at hl 1 rfl) ?_
          refine lv_iload_n hx hb dL_law_1110 rfl (lv_at hl 0 rfl) ?_
          refine lv_bipush (v := (8 : Int32)) hx hb dL_law_1111 (by decide) ?_
          refine lv_iadd hx hb dL_law_1113 ?_
          refine va_sld hx hb hX hbl hbA hS hin8 dL_law_1114 ?_
          obtain ⟨zp, zq, hzp, hzq, hzr, hR⟩ := hm_joined cs ms hR (xs (x3 + (1 : Int32)).toNatClampNeg) (xs (x3 + (2 : Int32)).toNatClampNeg) (xs (x3 + (3 : Int32)).toNatClampNeg) (xs (x3 + (4 : Int32)).toNatClampNeg) (xs (x3 + (5 : Int32)).toNatClampNeg) (xs (x3 + (6 : Int32)).toNatClampNeg) (0 : Int32) (xs (x3 + (8 : Int32)).toNatClampNeg) (Or.inl rfl)
          have hPc := hP.sub (ws' := [ce_pw rA , ce_fl (rA 9) (a_fl_p cs) (a_fl_q cs) (a_fl_r cs), ce_fl (rA 10) (a_ot_p cs) (a_ot_q cs) (a_ot_r cs)]) [0, 9, 10] rfl
          have hKc := hK.sub (tys' := []) [] rfl
          have hDc := hD.sub (ws' := [ce_pw rA , ce_fl (rA 9) (a_fl_p cs) (a_fl_q cs) (a_fl_r cs), ce_fl (rA 10) (a_ot_p cs) (a_ot_q cs) (a_ot_r cs)]) [0, 9, 10] rfl rfl
          refine kw_i (wr := [ce_net rA (a_net_t cs) (a_net_n cs) (a_net_units cs) (a_net_spin cs), ce_J (rA 2) (kA 2) 8 (a_reg cs), ce_mak rA (a_mak_common cs) (a_mak_u cs) (a_mak_v cs), ce_fac rA (a_fac_count cs) (a_fac_left cs), ce_J (rA 5) (kA 5) 40 (a_pri cs), ce_rsd rA (a_rsd_found cs), ce_num rA (a_num_base cs) (a_num_size cs) (a_num_digitOfW cs) (a_num_tail cs) (a_num_round cs) (a_num_rings cs) (a_num_ringed cs), ce_I (rA 8) (kA 8) 625 (a_mrk cs), ce_lea rA (a_lea_count cs), ce_J (rA 12) (kA 12) 12 (a_lps cs), ce_J (rA 13) (kA 13) 61 (a_sen cs), ce_J (rA 14) (kA 14) 61 (a_edg cs), ce_J (rA 15) (kA 15) 61 (a_nxt cs), ce_mod rB (a_mod_t ms) (a_mod_n ms) (a_mod_a ms) (a_mod_b ms) (a_mod_unitMany ms) (a_mod_quotA ms) (a_mod_quotB ms) (a_mod_unitUsed ms) (a_mod_fu ms) (a_mod_fuB ms) (a_mod_fv ms) (a_mod_fvB ms) (a_mod_madeA ms) (a_mod_madeB ms) (a_mod_partMany ms) (a_mod_leftA ms) (a_mod_leftB ms) (a_mod_rootA ms) (a_mod_rootB ms) (a_mod_tail ms) (a_mod_round ms) (a_mod_sum ms) (a_mod_rowMany ms) (a_mod_least ms) (a_mod_leastMany ms) (a_mod_netP ms) (a_mod_netQ ms) (a_mod_netR ms) (a_mod_leapMany ms), ce_J (rB 1) (kB 1) 8 (a_regA ms), ce_J (rB 2) (kB 2) 8 (a_regB ms), ce_J (rB 3) (kB 3) 6 (a_unitA ms), ce_J (rB 4) (kB 4) 6 (a_unitB ms), ce_J (rB 5) (kB 5) 40 (a_partA ms), ce_J (rB 6) (kB 6) 40 (a_partB ms), ce_J (rB 7) (kB 7) 1000 (a_rowA ms), ce_J (rB 8) (kB 8) 1000 (a_rowB ms), ce_I (rB 9) (kB 9) 1000 (a_rowDigit ms), ce_J (rB 10) (kB 10) 12 (a_leapA ms), ce_J (rB 11) (kB 11) 12 (a_leapB ms), ce_I (rB 12) (kB 12) 3721 (a_fars ms), ce_I (rB 13) (kB 13) 3721 (a_queue ms)]) (ws' := [ce_pw rA , ce_net rA (a_net_t cs) (a_net_n cs) (a_net_units cs) (a_net_spin cs), ce_J (rA 2) (kA 2) 8 (a_reg cs), ce_mak rA (a_mak_common cs) (a_mak_u cs) (a_mak_v cs), ce_fac rA (a_fac_count cs) (a_fac_left cs), ce_J (rA 5) (kA 5) 40 (a_pri cs), ce_rsd rA (a_rsd_found cs), ce_num rA (a_num_base cs) (a_num_size cs) (a_num_digitOfW cs) (a_num_tail cs) (a_num_round cs) (a_num_rings cs) (a_num_ringed cs), ce_I (rA 8) (kA 8) 625 (a_mrk cs), ce_fl (rA 9) zp.2.1 zp.2.2.1 zp.2.2.2.1, ce_fl (rA 10) zp.2.2.2.2.1 zp.2.2.2.2.2.1 zp.2.2.2.2.2.2, ce_lea rA (a_lea_count cs), ce_J (rA 12) (kA 12) 12 (a_lps cs), ce_J (rA 13) (kA 13) 61 (a_sen cs), ce_J (rA 14) (kA 14) 61 (a_edg cs), ce_J (rA 15) (kA 15) 61 (a_nxt cs), ce_mod rB (a_mod_t ms) (a_mod_n ms) (a_mod_a ms) (a_mod_b ms) (a_mod_unitMany ms) (a_mod_quotA ms) (a_mod_quotB ms) (a_mod_unitUsed ms) (a_mod_fu ms) (a_mod_fuB ms) (a_mod_fv ms) (a_mod_fvB ms) (a_mod_madeA ms) (a_mod_madeB ms) (a_mod_partMany ms) (a_mod_leftA ms) (a_mod_leftB ms) (a_mod_rootA ms) (a_mod_rootB ms) (a_mod_tail ms) (a_mod_round ms) (a_mod_sum ms) (a_mod_rowMany ms) (a_mod_least ms) (a_mod_leastMany ms) (a_mod_netP ms) (a_mod_netQ ms) (a_mod_netR ms) (a_mod_leapMany ms), ce_J (rB 1) (kB 1) 8 (a_regA ms), ce_J (rB 2) (kB 2) 8 (a_regB ms), ce_J (rB 3) (kB 3) 6 (a_unitA ms), ce_J (rB 4) (kB 4) 6 (a_unitB ms), ce_J (rB 5) (kB 5) 40 (a_partA ms), ce_J (rB 6) (kB 6) 40 (a_partB ms), ce_J (rB 7) (kB 7) 1000 (a_rowA ms), ce_J (rB 8) (kB 8) 1000 (a_rowB ms), ce_I (rB 9) (kB 9) 1000 (a_rowDigit ms), ce_J (rB 10) (kB 10) 12 (a_leapA ms), ce_J (rB 11) (kB 11) 12 (a_leapB ms), ce_I (rB 12) (kB 12) 3721 (a_fars ms), ce_I (rB 13) (kB 13) 3721 (a_queue ms)]) (va_runV (As := [.int (xs (x3 + (1 : Int32)).toNatClampNeg), .int (xs (x3 + (2 : Int32)).toNatClampNeg), .int (xs (x3 + (3 : Int32)).toNatClampNeg), .int (xs (x3 + (4 : Int32)).toNatClampNeg), .int (xs (x3 + (5 : Int32)).toNatClampNeg), .int (xs (x3 + (6 : Int32)).toNatClampNeg), .int (0 : Int32), .int (xs (x3 + (8 : Int32)).toNatClampNeg)]) (rest := []) ⟨hx, hb, hml, hown, hts⟩ (c_X7_joined l dC dI rA kA H.size (a_fl_p cs) (a_fl_q cs) (a_fl_r cs) (a_ot_p cs) (a_ot_q cs) (a_ot_r cs) (xs (x3 + (1 : Int32)).toNatClampNeg) (xs (x3 + (2 : Int32)).toNatClampNeg) (xs (x3 + (3 : Int32)).toNatClampNeg) (xs (x3 + (4 : Int32)).toNatClampNeg) (xs (x3 + (5 : Int32)).toNatClampNeg) (xs (x3 + (6 : Int32)).toNatClampNeg) (0 : Int32) (xs (x3 + (8 : Int32)).toNatClampNeg) hzp) (cwV 8 hts gL_X7_joined rfl rfl rfl hv_X7_joined ⟨(Nat.le_of_ble_eq_true rfl), (Nat.le_of_ble_eq_true rfl)⟩) ⟨fb_w, va_recv hK hP (ci := 7) (q0 := 0) rfl rfl, pre_w hPc hDc hKc hN⟩ rfl rfl hl.1 rfl (lv_room (Nat.le_of_ble_eq_true rfl)) dL_law_1115 ⟨(Nat.le_of_ble_eq_true rfl), (Nat.le_of_ble_eq_true rfl)⟩) hP hD hS hA [0, 9, 10] [1, 2, 3, 4, 5, 6, 7, 8, 11, 12, 13, 14, 15, 16, 17, 18, 19, 20, 21, 22, 23, 24, 25, 26, 27, 28, 29] [27, 0, 1, 2, 3, 4, 5, 6, 7, 28, 29, 8, 9, 10, 11, 12, 13, 14, 15, 16, 17, 18, 19, 20, 21, 22, 23, 24, 25, 26] rfl rfl rfl (by decide) rfl rfl rfl (fun H locs hP hD hS => ?_)
          refine lv_aload_n hx hb dL_law_1118 rfl (lv_at hl 3 rfl) ?_
          refine lv_aload_n hx hb dL_law_1119 rfl (lv_at hl 1 rfl) ?_
          refine lv_iload_n hx hb dL_law_1120 rfl (lv_at hl 0 rfl) ?_
          refine lv_iconst (v := (1 : Int32)) hx hb dL_law_1121 (by decide) ?_
          refine lv_iadd hx hb dL_law_1122 ?_
          refine va_sld hx hb hX hbl hbA hS hin1 dL_law_1123 ?_
          refine lv_aload_n hx hb dL_law_1124 rfl (lv_at hl 1 rfl) ?_
          refine lv_iload_n hx hb dL_law_1125 rfl (lv_at hl 0 rfl) ?_
          refine lv_iconst (v := (2 : Int32)) hx hb dL_law_1126 (by decide) ?_
          refine lv_iadd hx hb dL_law_1127 ?_
          refine va_sld hx hb hX hbl hbA hS hin2 dL_law_1128 ?_
          refine lv_aload_n hx hb dL_law_1129 rfl (lv_at hl 1 rfl) ?_
          refine lv_iload_n hx hb dL_law_1130 rfl (lv_at hl 0 rfl) ?_
          refine lv_iconst (v := (3 : Int32)) hx hb dL_law_1131 (by decide) ?_
          refine lv_iadd hx hb dL_law_1132 ?_
          refine va_sld hx hb hX hbl hbA hS hin3 dL_law_1133 ?_
          refine lv_aload_n hx hb dL_law_1134 rfl (lv_at hl 1 rfl) ?_
          refine lv_iload_n hx hb dL_law_1135 rfl (lv_at hl 0 rfl) ?_
          refine lv_iconst (v := (4 : Int32)) hx hb dL_law_1136 (by decide) ?_
          refine lv_iadd hx hb dL_law_1137 ?_
          refine va_sld hx hb hX hbl hbA hS hin4 dL_law_1138 ?_
          refine lv_aload_n hx hb dL_law_1139 rfl (lv_at hl 1 rfl) ?_
          refine lv_iload_n hx hb dL_law_1140 rfl (lv_at hl 0 rfl) ?_
          refine lv_iconst (v := (5 : Int32)) hx hb dL_law_1141 (by decide) ?_
          refine lv_iadd hx hb dL_law_1142 ?_
          refine va_sld hx hb hX hbl hbA hS hin5 dL_law_1143 ?_
          refine lv_aload_n hx hb dL_law_1144 rfl (lv_at hl 1 rfl) ?_
          refine lv_iload_n hx hb dL_law_1145 rfl (lv_at hl 0 rfl) ?_
          refine lv_bipush (v := (6 : Int32)) hx hb dL_law_1146 (by decide) ?_
          refine lv_iadd hx hb dL_law_1148 ?_
          refine va_sld hx hb hX hbl hbA hS hin6 dL_law_1149 ?_
          refine lv_aload_n hx hb dL_law_1150 rfl (lv_at hl 1 rfl) ?_
          refine lv_iload_n hx hb dL_law_1151 rfl (lv_at hl 0 rfl) ?_
          refine lv_bipush (v := (7 : Int32)) hx hb dL_law_1152 (by decide) ?_
          refine lv_iadd hx hb dL_law_1154 ?_
          refine va_sld hx hb hX hbl hbA hS hin7 dL_law_1155 ?_
          refine lv_if_eq (tgt := 1163) hx hb dL_law_1156 (by decide) (fun c1 => ?_) (fun c1 => absurd cB c1)
          refine lv_iconst (v := (0 : Int32)) hx hb dL_law_1163 (by decide) ?_
          refine lv_aload_n hx hb dL_law_1164 rfl (lv_at hl 1 rfl) ?_
          refine lv_iload_n hx hb dL_law_1165 rfl (lv_at hl 0 rfl) ?_
          refine lv_bipush (v := (8 : Int32)) hx hb dL_law_1166 (by decide) ?_
          refine lv_iadd hx hb dL_law_1168 ?_
          refine va_sld hx hb hX hbl hbA hS hin8 dL_law_1169 ?_
          have hPc := hP.sub (ws' := [ce_mod rB (a_mod_t ms) (a_mod_n ms) (a_mod_a ms) (a_mod_b ms) (a_mod_unitMany ms) (a_mod_quotA ms) (a_mod_quotB ms) (a_mod_unitUsed ms) (a_mod_fu ms) (a_mod_fuB ms) (a_mod_fv ms) (a_mod_fvB ms) (a_mod_madeA ms) (a_mod_madeB ms) (a_mod_partMany ms) (a_mod_leftA ms) (a_mod_leftB ms) (a_mod_rootA ms) (a_mod_rootB ms) (a_mod_tail ms) (a_mod_round ms) (a_mod_sum ms) (a_mod_rowMany ms) (a_mod_least ms) (a_mod_leastMany ms) (a_mod_netP ms) (a_mod_netQ ms) (a_mod_netR ms) (a_mod_leapMany ms)]) [16] rfl
          have hKc := hK.sub (tys' := []) [] rfl
          have hDc := hD.sub (ws' := [ce_mod rB (a_mod_t ms) (a_mod_n ms) (a_mod_a ms) (a_mod_b ms) (a_mod_unitMany ms) (a_mod_quotA ms) (a_mod_quotB ms) (a_mod_unitUsed ms) (a_mod_fu ms) (a_mod_fuB ms) (a_mod_fv ms) (a_mod_fvB ms) (a_mod_madeA ms) (a_mod_madeB ms) (a_mod_partMany ms) (a_mod_leftA ms) (a_mod_leftB ms) (a_mod_rootA ms) (a_mod_rootB ms) (a_mod_tail ms) (a_mod_round ms) (a_mod_sum ms) (a_mod_rowMany ms) (a_mod_least ms) (a_mod_leastMany ms) (a_mod_netP ms) (a_mod_netQ ms) (a_mod_netR ms) (a_mod_leapMany ms)]) [16] rfl rfl
          refine kw_i (wr := [ce_pw rA , ce_net rA (a_net_t cs) (a_net_n cs) (a_net_units cs) (a_net_spin cs), ce_J (rA 2) (kA 2) 8 (a_reg cs), ce_mak rA (a_mak_common cs) (a_mak_u cs) (a_mak_v cs), ce_fac rA (a_fac_count cs) (a_fac_left cs), ce_J (rA 5) (kA 5) 40 (a_pri cs), ce_rsd rA (a_rsd_found cs), ce_num rA (a_num_base cs) (a_num_size cs) (a_num_digitOfW cs) (a_num_tail cs) (a_num_round cs) (a_num_rings cs) (a_num_ringed cs), ce_I (rA 8) (kA 8) 625 (a_mrk cs), ce_fl (rA 9) zp.2.1 zp.2.2.1 zp.2.2.2.1, ce_fl (rA 10) zp.2.2.2.2.1 zp.2.2.2.2.2.1 zp.2.2.2.2.2.2, ce_lea rA (a_lea_count cs), ce_J (rA 12) (kA 12) 12 (a_lps cs), ce_J (rA 13) (kA 13) 61 (a_sen cs), ce_J (rA 14) (kA 14) 61 (a_edg cs), ce_J (rA 15) (kA 15) 61 (a_nxt cs), ce_J (rB 1) (kB 1) 8 (a_regA ms), ce_J (rB 2) (kB 2) 8 (a_regB ms), ce_J (rB 3) (kB 3) 6 (a_unitA ms), ce_J (rB 4) (kB 4) 6 (a_unitB ms), ce_J (rB 5) (kB 5) 40 (a_partA ms), ce_J (rB 6) (kB 6) 40 (a_partB ms), ce_J (rB 7) (kB 7) 1000 (a_rowA ms), ce_J (rB 8) (kB 8) 1000 (a_rowB ms), ce_I (rB 9) (kB 9) 1000 (a_rowDigit ms), ce_J (rB 10) (kB 10) 12 (a_leapA ms), ce_J (rB 11) (kB 11) 12 (a_leapB ms), ce_I (rB 12) (kB 12) 3721 (a_fars ms), ce_I (rB 13) (kB 13) 3721 (a_queue ms)]) (ws' := [ce_pw rA , ce_net rA (a_net_t cs) (a_net_n cs) (a_net_units cs) (a_net_spin cs), ce_J (rA 2) (kA 2) 8 (a_reg cs), ce_mak rA (a_mak_common cs) (a_mak_u cs) (a_mak_v cs), ce_fac rA (a_fac_count cs) (a_fac_left cs), ce_J (rA 5) (kA 5) 40 (a_pri cs), ce_rsd rA (a_rsd_found cs), ce_num rA (a_num_base cs) (a_num_size cs) (a_num_digitOfW cs) (a_num_tail cs) (a_num_round cs) (a_num_rings cs) (a_num_ringed cs), ce_I (rA 8) (kA 8) 625 (a_mrk cs), ce_fl (rA 9) zp.2.1 zp.2.2.1 zp.2.2.2.1, ce_fl (rA 10) zp.2.2.2.2.1 zp.2.2.2.2.2.1 zp.2.2.2.2.2.2, ce_lea rA (a_lea_count cs), ce_J (rA 12) (kA 12) 12 (a_lps cs), ce_J (rA 13) (kA 13) 61 (a_sen cs), ce_J (rA 14) (kA 14) 61 (a_edg cs), ce_J (rA 15) (kA 15) 61 (a_nxt cs), ce_mod rB (a_mod_t ms) (a_mod_n ms) (a_mod_a ms) (a_mod_b ms) (a_mod_unitMany ms) (a_mod_quotA ms) (a_mod_quotB ms) (a_mod_unitUsed ms) (a_mod_fu ms) (a_mod_fuB ms) (a_mod_fv ms) (a_mod_fvB ms) (a_mod_madeA ms) (a_mod_madeB ms) (a_mod_partMany ms) (a_mod_leftA ms) (a_mod_leftB ms) (a_mod_rootA ms) (a_mod_rootB ms) (a_mod_tail ms) (a_mod_round ms) (a_mod_sum ms) (a_mod_rowMany ms) (a_mod_least ms) (a_mod_leastMany ms) zq.2.1 zq.2.2.1 zq.2.2.2 (a_mod_leapMany ms), ce_J (rB 1) (kB 1) 8 (a_regA ms), ce_J (rB 2) (kB 2) 8 (a_regB ms), ce_J (rB 3) (kB 3) 6 (a_unitA ms), ce_J (rB 4) (kB 4) 6 (a_unitB ms), ce_J (rB 5) (kB 5) 40 (a_partA ms), ce_J (rB 6) (kB 6) 40 (a_partB ms), ce_J (rB 7) (kB 7) 1000 (a_rowA ms), ce_J (rB 8) (kB 8) 1000 (a_rowB ms), ce_I (rB 9) (kB 9) 1000 (a_rowDigit ms), ce_J (rB 10) (kB 10) 12 (a_leapA ms), ce_J (rB 11) (kB 11) 12 (a_leapB ms), ce_I (rB 12) (kB 12) 3721 (a_fars ms), ce_I (rB 13) (kB 13) 3721 (a_queue ms)]) (va_runV (As := [.int (xs (x3 + (1 : Int32)).toNatClampNeg), .int (xs (x3 + (2 : Int32)).toNatClampNeg), .int (xs (x3 + (3 : Int32)).toNatClampNeg), .int (xs (x3 + (4 : Int32)).toNatClampNeg), .int (xs (x3 + (5 : Int32)).toNatClampNeg), .int (xs (x3 + (6 : Int32)).toNatClampNeg), .int (0 : Int32), .int (xs (x3 + (8 : Int32)).toNatClampNeg)]) (rest := [.int zp.1]) ⟨hx, hb, hml, hown, hts⟩ (c_X8_joined l dC dI rB kB H.size (a_mod_t ms) (a_mod_n ms) (a_mod_a ms) (a_mod_b ms) (a_mod_unitMany ms) (a_mod_quotA ms) (a_mod_quotB ms) (a_mod_unitUsed ms) (a_mod_fu ms) (a_mod_fuB ms) (a_mod_fv ms) (a_mod_fvB ms) (a_mod_madeA ms) (a_mod_madeB ms) (a_mod_partMany ms) (a_mod_leftA ms) (a_mod_leftB ms) (a_mod_rootA ms) (a_mod_rootB ms) (a_mod_tail ms) (a_mod_round ms) (a_mod_sum ms) (a_mod_rowMany ms) (a_mod_least ms) (a_mod_leastMany ms) (a_mod_netP ms) (a_mod_netQ ms) (a_mod_netR ms) (a_mod_leapMany ms) (xs (x3 + (1 : Int32)).toNatClampNeg) (xs (x3 + (2 : Int32)).toNatClampNeg) (xs (x3 + (3 : Int32)).toNatClampNeg) (xs (x3 + (4 : Int32)).toNatClampNeg) (xs (x3 + (5 : Int32)).toNatClampNeg) (xs (x3 + (6 : Int32)).toNatClampNeg) (0 : Int32) (xs (x3 + (8 : Int32)).toNatClampNeg) hzq) (cwV 8 hts gL_X8_joined rfl rfl rfl hv_X8_joined ⟨(Nat.le_of_ble_eq_true rfl), (Nat.le_of_ble_eq_true rfl)⟩) ⟨fb_w, va_recv hK hP (ci := 8) (q0 := 16) rfl rfl, pre_w hPc hDc hKc hN⟩ rfl rfl hl.1 rfl (lv_room (Nat.le_of_ble_eq_true rfl)) dL_law_1170 ⟨(Nat.le_of_ble_eq_true rfl), (Nat.le_of_ble_eq_true rfl)⟩) hP hD hS hA [16] [0, 1, 2, 3, 4, 5, 6, 7, 8, 9, 10, 11, 12, 13, 14, 15, 17, 18, 19, 20, 21, 22, 23, 24, 25, 26, 27, 28, 29] [0, 1, 2, 3, 4, 5, 6, 7, 8, 9, 10, 11, 12, 13, 14, 15, 29, 16, 17, 18, 19, 20, 21, 22, 23, 24, 25, 26, 27, 28] rfl rfl rfl (by decide) rfl rfl rfl (fun H locs hP hD hS => ?_)
          refine lv_icmp_eq (tgt := 1298) hx hb dL_law_1173 (by decide) (fun c1 => ?_) (fun c1 => absurd hzr c1)
          exact hnext ((a_net_t cs), (a_net_n cs), (a_net_units cs), (a_net_spin cs), (a_reg cs), (a_mak_common cs), (a_mak_u cs), (a_mak_v cs), (a_fac_count cs), (a_fac_left cs), (a_pri cs), (a_rsd_found cs), (a_num_base cs), (a_num_size cs), (a_num_digitOfW cs), (a_num_tail cs), (a_num_round cs), (a_num_rings cs), (a_num_ringed cs), (a_mrk cs), zp.2.1, zp.2.2.1, zp.2.2.2.1, zp.2.2.2.2.1, zp.2.2.2.2.2.1, zp.2.2.2.2.2.2, (a_lea_count cs), (a_lps cs), (a_sen cs), (a_edg cs), (a_nxt cs)) ((a_mod_t ms), (a_mod_n ms), (a_mod_a ms), (a_mod_b ms), (a_mod_unitMany ms), (a_mod_quotA ms), (a_mod_quotB ms), (a_mod_unitUsed ms), (a_mod_fu ms), (a_mod_fuB ms), (a_mod_fv ms), (a_mod_fvB ms), (a_mod_madeA ms), (a_mod_madeB ms), (a_mod_partMany ms), (a_mod_leftA ms), (a_mod_leftB ms), (a_mod_rootA ms), (a_mod_rootB ms), (a_mod_tail ms), (a_mod_round ms), (a_mod_sum ms), (a_mod_rowMany ms), (a_mod_least ms), (a_mod_leastMany ms), zq.2.1, zq.2.2.1, zq.2.2.2, (a_mod_leapMany ms), (a_regA ms), (a_regB ms), (a_unitA ms), (a_unitB ms), (a_partA ms), (a_partB ms), (a_rowA ms), (a_rowB ms), (a_rowDigit ms), (a_leapA ms), (a_leapB ms), (a_fars ms), (a_queue ms)) H locs ls hR hP hD hS hl
        · refine lv_iconst (v := (1 : Int32)) hx hb dL_law_1104 (by decide) ?_
          refine lv_goto (tgt := 1109) hx hb dL_law_1105 (by decide) ?_
          refine lv_aload_n hx hb dL_law_1109 rfl (lv_at hl 1 rfl) ?_
          refine lv_iload_n hx hb dL_law_1110 rfl (lv_at hl 0 rfl) ?_
          refine lv_bipush (v := (8 : Int32)) hx hb dL_law_1111 (by decide) ?_
          refine lv_iadd hx hb dL_law_1113 ?_
          refine va_sld hx hb hX hbl hbA hS hin8 dL_law_1114 ?_
          obtain ⟨zp, zq, hzp, hzq, hzr, hR⟩ := hm_joined cs ms hR (xs (x3 + (1 : Int32)).toNatClampNeg) (xs (x3 + (2 : Int32)).toNatClampNeg) (xs (x3 + (3 : Int32)).toNatClampNeg) (xs (x3 + (4 : Int32)).toNatClampNeg) (xs (x3 + (5 : Int32)).toNatClampNeg) (xs (x3 + (6 : Int32)).toNatClampNeg) (1 : Int32) (xs (x3 + (8 : Int32)).toNatClampNeg) (Or.inr rfl)
          have hPc := hP.sub (ws' := [ce_pw rA , ce_fl (rA 9) (a_fl_p cs) (a_fl_q cs) (a_fl_r cs), ce_fl (rA 10) (a_ot_p cs) (a_ot_q cs) (a_ot_r cs)]) [0, 9, 10] rfl
          have hKc := hK.sub (tys' := []) [] rfl
          have hDc := hD.sub (ws' := [ce_pw rA , ce_fl (rA 9) (a_fl_p cs) (a_fl_q cs) (a_fl_r cs), ce_fl (rA 10) (a_ot_p cs) (a_ot_q cs) (a_ot_r cs)]) [0, 9, 10] rfl rfl
          refine kw_i (wr := [ce_net rA (a_net_t cs) (a_net_n cs) (a_net_units cs) (a_net_spin cs), ce_J (rA 2) (kA 2) 8 (a_reg cs), ce_mak rA (a_mak_common cs) (a_mak_u cs) (a_mak_v cs), ce_fac rA (a_fac_count cs) (a_fac_left cs), ce_J (rA 5) (kA 5) 40 (a_pri cs), ce_rsd rA (a_rsd_found cs), ce_num rA (a_num_base cs) (a_num_size cs) (a_num_digitOfW cs) (a_num_tail cs) (a_num_round cs) (a_num_rings cs) (a_num_ringed cs), ce_I (rA 8) (kA 8) 625 (a_mrk cs), ce_lea rA (a_lea_count cs), ce_J (rA 12) (kA 12) 12 (a_lps cs), ce_J (rA 13) (kA 13) 61 (a_sen cs), ce_J (rA 14) (kA 14) 61 (a_edg cs), ce_J (rA 15) (kA 15) 61 (a_nxt cs), ce_mod rB (a_mod_t ms) (a_mod_n ms) (a_mod_a ms) (a_mod_b ms) (a_mod_unitMany ms) (a_mod_quotA ms) (a_mod_quotB ms) (a_mod_unitUsed ms) (a_mod_fu ms) (a_mod_fuB ms) (a_mod_fv ms) (a_mod_fvB ms) (a_mod_madeA ms) (a_mod_madeB ms) (a_mod_partMany ms) (a_mod_leftA ms) (a_mod_leftB ms) (a_mod_rootA ms) (a_mod_rootB ms) (a_mod_tail ms) (a_mod_round ms) (a_mod_sum ms) (a_mod_rowMany ms) (a_mod_least ms) (a_mod_leastMany ms) (a_mod_netP ms) (a_mod_netQ ms) (a_mod_netR ms) (a_mod_leapMany ms), ce_J (rB 1) (kB 1) 8 (a_regA ms), ce_J (rB 2) (kB 2) 8 (a_regB ms), ce_J (rB 3) (kB 3) 6 (a_unitA ms), ce_J (rB 4) (kB 4) 6 (a_unitB ms), ce_J (rB 5) (kB 5) 40 (a_partA ms), ce_J (rB 6) (kB 6) 40 (a_partB ms), ce_J (rB 7) (kB 7) 1000 (a_rowA ms), ce_J (rB 8) (kB 8) 1000 (a_rowB ms), ce_I (rB 9) (kB 9) 1000 (a_rowDigit ms), ce_J (rB 10) (kB 10) 12 (a_leapA ms), ce_J (rB 11) (kB 11) 12 (a_leapB ms), ce_I (rB 12) (kB 12) 3721 (a_fars ms), ce_I (rB 13) (kB 13) 3721 (a_queue ms)]) (ws' := [ce_pw rA , ce_net rA (a_net_t cs) (a_net_n cs) (a_net_units cs) (a_net_spin cs), ce_J (rA 2) (kA 2) 8 (a_reg cs), ce_mak rA (a_mak_common cs) (a_mak_u cs) (a_mak_v cs), ce_fac rA (a_fac_count cs) (a_fac_left cs), ce_J (rA 5) (kA 5) 40 (a_pri cs), ce_rsd rA (a_rsd_found cs), ce_num rA (a_num_base cs) (a_num_size cs) (a_num_digitOfW cs) (a_num_tail cs) (a_num_round cs) (a_num_rings cs) (a_num_ringed cs), ce_I (rA 8) (kA 8) 625 (a_mrk cs), ce_fl (rA 9) zp.2.1 zp.2.2.1 zp.2.2.2.1, ce_fl (rA 10) zp.2.2.2.2.1 zp.2.2.2.2.2.1 zp.2.2.2.2.2.2, ce_lea rA (a_lea_count cs), ce_J (rA 12) (kA 12) 12 (a_lps cs), ce_J (rA 13) (kA 13) 61 (a_sen cs), ce_J (rA 14) (kA 14) 61 (a_edg cs), ce_J (rA 15) (kA 15) 61 (a_nxt cs), ce_mod rB (a_mod_t ms) (a_mod_n ms) (a_mod_a ms) (a_mod_b ms) (a_mod_unitMany ms) (a_mod_quotA ms) (a_mod_quotB ms) (a_mod_unitUsed ms) (a_mod_fu ms) (a_mod_fuB ms) (a_mod_fv ms) (a_mod_fvB ms) (a_mod_madeA ms) (a_mod_madeB ms) (a_mod_partMany ms) (a_mod_leftA ms) (a_mod_leftB ms) (a_mod_rootA ms) (a_mod_rootB ms) (a_mod_tail ms) (a_mod_round ms) (a_mod_sum ms) (a_mod_rowMany ms) (a_mod_least ms) (a_mod_leastMany ms) (a_mod_netP ms) (a_mod_netQ ms) (a_mod_netR ms) (a_mod_leapMany ms), ce_J (rB 1) (kB 1) 8 (a_regA ms), ce_J (rB 2) (kB 2) 8 (a_regB ms), ce_J (rB 3) (kB 3) 6 (a_unitA ms), ce_J (rB 4) (kB 4) 6 (a_unitB ms), ce_J (rB 5) (kB 5) 40 (a_partA ms), ce_J (rB 6) (kB 6) 40 (a_partB ms), ce_J (rB 7) (kB 7) 1000 (a_rowA ms), ce_J (rB 8) (kB 8) 1000 (a_rowB ms), ce_I (rB 9) (kB 9) 1000 (a_rowDigit ms), ce_J (rB 10) (kB 10) 12 (a_leapA ms), ce_J (rB 11) (kB 11) 12 (a_leapB ms), ce_I (rB 12) (kB 12) 3721 (a_fars ms), ce_I (rB 13) (kB 13) 3721 (a_queue ms)]) (va_runV (As := [.int (xs (x3 + (1 : Int32)).toNatClampNeg), .int (xs (x3 + (2 : Int32)).toNatClampNeg), .int (xs (x3 + (3 : Int32)).toNatClampNeg), .int (xs (x3 + (4 : Int32)).toNatClampNeg), .int (xs (x3 + (5 : Int32)).toNatClampNeg), .int (xs (x3 + (6 : Int32)).toNatClampNeg), .int (1 : Int32), .int (xs (x3 + (8 : Int32)).toNatClampNeg)]) (rest := []) ⟨hx, hb, hml, hown, hts⟩ (c_X7_joined l dC dI rA kA H.size (a_fl_p cs) (a_fl_q cs) (a_fl_r cs) (a_ot_p cs) (a_ot_q cs) (a_ot_r cs) (xs (x3 + (1 : Int32)).toNatClampNeg) (xs (x3 + (2 : Int32)).toNatClampNeg) (xs (x3 + (3 : Int32)).toNatClampNeg) (xs (x3 + (4 : Int32)).toNatClampNeg) (xs (x3 + (5 : Int32)).toNatClampNeg) (xs (x3 + (6 : Int32)).toNatClampNeg) (1 : Int32) (xs (x3 + (8 : Int32)).toNatClampNeg) hzp) (cwV 8 hts gL_X7_joined rfl rfl rfl hv_X7_joined ⟨(Nat.le_of_ble_eq_true rfl), (Nat.le_of_ble_eq_true rfl)⟩) ⟨fb_w, va_recv hK hP (ci := 7) (q0 := 0) rfl rfl, pre_w hPc hDc hKc hN⟩ rfl rfl hl.1 rfl (lv_room (Nat.le_of_ble_eq_true rfl)) dL_law_1115 ⟨(Nat.le_of_ble_eq_true rfl), (Nat.le_of_ble_eq_true rfl)⟩) hP hD hS hA [0, 9, 10] [1, 2, 3, 4, 5, 6, 7, 8, 11, 12, 13, 14, 15, 16, 17, 18, 19, 20, 21, 22, 23, 24, 25, 26, 27, 28, 29] [27, 0, 1, 2, 3, 4, 5, 6, 7, 28, 29, 8, 9, 10, 11, 12, 13, 14, 15, 16, 17, 18, 19, 20, 21, 22, 23, 24, 25, 26] rfl rfl rfl (by decide) rfl rfl rfl (fun H locs hP hD hS => ?_)
          refine lv_aload_n hx hb dL_law_1118 rfl (lv_at hl 3 rfl) ?_
          refine lv_aload_n hx hb dL_law_1119 rfl (lv_at hl 1 rfl) ?_
          refine lv_iload_n hx hb dL_law_1120 rfl (lv_at hl 0 rfl) ?_
          refine lv_iconst (v := (1 : Int32)) hx hb dL_law_1121 (by decide) ?_
          refine lv_iadd hx hb dL_law_1122 ?_
          refine va_sld hx hb hX hbl hbA hS hin1 dL_law_1123 ?_
          refine lv_aload_n hx hb dL_law_1124 rfl (lv_at hl 1 rfl) ?_
          refine lv_iload_n hx hb dL_law_1125 rfl (lv_at hl 0 rfl) ?_
          refine lv_iconst (v := (2 : Int32)) hx hb dL_law_1126 (by decide) ?_
          refine lv_iadd hx hb dL_law_1127 ?_
          refine va_sld hx hb hX hbl hbA hS hin2 dL_law_1128 ?_
          refine lv_aload_n hx hb dL_law_1129 rfl (lv_at hl 1 rfl) ?_
          refine lv_iload_n hx hb dL_law_1130 rfl (lv_at hl 0 rfl) ?_
          refine lv_iconst (v := (3 : Int32)) hx hb dL_law_1131 (by decide) ?_
          refine lv_iadd hx hb dL_law_1132 ?_
          refine va_sld hx hb hX hbl hbA hS hin3 dL_law_1133 ?_
          refine lv_aload_n hx hb dL_law_1134 rfl (lv_at hl 1 rfl) ?_
          refine lv_iload_n hx hb dL_law_1135 rfl (lv_at hl 0 rfl) ?_
          refine lv_iconst (v := (4 : Int32)) hx hb dL_law_1136 (by decide) ?_
          refine lv_iadd hx hb dL_law_1137 ?_
          refine va_sld hx hb hX hbl hbA hS hin4 dL_law_1138 ?_
          refine lv_aload_n hx hb dL_law_1139 rfl (lv_at hl 1 rfl) ?_
          refine lv_iload_n hx hb dL_law_1140 rfl (lv_at hl 0 rfl) ?_
          refine lv_iconst (v := (5 : Int32)) hx hb dL_law_1141 (by decide) ?_
          refine lv_iadd hx hb dL_law_1142 ?_
          refine va_sld hx hb hX hbl hbA hS hin5 dL_law_1143 ?_
          refine lv_aload_n hx hb dL_law_1144 rfl (lv_at hl 1 rfl) ?_
          refine lv_iload_n hx hb dL_law_1145 rfl (lv_at hl 0 rfl) ?_
          refine lv_bipush (v := (6 : Int32)) hx hb dL_law_1146 (by decide) ?_
          refine lv_iadd hx hb dL_law_1148 ?_
          refine va_sld hx hb hX hbl hbA hS hin6 dL_law_1149 ?_
          refine lv_aload_n hx hb dL_law_1150 rfl (lv_at hl 1 rfl) ?_
          refine lv_iload_n hx hb dL_law_1151 rfl (lv_at hl 0 rfl) ?_
          refine lv_bipush (v := (7 : Int32)) hx hb dL_law_1152 (by decide) ?_
          refine lv_iadd hx hb dL_law_1154 ?_
          refine va_sld hx hb hX hbl hbA hS hin7 dL_law_1155 ?_
          refine lv_if_eq (tgt := 1163) hx hb dL_law_1156 (by decide) (fun c1 => absurd c1 cB) (fun c1 => ?_)
          refine lv_iconst (v := (1 : Int32)) hx hb dL_law_1159 (by decide) ?_
          refine lv_goto (tgt := 1164) hx hb dL_law_1160 (by decide) ?_
          refine lv_aload_n hx hb dL_law_1164 rfl (lv_at hl 1 rfl) ?_
          refine lv_iload_n hx hb dL_law_1165 rfl (lv_at hl 0 rfl) ?_
          refine lv_bipush (v := (8 : Int32)) hx hb dL_law_1166 (by decide) ?_
          refine lv_iadd hx hb dL_law_1168 ?_
          refine va_sld hx hb hX hbl hbA hS hin8 dL_law_1169 ?_
          have hPc := hP.sub (ws' := [ce_mod rB (a_mod_t ms) (a_mod_n ms) (a_mod_a ms) (a_mod_b ms) (a_mod_unitMany ms) (a_mod_quotA ms) (a_mod_quotB ms) (a_mod_unitUsed ms) (a_mod_fu ms) (a_mod_fuB ms) (a_mod_fv ms) (a_mod_fvB ms) (a_mod_madeA ms) (a_mod_madeB ms) (a_mod_partMany ms) (a_mod_leftA ms) (a_mod_leftB ms) (a_mod_rootA ms) (a_mod_rootB ms) (a_mod_tail ms) (a_mod_round ms) (a_mod_sum ms) (a_mod_rowMany ms) (a_mod_least ms) (a_mod_leastMany ms) (a_mod_netP ms) (a_mod_netQ ms) (a_mod_netR ms) (a_mod_leapMany ms)]) [16] rfl
          have hKc := hK.sub (tys' := []) [] rfl
          have hDc := hD.sub (ws' := [ce_mod rB (a_mod_t ms) (a_mod_n ms) (a_mod_a ms) (a_mod_b ms) (a_mod_unitMany ms) (a_mod_quotA ms) (a_mod_quotB ms) (a_mod_unitUsed ms) (a_mod_fu ms) (a_mod_fuB ms) (a_mod_fv ms) (a_mod_fvB ms) (a_mod_madeA ms) (a_mod_madeB ms) (a_mod_partMany ms) (a_mod_leftA ms) (a_mod_leftB ms) (a_mod_rootA ms) (a_mod_rootB ms) (a_mod_tail ms) (a_mod_round ms) (a_mod_sum ms) (a_mod_rowMany ms) (a_mod_least ms) (a_mod_leastMany ms) (a_mod_netP ms) (a_mod_netQ ms) (a_mod_netR ms) (a_mod_leapMany ms)]) [16] rfl rfl
          refine kw_i (wr := [ce_pw rA , ce_net rA (a_net_t cs) (a_net_n cs) (a_net_units cs) (a_net_spin cs), ce_J (rA 2) (kA 2) 8 (a_reg cs), ce_mak rA (a_mak_common cs) (a_mak_u cs) (a_mak_v cs), ce_fac rA (a_fac_count cs) (a_fac_left cs), ce_J (rA 5) (kA 5) 40 (a_pri cs), ce_rsd rA (a_rsd_found cs), ce_num rA (a_num_base cs) (a_num_size cs) (a_num_digitOfW cs) (a_num_tail cs) (a_num_round cs) (a_num_rings cs) (a_num_ringed cs), ce_I (rA 8) (kA 8) 625 (a_mrk cs), ce_fl (rA 9) zp.2.1 zp.2.2.1 zp.2.2.2.1, ce_fl (rA 10) zp.2.2.2.2.1 zp.2.2.2.2.2.1 zp.2.2.2.2.2.2, ce_lea rA (a_lea_count cs), ce_J (rA 12) (kA 12) 12 (a_lps cs), ce_J (rA 13) (kA 13) 61 (a_sen cs), ce_J (rA 14) (kA 14) 61 (a_edg cs), ce_J (rA 15) (kA 15) 61 (a_nxt cs), ce_J (rB 1) (kB 1) 8 (a_regA ms), ce_J (rB 2) (kB 2) 8 (a_regB ms), ce_J (rB 3) (kB 3) 6 (a_unitA ms), ce_J (rB 4) (kB 4) 6 (a_unitB ms), ce_J (rB 5) (kB 5) 40 (a_partA ms), ce_J (rB 6) (kB 6) 40 (a_partB ms), ce_J (rB 7) (kB 7) 1000 (a_rowA ms), ce_J (rB 8) (kB 8) 1000 (a_rowB ms), ce_I (rB 9) (kB 9) 1000 (a_rowDigit ms), ce_J (rB 10) (kB 10) 12 (a_leapA ms), ce_J (rB 11) (kB 11) 12 (a_leapB ms), ce_I (rB 12) (kB 12) 3721 (a_fars ms), ce_I (rB 13) (kB 13) 3721 (a_queue ms)]) (ws' := [ce_pw rA , ce_net rA (a_net_t cs) (a_net_n cs) (a_net_units cs) (a_net_spin cs), ce_J (rA 2) (kA 2) 8 (a_reg cs), ce_mak rA (a_mak_common cs) (a_mak_u cs) (a_mak_v cs), ce_fac rA (a_fac_count cs) (a_fac_left cs), ce_J (rA 5) (kA 5) 40 (a_pri cs), ce_rsd rA (a_rsd_found cs), ce_num rA (a_num_base cs) (a_num_size cs) (a_num_digitOfW cs) (a_num_tail cs) (a_num_round cs) (a_num_rings cs) (a_num_ringed cs), ce_I (rA 8) (kA 8) 625 (a_mrk cs), ce_fl (rA 9) zp.2.1 zp.2.2.1 zp.2.2.2.1, ce_fl (rA 10) zp.2.2.2.2.1 zp.2.2.2.2.2.1 zp.2.2.2.2.2.2, ce_lea rA (a_lea_count cs), ce_J (rA 12) (kA 12) 12 (a_lps cs), ce_J (rA 13) (kA 13) 61 (a_sen cs), ce_J (rA 14) (kA 14) 61 (a_edg cs), ce_J (rA 15) (kA 15) 61 (a_nxt cs), ce_mod rB (a_mod_t ms) (a_mod_n ms) (a_mod_a ms) (a_mod_b ms) (a_mod_unitMany ms) (a_mod_quotA ms) (a_mod_quotB ms) (a_mod_unitUsed ms) (a_mod_fu ms) (a_mod_fuB ms) (a_mod_fv ms) (a_mod_fvB ms) (a_mod_madeA ms) (a_mod_madeB ms) (a_mod_partMany ms) (a_mod_leftA ms) (a_mod_leftB ms) (a_mod_rootA ms) (a_mod_rootB ms) (a_mod_tail ms) (a_mod_round ms) (a_mod_sum ms) (a_mod_rowMany ms) (a_mod_least ms) (a_mod_leastMany ms) zq.2.1 zq.2.2.1 zq.2.2.2 (a_mod_leapMany ms), ce_J (rB 1) (kB 1) 8 (a_regA ms), ce_J (rB 2) (kB 2) 8 (a_regB ms), ce_J (rB 3) (kB 3) 6 (a_unitA ms), ce_J (rB 4) (kB 4) 6 (a_unitB ms), ce_J (rB 5) (kB 5) 40 (a_partA ms), ce_J (rB 6) (kB 6) 40 (a_partB ms), ce_J (rB 7) (kB 7) 1000 (a_rowA ms), ce_J (rB 8) (kB 8) 1000 (a_rowB ms), ce_I (rB 9) (kB 9) 1000 (a_rowDigit ms), ce_J (rB 10) (kB 10) 12 (a_leapA ms), ce_J (rB 11) (kB 11) 12 (a_leapB ms), ce_I (rB 12) (kB 12) 3721 (a_fars ms), ce_I (rB 13) (kB 13) 3721 (a_queue ms)]) (va_runV (As := [.int (xs (x3 + (1 : Int32)).toNatClampNeg), .int (xs (x3 + (2 : Int32)).toNatClampNeg), .int (xs (x3 + (3 : Int32)).toNatClampNeg), .int (xs (x3 + (4 : Int32)).toNatClampNeg), .int (xs (x3 + (5 : Int32)).toNatClampNeg), .int (xs (x3 + (6 : Int32)).toNatClampNeg), .int (1 : Int32), .int (xs (x3 + (8 : Int32)).toNatClampNeg)]) (rest := [.int zp.1]) ⟨hx, hb, hml, hown, hts⟩ (c_X8_joined l dC dI rB kB H.size (a_mod_t ms) (a_mod_n ms) (a_mod_a ms) (a_mod_b ms) (a_mod_unitMany ms) (a_mod_quotA ms) (a_mod_quotB ms) (a_mod_unitUsed ms) (a_mod_fu ms) (a_mod_fuB ms) (a_mod_fv ms) (a_mod_fvB ms) (a_mod_madeA ms) (a_mod_madeB ms) (a_mod_partMany ms) (a_mod_leftA ms) (a_mod_leftB ms) (a_mod_rootA ms) (a_mod_rootB ms) (a_mod_tail ms) (a_mod_round ms) (a_mod_sum ms) (a_mod_rowMany ms) (a_mod_least ms) (a_mod_leastMany ms) (a_mod_netP ms) (a_mod_netQ ms) (a_mod_netR ms) (a_mod_leapMany ms) (xs (x3 + (1 : Int32)).toNatClampNeg) (xs (x3 + (2 : Int32)).toNatClampNeg) (xs (x3 + (3 : Int32)).toNatClampNeg) (xs (x3 + (4 : Int32)).toNatClampNeg) (xs (x3 + (5 : Int32)).toNatClampNeg) (xs (x3 + (6 : Int32)).toNatClampNeg) (1 : Int32) (xs (x3 + (8 : Int32)).toNatClampNeg) hzq) (cwV 8 hts gL_X8_joined rfl rfl rfl hv_X8_joined ⟨(Nat.le_of_ble_eq_true rfl), (Nat.le_of_ble_eq_true rfl)⟩) ⟨fb_w, va_recv hK hP (ci := 8) (q0 := 16) rfl rfl, pre_w hPc hDc hKc hN⟩ rfl rfl hl.1 rfl (lv_room (Nat.le_of_ble_eq_true rfl)) dL_law_1170 ⟨(Nat.le_of_ble_eq_true rfl), (Nat.le_of_ble_eq_true rfl)⟩) hP hD hS hA [16] [0, 1, 2, 3, 4, 5, 6, 7, 8, 9, 10, 11, 12, 13, 14, 15, 17, 18, 19, 20, 21, 22, 23, 24, 25, 26, 27, 28, 29] [0, 1, 2, 3, 4, 5, 6, 7, 8, 9, 10, 11, 12, 13, 14, 15, 29, 16, 17, 18, 19, 20, 21, 22, 23, 24, 25, 26, 27, 28] rfl rfl rfl (by decide) rfl rfl rfl (fun H locs hP hD hS => ?_)
          refine lv_icmp_eq (tgt := 1298) hx hb dL_law_1173 (by decide) (fun c1 => ?_) (fun c1 => absurd hzr c1)
          exact hnext ((a_net_t cs), (a_net_n cs), (a_net_units cs), (a_net_spin cs), (a_reg cs), (a_mak_common cs), (a_mak_u cs), (a_mak_v cs), (a_fac_count cs), (a_fac_left cs), (a_pri cs), (a_rsd_found cs), (a_num_base cs), (a_num_size cs), (a_num_digitOfW cs), (a_num_tail cs), (a_num_round cs), (a_num_rings cs), (a_num_ringed cs), (a_mrk cs), zp.2.1, zp.2.2.1, zp.2.2.2.1, zp.2.2.2.2.1, zp.2.2.2.2.2.1, zp.2.2.2.2.2.2, (a_lea_count cs), (a_lps cs), (a_sen cs), (a_edg cs), (a_nxt cs)) ((a_mod_t ms), (a_mod_n ms), (a_mod_a ms), (a_mod_b ms), (a_mod_unitMany ms), (a_mod_quotA ms), (a_mod_quotB ms), (a_mod_unitUsed ms), (a_mod_fu ms), (a_mod_fuB ms), (a_mod_fv ms), (a_mod_fvB ms), (a_mod_madeA ms), (a_mod_madeB ms), (a_mod_partMany ms), (a_mod_leftA ms), (a_mod_leftB ms), (a_mod_rootA ms), (a_mod_rootB ms), (a_mod_tail ms), (a_mod_round ms), (a_mod_sum ms), (a_mod_rowMany ms), (a_mod_least ms), (a_mod_leastMany ms), zq.2.1, zq.2.2.1, zq.2.2.2, (a_mod_leapMany ms), (a_regA ms), (a_regB ms), (a_unitA ms), (a_unitB ms), (a_partA ms), (a_partB ms), (a_rowA ms), (a_rowB ms), (a_rowDigit ms), (a_leapA ms), (a_leapB ms), (a_fars ms), (a_queue ms)) H locs ls hR hP hD hS hl
      by_cases g_25 : sel = (25 : Int32)
      · refine lv_tableIn (tgt := 1178) hx hb dL_law_33 (by rw [g_25]; decide) (by rw [g_25]; decide) (by rw [g_25]; rfl) (by decide) ?_
        clear g_25 hsel
        refine lv_aload_n hx hb dL_law_1178 rfl (lv_at hl 2 rfl) ?_
        refine lv_aload_n hx hb dL_law_1179 rfl (lv_at hl 1 rfl) ?_
        refine lv_iload_n hx hb dL_law_1180 rfl (lv_at hl 0 rfl) ?_
        refine lv_iconst (v := (1 : Int32)) hx hb dL_law_1181 (by decide) ?_
        refine lv_iadd hx hb dL_law_1182 ?_
        refine va_sld hx hb hX hbl hbA hS hin1 dL_law_1183 ?_
        refine lv_aload_n hx hb dL_law_1184 rfl (lv_at hl 1 rfl) ?_
        refine lv_iload_n hx hb dL_law_1185 rfl (lv_at hl 0 rfl) ?_
        refine lv_iconst (v := (2 : Int32)) hx hb dL_law_1186 (by decide) ?_
        refine lv_iadd hx hb dL_law_1187 ?_
        refine va_sld hx hb hX hbl hbA hS hin2 dL_law_1188 ?_
        refine lv_aload_n hx hb dL_law_1189 rfl (lv_at hl 1 rfl) ?_
        refine lv_iload_n hx hb dL_law_1190 rfl (lv_at hl 0 rfl) ?_
        refine lv_iconst (v := (3 : Int32)) hx hb dL_law_1191 (by decide) ?_
        refine lv_iadd hx hb dL_law_1192 ?_
        refine va_sld hx hb hX hbl hbA hS hin3 dL_law_1193 ?_
        refine lv_aload_n hx hb dL_law_1194 rfl (lv_at hl 1 rfl) ?_
        refine lv_iload_n hx hb dL_law_1195 rfl (lv_at hl 0 rfl) ?_
        refine lv_iconst (v := (4 : Int32)) hx hb dL_law_1196 (by decide) ?_
        refine lv_iadd hx hb dL_law_1197 ?_
        refine va_sld hx hb hX hbl hbA hS hin4 dL_law_1198 ?_
        refine lv_aload_n hx hb dL_law_1199 rfl (lv_at hl 1 rfl) ?_
        refine lv_iload_n hx hb dL_law_1200 rfl (lv_at hl 0 rfl) ?_
        refine lv_iconst (v := (5 : Int32)) hx hb dL_law_1201 (by decide) ?_
        refine lv_iadd hx hb dL_law_1202 ?_
        refine va_sld hx hb hX hbl hbA hS hin5 dL_law_1203 ?_
        obtain ⟨zp, zq, hzp, hzq, hzr, hR⟩ := hm_turned cs ms hR (xs (x3 + (1 : Int32)).toNatClampNeg) (xs (x3 + (2 : Int32)).toNatClampNeg) (xs (x3 + (3 : Int32)).toNatClampNeg) (xs (x3 + (4 : Int32)).toNatClampNeg) (xs (x3 + (5 : Int32)).toNatClampNeg)
        have hPc := hP.sub (ws' := [ce_pw rA , ce_net rA (a_net_t cs) (a_net_n cs) (a_net_units cs) (a_net_spin cs), ce_J (rA 2) (kA 2) 8 (a_reg cs), ce_fl (rA 9) (a_fl_p cs) (a_fl_q cs) (a_fl_r cs)]) [0, 1, 2, 9] rfl
        have hKc := hK.sub (tys' := [((kA 2), .long)]) [0] rfl
        have hDc := hD.sub (ws' := [ce_pw rA , ce_net rA (a_net_t cs) (a_net_n cs) (a_net_units cs) (a_net_spin cs), ce_J (rA 2) (kA 2) 8 (a_reg cs), ce_fl (rA 9) (a_fl_p cs) (a_fl_q cs) (a_fl_r cs)]) [0, 1, 2, 9] rfl rfl
        refine kw_i (wr := [ce_mak rA (a_mak_common cs) (a_mak_u cs) (a_mak_v cs), ce_fac rA (a_fac_count cs) (a_fac_left cs), ce_J (rA 5) (kA 5) 40 (a_pri cs), ce_rsd rA (a_rsd_found cs), ce_num rA (a_num_base cs) (a_num_size cs) (a_num_digitOfW cs) (a_num_tail cs) (a_num_round cs) (a_num_rings cs) (a_num_ringed cs), ce_I (rA 8) (kA 8) 625 (a_mrk cs), ce_fl (rA 10) (a_ot_p cs) (a_ot_q cs) (a_ot_r cs), ce_lea rA (a_lea_count cs), ce_J (rA 12) (kA 12) 12 (a_lps cs), ce_J (rA 13) (kA 13) 61 (a_sen cs), ce_J (rA 14) (kA 14) 61 (a_edg cs), ce_J (rA 15) (kA 15) 61 (a_nxt cs), ce_mod rB (a_mod_t ms) (a_mod_n ms) (a_mod_a ms) (a_mod_b ms) (a_mod_unitMany ms) (a_mod_quotA ms) (a_mod_quotB ms) (a_mod_unitUsed ms) (a_mod_fu ms) (a_mod_fuB ms) (a_mod_fv ms) (a_mod_fvB ms) (a_mod_madeA ms) (a_mod_madeB ms) (a_mod_partMany ms) (a_mod_leftA ms) (a_mod_leftB ms) (a_mod_rootA ms) (a_mod_rootB ms) (a_mod_tail ms) (a_mod_round ms) (a_mod_sum ms) (a_mod_rowMany ms) (a_mod_least ms) (a_mod_leastMany ms) (a_mod_netP ms) (a_mod_netQ ms) (a_mod_netR ms) (a_mod_leapMany ms), ce_J (rB 1) (kB 1) 8 (a_regA ms), ce_J (rB 2) (kB 2) 8 (a_regB ms), ce_J (rB 3) (kB 3) 6 (a_unitA ms), ce_J (rB 4) (kB 4) 6 (a_unitB ms), ce_J (rB 5) (kB 5) 40 (a_partA ms), ce_J (rB 6) (kB 6) 40 (a_partB ms), ce_J (rB 7) (kB 7) 1000 (a_rowA ms), ce_J (rB 8) (kB 8) 1000 (a_rowB ms), ce_I (rB 9) (kB 9) 1000 (a_rowDigit ms), ce_J (rB 10) (kB 10) 12 (a_leapA ms), ce_J (rB 11) (kB 11) 12 (a_leapB ms), ce_I (rB 12) (kB 12) 3721 (a_fars ms), ce_I (rB 13) (kB 13) 3721 (a_queue ms)]) (ws' := [ce_pw rA , ce_net rA (a_net_t cs) (a_net_n cs) (a_net_units cs) (a_net_spin cs), ce_J (rA 2) (kA 2) 8 (a_reg cs), ce_mak rA (a_mak_common cs) (a_mak_u cs) (a_mak_v cs), ce_fac rA (a_fac_count cs) (a_fac_left cs), ce_J (rA 5) (kA 5) 40 (a_pri cs), ce_rsd rA (a_rsd_found cs), ce_num rA (a_num_base cs) (a_num_size cs) (a_num_digitOfW cs) (a_num_tail cs) (a_num_round cs) (a_num_rings cs) (a_num_ringed cs), ce_I (rA 8) (kA 8) 625 (a_mrk cs), ce_fl (rA 9) zp.2.1 zp.2.2.1 zp.2.2.2, ce_fl (rA 10) (a_ot_p cs) (a_ot_q cs) (a_ot_r cs), ce_lea rA (a_lea_count cs), ce_J (rA 12) (kA 12) 12 (a_lps cs), ce_J (rA 13) (kA 13) 61 (a_sen cs), ce_J (rA 14) (kA 14) 61 (a_edg cs), ce_J (rA 15) (kA 15) 61 (a_nxt cs), ce_mod rB (a_mod_t ms) (a_mod_n ms) (a_mod_a ms) (a_mod_b ms) (a_mod_unitMany ms) (a_mod_quotA ms) (a_mod_quotB ms) (a_mod_unitUsed ms) (a_mod_fu ms) (a_mod_fuB ms) (a_mod_fv ms) (a_mod_fvB ms) (a_mod_madeA ms) (a_mod_madeB ms) (a_mod_partMany ms) (a_mod_leftA ms) (a_mod_leftB ms) (a_mod_rootA ms) (a_mod_rootB ms) (a_mod_tail ms) (a_mod_round ms) (a_mod_sum ms) (a_mod_rowMany ms) (a_mod_least ms) (a_mod_leastMany ms) (a_mod_netP ms) (a_mod_netQ ms) (a_mod_netR ms) (a_mod_leapMany ms), ce_J (rB 1) (kB 1) 8 (a_regA ms), ce_J (rB 2) (kB 2) 8 (a_regB ms), ce_J (rB 3) (kB 3) 6 (a_unitA ms), ce_J (rB 4) (kB 4) 6 (a_unitB ms), ce_J (rB 5) (kB 5) 40 (a_partA ms), ce_J (rB 6) (kB 6) 40 (a_partB ms), ce_J (rB 7) (kB 7) 1000 (a_rowA ms), ce_J (rB 8) (kB 8) 1000 (a_rowB ms), ce_I (rB 9) (kB 9) 1000 (a_rowDigit ms), ce_J (rB 10) (kB 10) 12 (a_leapA ms), ce_J (rB 11) (kB 11) 12 (a_leapB ms), ce_I (rB 12) (kB 12) 3721 (a_fars ms), ce_I (rB 13) (kB 13) 3721 (a_queue ms)]) (va_runV (As := [.int (xs (x3 + (1 : Int32)).toNatClampNeg), .int (xs (x3 + (2 : Int32)).toNatClampNeg), .int (xs (x3 + (3 : Int32)).toNatClampNeg), .int (xs (x3 + (4 : Int32)).toNatClampNeg), .int (xs (x3 + (5 : Int32)).toNatClampNeg)]) (rest := []) ⟨hx, hb, hml, hown, hts⟩ (c_X7_turned l dC dI rA kA H.size (a_net_t cs) (a_net_n cs) (a_net_units cs) (a_net_spin cs) (a_reg cs) (a_fl_p cs) (a_fl_q cs) (a_fl_r cs) (xs (x3 + (1 : Int32)).toNatClampNeg) (xs (x3 + (2 : Int32)).toNatClampNeg) (xs (x3 + (3 : Int32)).toNatClampNeg) (xs (x3 + (4 : Int32)).toNatClampNeg) (xs (x3 + (5 : Int32)).toNatClampNeg) hzp) (cwV 5 hts gL_X7_turned rfl rfl rfl hv_X7_turned ⟨(Nat.le_of_ble_eq_true rfl), (Nat.le_of_ble_eq_true rfl)⟩) ⟨fb_w, va_recv hK hP (ci := 7) (q0 := 0) rfl rfl, pre_w hPc hDc hKc hN⟩ rfl rfl hl.1 rfl (lv_room (Nat.le_of_ble_eq_true rfl)) dL_law_1204 ⟨(Nat.le_of_ble_eq_true rfl), (Nat.le_of_ble_eq_true rfl)⟩) hP hD hS hA [0, 1, 2, 9] [3, 4, 5, 6, 7, 8, 10, 11, 12, 13, 14, 15, 16, 17, 18, 19, 20, 21, 22, 23, 24, 25, 26, 27, 28, 29] [26, 27, 28, 0, 1, 2, 3, 4, 5, 29, 6, 7, 8, 9, 10, 11, 12, 13, 14, 15, 16, 17, 18, 19, 20, 21, 22, 23, 24, 25] rfl rfl rfl (by decide) rfl rfl rfl (fun H locs hP hD hS => ?_)
        refine lv_aload_n hx hb dL_law_1207 rfl (lv_at hl 3 rfl) ?_
        refine lv_aload_n hx hb dL_law_1208 rfl (lv_at hl 1 rfl) ?_
        refine lv_iload_n hx hb dL_law_1209 rfl (lv_at hl 0 rfl) ?_
        refine lv_iconst (v := (1 : Int32)) hx hb dL_law_1210 (by decide) ?_
        refine lv_iadd hx hb dL_law_1211 ?_
        refine va_sld hx hb hX hbl hbA hS hin1 dL_law_1212 ?_
        refine lv_aload_n hx hb dL_law_1213 rfl (lv_at hl 1 rfl) ?_
        refine lv_iload_n hx hb dL_law_1214 rfl (lv_at hl 0 rfl) ?_
        refine lv_iconst (v := (2 : Int32)) hx hb dL_law_1215 (by decide) ?_
        refine lv_iadd hx hb dL_law_1216 ?_
        refine va_sld hx hb hX hbl hbA hS hin2 dL_law_1217 ?_
        refine lv_aload_n hx hb dL_law_1218 rfl (lv_at hl 1 rfl) ?_
        refine lv_iload_n hx hb dL_law_1219 rfl (lv_at hl 0 rfl) ?_
        refine lv_iconst (v := (3 : Int32)) hx hb dL_law_1220 (by decide) ?_
        refine lv_iadd hx hb dL_law_1221 ?_
        refine va_sld hx hb hX hbl hbA hS hin3 dL_law_1222 ?_
        refine lv_aload_n hx hb dL_law_1223 rfl (lv_at hl 1 rfl) ?_
        refine lv_iload_n hx hb dL_law_1224 rfl (lv_at hl 0 rfl) ?_
        refine lv_iconst (v := (4 : Int32)) hx hb dL_law_1225 (by decide) ?_
        refine lv_iadd hx hb dL_law_1226 ?_
        refine va_sld hx hb hX hbl hbA hS hin4 dL_law_1227 ?_
        refine lv_aload_n hx hb dL_law_1228 rfl (lv_at hl 1 rfl) ?_
        refine lv_iload_n hx hb dL_law_1229 rfl (lv_at hl 0 rfl) ?_
        refine lv_iconst (v := (5 : Int32)) hx hb dL_law_1230 (by decide) ?_
        refine lv_iadd hx hb dL_law_1231 ?_
        refine va_sld hx hb hX hbl hbA hS hin5 dL_law_1232 ?_
        have hPc := hP.sub (ws' := [ce_mod rB (a_mod_t ms) (a_mod_n ms) (a_mod_a ms) (a_mod_b ms) (a_mod_unitMany ms) (a_mod_quotA ms) (a_mod_quotB ms) (a_mod_unitUsed ms) (a_mod_fu ms) (a_mod_fuB ms) (a_mod_fv ms) (a_mod_fvB ms) (a_mod_madeA ms) (a_mod_madeB ms) (a_mod_partMany ms) (a_mod_leftA ms) (a_mod_leftB ms) (a_mod_rootA ms) (a_mod_rootB ms) (a_mod_tail ms) (a_mod_round ms) (a_mod_sum ms) (a_mod_rowMany ms) (a_mod_least ms) (a_mod_leastMany ms) (a_mod_netP ms) (a_mod_netQ ms) (a_mod_netR ms) (a_mod_leapMany ms), ce_J (rB 1) (kB 1) 8 (a_regA ms), ce_J (rB 2) (kB 2) 8 (a_regB ms)]) [16, 17, 18] rfl
        have hKc := hK.sub (tys' := [((kB 1), .long), ((kB 2), .long)]) [7, 8] rfl
        have hDc := hD.sub (ws' := [ce_mod rB (a_mod_t ms) (a_mod_n ms) (a_mod_a ms) (a_mod_b ms) (a_mod_unitMany ms) (a_mod_quotA ms) (a_mod_quotB ms) (a_mod_unitUsed ms) (a_mod_fu ms) (a_mod_fuB ms) (a_mod_fv ms) (a_mod_fvB ms) (a_mod_madeA ms) (a_mod_madeB ms) (a_mod_partMany ms) (a_mod_leftA ms) (a_mod_leftB ms) (a_mod_rootA ms) (a_mod_rootB ms) (a_mod_tail ms) (a_mod_round ms) (a_mod_sum ms) (a_mod_rowMany ms) (a_mod_least ms) (a_mod_leastMany ms) (a_mod_netP ms) (a_mod_netQ ms) (a_mod_netR ms) (a_mod_leapMany ms), ce_J (rB 1) (kB 1) 8 (a_regA ms), ce_J (rB 2) (kB 2) 8 (a_regB ms)]) [16, 17, 18] rfl rfl
        refine kw_i (wr := [ce_pw rA , ce_net rA (a_net_t cs) (a_net_n cs) (a_net_units cs) (a_net_spin cs), ce_J (rA 2) (kA 2) 8 (a_reg cs), ce_mak rA (a_mak_common cs) (a_mak_u cs) (a_mak_v cs), ce_fac rA (a_fac_count cs) (a_fac_left cs), ce_J (rA 5) (kA 5) 40 (a_pri cs), ce_rsd rA (a_rsd_found cs), ce_num rA (a_num_base cs) (a_num_size cs) (a_num_digitOfW cs) (a_num_tail cs) (a_num_round cs) (a_num_rings cs) (a_num_ringed cs), ce_I (rA 8) (kA 8) 625 (a_mrk cs), ce_fl (rA 9) zp.2.1 zp.2.2.1 zp.2.2.2, ce_fl (rA 10) (a_ot_p cs) (a_ot_q cs) (a_ot_r cs), ce_lea rA (a_lea_count cs), ce_J (rA 12) (kA 12) 12 (a_lps cs), ce_J (rA 13) (kA 13) 61 (a_sen cs), ce_J (rA 14) (kA 14) 61 (a_edg cs), ce_J (rA 15) (kA 15) 61 (a_nxt cs), ce_J (rB 3) (kB 3) 6 (a_unitA ms), ce_J (rB 4) (kB 4) 6 (a_unitB ms), ce_J (rB 5) (kB 5) 40 (a_partA ms), ce_J (rB 6) (kB 6) 40 (a_partB ms), ce_J (rB 7) (kB 7) 1000 (a_rowA ms), ce_J (rB 8) (kB 8) 1000 (a_rowB ms), ce_I (rB 9) (kB 9) 1000 (a_rowDigit ms), ce_J (rB 10) (kB 10) 12 (a_leapA ms), ce_J (rB 11) (kB 11) 12 (a_leapB ms), ce_I (rB 12) (kB 12) 3721 (a_fars ms), ce_I (rB 13) (kB 13) 3721 (a_queue ms)]) (ws' := [ce_pw rA , ce_net rA (a_net_t cs) (a_net_n cs) (a_net_units cs) (a_net_spin cs), ce_J (rA 2) (kA 2) 8 (a_reg cs), ce_mak rA (a_mak_common cs) (a_mak_u cs) (a_mak_v cs), ce_fac rA (a_fac_count cs) (a_fac_left cs), ce_J (rA 5) (kA 5) 40 (a_pri cs), ce_rsd rA (a_rsd_found cs), ce_num rA (a_num_base cs) (a_num_size cs) (a_num_digitOfW cs) (a_num_tail cs) (a_num_round cs) (a_num_rings cs) (a_num_ringed cs), ce_I (rA 8) (kA 8) 625 (a_mrk cs), ce_fl (rA 9) zp.2.1 zp.2.2.1 zp.2.2.2, ce_fl (rA 10) (a_ot_p cs) (a_ot_q cs) (a_ot_r cs), ce_lea rA (a_lea_count cs), ce_J (rA 12) (kA 12) 12 (a_lps cs), ce_J (rA 13) (kA 13) 61 (a_sen cs), ce_J (rA 14) (kA 14) 61 (a_edg cs), ce_J (rA 15) (kA 15) 61 (a_nxt cs), ce_mod rB (a_mod_t ms) (a_mod_n ms) zq.2.1 zq.2.2.1 (a_mod_unitMany ms) (a_mod_quotA ms) (a_mod_quotB ms) (a_mod_unitUsed ms) (a_mod_fu ms) (a_mod_fuB ms) (a_mod_fv ms) (a_mod_fvB ms) (a_mod_madeA ms) (a_mod_madeB ms) (a_mod_partMany ms) (a_mod_leftA ms) (a_mod_leftB ms) (a_mod_rootA ms) (a_mod_rootB ms) (a_mod_tail ms) (a_mod_round ms) (a_mod_sum ms) (a_mod_rowMany ms) (a_mod_least ms) (a_mod_leastMany ms) zq.2.2.2.1 zq.2.2.2.2.1 zq.2.2.2.2.2 (a_mod_leapMany ms), ce_J (rB 1) (kB 1) 8 (a_regA ms), ce_J (rB 2) (kB 2) 8 (a_regB ms), ce_J (rB 3) (kB 3) 6 (a_unitA ms), ce_J (rB 4) (kB 4) 6 (a_unitB ms), ce_J (rB 5) (kB 5) 40 (a_partA ms), ce_J (rB 6) (kB 6) 40 (a_partB ms), ce_J (rB 7) (kB 7) 1000 (a_rowA ms), ce_J (rB 8) (kB 8) 1000 (a_rowB ms), ce_I (rB 9) (kB 9) 1000 (a_rowDigit ms), ce_J (rB 10) (kB 10) 12 (a_leapA ms), ce_J (rB 11) (kB 11) 12 (a_leapB ms), ce_I (rB 12) (kB 12) 3721 (a_fars ms), ce_I (rB 13) (kB 13) 3721 (a_queue ms)]) (va_runV (As := [.int (xs (x3 + (1 : Int32)).toNatClampNeg), .int (xs (x3 + (2 : Int32)).toNatClampNeg), .int (xs (x3 + (3 : Int32)).toNatClampNeg), .int (xs (x3 + (4 : Int32)).toNatClampNeg), .int (xs (x3 + (5 : Int32)).toNatClampNeg)]) (rest := [.int zp.1]) ⟨hx, hb, hml, hown, hts⟩ (c_X8_turned l dC dI rB kB H.size (a_mod_t ms) (a_mod_n ms) (a_mod_a ms) (a_mod_b ms) (a_mod_unitMany ms) (a_mod_quotA ms) (a_mod_quotB ms) (a_mod_unitUsed ms) (a_mod_fu ms) (a_mod_fuB ms) (a_mod_fv ms) (a_mod_fvB ms) (a_mod_madeA ms) (a_mod_madeB ms) (a_mod_partMany ms) (a_mod_leftA ms) (a_mod_leftB ms) (a_mod_rootA ms) (a_mod_rootB ms) (a_mod_tail ms) (a_mod_round ms) (a_mod_sum ms) (a_mod_rowMany ms) (a_mod_least ms) (a_mod_leastMany ms) (a_mod_netP ms) (a_mod_netQ ms) (a_mod_netR ms) (a_mod_leapMany ms) (a_regA ms) (a_regB ms) (xs (x3 + (1 : Int32)).toNatClampNeg) (xs (x3 + (2 : Int32)).toNatClampNeg) (xs (x3 + (3 : Int32)).toNatClampNeg) (xs (x3 + (4 : Int32)).toNatClampNeg) (xs (x3 + (5 : Int32)).toNatClampNeg) hzq) (cwV 5 hts gL_X8_turned rfl rfl rfl hv_X8_turned ⟨(Nat.le_of_ble_eq_true rfl), (Nat.le_of_ble_eq_true rfl)⟩) ⟨fb_w, va_recv hK hP (ci := 8) (q0 := 16) rfl rfl, pre_w hPc hDc hKc hN⟩ rfl rfl hl.1 rfl (lv_room (Nat.le_of_ble_eq_true rfl)) dL_law_1233 ⟨(Nat.le_of_ble_eq_true rfl), (Nat.le_of_ble_eq_true rfl)⟩) hP hD hS hA [16, 17, 18] [0, 1, 2, 3, 4, 5, 6, 7, 8, 9, 10, 11, 12, 13, 14, 15, 19, 20, 21, 22, 23, 24, 25, 26, 27, 28, 29] [0, 1, 2, 3, 4, 5, 6, 7, 8, 9, 10, 11, 12, 13, 14, 15, 27, 28, 29, 16, 17, 18, 19, 20, 21, 22, 23, 24, 25, 26] rfl rfl rfl (by decide) rfl rfl rfl (fun H locs hP hD hS => ?_)
        refine lv_icmp_eq (tgt := 1298) hx hb dL_law_1236 (by decide) (fun c1 => ?_) (fun c1 => absurd hzr c1)
        exact hnext ((a_net_t cs), (a_net_n cs), (a_net_units cs), (a_net_spin cs), (a_reg cs), (a_mak_common cs), (a_mak_u cs), (a_mak_v cs), (a_fac_count cs), (a_fac_left cs), (a_pri cs), (a_rsd_found cs), (a_num_base cs), (a_num_size cs), (a_num_digitOfW cs), (a_num_tail cs), (a_num_round cs), (a_num_rings cs), (a_num_ringed cs), (a_mrk cs), zp.2.1, zp.2.2.1, zp.2.2.2, (a_ot_p cs), (a_ot_q cs), (a_ot_r cs), (a_lea_count cs), (a_lps cs), (a_sen cs), (a_edg cs), (a_nxt cs)) ((a_mod_t ms), (a_mod_n ms), zq.2.1, zq.2.2.1, (a_mod_unitMany ms), (a_mod_quotA ms), (a_mod_quotB ms), (a_mod_unitUsed ms), (a_mod_fu ms), (a_mod_fuB ms), (a_mod_fv ms), (a_mod_fvB ms), (a_mod_madeA ms), (a_mod_madeB ms), (a_mod_partMany ms), (a_mod_leftA ms), (a_mod_leftB ms), (a_mod_rootA ms), (a_mod_rootB ms), (a_mod_tail ms), (a_mod_round ms), (a_mod_sum ms), (a_mod_rowMany ms), (a_mod_least ms), (a_mod_leastMany ms), zq.2.2.2.1, zq.2.2.2.2.1, zq.2.2.2.2.2, (a_mod_leapMany ms), (a_regA ms), (a_regB ms), (a_unitA ms), (a_unitB ms), (a_partA ms), (a_partB ms), (a_rowA ms), (a_rowB ms), (a_rowDigit ms), (a_leapA ms), (a_leapB ms), (a_fars ms), (a_queue ms)) H locs ls hR hP hD hS hl
      by_cases g_26 : sel = (26 : Int32)
      · refine lv_tableIn (tgt := 1241) hx hb dL_law_33 (by rw [g_26]; decide) (by rw [g_26]; decide) (by rw [g_26]; rfl) (by decide) ?_
        clear g_26 hsel
        refine lv_aload_n hx hb dL_law_1241 rfl (lv_at hl 2 rfl) ?_
        refine lv_aload_n hx hb dL_law_1242 rfl (lv_at hl 1 rfl) ?_
        refine lv_iload_n hx hb dL_law_1243 rfl (lv_at hl 0 rfl) ?_
        refine lv_iconst (v := (1 : Int32)) hx hb dL_law_1244 (by decide) ?_
        refine lv_iadd hx hb dL_law_1245 ?_
        refine va_sld hx hb hX hbl hbA hS hin1 dL_law_1246 ?_
        obtain ⟨zp, zq, hzp, hzq, hzr, hR⟩ := hm_where cs ms hR (xs (x3 + (1 : Int32)).toNatClampNeg)
        have hPc := hP.sub (ws' := [ce_pw rA , ce_net rA (a_net_t cs) (a_net_n cs) (a_net_units cs) (a_net_spin cs), ce_J (rA 2) (kA 2) 8 (a_reg cs), ce_fl (rA 9) (a_fl_p cs) (a_fl_q cs) (a_fl_r cs), ce_lea rA (a_lea_count cs), ce_J (rA 12) (kA 12) 12 (a_lps cs)]) [0, 1, 2, 9, 11, 12] rfl
        have hKc := hK.sub (tys' := [((kA 2), .long), ((kA 12), .long)]) [0, 3] rfl
        have hDc := hD.sub (ws' := [ce_pw rA , ce_net rA (a_net_t cs) (a_net_n cs) (a_net_units cs) (a_net_spin cs), ce_J (rA 2) (kA 2) 8 (a_reg cs), ce_fl (rA 9) (a_fl_p cs) (a_fl_q cs) (a_fl_r cs), ce_lea rA (a_lea_count cs), ce_J (rA 12) (kA 12) 12 (a_lps cs)]) [0, 1, 2, 9, 11, 12] rfl rfl
        refine kw_l (wr := [ce_mak rA (a_mak_common cs) (a_mak_u cs) (a_mak_v cs), ce_fac rA (a_fac_count cs) (a_fac_left cs), ce_J (rA 5) (kA 5) 40 (a_pri cs), ce_rsd rA (a_rsd_found cs), ce_num rA (a_num_base cs) (a_num_size cs) (a_num_digitOfW cs) (a_num_tail cs) (a_num_round cs) (a_num_rings cs) (a_num_ringed cs), ce_I (rA 8) (kA 8) 625 (a_mrk cs), ce_fl (rA 10) (a_ot_p cs) (a_ot_q cs) (a_ot_r cs), ce_J (rA 13) (kA 13) 61 (a_sen cs), ce_J (rA 14) (kA 14) 61 (a_edg cs), ce_J (rA 15) (kA 15) 61 (a_nxt cs), ce_mod rB (a_mod_t ms) (a_mod_n ms) (a_mod_a ms) (a_mod_b ms) (a_mod_unitMany ms) (a_mod_quotA ms) (a_mod_quotB ms) (a_mod_unitUsed ms) (a_mod_fu ms) (a_mod_fuB ms) (a_mod_fv ms) (a_mod_fvB ms) (a_mod_madeA ms) (a_mod_madeB ms) (a_mod_partMany ms) (a_mod_leftA ms) (a_mod_leftB ms) (a_mod_rootA ms) (a_mod_rootB ms) (a_mod_tail ms) (a_mod_round ms) (a_mod_sum ms) (a_mod_rowMany ms) (a_mod_least ms) (a_mod_leastMany ms) (a_mod_netP ms) (a_mod_netQ ms) (a_mod_netR ms) (a_mod_leapMany ms), ce_J (rB 1) (kB 1) 8 (a_regA ms), ce_J (rB 2) (kB 2) 8 (a_regB ms), ce_J (rB 3) (kB 3) 6 (a_unitA ms), ce_J (rB 4) (kB 4) 6 (a_unitB ms), ce_J (rB 5) (kB 5) 40 (a_partA ms), ce_J (rB 6) (kB 6) 40 (a_partB ms), ce_J (rB 7) (kB 7) 1000 (a_rowA ms), ce_J (rB 8) (kB 8) 1000 (a_rowB ms), ce_I (rB 9) (kB 9) 1000 (a_rowDigit ms), ce_J (rB 10) (kB 10) 12 (a_leapA ms), ce_J (rB 11) (kB 11) 12 (a_leapB ms), ce_I (rB 12) (kB 12) 3721 (a_fars ms), ce_I (rB 13) (kB 13) 3721 (a_queue ms)]) (ws' := [ce_pw rA , ce_net rA (a_net_t cs) (a_net_n cs) (a_net_units cs) (a_net_spin cs), ce_J (rA 2) (kA 2) 8 (a_reg cs), ce_mak rA (a_mak_common cs) (a_mak_u cs) (a_mak_v cs), ce_fac rA (a_fac_count cs) (a_fac_left cs), ce_J (rA 5) (kA 5) 40 (a_pri cs), ce_rsd rA (a_rsd_found cs), ce_num rA (a_num_base cs) (a_num_size cs) (a_num_digitOfW cs) (a_num_tail cs) (a_num_round cs) (a_num_rings cs) (a_num_ringed cs), ce_I (rA 8) (kA 8) 625 (a_mrk cs), ce_fl (rA 9) zp.2.1 zp.2.2.1 zp.2.2.2.1, ce_fl (rA 10) (a_ot_p cs) (a_ot_q cs) (a_ot_r cs), ce_lea rA zp.2.2.2.2.1, ce_J (rA 12) (kA 12) 12 zp.2.2.2.2.2, ce_J (rA 13) (kA 13) 61 (a_sen cs), ce_J (rA 14) (kA 14) 61 (a_edg cs), ce_J (rA 15) (kA 15) 61 (a_nxt cs), ce_mod rB (a_mod_t ms) (a_mod_n ms) (a_mod_a ms) (a_mod_b ms) (a_mod_unitMany ms) (a_mod_quotA ms) (a_mod_quotB ms) (a_mod_unitUsed ms) (a_mod_fu ms) (a_mod_fuB ms) (a_mod_fv ms) (a_mod_fvB ms) (a_mod_madeA ms) (a_mod_madeB ms) (a_mod_partMany ms) (a_mod_leftA ms) (a_mod_leftB ms) (a_mod_rootA ms) (a_mod_rootB ms) (a_mod_tail ms) (a_mod_round ms) (a_mod_sum ms) (a_mod_rowMany ms) (a_mod_least ms) (a_mod_leastMany ms) (a_mod_netP ms) (a_mod_netQ ms) (a_mod_netR ms) (a_mod_leapMany ms), ce_J (rB 1) (kB 1) 8 (a_regA ms), ce_J (rB 2) (kB 2) 8 (a_regB ms), ce_J (rB 3) (kB 3) 6 (a_unitA ms), ce_J (rB 4) (kB 4) 6 (a_unitB ms), ce_J (rB 5) (kB 5) 40 (a_partA ms), ce_J (rB 6) (kB 6) 40 (a_partB ms), ce_J (rB 7) (kB 7) 1000 (a_rowA ms), ce_J (rB 8) (kB 8) 1000 (a_rowB ms), ce_I (rB 9) (kB 9) 1000 (a_rowDigit ms), ce_J (rB 10) (kB 10) 12 (a_leapA ms), ce_J (rB 11) (kB 11) 12 (a_leapB ms), ce_I (rB 12) (kB 12) 3721 (a_fars ms), ce_I (rB 13) (kB 13) 3721 (a_queue ms)]) (va_runV (As := [.int (xs (x3 + (1 : Int32)).toNatClampNeg)]) (rest := []) ⟨hx, hb, hml, hown, hts⟩ (c_X7_where l dC dI rA kA H.size (a_net_t cs) (a_net_n cs) (a_net_units cs) (a_net_spin cs) (a_reg cs) (a_fl_p cs) (a_fl_q cs) (a_fl_r cs) (a_lea_count cs) (a_lps cs) (xs (x3 + (1 : Int32)).toNatClampNeg) hzp) (cwV 1 hts gL_X7_where rfl rfl rfl hv_X7_where ⟨(Nat.le_of_ble_eq_true rfl), (Nat.le_of_ble_eq_true rfl)⟩) ⟨fb_w, va_recv hK hP (ci := 7) (q0 := 0) rfl rfl, pre_w hPc hDc hKc hN⟩ rfl rfl hl.1 rfl (lv_room (Nat.le_of_ble_eq_true rfl)) dL_law_1247 ⟨(Nat.le_of_ble_eq_true rfl), (Nat.le_of_ble_eq_true rfl)⟩) hP hD hS hA [0, 1, 2, 9, 11, 12] [3, 4, 5, 6, 7, 8, 10, 13, 14, 15, 16, 17, 18, 19, 20, 21, 22, 23, 24, 25, 26, 27, 28, 29] [24, 25, 26, 0, 1, 2, 3, 4, 5, 27, 6, 28, 29, 7, 8, 9, 10, 11, 12, 13, 14, 15, 16, 17, 18, 19, 20, 21, 22, 23] rfl rfl rfl (by decide) rfl rfl rfl (fun H locs hP hD hS => ?_)
        refine lv_aload_n hx hb dL_law_1250 rfl (lv_at hl 3 rfl) ?_
        refine lv_aload_n hx hb dL_law_1251 rfl (lv_at hl 1 rfl) ?_
        refine lv_iload_n hx hb dL_law_1252 rfl (lv_at hl 0 rfl) ?_
        refine lv_iconst (v := (1 : Int32)) hx hb dL_law_1253 (by decide) ?_
        refine lv_iadd hx hb dL_law_1254 ?_
        refine va_sld hx hb hX hbl hbA hS hin1 dL_law_1255 ?_
        have hPc := hP.sub (ws' := [ce_mod rB (a_mod_t ms) (a_mod_n ms) (a_mod_a ms) (a_mod_b ms) (a_mod_unitMany ms) (a_mod_quotA ms) (a_mod_quotB ms) (a_mod_unitUsed ms) (a_mod_fu ms) (a_mod_fuB ms) (a_mod_fv ms) (a_mod_fvB ms) (a_mod_madeA ms) (a_mod_madeB ms) (a_mod_partMany ms) (a_mod_leftA ms) (a_mod_leftB ms) (a_mod_rootA ms) (a_mod_rootB ms) (a_mod_tail ms) (a_mod_round ms) (a_mod_sum ms) (a_mod_rowMany ms) (a_mod_least ms) (a_mod_leastMany ms) (a_mod_netP ms) (a_mod_netQ ms) (a_mod_netR ms) (a_mod_leapMany ms), ce_J (rB 1) (kB 1) 8 (a_regA ms), ce_J (rB 2) (kB 2) 8 (a_regB ms), ce_J (rB 3) (kB 3) 6 (a_unitA ms), ce_J (rB 4) (kB 4) 6 (a_unitB ms), ce_J (rB 10) (kB 10) 12 (a_leapA ms), ce_J (rB 11) (kB 11) 12 (a_leapB ms)]) [16, 17, 18, 19, 20, 26, 27] rfl
        have hKc := hK.sub (tys' := [((kB 1), .long), ((kB 2), .long), ((kB 3), .long), ((kB 4), .long), ((kB 10), .long), ((kB 11), .long)]) [7, 8, 9, 10, 16, 17] rfl
        have hDc := hD.sub (ws' := [ce_mod rB (a_mod_t ms) (a_mod_n ms) (a_mod_a ms) (a_mod_b ms) (a_mod_unitMany ms) (a_mod_quotA ms) (a_mod_quotB ms) (a_mod_unitUsed ms) (a_mod_fu ms) (a_mod_fuB ms) (a_mod_fv ms) (a_mod_fvB ms) (a_mod_madeA ms) (a_mod_madeB ms) (a_mod_partMany ms) (a_mod_leftA ms) (a_mod_leftB ms) (a_mod_rootA ms) (a_mod_rootB ms) (a_mod_tail ms) (a_mod_round ms) (a_mod_sum ms) (a_mod_rowMany ms) (a_mod_least ms) (a_mod_leastMany ms) (a_mod_netP ms) (a_mod_netQ ms) (a_mod_netR ms) (a_mod_leapMany ms), ce_J (rB 1) (kB 1) 8 (a_regA ms), ce_J (rB 2) (kB 2) 8 (a_regB ms), ce_J (rB 3) (kB 3) 6 (a_unitA ms), ce_J (rB 4) (kB 4) 6 (a_unitB ms), ce_J (rB 10) (kB 10) 12 (a_leapA ms), ce_J (rB 11) (kB 11) 12 (a_leapB ms)]) [16, 17, 18, 19, 20, 26, 27] rfl rfl
        refine kw_l (wr := [ce_pw rA , ce_net rA (a_net_t cs) (a_net_n cs) (a_net_units cs) (a_net_spin cs), ce_J (rA 2) (kA 2) 8 (a_reg cs), ce_mak rA (a_mak_common cs) (a_mak_u cs) (a_mak_v cs), ce_fac rA (a_fac_count cs) (a_fac_left cs), ce_J (rA 5) (kA 5) 40 (a_pri cs), ce_rsd rA (a_rsd_found cs), ce_num rA (a_num_base cs) (a_num_size cs) (a_num_digitOfW cs) (a_num_tail cs) (a_num_round cs) (a_num_rings cs) (a_num_ringed cs), ce_I (rA 8) (kA 8) 625 (a_mrk cs), ce_fl (rA 9) zp.2.1 zp.2.2.1 zp.2.2.2.1, ce_fl (rA 10) (a_ot_p cs) (a_ot_q cs) (a_ot_r cs), ce_lea rA zp.2.2.2.2.1, ce_J (rA 12) (kA 12) 12 zp.2.2.2.2.2, ce_J (rA 13) (kA 13) 61 (a_sen cs), ce_J (rA 14) (kA 14) 61 (a_edg cs), ce_J (rA 15) (kA 15) 61 (a_nxt cs), ce_J (rB 5) (kB 5) 40 (a_partA ms), ce_J (rB 6) (kB 6) 40 (a_partB ms), ce_J (rB 7) (kB 7) 1000 (a_rowA ms), ce_J (rB 8) (kB 8) 1000 (a_rowB ms), ce_I (rB 9) (kB 9) 1000 (a_rowDigit ms), ce_I (rB 12) (kB 12) 3721 (a_fars ms), ce_I (rB 13) (kB 13) 3721 (a_queue ms)]) (ws' := [ce_pw rA , ce_net rA (a_net_t cs) (a_net_n cs) (a_net_units cs) (a_net_spin cs), ce_J (rA 2) (kA 2) 8 (a_reg cs), ce_mak rA (a_mak_common cs) (a_mak_u cs) (a_mak_v cs), ce_fac rA (a_fac_count cs) (a_fac_left cs), ce_J (rA 5) (kA 5) 40 (a_pri cs), ce_rsd rA (a_rsd_found cs), ce_num rA (a_num_base cs) (a_num_size cs) (a_num_digitOfW cs) (a_num_tail cs) (a_num_round cs) (a_num_rings cs) (a_num_ringed cs), ce_I (rA 8) (kA 8) 625 (a_mrk cs), ce_fl (rA 9) zp.2.1 zp.2.2.1 zp.2.2.2.1, ce_fl (rA 10) (a_ot_p cs) (a_ot_q cs) (a_ot_r cs), ce_lea rA zp.2.2.2.2.1, ce_J (rA 12) (kA 12) 12 zp.2.2.2.2.2, ce_J (rA 13) (kA 13) 61 (a_sen cs), ce_J (rA 14) (kA 14) 61 (a_edg cs), ce_J (rA 15) (kA 15) 61 (a_nxt cs), ce_mod rB (a_mod_t ms) (a_mod_n ms) zq.2.1 zq.2.2.1 (a_mod_unitMany ms) (a_mod_quotA ms) (a_mod_quotB ms) (a_mod_unitUsed ms) (a_mod_fu ms) (a_mod_fuB ms) (a_mod_fv ms) (a_mod_fvB ms) (a_mod_madeA ms) (a_mod_madeB ms) (a_mod_partMany ms) (a_mod_leftA ms) (a_mod_leftB ms) (a_mod_rootA ms) (a_mod_rootB ms) (a_mod_tail ms) (a_mod_round ms) (a_mod_sum ms) (a_mod_rowMany ms) (a_mod_least ms) (a_mod_leastMany ms) zq.2.2.2.1 zq.2.2.2.2.1 zq.2.2.2.2.2.1 zq.2.2.2.2.2.2.1, ce_J (rB 1) (kB 1) 8 (a_regA ms), ce_J (rB 2) (kB 2) 8 (a_regB ms), ce_J (rB 3) (kB 3) 6 (a_unitA ms), ce_J (rB 4) (kB 4) 6 (a_unitB ms), ce_J (rB 5) (kB 5) 40 (a_partA ms), ce_J (rB 6) (kB 6) 40 (a_partB ms), ce_J (rB 7) (kB 7) 1000 (a_rowA ms), ce_J (rB 8) (kB 8) 1000 (a_rowB ms), ce_I (rB 9) (kB 9) 1000 (a_rowDigit ms), ce_J (rB 10) (kB 10) 12 zq.2.2.2.2.2.2.2.1, ce_J (rB 11) (kB 11) 12 zq.2.2.2.2.2.2.2.2, ce_I (rB 12) (kB 12) 3721 (a_fars ms), ce_I (rB 13) (kB 13) 3721 (a_queue ms)]) (va_runV (As := [.int (xs (x3 + (1 : Int32)).toNatClampNeg)]) (rest := [.long zp.1]) ⟨hx, hb, hml, hown, hts⟩ (c_X8_where l dC dI rB kB H.size (a_mod_t ms) (a_mod_n ms) (a_mod_a ms) (a_mod_b ms) (a_mod_unitMany ms) (a_mod_quotA ms) (a_mod_quotB ms) (a_mod_unitUsed ms) (a_mod_fu ms) (a_mod_fuB ms) (a_mod_fv ms) (a_mod_fvB ms) (a_mod_madeA ms) (a_mod_madeB ms) (a_mod_partMany ms) (a_mod_leftA ms) (a_mod_leftB ms) (a_mod_rootA ms) (a_mod_rootB ms) (a_mod_tail ms) (a_mod_round ms) (a_mod_sum ms) (a_mod_rowMany ms) (a_mod_least ms) (a_mod_leastMany ms) (a_mod_netP ms) (a_mod_netQ ms) (a_mod_netR ms) (a_mod_leapMany ms) (a_regA ms) (a_regB ms) (a_unitA ms) (a_unitB ms) (a_leapA ms) (a_leapB ms) (xs (x3 + (1 : Int32)).toNatClampNeg) hzq) (cwV 1 hts gL_X8_where rfl rfl rfl hv_X8_where ⟨(Nat.le_of_ble_eq_true rfl), (Nat.le_of_ble_eq_true rfl)⟩) ⟨fb_w, va_recv hK hP (ci := 8) (q0 := 16) rfl rfl, pre_w hPc hDc hKc hN⟩ rfl rfl hl.1 rfl (lv_room (Nat.le_of_ble_eq_true rfl)) dL_law_1256 ⟨(Nat.le_of_ble_eq_true rfl), (Nat.le_of_ble_eq_true rfl)⟩) hP hD hS hA [16, 17, 18, 19, 20, 26, 27] [0, 1, 2, 3, 4, 5, 6, 7, 8, 9, 10, 11, 12, 13, 14, 15, 21, 22, 23, 24, 25, 28, 29] [0, 1, 2, 3, 4, 5, 6, 7, 8, 9, 10, 11, 12, 13, 14, 15, 23, 24, 25, 26, 27, 16, 17, 18, 19, 20, 28, 29, 21, 22] rfl rfl rfl (by decide) rfl rfl rfl (fun H locs hP hD hS => ?_)
        refine W.lcmp hx hb dL_law_1259 ?_
        refine lv_if_eq (tgt := 1298) hx hb dL_law_1260 (by decide) (fun c1 => ?_) (fun c1 => absurd ((lg_cmp_eq _ _).mpr hzr) c1)
        exact hnext ((a_net_t cs), (a_net_n cs), (a_net_units cs), (a_net_spin cs), (a_reg cs), (a_mak_common cs), (a_mak_u cs), (a_mak_v cs), (a_fac_count cs), (a_fac_left cs), (a_pri cs), (a_rsd_found cs), (a_num_base cs), (a_num_size cs), (a_num_digitOfW cs), (a_num_tail cs), (a_num_round cs), (a_num_rings cs), (a_num_ringed cs), (a_mrk cs), zp.2.1, zp.2.2.1, zp.2.2.2.1, (a_ot_p cs), (a_ot_q cs), (a_ot_r cs), zp.2.2.2.2.1, zp.2.2.2.2.2, (a_sen cs), (a_edg cs), (a_nxt cs)) ((a_mod_t ms), (a_mod_n ms), zq.2.1, zq.2.2.1, (a_mod_unitMany ms), (a_mod_quotA ms), (a_mod_quotB ms), (a_mod_unitUsed ms), (a_mod_fu ms), (a_mod_fuB ms), (a_mod_fv ms), (a_mod_fvB ms), (a_mod_madeA ms), (a_mod_madeB ms), (a_mod_partMany ms), (a_mod_leftA ms), (a_mod_leftB ms), (a_mod_rootA ms), (a_mod_rootB ms), (a_mod_tail ms), (a_mod_round ms), (a_mod_sum ms), (a_mod_rowMany ms), (a_mod_least ms), (a_mod_leastMany ms), zq.2.2.2.1, zq.2.2.2.2.1, zq.2.2.2.2.2.1, zq.2.2.2.2.2.2.1, (a_regA ms), (a_regB ms), (a_unitA ms), (a_unitB ms), (a_partA ms), (a_partB ms), (a_rowA ms), (a_rowB ms), (a_rowDigit ms), zq.2.2.2.2.2.2.2.1, zq.2.2.2.2.2.2.2.2, (a_fars ms), (a_queue ms)) H locs ls hR hP hD hS hl
      by_cases g_27 : sel = (27 : Int32)
      · refine lv_tableIn (tgt := 1265) hx hb dL_law_33 (by rw [g_27]; decide) (by rw [g_27]; decide) (by rw [g_27]; rfl) (by decide) ?_
        clear g_27 hsel
        refine lv_aload_n hx hb dL_law_1265 rfl (lv_at hl 2 rfl) ?_
        refine lv_aload_n hx hb dL_law_1266 rfl (lv_at hl 1 rfl) ?_
        refine lv_iload_n hx hb dL_law_1267 rfl (lv_at hl 0 rfl) ?_
        refine lv_iconst (v := (1 : Int32)) hx hb dL_law_1268 (by decide) ?_
        refine lv_iadd hx hb dL_law_1269 ?_
        refine va_sld hx hb hX hbl hbA hS hin1 dL_law_1270 ?_
        refine lv_aload_n hx hb dL_law_1271 rfl (lv_at hl 1 rfl) ?_
        refine lv_iload_n hx hb dL_law_1272 rfl (lv_at hl 0 rfl) ?_
        refine lv_iconst (v := (2 : Int32)) hx hb dL_law_1273 (by decide) ?_
        refine lv_iadd hx hb dL_law_1274 ?_
        refine va_sld hx hb hX hbl hbA hS hin2 dL_law_1275 ?_
        obtain ⟨zp, zq, hzp, hzq, hzr, hR⟩ := hm_leaps cs ms hR (xs (x3 + (1 : Int32)).toNatClampNeg) (xs (x3 + (2 : Int32)).toNatClampNeg)
        have hPc := hP.sub (ws' := [ce_pw rA , ce_net rA (a_net_t cs) (a_net_n cs) (a_net_units cs) (a_net_spin cs), ce_J (rA 2) (kA 2) 8 (a_reg cs), ce_lea rA (a_lea_count cs), ce_J (rA 12) (kA 12) 12 (a_lps cs), ce_J (rA 13) (kA 13) 61 (a_sen cs), ce_J (rA 14) (kA 14) 61 (a_edg cs), ce_J (rA 15) (kA 15) 61 (a_nxt cs)]) [0, 1, 2, 11, 12, 13, 14, 15] rfl
        have hKc := hK.sub (tys' := [((kA 2), .long), ((kA 12), .long), ((kA 13), .long), ((kA 14), .long), ((kA 15), .long)]) [0, 3, 4, 5, 6] rfl
        have hDc := hD.sub (ws' := [ce_pw rA , ce_net rA (a_net_t cs) (a_net_n cs) (a_net_units cs) (a_net_spin cs), ce_J (rA 2) (kA 2) 8 (a_reg cs), ce_lea rA (a_lea_count cs), ce_J (rA 12) (kA 12) 12 (a_lps cs), ce_J (rA 13) (kA 13) 61 (a_sen cs), ce_J (rA 14) (kA 14) 61 (a_edg cs), ce_J (rA 15) (kA 15) 61 (a_nxt cs)]) [0, 1, 2, 11, 12, 13, 14, 15] rfl rfl
        refine kw_i (wr := [ce_mak rA (a_mak_common cs) (a_mak_u cs) (a_mak_v cs), ce_fac rA (a_fac_count cs) (a_fac_left cs), ce_J (rA 5) (kA 5) 40 (a_pri cs), ce_rsd rA (a_rsd_found cs), ce_num rA (a_num_base cs) (a_num_size cs) (a_num_digitOfW cs) (a_num_tail cs) (a_num_round cs) (a_num_rings cs) (a_num_ringed cs), ce_I (rA 8) (kA 8) 625 (a_mrk cs), ce_fl (rA 9) (a_fl_p cs) (a_fl_q cs) (a_fl_r cs), ce_fl (rA 10) (a_ot_p cs) (a_ot_q cs) (a_ot_r cs), ce_mod rB (a_mod_t ms) (a_mod_n ms) (a_mod_a ms) (a_mod_b ms) (a_mod_unitMany ms) (a_mod_quotA ms) (a_mod_quotB ms) (a_mod_unitUsed ms) (a_mod_fu ms) (a_mod_fuB ms) (a_mod_fv ms) (a_mod_fvB ms) (a_mod_madeA ms) (a_mod_madeB ms) (a_mod_partMany ms) (a_mod_leftA ms) (a_mod_leftB ms) (a_mod_rootA ms) (a_mod_rootB ms) (a_mod_tail ms) (a_mod_round ms) (a_mod_sum ms) (a_mod_rowMany ms) (a_mod_least ms) (a_mod_leastMany ms) (a_mod_netP ms) (a_mod_netQ ms) (a_mod_netR ms) (a_mod_leapMany ms), ce_J (rB 1) (kB 1) 8 (a_regA ms), ce_J (rB 2) (kB 2) 8 (a_regB ms), ce_J (rB 3) (kB 3) 6 (a_unitA ms), ce_J (rB 4) (kB 4) 6 (a_unitB ms), ce_J (rB 5) (kB 5) 40 (a_partA ms), ce_J (rB 6) (kB 6) 40 (a_partB ms), ce_J (rB 7) (kB 7) 1000 (a_rowA ms), ce_J (rB 8) (kB 8) 1000 (a_rowB ms), ce_I (rB 9) (kB 9) 1000 (a_rowDigit ms), ce_J (rB 10) (kB 10) 12 (a_leapA ms), ce_J (rB 11) (kB 11) 12 (a_leapB ms), ce_I (rB 12) (kB 12) 3721 (a_fars ms), ce_I (rB 13) (kB 13) 3721 (a_queue ms)]) (ws' := [ce_pw rA , ce_net rA (a_net_t cs) (a_net_n cs) (a_net_units cs) (a_net_spin cs), ce_J (rA 2) (kA 2) 8 (a_reg cs), ce_mak rA (a_mak_common cs) (a_mak_u cs) (a_mak_v cs), ce_fac rA (a_fac_count cs) (a_fac_left cs), ce_J (rA 5) (kA 5) 40 (a_pri cs), ce_rsd rA (a_rsd_found cs), ce_num rA (a_num_base cs) (a_num_size cs) (a_num_digitOfW cs) (a_num_tail cs) (a_num_round cs) (a_num_rings cs) (a_num_ringed cs), ce_I (rA 8) (kA 8) 625 (a_mrk cs), ce_fl (rA 9) (a_fl_p cs) (a_fl_q cs) (a_fl_r cs), ce_fl (rA 10) (a_ot_p cs) (a_ot_q cs) (a_ot_r cs), ce_lea rA zp.2.1, ce_J (rA 12) (kA 12) 12 zp.2.2.1, ce_J (rA 13) (kA 13) 61 zp.2.2.2.1, ce_J (rA 14) (kA 14) 61 zp.2.2.2.2.1, ce_J (rA 15) (kA 15) 61 zp.2.2.2.2.2, ce_mod rB (a_mod_t ms) (a_mod_n ms) (a_mod_a ms) (a_mod_b ms) (a_mod_unitMany ms) (a_mod_quotA ms) (a_mod_quotB ms) (a_mod_unitUsed ms) (a_mod_fu ms) (a_mod_fuB ms) (a_mod_fv ms) (a_mod_fvB ms) (a_mod_madeA ms) (a_mod_madeB ms) (a_mod_partMany ms) (a_mod_leftA ms) (a_mod_leftB ms) (a_mod_rootA ms) (a_mod_rootB ms) (a_mod_tail ms) (a_mod_round ms) (a_mod_sum ms) (a_mod_rowMany ms) (a_mod_least ms) (a_mod_leastMany ms) (a_mod_netP ms) (a_mod_netQ ms) (a_mod_netR ms) (a_mod_leapMany ms), ce_J (rB 1) (kB 1) 8 (a_regA ms), ce_J (rB 2) (kB 2) 8 (a_regB ms), ce_J (rB 3) (kB 3) 6 (a_unitA ms), ce_J (rB 4) (kB 4) 6 (a_unitB ms), ce_J (rB 5) (kB 5) 40 (a_partA ms), ce_J (rB 6) (kB 6) 40 (a_partB ms), ce_J (rB 7) (kB 7) 1000 (a_rowA ms), ce_J (rB 8) (kB 8) 1000 (a_rowB ms), ce_I (rB 9) (kB 9) 1000 (a_rowDigit ms), ce_J (rB 10) (kB 10) 12 (a_leapA ms), ce_J (rB 11) (kB 11) 12 (a_leapB ms), ce_I (rB 12) (kB 12) 3721 (a_fars ms), ce_I (rB 13) (kB 13) 3721 (a_queue ms)]) (va_runV (As := [.int (xs (x3 + (1 : Int32)).toNatClampNeg), .int (xs (x3 + (2 : Int32)).toNatClampNeg)]) (rest := []) ⟨hx, hb, hml, hown, hts⟩ (c_X7_leaps l dC dI rA kA H.size (a_net_t cs) (a_net_n cs) (a_net_units cs) (a_net_spin cs) (a_reg cs) (a_lea_count cs) (a_lps cs) (a_sen cs) (a_edg cs) (a_nxt cs) (xs (x3 + (1 : Int32)).toNatClampNeg) (xs (x3 + (2 : Int32)).toNatClampNeg) hzp) (cwV 2 hts gL_X7_leaps rfl rfl rfl hv_X7_leaps ⟨(Nat.le_of_ble_eq_true rfl), (Nat.le_of_ble_eq_true rfl)⟩) ⟨fb_w, va_recv hK hP (ci := 7) (q0 := 0) rfl rfl, pre_w hPc hDc hKc hN⟩ rfl rfl hl.1 rfl (lv_room (Nat.le_of_ble_eq_true rfl)) dL_law_1276 ⟨(Nat.le_of_ble_eq_true rfl), (Nat.le_of_ble_eq_true rfl)⟩) hP hD hS hA [0, 1, 2, 11, 12, 13, 14, 15] [3, 4, 5, 6, 7, 8, 9, 10, 16, 17, 18, 19, 20, 21, 22, 23, 24, 25, 26, 27, 28, 29] [22, 23, 24, 0, 1, 2, 3, 4, 5, 6, 7, 25, 26, 27, 28, 29, 8, 9, 10, 11, 12, 13, 14, 15, 16, 17, 18, 19, 20, 21] rfl rfl rfl (by decide) rfl rfl rfl (fun H locs hP hD hS => ?_)
        refine lv_aload_n hx hb dL_law_1279 rfl (lv_at hl 3 rfl) ?_
        refine lv_aload_n hx hb dL_law_1280 rfl (lv_at hl 1 rfl) ?_
        refine lv_iload_n hx hb dL_law_1281 rfl (lv_at hl 0 rfl) ?_
        refine lv_iconst (v := (1 : Int32)) hx hb dL_law_1282 (by decide) ?_
        refine lv_iadd hx hb dL_law_1283 ?_
        refine va_sld hx hb hX hbl hbA hS hin1 dL_law_1284 ?_
        refine lv_aload_n hx hb dL_law_1285 rfl (lv_at hl 1 rfl) ?_
        refine lv_iload_n hx hb dL_law_1286 rfl (lv_at hl 0 rfl) ?_
        refine lv_iconst (v := (2 : Int32)) hx hb dL_law_1287 (by decide) ?_
        refine lv_iadd hx hb dL_law_1288 ?_
        refine va_sld hx hb hX hbl hbA hS hin2 dL_law_1289 ?_
        have hPc := hP.sub (ws' := [ce_mod rB (a_mod_t ms) (a_mod_n ms) (a_mod_a ms) (a_mod_b ms) (a_mod_unitMany ms) (a_mod_quotA ms) (a_mod_quotB ms) (a_mod_unitUsed ms) (a_mod_fu ms) (a_mod_fuB ms) (a_mod_fv ms) (a_mod_fvB ms) (a_mod_madeA ms) (a_mod_madeB ms) (a_mod_partMany ms) (a_mod_leftA ms) (a_mod_leftB ms) (a_mod_rootA ms) (a_mod_rootB ms) (a_mod_tail ms) (a_mod_round ms) (a_mod_sum ms) (a_mod_rowMany ms) (a_mod_least ms) (a_mod_leastMany ms) (a_mod_netP ms) (a_mod_netQ ms) (a_mod_netR ms) (a_mod_leapMany ms), ce_J (rB 1) (kB 1) 8 (a_regA ms), ce_J (rB 2) (kB 2) 8 (a_regB ms), ce_J (rB 3) (kB 3) 6 (a_unitA ms), ce_J (rB 4) (kB 4) 6 (a_unitB ms), ce_J (rB 10) (kB 10) 12 (a_leapA ms), ce_J (rB 11) (kB 11) 12 (a_leapB ms), ce_I (rB 12) (kB 12) 3721 (a_fars ms), ce_I (rB 13) (kB 13) 3721 (a_queue ms)]) [16, 17, 18, 19, 20, 26, 27, 28, 29] rfl
        have hKc := hK.sub (tys' := [((kB 1), .long), ((kB 2), .long), ((kB 3), .long), ((kB 4), .long), ((kB 10), .long), ((kB 11), .long), ((kB 12), .int), ((kB 13), .int)]) [7, 8, 9, 10, 16, 17, 18, 19] rfl
        have hDc := hD.sub (ws' := [ce_mod rB (a_mod_t ms) (a_mod_n ms) (a_mod_a ms) (a_mod_b ms) (a_mod_unitMany ms) (a_mod_quotA ms) (a_mod_quotB ms) (a_mod_unitUsed ms) (a_mod_fu ms) (a_mod_fuB ms) (a_mod_fv ms) (a_mod_fvB ms) (a_mod_madeA ms) (a_mod_madeB ms) (a_mod_partMany ms) (a_mod_leftA ms) (a_mod_leftB ms) (a_mod_rootA ms) (a_mod_rootB ms) (a_mod_tail ms) (a_mod_round ms) (a_mod_sum ms) (a_mod_rowMany ms) (a_mod_least ms) (a_mod_leastMany ms) (a_mod_netP ms) (a_mod_netQ ms) (a_mod_netR ms) (a_mod_leapMany ms), ce_J (rB 1) (kB 1) 8 (a_regA ms), ce_J (rB 2) (kB 2) 8 (a_regB ms), ce_J (rB 3) (kB 3) 6 (a_unitA ms), ce_J (rB 4) (kB 4) 6 (a_unitB ms), ce_J (rB 10) (kB 10) 12 (a_leapA ms), ce_J (rB 11) (kB 11) 12 (a_leapB ms), ce_I (rB 12) (kB 12) 3721 (a_fars ms), ce_I (rB 13) (kB 13) 3721 (a_queue ms)]) [16, 17, 18, 19, 20, 26, 27, 28, 29] rfl rfl
        refine kw_i (wr := [ce_pw rA , ce_net rA (a_net_t cs) (a_net_n cs) (a_net_units cs) (a_net_spin cs), ce_J (rA 2) (kA 2) 8 (a_reg cs), ce_mak rA (a_mak_common cs) (a_mak_u cs) (a_mak_v cs), ce_fac rA (a_fac_count cs) (a_fac_left cs), ce_J (rA 5) (kA 5) 40 (a_pri cs), ce_rsd rA (a_rsd_found cs), ce_num rA (a_num_base cs) (a_num_size cs) (a_num_digitOfW cs) (a_num_tail cs) (a_num_round cs) (a_num_rings cs) (a_num_ringed cs), ce_I (rA 8) (kA 8) 625 (a_mrk cs), ce_fl (rA 9) (a_fl_p cs) (a_fl_q cs) (a_fl_r cs), ce_fl (rA 10) (a_ot_p cs) (a_ot_q cs) (a_ot_r cs), ce_lea rA zp.2.1, ce_J (rA 12) (kA 12) 12 zp.2.2.1, ce_J (rA 13) (kA 13) 61 zp.2.2.2.1, ce_J (rA 14) (kA 14) 61 zp.2.2.2.2.1, ce_J (rA 15) (kA 15) 61 zp.2.2.2.2.2, ce_J (rB 5) (kB 5) 40 (a_partA ms), ce_J (rB 6) (kB 6) 40 (a_partB ms), ce_J (rB 7) (kB 7) 1000 (a_rowA ms), ce_J (rB 8) (kB 8) 1000 (a_rowB ms), ce_I (rB 9) (kB 9) 1000 (a_rowDigit ms)]) (ws' := [ce_pw rA , ce_net rA (a_net_t cs) (a_net_n cs) (a_net_units cs) (a_net_spin cs), ce_J (rA 2) (kA 2) 8 (a_reg cs), ce_mak rA (a_mak_common cs) (a_mak_u cs) (a_mak_v cs), ce_fac rA (a_fac_count cs) (a_fac_left cs), ce_J (rA 5) (kA 5) 40 (a_pri cs), ce_rsd rA (a_rsd_found cs), ce_num rA (a_num_base cs) (a_num_size cs) (a_num_digitOfW cs) (a_num_tail cs) (a_num_round cs) (a_num_rings cs) (a_num_ringed cs), ce_I (rA 8) (kA 8) 625 (a_mrk cs), ce_fl (rA 9) (a_fl_p cs) (a_fl_q cs) (a_fl_r cs), ce_fl (rA 10) (a_ot_p cs) (a_ot_q cs) (a_ot_r cs), ce_lea rA zp.2.1, ce_J (rA 12) (kA 12) 12 zp.2.2.1, ce_J (rA 13) (kA 13) 61 zp.2.2.2.1, ce_J (rA 14) (kA 14) 61 zp.2.2.2.2.1, ce_J (rA 15) (kA 15) 61 zp.2.2.2.2.2, ce_mod rB (a_mod_t ms) (a_mod_n ms) zq.2.1 zq.2.2.1 (a_mod_unitMany ms) (a_mod_quotA ms) (a_mod_quotB ms) (a_mod_unitUsed ms) (a_mod_fu ms) (a_mod_fuB ms) (a_mod_fv ms) (a_mod_fvB ms) (a_mod_madeA ms) (a_mod_madeB ms) (a_mod_partMany ms) (a_mod_leftA ms) (a_mod_leftB ms) (a_mod_rootA ms) (a_mod_rootB ms) (a_mod_tail ms) (a_mod_round ms) (a_mod_sum ms) (a_mod_rowMany ms) (a_mod_least ms) (a_mod_leastMany ms) (a_mod_netP ms) (a_mod_netQ ms) (a_mod_netR ms) zq.2.2.2.1, ce_J (rB 1) (kB 1) 8 (a_regA ms), ce_J (rB 2) (kB 2) 8 (a_regB ms), ce_J (rB 3) (kB 3) 6 (a_unitA ms), ce_J (rB 4) (kB 4) 6 (a_unitB ms), ce_J (rB 5) (kB 5) 40 (a_partA ms), ce_J (rB 6) (kB 6) 40 (a_partB ms), ce_J (rB 7) (kB 7) 1000 (a_rowA ms), ce_J (rB 8) (kB 8) 1000 (a_rowB ms), ce_I (rB 9) (kB 9) 1000 (a_rowDigit ms), ce_J (rB 10) (kB 10) 12 zq.2.2.2.2.1, ce_J (rB 11) (kB 11) 12 zq.2.2.2.2.2.1, ce_I (rB 12) (kB 12) 3721 zq.2.2.2.2.2.2.1, ce_I (rB 13) (kB 13) 3721 zq.2.2.2.2.2.2.2]) (va_runV (As := [.int (xs (x3 + (1 : Int32)).toNatClampNeg), .int (xs (x3 + (2 : Int32)).toNatClampNeg)]) (rest := [.int zp.1]) ⟨hx, hb, hml, hown, hts⟩ (c_X8_leaps l dC dI rB kB H.size (a_mod_t ms) (a_mod_n ms) (a_mod_a ms) (a_mod_b ms) (a_mod_unitMany ms) (a_mod_quotA ms) (a_mod_quotB ms) (a_mod_unitUsed ms) (a_mod_fu ms) (a_mod_fuB ms) (a_mod_fv ms) (a_mod_fvB ms) (a_mod_madeA ms) (a_mod_madeB ms) (a_mod_partMany ms) (a_mod_leftA ms) (a_mod_leftB ms) (a_mod_rootA ms) (a_mod_rootB ms) (a_mod_tail ms) (a_mod_round ms) (a_mod_sum ms) (a_mod_rowMany ms) (a_mod_least ms) (a_mod_leastMany ms) (a_mod_netP ms) (a_mod_netQ ms) (a_mod_netR ms) (a_mod_leapMany ms) (a_regA ms) (a_regB ms) (a_unitA ms) (a_unitB ms) (a_leapA ms) (a_leapB ms) (a_fars ms) (a_queue ms) (xs (x3 + (1 : Int32)).toNatClampNeg) (xs (x3 + (2 : Int32)).toNatClampNeg) hzq) (cwV 2 hts gL_X8_leaps rfl rfl rfl hv_X8_leaps ⟨(Nat.le_of_ble_eq_true rfl), (Nat.le_of_ble_eq_true rfl)⟩) ⟨fb_w, va_recv hK hP (ci := 8) (q0 := 16) rfl rfl, pre_w hPc hDc hKc hN⟩ rfl rfl hl.1 rfl (lv_room (Nat.le_of_ble_eq_true rfl)) dL_law_1290 ⟨(Nat.le_of_ble_eq_true rfl), (Nat.le_of_ble_eq_true rfl)⟩) hP hD hS hA [16, 17, 18, 19, 20, 26, 27, 28, 29] [0, 1, 2, 3, 4, 5, 6, 7, 8, 9, 10, 11, 12, 13, 14, 15, 21, 22, 23, 24, 25] [0, 1, 2, 3, 4, 5, 6, 7, 8, 9, 10, 11, 12, 13, 14, 15, 21, 22, 23, 24, 25, 16, 17, 18, 19, 20, 26, 27, 28, 29] rfl rfl rfl (by decide) rfl rfl rfl (fun H locs hP hD hS => ?_)
        refine lv_icmp_eq (tgt := 1298) hx hb dL_law_1293 (by decide) (fun c1 => ?_) (fun c1 => absurd hzr c1)
        exact hnext ((a_net_t cs), (a_net_n cs), (a_net_units cs), (a_net_spin cs), (a_reg cs), (a_mak_common cs), (a_mak_u cs), (a_mak_v cs), (a_fac_count cs), (a_fac_left cs), (a_pri cs), (a_rsd_found cs), (a_num_base cs), (a_num_size cs), (a_num_digitOfW cs), (a_num_tail cs), (a_num_round cs), (a_num_rings cs), (a_num_ringed cs), (a_mrk cs), (a_fl_p cs), (a_fl_q cs), (a_fl_r cs), (a_ot_p cs), (a_ot_q cs), (a_ot_r cs), zp.2.1, zp.2.2.1, zp.2.2.2.1, zp.2.2.2.2.1, zp.2.2.2.2.2) ((a_mod_t ms), (a_mod_n ms), zq.2.1, zq.2.2.1, (a_mod_unitMany ms), (a_mod_quotA ms), (a_mod_quotB ms), (a_mod_unitUsed ms), (a_mod_fu ms), (a_mod_fuB ms), (a_mod_fv ms), (a_mod_fvB ms), (a_mod_madeA ms), (a_mod_madeB ms), (a_mod_partMany ms), (a_mod_leftA ms), (a_mod_leftB ms), (a_mod_rootA ms), (a_mod_rootB ms), (a_mod_tail ms), (a_mod_round ms), (a_mod_sum ms), (a_mod_rowMany ms), (a_mod_least ms), (a_mod_leastMany ms), (a_mod_netP ms), (a_mod_netQ ms), (a_mod_netR ms), zq.2.2.2.1, (a_regA ms), (a_regB ms), (a_unitA ms), (a_unitB ms), (a_partA ms), (a_partB ms), (a_rowA ms), (a_rowB ms), (a_rowDigit ms), zq.2.2.2.2.1, zq.2.2.2.2.2.1, zq.2.2.2.2.2.2.1, zq.2.2.2.2.2.2.2) H locs ls hR hP hD hS hl
      have hsw : sel.toInt < 0 ∨ 27 < sel.toInt := sw_out (fun k hk hk2 => by
        have h0 : k = 0 ∨ k = 1 ∨ k = 2 ∨ k = 3 ∨ k = 4 ∨ k = 5 ∨ k = 6 ∨ k = 7 ∨ k = 8 ∨ k = 9 ∨ k = 10 ∨ k = 11 ∨ k = 12 ∨ k = 13 ∨ k = 14 ∨ k = 15 ∨ k = 16 ∨ k = 17 ∨ k = 18 ∨ k = 19 ∨ k = 20 ∨ k = 21 ∨ k = 22 ∨ k = 23 ∨ k = 24 ∨ k = 25 ∨ k = 26 ∨ k = 27 := by omega
        rcases h0 with rfl | rfl | rfl | rfl | rfl | rfl | rfl | rfl | rfl | rfl | rfl | rfl | rfl | rfl | rfl | rfl | rfl | rfl | rfl | rfl | rfl | rfl | rfl | rfl | rfl | rfl | rfl | rfl <;> first | exact fun h => g_0 (Int32.toInt_inj.mp (h.trans (by decide))) | exact fun h => g_1 (Int32.toInt_inj.mp (h.trans (by decide))) | exact fun h => g_2 (Int32.toInt_inj.mp (h.trans (by decide))) | exact fun h => g_3 (Int32.toInt_inj.mp (h.trans (by decide))) | exact fun h => g_4 (Int32.toInt_inj.mp (h.trans (by decide))) | exact fun h => g_5 (Int32.toInt_inj.mp (h.trans (by decide))) | exact fun h => g_6 (Int32.toInt_inj.mp (h.trans (by decide))) | exact fun h => g_7 (Int32.toInt_inj.mp (h.trans (by decide))) | exact fun h => g_8 (Int32.toInt_inj.mp (h.trans (by decide))) | exact fun h => g_9 (Int32.toInt_inj.mp (h.trans (by decide))) | exact fun h => g_10 (Int32.toInt_inj.mp (h.trans (by decide))) | exact fun h => g_11 (Int32.toInt_inj.mp (h.trans (by decide))) | exact fun h => g_12 (Int32.toInt_inj.mp (h.trans (by decide))) | exact fun h => g_13 (Int32.toInt_inj.mp (h.trans (by decide))) | exact fun h => g_14 (Int32.toInt_inj.mp (h.trans (by decide))) | exact fun h => g_15 (Int32.toInt_inj.mp (h.trans (by decide))) | exact fun h => g_16 (Int32.toInt_inj.mp (h.trans (by decide))) | exact fun h => g_17 (Int32.toInt_inj.mp (h.trans (by decide))) | exact fun h => g_18 (Int32.toInt_inj.mp (h.trans (by decide))) | exact fun h => g_19 (Int32.toInt_inj.mp (h.trans (by decide))) | exact fun h => g_20 (Int32.toInt_inj.mp (h.trans (by decide))) | exact fun h => g_21 (Int32.toInt_inj.mp (h.trans (by decide))) | exact fun h => g_22 (Int32.toInt_inj.mp (h.trans (by decide))) | exact fun h => g_23 (Int32.toInt_inj.mp (h.trans (by decide))) | exact fun h => g_24 (Int32.toInt_inj.mp (h.trans (by decide))) | exact fun h => g_25 (Int32.toInt_inj.mp (h.trans (by decide))) | exact fun h => g_26 (Int32.toInt_inj.mp (h.trans (by decide))) | exact fun h => g_27 (Int32.toInt_inj.mp (h.trans (by decide))))
      refine lv_tableOut (tgt := 1298) hx hb dL_law_33 hsw (by decide) ?_
      exact hnext cs ms H locs ls hR hP hD hS hl
