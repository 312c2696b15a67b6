theorem dL_law_0 : decode cL_law 0 = .ok (.new 7, 3) := by decide +kernel
theorem dL_law_3 : decode cL_law 3 = .ok (.dup, 1) := by decide +kernel
theorem dL_law_4 : decode cL_law 4 = .ok (.invokespecial 9, 3) := by decide +kernel
theorem dL_law_7 : decode cL_law 7 = .ok (.astore_n 1, 1) := by decide +kernel
theorem dL_law_8 : decode cL_law 8 = .ok (.new 10, 3) := by decide +kernel
theorem dL_law_11 : decode cL_law 11 = .ok (.dup, 1) := by decide +kernel
theorem dL_law_12 : decode cL_law 12 = .ok (.invokespecial 12, 3) := by decide +kernel
theorem dL_law_15 : decode cL_law 15 = .ok (.astore_n 2, 1) := by decide +kernel
theorem dL_law_16 : decode cL_law 16 = .ok (.iconst 0, 1) := by decide +kernel
theorem dL_law_17 : decode cL_law 17 = .ok (.istore_n 3, 1) := by decide +kernel
theorem dL_law_18 : decode cL_law 18 = .ok (.iload_n 3, 1) := by decide +kernel
theorem dL_law_19 : decode cL_law 19 = .ok (.aload_n 0, 1) := by decide +kernel
theorem dL_law_20 : decode cL_law 20 = .ok (.arraylength, 1) := by decide +kernel
theorem dL_law_21 : decode cL_law 21 = .ok (.bipush 8, 2) := by decide +kernel
theorem dL_law_23 : decode cL_law 23 = .ok (.isub, 1) := by decide +kernel
theorem dL_law_24 : decode cL_law 24 = .ok (.if_icmp .gt 1603, 3) := by decide +kernel
theorem dL_law_27 : decode cL_law 27 = .ok (.aload_n 0, 1) := by decide +kernel
theorem dL_law_28 : decode cL_law 28 = .ok (.iload_n 3, 1) := by decide +kernel
theorem dL_law_29 : decode cL_law 29 = .ok (.iaload, 1) := by decide +kernel
theorem dL_law_30 : decode cL_law 30 = .ok (.bipush 31, 2) := by decide +kernel
theorem dL_law_32 : decode cL_law 32 = .ok (.iand, 1) := by decide +kernel
theorem dL_law_33 : decode cL_law 33 = .ok (.tableswitch 1588 0 28 #[131, 194, 217, 250, 273, 306, 349, 424, 527, 570, 645, 688, 731, 794, 857, 916, 949, 1052, 1139, 1182, 1225, 1268, 1311, 1360, 1403, 1466, 1519, 1542, 1565], 131) := by decide +kernel
theorem dL_law_164 : decode cL_law 164 = .ok (.aload_n 1, 1) := by decide +kernel
theorem dL_law_165 : decode cL_law 165 = .ok (.aload_n 0, 1) := by decide +kernel
theorem dL_law_166 : decode cL_law 166 = .ok (.iload_n 3, 1) := by decide +kernel
theorem dL_law_167 : decode cL_law 167 = .ok (.iconst 1, 1) := by decide +kernel
theorem dL_law_168 : decode cL_law 168 = .ok (.iadd, 1) := by decide +kernel
theorem dL_law_169 : decode cL_law 169 = .ok (.iaload, 1) := by decide +kernel
theorem dL_law_170 : decode cL_law 170 = .ok (.aload_n 0, 1) := by decide +kernel
theorem dL_law_171 : decode cL_law 171 = .ok (.iload_n 3, 1) := by decide +kernel
theorem dL_law_172 : decode cL_law 172 = .ok (.iconst 2, 1) := by decide +kernel
theorem dL_law_173 : decode cL_law 173 = .ok (.iadd, 1) := by decide +kernel
theorem dL_law_174 : decode cL_law 174 = .ok (.iaload, 1) := by decide +kernel
theorem dL_law_175 : decode cL_law 175 = .ok (.aload_n 0, 1) := by decide +kernel
theorem dL_law_176 : decode cL_law 176 = .ok (.iload_n 3, 1) := by decide +kernel
theorem dL_law_177 : decode cL_law 177 = .ok (.iconst 3, 1) := by decide +kernel
theorem dL_law_178 : decode cL_law 178 = .ok (.iadd, 1) := by decide +kernel
theorem dL_law_179 : decode cL_law 179 = .ok (.iaload, 1) := by decide +kernel
theorem dL_law_180 : decode cL_law 180 = .ok (.aload_n 0, 1) := by decide +kernel
theorem dL_law_181 : decode cL_law 181 = .ok (.iload_n 3, 1) := by decide +kernel
theorem dL_law_182 : decode cL_law 182 = .ok (.iconst 4, 1) := by decide +kernel
theorem dL_law_183 : decode cL_law 183 = .ok (.iadd, 1) := by decide +kernel
theorem dL_law_184 : decode cL_law 184 = .ok (.iaload, 1) := by decide +kernel
theorem dL_law_185 : decode cL_law 185 = .ok (.aload_n 0, 1) := by decide +kernel
theorem dL_law_186 : decode cL_law 186 = .ok (.iload_n 3, 1) := by decide +kernel
theorem dL_law_187 : decode cL_law 187 = .ok (.iconst 5, 1) := by decide +kernel
theorem dL_law_188 : decode cL_law 188 = .ok (.iadd, 1) := by decide +kernel
theorem dL_law_189 : decode cL_law 189 = .ok (.iaload, 1) := by decide +kernel
theorem dL_law_190 : decode cL_law 190 = .ok (.invokevirtual 13, 3) := by decide +kernel
theorem dL_law_193 : decode cL_law 193 = .ok (.aload_n 2, 1) := by decide +kernel
theorem dL_law_194 : decode cL_law 194 = .ok (.aload_n 0, 1) := by decide +kernel
theorem dL_law_195 : decode cL_law 195 = .ok (.iload_n 3, 1) := by decide +kernel
theorem dL_law_196 : decode cL_law 196 = .ok (.iconst 1, 1) := by decide +kernel
theorem dL_law_197 : decode cL_law 197 = .ok (.iadd, 1) := by decide +kernel
theorem dL_law_198 : decode cL_law 198 = .ok (.iaload, 1) := by decide +kernel
theorem dL_law_199 : decode cL_law 199 = .ok (.aload_n 0, 1) := by decide +kernel
theorem dL_law_200 : decode cL_law 200 = .ok (.iload_n 3, 1) := by decide +kernel
theorem dL_law_201 : decode cL_law 201 = .ok (.iconst 2, 1) := by decide +kernel
theorem dL_law_202 : decode cL_law 202 = .ok (.iadd, 1) := by decide +kernel
theorem dL_law_203 : decode cL_law 203 = .ok (.iaload, 1) := by decide +kernel
theorem dL_law_204 : decode cL_law 204 = .ok (.aload_n 0, 1) := by decide +kernel
theorem dL_law_205 : decode cL_law 205 = .ok (.iload_n 3, 1) := by decide +kernel
theorem dL_law_206 : decode cL_law 206 = .ok (.iconst 3, 1) := by decide +kernel
theorem dL_law_207 : decode cL_law 207 = .ok (.iadd, 1) := by decide +kernel
theorem dL_law_208 : decode cL_law 208 = .ok (.iaload, 1) := by decide +kernel
theorem dL_law_209 : decode cL_law 209 = .ok (.aload_n 0, 1) := by decide +kernel
theorem dL_law_210 : decode cL_law 210 = .ok (.iload_n 3, 1) := by decide +kernel
theorem dL_law_211 : decode cL_law 211 = .ok (.iconst 4, 1) := by decide +kernel
theorem dL_law_212 : decode cL_law 212 = .ok (.iadd, 1) := by decide +kernel
theorem dL_law_213 : decode cL_law 213 = .ok (.iaload, 1) := by decide +kernel
theorem dL_law_214 : decode cL_law 214 = .ok (.aload_n 0, 1) := by decide +kernel
theorem dL_law_215 : decode cL_law 215 = .ok (.iload_n 3, 1) := by decide +kernel
theorem dL_law_216 : decode cL_law 216 = .ok (.iconst 5, 1) := by decide +kernel
theorem dL_law_217 : decode cL_law 217 = .ok (.iadd, 1) := by decide +kernel
theorem dL_law_218 : decode cL_law 218 = .ok (.iaload, 1) := by decide +kernel
theorem dL_law_219 : decode cL_law 219 = .ok (.invokevirtual 17, 3) := by decide +kernel
theorem dL_law_222 : decode cL_law 222 = .ok (.if_icmp .eq 1399, 3) := by decide +kernel
theorem dL_law_225 : decode cL_law 225 = .ok (.iconst 0, 1) := by decide +kernel
theorem dL_law_226 : decode cL_law 226 = .ok (.ireturn, 1) := by decide +kernel
theorem dL_law_227 : decode cL_law 227 = .ok (.aload_n 1, 1) := by decide +kernel
theorem dL_law_228 : decode cL_law 228 = .ok (.aload_n 0, 1) := by decide +kernel
theorem dL_law_229 : decode cL_law 229 = .ok (.iload_n 3, 1) := by decide +kernel
theorem dL_law_230 : decode cL_law 230 = .ok (.iconst 1, 1) := by decide +kernel
theorem dL_law_231 : decode cL_law 231 = .ok (.iadd, 1) := by decide +kernel
theorem dL_law_232 : decode cL_law 232 = .ok (.iaload, 1) := by decide +kernel
theorem dL_law_233 : decode cL_law 233 = .ok (.invokevirtual 18, 3) := by decide +kernel
theorem dL_law_236 : decode cL_law 236 = .ok (.aload_n 2, 1) := by decide +kernel
theorem dL_law_237 : decode cL_law 237 = .ok (.aload_n 0, 1) := by decide +kernel
theorem dL_law_238 : decode cL_law 238 = .ok (.iload_n 3, 1) := by decide +kernel
theorem dL_law_239 : decode cL_law 239 = .ok (.iconst 1, 1) := by decide +kernel
theorem dL_law_240 : decode cL_law 240 = .ok (.iadd, 1) := by decide +kernel
theorem dL_law_241 : decode cL_law 241 = .ok (.iaload, 1) := by decide +kernel
theorem dL_law_242 : decode cL_law 242 = .ok (.invokevirtual 22, 3) := by decide +kernel
theorem dL_law_245 : decode cL_law 245 = .ok (.if_icmp .eq 1376, 3) := by decide +kernel
theorem dL_law_248 : decode cL_law 248 = .ok (.iconst 0, 1) := by decide +kernel
theorem dL_law_249 : decode cL_law 249 = .ok (.ireturn, 1) := by decide +kernel
theorem dL_law_250 : decode cL_law 250 = .ok (.aload_n 1, 1) := by decide +kernel
theorem dL_law_251 : decode cL_law 251 = .ok (.aload_n 0, 1) := by decide +kernel
theorem dL_law_252 : decode cL_law 252 = .ok (.iload_n 3, 1) := by decide +kernel
theorem dL_law_253 : decode cL_law 253 = .ok (.iconst 1, 1) := by decide +kernel
theorem dL_law_254 : decode cL_law 254 = .ok (.iadd, 1) := by decide +kernel
theorem dL_law_255 : decode cL_law 255 = .ok (.iaload, 1) := by decide +kernel
theorem dL_law_256 : decode cL_law 256 = .ok (.aload_n 0, 1) := by decide +kernel
theorem dL_law_257 : decode cL_law 257 = .ok (.iload_n 3, 1) := by decide +kernel
theorem dL_law_258 : decode cL_law 258 = .ok (.iconst 2, 1) := by decide +kernel
theorem dL_law_259 : decode cL_law 259 = .ok (.iadd, 1) := by decide +kernel
theorem dL_law_260 : decode cL_law 260 = .ok (.iaload, 1) := by decide +kernel
theorem dL_law_261 : decode cL_law 261 = .ok (.invokevirtual 23, 3) := by decide +kernel
theorem dL_law_264 : decode cL_law 264 = .ok (.aload_n 2, 1) := by decide +kernel
theorem dL_law_265 : decode cL_law 265 = .ok (.aload_n 0, 1) := by decide +kernel
theorem dL_law_266 : decode cL_law 266 = .ok (.iload_n 3, 1) := by decide +kernel
theorem dL_law_267 : decode cL_law 267 = .ok (.iconst 1, 1) := by decide +kernel
theorem dL_law_268 : decode cL_law 268 = .ok (.iadd, 1) := by decide +kernel
theorem dL_law_269 : decode cL_law 269 = .ok (.iaload, 1) := by decide +kernel
theorem dL_law_270 : decode cL_law 270 = .ok (.aload_n 0, 1) := by decide +kernel
theorem dL_law_271 : decode cL_law 271 = .ok (.iload_n 3, 1) := by decide +kernel
theorem dL_law_272 : decode cL_law 272 = .ok (.iconst 2, 1) := by decide +kernel
theorem dL_law_273 : decode cL_law 273 = .ok (.iadd, 1) := by decide +kernel
theorem dL_law_274 : decode cL_law 274 = .ok (.iaload, 1) := by decide +kernel
theorem dL_law_275 : decode cL_law 275 = .ok (.invokevirtual 27, 3) := by decide +kernel
theorem dL_law_278 : decode cL_law 278 = .ok (.if_icmp .eq 1343, 3) := by decide +kernel
theorem dL_law_281 : decode cL_law 281 = .ok (.iconst 0, 1) := by decide +kernel
theorem dL_law_282 : decode cL_law 282 = .ok (.ireturn, 1) := by decide +kernel
theorem dL_law_283 : decode cL_law 283 = .ok (.aload_n 1, 1) := by decide +kernel
theorem dL_law_284 : decode cL_law 284 = .ok (.aload_n 0, 1) := by decide +kernel
theorem dL_law_285 : decode cL_law 285 = .ok (.iload_n 3, 1) := by decide +kernel
theorem dL_law_286 : decode cL_law 286 = .ok (.iconst 1, 1) := by decide +kernel
theorem dL_law_287 : decode cL_law 287 = .ok (.iadd, 1) := by decide +kernel
theorem dL_law_288 : decode cL_law 288 = .ok (.iaload, 1) := by decide +kernel
theorem dL_law_289 : decode cL_law 289 = .ok (.invokevirtual 28, 3) := by decide +kernel
theorem dL_law_292 : decode cL_law 292 = .ok (.aload_n 2, 1) := by decide +kernel
theorem dL_law_293 : decode cL_law 293 = .ok (.aload_n 0, 1) := by decide +kernel
theorem dL_law_294 : decode cL_law 294 = .ok (.iload_n 3, 1) := by decide +kernel
theorem dL_law_295 : decode cL_law 295 = .ok (.iconst 1, 1) := by decide +kernel
theorem dL_law_296 : decode cL_law 296 = .ok (.iadd, 1) := by decide +kernel
theorem dL_law_297 : decode cL_law 297 = .ok (.iaload, 1) := by decide +kernel
theorem dL_law_298 : decode cL_law 298 = .ok (.invokevirtual 31, 3) := by decide +kernel
theorem dL_law_301 : decode cL_law 301 = .ok (.if_icmp .eq 1320, 3) := by decide +kernel
theorem dL_law_304 : decode cL_law 304 = .ok (.iconst 0, 1) := by decide +kernel
theorem dL_law_305 : decode cL_law 305 = .ok (.ireturn, 1) := by decide +kernel
theorem dL_law_306 : decode cL_law 306 = .ok (.aload_n 1, 1) := by decide +kernel
theorem dL_law_307 : decode cL_law 307 = .ok (.aload_n 0, 1) := by decide +kernel
theorem dL_law_308 : decode cL_law 308 = .ok (.iload_n 3, 1) := by decide +kernel
theorem dL_law_309 : decode cL_law 309 = .ok (.iconst 1, 1) := by decide +kernel
theorem dL_law_310 : decode cL_law 310 = .ok (.iadd, 1) := by decide +kernel
theorem dL_law_311 : decode cL_law 311 = .ok (.iaload, 1) := by decide +kernel
theorem dL_law_312 : decode cL_law 312 = .ok (.aload_n 0, 1) := by decide +kernel
theorem dL_law_313 : decode cL_law 313 = .ok (.iload_n 3, 1) := by decide +kernel
theorem dL_law_314 : decode cL_law 314 = .ok (.iconst 2, 1) := by decide +kernel
theorem dL_law_315 : decode cL_law 315 = .ok (.iadd, 1) := by decide +kernel
theorem dL_law_316 : decode cL_law 316 = .ok (.iaload, 1) := by decide +kernel
theorem dL_law_317 : decode cL_law 317 = .ok (.invokevirtual 32, 3) := by decide +kernel
theorem dL_law_320 : decode cL_law 320 = .ok (.aload_n 2, 1) := by decide +kernel
theorem dL_law_321 : decode cL_law 321 = .ok (.aload_n 0, 1) := by decide +kernel
theorem dL_law_322 : decode cL_law 322 = .ok (.iload_n 3, 1) := by decide +kernel
theorem dL_law_323 : decode cL_law 323 = .ok (.iconst 1, 1) := by decide +kernel
theorem dL_law_324 : decode cL_law 324 = .ok (.iadd, 1) := by decide +kernel
theorem dL_law_325 : decode cL_law 325 = .ok (.iaload, 1) := by decide +kernel
theorem dL_law_326 : decode cL_law 326 = .ok (.aload_n 0, 1) := by decide +kernel
theorem dL_law_327 : decode cL_law 327 = .ok (.iload_n 3, 1) := by decide +kernel
theorem dL_law_328 : decode cL_law 328 = .ok (.iconst 2, 1) := by decide +kernel
theorem dL_law_329 : decode cL_law 329 = .ok (.iadd, 1) := by decide +kernel
theorem dL_law_330 : decode cL_law 330 = .ok (.iaload, 1) := by decide +kernel
theorem dL_law_331 : decode cL_law 331 = .ok (.invokevirtual 35, 3) := by decide +kernel
theorem dL_law_334 : decode cL_law 334 = .ok (.if_icmp .eq 1287, 3) := by decide +kernel
theorem dL_law_337 : decode cL_law 337 = .ok (.iconst 0, 1) := by decide +kernel
theorem dL_law_338 : decode cL_law 338 = .ok (.ireturn, 1) := by decide +kernel
theorem dL_law_339 : decode cL_law 339 = .ok (.aload_n 1, 1) := by decide +kernel
theorem dL_law_340 : decode cL_law 340 = .ok (.aload_n 0, 1) := by decide +kernel
theorem dL_law_341 : decode cL_law 341 = .ok (.iload_n 3, 1) := by decide +kernel
theorem dL_law_342 : decode cL_law 342 = .ok (.iconst 1, 1) := by decide +kernel
theorem dL_law_343 : decode cL_law 343 = .ok (.iadd, 1) := by decide +kernel
theorem dL_law_344 : decode cL_law 344 = .ok (.iaload, 1) := by decide +kernel
theorem dL_law_345 : decode cL_law 345 = .ok (.aload_n 0, 1) := by decide +kernel
theorem dL_law_346 : decode cL_law 346 = .ok (.iload_n 3, 1) := by decide +kernel
theorem dL_law_347 : decode cL_law 347 = .ok (.iconst 2, 1) := by decide +kernel
theorem dL_law_348 : decode cL_law 348 = .ok (.iadd, 1) := by decide +kernel
theorem dL_law_349 : decode cL_law 349 = .ok (.iaload, 1) := by decide +kernel
theorem dL_law_350 : decode cL_law 350 = .ok (.aload_n 0, 1) := by decide +kernel
theorem dL_law_351 : decode cL_law 351 = .ok (.iload_n 3, 1) := by decide +kernel
theorem dL_law_352 : decode cL_law 352 = .ok (.iconst 3, 1) := by decide +kernel
theorem dL_law_353 : decode cL_law 353 = .ok (.iadd, 1) := by decide +kernel
theorem dL_law_354 : decode cL_law 354 = .ok (.iaload, 1) := by decide +kernel
theorem dL_law_355 : decode cL_law 355 = .ok (.invokevirtual 36, 3) := by decide +kernel
theorem dL_law_358 : decode cL_law 358 = .ok (.aload_n 2, 1) := by decide +kernel
theorem dL_law_359 : decode cL_law 359 = .ok (.aload_n 0, 1) := by decide +kernel
theorem dL_law_360 : decode cL_law 360 = .ok (.iload_n 3, 1) := by decide +kernel
theorem dL_law_361 : decode cL_law 361 = .ok (.iconst 1, 1) := by decide +kernel
theorem dL_law_362 : decode cL_law 362 = .ok (.iadd, 1) := by decide +kernel
theorem dL_law_363 : decode cL_law 363 = .ok (.iaload, 1) := by decide +kernel
theorem dL_law_364 : decode cL_law 364 = .ok (.aload_n 0, 1) := by decide +kernel
theorem dL_law_365 : decode cL_law 365 = .ok (.iload_n 3, 1) := by decide +kernel
theorem dL_law_366 : decode cL_law 366 = .ok (.iconst 2, 1) := by decide +kernel
theorem dL_law_367 : decode cL_law 367 = .ok (.iadd, 1) := by decide +kernel
theorem dL_law_368 : decode cL_law 368 = .ok (.iaload, 1) := by decide +kernel
theorem dL_law_369 : decode cL_law 369 = .ok (.aload_n 0, 1) := by decide +kernel
theorem dL_law_370 : decode cL_law 370 = .ok (.iload_n 3, 1) := by decide +kernel
theorem dL_law_371 : decode cL_law 371 = .ok (.iconst 3, 1) := by decide +kernel
theorem dL_law_372 : decode cL_law 372 = .ok (.iadd, 1) := by decide +kernel
theorem dL_law_373 : decode cL_law 373 = .ok (.iaload, 1) := by decide +kernel
theorem dL_law_374 : decode cL_law 374 = .ok (.invokevirtual 40, 3) := by decide +kernel
theorem dL_law_377 : decode cL_law 377 = .ok (.if_icmp .eq 1244, 3) := by decide +kernel
theorem dL_law_380 : decode cL_law 380 = .ok (.iconst 0, 1) := by decide +kernel
theorem dL_law_381 : decode cL_law 381 = .ok (.ireturn, 1) := by decide +kernel
theorem dL_law_382 : decode cL_law 382 = .ok (.aload_n 1, 1) := by decide +kernel
theorem dL_law_383 : decode cL_law 383 = .ok (.aload_n 0, 1) := by decide +kernel
theorem dL_law_384 : decode cL_law 384 = .ok (.iload_n 3, 1) := by decide +kernel
theorem dL_law_385 : decode cL_law 385 = .ok (.iconst 1, 1) := by decide +kernel
theorem dL_law_386 : decode cL_law 386 = .ok (.iadd, 1) := by decide +kernel
theorem dL_law_387 : decode cL_law 387 = .ok (.iaload, 1) := by decide +kernel
theorem dL_law_388 : decode cL_law 388 = .ok (.aload_n 0, 1) := by decide +kernel
theorem dL_law_389 : decode cL_law 389 = .ok (.iload_n 3, 1) := by decide +kernel
theorem dL_law_390 : decode cL_law 390 = .ok (.iconst 2, 1) := by decide +kernel
theorem dL_law_391 : decode cL_law 391 = .ok (.iadd, 1) := by decide +kernel
theorem dL_law_392 : decode cL_law 392 = .ok (.iaload, 1) := by decide +kernel
theorem dL_law_393 : decode cL_law 393 = .ok (.aload_n 0, 1) := by decide +kernel
theorem dL_law_394 : decode cL_law 394 = .ok (.iload_n 3, 1) := by decide +kernel
theorem dL_law_395 : decode cL_law 395 = .ok (.iconst 3, 1) := by decide +kernel
theorem dL_law_396 : decode cL_law 396 = .ok (.iadd, 1) := by decide +kernel
theorem dL_law_397 : decode cL_law 397 = .ok (.iaload, 1) := by decide +kernel
theorem dL_law_398 : decode cL_law 398 = .ok (.aload_n 0, 1) := by decide +kernel
theorem dL_law_399 : decode cL_law 399 = .ok (.iload_n 3, 1) := by decide +kernel
theorem dL_law_400 : decode cL_law 400 = .ok (.iconst 4, 1) := by decide +kernel
theorem dL_law_401 : decode cL_law 401 = .ok (.iadd, 1) := by decide +kernel
theorem dL_law_402 : decode cL_law 402 = .ok (.iaload, 1) := by decide +kernel
theorem dL_law_403 : decode cL_law 403 = .ok (.aload_n 0, 1) := by decide +kernel
theorem dL_law_404 : decode cL_law 404 = .ok (.iload_n 3, 1) := by decide +kernel
theorem dL_law_405 : decode cL_law 405 = .ok (.iconst 5, 1) := by decide +kernel
theorem dL_law_406 : decode cL_law 406 = .ok (.iadd, 1) := by decide +kernel
theorem dL_law_407 : decode cL_law 407 = .ok (.iaload, 1) := by decide +kernel
theorem dL_law_408 : decode cL_law 408 = .ok (.aload_n 0, 1) := by decide +kernel
theorem dL_law_409 : decode cL_law 409 = .ok (.iload_n 3, 1) := by decide +kernel
theorem dL_law_410 : decode cL_law 410 = .ok (.bipush 6, 2) := by decide +kernel
theorem dL_law_412 : decode cL_law 412 = .ok (.iadd, 1) := by decide +kernel
theorem dL_law_413 : decode cL_law 413 = .ok (.iaload, 1) := by decide +kernel
theorem dL_law_414 : decode cL_law 414 = .ok (.invokevirtual 41, 3) := by decide +kernel
theorem dL_law_417 : decode cL_law 417 = .ok (.aload_n 2, 1) := by decide +kernel
theorem dL_law_418 : decode cL_law 418 = .ok (.aload_n 0, 1) := by decide +kernel
theorem dL_law_419 : decode cL_law 419 = .ok (.iload_n 3, 1) := by decide +kernel
theorem dL_law_420 : decode cL_law 420 = .ok (.iconst 1, 1) := by decide +kernel
theorem dL_law_421 : decode cL_law 421 = .ok (.iadd, 1) := by decide +kernel
theorem dL_law_422 : decode cL_law 422 = .ok (.iaload, 1) := by decide +kernel
theorem dL_law_423 : decode cL_law 423 = .ok (.aload_n 0, 1) := by decide +kernel
theorem dL_law_424 : decode cL_law 424 = .ok (.iload_n 3, 1) := by decide +kernel
theorem dL_law_425 : decode cL_law 425 = .ok (.iconst 2, 1) := by decide +kernel
theorem dL_law_426 : decode cL_law 426 = .ok (.iadd, 1) := by decide +kernel
theorem dL_law_427 : decode cL_law 427 = .ok (.iaload, 1) := by decide +kernel
theorem dL_law_428 : decode cL_law 428 = .ok (.aload_n 0, 1) := by decide +kernel
theorem dL_law_429 : decode cL_law 429 = .ok (.iload_n 3, 1) := by decide +kernel
theorem dL_law_430 : decode cL_law 430 = .ok (.iconst 3, 1) := by decide +kernel
theorem dL_law_431 : decode cL_law 431 = .ok (.iadd, 1) := by decide +kernel
theorem dL_law_432 : decode cL_law 432 = .ok (.iaload, 1) := by decide +kernel
theorem dL_law_433 : decode cL_law 433 = .ok (.aload_n 0, 1) := by decide +kernel
theorem dL_law_434 : decode cL_law 434 = .ok (.iload_n 3, 1) := by decide +kernel
theorem dL_law_435 : decode cL_law 435 = .ok (.iconst 4, 1) := by decide +kernel
theorem dL_law_436 : decode cL_law 436 = .ok (.iadd, 1) := by decide +kernel
theorem dL_law_437 : decode cL_law 437 = .ok (.iaload, 1) := by decide +kernel
theorem dL_law_438 : decode cL_law 438 = .ok (.aload_n 0, 1) := by decide +kernel
theorem dL_law_439 : decode cL_law 439 = .ok (.iload_n 3, 1) := by decide +kernel
theorem dL_law_440 : decode cL_law 440 = .ok (.iconst 5, 1) := by decide +kernel
theorem dL_law_441 : decode cL_law 441 = .ok (.iadd, 1) := by decide +kernel
theorem dL_law_442 : decode cL_law 442 = .ok (.iaload, 1) := by decide +kernel
theorem dL_law_443 : decode cL_law 443 = .ok (.aload_n 0, 1) := by decide +kernel
theorem dL_law_444 : decode cL_law 444 = .ok (.iload_n 3, 1) := by decide +kernel
theorem dL_law_445 : decode cL_law 445 = .ok (.bipush 6, 2) := by decide +kernel
theorem dL_law_447 : decode cL_law 447 = .ok (.iadd, 1) := by decide +kernel
theorem dL_law_448 : decode cL_law 448 = .ok (.iaload, 1) := by decide +kernel
theorem dL_law_449 : decode cL_law 449 = .ok (.invokevirtual 45, 3) := by decide +kernel
theorem dL_law_452 : decode cL_law 452 = .ok (.if_icmp .eq 1169, 3) := by decide +kernel
theorem dL_law_455 : decode cL_law 455 = .ok (.iconst 0, 1) := by decide +kernel
theorem dL_law_456 : decode cL_law 456 = .ok (.ireturn, 1) := by decide +kernel
theorem dL_law_457 : decode cL_law 457 = .ok (.aload_n 1, 1) := by decide +kernel
theorem dL_law_458 : decode cL_law 458 = .ok (.aload_n 0, 1) := by decide +kernel
theorem dL_law_459 : decode cL_law 459 = .ok (.iload_n 3, 1) := by decide +kernel
theorem dL_law_460 : decode cL_law 460 = .ok (.iconst 1, 1) := by decide +kernel
theorem dL_law_461 : decode cL_law 461 = .ok (.iadd, 1) := by decide +kernel
theorem dL_law_462 : decode cL_law 462 = .ok (.iaload, 1) := by decide +kernel
theorem dL_law_463 : decode cL_law 463 = .ok (.aload_n 0, 1) := by decide +kernel
theorem dL_law_464 : decode cL_law 464 = .ok (.iload_n 3, 1) := by decide +kernel
theorem dL_law_465 : decode cL_law 465 = .ok (.iconst 2, 1) := by decide +kernel
theorem dL_law_466 : decode cL_law 466 = .ok (.iadd, 1) := by decide +kernel
theorem dL_law_467 : decode cL_law 467 = .ok (.iaload, 1) := by decide +kernel
theorem dL_law_468 : decode cL_law 468 = .ok (.aload_n 0, 1) := by decide +kernel
theorem dL_law_469 : decode cL_law 469 = .ok (.iload_n 3, 1) := by decide +kernel
theorem dL_law_470 : decode cL_law 470 = .ok (.iconst 3, 1) := by decide +kernel
theorem dL_law_471 : decode cL_law 471 = .ok (.iadd, 1) := by decide +kernel
theorem dL_law_472 : decode cL_law 472 = .ok (.iaload, 1) := by decide +kernel
theorem dL_law_473 : decode cL_law 473 = .ok (.aload_n 0, 1) := by decide +kernel
theorem dL_law_474 : decode cL_law 474 = .ok (.iload_n 3, 1) := by decide +kernel
theorem dL_law_475 : decode cL_law 475 = .ok (.iconst 4, 1) := by decide +kernel
theorem dL_law_476 : decode cL_law 476 = .ok (.iadd, 1) := by decide +kernel
theorem dL_law_477 : decode cL_law 477 = .ok (.iaload, 1) := by decide +kernel
theorem dL_law_478 : decode cL_law 478 = .ok (.aload_n 0, 1) := by decide +kernel
theorem dL_law_479 : decode cL_law 479 = .ok (.iload_n 3, 1) := by decide +kernel
theorem dL_law_480 : decode cL_law 480 = .ok (.iconst 5, 1) := by decide +kernel
theorem dL_law_481 : decode cL_law 481 = .ok (.iadd, 1) := by decide +kernel
theorem dL_law_482 : decode cL_law 482 = .ok (.iaload, 1) := by decide +kernel
theorem dL_law_483 : decode cL_law 483 = .ok (.aload_n 0, 1) := by decide +kernel
theorem dL_law_484 : decode cL_law 484 = .ok (.iload_n 3, 1) := by decide +kernel
theorem dL_law_485 : decode cL_law 485 = .ok (.bipush 6, 2) := by decide +kernel
theorem dL_law_487 : decode cL_law 487 = .ok (.iadd, 1) := by decide +kernel
theorem dL_law_488 : decode cL_law 488 = .ok (.iaload, 1) := by decide +kernel
theorem dL_law_489 : decode cL_law 489 = .ok (.aload_n 0, 1) := by decide +kernel
theorem dL_law_490 : decode cL_law 490 = .ok (.iload_n 3, 1) := by decide +kernel
theorem dL_law_491 : decode cL_law 491 = .ok (.bipush 7, 2) := by decide +kernel
theorem dL_law_493 : decode cL_law 493 = .ok (.iadd, 1) := by decide +kernel
theorem dL_law_494 : decode cL_law 494 = .ok (.iaload, 1) := by decide +kernel
theorem dL_law_495 : decode cL_law 495 = .ok (.ifCond .eq 7, 3) := by decide +kernel
theorem dL_law_498 : decode cL_law 498 = .ok (.iconst 1, 1) := by decide +kernel
theorem dL_law_499 : decode cL_law 499 = .ok (.goto 4, 3) := by decide +kernel
theorem dL_law_502 : decode cL_law 502 = .ok (.iconst 0, 1) := by decide +kernel
theorem dL_law_503 : decode cL_law 503 = .ok (.invokevirtual 46, 3) := by decide +kernel
theorem dL_law_506 : decode cL_law 506 = .ok (.aload_n 2, 1) := by decide +kernel
theorem dL_law_507 : decode cL_law 507 = .ok (.aload_n 0, 1) := by decide +kernel
theorem dL_law_508 : decode cL_law 508 = .ok (.iload_n 3, 1) := by decide +kernel
theorem dL_law_509 : decode cL_law 509 = .ok (.iconst 1, 1) := by decide +kernel
theorem dL_law_510 : decode cL_law 510 = .ok (.iadd, 1) := by decide +kernel
theorem dL_law_511 : decode cL_law 511 = .ok (.iaload, 1) := by decide +kernel
theorem dL_law_512 : decode cL_law 512 = .ok (.aload_n 0, 1) := by decide +kernel
theorem dL_law_513 : decode cL_law 513 = .ok (.iload_n 3, 1) := by decide +kernel
theorem dL_law_514 : decode cL_law 514 = .ok (.iconst 2, 1) := by decide +kernel
theorem dL_law_515 : decode cL_law 515 = .ok (.iadd, 1) := by decide +kernel
theorem dL_law_516 : decode cL_law 516 = .ok (.iaload, 1) := by decide +kernel
theorem dL_law_517 : decode cL_law 517 = .ok (.aload_n 0, 1) := by decide +kernel
theorem dL_law_518 : decode cL_law 518 = .ok (.iload_n 3, 1) := by decide +kernel
theorem dL_law_519 : decode cL_law 519 = .ok (.iconst 3, 1) := by decide +kernel
theorem dL_law_520 : decode cL_law 520 = .ok (.iadd, 1) := by decide +kernel
theorem dL_law_521 : decode cL_law 521 = .ok (.iaload, 1) := by decide +kernel
theorem dL_law_522 : decode cL_law 522 = .ok (.aload_n 0, 1) := by decide +kernel
theorem dL_law_523 : decode cL_law 523 = .ok (.iload_n 3, 1) := by decide +kernel
theorem dL_law_524 : decode cL_law 524 = .ok (.iconst 4, 1) := by decide +kernel
theorem dL_law_525 : decode cL_law 525 = .ok (.iadd, 1) := by decide +kernel
theorem dL_law_526 : decode cL_law 526 = .ok (.iaload, 1) := by decide +kernel
theorem dL_law_527 : decode cL_law 527 = .ok (.aload_n 0, 1) := by decide +kernel
theorem dL_law_528 : decode cL_law 528 = .ok (.iload_n 3, 1) := by decide +kernel
theorem dL_law_529 : decode cL_law 529 = .ok (.iconst 5, 1) := by decide +kernel
theorem dL_law_530 : decode cL_law 530 = .ok (.iadd, 1) := by decide +kernel
theorem dL_law_531 : decode cL_law 531 = .ok (.iaload, 1) := by decide +kernel
theorem dL_law_532 : decode cL_law 532 = .ok (.aload_n 0, 1) := by decide +kernel
theorem dL_law_533 : decode cL_law 533 = .ok (.iload_n 3, 1) := by decide +kernel
theorem dL_law_534 : decode cL_law 534 = .ok (.bipush 6, 2) := by decide +kernel
theorem dL_law_536 : decode cL_law 536 = .ok (.iadd, 1) := by decide +kernel
theorem dL_law_537 : decode cL_law 537 = .ok (.iaload, 1) := by decide +kernel
theorem dL_law_538 : decode cL_law 538 = .ok (.aload_n 0, 1) := by decide +kernel
theorem dL_law_539 : decode cL_law 539 = .ok (.iload_n 3, 1) := by decide +kernel
theorem dL_law_540 : decode cL_law 540 = .ok (.bipush 7, 2) := by decide +kernel
theorem dL_law_542 : decode cL_law 542 = .ok (.iadd, 1) := by decide +kernel
theorem dL_law_543 : decode cL_law 543 = .ok (.iaload, 1) := by decide +kernel
theorem dL_law_544 : decode cL_law 544 = .ok (.ifCond .eq 7, 3) := by decide +kernel
theorem dL_law_547 : decode cL_law 547 = .ok (.iconst 1, 1) := by decide +kernel
theorem dL_law_548 : decode cL_law 548 = .ok (.goto 4, 3) := by decide +kernel
theorem dL_law_551 : decode cL_law 551 = .ok (.iconst 0, 1) := by decide +kernel
theorem dL_law_552 : decode cL_law 552 = .ok (.invokevirtual 50, 3) := by decide +kernel
theorem dL_law_555 : decode cL_law 555 = .ok (.if_icmp .eq 1066, 3) := by decide +kernel
theorem dL_law_558 : decode cL_law 558 = .ok (.iconst 0, 1) := by decide +kernel
theorem dL_law_559 : decode cL_law 559 = .ok (.ireturn, 1) := by decide +kernel
theorem dL_law_560 : decode cL_law 560 = .ok (.aload_n 1, 1) := by decide +kernel
theorem dL_law_561 : decode cL_law 561 = .ok (.aload_n 0, 1) := by decide +kernel
theorem dL_law_562 : decode cL_law 562 = .ok (.iload_n 3, 1) := by decide +kernel
theorem dL_law_563 : decode cL_law 563 = .ok (.iconst 1, 1) := by decide +kernel
theorem dL_law_564 : decode cL_law 564 = .ok (.iadd, 1) := by decide +kernel
theorem dL_law_565 : decode cL_law 565 = .ok (.iaload, 1) := by decide +kernel
theorem dL_law_566 : decode cL_law 566 = .ok (.aload_n 0, 1) := by decide +kernel
theorem dL_law_567 : decode cL_law 567 = .ok (.iload_n 3, 1) := by decide +kernel
theorem dL_law_568 : decode cL_law 568 = .ok (.iconst 2, 1) := by decide +kernel
theorem dL_law_569 : decode cL_law 569 = .ok (.iadd, 1) := by decide +kernel
theorem dL_law_570 : decode cL_law 570 = .ok (.iaload, 1) := by decide +kernel
theorem dL_law_571 : decode cL_law 571 = .ok (.aload_n 0, 1) := by decide +kernel
theorem dL_law_572 : decode cL_law 572 = .ok (.iload_n 3, 1) := by decide +kernel
theorem dL_law_573 : decode cL_law 573 = .ok (.iconst 3, 1) := by decide +kernel
theorem dL_law_574 : decode cL_law 574 = .ok (.iadd, 1) := by decide +kernel
theorem dL_law_575 : decode cL_law 575 = .ok (.iaload, 1) := by decide +kernel
theorem dL_law_576 : decode cL_law 576 = .ok (.invokevirtual 51, 3) := by decide +kernel
theorem dL_law_579 : decode cL_law 579 = .ok (.aload_n 2, 1) := by decide +kernel
theorem dL_law_580 : decode cL_law 580 = .ok (.aload_n 0, 1) := by decide +kernel
theorem dL_law_581 : decode cL_law 581 = .ok (.iload_n 3, 1) := by decide +kernel
theorem dL_law_582 : decode cL_law 582 = .ok (.iconst 1, 1) := by decide +kernel
theorem dL_law_583 : decode cL_law 583 = .ok (.iadd, 1) := by decide +kernel
theorem dL_law_584 : decode cL_law 584 = .ok (.iaload, 1) := by decide +kernel
theorem dL_law_585 : decode cL_law 585 = .ok (.aload_n 0, 1) := by decide +kernel
theorem dL_law_586 : decode cL_law 586 = .ok (.iload_n 3, 1) := by decide +kernel
theorem dL_law_587 : decode cL_law 587 = .ok (.iconst 2, 1) := by decide +kernel
theorem dL_law_588 : decode cL_law 588 = .ok (.iadd, 1) := by decide +kernel
theorem dL_law_589 : decode cL_law 589 = .ok (.iaload, 1) := by decide +kernel
theorem dL_law_590 : decode cL_law 590 = .ok (.aload_n 0, 1) := by decide +kernel
theorem dL_law_591 : decode cL_law 591 = .ok (.iload_n 3, 1) := by decide +kernel
theorem dL_law_592 : decode cL_law 592 = .ok (.iconst 3, 1) := by decide +kernel
theorem dL_law_593 : decode cL_law 593 = .ok (.iadd, 1) := by decide +kernel
theorem dL_law_594 : decode cL_law 594 = .ok (.iaload, 1) := by decide +kernel
theorem dL_law_595 : decode cL_law 595 = .ok (.invokevirtual 54, 3) := by decide +kernel
theorem dL_law_598 : decode cL_law 598 = .ok (.if_icmp .eq 1023, 3) := by decide +kernel
theorem dL_law_601 : decode cL_law 601 = .ok (.iconst 0, 1) := by decide +kernel
theorem dL_law_602 : decode cL_law 602 = .ok (.ireturn, 1) := by decide +kernel
theorem dL_law_603 : decode cL_law 603 = .ok (.aload_n 1, 1) := by decide +kernel
theorem dL_law_604 : decode cL_law 604 = .ok (.aload_n 0, 1) := by decide +kernel
theorem dL_law_605 : decode cL_law 605 = .ok (.iload_n 3, 1) := by decide +kernel
theorem dL_law_606 : decode cL_law 606 = .ok (.iconst 1, 1) := by decide +kernel
theorem dL_law_607 : decode cL_law 607 = .ok (.iadd, 1) := by decide +kernel
theorem dL_law_608 : decode cL_law 608 = .ok (.iaload, 1) := by decide +kernel
theorem dL_law_609 : decode cL_law 609 = .ok (.aload_n 0, 1) := by decide +kernel
theorem dL_law_610 : decode cL_law 610 = .ok (.iload_n 3, 1) := by decide +kernel
theorem dL_law_611 : decode cL_law 611 = .ok (.iconst 2, 1) := by decide +kernel
theorem dL_law_612 : decode cL_law 612 = .ok (.iadd, 1) := by decide +kernel
theorem dL_law_613 : decode cL_law 613 = .ok (.iaload, 1) := by decide +kernel
theorem dL_law_614 : decode cL_law 614 = .ok (.aload_n 0, 1) := by decide +kernel
theorem dL_law_615 : decode cL_law 615 = .ok (.iload_n 3, 1) := by decide +kernel
theorem dL_law_616 : decode cL_law 616 = .ok (.iconst 3, 1) := by decide +kernel
theorem dL_law_617 : decode cL_law 617 = .ok (.iadd, 1) := by decide +kernel
theorem dL_law_618 : decode cL_law 618 = .ok (.iaload, 1) := by decide +kernel
theorem dL_law_619 : decode cL_law 619 = .ok (.aload_n 0, 1) := by decide +kernel
theorem dL_law_620 : decode cL_law 620 = .ok (.iload_n 3, 1) := by decide +kernel
theorem dL_law_621 : decode cL_law 621 = .ok (.iconst 4, 1) := by decide +kernel
theorem dL_law_622 : decode cL_law 622 = .ok (.iadd, 1) := by decide +kernel
theorem dL_law_623 : decode cL_law 623 = .ok (.iaload, 1) := by decide +kernel
theorem dL_law_624 : decode cL_law 624 = .ok (.aload_n 0, 1) := by decide +kernel
theorem dL_law_625 : decode cL_law 625 = .ok (.iload_n 3, 1) := by decide +kernel
theorem dL_law_626 : decode cL_law 626 = .ok (.iconst 5, 1) := by decide +kernel
theorem dL_law_627 : decode cL_law 627 = .ok (.iadd, 1) := by decide +kernel
theorem dL_law_628 : decode cL_law 628 = .ok (.iaload, 1) := by decide +kernel
theorem dL_law_629 : decode cL_law 629 = .ok (.aload_n 0, 1) := by decide +kernel
theorem dL_law_630 : decode cL_law 630 = .ok (.iload_n 3, 1) := by decide +kernel
theorem dL_law_631 : decode cL_law 631 = .ok (.bipush 6, 2) := by decide +kernel
theorem dL_law_633 : decode cL_law 633 = .ok (.iadd, 1) := by decide +kernel
theorem dL_law_634 : decode cL_law 634 = .ok (.iaload, 1) := by decide +kernel
theorem dL_law_635 : decode cL_law 635 = .ok (.invokevirtual 55, 3) := by decide +kernel
theorem dL_law_638 : decode cL_law 638 = .ok (.aload_n 2, 1) := by decide +kernel
theorem dL_law_639 : decode cL_law 639 = .ok (.aload_n 0, 1) := by decide +kernel
theorem dL_law_640 : decode cL_law 640 = .ok (.iload_n 3, 1) := by decide +kernel
theorem dL_law_641 : decode cL_law 641 = .ok (.iconst 1, 1) := by decide +kernel
theorem dL_law_642 : decode cL_law 642 = .ok (.iadd, 1) := by decide +kernel
theorem dL_law_643 : decode cL_law 643 = .ok (.iaload, 1) := by decide +kernel
theorem dL_law_644 : decode cL_law 644 = .ok (.aload_n 0, 1) := by decide +kernel
theorem dL_law_645 : decode cL_law 645 = .ok (.iload_n 3, 1) := by decide +kernel
theorem dL_law_646 : decode cL_law 646 = .ok (.iconst 2, 1) := by decide +kernel
theorem dL_law_647 : decode cL_law 647 = .ok (.iadd, 1) := by decide +kernel
theorem dL_law_648 : decode cL_law 648 = .ok (.iaload, 1) := by decide +kernel
theorem dL_law_649 : decode cL_law 649 = .ok (.aload_n 0, 1) := by decide +kernel
theorem dL_law_650 : decode cL_law 650 = .ok (.iload_n 3, 1) := by decide +kernel
theorem dL_law_651 : decode cL_law 651 = .ok (.iconst 3, 1) := by decide +kernel
theorem dL_law_652 : decode cL_law 652 = .ok (.iadd, 1) := by decide +kernel
theorem dL_law_653 : decode cL_law 653 = .ok (.iaload, 1) := by decide +kernel
theorem dL_law_654 : decode cL_law 654 = .ok (.aload_n 0, 1) := by decide +kernel
theorem dL_law_655 : decode cL_law 655 = .ok (.iload_n 3, 1) := by decide +kernel
theorem dL_law_656 : decode cL_law 656 = .ok (.iconst 4, 1) := by decide +kernel
theorem dL_law_657 : decode cL_law 657 = .ok (.iadd, 1) := by decide +kernel
theorem dL_law_658 : decode cL_law 658 = .ok (.iaload, 1) := by decide +kernel
theorem dL_law_659 : decode cL_law 659 = .ok (.aload_n 0, 1) := by decide +kernel
theorem dL_law_660 : decode cL_law 660 = .ok (.iload_n 3, 1) := by decide +kernel
theorem dL_law_661 : decode cL_law 661 = .ok (.iconst 5, 1) := by decide +kernel
theorem dL_law_662 : decode cL_law 662 = .ok (.iadd, 1) := by decide +kernel
theorem dL_law_663 : decode cL_law 663 = .ok (.iaload, 1) := by decide +kernel
theorem dL_law_664 : decode cL_law 664 = .ok (.aload_n 0, 1) := by decide +kernel
theorem dL_law_665 : decode cL_law 665 = .ok (.iload_n 3, 1) := by decide +kernel
theorem dL_law_666 : decode cL_law 666 = .ok (.bipush 6, 2) := by decide +kernel
theorem dL_law_668 : decode cL_law 668 = .ok (.iadd, 1) := by decide +kernel
theorem dL_law_669 : decode cL_law 669 = .ok (.iaload, 1) := by decide +kernel
theorem dL_law_670 : decode cL_law 670 = .ok (.invokevirtual 58, 3) := by decide +kernel
theorem dL_law_673 : decode cL_law 673 = .ok (.if_icmp .eq 948, 3) := by decide +kernel
theorem dL_law_676 : decode cL_law 676 = .ok (.iconst 0, 1) := by decide +kernel
theorem dL_law_677 : decode cL_law 677 = .ok (.ireturn, 1) := by decide +kernel
theorem dL_law_678 : decode cL_law 678 = .ok (.aload_n 1, 1) := by decide +kernel
theorem dL_law_679 : decode cL_law 679 = .ok (.aload_n 0, 1) := by decide +kernel
theorem dL_law_680 : decode cL_law 680 = .ok (.iload_n 3, 1) := by decide +kernel
theorem dL_law_681 : decode cL_law 681 = .ok (.iconst 1, 1) := by decide +kernel
theorem dL_law_682 : decode cL_law 682 = .ok (.iadd, 1) := by decide +kernel
theorem dL_law_683 : decode cL_law 683 = .ok (.iaload, 1) := by decide +kernel
theorem dL_law_684 : decode cL_law 684 = .ok (.aload_n 0, 1) := by decide +kernel
theorem dL_law_685 : decode cL_law 685 = .ok (.iload_n 3, 1) := by decide +kernel
theorem dL_law_686 : decode cL_law 686 = .ok (.iconst 2, 1) := by decide +kernel
theorem dL_law_687 : decode cL_law 687 = .ok (.iadd, 1) := by decide +kernel
theorem dL_law_688 : decode cL_law 688 = .ok (.iaload, 1) := by decide +kernel
theorem dL_law_689 : decode cL_law 689 = .ok (.aload_n 0, 1) := by decide +kernel
theorem dL_law_690 : decode cL_law 690 = .ok (.iload_n 3, 1) := by decide +kernel
theorem dL_law_691 : decode cL_law 691 = .ok (.iconst 3, 1) := by decide +kernel
theorem dL_law_692 : decode cL_law 692 = .ok (.iadd, 1) := by decide +kernel
theorem dL_law_693 : decode cL_law 693 = .ok (.iaload, 1) := by decide +kernel
theorem dL_law_694 : decode cL_law 694 = .ok (.invokevirtual 59, 3) := by decide +kernel
theorem dL_law_697 : decode cL_law 697 = .ok (.aload_n 2, 1) := by decide +kernel
theorem dL_law_698 : decode cL_law 698 = .ok (.aload_n 0, 1) := by decide +kernel
theorem dL_law_699 : decode cL_law 699 = .ok (.iload_n 3, 1) := by decide +kernel
theorem dL_law_700 : decode cL_law 700 = .ok (.iconst 1, 1) := by decide +kernel
theorem dL_law_701 : decode cL_law 701 = .ok (.iadd, 1) := by decide +kernel
theorem dL_law_702 : decode cL_law 702 = .ok (.iaload, 1) := by decide +kernel
theorem dL_law_703 : decode cL_law 703 = .ok (.aload_n 0, 1) := by decide +kernel
theorem dL_law_704 : decode cL_law 704 = .ok (.iload_n 3, 1) := by decide +kernel
theorem dL_law_705 : decode cL_law 705 = .ok (.iconst 2, 1) := by decide +kernel
theorem dL_law_706 : decode cL_law 706 = .ok (.iadd, 1) := by decide +kernel
theorem dL_law_707 : decode cL_law 707 = .ok (.iaload, 1) := by decide +kernel
theorem dL_law_708 : decode cL_law 708 = .ok (.aload_n 0, 1) := by decide +kernel
theorem dL_law_709 : decode cL_law 709 = .ok (.iload_n 3, 1) := by decide +kernel
theorem dL_law_710 : decode cL_law 710 = .ok (.iconst 3, 1) := by decide +kernel
theorem dL_law_711 : decode cL_law 711 = .ok (.iadd, 1) := by decide +kernel
theorem dL_law_712 : decode cL_law 712 = .ok (.iaload, 1) := by decide +kernel
theorem dL_law_713 : decode cL_law 713 = .ok (.invokevirtual 62, 3) := by decide +kernel
theorem dL_law_716 : decode cL_law 716 = .ok (.if_icmp .eq 905, 3) := by decide +kernel
theorem dL_law_719 : decode cL_law 719 = .ok (.iconst 0, 1) := by decide +kernel
theorem dL_law_720 : decode cL_law 720 = .ok (.ireturn, 1) := by decide +kernel
theorem dL_law_721 : decode cL_law 721 = .ok (.aload_n 1, 1) := by decide +kernel
theorem dL_law_722 : decode cL_law 722 = .ok (.aload_n 0, 1) := by decide +kernel
theorem dL_law_723 : decode cL_law 723 = .ok (.iload_n 3, 1) := by decide +kernel
theorem dL_law_724 : decode cL_law 724 = .ok (.iconst 1, 1) := by decide +kernel
theorem dL_law_725 : decode cL_law 725 = .ok (.iadd, 1) := by decide +kernel
theorem dL_law_726 : decode cL_law 726 = .ok (.iaload, 1) := by decide +kernel
theorem dL_law_727 : decode cL_law 727 = .ok (.aload_n 0, 1) := by decide +kernel
theorem dL_law_728 : decode cL_law 728 = .ok (.iload_n 3, 1) := by decide +kernel
theorem dL_law_729 : decode cL_law 729 = .ok (.iconst 2, 1) := by decide +kernel
theorem dL_law_730 : decode cL_law 730 = .ok (.iadd, 1) := by decide +kernel
theorem dL_law_731 : decode cL_law 731 = .ok (.iaload, 1) := by decide +kernel
theorem dL_law_732 : decode cL_law 732 = .ok (.aload_n 0, 1) := by decide +kernel
theorem dL_law_733 : decode cL_law 733 = .ok (.iload_n 3, 1) := by decide +kernel
theorem dL_law_734 : decode cL_law 734 = .ok (.iconst 3, 1) := by decide +kernel
theorem dL_law_735 : decode cL_law 735 = .ok (.iadd, 1) := by decide +kernel
theorem dL_law_736 : decode cL_law 736 = .ok (.iaload, 1) := by decide +kernel
theorem dL_law_737 : decode cL_law 737 = .ok (.invokevirtual 63, 3) := by decide +kernel
theorem dL_law_740 : decode cL_law 740 = .ok (.aload_n 2, 1) := by decide +kernel
theorem dL_law_741 : decode cL_law 741 = .ok (.aload_n 0, 1) := by decide +kernel
theorem dL_law_742 : decode cL_law 742 = .ok (.iload_n 3, 1) := by decide +kernel
theorem dL_law_743 : decode cL_law 743 = .ok (.iconst 1, 1) := by decide +kernel
theorem dL_law_744 : decode cL_law 744 = .ok (.iadd, 1) := by decide +kernel
theorem dL_law_745 : decode cL_law 745 = .ok (.iaload, 1) := by decide +kernel
theorem dL_law_746 : decode cL_law 746 = .ok (.aload_n 0, 1) := by decide +kernel
theorem dL_law_747 : decode cL_law 747 = .ok (.iload_n 3, 1) := by decide +kernel
theorem dL_law_748 : decode cL_law 748 = .ok (.iconst 2, 1) := by decide +kernel
theorem dL_law_749 : decode cL_law 749 = .ok (.iadd, 1) := by decide +kernel
theorem dL_law_750 : decode cL_law 750 = .ok (.iaload, 1) := by decide +kernel
theorem dL_law_751 : decode cL_law 751 = .ok (.aload_n 0, 1) := by decide +kernel
theorem dL_law_752 : decode cL_law 752 = .ok (.iload_n 3, 1) := by decide +kernel
theorem dL_law_753 : decode cL_law 753 = .ok (.iconst 3, 1) := by decide +kernel
theorem dL_law_754 : decode cL_law 754 = .ok (.iadd, 1) := by decide +kernel
theorem dL_law_755 : decode cL_law 755 = .ok (.iaload, 1) := by decide +kernel
theorem dL_law_756 : decode cL_law 756 = .ok (.invokevirtual 66, 3) := by decide +kernel
theorem dL_law_759 : decode cL_law 759 = .ok (.if_icmp .eq 862, 3) := by decide +kernel
theorem dL_law_762 : decode cL_law 762 = .ok (.iconst 0, 1) := by decide +kernel
theorem dL_law_763 : decode cL_law 763 = .ok (.ireturn, 1) := by decide +kernel
theorem dL_law_764 : decode cL_law 764 = .ok (.aload_n 1, 1) := by decide +kernel
theorem dL_law_765 : decode cL_law 765 = .ok (.aload_n 0, 1) := by decide +kernel
theorem dL_law_766 : decode cL_law 766 = .ok (.iload_n 3, 1) := by decide +kernel
theorem dL_law_767 : decode cL_law 767 = .ok (.iconst 1, 1) := by decide +kernel
theorem dL_law_768 : decode cL_law 768 = .ok (.iadd, 1) := by decide +kernel
theorem dL_law_769 : decode cL_law 769 = .ok (.iaload, 1) := by decide +kernel
theorem dL_law_770 : decode cL_law 770 = .ok (.aload_n 0, 1) := by decide +kernel
theorem dL_law_771 : decode cL_law 771 = .ok (.iload_n 3, 1) := by decide +kernel
theorem dL_law_772 : decode cL_law 772 = .ok (.iconst 2, 1) := by decide +kernel
theorem dL_law_773 : decode cL_law 773 = .ok (.iadd, 1) := by decide +kernel
theorem dL_law_774 : decode cL_law 774 = .ok (.iaload, 1) := by decide +kernel
theorem dL_law_775 : decode cL_law 775 = .ok (.aload_n 0, 1) := by decide +kernel
theorem dL_law_776 : decode cL_law 776 = .ok (.iload_n 3, 1) := by decide +kernel
theorem dL_law_777 : decode cL_law 777 = .ok (.iconst 3, 1) := by decide +kernel
theorem dL_law_778 : decode cL_law 778 = .ok (.iadd, 1) := by decide +kernel
theorem dL_law_779 : decode cL_law 779 = .ok (.iaload, 1) := by decide +kernel
theorem dL_law_780 : decode cL_law 780 = .ok (.aload_n 0, 1) := by decide +kernel
theorem dL_law_781 : decode cL_law 781 = .ok (.iload_n 3, 1) := by decide +kernel
theorem dL_law_782 : decode cL_law 782 = .ok (.iconst 4, 1) := by decide +kernel
theorem dL_law_783 : decode cL_law 783 = .ok (.iadd, 1) := by decide +kernel
theorem dL_law_784 : decode cL_law 784 = .ok (.iaload, 1) := by decide +kernel
theorem dL_law_785 : decode cL_law 785 = .ok (.aload_n 0, 1) := by decide +kernel
theorem dL_law_786 : decode cL_law 786 = .ok (.iload_n 3, 1) := by decide +kernel
theorem dL_law_787 : decode cL_law 787 = .ok (.iconst 5, 1) := by decide +kernel
theorem dL_law_788 : decode cL_law 788 = .ok (.iadd, 1) := by decide +kernel
theorem dL_law_789 : decode cL_law 789 = .ok (.iaload, 1) := by decide +kernel
theorem dL_law_790 : decode cL_law 790 = .ok (.invokevirtual 67, 3) := by decide +kernel
theorem dL_law_793 : decode cL_law 793 = .ok (.aload_n 2, 1) := by decide +kernel
theorem dL_law_794 : decode cL_law 794 = .ok (.aload_n 0, 1) := by decide +kernel
theorem dL_law_795 : decode cL_law 795 = .ok (.iload_n 3, 1) := by decide +kernel
theorem dL_law_796 : decode cL_law 796 = .ok (.iconst 1, 1) := by decide +kernel
theorem dL_law_797 : decode cL_law 797 = .ok (.iadd, 1) := by decide +kernel
theorem dL_law_798 : decode cL_law 798 = .ok (.iaload, 1) := by decide +kernel
theorem dL_law_799 : decode cL_law 799 = .ok (.aload_n 0, 1) := by decide +kernel
theorem dL_law_800 : decode cL_law 800 = .ok (.iload_n 3, 1) := by decide +kernel
theorem dL_law_801 : decode cL_law 801 = .ok (.iconst 2, 1) := by decide +kernel
theorem dL_law_802 : decode cL_law 802 = .ok (.iadd, 1) := by decide +kernel
theorem dL_law_803 : decode cL_law 803 = .ok (.iaload, 1) := by decide +kernel
theorem dL_law_804 : decode cL_law 804 = .ok (.aload_n 0, 1) := by decide +kernel
theorem dL_law_805 : decode cL_law 805 = .ok (.iload_n 3, 1) := by decide +kernel
theorem dL_law_806 : decode cL_law 806 = .ok (.iconst 3, 1) := by decide +kernel
theorem dL_law_807 : decode cL_law 807 = .ok (.iadd, 1) := by decide +kernel
theorem dL_law_808 : decode cL_law 808 = .ok (.iaload, 1) := by decide +kernel
theorem dL_law_809 : decode cL_law 809 = .ok (.aload_n 0, 1) := by decide +kernel
theorem dL_law_810 : decode cL_law 810 = .ok (.iload_n 3, 1) := by decide +kernel
theorem dL_law_811 : decode cL_law 811 = .ok (.iconst 4, 1) := by decide +kernel
theorem dL_law_812 : decode cL_law 812 = .ok (.iadd, 1) := by decide +kernel
theorem dL_law_813 : decode cL_law 813 = .ok (.iaload, 1) := by decide +kernel
theorem dL_law_814 : decode cL_law 814 = .ok (.aload_n 0, 1) := by decide +kernel
theorem dL_law_815 : decode cL_law 815 = .ok (.iload_n 3, 1) := by decide +kernel
theorem dL_law_816 : decode cL_law 816 = .ok (.iconst 5, 1) := by decide +kernel
theorem dL_law_817 : decode cL_law 817 = .ok (.iadd, 1) := by decide +kernel
theorem dL_law_818 : decode cL_law 818 = .ok (.iaload, 1) := by decide +kernel
theorem dL_law_819 : decode cL_law 819 = .ok (.invokevirtual 70, 3) := by decide +kernel
theorem dL_law_822 : decode cL_law 822 = .ok (.if_icmp .eq 799, 3) := by decide +kernel
theorem dL_law_825 : decode cL_law 825 = .ok (.iconst 0, 1) := by decide +kernel
theorem dL_law_826 : decode cL_law 826 = .ok (.ireturn, 1) := by decide +kernel
theorem dL_law_827 : decode cL_law 827 = .ok (.aload_n 1, 1) := by decide +kernel
theorem dL_law_828 : decode cL_law 828 = .ok (.aload_n 0, 1) := by decide +kernel
theorem dL_law_829 : decode cL_law 829 = .ok (.iload_n 3, 1) := by decide +kernel
theorem dL_law_830 : decode cL_law 830 = .ok (.iconst 1, 1) := by decide +kernel
theorem dL_law_831 : decode cL_law 831 = .ok (.iadd, 1) := by decide +kernel
theorem dL_law_832 : decode cL_law 832 = .ok (.iaload, 1) := by decide +kernel
theorem dL_law_833 : decode cL_law 833 = .ok (.aload_n 0, 1) := by decide +kernel
theorem dL_law_834 : decode cL_law 834 = .ok (.iload_n 3, 1) := by decide +kernel
theorem dL_law_835 : decode cL_law 835 = .ok (.iconst 2, 1) := by decide +kernel
theorem dL_law_836 : decode cL_law 836 = .ok (.iadd, 1) := by decide +kernel
theorem dL_law_837 : decode cL_law 837 = .ok (.iaload, 1) := by decide +kernel
theorem dL_law_838 : decode cL_law 838 = .ok (.aload_n 0, 1) := by decide +kernel
theorem dL_law_839 : decode cL_law 839 = .ok (.iload_n 3, 1) := by decide +kernel
theorem dL_law_840 : decode cL_law 840 = .ok (.iconst 3, 1) := by decide +kernel
theorem dL_law_841 : decode cL_law 841 = .ok (.iadd, 1) := by decide +kernel
theorem dL_law_842 : decode cL_law 842 = .ok (.iaload, 1) := by decide +kernel
theorem dL_law_843 : decode cL_law 843 = .ok (.aload_n 0, 1) := by decide +kernel
theorem dL_law_844 : decode cL_law 844 = .ok (.iload_n 3, 1) := by decide +kernel
theorem dL_law_845 : decode cL_law 845 = .ok (.iconst 4, 1) := by decide +kernel
theorem dL_law_846 : decode cL_law 846 = .ok (.iadd, 1) := by decide +kernel
theorem dL_law_847 : decode cL_law 847 = .ok (.iaload, 1) := by decide +kernel
theorem dL_law_848 : decode cL_law 848 = .ok (.aload_n 0, 1) := by decide +kernel
theorem dL_law_849 : decode cL_law 849 = .ok (.iload_n 3, 1) := by decide +kernel
theorem dL_law_850 : decode cL_law 850 = .ok (.iconst 5, 1) := by decide +kernel
theorem dL_law_851 : decode cL_law 851 = .ok (.iadd, 1) := by decide +kernel
theorem dL_law_852 : decode cL_law 852 = .ok (.iaload, 1) := by decide +kernel
theorem dL_law_853 : decode cL_law 853 = .ok (.invokevirtual 71, 3) := by decide +kernel
theorem dL_law_856 : decode cL_law 856 = .ok (.aload_n 2, 1) := by decide +kernel
theorem dL_law_857 : decode cL_law 857 = .ok (.aload_n 0, 1) := by decide +kernel
theorem dL_law_858 : decode cL_law 858 = .ok (.iload_n 3, 1) := by decide +kernel
theorem dL_law_859 : decode cL_law 859 = .ok (.iconst 1, 1) := by decide +kernel
theorem dL_law_860 : decode cL_law 860 = .ok (.iadd, 1) := by decide +kernel
theorem dL_law_861 : decode cL_law 861 = .ok (.iaload, 1) := by decide +kernel
theorem dL_law_862 : decode cL_law 862 = .ok (.aload_n 0, 1) := by decide +kernel
theorem dL_law_863 : decode cL_law 863 = .ok (.iload_n 3, 1) := by decide +kernel
theorem dL_law_864 : decode cL_law 864 = .ok (.iconst 2, 1) := by decide +kernel
theorem dL_law_865 : decode cL_law 865 = .ok (.iadd, 1) := by decide +kernel
theorem dL_law_866 : decode cL_law 866 = .ok (.iaload, 1) := by decide +kernel
theorem dL_law_867 : decode cL_law 867 = .ok (.aload_n 0, 1) := by decide +kernel
theorem dL_law_868 : decode cL_law 868 = .ok (.iload_n 3, 1) := by decide +kernel
theorem dL_law_869 : decode cL_law 869 = .ok (.iconst 3, 1) := by decide +kernel
theorem dL_law_870 : decode cL_law 870 = .ok (.iadd, 1) := by decide +kernel
theorem dL_law_871 : decode cL_law 871 = .ok (.iaload, 1) := by decide +kernel
theorem dL_law_872 : decode cL_law 872 = .ok (.aload_n 0, 1) := by decide +kernel
theorem dL_law_873 : decode cL_law 873 = .ok (.iload_n 3, 1) := by decide +kernel
theorem dL_law_874 : decode cL_law 874 = .ok (.iconst 4, 1) := by decide +kernel
theorem dL_law_875 : decode cL_law 875 = .ok (.iadd, 1) := by decide +kernel
theorem dL_law_876 : decode cL_law 876 = .ok (.iaload, 1) := by decide +kernel
theorem dL_law_877 : decode cL_law 877 = .ok (.aload_n 0, 1) := by decide +kernel
theorem dL_law_878 : decode cL_law 878 = .ok (.iload_n 3, 1) := by decide +kernel
theorem dL_law_879 : decode cL_law 879 = .ok (.iconst 5, 1) := by decide +kernel
theorem dL_law_880 : decode cL_law 880 = .ok (.iadd, 1) := by decide +kernel
theorem dL_law_881 : decode cL_law 881 = .ok (.iaload, 1) := by decide +kernel
theorem dL_law_882 : decode cL_law 882 = .ok (.invokevirtual 74, 3) := by decide +kernel
theorem dL_law_885 : decode cL_law 885 = .ok (.if_icmp .eq 736, 3) := by decide +kernel
theorem dL_law_888 : decode cL_law 888 = .ok (.iconst 0, 1) := by decide +kernel
theorem dL_law_889 : decode cL_law 889 = .ok (.ireturn, 1) := by decide +kernel
theorem dL_law_890 : decode cL_law 890 = .ok (.aload_n 1, 1) := by decide +kernel
theorem dL_law_891 : decode cL_law 891 = .ok (.aload_n 0, 1) := by decide +kernel
theorem dL_law_892 : decode cL_law 892 = .ok (.iload_n 3, 1) := by decide +kernel
theorem dL_law_893 : decode cL_law 893 = .ok (.iconst 1, 1) := by decide +kernel
theorem dL_law_894 : decode cL_law 894 = .ok (.iadd, 1) := by decide +kernel
theorem dL_law_895 : decode cL_law 895 = .ok (.iaload, 1) := by decide +kernel
theorem dL_law_896 : decode cL_law 896 = .ok (.aload_n 0, 1) := by decide +kernel
theorem dL_law_897 : decode cL_law 897 = .ok (.iload_n 3, 1) := by decide +kernel
theorem dL_law_898 : decode cL_law 898 = .ok (.iconst 2, 1) := by decide +kernel
theorem dL_law_899 : decode cL_law 899 = .ok (.iadd, 1) := by decide +kernel
theorem dL_law_900 : decode cL_law 900 = .ok (.iaload, 1) := by decide +kernel
theorem dL_law_901 : decode cL_law 901 = .ok (.aload_n 0, 1) := by decide +kernel
theorem dL_law_902 : decode cL_law 902 = .ok (.iload_n 3, 1) := by decide +kernel
theorem dL_law_903 : decode cL_law 903 = .ok (.iconst 3, 1) := by decide +kernel
theorem dL_law_904 : decode cL_law 904 = .ok (.iadd, 1) := by decide +kernel
theorem dL_law_905 : decode cL_law 905 = .ok (.iaload, 1) := by decide +kernel
theorem dL_law_906 : decode cL_law 906 = .ok (.ifCond .eq 7, 3) := by decide +kernel
theorem dL_law_909 : decode cL_law 909 = .ok (.iconst 1, 1) := by decide +kernel
theorem dL_law_910 : decode cL_law 910 = .ok (.goto 4, 3) := by decide +kernel
theorem dL_law_913 : decode cL_law 913 = .ok (.iconst 0, 1) := by decide +kernel
theorem dL_law_914 : decode cL_law 914 = .ok (.invokevirtual 75, 3) := by decide +kernel
theorem dL_law_917 : decode cL_law 917 = .ok (.aload_n 2, 1) := by decide +kernel
theorem dL_law_918 : decode cL_law 918 = .ok (.aload_n 0, 1) := by decide +kernel
theorem dL_law_919 : decode cL_law 919 = .ok (.iload_n 3, 1) := by decide +kernel
theorem dL_law_920 : decode cL_law 920 = .ok (.iconst 1, 1) := by decide +kernel
theorem dL_law_921 : decode cL_law 921 = .ok (.iadd, 1) := by decide +kernel
theorem dL_law_922 : decode cL_law 922 = .ok (.iaload, 1) := by decide +kernel
theorem dL_law_923 : decode cL_law 923 = .ok (.aload_n 0, 1) := by decide +kernel
theorem dL_law_924 : decode cL_law 924 = .ok (.iload_n 3, 1) := by decide +kernel
theorem dL_law_925 : decode cL_law 925 = .ok (.iconst 2, 1) := by decide +kernel
theorem dL_law_926 : decode cL_law 926 = .ok (.iadd, 1) := by decide +kernel
theorem dL_law_927 : decode cL_law 927 = .ok (.iaload, 1) := by decide +kernel
theorem dL_law_928 : decode cL_law 928 = .ok (.aload_n 0, 1) := by decide +kernel
theorem dL_law_929 : decode cL_law 929 = .ok (.iload_n 3, 1) := by decide +kernel
theorem dL_law_930 : decode cL_law 930 = .ok (.iconst 3, 1) := by decide +kernel
theorem dL_law_931 : decode cL_law 931 = .ok (.iadd, 1) := by decide +kernel
theorem dL_law_932 : decode cL_law 932 = .ok (.iaload, 1) := by decide +kernel
theorem dL_law_933 : decode cL_law 933 = .ok (.ifCond .eq 7, 3) := by decide +kernel
theorem dL_law_936 : decode cL_law 936 = .ok (.iconst 1, 1) := by decide +kernel
theorem dL_law_937 : decode cL_law 937 = .ok (.goto 4, 3) := by decide +kernel
theorem dL_law_940 : decode cL_law 940 = .ok (.iconst 0, 1) := by decide +kernel
theorem dL_law_941 : decode cL_law 941 = .ok (.invokevirtual 79, 3) := by decide +kernel
theorem dL_law_944 : decode cL_law 944 = .ok (.if_icmp .eq 677, 3) := by decide +kernel
theorem dL_law_947 : decode cL_law 947 = .ok (.iconst 0, 1) := by decide +kernel
theorem dL_law_948 : decode cL_law 948 = .ok (.ireturn, 1) := by decide +kernel
theorem dL_law_949 : decode cL_law 949 = .ok (.aload_n 1, 1) := by decide +kernel
theorem dL_law_950 : decode cL_law 950 = .ok (.aload_n 0, 1) := by decide +kernel
theorem dL_law_951 : decode cL_law 951 = .ok (.iload_n 3, 1) := by decide +kernel
theorem dL_law_952 : decode cL_law 952 = .ok (.iconst 1, 1) := by decide +kernel
theorem dL_law_953 : decode cL_law 953 = .ok (.iadd, 1) := by decide +kernel
theorem dL_law_954 : decode cL_law 954 = .ok (.iaload, 1) := by decide +kernel
theorem dL_law_955 : decode cL_law 955 = .ok (.aload_n 0, 1) := by decide +kernel
theorem dL_law_956 : decode cL_law 956 = .ok (.iload_n 3, 1) := by decide +kernel
theorem dL_law_957 : decode cL_law 957 = .ok (.iconst 2, 1) := by decide +kernel
theorem dL_law_958 : decode cL_law 958 = .ok (.iadd, 1) := by decide +kernel
theorem dL_law_959 : decode cL_law 959 = .ok (.iaload, 1) := by decide +kernel
theorem dL_law_960 : decode cL_law 960 = .ok (.invokevirtual 80, 3) := by decide +kernel
theorem dL_law_963 : decode cL_law 963 = .ok (.aload_n 2, 1) := by decide +kernel
theorem dL_law_964 : decode cL_law 964 = .ok (.aload_n 0, 1) := by decide +kernel
theorem dL_law_965 : decode cL_law 965 = .ok (.iload_n 3, 1) := by decide +kernel
theorem dL_law_966 : decode cL_law 966 = .ok (.iconst 1, 1) := by decide +kernel
theorem dL_law_967 : decode cL_law 967 = .ok (.iadd, 1) := by decide +kernel
theorem dL_law_968 : decode cL_law 968 = .ok (.iaload, 1) := by decide +kernel
theorem dL_law_969 : decode cL_law 969 = .ok (.aload_n 0, 1) := by decide +kernel
theorem dL_law_970 : decode cL_law 970 = .ok (.iload_n 3, 1) := by decide +kernel
theorem dL_law_971 : decode cL_law 971 = .ok (.iconst 2, 1) := by decide +kernel
theorem dL_law_972 : decode cL_law 972 = .ok (.iadd, 1) := by decide +kernel
theorem dL_law_973 : decode cL_law 973 = .ok (.iaload, 1) := by decide +kernel
theorem dL_law_974 : decode cL_law 974 = .ok (.invokevirtual 83, 3) := by decide +kernel
theorem dL_law_977 : decode cL_law 977 = .ok (.if_icmp .eq 644, 3) := by decide +kernel
theorem dL_law_980 : decode cL_law 980 = .ok (.iconst 0, 1) := by decide +kernel
theorem dL_law_981 : decode cL_law 981 = .ok (.ireturn, 1) := by decide +kernel
theorem dL_law_982 : decode cL_law 982 = .ok (.aload_n 1, 1) := by decide +kernel
theorem dL_law_983 : decode cL_law 983 = .ok (.aload_n 0, 1) := by decide +kernel
theorem dL_law_984 : decode cL_law 984 = .ok (.iload_n 3, 1) := by decide +kernel
theorem dL_law_985 : decode cL_law 985 = .ok (.iconst 1, 1) := by decide +kernel
theorem dL_law_986 : decode cL_law 986 = .ok (.iadd, 1) := by decide +kernel
theorem dL_law_987 : decode cL_law 987 = .ok (.iaload, 1) := by decide +kernel
theorem dL_law_988 : decode cL_law 988 = .ok (.aload_n 0, 1) := by decide +kernel
theorem dL_law_989 : decode cL_law 989 = .ok (.iload_n 3, 1) := by decide +kernel
theorem dL_law_990 : decode cL_law 990 = .ok (.iconst 2, 1) := by decide +kernel
theorem dL_law_991 : decode cL_law 991 = .ok (.iadd, 1) := by decide +kernel
theorem dL_law_992 : decode cL_law 992 = .ok (.iaload, 1) := by decide +kernel
theorem dL_law_993 : decode cL_law 993 = .ok (.aload_n 0, 1) := by decide +kernel
theorem dL_law_994 : decode cL_law 994 = .ok (.iload_n 3, 1) := by decide +kernel
theorem dL_law_995 : decode cL_law 995 = .ok (.iconst 3, 1) := by decide +kernel
theorem dL_law_996 : decode cL_law 996 = .ok (.iadd, 1) := by decide +kernel
theorem dL_law_997 : decode cL_law 997 = .ok (.iaload, 1) := by decide +kernel
theorem dL_law_998 : decode cL_law 998 = .ok (.aload_n 0, 1) := by decide +kernel
theorem dL_law_999 : decode cL_law 999 = .ok (.iload_n 3, 1) := by decide +kernel
theorem dL_law_1000 : decode cL_law 1000 = .ok (.iconst 4, 1) := by decide +kernel
theorem dL_law_1001 : decode cL_law 1001 = .ok (.iadd, 1) := by decide +kernel
theorem dL_law_1002 : decode cL_law 1002 = .ok (.iaload, 1) := by decide +kernel
theorem dL_law_1003 : decode cL_law 1003 = .ok (.aload_n 0, 1) := by decide +kernel
theorem dL_law_1004 : decode cL_law 1004 = .ok (.iload_n 3, 1) := by decide +kernel
theorem dL_law_1005 : decode cL_law 1005 = .ok (.iconst 5, 1) := by decide +kernel
theorem dL_law_1006 : decode cL_law 1006 = .ok (.iadd, 1) := by decide +kernel
theorem dL_law_1007 : decode cL_law 1007 = .ok (.iaload, 1) := by decide +kernel
theorem dL_law_1008 : decode cL_law 1008 = .ok (.aload_n 0, 1) := by decide +kernel
theorem dL_law_1009 : decode cL_law 1009 = .ok (.iload_n 3, 1) := by decide +kernel
theorem dL_law_1010 : decode cL_law 1010 = .ok (.bipush 6, 2) := by decide +kernel
theorem dL_law_1012 : decode cL_law 1012 = .ok (.iadd, 1) := by decide +kernel
theorem dL_law_1013 : decode cL_law 1013 = .ok (.iaload, 1) := by decide +kernel
theorem dL_law_1014 : decode cL_law 1014 = .ok (.aload_n 0, 1) := by decide +kernel
theorem dL_law_1015 : decode cL_law 1015 = .ok (.iload_n 3, 1) := by decide +kernel
theorem dL_law_1016 : decode cL_law 1016 = .ok (.bipush 7, 2) := by decide +kernel
theorem dL_law_1018 : decode cL_law 1018 = .ok (.iadd, 1) := by decide +kernel
theorem dL_law_1019 : decode cL_law 1019 = .ok (.iaload, 1) := by decide +kernel
theorem dL_law_1020 : decode cL_law 1020 = .ok (.ifCond .eq 7, 3) := by decide +kernel
theorem dL_law_1023 : decode cL_law 1023 = .ok (.iconst 1, 1) := by decide +kernel
theorem dL_law_1024 : decode cL_law 1024 = .ok (.goto 4, 3) := by decide +kernel
theorem dL_law_1027 : decode cL_law 1027 = .ok (.iconst 0, 1) := by decide +kernel
theorem dL_law_1028 : decode cL_law 1028 = .ok (.invokevirtual 84, 3) := by decide +kernel
theorem dL_law_1031 : decode cL_law 1031 = .ok (.aload_n 2, 1) := by decide +kernel
theorem dL_law_1032 : decode cL_law 1032 = .ok (.aload_n 0, 1) := by decide +kernel
theorem dL_law_1033 : decode cL_law 1033 = .ok (.iload_n 3, 1) := by decide +kernel
theorem dL_law_1034 : decode cL_law 1034 = .ok (.iconst 1, 1) := by decide +kernel
theorem dL_law_1035 : decode cL_law 1035 = .ok (.iadd, 1) := by decide +kernel
theorem dL_law_1036 : decode cL_law 1036 = .ok (.iaload, 1) := by decide +kernel
theorem dL_law_1037 : decode cL_law 1037 = .ok (.aload_n 0, 1) := by decide +kernel
theorem dL_law_1038 : decode cL_law 1038 = .ok (.iload_n 3, 1) := by decide +kernel
theorem dL_law_1039 : decode cL_law 1039 = .ok (.iconst 2, 1) := by decide +kernel
theorem dL_law_1040 : decode cL_law 1040 = .ok (.iadd, 1) := by decide +kernel
theorem dL_law_1041 : decode cL_law 1041 = .ok (.iaload, 1) := by decide +kernel
theorem dL_law_1042 : decode cL_law 1042 = .ok (.aload_n 0, 1) := by decide +kernel
theorem dL_law_1043 : decode cL_law 1043 = .ok (.iload_n 3, 1) := by decide +kernel
theorem dL_law_1044 : decode cL_law 1044 = .ok (.iconst 3, 1) := by decide +kernel
theorem dL_law_1045 : decode cL_law 1045 = .ok (.iadd, 1) := by decide +kernel
theorem dL_law_1046 : decode cL_law 1046 = .ok (.iaload, 1) := by decide +kernel
theorem dL_law_1047 : decode cL_law 1047 = .ok (.aload_n 0, 1) := by decide +kernel
theorem dL_law_1048 : decode cL_law 1048 = .ok (.iload_n 3, 1) := by decide +kernel
theorem dL_law_1049 : decode cL_law 1049 = .ok (.iconst 4, 1) := by decide +kernel
theorem dL_law_1050 : decode cL_law 1050 = .ok (.iadd, 1) := by decide +kernel
theorem dL_law_1051 : decode cL_law 1051 = .ok (.iaload, 1) := by decide +kernel
theorem dL_law_1052 : decode cL_law 1052 = .ok (.aload_n 0, 1) := by decide +kernel
theorem dL_law_1053 : decode cL_law 1053 = .ok (.iload_n 3, 1) := by decide +kernel
theorem dL_law_1054 : decode cL_law 1054 = .ok (.iconst 5, 1) := by decide +kernel
theorem dL_law_1055 : decode cL_law 1055 = .ok (.iadd, 1) := by decide +kernel
theorem dL_law_1056 : decode cL_law 1056 = .ok (.iaload, 1) := by decide +kernel
theorem dL_law_1057 : decode cL_law 1057 = .ok (.aload_n 0, 1) := by decide +kernel
theorem dL_law_1058 : decode cL_law 1058 = .ok (.iload_n 3, 1) := by decide +kernel
theorem dL_law_1059 : decode cL_law 1059 = .ok (.bipush 6, 2) := by decide +kernel
theorem dL_law_1061 : decode cL_law 1061 = .ok (.iadd, 1) := by decide +kernel
theorem dL_law_1062 : decode cL_law 1062 = .ok (.iaload, 1) := by decide +kernel
theorem dL_law_1063 : decode cL_law 1063 = .ok (.aload_n 0, 1) := by decide +kernel
theorem dL_law_1064 : decode cL_law 1064 = .ok (.iload_n 3, 1) := by decide +kernel
theorem dL_law_1065 : decode cL_law 1065 = .ok (.bipush 7, 2) := by decide +kernel
theorem dL_law_1067 : decode cL_law 1067 = .ok (.iadd, 1) := by decide +kernel
theorem dL_law_1068 : decode cL_law 1068 = .ok (.iaload, 1) := by decide +kernel
theorem dL_law_1069 : decode cL_law 1069 = .ok (.ifCond .eq 7, 3) := by decide +kernel
theorem dL_law_1072 : decode cL_law 1072 = .ok (.iconst 1, 1) := by decide +kernel
theorem dL_law_1073 : decode cL_law 1073 = .ok (.goto 4, 3) := by decide +kernel
theorem dL_law_1076 : decode cL_law 1076 = .ok (.iconst 0, 1) := by decide +kernel
theorem dL_law_1077 : decode cL_law 1077 = .ok (.invokevirtual 87, 3) := by decide +kernel
theorem dL_law_1080 : decode cL_law 1080 = .ok (.if_icmp .eq 541, 3) := by decide +kernel
theorem dL_law_1083 : decode cL_law 1083 = .ok (.iconst 0, 1) := by decide +kernel
theorem dL_law_1084 : decode cL_law 1084 = .ok (.ireturn, 1) := by decide +kernel
theorem dL_law_1085 : decode cL_law 1085 = .ok (.aload_n 1, 1) := by decide +kernel
theorem dL_law_1086 : decode cL_law 1086 = .ok (.aload_n 0, 1) := by decide +kernel
theorem dL_law_1087 : decode cL_law 1087 = .ok (.iload_n 3, 1) := by decide +kernel
theorem dL_law_1088 : decode cL_law 1088 = .ok (.iconst 1, 1) := by decide +kernel
theorem dL_law_1089 : decode cL_law 1089 = .ok (.iadd, 1) := by decide +kernel
theorem dL_law_1090 : decode cL_law 1090 = .ok (.iaload, 1) := by decide +kernel
theorem dL_law_1091 : decode cL_law 1091 = .ok (.aload_n 0, 1) := by decide +kernel
theorem dL_law_1092 : decode cL_law 1092 = .ok (.iload_n 3, 1) := by decide +kernel
theorem dL_law_1093 : decode cL_law 1093 = .ok (.iconst 2, 1) := by decide +kernel
theorem dL_law_1094 : decode cL_law 1094 = .ok (.iadd, 1) := by decide +kernel
theorem dL_law_1095 : decode cL_law 1095 = .ok (.iaload, 1) := by decide +kernel
theorem dL_law_1096 : decode cL_law 1096 = .ok (.aload_n 0, 1) := by decide +kernel
theorem dL_law_1097 : decode cL_law 1097 = .ok (.iload_n 3, 1) := by decide +kernel
theorem dL_law_1098 : decode cL_law 1098 = .ok (.iconst 3, 1) := by decide +kernel
theorem dL_law_1099 : decode cL_law 1099 = .ok (.iadd, 1) := by decide +kernel
theorem dL_law_1100 : decode cL_law 1100 = .ok (.iaload, 1) := by decide +kernel
theorem dL_law_1101 : decode cL_law 1101 = .ok (.aload_n 0, 1) := by decide +kernel
theorem dL_law_1102 : decode cL_law 1102 = .ok (.iload_n 3, 1) := by decide +kernel
theorem dL_law_1103 : decode cL_law 1103 = .ok (.iconst 4, 1) := by decide +kernel
theorem dL_law_1104 : decode cL_law 1104 = .ok (.iadd, 1) := by decide +kernel
theorem dL_law_1105 : decode cL_law 1105 = .ok (.iaload, 1) := by decide +kernel
theorem dL_law_1106 : decode cL_law 1106 = .ok (.aload_n 0, 1) := by decide +kernel
theorem dL_law_1107 : decode cL_law 1107 = .ok (.iload_n 3, 1) := by decide +kernel
theorem dL_law_1108 : decode cL_law 1108 = .ok (.iconst 5, 1) := by decide +kernel
theorem dL_law_1109 : decode cL_law 1109 = .ok (.iadd, 1) := by decide +kernel
theorem dL_law_1110 : decode cL_law 1110 = .ok (.iaload, 1) := by decide +kernel
theorem dL_law_1111 : decode cL_law 1111 = .ok (.aload_n 0, 1) := by decide +kernel
theorem dL_law_1112 : decode cL_law 1112 = .ok (.iload_n 3, 1) := by decide +kernel
theorem dL_law_1113 : decode cL_law 1113 = .ok (.bipush 6, 2) := by decide +kernel
theorem dL_law_1115 : decode cL_law 1115 = .ok (.iadd, 1) := by decide +kernel
theorem dL_law_1116 : decode cL_law 1116 = .ok (.iaload, 1) := by decide +kernel
theorem dL_law_1117 : decode cL_law 1117 = .ok (.aload_n 0, 1) := by decide +kernel
theorem dL_law_1118 : decode cL_law 1118 = .ok (.iload_n 3, 1) := by decide +kernel
theorem dL_law_1119 : decode cL_law 1119 = .ok (.bipush 7, 2) := by decide +kernel
theorem dL_law_1121 : decode cL_law 1121 = .ok (.iadd, 1) := by decide +kernel
theorem dL_law_1122 : decode cL_law 1122 = .ok (.iaload, 1) := by decide +kernel
theorem dL_law_1123 : decode cL_law 1123 = .ok (.invokevirtual 88, 3) := by decide +kernel
theorem dL_law_1126 : decode cL_law 1126 = .ok (.aload_n 2, 1) := by decide +kernel
theorem dL_law_1127 : decode cL_law 1127 = .ok (.aload_n 0, 1) := by decide +kernel
theorem dL_law_1128 : decode cL_law 1128 = .ok (.iload_n 3, 1) := by decide +kernel
theorem dL_law_1129 : decode cL_law 1129 = .ok (.iconst 1, 1) := by decide +kernel
theorem dL_law_1130 : decode cL_law 1130 = .ok (.iadd, 1) := by decide +kernel
theorem dL_law_1131 : decode cL_law 1131 = .ok (.iaload, 1) := by decide +kernel
theorem dL_law_1132 : decode cL_law 1132 = .ok (.aload_n 0, 1) := by decide +kernel
theorem dL_law_1133 : decode cL_law 1133 = .ok (.iload_n 3, 1) := by decide +kernel
theorem dL_law_1134 : decode cL_law 1134 = .ok (.iconst 2, 1) := by decide +kernel
theorem dL_law_1135 : decode cL_law 1135 = .ok (.iadd, 1) := by decide +kernel
theorem dL_law_1136 : decode cL_law 1136 = .ok (.iaload, 1) := by decide +kernel
theorem dL_law_1137 : decode cL_law 1137 = .ok (.aload_n 0, 1) := by decide +kernel
theorem dL_law_1138 : decode cL_law 1138 = .ok (.iload_n 3, 1) := by decide +kernel
theorem dL_law_1139 : decode cL_law 1139 = .ok (.iconst 3, 1) := by decide +kernel
theorem dL_law_1140 : decode cL_law 1140 = .ok (.iadd, 1) := by decide +kernel
theorem dL_law_1141 : decode cL_law 1141 = .ok (.iaload, 1) := by decide +kernel
theorem dL_law_1142 : decode cL_law 1142 = .ok (.aload_n 0, 1) := by decide +kernel
theorem dL_law_1143 : decode cL_law 1143 = .ok (.iload_n 3, 1) := by decide +kernel
theorem dL_law_1144 : decode cL_law 1144 = .ok (.iconst 4, 1) := by decide +kernel
theorem dL_law_1145 : decode cL_law 1145 = .ok (.iadd, 1) := by decide +kernel
theorem dL_law_1146 : decode cL_law 1146 = .ok (.iaload, 1) := by decide +kernel
theorem dL_law_1147 : decode cL_law 1147 = .ok (.aload_n 0, 1) := by decide +kernel
theorem dL_law_1148 : decode cL_law 1148 = .ok (.iload_n 3, 1) := by decide +kernel
theorem dL_law_1149 : decode cL_law 1149 = .ok (.iconst 5, 1) := by decide +kernel
theorem dL_law_1150 : decode cL_law 1150 = .ok (.iadd, 1) := by decide +kernel
theorem dL_law_1151 : decode cL_law 1151 = .ok (.iaload, 1) := by decide +kernel
theorem dL_law_1152 : decode cL_law 1152 = .ok (.aload_n 0, 1) := by decide +kernel
theorem dL_law_1153 : decode cL_law 1153 = .ok (.iload_n 3, 1) := by decide +kernel
theorem dL_law_1154 : decode cL_law 1154 = .ok (.bipush 6, 2) := by decide +kernel
theorem dL_law_1156 : decode cL_law 1156 = .ok (.iadd, 1) := by decide +kernel
theorem dL_law_1157 : decode cL_law 1157 = .ok (.iaload, 1) := by decide +kernel
theorem dL_law_1158 : decode cL_law 1158 = .ok (.aload_n 0, 1) := by decide +kernel
theorem dL_law_1159 : decode cL_law 1159 = .ok (.iload_n 3, 1) := by decide +kernel
theorem dL_law_1160 : decode cL_law 1160 = .ok (.bipush 7, 2) := by decide +kernel
theorem dL_law_1162 : decode cL_law 1162 = .ok (.iadd, 1) := by decide +kernel
theorem dL_law_1163 : decode cL_law 1163 = .ok (.iaload, 1) := by decide +kernel
theorem dL_law_1164 : decode cL_law 1164 = .ok (.invokevirtual 92, 3) := by decide +kernel
theorem dL_law_1167 : decode cL_law 1167 = .ok (.if_icmp .eq 454, 3) := by decide +kernel
theorem dL_law_1170 : decode cL_law 1170 = .ok (.iconst 0, 1) := by decide +kernel
theorem dL_law_1171 : decode cL_law 1171 = .ok (.ireturn, 1) := by decide +kernel
theorem dL_law_1172 : decode cL_law 1172 = .ok (.aload_n 1, 1) := by decide +kernel
theorem dL_law_1173 : decode cL_law 1173 = .ok (.aload_n 0, 1) := by decide +kernel
theorem dL_law_1174 : decode cL_law 1174 = .ok (.iload_n 3, 1) := by decide +kernel
theorem dL_law_1175 : decode cL_law 1175 = .ok (.iconst 1, 1) := by decide +kernel
theorem dL_law_1176 : decode cL_law 1176 = .ok (.iadd, 1) := by decide +kernel
theorem dL_law_1177 : decode cL_law 1177 = .ok (.iaload, 1) := by decide +kernel
theorem dL_law_1178 : decode cL_law 1178 = .ok (.aload_n 0, 1) := by decide +kernel
theorem dL_law_1179 : decode cL_law 1179 = .ok (.iload_n 3, 1) := by decide +kernel
theorem dL_law_1180 : decode cL_law 1180 = .ok (.iconst 2, 1) := by decide +kernel
theorem dL_law_1181 : decode cL_law 1181 = .ok (.iadd, 1) := by decide +kernel
theorem dL_law_1182 : decode cL_law 1182 = .ok (.iaload, 1) := by decide +kernel
theorem dL_law_1183 : decode cL_law 1183 = .ok (.aload_n 0, 1) := by decide +kernel
theorem dL_law_1184 : decode cL_law 1184 = .ok (.iload_n 3, 1) := by decide +kernel
theorem dL_law_1185 : decode cL_law 1185 = .ok (.iconst 3, 1) := by decide +kernel
theorem dL_law_1186 : decode cL_law 1186 = .ok (.iadd, 1) := by decide +kernel
theorem dL_law_1187 : decode cL_law 1187 = .ok (.iaload, 1) := by decide +kernel
theorem dL_law_1188 : decode cL_law 1188 = .ok (.invokevirtual 93, 3) := by decide +kernel
theorem dL_law_1191 : decode cL_law 1191 = .ok (.aload_n 2, 1) := by decide +kernel
theorem dL_law_1192 : decode cL_law 1192 = .ok (.aload_n 0, 1) := by decide +kernel
theorem dL_law_1193 : decode cL_law 1193 = .ok (.iload_n 3, 1) := by decide +kernel
theorem dL_law_1194 : decode cL_law 1194 = .ok (.iconst 1, 1) := by decide +kernel
theorem dL_law_1195 : decode cL_law 1195 = .ok (.iadd, 1) := by decide +kernel
theorem dL_law_1196 : decode cL_law 1196 = .ok (.iaload, 1) := by decide +kernel
theorem dL_law_1197 : decode cL_law 1197 = .ok (.aload_n 0, 1) := by decide +kernel
theorem dL_law_1198 : decode cL_law 1198 = .ok (.iload_n 3, 1) := by decide +kernel
theorem dL_law_1199 : decode cL_law 1199 = .ok (.iconst 2, 1) := by decide +kernel
theorem dL_law_1200 : decode cL_law 1200 = .ok (.iadd, 1) := by decide +kernel
theorem dL_law_1201 : decode cL_law 1201 = .ok (.iaload, 1) := by decide +kernel
theorem dL_law_1202 : decode cL_law 1202 = .ok (.aload_n 0, 1) := by decide +kernel
theorem dL_law_1203 : decode cL_law 1203 = .ok (.iload_n 3, 1) := by decide +kernel
theorem dL_law_1204 : decode cL_law 1204 = .ok (.iconst 3, 1) := by decide +kernel
theorem dL_law_1205 : decode cL_law 1205 = .ok (.iadd, 1) := by decide +kernel
theorem dL_law_1206 : decode cL_law 1206 = .ok (.iaload, 1) := by decide +kernel
theorem dL_law_1207 : decode cL_law 1207 = .ok (.invokevirtual 96, 3) := by decide +kernel
theorem dL_law_1210 : decode cL_law 1210 = .ok (.if_icmp .eq 411, 3) := by decide +kernel
theorem dL_law_1213 : decode cL_law 1213 = .ok (.iconst 0, 1) := by decide +kernel
theorem dL_law_1214 : decode cL_law 1214 = .ok (.ireturn, 1) := by decide +kernel
theorem dL_law_1215 : decode cL_law 1215 = .ok (.aload_n 1, 1) := by decide +kernel
theorem dL_law_1216 : decode cL_law 1216 = .ok (.aload_n 0, 1) := by decide +kernel
theorem dL_law_1217 : decode cL_law 1217 = .ok (.iload_n 3, 1) := by decide +kernel
theorem dL_law_1218 : decode cL_law 1218 = .ok (.iconst 1, 1) := by decide +kernel
theorem dL_law_1219 : decode cL_law 1219 = .ok (.iadd, 1) := by decide +kernel
theorem dL_law_1220 : decode cL_law 1220 = .ok (.iaload, 1) := by decide +kernel
theorem dL_law_1221 : decode cL_law 1221 = .ok (.aload_n 0, 1) := by decide +kernel
theorem dL_law_1222 : decode cL_law 1222 = .ok (.iload_n 3, 1) := by decide +kernel
theorem dL_law_1223 : decode cL_law 1223 = .ok (.iconst 2, 1) := by decide +kernel
theorem dL_law_1224 : decode cL_law 1224 = .ok (.iadd, 1) := by decide +kernel
theorem dL_law_1225 : decode cL_law 1225 = .ok (.iaload, 1) := by decide +kernel
theorem dL_law_1226 : decode cL_law 1226 = .ok (.aload_n 0, 1) := by decide +kernel
theorem dL_law_1227 : decode cL_law 1227 = .ok (.iload_n 3, 1) := by decide +kernel
theorem dL_law_1228 : decode cL_law 1228 = .ok (.iconst 3, 1) := by decide +kernel
theorem dL_law_1229 : decode cL_law 1229 = .ok (.iadd, 1) := by decide +kernel
theorem dL_law_1230 : decode cL_law 1230 = .ok (.iaload, 1) := by decide +kernel
theorem dL_law_1231 : decode cL_law 1231 = .ok (.invokevirtual 97, 3) := by decide +kernel
theorem dL_law_1234 : decode cL_law 1234 = .ok (.aload_n 2, 1) := by decide +kernel
theorem dL_law_1235 : decode cL_law 1235 = .ok (.aload_n 0, 1) := by decide +kernel
theorem dL_law_1236 : decode cL_law 1236 = .ok (.iload_n 3, 1) := by decide +kernel
theorem dL_law_1237 : decode cL_law 1237 = .ok (.iconst 1, 1) := by decide +kernel
theorem dL_law_1238 : decode cL_law 1238 = .ok (.iadd, 1) := by decide +kernel
theorem dL_law_1239 : decode cL_law 1239 = .ok (.iaload, 1) := by decide +kernel
theorem dL_law_1240 : decode cL_law 1240 = .ok (.aload_n 0, 1) := by decide +kernel
theorem dL_law_1241 : decode cL_law 1241 = .ok (.iload_n 3, 1) := by decide +kernel
theorem dL_law_1242 : decode cL_law 1242 = .ok (.iconst 2, 1) := by decide +kernel
theorem dL_law_1243 : decode cL_law 1243 = .ok (.iadd, 1) := by decide +kernel
theorem dL_law_1244 : decode cL_law 1244 = .ok (.iaload, 1) := by decide +kernel
theorem dL_law_1245 : decode cL_law 1245 = .ok (.aload_n 0, 1) := by decide +kernel
theorem dL_law_1246 : decode cL_law 1246 = .ok (.iload_n 3, 1) := by decide +kernel
theorem dL_law_1247 : decode cL_law 1247 = .ok (.iconst 3, 1) := by decide +kernel
theorem dL_law_1248 : decode cL_law 1248 = .ok (.iadd, 1) := by decide +kernel
theorem dL_law_1249 : decode cL_law 1249 = .ok (.iaload, 1) := by decide +kernel
theorem dL_law_1250 : decode cL_law 1250 = .ok (.invokevirtual 100, 3) := by decide +kernel
theorem dL_law_1253 : decode cL_law 1253 = .ok (.if_icmp .eq 368, 3) := by decide +kernel
theorem dL_law_1256 : decode cL_law 1256 = .ok (.iconst 0, 1) := by decide +kernel
theorem dL_law_1257 : decode cL_law 1257 = .ok (.ireturn, 1) := by decide +kernel
theorem dL_law_1258 : decode cL_law 1258 = .ok (.aload_n 1, 1) := by decide +kernel
theorem dL_law_1259 : decode cL_law 1259 = .ok (.aload_n 0, 1) := by decide +kernel
theorem dL_law_1260 : decode cL_law 1260 = .ok (.iload_n 3, 1) := by decide +kernel
theorem dL_law_1261 : decode cL_law 1261 = .ok (.iconst 1, 1) := by decide +kernel
theorem dL_law_1262 : decode cL_law 1262 = .ok (.iadd, 1) := by decide +kernel
theorem dL_law_1263 : decode cL_law 1263 = .ok (.iaload, 1) := by decide +kernel
theorem dL_law_1264 : decode cL_law 1264 = .ok (.aload_n 0, 1) := by decide +kernel
theorem dL_law_1265 : decode cL_law 1265 = .ok (.iload_n 3, 1) := by decide +kernel
theorem dL_law_1266 : decode cL_law 1266 = .ok (.iconst 2, 1) := by decide +kernel
theorem dL_law_1267 : decode cL_law 1267 = .ok (.iadd, 1) := by decide +kernel
theorem dL_law_1268 : decode cL_law 1268 = .ok (.iaload, 1) := by decide +kernel
theorem dL_law_1269 : decode cL_law 1269 = .ok (.aload_n 0, 1) := by decide +kernel
theorem dL_law_1270 : decode cL_law 1270 = .ok (.iload_n 3, 1) := by decide +kernel
theorem dL_law_1271 : decode cL_law 1271 = .ok (.iconst 3, 1) := by decide +kernel
theorem dL_law_1272 : decode cL_law 1272 = .ok (.iadd, 1) := by decide +kernel
theorem dL_law_1273 : decode cL_law 1273 = .ok (.iaload, 1) := by decide +kernel
theorem dL_law_1274 : decode cL_law 1274 = .ok (.invokevirtual 101, 3) := by decide +kernel
theorem dL_law_1277 : decode cL_law 1277 = .ok (.aload_n 2, 1) := by decide +kernel
theorem dL_law_1278 : decode cL_law 1278 = .ok (.aload_n 0, 1) := by decide +kernel
theorem dL_law_1279 : decode cL_law 1279 = .ok (.iload_n 3, 1) := by decide +kernel
theorem dL_law_1280 : decode cL_law 1280 = .ok (.iconst 1, 1) := by decide +kernel
theorem dL_law_1281 : decode cL_law 1281 = .ok (.iadd, 1) := by decide +kernel
theorem dL_law_1282 : decode cL_law 1282 = .ok (.iaload, 1) := by decide +kernel
theorem dL_law_1283 : decode cL_law 1283 = .ok (.aload_n 0, 1) := by decide +kernel
theorem dL_law_1284 : decode cL_law 1284 = .ok (.iload_n 3, 1) := by decide +kernel
theorem dL_law_1285 : decode cL_law 1285 = .ok (.iconst 2, 1) := by decide +kernel
theorem dL_law_1286 : decode cL_law 1286 = .ok (.iadd, 1) := by decide +kernel
theorem dL_law_1287 : decode cL_law 1287 = .ok (.iaload, 1) := by decide +kernel
theorem dL_law_1288 : decode cL_law 1288 = .ok (.aload_n 0, 1) := by decide +kernel
theorem dL_law_1289 : decode cL_law 1289 = .ok (.iload_n 3, 1) := by decide +kernel
theorem dL_law_1290 : decode cL_law 1290 = .ok (.iconst 3, 1) := by decide +kernel
theorem dL_law_1291 : decode cL_law 1291 = .ok (.iadd, 1) := by decide +kernel
theorem dL_law_1292 : decode cL_law 1292 = .ok (.iaload, 1) := by decide +kernel
theorem dL_law_1293 : decode cL_law 1293 = .ok (.invokevirtual 104, 3) := by decide +kernel
theorem dL_law_1296 : decode cL_law 1296 = .ok (.if_icmp .eq 325, 3) := by decide +kernel
theorem dL_law_1299 : decode cL_law 1299 = .ok (.iconst 0, 1) := by decide +kernel
theorem dL_law_1300 : decode cL_law 1300 = .ok (.ireturn, 1) := by decide +kernel
theorem dL_law_1301 : decode cL_law 1301 = .ok (.aload_n 1, 1) := by decide +kernel
theorem dL_law_1302 : decode cL_law 1302 = .ok (.aload_n 0, 1) := by decide +kernel
theorem dL_law_1303 : decode cL_law 1303 = .ok (.iload_n 3, 1) := by decide +kernel
theorem dL_law_1304 : decode cL_law 1304 = .ok (.iconst 1, 1) := by decide +kernel
theorem dL_law_1305 : decode cL_law 1305 = .ok (.iadd, 1) := by decide +kernel
theorem dL_law_1306 : decode cL_law 1306 = .ok (.iaload, 1) := by decide +kernel
theorem dL_law_1307 : decode cL_law 1307 = .ok (.aload_n 0, 1) := by decide +kernel
theorem dL_law_1308 : decode cL_law 1308 = .ok (.iload_n 3, 1) := by decide +kernel
theorem dL_law_1309 : decode cL_law 1309 = .ok (.iconst 2, 1) := by decide +kernel
theorem dL_law_1310 : decode cL_law 1310 = .ok (.iadd, 1) := by decide +kernel
theorem dL_law_1311 : decode cL_law 1311 = .ok (.iaload, 1) := by decide +kernel
theorem dL_law_1312 : decode cL_law 1312 = .ok (.aload_n 0, 1) := by decide +kernel
theorem dL_law_1313 : decode cL_law 1313 = .ok (.iload_n 3, 1) := by decide +kernel
theorem dL_law_1314 : decode cL_law 1314 = .ok (.iconst 3, 1) := by decide +kernel
theorem dL_law_1315 : decode cL_law 1315 = .ok (.iadd, 1) := by decide +kernel
theorem dL_law_1316 : decode cL_law 1316 = .ok (.iaload, 1) := by decide +kernel
theorem dL_law_1317 : decode cL_law 1317 = .ok (.invokevirtual 105, 3) := by decide +kernel
theorem dL_law_1320 : decode cL_law 1320 = .ok (.aload_n 2, 1) := by decide +kernel
theorem dL_law_1321 : decode cL_law 1321 = .ok (.aload_n 0, 1) := by decide +kernel
theorem dL_law_1322 : decode cL_law 1322 = .ok (.iload_n 3, 1) := by decide +kernel
theorem dL_law_1323 : decode cL_law 1323 = .ok (.iconst 1, 1) := by decide +kernel
theorem dL_law_1324 : decode cL_law 1324 = .ok (.iadd, 1) := by decide +kernel
theorem dL_law_1325 : decode cL_law 1325 = .ok (.iaload, 1) := by decide +kernel
theorem dL_law_1326 : decode cL_law 1326 = .ok (.aload_n 0, 1) := by decide +kernel
theorem dL_law_1327 : decode cL_law 1327 = .ok (.iload_n 3, 1) := by decide +kernel
theorem dL_law_1328 : decode cL_law 1328 = .ok (.iconst 2, 1) := by decide +kernel
theorem dL_law_1329 : decode cL_law 1329 = .ok (.iadd, 1) := by decide +kernel
theorem dL_law_1330 : decode cL_law 1330 = .ok (.iaload, 1) := by decide +kernel
theorem dL_law_1331 : decode cL_law 1331 = .ok (.aload_n 0, 1) := by decide +kernel
theorem dL_law_1332 : decode cL_law 1332 = .ok (.iload_n 3, 1) := by decide +kernel
theorem dL_law_1333 : decode cL_law 1333 = .ok (.iconst 3, 1) := by decide +kernel
theorem dL_law_1334 : decode cL_law 1334 = .ok (.iadd, 1) := by decide +kernel
theorem dL_law_1335 : decode cL_law 1335 = .ok (.iaload, 1) := by decide +kernel
theorem dL_law_1336 : decode cL_law 1336 = .ok (.invokevirtual 108, 3) := by decide +kernel
theorem dL_law_1339 : decode cL_law 1339 = .ok (.if_icmp .eq 282, 3) := by decide +kernel
theorem dL_law_1342 : decode cL_law 1342 = .ok (.iconst 0, 1) := by decide +kernel
theorem dL_law_1343 : decode cL_law 1343 = .ok (.ireturn, 1) := by decide +kernel
theorem dL_law_1344 : decode cL_law 1344 = .ok (.aload_n 1, 1) := by decide +kernel
theorem dL_law_1345 : decode cL_law 1345 = .ok (.aload_n 0, 1) := by decide +kernel
theorem dL_law_1346 : decode cL_law 1346 = .ok (.iload_n 3, 1) := by decide +kernel
theorem dL_law_1347 : decode cL_law 1347 = .ok (.iconst 1, 1) := by decide +kernel
theorem dL_law_1348 : decode cL_law 1348 = .ok (.iadd, 1) := by decide +kernel
theorem dL_law_1349 : decode cL_law 1349 = .ok (.iaload, 1) := by decide +kernel
theorem dL_law_1350 : decode cL_law 1350 = .ok (.aload_n 0, 1) := by decide +kernel
theorem dL_law_1351 : decode cL_law 1351 = .ok (.iload_n 3, 1) := by decide +kernel
theorem dL_law_1352 : decode cL_law 1352 = .ok (.iconst 2, 1) := by decide +kernel
theorem dL_law_1353 : decode cL_law 1353 = .ok (.iadd, 1) := by decide +kernel
theorem dL_law_1354 : decode cL_law 1354 = .ok (.iaload, 1) := by decide +kernel
theorem dL_law_1355 : decode cL_law 1355 = .ok (.ifCond .eq 7, 3) := by decide +kernel
theorem dL_law_1358 : decode cL_law 1358 = .ok (.iconst 1, 1) := by decide +kernel
theorem dL_law_1359 : decode cL_law 1359 = .ok (.goto 4, 3) := by decide +kernel
theorem dL_law_1362 : decode cL_law 1362 = .ok (.iconst 0, 1) := by decide +kernel
theorem dL_law_1363 : decode cL_law 1363 = .ok (.invokevirtual 109, 3) := by decide +kernel
theorem dL_law_1366 : decode cL_law 1366 = .ok (.aload_n 2, 1) := by decide +kernel
theorem dL_law_1367 : decode cL_law 1367 = .ok (.aload_n 0, 1) := by decide +kernel
theorem dL_law_1368 : decode cL_law 1368 = .ok (.iload_n 3, 1) := by decide +kernel
theorem dL_law_1369 : decode cL_law 1369 = .ok (.iconst 1, 1) := by decide +kernel
theorem dL_law_1370 : decode cL_law 1370 = .ok (.iadd, 1) := by decide +kernel
theorem dL_law_1371 : decode cL_law 1371 = .ok (.iaload, 1) := by decide +kernel
theorem dL_law_1372 : decode cL_law 1372 = .ok (.aload_n 0, 1) := by decide +kernel
theorem dL_law_1373 : decode cL_law 1373 = .ok (.iload_n 3, 1) := by decide +kernel
theorem dL_law_1374 : decode cL_law 1374 = .ok (.iconst 2, 1) := by decide +kernel
theorem dL_law_1375 : decode cL_law 1375 = .ok (.iadd, 1) := by decide +kernel
theorem dL_law_1376 : decode cL_law 1376 = .ok (.iaload, 1) := by decide +kernel
theorem dL_law_1377 : decode cL_law 1377 = .ok (.ifCond .eq 7, 3) := by decide +kernel
theorem dL_law_1380 : decode cL_law 1380 = .ok (.iconst 1, 1) := by decide +kernel
theorem dL_law_1381 : decode cL_law 1381 = .ok (.goto 4, 3) := by decide +kernel
theorem dL_law_1384 : decode cL_law 1384 = .ok (.iconst 0, 1) := by decide +kernel
theorem dL_law_1385 : decode cL_law 1385 = .ok (.invokevirtual 113, 3) := by decide +kernel
theorem dL_law_1388 : decode cL_law 1388 = .ok (.if_icmp .eq 233, 3) := by decide +kernel
theorem dL_law_1391 : decode cL_law 1391 = .ok (.iconst 0, 1) := by decide +kernel
theorem dL_law_1392 : decode cL_law 1392 = .ok (.ireturn, 1) := by decide +kernel
theorem dL_law_1393 : decode cL_law 1393 = .ok (.aload_n 1, 1) := by decide +kernel
theorem dL_law_1394 : decode cL_law 1394 = .ok (.aload_n 0, 1) := by decide +kernel
theorem dL_law_1395 : decode cL_law 1395 = .ok (.iload_n 3, 1) := by decide +kernel
theorem dL_law_1396 : decode cL_law 1396 = .ok (.iconst 1, 1) := by decide +kernel
theorem dL_law_1397 : decode cL_law 1397 = .ok (.iadd, 1) := by decide +kernel
theorem dL_law_1398 : decode cL_law 1398 = .ok (.iaload, 1) := by decide +kernel
theorem dL_law_1399 : decode cL_law 1399 = .ok (.aload_n 0, 1) := by decide +kernel
theorem dL_law_1400 : decode cL_law 1400 = .ok (.iload_n 3, 1) := by decide +kernel
theorem dL_law_1401 : decode cL_law 1401 = .ok (.iconst 2, 1) := by decide +kernel
theorem dL_law_1402 : decode cL_law 1402 = .ok (.iadd, 1) := by decide +kernel
theorem dL_law_1403 : decode cL_law 1403 = .ok (.iaload, 1) := by decide +kernel
theorem dL_law_1404 : decode cL_law 1404 = .ok (.aload_n 0, 1) := by decide +kernel
theorem dL_law_1405 : decode cL_law 1405 = .ok (.iload_n 3, 1) := by decide +kernel
theorem dL_law_1406 : decode cL_law 1406 = .ok (.iconst 3, 1) := by decide +kernel
theorem dL_law_1407 : decode cL_law 1407 = .ok (.iadd, 1) := by decide +kernel
theorem dL_law_1408 : decode cL_law 1408 = .ok (.iaload, 1) := by decide +kernel
theorem dL_law_1409 : decode cL_law 1409 = .ok (.invokevirtual 114, 3) := by decide +kernel
theorem dL_law_1412 : decode cL_law 1412 = .ok (.aload_n 2, 1) := by decide +kernel
theorem dL_law_1413 : decode cL_law 1413 = .ok (.aload_n 0, 1) := by decide +kernel
theorem dL_law_1414 : decode cL_law 1414 = .ok (.iload_n 3, 1) := by decide +kernel
theorem dL_law_1415 : decode cL_law 1415 = .ok (.iconst 1, 1) := by decide +kernel
theorem dL_law_1416 : decode cL_law 1416 = .ok (.iadd, 1) := by decide +kernel
theorem dL_law_1417 : decode cL_law 1417 = .ok (.iaload, 1) := by decide +kernel
theorem dL_law_1418 : decode cL_law 1418 = .ok (.aload_n 0, 1) := by decide +kernel
theorem dL_law_1419 : decode cL_law 1419 = .ok (.iload_n 3, 1) := by decide +kernel
theorem dL_law_1420 : decode cL_law 1420 = .ok (.iconst 2, 1) := by decide +kernel
theorem dL_law_1421 : decode cL_law 1421 = .ok (.iadd, 1) := by decide +kernel
theorem dL_law_1422 : decode cL_law 1422 = .ok (.iaload, 1) := by decide +kernel
theorem dL_law_1423 : decode cL_law 1423 = .ok (.aload_n 0, 1) := by decide +kernel
theorem dL_law_1424 : decode cL_law 1424 = .ok (.iload_n 3, 1) := by decide +kernel
theorem dL_law_1425 : decode cL_law 1425 = .ok (.iconst 3, 1) := by decide +kernel
theorem dL_law_1426 : decode cL_law 1426 = .ok (.iadd, 1) := by decide +kernel
theorem dL_law_1427 : decode cL_law 1427 = .ok (.iaload, 1) := by decide +kernel
theorem dL_law_1428 : decode cL_law 1428 = .ok (.invokevirtual 117, 3) := by decide +kernel
theorem dL_law_1431 : decode cL_law 1431 = .ok (.if_icmp .eq 190, 3) := by decide +kernel
theorem dL_law_1434 : decode cL_law 1434 = .ok (.iconst 0, 1) := by decide +kernel
theorem dL_law_1435 : decode cL_law 1435 = .ok (.ireturn, 1) := by decide +kernel
theorem dL_law_1436 : decode cL_law 1436 = .ok (.aload_n 1, 1) := by decide +kernel
theorem dL_law_1437 : decode cL_law 1437 = .ok (.aload_n 0, 1) := by decide +kernel
theorem dL_law_1438 : decode cL_law 1438 = .ok (.iload_n 3, 1) := by decide +kernel
theorem dL_law_1439 : decode cL_law 1439 = .ok (.iconst 1, 1) := by decide +kernel
theorem dL_law_1440 : decode cL_law 1440 = .ok (.iadd, 1) := by decide +kernel
theorem dL_law_1441 : decode cL_law 1441 = .ok (.iaload, 1) := by decide +kernel
theorem dL_law_1442 : decode cL_law 1442 = .ok (.aload_n 0, 1) := by decide +kernel
theorem dL_law_1443 : decode cL_law 1443 = .ok (.iload_n 3, 1) := by decide +kernel
theorem dL_law_1444 : decode cL_law 1444 = .ok (.iconst 2, 1) := by decide +kernel
theorem dL_law_1445 : decode cL_law 1445 = .ok (.iadd, 1) := by decide +kernel
theorem dL_law_1446 : decode cL_law 1446 = .ok (.iaload, 1) := by decide +kernel
theorem dL_law_1447 : decode cL_law 1447 = .ok (.aload_n 0, 1) := by decide +kernel
theorem dL_law_1448 : decode cL_law 1448 = .ok (.iload_n 3, 1) := by decide +kernel
theorem dL_law_1449 : decode cL_law 1449 = .ok (.iconst 3, 1) := by decide +kernel
theorem dL_law_1450 : decode cL_law 1450 = .ok (.iadd, 1) := by decide +kernel
theorem dL_law_1451 : decode cL_law 1451 = .ok (.iaload, 1) := by decide +kernel
theorem dL_law_1452 : decode cL_law 1452 = .ok (.aload_n 0, 1) := by decide +kernel
theorem dL_law_1453 : decode cL_law 1453 = .ok (.iload_n 3, 1) := by decide +kernel
theorem dL_law_1454 : decode cL_law 1454 = .ok (.iconst 4, 1) := by decide +kernel
theorem dL_law_1455 : decode cL_law 1455 = .ok (.iadd, 1) := by decide +kernel
theorem dL_law_1456 : decode cL_law 1456 = .ok (.iaload, 1) := by decide +kernel
theorem dL_law_1457 : decode cL_law 1457 = .ok (.aload_n 0, 1) := by decide +kernel
theorem dL_law_1458 : decode cL_law 1458 = .ok (.iload_n 3, 1) := by decide +kernel
theorem dL_law_1459 : decode cL_law 1459 = .ok (.iconst 5, 1) := by decide +kernel
theorem dL_law_1460 : decode cL_law 1460 = .ok (.iadd, 1) := by decide +kernel
theorem dL_law_1461 : decode cL_law 1461 = .ok (.iaload, 1) := by decide +kernel
theorem dL_law_1462 : decode cL_law 1462 = .ok (.invokevirtual 118, 3) := by decide +kernel
theorem dL_law_1465 : decode cL_law 1465 = .ok (.aload_n 2, 1) := by decide +kernel
theorem dL_law_1466 : decode cL_law 1466 = .ok (.aload_n 0, 1) := by decide +kernel
theorem dL_law_1467 : decode cL_law 1467 = .ok (.iload_n 3, 1) := by decide +kernel
theorem dL_law_1468 : decode cL_law 1468 = .ok (.iconst 1, 1) := by decide +kernel
theorem dL_law_1469 : decode cL_law 1469 = .ok (.iadd, 1) := by decide +kernel
theorem dL_law_1470 : decode cL_law 1470 = .ok (.iaload, 1) := by decide +kernel
theorem dL_law_1471 : decode cL_law 1471 = .ok (.aload_n 0, 1) := by decide +kernel
theorem dL_law_1472 : decode cL_law 1472 = .ok (.iload_n 3, 1) := by decide +kernel
theorem dL_law_1473 : decode cL_law 1473 = .ok (.iconst 2, 1) := by decide +kernel
theorem dL_law_1474 : decode cL_law 1474 = .ok (.iadd, 1) := by decide +kernel
theorem dL_law_1475 : decode cL_law 1475 = .ok (.iaload, 1) := by decide +kernel
theorem dL_law_1476 : decode cL_law 1476 = .ok (.aload_n 0, 1) := by decide +kernel
theorem dL_law_1477 : decode cL_law 1477 = .ok (.iload_n 3, 1) := by decide +kernel
theorem dL_law_1478 : decode cL_law 1478 = .ok (.iconst 3, 1) := by decide +kernel
theorem dL_law_1479 : decode cL_law 1479 = .ok (.iadd, 1) := by decide +kernel
theorem dL_law_1480 : decode cL_law 1480 = .ok (.iaload, 1) := by decide +kernel
theorem dL_law_1481 : decode cL_law 1481 = .ok (.aload_n 0, 1) := by decide +kernel
theorem dL_law_1482 : decode cL_law 1482 = .ok (.iload_n 3, 1) := by decide +kernel
theorem dL_law_1483 : decode cL_law 1483 = .ok (.iconst 4, 1) := by decide +kernel
theorem dL_law_1484 : decode cL_law 1484 = .ok (.iadd, 1) := by decide +kernel
theorem dL_law_1485 : decode cL_law 1485 = .ok (.iaload, 1) := by decide +kernel
theorem dL_law_1486 : decode cL_law 1486 = .ok (.aload_n 0, 1) := by decide +kernel
theorem dL_law_1487 : decode cL_law 1487 = .ok (.iload_n 3, 1) := by decide +kernel
theorem dL_law_1488 : decode cL_law 1488 = .ok (.iconst 5, 1) := by decide +kernel
theorem dL_law_1489 : decode cL_law 1489 = .ok (.iadd, 1) := by decide +kernel
theorem dL_law_1490 : decode cL_law 1490 = .ok (.iaload, 1) := by decide +kernel
theorem dL_law_1491 : decode cL_law 1491 = .ok (.invokevirtual 121, 3) := by decide +kernel
theorem dL_law_1494 : decode cL_law 1494 = .ok (.if_icmp .eq 127, 3) := by decide +kernel
theorem dL_law_1497 : decode cL_law 1497 = .ok (.iconst 0, 1) := by decide +kernel
theorem dL_law_1498 : decode cL_law 1498 = .ok (.ireturn, 1) := by decide +kernel
theorem dL_law_1499 : decode cL_law 1499 = .ok (.aload_n 1, 1) := by decide +kernel
theorem dL_law_1500 : decode cL_law 1500 = .ok (.aload_n 0, 1) := by decide +kernel
theorem dL_law_1501 : decode cL_law 1501 = .ok (.iload_n 3, 1) := by decide +kernel
theorem dL_law_1502 : decode cL_law 1502 = .ok (.iconst 1, 1) := by decide +kernel
theorem dL_law_1503 : decode cL_law 1503 = .ok (.iadd, 1) := by decide +kernel
theorem dL_law_1504 : decode cL_law 1504 = .ok (.iaload, 1) := by decide +kernel
theorem dL_law_1505 : decode cL_law 1505 = .ok (.aload_n 0, 1) := by decide +kernel
theorem dL_law_1506 : decode cL_law 1506 = .ok (.iload_n 3, 1) := by decide +kernel
theorem dL_law_1507 : decode cL_law 1507 = .ok (.iconst 2, 1) := by decide +kernel
theorem dL_law_1508 : decode cL_law 1508 = .ok (.iadd, 1) := by decide +kernel
theorem dL_law_1509 : decode cL_law 1509 = .ok (.iaload, 1) := by decide +kernel
theorem dL_law_1510 : decode cL_law 1510 = .ok (.aload_n 0, 1) := by decide +kernel
theorem dL_law_1511 : decode cL_law 1511 = .ok (.iload_n 3, 1) := by decide +kernel
theorem dL_law_1512 : decode cL_law 1512 = .ok (.iconst 3, 1) := by decide +kernel
theorem dL_law_1513 : decode cL_law 1513 = .ok (.iadd, 1) := by decide +kernel
theorem dL_law_1514 : decode cL_law 1514 = .ok (.iaload, 1) := by decide +kernel
theorem dL_law_1515 : decode cL_law 1515 = .ok (.aload_n 0, 1) := by decide +kernel
theorem dL_law_1516 : decode cL_law 1516 = .ok (.iload_n 3, 1) := by decide +kernel
theorem dL_law_1517 : decode cL_law 1517 = .ok (.iconst 4, 1) := by decide +kernel
theorem dL_law_1518 : decode cL_law 1518 = .ok (.iadd, 1) := by decide +kernel
theorem dL_law_1519 : decode cL_law 1519 = .ok (.iaload, 1) := by decide +kernel
theorem dL_law_1520 : decode cL_law 1520 = .ok (.invokevirtual 122, 3) := by decide +kernel
theorem dL_law_1523 : decode cL_law 1523 = .ok (.aload_n 2, 1) := by decide +kernel
theorem dL_law_1524 : decode cL_law 1524 = .ok (.aload_n 0, 1) := by decide +kernel
theorem dL_law_1525 : decode cL_law 1525 = .ok (.iload_n 3, 1) := by decide +kernel
theorem dL_law_1526 : decode cL_law 1526 = .ok (.iconst 1, 1) := by decide +kernel
theorem dL_law_1527 : decode cL_law 1527 = .ok (.iadd, 1) := by decide +kernel
theorem dL_law_1528 : decode cL_law 1528 = .ok (.iaload, 1) := by decide +kernel
theorem dL_law_1529 : decode cL_law 1529 = .ok (.aload_n 0, 1) := by decide +kernel
theorem dL_law_1530 : decode cL_law 1530 = .ok (.iload_n 3, 1) := by decide +kernel
theorem dL_law_1531 : decode cL_law 1531 = .ok (.iconst 2, 1) := by decide +kernel
theorem dL_law_1532 : decode cL_law 1532 = .ok (.iadd, 1) := by decide +kernel
theorem dL_law_1533 : decode cL_law 1533 = .ok (.iaload, 1) := by decide +kernel
theorem dL_law_1534 : decode cL_law 1534 = .ok (.aload_n 0, 1) := by decide +kernel
theorem dL_law_1535 : decode cL_law 1535 = .ok (.iload_n 3, 1) := by decide +kernel
theorem dL_law_1536 : decode cL_law 1536 = .ok (.iconst 3, 1) := by decide +kernel
theorem dL_law_1537 : decode cL_law 1537 = .ok (.iadd, 1) := by decide +kernel
theorem dL_law_1538 : decode cL_law 1538 = .ok (.iaload, 1) := by decide +kernel
theorem dL_law_1539 : decode cL_law 1539 = .ok (.aload_n 0, 1) := by decide +kernel
theorem dL_law_1540 : decode cL_law 1540 = .ok (.iload_n 3, 1) := by decide +kernel
theorem dL_law_1541 : decode cL_law 1541 = .ok (.iconst 4, 1) := by decide +kernel
theorem dL_law_1542 : decode cL_law 1542 = .ok (.iadd, 1) := by decide +kernel
theorem dL_law_1543 : decode cL_law 1543 = .ok (.iaload, 1) := by decide +kernel
theorem dL_law_1544 : decode cL_law 1544 = .ok (.invokevirtual 126, 3) := by decide +kernel
theorem dL_law_1547 : decode cL_law 1547 = .ok (.if_icmp .eq 74, 3) := by decide +kernel
theorem dL_law_1550 : decode cL_law 1550 = .ok (.iconst 0, 1) := by decide +kernel
theorem dL_law_1551 : decode cL_law 1551 = .ok (.ireturn, 1) := by decide +kernel
theorem dL_law_1552 : decode cL_law 1552 = .ok (.aload_n 1, 1) := by decide +kernel
theorem dL_law_1553 : decode cL_law 1553 = .ok (.aload_n 0, 1) := by decide +kernel
theorem dL_law_1554 : decode cL_law 1554 = .ok (.iload_n 3, 1) := by decide +kernel
theorem dL_law_1555 : decode cL_law 1555 = .ok (.iconst 1, 1) := by decide +kernel
theorem dL_law_1556 : decode cL_law 1556 = .ok (.iadd, 1) := by decide +kernel
theorem dL_law_1557 : decode cL_law 1557 = .ok (.iaload, 1) := by decide +kernel
theorem dL_law_1558 : decode cL_law 1558 = .ok (.invokevirtual 127, 3) := by decide +kernel
theorem dL_law_1561 : decode cL_law 1561 = .ok (.aload_n 2, 1) := by decide +kernel
theorem dL_law_1562 : decode cL_law 1562 = .ok (.aload_n 0, 1) := by decide +kernel
theorem dL_law_1563 : decode cL_law 1563 = .ok (.iload_n 3, 1) := by decide +kernel
theorem dL_law_1564 : decode cL_law 1564 = .ok (.iconst 1, 1) := by decide +kernel
theorem dL_law_1565 : decode cL_law 1565 = .ok (.iadd, 1) := by decide +kernel
theorem dL_law_1566 : decode cL_law 1566 = .ok (.iaload, 1) := by decide +kernel
theorem dL_law_1567 : decode cL_law 1567 = .ok (.invokevirtual 130, 3) := by decide +kernel
theorem dL_law_1570 : decode cL_law 1570 = .ok (.if_icmp .eq 51, 3) := by decide +kernel
theorem dL_law_1573 : decode cL_law 1573 = .ok (.iconst 0, 1) := by decide +kernel
theorem dL_law_1574 : decode cL_law 1574 = .ok (.ireturn, 1) := by decide +kernel
theorem dL_law_1575 : decode cL_law 1575 = .ok (.aload_n 1, 1) := by decide +kernel
theorem dL_law_1576 : decode cL_law 1576 = .ok (.aload_n 0, 1) := by decide +kernel
theorem dL_law_1577 : decode cL_law 1577 = .ok (.iload_n 3, 1) := by decide +kernel
theorem dL_law_1578 : decode cL_law 1578 = .ok (.iconst 1, 1) := by decide +kernel
theorem dL_law_1579 : decode cL_law 1579 = .ok (.iadd, 1) := by decide +kernel
theorem dL_law_1580 : decode cL_law 1580 = .ok (.iaload, 1) := by decide +kernel
theorem dL_law_1581 : decode cL_law 1581 = .ok (.invokevirtual 131, 3) := by decide +kernel
theorem dL_law_1584 : decode cL_law 1584 = .ok (.aload_n 2, 1) := by decide +kernel
theorem dL_law_1585 : decode cL_law 1585 = .ok (.aload_n 0, 1) := by decide +kernel
theorem dL_law_1586 : decode cL_law 1586 = .ok (.iload_n 3, 1) := by decide +kernel
theorem dL_law_1587 : decode cL_law 1587 = .ok (.iconst 1, 1) := by decide +kernel
theorem dL_law_1588 : decode cL_law 1588 = .ok (.iadd, 1) := by decide +kernel
theorem dL_law_1589 : decode cL_law 1589 = .ok (.iaload, 1) := by decide +kernel
theorem dL_law_1590 : decode cL_law 1590 = .ok (.invokevirtual 135, 3) := by decide +kernel
theorem dL_law_1593 : decode cL_law 1593 = .ok (.if_icmp .eq 28, 3) := by decide +kernel
theorem dL_law_1596 : decode cL_law 1596 = .ok (.iconst 0, 1) := by decide +kernel
theorem dL_law_1597 : decode cL_law 1597 = .ok (.ireturn, 1) := by decide +kernel
theorem dL_law_1598 : decode cL_law 1598 = .ok (.aload_n 1, 1) := by decide +kernel
theorem dL_law_1599 : decode cL_law 1599 = .ok (.aload_n 0, 1) := by decide +kernel
theorem dL_law_1600 : decode cL_law 1600 = .ok (.iload_n 3, 1) := by decide +kernel
theorem dL_law_1601 : decode cL_law 1601 = .ok (.iconst 1, 1) := by decide +kernel
theorem dL_law_1602 : decode cL_law 1602 = .ok (.iadd, 1) := by decide +kernel
theorem dL_law_1603 : decode cL_law 1603 = .ok (.iaload, 1) := by decide +kernel
theorem dL_law_1604 : decode cL_law 1604 = .ok (.invokevirtual 136, 3) := by decide +kernel
theorem dL_law_1607 : decode cL_law 1607 = .ok (.aload_n 2, 1) := by decide +kernel
theorem dL_law_1608 : decode cL_law 1608 = .ok (.aload_n 0, 1) := by decide +kernel
theorem dL_law_1609 : decode cL_law 1609 = .ok (.iload_n 3, 1) := by decide +kernel
theorem dL_law_1610 : decode cL_law 1610 = .ok (.iconst 1, 1) := by decide +kernel
theorem dL_law_1611 : decode cL_law 1611 = .ok (.iadd, 1) := by decide +kernel
theorem dL_law_1612 : decode cL_law 1612 = .ok (.iaload, 1) := by decide +kernel
theorem dL_law_1613 : decode cL_law 1613 = .ok (.invokevirtual 139, 3) := by decide +kernel
theorem dL_law_1616 : decode cL_law 1616 = .ok (.if_icmp .eq 5, 3) := by decide +kernel
theorem dL_law_1619 : decode cL_law 1619 = .ok (.iconst 0, 1) := by decide +kernel
theorem dL_law_1620 : decode cL_law 1620 = .ok (.ireturn, 1) := by decide +kernel
theorem dL_law_1621 : decode cL_law 1621 = .ok (.iinc 3 8, 3) := by decide +kernel
theorem dL_law_1624 : decode cL_law 1624 = .ok (.goto (-1606), 3) := by decide +kernel
theorem dL_law_1627 : decode cL_law 1627 = .ok (.iconst 1, 1) := by decide +kernel
theorem dL_law_1628 : decode cL_law 1628 = .ok (.ireturn, 1) := by decide +kernel
theorem wc_lawret {p : Program} {l : Launch} {e : Env} {s : State} {m : MethodId} {below : List Frame} {meth : Method} {c : Code} {b : Nat} {G : EG} {rc rs pc : Nat} {ls : List (Option EV)} {w : EW} (K : wc_C p s m #[Value.ref b] meth c G RL cL_law 4 0) (hr : meth.sig.returnType = ret) (hd : decode cL_law pc = .ok (.ireturn, 1)) : WW p l e room_1 s m #[Value.ref b] below meth c (lw_Z below #[Value.ref b] s) G 4 0 0 rc rs pc ls [eI 1] w := by
  intro H locs arr h1 h2 h3 h4 hP hS hL
  have e3 : w.length + rc = 600000 := by have q : w.length + rc = 0 + 600000 := h3; omega
  have e4 : wc_SL w + rs = 7302249 := by have q : wc_SL w + rs = 0 + 7302249 := h4; omega
  have hz : gZ G = s.heap.size := by have q := K.2.2.2.2.2.2.1; omega
  refine va_forget (fun q hq => by have := hS.2.2 q hq; rw [← hz]; exact this) ?_
  refine W.widen (k := 600000) (n := 7302249) (by omega) (by omega) ?_
  exact lw_ret K.1 K.2.1 hr K.2.2.2.2.2.2.2 hd
theorem wc_end_eq (a : Int32) : (if a < 0 then -2 else if 6 ≤ a then -2 else (0 : Int32)) = if a < 0 then -2 else if 5 < a then -2 else 0 := by
  by_cases h : a < 0
  · rw [if_pos h, if_pos h]
  · rw [if_neg h, if_neg h]
    have q : 6 ≤ a ↔ 5 < a := by
      rw [Int32.le_iff_toInt_le, Int32.lt_iff_toInt_lt]
      show (6 : Int) ≤ _ ↔ (5 : Int) < _
      omega
    by_cases h2 : 6 ≤ a
    · rw [if_pos h2, if_pos (q.mp h2)]
    · rw [if_neg h2, if_neg (fun z => h2 (q.mpr z))]
theorem wc_cases6 {a : Int32} (h : ¬ a < 0) (h2 : ¬ 5 < a) : a = 0 ∨ a = 1 ∨ a = 2 ∨ a = 3 ∨ a = 4 ∨ a = 5 := by
  have h1 := Int32.le_iff_toInt_le.mp (Int32.not_lt.mp h)
  have h3 := Int32.le_iff_toInt_le.mp (Int32.not_lt.mp h2)
  have e0 : (0 : Int32).toInt = 0 := rfl
  have e5 : (5 : Int32).toInt = 5 := rfl
  rw [e0] at h1; rw [e5] at h3
  have : ∀ k : Int32, a.toInt = k.toInt → a = k := fun k q => Int32.toInt_inj.mp q
  rcases (by omega : a.toInt = 0 ∨ a.toInt = 1 ∨ a.toInt = 2 ∨ a.toInt = 3 ∨ a.toInt = 4 ∨ a.toInt = 5) with q | q | q | q | q | q
  · exact Or.inl (this 0 q)
  · exact Or.inr (Or.inl (this 1 q))
  · exact Or.inr (Or.inr (Or.inl (this 2 q)))
  · exact Or.inr (Or.inr (Or.inr (Or.inl (this 3 q))))
  · exact Or.inr (Or.inr (Or.inr (Or.inr (Or.inl (this 4 q)))))
  · exact Or.inr (Or.inr (Or.inr (Or.inr (Or.inr (this 5 q)))))
theorem wc_cases3 {a : Int32} (h : ¬ a < 0) (h2 : ¬ 2 < a) : a = 0 ∨ a = 1 ∨ a = 2 := by
  rcases wc_cases6 h (fun q => h2 (Int32.lt_trans (by decide) q)) with q | q | q | q | q | q
  · exact Or.inl q
  · exact Or.inr (Or.inl q)
  · exact Or.inr (Or.inr q)
  · exact absurd (by rw [q]; decide) h2
  · exact absurd (by rw [q]; decide) h2
  · exact absurd (by rw [q]; decide) h2
theorem wc_le5 {a : Int32} : 6 ≤ a ↔ 5 < a := by
  rw [Int32.le_iff_toInt_le, Int32.lt_iff_toInt_lt]
  show (6 : Int) ≤ _ ↔ (5 : Int) < _
  omega
theorem wc_le2 {a : Int32} : 3 ≤ a ↔ 2 < a := by
  rw [Int32.le_iff_toInt_le, Int32.lt_iff_toInt_lt]
  show (3 : Int) ≤ _ ↔ (2 : Int) < _
  omega
theorem wc_law_fin {p : Program} {l : Launch} {e : Env} {s : State} {m : MethodId} {below : List Frame} {meth : Method} {c : Code} {b : Nat} {G : EG} (K : wc_C p s m #[Value.ref b] meth c G RL cL_law 4 0) (hr : meth.sig.returnType = ret) (hL8 : gL G 2 = 8) (rc rs : Nat) (w : EW) : WW p l e room_1 s m #[Value.ref b] below meth c (lw_Z below #[Value.ref b] s) G 4 0 0 rc rs 1621 [some (eK 2), some (eR 0), some (eR 64), some (eI 0)] [] w := by
  refine ww_iinc (ls2 := [some (eK 2), some (eR (0)), some (eR (64)), some (eI (8))]) K dL_law_1621 (by decide) rfl rfl ?_
  refine ww_goto (tgt := 18) K dL_law_1624 rfl ?_
  refine ww_iload_n K dL_law_18 rfl ?_
  refine ww_aload_nK K dL_law_19 rfl ?_
  refine ww_alenK K dL_law_20 (by decide) ?_
  rw [hL8, show Int32.ofNat 8 = 8 from rfl]
  refine ww_bipush (v := 8) K dL_law_21 rfl ?_
  refine ww_isub K dL_law_23 ?_
  rw [show ((8 : Int32) - 8) = 0 from rfl]
  refine ww_icmp_gt (tgt := 1627) K dL_law_24 rfl (fun _ => ?_) (fun cc_ => absurd cc_ (by decide))
  refine ww_iconst (v := 1) K dL_law_1627 rfl ?_
  exact wc_lawret K hr dL_law_1628
set_option maxRecDepth 100000 in
set_option maxHeartbeats 8000000 in
theorem wc_law_feed {p : Program} {l : Launch} {e : Env} {s : State} {m : MethodId} {below : List Frame} {meth : Method} {c : Code} {b : Nat} {G : EG} (K : wc_C p s m #[Value.ref b] meth c G RL cL_law 4 0) (hr : meth.sig.returnType = ret) (hL8 : gL G 2 = 8) {w : EW} (hlen : w.length = 72) (h0 : w[0]? = some (cO 6 [eR (1), eR (42), eR (43), eR (56), eR (60), eR (61), eR (62), eR (63)])) (h1 : w[1]? = some (cO 5 [eR (2), eI 0, eI 0, eI ((-1)), eR (3), eR (4), eR (5)])) (h2 : w[2]? = some (cI 0 600 (fun _ => 0))) (h3 : w[3]? = some (cI 0 6 (fun _ => 0))) (h4 : w[4]? = some (cQ 2 2 (va_up (va_up (fun _ => none) 0 (some 6)) 1 (some 14)))) (h5 : w[5]? = some (cQ 3 10 (va_up (va_up (va_up (va_up (va_up (va_up (va_up (va_up (va_up (va_up (fun _ => none) 0 (some 22)) 1 (some 24)) 2 (some 26)) 3 (some 28)) 4 (some 30)) 5 (some 32)) 6 (some 34)) 7 (some 36)) 8 (some 38)) 9 (some 40)))) (h6 : w[6]? = some (cO 2 [eI 0, eR (7), eR (8), eR (9), eR (10), eR (11), eR (12), eR (13), eI 0, eI 0, eI 0, eI 0, eI 0, eI 0])) (h7 : w[7]? = some (cI 0 6 (fun _ => 0))) (h8 : w[8]? = some (cI 0 6 (fun _ => 0))) (h9 : w[9]? = some (cI 0 6 (fun _ => 0))) (h10 : w[10]? = some (cI 0 6 (fun _ => 0))) (h11 : w[11]? = some (cI 0 72 (fun _ => 0))) (h12 : w[12]? = some (cI 0 6 (fun _ => 0))) (h13 : w[13]? = some (cI 0 3 (fun _ => 0))) (h14 : w[14]? = some (cO 2 [eI 0, eR (15), eR (16), eR (17), eR (18), eR (19), eR (20), eR (21), eI 0, eI 0, eI 0, eI 0, eI 0, eI 0])) (h15 : w[15]? = some (cI 0 6 (fun _ => 0))) (h16 : w[16]? = some (cI 0 6 (fun _ => 0))) (h17 : w[17]? = some (cI 0 6 (fun _ => 0))) (h18 : w[18]? = some (cI 0 6 (fun _ => 0))) (h19 : w[19]? = some (cI 0 72 (fun _ => 0))) (h20 : w[20]? = some (cI 0 6 (fun _ => 0))) (h21 : w[21]? = some (cI 0 3 (fun _ => 0))) (h22 : w[22]? = some (cO 3 [eI 0, eR (23)])) (h23 : w[23]? = some (cI 0 200 (fun _ => 0))) (h24 : w[24]? = some (cO 3 [eI 0, eR (25)])) (h25 : w[25]? = some (cI 0 200 (fun _ => 0))) (h26 : w[26]? = some (cO 3 [eI 0, eR (27)])) (h27 : w[27]? = some (cI 0 200 (fun _ => 0))) (h28 : w[28]? = some (cO 3 [eI 0, eR (29)])) (h29 : w[29]? = some (cI 0 200 (fun _ => 0))) (h30 : w[30]? = some (cO 3 [eI 0, eR (31)])) (h31 : w[31]? = some (cI 0 200 (fun _ => 0))) (h32 : w[32]? = some (cO 3 [eI 0, eR (33)])) (h33 : w[33]? = some (cI 0 200 (fun _ => 0))) (h34 : w[34]? = some (cO 3 [eI 0, eR (35)])) (h35 : w[35]? = some (cI 0 200 (fun _ => 0))) (h36 : w[36]? = some (cO 3 [eI 0, eR (37)])) (h37 : w[37]? = some (cI 0 200 (fun _ => 0))) (h38 : w[38]? = some (cO 3 [eI 0, eR (39)])) (h39 : w[39]? = some (cI 0 200 (fun _ => 0))) (h40 : w[40]? = some (cO 3 [eI 0, eR (41)])) (h41 : w[41]? = some (cI 0 200 (fun _ => 0))) (h42 : w[42]? = some (cQ 4 3 (fun _ => none))) (h43 : w[43]? = some (cO 1 [eR (44), eR (52), eI 0, eI 0, eR (54), eR (55), eI 0, eI 0, eI 0, eI 0, eI 0, eI 0])) (h44 : w[44]? = some (cO 2 [eI 0, eR (45), eR (46), eR (47), eR (48), eR (49), eR (50), eR (51), eI 0, eI 0, eI 0, eI 0, eI 0, eI 0])) (h45 : w[45]? = some (cI 0 6 (fun _ => 0))) (h46 : w[46]? = some (cI 0 6 (fun _ => 0))) (h47 : w[47]? = some (cI 0 6 (fun _ => 0))) (h48 : w[48]? = some (cI 0 6 (fun _ => 0))) (h49 : w[49]? = some (cI 0 72 (fun _ => 0))) (h50 : w[50]? = some (cI 0 6 (fun _ => 0))) (h51 : w[51]? = some (cI 0 3 (fun _ => 0))) (h52 : w[52]? = some (cO 3 [eI 0, eR (53)])) (h53 : w[53]? = some (cI 0 200 (fun _ => 0))) (h54 : w[54]? = some (cI 0 600 (fun _ => 0))) (h55 : w[55]? = some (cI 0 5 (fun _ => 0))) (h56 : w[56]? = some (cO 0 [eR (57), eI 0, eI 0, eI 0, eR (58), eR (59), eI 0, eI 0, eI 0, eI 0, eI 0, eI 0, eI 0])) (h57 : w[57]? = some (cO 4 [eI 0, eI 0, eI 0])) (h58 : w[58]? = some (cI 0 6 (fun _ => 0))) (h59 : w[59]? = some (cI 0 3 (fun _ => 0))) (h60 : w[60]? = some (cO 4 [eI 0, eI 0, eI 0])) (h61 : w[61]? = some (cI 0 40 (fun _ => 0))) (h62 : w[62]? = some (cI 0 216 (fun _ => 0))) (h63 : w[63]? = some (cI 0 1000 (fun _ => 0))) (h64 : w[64]? = some (cO 7 [eR (65), eR (66), eI 0, eI 0, eI 0, eI 0, eI 0, eI 0, eI 0, eI 0, eR (67), eI 0, eI 0, eI 0, eI 0, eI 0, eI 0, eI 0, eI 0, eI 0, eI 0, eI 0, eI 0, eI 0, eI 0, eI 0, eI 0, eR (68), eR (69), eI 0, eI 0, eR (70), eR (71), eI 0, eI 0])) (h65 : w[65]? = some (cI 0 5768 (upd (fun _ => 0) 8 (-1)))) (h66 : w[66]? = some (cI 1 3 (fun _ => 0))) (h67 : w[67]? = some (cI 0 201 (fun _ => 0))) (h68 : w[68]? = some (cI 0 3 (fun _ => 0))) (h69 : w[69]? = some (cI 0 6 (fun _ => 0))) (h70 : w[70]? = some (cI 0 1791 (fun _ => 0))) (h71 : w[71]? = some (cI 1 1000 (fun _ => 0))) : WW p l e room_1 s m #[Value.ref b] below meth c (lw_Z below #[Value.ref b] s) G 4 0 0 599928 7288326 164 [some (eK 2), some (eR 0), some (eR 64), some (eI 0)] [] w := by
  refine ww_aload_n K dL_law_164 rfl ?_
  refine ww_aload_nK K dL_law_165 rfl ?_
  refine ww_iload_n K dL_law_166 rfl ?_
  refine ww_iconst (v := 1) K dL_law_167 rfl ?_
  refine ww_iadd K dL_law_168 ?_
  rw [show ((0 : Int32) + 1) = 1 from rfl]
  refine ww_ialdK K dL_law_169 (by decide) (by rw [hL8]; exact wc_vin (by decide)) ?_
  refine ww_aload_nK K dL_law_170 rfl ?_
  refine ww_iload_n K dL_law_171 rfl ?_
  refine ww_iconst (v := 2) K dL_law_172 rfl ?_
  refine ww_iadd K dL_law_173 ?_
  rw [show ((0 : Int32) + 2) = 2 from rfl]
  refine ww_ialdK K dL_law_174 (by decide) (by rw [hL8]; exact wc_vin (by decide)) ?_
  refine ww_aload_nK K dL_law_175 rfl ?_
  refine ww_iload_n K dL_law_176 rfl ?_
  refine ww_iconst (v := 3) K dL_law_177 rfl ?_
  refine ww_iadd K dL_law_178 ?_
  rw [show ((0 : Int32) + 3) = 3 from rfl]
  refine ww_ialdK K dL_law_179 (by decide) (by rw [hL8]; exact wc_vin (by decide)) ?_
  refine ww_aload_nK K dL_law_180 rfl ?_
  refine ww_iload_n K dL_law_181 rfl ?_
  refine ww_iconst (v := 4) K dL_law_182 rfl ?_
  refine ww_iadd K dL_law_183 ?_
  rw [show ((0 : Int32) + 4) = 4 from rfl]
  refine ww_ialdK K dL_law_184 (by decide) (by rw [hL8]; exact wc_vin (by decide)) ?_
  refine ww_aload_nK K dL_law_185 rfl ?_
  refine ww_iload_n K dL_law_186 rfl ?_
  refine ww_iconst (v := 5) K dL_law_187 rfl ?_
  refine ww_iadd K dL_law_188 ?_
  rw [show ((0 : Int32) + 5) = 5 from rfl]
  refine ww_ialdK K dL_law_189 (by decide) (by rw [hL8]; exact wc_vin (by decide)) ?_
  refine ww_xV K dL_law_190 lc_L_13 h0 ⟨_, rfl, rfl⟩ (ct_X6_feed G l (a := _) (b := _) (c := _) (d := _) (f := _) h0 h1 h2) rfl ⟨Nat.le_of_ble_eq_true rfl, Nat.le_of_ble_eq_true rfl⟩ (Nat.le_of_ble_eq_true rfl) (fun x1 w1 hq1 hl1 => ?_)
  have h64 := hq1.2.keep h64 (by decide)
  have h65 := hq1.2.keep h65 (by decide)
  refine ww_aload_n K dL_law_193 rfl ?_
  refine ww_aload_nK K dL_law_194 rfl ?_
  refine ww_iload_n K dL_law_195 rfl ?_
  refine ww_iconst (v := 1) K dL_law_196 rfl ?_
  refine ww_iadd K dL_law_197 ?_
  rw [show ((0 : Int32) + 1) = 1 from rfl]
  refine ww_ialdK K dL_law_198 (by decide) (by rw [hL8]; exact wc_vin (by decide)) ?_
  refine ww_aload_nK K dL_law_199 rfl ?_
  refine ww_iload_n K dL_law_200 rfl ?_
  refine ww_iconst (v := 2) K dL_law_201 rfl ?_
  refine ww_iadd K dL_law_202 ?_
  rw [show ((0 : Int32) + 2) = 2 from rfl]
  refine ww_ialdK K dL_law_203 (by decide) (by rw [hL8]; exact wc_vin (by decide)) ?_
  refine ww_aload_nK K dL_law_204 rfl ?_
  refine ww_iload_n K dL_law_205 rfl ?_
  refine ww_iconst (v := 3) K dL_law_206 rfl ?_
  refine ww_iadd K dL_law_207 ?_
  rw [show ((0 : Int32) + 3) = 3 from rfl]
  refine ww_ialdK K dL_law_208 (by decide) (by rw [hL8]; exact wc_vin (by decide)) ?_
  refine ww_aload_nK K dL_law_209 rfl ?_
  refine ww_iload_n K dL_law_210 rfl ?_
  refine ww_iconst (v := 4) K dL_law_211 rfl ?_
  refine ww_iadd K dL_law_212 ?_
  rw [show ((0 : Int32) + 4) = 4 from rfl]
  refine ww_ialdK K dL_law_213 (by decide) (by rw [hL8]; exact wc_vin (by decide)) ?_
  refine ww_aload_nK K dL_law_214 rfl ?_
  refine ww_iload_n K dL_law_215 rfl ?_
  refine ww_iconst (v := 5) K dL_law_216 rfl ?_
  refine ww_iadd K dL_law_217 ?_
  rw [show ((0 : Int32) + 5) = 5 from rfl]
  refine ww_ialdK K dL_law_218 (by decide) (by rw [hL8]; exact wc_vin (by decide)) ?_
  refine ww_xV K dL_law_219 lc_L_17 h64 ⟨_, rfl, rfl⟩ (ct_X7_feed G l (a := _) (b := _) (c := _) (d := _) (f := _) h64 h65) rfl ⟨Nat.le_of_ble_eq_true rfl, Nat.le_of_ble_eq_true rfl⟩ (Nat.le_of_ble_eq_true rfl) (fun x2 w2 hq2 hl2 => ?_)
  refine ww_icmp_eq (tgt := 1621) K dL_law_222 rfl (fun _ => ?_) (fun cc_ => absurd (hq1.1.trans hq2.1.symm) cc_)
  exact wc_law_fin K hr hL8 _ _ _
set_option maxRecDepth 100000 in
set_option maxHeartbeats 8000000 in
theorem wc_law_end {p : Program} {l : Launch} {e : Env} {s : State} {m : MethodId} {below : List Frame} {meth : Method} {c : Code} {b : Nat} {G : EG} (K : wc_C p s m #[Value.ref b] meth c G RL cL_law 4 0) (hr : meth.sig.returnType = ret) (hL8 : gL G 2 = 8) {w : EW} (hlen : w.length = 72) (h0 : w[0]? = some (cO 6 [eR (1), eR (42), eR (43), eR (56), eR (60), eR (61), eR (62), eR (63)])) (h1 : w[1]? = some (cO 5 [eR (2), eI 0, eI 0, eI ((-1)), eR (3), eR (4), eR (5)])) (h2 : w[2]? = some (cI 0 600 (fun _ => 0))) (h3 : w[3]? = some (cI 0 6 (fun _ => 0))) (h4 : w[4]? = some (cQ 2 2 (va_up (va_up (fun _ => none) 0 (some 6)) 1 (some 14)))) (h5 : w[5]? = some (cQ 3 10 (va_up (va_up (va_up (va_up (va_up (va_up (va_up (va_up (va_up (va_up (fun _ => none) 0 (some 22)) 1 (some 24)) 2 (some 26)) 3 (some 28)) 4 (some 30)) 5 (some 32)) 6 (some 34)) 7 (some 36)) 8 (some 38)) 9 (some 40)))) (h6 : w[6]? = some (cO 2 [eI 0, eR (7), eR (8), eR (9), eR (10), eR (11), eR (12), eR (13), eI 0, eI 0, eI 0, eI 0, eI 0, eI 0])) (h7 : w[7]? = some (cI 0 6 (fun _ => 0))) (h8 : w[8]? = some (cI 0 6 (fun _ => 0))) (h9 : w[9]? = some (cI 0 6 (fun _ => 0))) (h10 : w[10]? = some (cI 0 6 (fun _ => 0))) (h11 : w[11]? = some (cI 0 72 (fun _ => 0))) (h12 : w[12]? = some (cI 0 6 (fun _ => 0))) (h13 : w[13]? = some (cI 0 3 (fun _ => 0))) (h14 : w[14]? = some (cO 2 [eI 0, eR (15), eR (16), eR (17), eR (18), eR (19), eR (20), eR (21), eI 0, eI 0, eI 0, eI 0, eI 0, eI 0])) (h15 : w[15]? = some (cI 0 6 (fun _ => 0))) (h16 : w[16]? = some (cI 0 6 (fun _ => 0))) (h17 : w[17]? = some (cI 0 6 (fun _ => 0))) (h18 : w[18]? = some (cI 0 6 (fun _ => 0))) (h19 : w[19]? = some (cI 0 72 (fun _ => 0))) (h20 : w[20]? = some (cI 0 6 (fun _ => 0))) (h21 : w[21]? = some (cI 0 3 (fun _ => 0))) (h22 : w[22]? = some (cO 3 [eI 0, eR (23)])) (h23 : w[23]? = some (cI 0 200 (fun _ => 0))) (h24 : w[24]? = some (cO 3 [eI 0, eR (25)])) (h25 : w[25]? = some (cI 0 200 (fun _ => 0))) (h26 : w[26]? = some (cO 3 [eI 0, eR (27)])) (h27 : w[27]? = some (cI 0 200 (fun _ => 0))) (h28 : w[28]? = some (cO 3 [eI 0, eR (29)])) (h29 : w[29]? = some (cI 0 200 (fun _ => 0))) (h30 : w[30]? = some (cO 3 [eI 0, eR (31)])) (h31 : w[31]? = some (cI 0 200 (fun _ => 0))) (h32 : w[32]? = some (cO 3 [eI 0, eR (33)])) (h33 : w[33]? = some (cI 0 200 (fun _ => 0))) (h34 : w[34]? = some (cO 3 [eI 0, eR (35)])) (h35 : w[35]? = some (cI 0 200 (fun _ => 0))) (h36 : w[36]? = some (cO 3 [eI 0, eR (37)])) (h37 : w[37]? = some (cI 0 200 (fun _ => 0))) (h38 : w[38]? = some (cO 3 [eI 0, eR (39)])) (h39 : w[39]? = some (cI 0 200 (fun _ => 0))) (h40 : w[40]? = some (cO 3 [eI 0, eR (41)])) (h41 : w[41]? = some (cI 0 200 (fun _ => 0))) (h42 : w[42]? = some (cQ 4 3 (fun _ => none))) (h43 : w[43]? = some (cO 1 [eR (44), eR (52), eI 0, eI 0, eR (54), eR (55), eI 0, eI 0, eI 0, eI 0, eI 0, eI 0])) (h44 : w[44]? = some (cO 2 [eI 0, eR (45), eR (46), eR (47), eR (48), eR (49), eR (50), eR (51), eI 0, eI 0, eI 0, eI 0, eI 0, eI 0])) (h45 : w[45]? = some (cI 0 6 (fun _ => 0))) (h46 : w[46]? = some (cI 0 6 (fun _ => 0))) (h47 : w[47]? = some (cI 0 6 (fun _ => 0))) (h48 : w[48]? = some (cI 0 6 (fun _ => 0))) (h49 : w[49]? = some (cI 0 72 (fun _ => 0))) (h50 : w[50]? = some (cI 0 6 (fun _ => 0))) (h51 : w[51]? = some (cI 0 3 (fun _ => 0))) (h52 : w[52]? = some (cO 3 [eI 0, eR (53)])) (h53 : w[53]? = some (cI 0 200 (fun _ => 0))) (h54 : w[54]? = some (cI 0 600 (fun _ => 0))) (h55 : w[55]? = some (cI 0 5 (fun _ => 0))) (h56 : w[56]? = some (cO 0 [eR (57), eI 0, eI 0, eI 0, eR (58), eR (59), eI 0, eI 0, eI 0, eI 0, eI 0, eI 0, eI 0])) (h57 : w[57]? = some (cO 4 [eI 0, eI 0, eI 0])) (h58 : w[58]? = some (cI 0 6 (fun _ => 0))) (h59 : w[59]? = some (cI 0 3 (fun _ => 0))) (h60 : w[60]? = some (cO 4 [eI 0, eI 0, eI 0])) (h61 : w[61]? = some (cI 0 40 (fun _ => 0))) (h62 : w[62]? = some (cI 0 216 (fun _ => 0))) (h63 : w[63]? = some (cI 0 1000 (fun _ => 0))) (h64 : w[64]? = some (cO 7 [eR (65), eR (66), eI 0, eI 0, eI 0, eI 0, eI 0, eI 0, eI 0, eI 0, eR (67), eI 0, eI 0, eI 0, eI 0, eI 0, eI 0, eI 0, eI 0, eI 0, eI 0, eI 0, eI 0, eI 0, eI 0, eI 0, eI 0, eR (68), eR (69), eI 0, eI 0, eR (70), eR (71), eI 0, eI 0])) (h65 : w[65]? = some (cI 0 5768 (upd (fun _ => 0) 8 (-1)))) (h66 : w[66]? = some (cI 1 3 (fun _ => 0))) (h67 : w[67]? = some (cI 0 201 (fun _ => 0))) (h68 : w[68]? = some (cI 0 3 (fun _ => 0))) (h69 : w[69]? = some (cI 0 6 (fun _ => 0))) (h70 : w[70]? = some (cI 0 1791 (fun _ => 0))) (h71 : w[71]? = some (cI 1 1000 (fun _ => 0))) : WW p l e room_1 s m #[Value.ref b] below meth c (lw_Z below #[Value.ref b] s) G 4 0 0 599928 7288326 227 [some (eK 2), some (eR 0), some (eR 64), some (eI 0)] [] w := by
  refine ww_aload_n K dL_law_227 rfl ?_
  refine ww_aload_nK K dL_law_228 rfl ?_
  refine ww_iload_n K dL_law_229 rfl ?_
  refine ww_iconst (v := 1) K dL_law_230 rfl ?_
  refine ww_iadd K dL_law_231 ?_
  rw [show ((0 : Int32) + 1) = 1 from rfl]
  refine ww_ialdK K dL_law_232 (by decide) (by rw [hL8]; exact wc_vin (by decide)) ?_
  refine ww_xV K dL_law_233 lc_L_18 h0 ⟨_, rfl, rfl⟩ (ct_X6_end G l (a := _) h0 h1) rfl ⟨Nat.le_of_ble_eq_true rfl, Nat.le_of_ble_eq_true rfl⟩ (Nat.le_of_ble_eq_true rfl) (fun x1 w1 hq1 hl1 => ?_)
  have h64 := hq1.2.keep h64 (by decide)
  have h65 := hq1.2.keep h65 (by decide)
  refine ww_aload_n K dL_law_236 rfl ?_
  refine ww_aload_nK K dL_law_237 rfl ?_
  refine ww_iload_n K dL_law_238 rfl ?_
  refine ww_iconst (v := 1) K dL_law_239 rfl ?_
  refine ww_iadd K dL_law_240 ?_
  rw [show ((0 : Int32) + 1) = 1 from rfl]
  refine ww_ialdK K dL_law_241 (by decide) (by rw [hL8]; exact wc_vin (by decide)) ?_
  refine ww_xV K dL_law_242 lc_L_22 h64 ⟨_, rfl, rfl⟩ (ct_X7_end G l (a := _) h64 h65) rfl ⟨Nat.le_of_ble_eq_true rfl, Nat.le_of_ble_eq_true rfl⟩ (Nat.le_of_ble_eq_true rfl) (fun x2 w2 hq2 hl2 => ?_)
  refine ww_icmp_eq (tgt := 1621) K dL_law_245 rfl (fun _ => ?_) (fun cc_ => absurd (hq1.1.trans hq2.1.symm) cc_)
  exact wc_law_fin K hr hL8 _ _ _
set_option maxRecDepth 100000 in
set_option maxHeartbeats 8000000 in
theorem wc_law_text {p : Program} {l : Launch} {e : Env} {s : State} {m : MethodId} {below : List Frame} {meth : Method} {c : Code} {b : Nat} {G : EG} (K : wc_C p s m #[Value.ref b] meth c G RL cL_law 4 0) (hr : meth.sig.returnType = ret) (hL8 : gL G 2 = 8) {w : EW} (hlen : w.length = 72) (h0 : w[0]? = some (cO 6 [eR (1), eR (42), eR (43), eR (56), eR (60), eR (61), eR (62), eR (63)])) (h1 : w[1]? = some (cO 5 [eR (2), eI 0, eI 0, eI ((-1)), eR (3), eR (4), eR (5)])) (h2 : w[2]? = some (cI 0 600 (fun _ => 0))) (h3 : w[3]? = some (cI 0 6 (fun _ => 0))) (h4 : w[4]? = some (cQ 2 2 (va_up (va_up (fun _ => none) 0 (some 6)) 1 (some 14)))) (h5 : w[5]? = some (cQ 3 10 (va_up (va_up (va_up (va_up (va_up (va_up (va_up (va_up (va_up (va_up (fun _ => none) 0 (some 22)) 1 (some 24)) 2 (some 26)) 3 (some 28)) 4 (some 30)) 5 (some 32)) 6 (some 34)) 7 (some 36)) 8 (some 38)) 9 (some 40)))) (h6 : w[6]? = some (cO 2 [eI 0, eR (7), eR (8), eR (9), eR (10), eR (11), eR (12), eR (13), eI 0, eI 0, eI 0, eI 0, eI 0, eI 0])) (h7 : w[7]? = some (cI 0 6 (fun _ => 0))) (h8 : w[8]? = some (cI 0 6 (fun _ => 0))) (h9 : w[9]? = some (cI 0 6 (fun _ => 0))) (h10 : w[10]? = some (cI 0 6 (fun _ => 0))) (h11 : w[11]? = some (cI 0 72 (fun _ => 0))) (h12 : w[12]? = some (cI 0 6 (fun _ => 0))) (h13 : w[13]? = some (cI 0 3 (fun _ => 0))) (h14 : w[14]? = some (cO 2 [eI 0, eR (15), eR (16), eR (17), eR (18), eR (19), eR (20), eR (21), eI 0, eI 0, eI 0, eI 0, eI 0, eI 0])) (h15 : w[15]? = some (cI 0 6 (fun _ => 0))) (h16 : w[16]? = some (cI 0 6 (fun _ => 0))) (h17 : w[17]? = some (cI 0 6 (fun _ => 0))) (h18 : w[18]? = some (cI 0 6 (fun _ => 0))) (h19 : w[19]? = some (cI 0 72 (fun _ => 0))) (h20 : w[20]? = some (cI 0 6 (fun _ => 0))) (h21 : w[21]? = some (cI 0 3 (fun _ => 0))) (h22 : w[22]? = some (cO 3 [eI 0, eR (23)])) (h23 : w[23]? = some (cI 0 200 (fun _ => 0))) (h24 : w[24]? = some (cO 3 [eI 0, eR (25)])) (h25 : w[25]? = some (cI 0 200 (fun _ => 0))) (h26 : w[26]? = some (cO 3 [eI 0, eR (27)])) (h27 : w[27]? = some (cI 0 200 (fun _ => 0))) (h28 : w[28]? = some (cO 3 [eI 0, eR (29)])) (h29 : w[29]? = some (cI 0 200 (fun _ => 0))) (h30 : w[30]? = some (cO 3 [eI 0, eR (31)])) (h31 : w[31]? = some (cI 0 200 (fun _ => 0))) (h32 : w[32]? = some (cO 3 [eI 0, eR (33)])) (h33 : w[33]? = some (cI 0 200 (fun _ => 0))) (h34 : w[34]? = some (cO 3 [eI 0, eR (35)])) (h35 : w[35]? = some (cI 0 200 (fun _ => 0))) (h36 : w[36]? = some (cO 3 [eI 0, eR (37)])) (h37 : w[37]? = some (cI 0 200 (fun _ => 0))) (h38 : w[38]? = some (cO 3 [eI 0, eR (39)])) (h39 : w[39]? = some (cI 0 200 (fun _ => 0))) (h40 : w[40]? = some (cO 3 [eI 0, eR (41)])) (h41 : w[41]? = some (cI 0 200 (fun _ => 0))) (h42 : w[42]? = some (cQ 4 3 (fun _ => none))) (h43 : w[43]? = some (cO 1 [eR (44), eR (52), eI 0, eI 0, eR (54), eR (55), eI 0, eI 0, eI 0, eI 0, eI 0, eI 0])) (h44 : w[44]? = some (cO 2 [eI 0, eR (45), eR (46), eR (47), eR (48), eR (49), eR (50), eR (51), eI 0, eI 0, eI 0, eI 0, eI 0, eI 0])) (h45 : w[45]? = some (cI 0 6 (fun _ => 0))) (h46 : w[46]? = some (cI 0 6 (fun _ => 0))) (h47 : w[47]? = some (cI 0 6 (fun _ => 0))) (h48 : w[48]? = some (cI 0 6 (fun _ => 0))) (h49 : w[49]? = some (cI 0 72 (fun _ => 0))) (h50 : w[50]? = some (cI 0 6 (fun _ => 0))) (h51 : w[51]? = some (cI 0 3 (fun _ => 0))) (h52 : w[52]? = some (cO 3 [eI 0, eR (53)])) (h53 : w[53]? = some (cI 0 200 (fun _ => 0))) (h54 : w[54]? = some (cI 0 600 (fun _ => 0))) (h55 : w[55]? = some (cI 0 5 (fun _ => 0))) (h56 : w[56]? = some (cO 0 [eR (57), eI 0, eI 0, eI 0, eR (58), eR (59), eI 0, eI 0, eI 0, eI 0, eI 0, eI 0, eI 0])) (h57 : w[57]? = some (cO 4 [eI 0, eI 0, eI 0])) (h58 : w[58]? = some (cI 0 6 (fun _ => 0))) (h59 : w[59]? = some (cI 0 3 (fun _ => 0))) (h60 : w[60]? = some (cO 4 [eI 0, eI 0, eI 0])) (h61 : w[61]? = some (cI 0 40 (fun _ => 0))) (h62 : w[62]? = some (cI 0 216 (fun _ => 0))) (h63 : w[63]? = some (cI 0 1000 (fun _ => 0))) (h64 : w[64]? = some (cO 7 [eR (65), eR (66), eI 0, eI 0, eI 0, eI 0, eI 0, eI 0, eI 0, eI 0, eR (67), eI 0, eI 0, eI 0, eI 0, eI 0, eI 0, eI 0, eI 0, eI 0, eI 0, eI 0, eI 0, eI 0, eI 0, eI 0, eI 0, eR (68), eR (69), eI 0, eI 0, eR (70), eR (71), eI 0, eI 0])) (h65 : w[65]? = some (cI 0 5768 (upd (fun _ => 0) 8 (-1)))) (h66 : w[66]? = some (cI 1 3 (fun _ => 0))) (h67 : w[67]? = some (cI 0 201 (fun _ => 0))) (h68 : w[68]? = some (cI 0 3 (fun _ => 0))) (h69 : w[69]? = some (cI 0 6 (fun _ => 0))) (h70 : w[70]? = some (cI 0 1791 (fun _ => 0))) (h71 : w[71]? = some (cI 1 1000 (fun _ => 0))) : WW p l e room_1 s m #[Value.ref b] below meth c (lw_Z below #[Value.ref b] s) G 4 0 0 599928 7288326 250 [some (eK 2), some (eR 0), some (eR 64), some (eI 0)] [] w := by
  obtain ⟨a, ea⟩ : ∃ z, z = gF G 2 1 := ⟨_, rfl⟩
  obtain ⟨b2, eb⟩ : ∃ z, z = gF G 2 2 := ⟨_, rfl⟩
  by_cases hb : a < 0 ∨ 5 < a ∨ ¬ b2 = -1
  · have hbX : a < 0 ∨ 6 ≤ a ∨ ¬ b2 = -1 := by rw [wc_le5]; exact hb
    rw [ea, eb] at hb hbX
    refine ww_aload_n K dL_law_250 rfl ?_
    refine ww_aload_nK K dL_law_251 rfl ?_
    refine ww_iload_n K dL_law_252 rfl ?_
    refine ww_iconst (v := 1) K dL_law_253 rfl ?_
    refine ww_iadd K dL_law_254 ?_
    rw [show ((0 : Int32) + 1) = 1 from rfl]
    refine ww_ialdK K dL_law_255 (by decide) (by rw [hL8]; exact wc_vin (by decide)) ?_
    refine ww_aload_nK K dL_law_256 rfl ?_
    refine ww_iload_n K dL_law_257 rfl ?_
    refine ww_iconst (v := 2) K dL_law_258 rfl ?_
    refine ww_iadd K dL_law_259 ?_
    rw [show ((0 : Int32) + 2) = 2 from rfl]
    refine ww_ialdK K dL_law_260 (by decide) (by rw [hL8]; exact wc_vin (by decide)) ?_
    refine ww_xV K dL_law_261 lc_L_23 h0 ⟨_, rfl, rfl⟩ (ct_X6_text_bad G l (a := _) (b := _) hbX (fun _ _ => rfl) h0 h1 h3) rfl ⟨Nat.le_of_ble_eq_true rfl, Nat.le_of_ble_eq_true rfl⟩ (Nat.le_of_ble_eq_true rfl) (fun x1 w1 hq1 hl1 => ?_)
    have h64 := hq1.2.keep h64 (by decide)
    have h65 := hq1.2.keep h65 (by decide)
    refine ww_aload_n K dL_law_264 rfl ?_
    refine ww_aload_nK K dL_law_265 rfl ?_
    refine ww_iload_n K dL_law_266 rfl ?_
    refine ww_iconst (v := 1) K dL_law_267 rfl ?_
    refine ww_iadd K dL_law_268 ?_
    rw [show ((0 : Int32) + 1) = 1 from rfl]
    refine ww_ialdK K dL_law_269 (by decide) (by rw [hL8]; exact wc_vin (by decide)) ?_
    refine ww_aload_nK K dL_law_270 rfl ?_
    refine ww_iload_n K dL_law_271 rfl ?_
    refine ww_iconst (v := 2) K dL_law_272 rfl ?_
    refine ww_iadd K dL_law_273 ?_
    rw [show ((0 : Int32) + 2) = 2 from rfl]
    refine ww_ialdK K dL_law_274 (by decide) (by rw [hL8]; exact wc_vin (by decide)) ?_
    refine ww_xV K dL_law_275 lc_L_27 h64 ⟨_, rfl, rfl⟩ (ct_X7_text_bad G l (a := _) (b := _) hb h64 h65) rfl ⟨Nat.le_of_ble_eq_true rfl, Nat.le_of_ble_eq_true rfl⟩ (Nat.le_of_ble_eq_true rfl) (fun x2 w2 hq2 hl2 => ?_)
    refine ww_icmp_eq (tgt := 1621) K dL_law_278 rfl (fun _ => ?_) (fun cc_ => absurd (hq1.1.trans hq2.1.symm) cc_)
    exact wc_law_fin K hr hL8 _ _ _
  · rw [not_or, not_or] at hb
    have hb2 : b2 = -1 := Decidable.not_not.mp hb.2.2
    rcases wc_cases6 hb.1 hb.2.1 with h | h | h | h | h | h
    · refine ww_aload_n K dL_law_250 rfl ?_
      refine ww_aload_nK K dL_law_251 rfl ?_
      refine ww_iload_n K dL_law_252 rfl ?_
      refine ww_iconst (v := 1) K dL_law_253 rfl ?_
      refine ww_iadd K dL_law_254 ?_
      rw [show ((0 : Int32) + 1) = 1 from rfl]
      refine ww_ialdK K dL_law_255 (by decide) (by rw [hL8]; exact wc_vin (by decide)) ?_
      refine ww_aload_nK K dL_law_256 rfl ?_
      refine ww_iload_n K dL_law_257 rfl ?_
      refine ww_iconst (v := 2) K dL_law_258 rfl ?_
      refine ww_iadd K dL_law_259 ?_
      rw [show ((0 : Int32) + 2) = 2 from rfl]
      refine ww_ialdK K dL_law_260 (by decide) (by rw [hL8]; exact wc_vin (by decide)) ?_
      rw [show gF G 2 (1 : Int32).toNatClampNeg = 0 from ea.symm.trans h]
      rw [show gF G 2 (2 : Int32).toNatClampNeg = -1 from eb.symm.trans hb2]
      refine ww_xV K dL_law_261 lc_L_23 h0 ⟨_, rfl, rfl⟩ (ct_X6_text_0 G l (fun _ _ => rfl) h0 h1 h2 h3 h43 h44 h45 h46 h47 h48 h49 h50 h51 h52 h53 h54 h4 h6 h7 h8 h9 h10 h11 h12 h13) rfl ⟨Nat.le_of_ble_eq_true rfl, Nat.le_of_ble_eq_true rfl⟩ (Nat.le_of_ble_eq_true rfl) (fun x1 w1 hq1 hl1 => ?_)
      have h64 := hq1.2.keep h64 (by decide)
      have h65 := hq1.2.keep h65 (by decide)
      have h67 := hq1.2.keep h67 (by decide)
      refine ww_aload_n K dL_law_264 rfl ?_
      refine ww_aload_nK K dL_law_265 rfl ?_
      refine ww_iload_n K dL_law_266 rfl ?_
      refine ww_iconst (v := 1) K dL_law_267 rfl ?_
      refine ww_iadd K dL_law_268 ?_
      rw [show ((0 : Int32) + 1) = 1 from rfl]
      refine ww_ialdK K dL_law_269 (by decide) (by rw [hL8]; exact wc_vin (by decide)) ?_
      refine ww_aload_nK K dL_law_270 rfl ?_
      refine ww_iload_n K dL_law_271 rfl ?_
      refine ww_iconst (v := 2) K dL_law_272 rfl ?_
      refine ww_iadd K dL_law_273 ?_
      rw [show ((0 : Int32) + 2) = 2 from rfl]
      refine ww_ialdK K dL_law_274 (by decide) (by rw [hL8]; exact wc_vin (by decide)) ?_
      rw [show gF G 2 (1 : Int32).toNatClampNeg = 0 from ea.symm.trans h]
      rw [show gF G 2 (2 : Int32).toNatClampNeg = -1 from eb.symm.trans hb2]
      refine ww_xV K dL_law_275 lc_L_27 h64 ⟨_, rfl, rfl⟩ (ct_X7_text_0 G l h64 h65 h67) rfl ⟨Nat.le_of_ble_eq_true rfl, Nat.le_of_ble_eq_true rfl⟩ (Nat.le_of_ble_eq_true rfl) (fun x2 w2 hq2 hl2 => ?_)
      refine ww_icmp_eq (tgt := 1621) K dL_law_278 rfl (fun _ => ?_) (fun cc_ => absurd (hq1.1.trans hq2.1.symm) cc_)
      exact wc_law_fin K hr hL8 _ _ _
    · refine ww_aload_n K dL_law_250 rfl ?_
      refine ww_aload_nK K dL_law_251 rfl ?_
      refine ww_iload_n K dL_law_252 rfl ?_
      refine ww_iconst (v := 1) K dL_law_253 rfl ?_
      refine ww_iadd K dL_law_254 ?_
      rw [show ((0 : Int32) + 1) = 1 from rfl]
      refine ww_ialdK K dL_law_255 (by decide) (by rw [hL8]; exact wc_vin (by decide)) ?_
      refine ww_aload_nK K dL_law_256 rfl ?_
      refine ww_iload_n K dL_law_257 rfl ?_
      refine ww_iconst (v := 2) K dL_law_258 rfl ?_
      refine ww_iadd K dL_law_259 ?_
      rw [show ((0 : Int32) + 2) = 2 from rfl]
      refine ww_ialdK K dL_law_260 (by decide) (by rw [hL8]; exact wc_vin (by decide)) ?_
      rw [show gF G 2 (1 : Int32).toNatClampNeg = 1 from ea.symm.trans h]
      rw [show gF G 2 (2 : Int32).toNatClampNeg = -1 from eb.symm.trans hb2]
      refine ww_xV K dL_law_261 lc_L_23 h0 ⟨_, rfl, rfl⟩ (ct_X6_text_1 G l (fun _ _ => rfl) h0 h1 h2 h3 h43 h44 h45 h46 h47 h48 h49 h50 h51 h52 h53 h54 h5 h22 h23) rfl ⟨Nat.le_of_ble_eq_true rfl, Nat.le_of_ble_eq_true rfl⟩ (Nat.le_of_ble_eq_true rfl) (fun x1 w1 hq1 hl1 => ?_)
      have h64 := hq1.2.keep h64 (by decide)
      have h65 := hq1.2.keep h65 (by decide)
      have h67 := hq1.2.keep h67 (by decide)
      refine ww_aload_n K dL_law_264 rfl ?_
      refine ww_aload_nK K dL_law_265 rfl ?_
      refine ww_iload_n K dL_law_266 rfl ?_
      refine ww_iconst (v := 1) K dL_law_267 rfl ?_
      refine ww_iadd K dL_law_268 ?_
      rw [show ((0 : Int32) + 1) = 1 from rfl]
      refine ww_ialdK K dL_law_269 (by decide) (by rw [hL8]; exact wc_vin (by decide)) ?_
      refine ww_aload_nK K dL_law_270 rfl ?_
      refine ww_iload_n K dL_law_271 rfl ?_
      refine ww_iconst (v := 2) K dL_law_272 rfl ?_
      refine ww_iadd K dL_law_273 ?_
      rw [show ((0 : Int32) + 2) = 2 from rfl]
      refine ww_ialdK K dL_law_274 (by decide) (by rw [hL8]; exact wc_vin (by decide)) ?_
      rw [show gF G 2 (1 : Int32).toNatClampNeg = 1 from ea.symm.trans h]
      rw [show gF G 2 (2 : Int32).toNatClampNeg = -1 from eb.symm.trans hb2]
      refine ww_xV K dL_law_275 lc_L_27 h64 ⟨_, rfl, rfl⟩ (ct_X7_text_1 G l h64 h65 h67) rfl ⟨Nat.le_of_ble_eq_true rfl, Nat.le_of_ble_eq_true rfl⟩ (Nat.le_of_ble_eq_true rfl) (fun x2 w2 hq2 hl2 => ?_)
      refine ww_icmp_eq (tgt := 1621) K dL_law_278 rfl (fun _ => ?_) (fun cc_ => absurd (hq1.1.trans hq2.1.symm) cc_)
      exact wc_law_fin K hr hL8 _ _ _
    · refine ww_aload_n K dL_law_250 rfl ?_
      refine ww_aload_nK K dL_law_251 rfl ?_
      refine ww_iload_n K dL_law_252 rfl ?_
      refine ww_iconst (v := 1) K dL_law_253 rfl ?_
      refine ww_iadd K dL_law_254 ?_
      rw [show ((0 : Int32) + 1) = 1 from rfl]
      refine ww_ialdK K dL_law_255 (by decide) (by rw [hL8]; exact wc_vin (by decide)) ?_
      refine ww_aload_nK K dL_law_256 rfl ?_
      refine ww_iload_n K dL_law_257 rfl ?_
      refine ww_iconst (v := 2) K dL_law_258 rfl ?_
      refine ww_iadd K dL_law_259 ?_
      rw [show ((0 : Int32) + 2) = 2 from rfl]
      refine ww_ialdK K dL_law_260 (by decide) (by rw [hL8]; exact wc_vin (by decide)) ?_
      rw [show gF G 2 (1 : Int32).toNatClampNeg = 2 from ea.symm.trans h]
      rw [show gF G 2 (2 : Int32).toNatClampNeg = -1 from eb.symm.trans hb2]
      refine ww_xV K dL_law_261 lc_L_23 h0 ⟨_, rfl, rfl⟩ (ct_X6_text_2 G l (fun _ _ => rfl) h0 h1 h2 h3 h43 h44 h45 h46 h47 h48 h49 h50 h51 h52 h53 h54 h5 h26 h27) rfl ⟨Nat.le_of_ble_eq_true rfl, Nat.le_of_ble_eq_true rfl⟩ (Nat.le_of_ble_eq_true rfl) (fun x1 w1 hq1 hl1 => ?_)
      have h64 := hq1.2.keep h64 (by decide)
      have h65 := hq1.2.keep h65 (by decide)
      have h67 := hq1.2.keep h67 (by decide)
      refine ww_aload_n K dL_law_264 rfl ?_
      refine ww_aload_nK K dL_law_265 rfl ?_
      refine ww_iload_n K dL_law_266 rfl ?_
      refine ww_iconst (v := 1) K dL_law_267 rfl ?_
      refine ww_iadd K dL_law_268 ?_
      rw [show ((0 : Int32) + 1) = 1 from rfl]
      refine ww_ialdK K dL_law_269 (by decide) (by rw [hL8]; exact wc_vin (by decide)) ?_
      refine ww_aload_nK K dL_law_270 rfl ?_
      refine ww_iload_n K dL_law_271 rfl ?_
      refine ww_iconst (v := 2) K dL_law_272 rfl ?_
      refine ww_iadd K dL_law_273 ?_
      rw [show ((0 : Int32) + 2) = 2 from rfl]
      refine ww_ialdK K dL_law_274 (by decide) (by rw [hL8]; exact wc_vin (by decide)) ?_
      rw [show gF G 2 (1 : Int32).toNatClampNeg = 2 from ea.symm.trans h]
      rw [show gF G 2 (2 : Int32).toNatClampNeg = -1 from eb.symm.trans hb2]
      refine ww_xV K dL_law_275 lc_L_27 h64 ⟨_, rfl, rfl⟩ (ct_X7_text_2 G l h64 h65 h67) rfl ⟨Nat.le_of_ble_eq_true rfl, Nat.le_of_ble_eq_true rfl⟩ (Nat.le_of_ble_eq_true rfl) (fun x2 w2 hq2 hl2 => ?_)
      refine ww_icmp_eq (tgt := 1621) K dL_law_278 rfl (fun _ => ?_) (fun cc_ => absurd (hq1.1.trans hq2.1.symm) cc_)
      exact wc_law_fin K hr hL8 _ _ _
    · refine ww_aload_n K dL_law_250 rfl ?_
      refine ww_aload_nK K dL_law_251 rfl ?_
      refine ww_iload_n K dL_law_252 rfl ?_
      refine ww_iconst (v := 1) K dL_law_253 rfl ?_
      refine ww_iadd K dL_law_254 ?_
      rw [show ((0 : Int32) + 1) = 1 from rfl]
      refine ww_ialdK K dL_law_255 (by decide) (by rw [hL8]; exact wc_vin (by decide)) ?_
      refine ww_aload_nK K dL_law_256 rfl ?_
      refine ww_iload_n K dL_law_257 rfl ?_
      refine ww_iconst (v := 2) K dL_law_258 rfl ?_
      refine ww_iadd K dL_law_259 ?_
      rw [show ((0 : Int32) + 2) = 2 from rfl]
      refine ww_ialdK K dL_law_260 (by decide) (by rw [hL8]; exact wc_vin (by decide)) ?_
      rw [show gF G 2 (1 : Int32).toNatClampNeg = 3 from ea.symm.trans h]
      rw [show gF G 2 (2 : Int32).toNatClampNeg = -1 from eb.symm.trans hb2]
      refine ww_xV K dL_law_261 lc_L_23 h0 ⟨_, rfl, rfl⟩ (ct_X6_text_3 G l (fun _ _ => rfl) h0 h1 h2 h3 h43 h44 h45 h46 h47 h48 h49 h50 h51 h52 h53 h54 h5 h30 h31) rfl ⟨Nat.le_of_ble_eq_true rfl, Nat.le_of_ble_eq_true rfl⟩ (Nat.le_of_ble_eq_true rfl) (fun x1 w1 hq1 hl1 => ?_)
      have h64 := hq1.2.keep h64 (by decide)
      have h65 := hq1.2.keep h65 (by decide)
      have h67 := hq1.2.keep h67 (by decide)
      refine ww_aload_n K dL_law_264 rfl ?_
      refine ww_aload_nK K dL_law_265 rfl ?_
      refine ww_iload_n K dL_law_266 rfl ?_
      refine ww_iconst (v := 1) K dL_law_267 rfl ?_
      refine ww_iadd K dL_law_268 ?_
      rw [show ((0 : Int32) + 1) = 1 from rfl]
      refine ww_ialdK K dL_law_269 (by decide) (by rw [hL8]; exact wc_vin (by decide)) ?_
      refine ww_aload_nK K dL_law_270 rfl ?_
      refine ww_iload_n K dL_law_271 rfl ?_
      refine ww_iconst (v := 2) K dL_law_272 rfl ?_
      refine ww_iadd K dL_law_273 ?_
      rw [show ((0 : Int32) + 2) = 2 from rfl]
      refine ww_ialdK K dL_law_274 (by decide) (by rw [hL8]; exact wc_vin (by decide)) ?_
      rw [show gF G 2 (1 : Int32).toNatClampNeg = 3 from ea.symm.trans h]
      rw [show gF G 2 (2 : Int32).toNatClampNeg = -1 from eb.symm.trans hb2]
      refine ww_xV K dL_law_275 lc_L_27 h64 ⟨_, rfl, rfl⟩ (ct_X7_text_3 G l h64 h65 h67) rfl ⟨Nat.le_of_ble_eq_true rfl, Nat.le_of_ble_eq_true rfl⟩ (Nat.le_of_ble_eq_true rfl) (fun x2 w2 hq2 hl2 => ?_)
      refine ww_icmp_eq (tgt := 1621) K dL_law_278 rfl (fun _ => ?_) (fun cc_ => absurd (hq1.1.trans hq2.1.symm) cc_)
      exact wc_law_fin K hr hL8 _ _ _
    · refine ww_aload_n K dL_law_250 rfl ?_
      refine ww_aload_nK K dL_law_251 rfl ?_
      refine ww_iload_n K dL_law_252 rfl ?_
      refine ww_iconst (v := 1) K dL_law_253 rfl ?_
      refine ww_iadd K dL_law_254 ?_
      rw [show ((0 : Int32) + 1) = 1 from rfl]
      refine ww_ialdK K dL_law_255 (by decide) (by rw [hL8]; exact wc_vin (by decide)) ?_
      refine ww_aload_nK K dL_law_256 rfl ?_
      refine ww_iload_n K dL_law_257 rfl ?_
      refine ww_iconst (v := 2) K dL_law_258 rfl ?_
      refine ww_iadd K dL_law_259 ?_
      rw [show ((0 : Int32) + 2) = 2 from rfl]
      refine ww_ialdK K dL_law_260 (by decide) (by rw [hL8]; exact wc_vin (by decide)) ?_
      rw [show gF G 2 (1 : Int32).toNatClampNeg = 4 from ea.symm.trans h]
      rw [show gF G 2 (2 : Int32).toNatClampNeg = -1 from eb.symm.trans hb2]
      refine ww_xV K dL_law_261 lc_L_23 h0 ⟨_, rfl, rfl⟩ (ct_X6_text_4 G l (fun _ _ => rfl) h0 h1 h2 h3 h43 h44 h45 h46 h47 h48 h49 h50 h51 h52 h53 h54 h5 h34 h35) rfl ⟨Nat.le_of_ble_eq_true rfl, Nat.le_of_ble_eq_true rfl⟩ (Nat.le_of_ble_eq_true rfl) (fun x1 w1 hq1 hl1 => ?_)
      have h64 := hq1.2.keep h64 (by decide)
      have h65 := hq1.2.keep h65 (by decide)
      have h67 := hq1.2.keep h67 (by decide)
      refine ww_aload_n K dL_law_264 rfl ?_
      refine ww_aload_nK K dL_law_265 rfl ?_
      refine ww_iload_n K dL_law_266 rfl ?_
      refine ww_iconst (v := 1) K dL_law_267 rfl ?_
      refine ww_iadd K dL_law_268 ?_
      rw [show ((0 : Int32) + 1) = 1 from rfl]
      refine ww_ialdK K dL_law_269 (by decide) (by rw [hL8]; exact wc_vin (by decide)) ?_
      refine ww_aload_nK K dL_law_270 rfl ?_
      refine ww_iload_n K dL_law_271 rfl ?_
      refine ww_iconst (v := 2) K dL_law_272 rfl ?_
      refine ww_iadd K dL_law_273 ?_
      rw [show ((0 : Int32) + 2) = 2 from rfl]
      refine ww_ialdK K dL_law_274 (by decide) (by rw [hL8]; exact wc_vin (by decide)) ?_
      rw [show gF G 2 (1 : Int32).toNatClampNeg = 4 from ea.symm.trans h]
      rw [show gF G 2 (2 : Int32).toNatClampNeg = -1 from eb.symm.trans hb2]
      refine ww_xV K dL_law_275 lc_L_27 h64 ⟨_, rfl, rfl⟩ (ct_X7_text_4 G l h64 h65 h67) rfl ⟨Nat.le_of_ble_eq_true rfl, Nat.le_of_ble_eq_true rfl⟩ (Nat.le_of_ble_eq_true rfl) (fun x2 w2 hq2 hl2 => ?_)
      refine ww_icmp_eq (tgt := 1621) K dL_law_278 rfl (fun _ => ?_) (fun cc_ => absurd (hq1.1.trans hq2.1.symm) cc_)
      exact wc_law_fin K hr hL8 _ _ _
    · refine ww_aload_n K dL_law_250 rfl ?_
      refine ww_aload_nK K dL_law_251 rfl ?_
      refine ww_iload_n K dL_law_252 rfl ?_
      refine ww_iconst (v := 1) K dL_law_253 rfl ?_
      refine ww_iadd K dL_law_254 ?_
      rw [show ((0 : Int32) + 1) = 1 from rfl]
      refine ww_ialdK K dL_law_255 (by decide) (by rw [hL8]; exact wc_vin (by decide)) ?_
      refine ww_aload_nK K dL_law_256 rfl ?_
      refine ww_iload_n K dL_law_257 rfl ?_
      refine ww_iconst (v := 2) K dL_law_258 rfl ?_
      refine ww_iadd K dL_law_259 ?_
      rw [show ((0 : Int32) + 2) = 2 from rfl]
      refine ww_ialdK K dL_law_260 (by decide) (by rw [hL8]; exact wc_vin (by decide)) ?_
      rw [show gF G 2 (1 : Int32).toNatClampNeg = 5 from ea.symm.trans h]
      rw [show gF G 2 (2 : Int32).toNatClampNeg = -1 from eb.symm.trans hb2]
      refine ww_xV K dL_law_261 lc_L_23 h0 ⟨_, rfl, rfl⟩ (ct_X6_text_5 G l (fun _ _ => rfl) h0 h1 h2 h3 h43 h44 h45 h46 h47 h48 h49 h50 h51 h52 h53 h54 h5 h38 h39) rfl ⟨Nat.le_of_ble_eq_true rfl, Nat.le_of_ble_eq_true rfl⟩ (Nat.le_of_ble_eq_true rfl) (fun x1 w1 hq1 hl1 => ?_)
      have h64 := hq1.2.keep h64 (by decide)
      have h65 := hq1.2.keep h65 (by decide)
      have h67 := hq1.2.keep h67 (by decide)
      refine ww_aload_n K dL_law_264 rfl ?_
      refine ww_aload_nK K dL_law_265 rfl ?_
      refine ww_iload_n K dL_law_266 rfl ?_
      refine ww_iconst (v := 1) K dL_law_267 rfl ?_
      refine ww_iadd K dL_law_268 ?_
      rw [show ((0 : Int32) + 1) = 1 from rfl]
      refine ww_ialdK K dL_law_269 (by decide) (by rw [hL8]; exact wc_vin (by decide)) ?_
      refine ww_aload_nK K dL_law_270 rfl ?_
      refine ww_iload_n K dL_law_271 rfl ?_
      refine ww_iconst (v := 2) K dL_law_272 rfl ?_
      refine ww_iadd K dL_law_273 ?_
      rw [show ((0 : Int32) + 2) = 2 from rfl]
      refine ww_ialdK K dL_law_274 (by decide) (by rw [hL8]; exact wc_vin (by decide)) ?_
      rw [show gF G 2 (1 : Int32).toNatClampNeg = 5 from ea.symm.trans h]
      rw [show gF G 2 (2 : Int32).toNatClampNeg = -1 from eb.symm.trans hb2]
      refine ww_xV K dL_law_275 lc_L_27 h64 ⟨_, rfl, rfl⟩ (ct_X7_text_5 G l h64 h65 h67) rfl ⟨Nat.le_of_ble_eq_true rfl, Nat.le_of_ble_eq_true rfl⟩ (Nat.le_of_ble_eq_true rfl) (fun x2 w2 hq2 hl2 => ?_)
      refine ww_icmp_eq (tgt := 1621) K dL_law_278 rfl (fun _ => ?_) (fun cc_ => absurd (hq1.1.trans hq2.1.symm) cc_)
      exact wc_law_fin K hr hL8 _ _ _
set_option maxRecDepth 100000 in
set_option maxHeartbeats 8000000 in
theorem wc_law_fault {p : Program} {l : Launch} {e : Env} {s : State} {m : MethodId} {below : List Frame} {meth : Method} {c : Code} {b : Nat} {G : EG} (K : wc_C p s m #[Value.ref b] meth c G RL cL_law 4 0) (hr : meth.sig.returnType = ret) (hL8 : gL G 2 = 8) {w : EW} (hlen : w.length = 72) (h0 : w[0]? = some (cO 6 [eR (1), eR (42), eR (43), eR (56), eR (60), eR (61), eR (62), eR (63)])) (h1 : w[1]? = some (cO 5 [eR (2), eI 0, eI 0, eI ((-1)), eR (3), eR (4), eR (5)])) (h2 : w[2]? = some (cI 0 600 (fun _ => 0))) (h3 : w[3]? = some (cI 0 6 (fun _ => 0))) (h4 : w[4]? = some (cQ 2 2 (va_up (va_up (fun _ => none) 0 (some 6)) 1 (some 14)))) (h5 : w[5]? = some (cQ 3 10 (va_up (va_up (va_up (va_up (va_up (va_up (va_up (va_up (va_up (va_up (fun _ => none) 0 (some 22)) 1 (some 24)) 2 (some 26)) 3 (some 28)) 4 (some 30)) 5 (some 32)) 6 (some 34)) 7 (some 36)) 8 (some 38)) 9 (some 40)))) (h6 : w[6]? = some (cO 2 [eI 0, eR (7), eR (8), eR (9), eR (10), eR (11), eR (12), eR (13), eI 0, eI 0, eI 0, eI 0, eI 0, eI 0])) (h7 : w[7]? = some (cI 0 6 (fun _ => 0))) (h8 : w[8]? = some (cI 0 6 (fun _ => 0))) (h9 : w[9]? = some (cI 0 6 (fun _ => 0))) (h10 : w[10]? = some (cI 0 6 (fun _ => 0))) (h11 : w[11]? = some (cI 0 72 (fun _ => 0))) (h12 : w[12]? = some (cI 0 6 (fun _ => 0))) (h13 : w[13]? = some (cI 0 3 (fun _ => 0))) (h14 : w[14]? = some (cO 2 [eI 0, eR (15), eR (16), eR (17), eR (18), eR (19), eR (20), eR (21), eI 0, eI 0, eI 0, eI 0, eI 0, eI 0])) (h15 : w[15]? = some (cI 0 6 (fun _ => 0))) (h16 : w[16]? = some (cI 0 6 (fun _ => 0))) (h17 : w[17]? = some (cI 0 6 (fun _ => 0))) (h18 : w[18]? = some (cI 0 6 (fun _ => 0))) (h19 : w[19]? = some (cI 0 72 (fun _ => 0))) (h20 : w[20]? = some (cI 0 6 (fun _ => 0))) (h21 : w[21]? = some (cI 0 3 (fun _ => 0))) (h22 : w[22]? = some (cO 3 [eI 0, eR (23)])) (h23 : w[23]? = some (cI 0 200 (fun _ => 0))) (h24 : w[24]? = some (cO 3 [eI 0, eR (25)])) (h25 : w[25]? = some (cI 0 200 (fun _ => 0))) (h26 : w[26]? = some (cO 3 [eI 0, eR (27)])) (h27 : w[27]? = some (cI 0 200 (fun _ => 0))) (h28 : w[28]? = some (cO 3 [eI 0, eR (29)])) (h29 : w[29]? = some (cI 0 200 (fun _ => 0))) (h30 : w[30]? = some (cO 3 [eI 0, eR (31)])) (h31 : w[31]? = some (cI 0 200 (fun _ => 0))) (h32 : w[32]? = some (cO 3 [eI 0, eR (33)])) (h33 : w[33]? = some (cI 0 200 (fun _ => 0))) (h34 : w[34]? = some (cO 3 [eI 0, eR (35)])) (h35 : w[35]? = some (cI 0 200 (fun _ => 0))) (h36 : w[36]? = some (cO 3 [eI 0, eR (37)])) (h37 : w[37]? = some (cI 0 200 (fun _ => 0))) (h38 : w[38]? = some (cO 3 [eI 0, eR (39)])) (h39 : w[39]? = some (cI 0 200 (fun _ => 0))) (h40 : w[40]? = some (cO 3 [eI 0, eR (41)])) (h41 : w[41]? = some (cI 0 200 (fun _ => 0))) (h42 : w[42]? = some (cQ 4 3 (fun _ => none))) (h43 : w[43]? = some (cO 1 [eR (44), eR (52), eI 0, eI 0, eR (54), eR (55), eI 0, eI 0, eI 0, eI 0, eI 0, eI 0])) (h44 : w[44]? = some (cO 2 [eI 0, eR (45), eR (46), eR (47), eR (48), eR (49), eR (50), eR (51), eI 0, eI 0, eI 0, eI 0, eI 0, eI 0])) (h45 : w[45]? = some (cI 0 6 (fun _ => 0))) (h46 : w[46]? = some (cI 0 6 (fun _ => 0))) (h47 : w[47]? = some (cI 0 6 (fun _ => 0))) (h48 : w[48]? = some (cI 0 6 (fun _ => 0))) (h49 : w[49]? = some (cI 0 72 (fun _ => 0))) (h50 : w[50]? = some (cI 0 6 (fun _ => 0))) (h51 : w[51]? = some (cI 0 3 (fun _ => 0))) (h52 : w[52]? = some (cO 3 [eI 0, eR (53)])) (h53 : w[53]? = some (cI 0 200 (fun _ => 0))) (h54 : w[54]? = some (cI 0 600 (fun _ => 0))) (h55 : w[55]? = some (cI 0 5 (fun _ => 0))) (h56 : w[56]? = some (cO 0 [eR (57), eI 0, eI 0, eI 0, eR (58), eR (59), eI 0, eI 0, eI 0, eI 0, eI 0, eI 0, eI 0])) (h57 : w[57]? = some (cO 4 [eI 0, eI 0, eI 0])) (h58 : w[58]? = some (cI 0 6 (fun _ => 0))) (h59 : w[59]? = some (cI 0 3 (fun _ => 0))) (h60 : w[60]? = some (cO 4 [eI 0, eI 0, eI 0])) (h61 : w[61]? = some (cI 0 40 (fun _ => 0))) (h62 : w[62]? = some (cI 0 216 (fun _ => 0))) (h63 : w[63]? = some (cI 0 1000 (fun _ => 0))) (h64 : w[64]? = some (cO 7 [eR (65), eR (66), eI 0, eI 0, eI 0, eI 0, eI 0, eI 0, eI 0, eI 0, eR (67), eI 0, eI 0, eI 0, eI 0, eI 0, eI 0, eI 0, eI 0, eI 0, eI 0, eI 0, eI 0, eI 0, eI 0, eI 0, eI 0, eR (68), eR (69), eI 0, eI 0, eR (70), eR (71), eI 0, eI 0])) (h65 : w[65]? = some (cI 0 5768 (upd (fun _ => 0) 8 (-1)))) (h66 : w[66]? = some (cI 1 3 (fun _ => 0))) (h67 : w[67]? = some (cI 0 201 (fun _ => 0))) (h68 : w[68]? = some (cI 0 3 (fun _ => 0))) (h69 : w[69]? = some (cI 0 6 (fun _ => 0))) (h70 : w[70]? = some (cI 0 1791 (fun _ => 0))) (h71 : w[71]? = some (cI 1 1000 (fun _ => 0))) : WW p l e room_1 s m #[Value.ref b] below meth c (lw_Z below #[Value.ref b] s) G 4 0 0 599928 7288326 283 [some (eK 2), some (eR 0), some (eR 64), some (eI 0)] [] w := by
  refine ww_aload_n K dL_law_283 rfl ?_
  refine ww_aload_nK K dL_law_284 rfl ?_
  refine ww_iload_n K dL_law_285 rfl ?_
  refine ww_iconst (v := 1) K dL_law_286 rfl ?_
  refine ww_iadd K dL_law_287 ?_
  rw [show ((0 : Int32) + 1) = 1 from rfl]
  refine ww_ialdK K dL_law_288 (by decide) (by rw [hL8]; exact wc_vin (by decide)) ?_
  refine ww_cV K dL_law_289 lc_L_28 h0 ⟨_, rfl, rfl⟩ (ct_X6_fault G l (a := _) h0 h1) rfl ⟨Nat.le_of_ble_eq_true rfl, Nat.le_of_ble_eq_true rfl⟩ (Nat.le_of_ble_eq_true rfl) ?_
  refine ww_aload_n K dL_law_292 rfl ?_
  refine ww_aload_nK K dL_law_293 rfl ?_
  refine ww_iload_n K dL_law_294 rfl ?_
  refine ww_iconst (v := 1) K dL_law_295 rfl ?_
  refine ww_iadd K dL_law_296 ?_
  rw [show ((0 : Int32) + 1) = 1 from rfl]
  refine ww_ialdK K dL_law_297 (by decide) (by rw [hL8]; exact wc_vin (by decide)) ?_
  refine ww_cV K dL_law_298 lc_L_31 h64 ⟨_, rfl, rfl⟩ (ct_X7_fault G l (a := _) h64 h65) rfl ⟨Nat.le_of_ble_eq_true rfl, Nat.le_of_ble_eq_true rfl⟩ (Nat.le_of_ble_eq_true rfl) ?_
  refine ww_icmp_eq (tgt := 1621) K dL_law_301 rfl (fun _ => ?_) (fun cc_ => absurd rfl cc_)
  exact wc_law_fin K hr hL8 _ _ _
set_option maxRecDepth 100000 in
set_option maxHeartbeats 8000000 in
theorem wc_law_republic {p : Program} {l : Launch} {e : Env} {s : State} {m : MethodId} {below : List Frame} {meth : Method} {c : Code} {b : Nat} {G : EG} (K : wc_C p s m #[Value.ref b] meth c G RL cL_law 4 0) (hr : meth.sig.returnType = ret) (hL8 : gL G 2 = 8) {w : EW} (hlen : w.length = 72) (h0 : w[0]? = some (cO 6 [eR (1), eR (42), eR (43), eR (56), eR (60), eR (61), eR (62), eR (63)])) (h1 : w[1]? = some (cO 5 [eR (2), eI 0, eI 0, eI ((-1)), eR (3), eR (4), eR (5)])) (h2 : w[2]? = some (cI 0 600 (fun _ => 0))) (h3 : w[3]? = some (cI 0 6 (fun _ => 0))) (h4 : w[4]? = some (cQ 2 2 (va_up (va_up (fun _ => none) 0 (some 6)) 1 (some 14)))) (h5 : w[5]? = some (cQ 3 10 (va_up (va_up (va_up (va_up (va_up (va_up (va_up (va_up (va_up (va_up (fun _ => none) 0 (some 22)) 1 (some 24)) 2 (some 26)) 3 (some 28)) 4 (some 30)) 5 (some 32)) 6 (some 34)) 7 (some 36)) 8 (some 38)) 9 (some 40)))) (h6 : w[6]? = some (cO 2 [eI 0, eR (7), eR (8), eR (9), eR (10), eR (11), eR (12), eR (13), eI 0, eI 0, eI 0, eI 0, eI 0, eI 0])) (h7 : w[7]? = some (cI 0 6 (fun _ => 0))) (h8 : w[8]? = some (cI 0 6 (fun _ => 0))) (h9 : w[9]? = some (cI 0 6 (fun _ => 0))) (h10 : w[10]? = some (cI 0 6 (fun _ => 0))) (h11 : w[11]? = some (cI 0 72 (fun _ => 0))) (h12 : w[12]? = some (cI 0 6 (fun _ => 0))) (h13 : w[13]? = some (cI 0 3 (fun _ => 0))) (h14 : w[14]? = some (cO 2 [eI 0, eR (15), eR (16), eR (17), eR (18), eR (19), eR (20), eR (21), eI 0, eI 0, eI 0, eI 0, eI 0, eI 0])) (h15 : w[15]? = some (cI 0 6 (fun _ => 0))) (h16 : w[16]? = some (cI 0 6 (fun _ => 0))) (h17 : w[17]? = some (cI 0 6 (fun _ => 0))) (h18 : w[18]? = some (cI 0 6 (fun _ => 0))) (h19 : w[19]? = some (cI 0 72 (fun _ => 0))) (h20 : w[20]? = some (cI 0 6 (fun _ => 0))) (h21 : w[21]? = some (cI 0 3 (fun _ => 0))) (h22 : w[22]? = some (cO 3 [eI 0, eR (23)])) (h23 : w[23]? = some (cI 0 200 (fun _ => 0))) (h24 : w[24]? = some (cO 3 [eI 0, eR (25)])) (h25 : w[25]? = some (cI 0 200 (fun _ => 0))) (h26 : w[26]? = some (cO 3 [eI 0, eR (27)])) (h27 : w[27]? = some (cI 0 200 (fun _ => 0))) (h28 : w[28]? = some (cO 3 [eI 0, eR (29)])) (h29 : w[29]? = some (cI 0 200 (fun _ => 0))) (h30 : w[30]? = some (cO 3 [eI 0, eR (31)])) (h31 : w[31]? = some (cI 0 200 (fun _ => 0))) (h32 : w[32]? = some (cO 3 [eI 0, eR (33)])) (h33 : w[33]? = some (cI 0 200 (fun _ => 0))) (h34 : w[34]? = some (cO 3 [eI 0, eR (35)])) (h35 : w[35]? = some (cI 0 200 (fun _ => 0))) (h36 : w[36]? = some (cO 3 [eI 0, eR (37)])) (h37 : w[37]? = some (cI 0 200 (fun _ => 0))) (h38 : w[38]? = some (cO 3 [eI 0, eR (39)])) (h39 : w[39]? = some (cI 0 200 (fun _ => 0))) (h40 : w[40]? = some (cO 3 [eI 0, eR (41)])) (h41 : w[41]? = some (cI 0 200 (fun _ => 0))) (h42 : w[42]? = some (cQ 4 3 (fun _ => none))) (h43 : w[43]? = some (cO 1 [eR (44), eR (52), eI 0, eI 0, eR (54), eR (55), eI 0, eI 0, eI 0, eI 0, eI 0, eI 0])) (h44 : w[44]? = some (cO 2 [eI 0, eR (45), eR (46), eR (47), eR (48), eR (49), eR (50), eR (51), eI 0, eI 0, eI 0, eI 0, eI 0, eI 0])) (h45 : w[45]? = some (cI 0 6 (fun _ => 0))) (h46 : w[46]? = some (cI 0 6 (fun _ => 0))) (h47 : w[47]? = some (cI 0 6 (fun _ => 0))) (h48 : w[48]? = some (cI 0 6 (fun _ => 0))) (h49 : w[49]? = some (cI 0 72 (fun _ => 0))) (h50 : w[50]? = some (cI 0 6 (fun _ => 0))) (h51 : w[51]? = some (cI 0 3 (fun _ => 0))) (h52 : w[52]? = some (cO 3 [eI 0, eR (53)])) (h53 : w[53]? = some (cI 0 200 (fun _ => 0))) (h54 : w[54]? = some (cI 0 600 (fun _ => 0))) (h55 : w[55]? = some (cI 0 5 (fun _ => 0))) (h56 : w[56]? = some (cO 0 [eR (57), eI 0, eI 0, eI 0, eR (58), eR (59), eI 0, eI 0, eI 0, eI 0, eI 0, eI 0, eI 0])) (h57 : w[57]? = some (cO 4 [eI 0, eI 0, eI 0])) (h58 : w[58]? = some (cI 0 6 (fun _ => 0))) (h59 : w[59]? = some (cI 0 3 (fun _ => 0))) (h60 : w[60]? = some (cO 4 [eI 0, eI 0, eI 0])) (h61 : w[61]? = some (cI 0 40 (fun _ => 0))) (h62 : w[62]? = some (cI 0 216 (fun _ => 0))) (h63 : w[63]? = some (cI 0 1000 (fun _ => 0))) (h64 : w[64]? = some (cO 7 [eR (65), eR (66), eI 0, eI 0, eI 0, eI 0, eI 0, eI 0, eI 0, eI 0, eR (67), eI 0, eI 0, eI 0, eI 0, eI 0, eI 0, eI 0, eI 0, eI 0, eI 0, eI 0, eI 0, eI 0, eI 0, eI 0, eI 0, eR (68), eR (69), eI 0, eI 0, eR (70), eR (71), eI 0, eI 0])) (h65 : w[65]? = some (cI 0 5768 (upd (fun _ => 0) 8 (-1)))) (h66 : w[66]? = some (cI 1 3 (fun _ => 0))) (h67 : w[67]? = some (cI 0 201 (fun _ => 0))) (h68 : w[68]? = some (cI 0 3 (fun _ => 0))) (h69 : w[69]? = some (cI 0 6 (fun _ => 0))) (h70 : w[70]? = some (cI 0 1791 (fun _ => 0))) (h71 : w[71]? = some (cI 1 1000 (fun _ => 0))) : WW p l e room_1 s m #[Value.ref b] below meth c (lw_Z below #[Value.ref b] s) G 4 0 0 599928 7288326 306 [some (eK 2), some (eR 0), some (eR 64), some (eI 0)] [] w := by
  refine ww_aload_n K dL_law_306 rfl ?_
  refine ww_aload_nK K dL_law_307 rfl ?_
  refine ww_iload_n K dL_law_308 rfl ?_
  refine ww_iconst (v := 1) K dL_law_309 rfl ?_
  refine ww_iadd K dL_law_310 ?_
  rw [show ((0 : Int32) + 1) = 1 from rfl]
  refine ww_ialdK K dL_law_311 (by decide) (by rw [hL8]; exact wc_vin (by decide)) ?_
  refine ww_aload_nK K dL_law_312 rfl ?_
  refine ww_iload_n K dL_law_313 rfl ?_
  refine ww_iconst (v := 2) K dL_law_314 rfl ?_
  refine ww_iadd K dL_law_315 ?_
  rw [show ((0 : Int32) + 2) = 2 from rfl]
  refine ww_ialdK K dL_law_316 (by decide) (by rw [hL8]; exact wc_vin (by decide)) ?_
  refine ww_cV K dL_law_317 lc_L_32 h0 ⟨_, rfl, rfl⟩ (ct_X6_republic0 G l h0 h1 h3 (fun _ _ => rfl) (a := _) (b := _)) rfl ⟨Nat.le_of_ble_eq_true rfl, Nat.le_of_ble_eq_true rfl⟩ (Nat.le_of_ble_eq_true rfl) ?_
  refine ww_aload_n K dL_law_320 rfl ?_
  refine ww_aload_nK K dL_law_321 rfl ?_
  refine ww_iload_n K dL_law_322 rfl ?_
  refine ww_iconst (v := 1) K dL_law_323 rfl ?_
  refine ww_iadd K dL_law_324 ?_
  rw [show ((0 : Int32) + 1) = 1 from rfl]
  refine ww_ialdK K dL_law_325 (by decide) (by rw [hL8]; exact wc_vin (by decide)) ?_
  refine ww_aload_nK K dL_law_326 rfl ?_
  refine ww_iload_n K dL_law_327 rfl ?_
  refine ww_iconst (v := 2) K dL_law_328 rfl ?_
  refine ww_iadd K dL_law_329 ?_
  rw [show ((0 : Int32) + 2) = 2 from rfl]
  refine ww_ialdK K dL_law_330 (by decide) (by rw [hL8]; exact wc_vin (by decide)) ?_
  refine ww_cV K dL_law_331 lc_L_35 h64 ⟨_, rfl, rfl⟩ (ct_X7_republic0 G l h64 h65 (fun k hk => wc_A0 hk) (a := _) (b := _)) rfl ⟨Nat.le_of_ble_eq_true rfl, Nat.le_of_ble_eq_true rfl⟩ (Nat.le_of_ble_eq_true rfl) ?_
  refine ww_icmp_eq (tgt := 1621) K dL_law_334 rfl (fun _ => ?_) (fun cc_ => absurd cc_ (by decide))
  exact wc_law_fin K hr hL8 _ _ _
set_option maxRecDepth 100000 in
set_option maxHeartbeats 8000000 in
theorem wc_law_minister {p : Program} {l : Launch} {e : Env} {s : State} {m : MethodId} {below : List Frame} {meth : Method} {c : Code} {b : Nat} {G : EG} (K : wc_C p s m #[Value.ref b] meth c G RL cL_law 4 0) (hr : meth.sig.returnType = ret) (hL8 : gL G 2 = 8) {w : EW} (hlen : w.length = 72) (h0 : w[0]? = some (cO 6 [eR (1), eR (42), eR (43), eR (56), eR (60), eR (61), eR (62), eR (63)])) (h1 : w[1]? = some (cO 5 [eR (2), eI 0, eI 0, eI ((-1)), eR (3), eR (4), eR (5)])) (h2 : w[2]? = some (cI 0 600 (fun _ => 0))) (h3 : w[3]? = some (cI 0 6 (fun _ => 0))) (h4 : w[4]? = some (cQ 2 2 (va_up (va_up (fun _ => none) 0 (some 6)) 1 (some 14)))) (h5 : w[5]? = some (cQ 3 10 (va_up (va_up (va_up (va_up (va_up (va_up (va_up (va_up (va_up (va_up (fun _ => none) 0 (some 22)) 1 (some 24)) 2 (some 26)) 3 (some 28)) 4 (some 30)) 5 (some 32)) 6 (some 34)) 7 (some 36)) 8 (some 38)) 9 (some 40)))) (h6 : w[6]? = some (cO 2 [eI 0, eR (7), eR (8), eR (9), eR (10), eR (11), eR (12), eR (13), eI 0, eI 0, eI 0, eI 0, eI 0, eI 0])) (h7 : w[7]? = some (cI 0 6 (fun _ => 0))) (h8 : w[8]? = some (cI 0 6 (fun _ => 0))) (h9 : w[9]? = some (cI 0 6 (fun _ => 0))) (h10 : w[10]? = some (cI 0 6 (fun _ => 0))) (h11 : w[11]? = some (cI 0 72 (fun _ => 0))) (h12 : w[12]? = some (cI 0 6 (fun _ => 0))) (h13 : w[13]? = some (cI 0 3 (fun _ => 0))) (h14 : w[14]? = some (cO 2 [eI 0, eR (15), eR (16), eR (17), eR (18), eR (19), eR (20), eR (21), eI 0, eI 0, eI 0, eI 0, eI 0, eI 0])) (h15 : w[15]? = some (cI 0 6 (fun _ => 0))) (h16 : w[16]? = some (cI 0 6 (fun _ => 0))) (h17 : w[17]? = some (cI 0 6 (fun _ => 0))) (h18 : w[18]? = some (cI 0 6 (fun _ => 0))) (h19 : w[19]? = some (cI 0 72 (fun _ => 0))) (h20 : w[20]? = some (cI 0 6 (fun _ => 0))) (h21 : w[21]? = some (cI 0 3 (fun _ => 0))) (h22 : w[22]? = some (cO 3 [eI 0, eR (23)])) (h23 : w[23]? = some (cI 0 200 (fun _ => 0))) (h24 : w[24]? = some (cO 3 [eI 0, eR (25)])) (h25 : w[25]? = some (cI 0 200 (fun _ => 0))) (h26 : w[26]? = some (cO 3 [eI 0, eR (27)])) (h27 : w[27]? = some (cI 0 200 (fun _ => 0))) (h28 : w[28]? = some (cO 3 [eI 0, eR (29)])) (h29 : w[29]? = some (cI 0 200 (fun _ => 0))) (h30 : w[30]? = some (cO 3 [eI 0, eR (31)])) (h31 : w[31]? = some (cI 0 200 (fun _ => 0))) (h32 : w[32]? = some (cO 3 [eI 0, eR (33)])) (h33 : w[33]? = some (cI 0 200 (fun _ => 0))) (h34 : w[34]? = some (cO 3 [eI 0, eR (35)])) (h35 : w[35]? = some (cI 0 200 (fun _ => 0))) (h36 : w[36]? = some (cO 3 [eI 0, eR (37)])) (h37 : w[37]? = some (cI 0 200 (fun _ => 0))) (h38 : w[38]? = some (cO 3 [eI 0, eR (39)])) (h39 : w[39]? = some (cI 0 200 (fun _ => 0))) (h40 : w[40]? = some (cO 3 [eI 0, eR (41)])) (h41 : w[41]? = some (cI 0 200 (fun _ => 0))) (h42 : w[42]? = some (cQ 4 3 (fun _ => none))) (h43 : w[43]? = some (cO 1 [eR (44), eR (52), eI 0, eI 0, eR (54), eR (55), eI 0, eI 0, eI 0, eI 0, eI 0, eI 0])) (h44 : w[44]? = some (cO 2 [eI 0, eR (45), eR (46), eR (47), eR (48), eR (49), eR (50), eR (51), eI 0, eI 0, eI 0, eI 0, eI 0, eI 0])) (h45 : w[45]? = some (cI 0 6 (fun _ => 0))) (h46 : w[46]? = some (cI 0 6 (fun _ => 0))) (h47 : w[47]? = some (cI 0 6 (fun _ => 0))) (h48 : w[48]? = some (cI 0 6 (fun _ => 0))) (h49 : w[49]? = some (cI 0 72 (fun _ => 0))) (h50 : w[50]? = some (cI 0 6 (fun _ => 0))) (h51 : w[51]? = some (cI 0 3 (fun _ => 0))) (h52 : w[52]? = some (cO 3 [eI 0, eR (53)])) (h53 : w[53]? = some (cI 0 200 (fun _ => 0))) (h54 : w[54]? = some (cI 0 600 (fun _ => 0))) (h55 : w[55]? = some (cI 0 5 (fun _ => 0))) (h56 : w[56]? = some (cO 0 [eR (57), eI 0, eI 0, eI 0, eR (58), eR (59), eI 0, eI 0, eI 0, eI 0, eI 0, eI 0, eI 0])) (h57 : w[57]? = some (cO 4 [eI 0, eI 0, eI 0])) (h58 : w[58]? = some (cI 0 6 (fun _ => 0))) (h59 : w[59]? = some (cI 0 3 (fun _ => 0))) (h60 : w[60]? = some (cO 4 [eI 0, eI 0, eI 0])) (h61 : w[61]? = some (cI 0 40 (fun _ => 0))) (h62 : w[62]? = some (cI 0 216 (fun _ => 0))) (h63 : w[63]? = some (cI 0 1000 (fun _ => 0))) (h64 : w[64]? = some (cO 7 [eR (65), eR (66), eI 0, eI 0, eI 0, eI 0, eI 0, eI 0, eI 0, eI 0, eR (67), eI 0, eI 0, eI 0, eI 0, eI 0, eI 0, eI 0, eI 0, eI 0, eI 0, eI 0, eI 0, eI 0, eI 0, eI 0, eI 0, eR (68), eR (69), eI 0, eI 0, eR (70), eR (71), eI 0, eI 0])) (h65 : w[65]? = some (cI 0 5768 (upd (fun _ => 0) 8 (-1)))) (h66 : w[66]? = some (cI 1 3 (fun _ => 0))) (h67 : w[67]? = some (cI 0 201 (fun _ => 0))) (h68 : w[68]? = some (cI 0 3 (fun _ => 0))) (h69 : w[69]? = some (cI 0 6 (fun _ => 0))) (h70 : w[70]? = some (cI 0 1791 (fun _ => 0))) (h71 : w[71]? = some (cI 1 1000 (fun _ => 0))) : WW p l e room_1 s m #[Value.ref b] below meth c (lw_Z below #[Value.ref b] s) G 4 0 0 599928 7288326 339 [some (eK 2), some (eR 0), some (eR 64), some (eI 0)] [] w := by
  refine ww_aload_n K dL_law_339 rfl ?_
  refine ww_aload_nK K dL_law_340 rfl ?_
  refine ww_iload_n K dL_law_341 rfl ?_
  refine ww_iconst (v := 1) K dL_law_342 rfl ?_
  refine ww_iadd K dL_law_343 ?_
  rw [show ((0 : Int32) + 1) = 1 from rfl]
  refine ww_ialdK K dL_law_344 (by decide) (by rw [hL8]; exact wc_vin (by decide)) ?_
  refine ww_aload_nK K dL_law_345 rfl ?_
  refine ww_iload_n K dL_law_346 rfl ?_
  refine ww_iconst (v := 2) K dL_law_347 rfl ?_
  refine ww_iadd K dL_law_348 ?_
  rw [show ((0 : Int32) + 2) = 2 from rfl]
  refine ww_ialdK K dL_law_349 (by decide) (by rw [hL8]; exact wc_vin (by decide)) ?_
  refine ww_aload_nK K dL_law_350 rfl ?_
  refine ww_iload_n K dL_law_351 rfl ?_
  refine ww_iconst (v := 3) K dL_law_352 rfl ?_
  refine ww_iadd K dL_law_353 ?_
  rw [show ((0 : Int32) + 3) = 3 from rfl]
  refine ww_ialdK K dL_law_354 (by decide) (by rw [hL8]; exact wc_vin (by decide)) ?_
  refine ww_cV K dL_law_355 lc_L_36 h0 ⟨_, rfl, rfl⟩ (ct_X6_minister0 G l h0 h1 h3 (fun _ _ => rfl) (a := _) (b := _) (c := _)) rfl ⟨Nat.le_of_ble_eq_true rfl, Nat.le_of_ble_eq_true rfl⟩ (Nat.le_of_ble_eq_true rfl) ?_
  refine ww_aload_n K dL_law_358 rfl ?_
  refine ww_aload_nK K dL_law_359 rfl ?_
  refine ww_iload_n K dL_law_360 rfl ?_
  refine ww_iconst (v := 1) K dL_law_361 rfl ?_
  refine ww_iadd K dL_law_362 ?_
  rw [show ((0 : Int32) + 1) = 1 from rfl]
  refine ww_ialdK K dL_law_363 (by decide) (by rw [hL8]; exact wc_vin (by decide)) ?_
  refine ww_aload_nK K dL_law_364 rfl ?_
  refine ww_iload_n K dL_law_365 rfl ?_
  refine ww_iconst (v := 2) K dL_law_366 rfl ?_
  refine ww_iadd K dL_law_367 ?_
  rw [show ((0 : Int32) + 2) = 2 from rfl]
  refine ww_ialdK K dL_law_368 (by decide) (by rw [hL8]; exact wc_vin (by decide)) ?_
  refine ww_aload_nK K dL_law_369 rfl ?_
  refine ww_iload_n K dL_law_370 rfl ?_
  refine ww_iconst (v := 3) K dL_law_371 rfl ?_
  refine ww_iadd K dL_law_372 ?_
  rw [show ((0 : Int32) + 3) = 3 from rfl]
  refine ww_ialdK K dL_law_373 (by decide) (by rw [hL8]; exact wc_vin (by decide)) ?_
  refine ww_cV K dL_law_374 lc_L_40 h64 ⟨_, rfl, rfl⟩ (ct_X7_minister0 G l h64 h65 (fun k hk => wc_A0 hk) (a := _) (b := _) (c := _)) rfl ⟨Nat.le_of_ble_eq_true rfl, Nat.le_of_ble_eq_true rfl⟩ (Nat.le_of_ble_eq_true rfl) ?_
  refine ww_icmp_eq (tgt := 1621) K dL_law_377 rfl (fun _ => ?_) (fun cc_ => absurd cc_ (by decide))
  exact wc_law_fin K hr hL8 _ _ _
set_option maxRecDepth 100000 in
set_option maxHeartbeats 8000000 in
theorem wc_law_off {p : Program} {l : Launch} {e : Env} {s : State} {m : MethodId} {below : List Frame} {meth : Method} {c : Code} {b : Nat} {G : EG} (K : wc_C p s m #[Value.ref b] meth c G RL cL_law 4 0) (hr : meth.sig.returnType = ret) (hL8 : gL G 2 = 8) {w : EW} (hlen : w.length = 72) (h0 : w[0]? = some (cO 6 [eR (1), eR (42), eR (43), eR (56), eR (60), eR (61), eR (62), eR (63)])) (h1 : w[1]? = some (cO 5 [eR (2), eI 0, eI 0, eI ((-1)), eR (3), eR (4), eR (5)])) (h2 : w[2]? = some (cI 0 600 (fun _ => 0))) (h3 : w[3]? = some (cI 0 6 (fun _ => 0))) (h4 : w[4]? = some (cQ 2 2 (va_up (va_up (fun _ => none) 0 (some 6)) 1 (some 14)))) (h5 : w[5]? = some (cQ 3 10 (va_up (va_up (va_up (va_up (va_up (va_up (va_up (va_up (va_up (va_up (fun _ => none) 0 (some 22)) 1 (some 24)) 2 (some 26)) 3 (some 28)) 4 (some 30)) 5 (some 32)) 6 (some 34)) 7 (some 36)) 8 (some 38)) 9 (some 40)))) (h6 : w[6]? = some (cO 2 [eI 0, eR (7), eR (8), eR (9), eR (10), eR (11), eR (12), eR (13), eI 0, eI 0, eI 0, eI 0, eI 0, eI 0])) (h7 : w[7]? = some (cI 0 6 (fun _ => 0))) (h8 : w[8]? = some (cI 0 6 (fun _ => 0))) (h9 : w[9]? = some (cI 0 6 (fun _ => 0))) (h10 : w[10]? = some (cI 0 6 (fun _ => 0))) (h11 : w[11]? = some (cI 0 72 (fun _ => 0))) (h12 : w[12]? = some (cI 0 6 (fun _ => 0))) (h13 : w[13]? = some (cI 0 3 (fun _ => 0))) (h14 : w[14]? = some (cO 2 [eI 0, eR (15), eR (16), eR (17), eR (18), eR (19), eR (20), eR (21), eI 0, eI 0, eI 0, eI 0, eI 0, eI 0])) (h15 : w[15]? = some (cI 0 6 (fun _ => 0))) (h16 : w[16]? = some (cI 0 6 (fun _ => 0))) (h17 : w[17]? = some (cI 0 6 (fun _ => 0))) (h18 : w[18]? = some (cI 0 6 (fun _ => 0))) (h19 : w[19]? = some (cI 0 72 (fun _ => 0))) (h20 : w[20]? = some (cI 0 6 (fun _ => 0))) (h21 : w[21]? = some (cI 0 3 (fun _ => 0))) (h22 : w[22]? = some (cO 3 [eI 0, eR (23)])) (h23 : w[23]? = some (cI 0 200 (fun _ => 0))) (h24 : w[24]? = some (cO 3 [eI 0, eR (25)])) (h25 : w[25]? = some (cI 0 200 (fun _ => 0))) (h26 : w[26]? = some (cO 3 [eI 0, eR (27)])) (h27 : w[27]? = some (cI 0 200 (fun _ => 0))) (h28 : w[28]? = some (cO 3 [eI 0, eR (29)])) (h29 : w[29]? = some (cI 0 200 (fun _ => 0))) (h30 : w[30]? = some (cO 3 [eI 0, eR (31)])) (h31 : w[31]? = some (cI 0 200 (fun _ => 0))) (h32 : w[32]? = some (cO 3 [eI 0, eR (33)])) (h33 : w[33]? = some (cI 0 200 (fun _ => 0))) (h34 : w[34]? = some (cO 3 [eI 0, eR (35)])) (h35 : w[35]? = some (cI 0 200 (fun _ => 0))) (h36 : w[36]? = some (cO 3 [eI 0, eR (37)])) (h37 : w[37]? = some (cI 0 200 (fun _ => 0))) (h38 : w[38]? = some (cO 3 [eI 0, eR (39)])) (h39 : w[39]? = some (cI 0 200 (fun _ => 0))) (h40 : w[40]? = some (cO 3 [eI 0, eR (41)])) (h41 : w[41]? = some (cI 0 200 (fun _ => 0))) (h42 : w[42]? = some (cQ 4 3 (fun _ => none))) (h43 : w[43]? = some (cO 1 [eR (44), eR (52), eI 0, eI 0, eR (54), eR (55), eI 0, eI 0, eI 0, eI 0, eI 0, eI 0])) (h44 : w[44]? = some (cO 2 [eI 0, eR (45), eR (46), eR (47), eR (48), eR (49), eR (50), eR (51), eI 0, eI 0, eI 0, eI 0, eI 0, eI 0])) (h45 : w[45]? = some (cI 0 6 (fun _ => 0))) (h46 : w[46]? = some (cI 0 6 (fun _ => 0))) (h47 : w[47]? = some (cI 0 6 (fun _ => 0))) (h48 : w[48]? = some (cI 0 6 (fun _ => 0))) (h49 : w[49]? = some (cI 0 72 (fun _ => 0))) (h50 : w[50]? = some (cI 0 6 (fun _ => 0))) (h51 : w[51]? = some (cI 0 3 (fun _ => 0))) (h52 : w[52]? = some (cO 3 [eI 0, eR (53)])) (h53 : w[53]? = some (cI 0 200 (fun _ => 0))) (h54 : w[54]? = some (cI 0 600 (fun _ => 0))) (h55 : w[55]? = some (cI 0 5 (fun _ => 0))) (h56 : w[56]? = some (cO 0 [eR (57), eI 0, eI 0, eI 0, eR (58), eR (59), eI 0, eI 0, eI 0, eI 0, eI 0, eI 0, eI 0])) (h57 : w[57]? = some (cO 4 [eI 0, eI 0, eI 0])) (h58 : w[58]? = some (cI 0 6 (fun _ => 0))) (h59 : w[59]? = some (cI 0 3 (fun _ => 0))) (h60 : w[60]? = some (cO 4 [eI 0, eI 0, eI 0])) (h61 : w[61]? = some (cI 0 40 (fun _ => 0))) (h62 : w[62]? = some (cI 0 216 (fun _ => 0))) (h63 : w[63]? = some (cI 0 1000 (fun _ => 0))) (h64 : w[64]? = some (cO 7 [eR (65), eR (66), eI 0, eI 0, eI 0, eI 0, eI 0, eI 0, eI 0, eI 0, eR (67), eI 0, eI 0, eI 0, eI 0, eI 0, eI 0, eI 0, eI 0, eI 0, eI 0, eI 0, eI 0, eI 0, eI 0, eI 0, eI 0, eR (68), eR (69), eI 0, eI 0, eR (70), eR (71), eI 0, eI 0])) (h65 : w[65]? = some (cI 0 5768 (upd (fun _ => 0) 8 (-1)))) (h66 : w[66]? = some (cI 1 3 (fun _ => 0))) (h67 : w[67]? = some (cI 0 201 (fun _ => 0))) (h68 : w[68]? = some (cI 0 3 (fun _ => 0))) (h69 : w[69]? = some (cI 0 6 (fun _ => 0))) (h70 : w[70]? = some (cI 0 1791 (fun _ => 0))) (h71 : w[71]? = some (cI 1 1000 (fun _ => 0))) : WW p l e room_1 s m #[Value.ref b] below meth c (lw_Z below #[Value.ref b] s) G 4 0 0 599928 7288326 382 [some (eK 2), some (eR 0), some (eR 64), some (eI 0)] [] w := by
  refine ww_aload_n K dL_law_382 rfl ?_
  refine ww_aload_nK K dL_law_383 rfl ?_
  refine ww_iload_n K dL_law_384 rfl ?_
  refine ww_iconst (v := 1) K dL_law_385 rfl ?_
  refine ww_iadd K dL_law_386 ?_
  rw [show ((0 : Int32) + 1) = 1 from rfl]
  refine ww_ialdK K dL_law_387 (by decide) (by rw [hL8]; exact wc_vin (by decide)) ?_
  refine ww_aload_nK K dL_law_388 rfl ?_
  refine ww_iload_n K dL_law_389 rfl ?_
  refine ww_iconst (v := 2) K dL_law_390 rfl ?_
  refine ww_iadd K dL_law_391 ?_
  rw [show ((0 : Int32) + 2) = 2 from rfl]
  refine ww_ialdK K dL_law_392 (by decide) (by rw [hL8]; exact wc_vin (by decide)) ?_
  refine ww_aload_nK K dL_law_393 rfl ?_
  refine ww_iload_n K dL_law_394 rfl ?_
  refine ww_iconst (v := 3) K dL_law_395 rfl ?_
  refine ww_iadd K dL_law_396 ?_
  rw [show ((0 : Int32) + 3) = 3 from rfl]
  refine ww_ialdK K dL_law_397 (by decide) (by rw [hL8]; exact wc_vin (by decide)) ?_
  refine ww_aload_nK K dL_law_398 rfl ?_
  refine ww_iload_n K dL_law_399 rfl ?_
  refine ww_iconst (v := 4) K dL_law_400 rfl ?_
  refine ww_iadd K dL_law_401 ?_
  rw [show ((0 : Int32) + 4) = 4 from rfl]
  refine ww_ialdK K dL_law_402 (by decide) (by rw [hL8]; exact wc_vin (by decide)) ?_
  refine ww_aload_nK K dL_law_403 rfl ?_
  refine ww_iload_n K dL_law_404 rfl ?_
  refine ww_iconst (v := 5) K dL_law_405 rfl ?_
  refine ww_iadd K dL_law_406 ?_
  rw [show ((0 : Int32) + 5) = 5 from rfl]
  refine ww_ialdK K dL_law_407 (by decide) (by rw [hL8]; exact wc_vin (by decide)) ?_
  refine ww_aload_nK K dL_law_408 rfl ?_
  refine ww_iload_n K dL_law_409 rfl ?_
  refine ww_bipush (v := 6) K dL_law_410 rfl ?_
  refine ww_iadd K dL_law_412 ?_
  rw [show ((0 : Int32) + 6) = 6 from rfl]
  refine ww_ialdK K dL_law_413 (by decide) (by rw [hL8]; exact wc_vin (by decide)) ?_
  refine ww_cV K dL_law_414 lc_L_41 h0 ⟨_, rfl, rfl⟩ (ct_X6_off0 G l h0 h1 h3 (fun _ _ => rfl) (a := _) (b := _) (c := _) (d := _) (f := _) (g := _)) rfl ⟨Nat.le_of_ble_eq_true rfl, Nat.le_of_ble_eq_true rfl⟩ (Nat.le_of_ble_eq_true rfl) ?_
  refine ww_aload_n K dL_law_417 rfl ?_
  refine ww_aload_nK K dL_law_418 rfl ?_
  refine ww_iload_n K dL_law_419 rfl ?_
  refine ww_iconst (v := 1) K dL_law_420 rfl ?_
  refine ww_iadd K dL_law_421 ?_
  rw [show ((0 : Int32) + 1) = 1 from rfl]
  refine ww_ialdK K dL_law_422 (by decide) (by rw [hL8]; exact wc_vin (by decide)) ?_
  refine ww_aload_nK K dL_law_423 rfl ?_
  refine ww_iload_n K dL_law_424 rfl ?_
  refine ww_iconst (v := 2) K dL_law_425 rfl ?_
  refine ww_iadd K dL_law_426 ?_
  rw [show ((0 : Int32) + 2) = 2 from rfl]
  refine ww_ialdK K dL_law_427 (by decide) (by rw [hL8]; exact wc_vin (by decide)) ?_
  refine ww_aload_nK K dL_law_428 rfl ?_
  refine ww_iload_n K dL_law_429 rfl ?_
  refine ww_iconst (v := 3) K dL_law_430 rfl ?_
  refine ww_iadd K dL_law_431 ?_
  rw [show ((0 : Int32) + 3) = 3 from rfl]
  refine ww_ialdK K dL_law_432 (by decide) (by rw [hL8]; exact wc_vin (by decide)) ?_
  refine ww_aload_nK K dL_law_433 rfl ?_
  refine ww_iload_n K dL_law_434 rfl ?_
  refine ww_iconst (v := 4) K dL_law_435 rfl ?_
  refine ww_iadd K dL_law_436 ?_
  rw [show ((0 : Int32) + 4) = 4 from rfl]
  refine ww_ialdK K dL_law_437 (by decide) (by rw [hL8]; exact wc_vin (by decide)) ?_
  refine ww_aload_nK K dL_law_438 rfl ?_
  refine ww_iload_n K dL_law_439 rfl ?_
  refine ww_iconst (v := 5) K dL_law_440 rfl ?_
  refine ww_iadd K dL_law_441 ?_
  rw [show ((0 : Int32) + 5) = 5 from rfl]
  refine ww_ialdK K dL_law_442 (by decide) (by rw [hL8]; exact wc_vin (by decide)) ?_
  refine ww_aload_nK K dL_law_443 rfl ?_
  refine ww_iload_n K dL_law_444 rfl ?_
  refine ww_bipush (v := 6) K dL_law_445 rfl ?_
  refine ww_iadd K dL_law_447 ?_
  rw [show ((0 : Int32) + 6) = 6 from rfl]
  refine ww_ialdK K dL_law_448 (by decide) (by rw [hL8]; exact wc_vin (by decide)) ?_
  refine ww_cV K dL_law_449 lc_L_45 h64 ⟨_, rfl, rfl⟩ (ct_X7_off0 G l h64 h65 (fun k hk => wc_A0 hk) (a := _) (b := _) (c := _) (d := _) (f := _) (g := _)) rfl ⟨Nat.le_of_ble_eq_true rfl, Nat.le_of_ble_eq_true rfl⟩ (Nat.le_of_ble_eq_true rfl) ?_
  refine ww_icmp_eq (tgt := 1621) K dL_law_452 rfl (fun _ => ?_) (fun cc_ => absurd cc_ (by decide))
  exact wc_law_fin K hr hL8 _ _ _
set_option maxRecDepth 100000 in
set_option maxHeartbeats 8000000 in
theorem wc_law_vote {p : Program} {l : Launch} {e : Env} {s : State} {m : MethodId} {below : List Frame} {meth : Method} {c : Code} {b : Nat} {G : EG} (K : wc_C p s m #[Value.ref b] meth c G RL cL_law 4 0) (hr : meth.sig.returnType = ret) (hL8 : gL G 2 = 8) {w : EW} (hlen : w.length = 72) (h0 : w[0]? = some (cO 6 [eR (1), eR (42), eR (43), eR (56), eR (60), eR (61), eR (62), eR (63)])) (h1 : w[1]? = some (cO 5 [eR (2), eI 0, eI 0, eI ((-1)), eR (3), eR (4), eR (5)])) (h2 : w[2]? = some (cI 0 600 (fun _ => 0))) (h3 : w[3]? = some (cI 0 6 (fun _ => 0))) (h4 : w[4]? = some (cQ 2 2 (va_up (va_up (fun _ => none) 0 (some 6)) 1 (some 14)))) (h5 : w[5]? = some (cQ 3 10 (va_up (va_up (va_up (va_up (va_up (va_up (va_up (va_up (va_up (va_up (fun _ => none) 0 (some 22)) 1 (some 24)) 2 (some 26)) 3 (some 28)) 4 (some 30)) 5 (some 32)) 6 (some 34)) 7 (some 36)) 8 (some 38)) 9 (some 40)))) (h6 : w[6]? = some (cO 2 [eI 0, eR (7), eR (8), eR (9), eR (10), eR (11), eR (12), eR (13), eI 0, eI 0, eI 0, eI 0, eI 0, eI 0])) (h7 : w[7]? = some (cI 0 6 (fun _ => 0))) (h8 : w[8]? = some (cI 0 6 (fun _ => 0))) (h9 : w[9]? = some (cI 0 6 (fun _ => 0))) (h10 : w[10]? = some (cI 0 6 (fun _ => 0))) (h11 : w[11]? = some (cI 0 72 (fun _ => 0))) (h12 : w[12]? = some (cI 0 6 (fun _ => 0))) (h13 : w[13]? = some (cI 0 3 (fun _ => 0))) (h14 : w[14]? = some (cO 2 [eI 0, eR (15), eR (16), eR (17), eR (18), eR (19), eR (20), eR (21), eI 0, eI 0, eI 0, eI 0, eI 0, eI 0])) (h15 : w[15]? = some (cI 0 6 (fun _ => 0))) (h16 : w[16]? = some (cI 0 6 (fun _ => 0))) (h17 : w[17]? = some (cI 0 6 (fun _ => 0))) (h18 : w[18]? = some (cI 0 6 (fun _ => 0))) (h19 : w[19]? = some (cI 0 72 (fun _ => 0))) (h20 : w[20]? = some (cI 0 6 (fun _ => 0))) (h21 : w[21]? = some (cI 0 3 (fun _ => 0))) (h22 : w[22]? = some (cO 3 [eI 0, eR (23)])) (h23 : w[23]? = some (cI 0 200 (fun _ => 0))) (h24 : w[24]? = some (cO 3 [eI 0, eR (25)])) (h25 : w[25]? = some (cI 0 200 (fun _ => 0))) (h26 : w[26]? = some (cO 3 [eI 0, eR (27)])) (h27 : w[27]? = some (cI 0 200 (fun _ => 0))) (h28 : w[28]? = some (cO 3 [eI 0, eR (29)])) (h29 : w[29]? = some (cI 0 200 (fun _ => 0))) (h30 : w[30]? = some (cO 3 [eI 0, eR (31)])) (h31 : w[31]? = some (cI 0 200 (fun _ => 0))) (h32 : w[32]? = some (cO 3 [eI 0, eR (33)])) (h33 : w[33]? = some (cI 0 200 (fun _ => 0))) (h34 : w[34]? = some (cO 3 [eI 0, eR (35)])) (h35 : w[35]? = some (cI 0 200 (fun _ => 0))) (h36 : w[36]? = some (cO 3 [eI 0, eR (37)])) (h37 : w[37]? = some (cI 0 200 (fun _ => 0))) (h38 : w[38]? = some (cO 3 [eI 0, eR (39)])) (h39 : w[39]? = some (cI 0 200 (fun _ => 0))) (h40 : w[40]? = some (cO 3 [eI 0, eR (41)])) (h41 : w[41]? = some (cI 0 200 (fun _ => 0))) (h42 : w[42]? = some (cQ 4 3 (fun _ => none))) (h43 : w[43]? = some (cO 1 [eR (44), eR (52), eI 0, eI 0, eR (54), eR (55), eI 0, eI 0, eI 0, eI 0, eI 0, eI 0])) (h44 : w[44]? = some (cO 2 [eI 0, eR (45), eR (46), eR (47), eR (48), eR (49), eR (50), eR (51), eI 0, eI 0, eI 0, eI 0, eI 0, eI 0])) (h45 : w[45]? = some (cI 0 6 (fun _ => 0))) (h46 : w[46]? = some (cI 0 6 (fun _ => 0))) (h47 : w[47]? = some (cI 0 6 (fun _ => 0))) (h48 : w[48]? = some (cI 0 6 (fun _ => 0))) (h49 : w[49]? = some (cI 0 72 (fun _ => 0))) (h50 : w[50]? = some (cI 0 6 (fun _ => 0))) (h51 : w[51]? = some (cI 0 3 (fun _ => 0))) (h52 : w[52]? = some (cO 3 [eI 0, eR (53)])) (h53 : w[53]? = some (cI 0 200 (fun _ => 0))) (h54 : w[54]? = some (cI 0 600 (fun _ => 0))) (h55 : w[55]? = some (cI 0 5 (fun _ => 0))) (h56 : w[56]? = some (cO 0 [eR (57), eI 0, eI 0, eI 0, eR (58), eR (59), eI 0, eI 0, eI 0, eI 0, eI 0, eI 0, eI 0])) (h57 : w[57]? = some (cO 4 [eI 0, eI 0, eI 0])) (h58 : w[58]? = some (cI 0 6 (fun _ => 0))) (h59 : w[59]? = some (cI 0 3 (fun _ => 0))) (h60 : w[60]? = some (cO 4 [eI 0, eI 0, eI 0])) (h61 : w[61]? = some (cI 0 40 (fun _ => 0))) (h62 : w[62]? = some (cI 0 216 (fun _ => 0))) (h63 : w[63]? = some (cI 0 1000 (fun _ => 0))) (h64 : w[64]? = some (cO 7 [eR (65), eR (66), eI 0, eI 0, eI 0, eI 0, eI 0, eI 0, eI 0, eI 0, eR (67), eI 0, eI 0, eI 0, eI 0, eI 0, eI 0, eI 0, eI 0, eI 0, eI 0, eI 0, eI 0, eI 0, eI 0, eI 0, eI 0, eR (68), eR (69), eI 0, eI 0, eR (70), eR (71), eI 0, eI 0])) (h65 : w[65]? = some (cI 0 5768 (upd (fun _ => 0) 8 (-1)))) (h66 : w[66]? = some (cI 1 3 (fun _ => 0))) (h67 : w[67]? = some (cI 0 201 (fun _ => 0))) (h68 : w[68]? = some (cI 0 3 (fun _ => 0))) (h69 : w[69]? = some (cI 0 6 (fun _ => 0))) (h70 : w[70]? = some (cI 0 1791 (fun _ => 0))) (h71 : w[71]? = some (cI 1 1000 (fun _ => 0))) : WW p l e room_1 s m #[Value.ref b] below meth c (lw_Z below #[Value.ref b] s) G 4 0 0 599928 7288326 457 [some (eK 2), some (eR 0), some (eR 64), some (eI 0)] [] w := by
  refine ww_aload_n K dL_law_457 rfl ?_
  refine ww_aload_nK K dL_law_458 rfl ?_
  refine ww_iload_n K dL_law_459 rfl ?_
  refine ww_iconst (v := 1) K dL_law_460 rfl ?_
  refine ww_iadd K dL_law_461 ?_
  rw [show ((0 : Int32) + 1) = 1 from rfl]
  refine ww_ialdK K dL_law_462 (by decide) (by rw [hL8]; exact wc_vin (by decide)) ?_
  refine ww_aload_nK K dL_law_463 rfl ?_
  refine ww_iload_n K dL_law_464 rfl ?_
  refine ww_iconst (v := 2) K dL_law_465 rfl ?_
  refine ww_iadd K dL_law_466 ?_
  rw [show ((0 : Int32) + 2) = 2 from rfl]
  refine ww_ialdK K dL_law_467 (by decide) (by rw [hL8]; exact wc_vin (by decide)) ?_
  refine ww_aload_nK K dL_law_468 rfl ?_
  refine ww_iload_n K dL_law_469 rfl ?_
  refine ww_iconst (v := 3) K dL_law_470 rfl ?_
  refine ww_iadd K dL_law_471 ?_
  rw [show ((0 : Int32) + 3) = 3 from rfl]
  refine ww_ialdK K dL_law_472 (by decide) (by rw [hL8]; exact wc_vin (by decide)) ?_
  refine ww_aload_nK K dL_law_473 rfl ?_
  refine ww_iload_n K dL_law_474 rfl ?_
  refine ww_iconst (v := 4) K dL_law_475 rfl ?_
  refine ww_iadd K dL_law_476 ?_
  rw [show ((0 : Int32) + 4) = 4 from rfl]
  refine ww_ialdK K dL_law_477 (by decide) (by rw [hL8]; exact wc_vin (by decide)) ?_
  refine ww_aload_nK K dL_law_478 rfl ?_
  refine ww_iload_n K dL_law_479 rfl ?_
  refine ww_iconst (v := 5) K dL_law_480 rfl ?_
  refine ww_iadd K dL_law_481 ?_
  rw [show ((0 : Int32) + 5) = 5 from rfl]
  refine ww_ialdK K dL_law_482 (by decide) (by rw [hL8]; exact wc_vin (by decide)) ?_
  refine ww_aload_nK K dL_law_483 rfl ?_
  refine ww_iload_n K dL_law_484 rfl ?_
  refine ww_bipush (v := 6) K dL_law_485 rfl ?_
  refine ww_iadd K dL_law_487 ?_
  rw [show ((0 : Int32) + 6) = 6 from rfl]
  refine ww_ialdK K dL_law_488 (by decide) (by rw [hL8]; exact wc_vin (by decide)) ?_
  refine ww_aload_nK K dL_law_489 rfl ?_
  refine ww_iload_n K dL_law_490 rfl ?_
  refine ww_bipush (v := 7) K dL_law_491 rfl ?_
  refine ww_iadd K dL_law_493 ?_
  rw [show ((0 : Int32) + 7) = 7 from rfl]
  refine ww_ialdK K dL_law_494 (by decide) (by rw [hL8]; exact wc_vin (by decide)) ?_
  refine ww_if_eq (tgt := 502) K dL_law_495 rfl (fun c_495 => ?_) (fun c_495 => ?_)
  · refine ww_iconst (v := 0) K dL_law_502 rfl ?_
    refine ww_cV K dL_law_503 lc_L_46 h0 ⟨_, rfl, rfl⟩ (ct_X6_vote0 G l h0 h1 h3 (fun _ _ => rfl) (a := _) (b := _) (c := _) (d := _) (f := _) (g := _) (h := _)) rfl ⟨Nat.le_of_ble_eq_true rfl, Nat.le_of_ble_eq_true rfl⟩ (Nat.le_of_ble_eq_true rfl) ?_
    refine ww_aload_n K dL_law_506 rfl ?_
    refine ww_aload_nK K dL_law_507 rfl ?_
    refine ww_iload_n K dL_law_508 rfl ?_
    refine ww_iconst (v := 1) K dL_law_509 rfl ?_
    refine ww_iadd K dL_law_510 ?_
    rw [show ((0 : Int32) + 1) = 1 from rfl]
    refine ww_ialdK K dL_law_511 (by decide) (by rw [hL8]; exact wc_vin (by decide)) ?_
    refine ww_aload_nK K dL_law_512 rfl ?_
    refine ww_iload_n K dL_law_513 rfl ?_
    refine ww_iconst (v := 2) K dL_law_514 rfl ?_
    refine ww_iadd K dL_law_515 ?_
    rw [show ((0 : Int32) + 2) = 2 from rfl]
    refine ww_ialdK K dL_law_516 (by decide) (by rw [hL8]; exact wc_vin (by decide)) ?_
    refine ww_aload_nK K dL_law_517 rfl ?_
    refine ww_iload_n K dL_law_518 rfl ?_
    refine ww_iconst (v := 3) K dL_law_519 rfl ?_
    refine ww_iadd K dL_law_520 ?_
    rw [show ((0 : Int32) + 3) = 3 from rfl]
    refine ww_ialdK K dL_law_521 (by decide) (by rw [hL8]; exact wc_vin (by decide)) ?_
    refine ww_aload_nK K dL_law_522 rfl ?_
    refine ww_iload_n K dL_law_523 rfl ?_
    refine ww_iconst (v := 4) K dL_law_524 rfl ?_
    refine ww_iadd K dL_law_525 ?_
    rw [show ((0 : Int32) + 4) = 4 from rfl]
    refine ww_ialdK K dL_law_526 (by decide) (by rw [hL8]; exact wc_vin (by decide)) ?_
    refine ww_aload_nK K dL_law_527 rfl ?_
    refine ww_iload_n K dL_law_528 rfl ?_
    refine ww_iconst (v := 5) K dL_law_529 rfl ?_
    refine ww_iadd K dL_law_530 ?_
    rw [show ((0 : Int32) + 5) = 5 from rfl]
    refine ww_ialdK K dL_law_531 (by decide) (by rw [hL8]; exact wc_vin (by decide)) ?_
    refine ww_aload_nK K dL_law_532 rfl ?_
    refine ww_iload_n K dL_law_533 rfl ?_
    refine ww_bipush (v := 6) K dL_law_534 rfl ?_
    refine ww_iadd K dL_law_536 ?_
    rw [show ((0 : Int32) + 6) = 6 from rfl]
    refine ww_ialdK K dL_law_537 (by decide) (by rw [hL8]; exact wc_vin (by decide)) ?_
    refine ww_aload_nK K dL_law_538 rfl ?_
    refine ww_iload_n K dL_law_539 rfl ?_
    refine ww_bipush (v := 7) K dL_law_540 rfl ?_
    refine ww_iadd K dL_law_542 ?_
    rw [show ((0 : Int32) + 7) = 7 from rfl]
    refine ww_ialdK K dL_law_543 (by decide) (by rw [hL8]; exact wc_vin (by decide)) ?_
    refine ww_if_eq (tgt := 551) K dL_law_544 rfl (fun c_544 => ?_) (fun c_544 => ?_)
    · refine ww_iconst (v := 0) K dL_law_551 rfl ?_
      refine ww_cV K dL_law_552 lc_L_50 h64 ⟨_, rfl, rfl⟩ (ct_X7_vote0 G l h64 h65 (fun k hk => wc_A0 hk) (a := _) (b := _) (c := _) (d := _) (f := _) (g := _) (h := _)) rfl ⟨Nat.le_of_ble_eq_true rfl, Nat.le_of_ble_eq_true rfl⟩ (Nat.le_of_ble_eq_true rfl) ?_
      refine ww_icmp_eq (tgt := 1621) K dL_law_555 rfl (fun _ => ?_) (fun cc_ => absurd cc_ (by decide))
      exact wc_law_fin K hr hL8 _ _ _
    · refine ww_iconst (v := 1) K dL_law_547 rfl ?_
      refine ww_goto (tgt := 552) K dL_law_548 rfl ?_
      refine ww_cV K dL_law_552 lc_L_50 h64 ⟨_, rfl, rfl⟩ (ct_X7_vote0 G l h64 h65 (fun k hk => wc_A0 hk) (a := _) (b := _) (c := _) (d := _) (f := _) (g := _) (h := _)) rfl ⟨Nat.le_of_ble_eq_true rfl, Nat.le_of_ble_eq_true rfl⟩ (Nat.le_of_ble_eq_true rfl) ?_
      refine ww_icmp_eq (tgt := 1621) K dL_law_555 rfl (fun _ => ?_) (fun cc_ => absurd cc_ (by decide))
      exact wc_law_fin K hr hL8 _ _ _
  · refine ww_iconst (v := 1) K dL_law_498 rfl ?_
    refine ww_goto (tgt := 503) K dL_law_499 rfl ?_
    refine ww_cV K dL_law_503 lc_L_46 h0 ⟨_, rfl, rfl⟩ (ct_X6_vote0 G l h0 h1 h3 (fun _ _ => rfl) (a := _) (b := _) (c := _) (d := _) (f := _) (g := _) (h := _)) rfl ⟨Nat.le_of_ble_eq_true rfl, Nat.le_of_ble_eq_true rfl⟩ (Nat.le_of_ble_eq_true rfl) ?_
    refine ww_aload_n K dL_law_506 rfl ?_
    refine ww_aload_nK K dL_law_507 rfl ?_
    refine ww_iload_n K dL_law_508 rfl ?_
    refine ww_iconst (v := 1) K dL_law_509 rfl ?_
    refine ww_iadd K dL_law_510 ?_
    rw [show ((0 : Int32) + 1) = 1 from rfl]
    refine ww_ialdK K dL_law_511 (by decide) (by rw [hL8]; exact wc_vin (by decide)) ?_
    refine ww_aload_nK K dL_law_512 rfl ?_
    refine ww_iload_n K dL_law_513 rfl ?_
    refine ww_iconst (v := 2) K dL_law_514 rfl ?_
    refine ww_iadd K dL_law_515 ?_
    rw [show ((0 : Int32) + 2) = 2 from rfl]
    refine ww_ialdK K dL_law_516 (by decide) (by rw [hL8]; exact wc_vin (by decide)) ?_
    refine ww_aload_nK K dL_law_517 rfl ?_
    refine ww_iload_n K dL_law_518 rfl ?_
    refine ww_iconst (v := 3) K dL_law_519 rfl ?_
    refine ww_iadd K dL_law_520 ?_
    rw [show ((0 : Int32) + 3) = 3 from rfl]
    refine ww_ialdK K dL_law_521 (by decide) (by rw [hL8]; exact wc_vin (by decide)) ?_
    refine ww_aload_nK K dL_law_522 rfl ?_
    refine ww_iload_n K dL_law_523 rfl ?_
    refine ww_iconst (v := 4) K dL_law_524 rfl ?_
    refine ww_iadd K dL_law_525 ?_
    rw [show ((0 : Int32) + 4) = 4 from rfl]
    refine ww_ialdK K dL_law_526 (by decide) (by rw [hL8]; exact wc_vin (by decide)) ?_
    refine ww_aload_nK K dL_law_527 rfl ?_
    refine ww_iload_n K dL_law_528 rfl ?_
    refine ww_iconst (v := 5) K dL_law_529 rfl ?_
    refine ww_iadd K dL_law_530 ?_
    rw [show ((0 : Int32) + 5) = 5 from rfl]
    refine ww_ialdK K dL_law_531 (by decide) (by rw [hL8]; exact wc_vin (by decide)) ?_
    refine ww_aload_nK K dL_law_532 rfl ?_
    refine ww_iload_n K dL_law_533 rfl ?_
    refine ww_bipush (v := 6) K dL_law_534 rfl ?_
    refine ww_iadd K dL_law_536 ?_
    rw [show ((0 : Int32) + 6) = 6 from rfl]
    refine ww_ialdK K dL_law_537 (by decide) (by rw [hL8]; exact wc_vin (by decide)) ?_
    refine ww_aload_nK K dL_law_538 rfl ?_
    refine ww_iload_n K dL_law_539 rfl ?_
    refine ww_bipush (v := 7) K dL_law_540 rfl ?_
    refine ww_iadd K dL_law_542 ?_
    rw [show ((0 : Int32) + 7) = 7 from rfl]
    refine ww_ialdK K dL_law_543 (by decide) (by rw [hL8]; exact wc_vin (by decide)) ?_
    refine ww_if_eq (tgt := 551) K dL_law_544 rfl (fun c_544 => ?_) (fun c_544 => ?_)
    · refine ww_iconst (v := 0) K dL_law_551 rfl ?_
      refine ww_cV K dL_law_552 lc_L_50 h64 ⟨_, rfl, rfl⟩ (ct_X7_vote0 G l h64 h65 (fun k hk => wc_A0 hk) (a := _) (b := _) (c := _) (d := _) (f := _) (g := _) (h := _)) rfl ⟨Nat.le_of_ble_eq_true rfl, Nat.le_of_ble_eq_true rfl⟩ (Nat.le_of_ble_eq_true rfl) ?_
      refine ww_icmp_eq (tgt := 1621) K dL_law_555 rfl (fun _ => ?_) (fun cc_ => absurd cc_ (by decide))
      exact wc_law_fin K hr hL8 _ _ _
    · refine ww_iconst (v := 1) K dL_law_547 rfl ?_
      refine ww_goto (tgt := 552) K dL_law_548 rfl ?_
      refine ww_cV K dL_law_552 lc_L_50 h64 ⟨_, rfl, rfl⟩ (ct_X7_vote0 G l h64 h65 (fun k hk => wc_A0 hk) (a := _) (b := _) (c := _) (d := _) (f := _) (g := _) (h := _)) rfl ⟨Nat.le_of_ble_eq_true rfl, Nat.le_of_ble_eq_true rfl⟩ (Nat.le_of_ble_eq_true rfl) ?_
      refine ww_icmp_eq (tgt := 1621) K dL_law_555 rfl (fun _ => ?_) (fun cc_ => absurd cc_ (by decide))
      exact wc_law_fin K hr hL8 _ _ _
set_option maxRecDepth 100000 in
set_option maxHeartbeats 8000000 in
theorem wc_law_order {p : Program} {l : Launch} {e : Env} {s : State} {m : MethodId} {below : List Frame} {meth : Method} {c : Code} {b : Nat} {G : EG} (K : wc_C p s m #[Value.ref b] meth c G RL cL_law 4 0) (hr : meth.sig.returnType = ret) (hL8 : gL G 2 = 8) {w : EW} (hlen : w.length = 72) (h0 : w[0]? = some (cO 6 [eR (1), eR (42), eR (43), eR (56), eR (60), eR (61), eR (62), eR (63)])) (h1 : w[1]? = some (cO 5 [eR (2), eI 0, eI 0, eI ((-1)), eR (3), eR (4), eR (5)])) (h2 : w[2]? = some (cI 0 600 (fun _ => 0))) (h3 : w[3]? = some (cI 0 6 (fun _ => 0))) (h4 : w[4]? = some (cQ 2 2 (va_up (va_up (fun _ => none) 0 (some 6)) 1 (some 14)))) (h5 : w[5]? = some (cQ 3 10 (va_up (va_up (va_up (va_up (va_up (va_up (va_up (va_up (va_up (va_up (fun _ => none) 0 (some 22)) 1 (some 24)) 2 (some 26)) 3 (some 28)) 4 (some 30)) 5 (some 32)) 6 (some 34)) 7 (some 36)) 8 (some 38)) 9 (some 40)))) (h6 : w[6]? = some (cO 2 [eI 0, eR (7), eR (8), eR (9), eR (10), eR (11), eR (12), eR (13), eI 0, eI 0, eI 0, eI 0, eI 0, eI 0])) (h7 : w[7]? = some (cI 0 6 (fun _ => 0))) (h8 : w[8]? = some (cI 0 6 (fun _ => 0))) (h9 : w[9]? = some (cI 0 6 (fun _ => 0))) (h10 : w[10]? = some (cI 0 6 (fun _ => 0))) (h11 : w[11]? = some (cI 0 72 (fun _ => 0))) (h12 : w[12]? = some (cI 0 6 (fun _ => 0))) (h13 : w[13]? = some (cI 0 3 (fun _ => 0))) (h14 : w[14]? = some (cO 2 [eI 0, eR (15), eR (16), eR (17), eR (18), eR (19), eR (20), eR (21), eI 0, eI 0, eI 0, eI 0, eI 0, eI 0])) (h15 : w[15]? = some (cI 0 6 (fun _ => 0))) (h16 : w[16]? = some (cI 0 6 (fun _ => 0))) (h17 : w[17]? = some (cI 0 6 (fun _ => 0))) (h18 : w[18]? = some (cI 0 6 (fun _ => 0))) (h19 : w[19]? = some (cI 0 72 (fun _ => 0))) (h20 : w[20]? = some (cI 0 6 (fun _ => 0))) (h21 : w[21]? = some (cI 0 3 (fun _ => 0))) (h22 : w[22]? = some (cO 3 [eI 0, eR (23)])) (h23 : w[23]? = some (cI 0 200 (fun _ => 0))) (h24 : w[24]? = some (cO 3 [eI 0, eR (25)])) (h25 : w[25]? = some (cI 0 200 (fun _ => 0))) (h26 : w[26]? = some (cO 3 [eI 0, eR (27)])) (h27 : w[27]? = some (cI 0 200 (fun _ => 0))) (h28 : w[28]? = some (cO 3 [eI 0, eR (29)])) (h29 : w[29]? = some (cI 0 200 (fun _ => 0))) (h30 : w[30]? = some (cO 3 [eI 0, eR (31)])) (h31 : w[31]? = some (cI 0 200 (fun _ => 0))) (h32 : w[32]? = some (cO 3 [eI 0, eR (33)])) (h33 : w[33]? = some (cI 0 200 (fun _ => 0))) (h34 : w[34]? = some (cO 3 [eI 0, eR (35)])) (h35 : w[35]? = some (cI 0 200 (fun _ => 0))) (h36 : w[36]? = some (cO 3 [eI 0, eR (37)])) (h37 : w[37]? = some (cI 0 200 (fun _ => 0))) (h38 : w[38]? = some (cO 3 [eI 0, eR (39)])) (h39 : w[39]? = some (cI 0 200 (fun _ => 0))) (h40 : w[40]? = some (cO 3 [eI 0, eR (41)])) (h41 : w[41]? = some (cI 0 200 (fun _ => 0))) (h42 : w[42]? = some (cQ 4 3 (fun _ => none))) (h43 : w[43]? = some (cO 1 [eR (44), eR (52), eI 0, eI 0, eR (54), eR (55), eI 0, eI 0, eI 0, eI 0, eI 0, eI 0])) (h44 : w[44]? = some (cO 2 [eI 0, eR (45), eR (46), eR (47), eR (48), eR (49), eR (50), eR (51), eI 0, eI 0, eI 0, eI 0, eI 0, eI 0])) (h45 : w[45]? = some (cI 0 6 (fun _ => 0))) (h46 : w[46]? = some (cI 0 6 (fun _ => 0))) (h47 : w[47]? = some (cI 0 6 (fun _ => 0))) (h48 : w[48]? = some (cI 0 6 (fun _ => 0))) (h49 : w[49]? = some (cI 0 72 (fun _ => 0))) (h50 : w[50]? = some (cI 0 6 (fun _ => 0))) (h51 : w[51]? = some (cI 0 3 (fun _ => 0))) (h52 : w[52]? = some (cO 3 [eI 0, eR (53)])) (h53 : w[53]? = some (cI 0 200 (fun _ => 0))) (h54 : w[54]? = some (cI 0 600 (fun _ => 0))) (h55 : w[55]? = some (cI 0 5 (fun _ => 0))) (h56 : w[56]? = some (cO 0 [eR (57), eI 0, eI 0, eI 0, eR (58), eR (59), eI 0, eI 0, eI 0, eI 0, eI 0, eI 0, eI 0])) (h57 : w[57]? = some (cO 4 [eI 0, eI 0, eI 0])) (h58 : w[58]? = some (cI 0 6 (fun _ => 0))) (h59 : w[59]? = some (cI 0 3 (fun _ => 0))) (h60 : w[60]? = some (cO 4 [eI 0, eI 0, eI 0])) (h61 : w[61]? = some (cI 0 40 (fun _ => 0))) (h62 : w[62]? = some (cI 0 216 (fun _ => 0))) (h63 : w[63]? = some (cI 0 1000 (fun _ => 0))) (h64 : w[64]? = some (cO 7 [eR (65), eR (66), eI 0, eI 0, eI 0, eI 0, eI 0, eI 0, eI 0, eI 0, eR (67), eI 0, eI 0, eI 0, eI 0, eI 0, eI 0, eI 0, eI 0, eI 0, eI 0, eI 0, eI 0, eI 0, eI 0, eI 0, eI 0, eR (68), eR (69), eI 0, eI 0, eR (70), eR (71), eI 0, eI 0])) (h65 : w[65]? = some (cI 0 5768 (upd (fun _ => 0) 8 (-1)))) (h66 : w[66]? = some (cI 1 3 (fun _ => 0))) (h67 : w[67]? = some (cI 0 201 (fun _ => 0))) (h68 : w[68]? = some (cI 0 3 (fun _ => 0))) (h69 : w[69]? = some (cI 0 6 (fun _ => 0))) (h70 : w[70]? = some (cI 0 1791 (fun _ => 0))) (h71 : w[71]? = some (cI 1 1000 (fun _ => 0))) : WW p l e room_1 s m #[Value.ref b] below meth c (lw_Z below #[Value.ref b] s) G 4 0 0 599928 7288326 560 [some (eK 2), some (eR 0), some (eR 64), some (eI 0)] [] w := by
  refine ww_aload_n K dL_law_560 rfl ?_
  refine ww_aload_nK K dL_law_561 rfl ?_
  refine ww_iload_n K dL_law_562 rfl ?_
  refine ww_iconst (v := 1) K dL_law_563 rfl ?_
  refine ww_iadd K dL_law_564 ?_
  rw [show ((0 : Int32) + 1) = 1 from rfl]
  refine ww_ialdK K dL_law_565 (by decide) (by rw [hL8]; exact wc_vin (by decide)) ?_
  refine ww_aload_nK K dL_law_566 rfl ?_
  refine ww_iload_n K dL_law_567 rfl ?_
  refine ww_iconst (v := 2) K dL_law_568 rfl ?_
  refine ww_iadd K dL_law_569 ?_
  rw [show ((0 : Int32) + 2) = 2 from rfl]
  refine ww_ialdK K dL_law_570 (by decide) (by rw [hL8]; exact wc_vin (by decide)) ?_
  refine ww_aload_nK K dL_law_571 rfl ?_
  refine ww_iload_n K dL_law_572 rfl ?_
  refine ww_iconst (v := 3) K dL_law_573 rfl ?_
  refine ww_iadd K dL_law_574 ?_
  rw [show ((0 : Int32) + 3) = 3 from rfl]
  refine ww_ialdK K dL_law_575 (by decide) (by rw [hL8]; exact wc_vin (by decide)) ?_
  refine ww_cV K dL_law_576 lc_L_51 h0 ⟨_, rfl, rfl⟩ (ct_X6_order0 G l h0 h1 h3 (fun _ _ => rfl) (a := _) (b := _) (c := _)) rfl ⟨Nat.le_of_ble_eq_true rfl, Nat.le_of_ble_eq_true rfl⟩ (Nat.le_of_ble_eq_true rfl) ?_
  refine ww_aload_n K dL_law_579 rfl ?_
  refine ww_aload_nK K dL_law_580 rfl ?_
  refine ww_iload_n K dL_law_581 rfl ?_
  refine ww_iconst (v := 1) K dL_law_582 rfl ?_
  refine ww_iadd K dL_law_583 ?_
  rw [show ((0 : Int32) + 1) = 1 from rfl]
  refine ww_ialdK K dL_law_584 (by decide) (by rw [hL8]; exact wc_vin (by decide)) ?_
  refine ww_aload_nK K dL_law_585 rfl ?_
  refine ww_iload_n K dL_law_586 rfl ?_
  refine ww_iconst (v := 2) K dL_law_587 rfl ?_
  refine ww_iadd K dL_law_588 ?_
  rw [show ((0 : Int32) + 2) = 2 from rfl]
  refine ww_ialdK K dL_law_589 (by decide) (by rw [hL8]; exact wc_vin (by decide)) ?_
  refine ww_aload_nK K dL_law_590 rfl ?_
  refine ww_iload_n K dL_law_591 rfl ?_
  refine ww_iconst (v := 3) K dL_law_592 rfl ?_
  refine ww_iadd K dL_law_593 ?_
  rw [show ((0 : Int32) + 3) = 3 from rfl]
  refine ww_ialdK K dL_law_594 (by decide) (by rw [hL8]; exact wc_vin (by decide)) ?_
  refine ww_cV K dL_law_595 lc_L_54 h64 ⟨_, rfl, rfl⟩ (ct_X7_order0 G l h64 h65 (fun k hk => wc_A0 hk) (a := _) (b := _) (c := _)) rfl ⟨Nat.le_of_ble_eq_true rfl, Nat.le_of_ble_eq_true rfl⟩ (Nat.le_of_ble_eq_true rfl) ?_
  refine ww_icmp_eq (tgt := 1621) K dL_law_598 rfl (fun _ => ?_) (fun cc_ => absurd cc_ (by decide))
  exact wc_law_fin K hr hL8 _ _ _
set_option maxRecDepth 100000 in
set_option maxHeartbeats 8000000 in
theorem wc_law_broken {p : Program} {l : Launch} {e : Env} {s : State} {m : MethodId} {below : List Frame} {meth : Method} {c : Code} {b : Nat} {G : EG} (K : wc_C p s m #[Value.ref b] meth c G RL cL_law 4 0) (hr : meth.sig.returnType = ret) (hL8 : gL G 2 = 8) {w : EW} (hlen : w.length = 72) (h0 : w[0]? = some (cO 6 [eR (1), eR (42), eR (43), eR (56), eR (60), eR (61), eR (62), eR (63)])) (h1 : w[1]? = some (cO 5 [eR (2), eI 0, eI 0, eI ((-1)), eR (3), eR (4), eR (5)])) (h2 : w[2]? = some (cI 0 600 (fun _ => 0))) (h3 : w[3]? = some (cI 0 6 (fun _ => 0))) (h4 : w[4]? = some (cQ 2 2 (va_up (va_up (fun _ => none) 0 (some 6)) 1 (some 14)))) (h5 : w[5]? = some (cQ 3 10 (va_up (va_up (va_up (va_up (va_up (va_up (va_up (va_up (va_up (va_up (fun _ => none) 0 (some 22)) 1 (some 24)) 2 (some 26)) 3 (some 28)) 4 (some 30)) 5 (some 32)) 6 (some 34)) 7 (some 36)) 8 (some 38)) 9 (some 40)))) (h6 : w[6]? = some (cO 2 [eI 0, eR (7), eR (8), eR (9), eR (10), eR (11), eR (12), eR (13), eI 0, eI 0, eI 0, eI 0, eI 0, eI 0])) (h7 : w[7]? = some (cI 0 6 (fun _ => 0))) (h8 : w[8]? = some (cI 0 6 (fun _ => 0))) (h9 : w[9]? = some (cI 0 6 (fun _ => 0))) (h10 : w[10]? = some (cI 0 6 (fun _ => 0))) (h11 : w[11]? = some (cI 0 72 (fun _ => 0))) (h12 : w[12]? = some (cI 0 6 (fun _ => 0))) (h13 : w[13]? = some (cI 0 3 (fun _ => 0))) (h14 : w[14]? = some (cO 2 [eI 0, eR (15), eR (16), eR (17), eR (18), eR (19), eR (20), eR (21), eI 0, eI 0, eI 0, eI 0, eI 0, eI 0])) (h15 : w[15]? = some (cI 0 6 (fun _ => 0))) (h16 : w[16]? = some (cI 0 6 (fun _ => 0))) (h17 : w[17]? = some (cI 0 6 (fun _ => 0))) (h18 : w[18]? = some (cI 0 6 (fun _ => 0))) (h19 : w[19]? = some (cI 0 72 (fun _ => 0))) (h20 : w[20]? = some (cI 0 6 (fun _ => 0))) (h21 : w[21]? = some (cI 0 3 (fun _ => 0))) (h22 : w[22]? = some (cO 3 [eI 0, eR (23)])) (h23 : w[23]? = some (cI 0 200 (fun _ => 0))) (h24 : w[24]? = some (cO 3 [eI 0, eR (25)])) (h25 : w[25]? = some (cI 0 200 (fun _ => 0))) (h26 : w[26]? = some (cO 3 [eI 0, eR (27)])) (h27 : w[27]? = some (cI 0 200 (fun _ => 0))) (h28 : w[28]? = some (cO 3 [eI 0, eR (29)])) (h29 : w[29]? = some (cI 0 200 (fun _ => 0))) (h30 : w[30]? = some (cO 3 [eI 0, eR (31)])) (h31 : w[31]? = some (cI 0 200 (fun _ => 0))) (h32 : w[32]? = some (cO 3 [eI 0, eR (33)])) (h33 : w[33]? = some (cI 0 200 (fun _ => 0))) (h34 : w[34]? = some (cO 3 [eI 0, eR (35)])) (h35 : w[35]? = some (cI 0 200 (fun _ => 0))) (h36 : w[36]? = some (cO 3 [eI 0, eR (37)])) (h37 : w[37]? = some (cI 0 200 (fun _ => 0))) (h38 : w[38]? = some (cO 3 [eI 0, eR (39)])) (h39 : w[39]? = some (cI 0 200 (fun _ => 0))) (h40 : w[40]? = some (cO 3 [eI 0, eR (41)])) (h41 : w[41]? = some (cI 0 200 (fun _ => 0))) (h42 : w[42]? = some (cQ 4 3 (fun _ => none))) (h43 : w[43]? = some (cO 1 [eR (44), eR (52), eI 0, eI 0, eR (54), eR (55), eI 0, eI 0, eI 0, eI 0, eI 0, eI 0])) (h44 : w[44]? = some (cO 2 [eI 0, eR (45), eR (46), eR (47), eR (48), eR (49), eR (50), eR (51), eI 0, eI 0, eI 0, eI 0, eI 0, eI 0])) (h45 : w[45]? = some (cI 0 6 (fun _ => 0))) (h46 : w[46]? = some (cI 0 6 (fun _ => 0))) (h47 : w[47]? = some (cI 0 6 (fun _ => 0))) (h48 : w[48]? = some (cI 0 6 (fun _ => 0))) (h49 : w[49]? = some (cI 0 72 (fun _ => 0))) (h50 : w[50]? = some (cI 0 6 (fun _ => 0))) (h51 : w[51]? = some (cI 0 3 (fun _ => 0))) (h52 : w[52]? = some (cO 3 [eI 0, eR (53)])) (h53 : w[53]? = some (cI 0 200 (fun _ => 0))) (h54 : w[54]? = some (cI 0 600 (fun _ => 0))) (h55 : w[55]? = some (cI 0 5 (fun _ => 0))) (h56 : w[56]? = some (cO 0 [eR (57), eI 0, eI 0, eI 0, eR (58), eR (59), eI 0, eI 0, eI 0, eI 0, eI 0, eI 0, eI 0])) (h57 : w[57]? = some (cO 4 [eI 0, eI 0, eI 0])) (h58 : w[58]? = some (cI 0 6 (fun _ => 0))) (h59 : w[59]? = some (cI 0 3 (fun _ => 0))) (h60 : w[60]? = some (cO 4 [eI 0, eI 0, eI 0])) (h61 : w[61]? = some (cI 0 40 (fun _ => 0))) (h62 : w[62]? = some (cI 0 216 (fun _ => 0))) (h63 : w[63]? = some (cI 0 1000 (fun _ => 0))) (h64 : w[64]? = some (cO 7 [eR (65), eR (66), eI 0, eI 0, eI 0, eI 0, eI 0, eI 0, eI 0, eI 0, eR (67), eI 0, eI 0, eI 0, eI 0, eI 0, eI 0, eI 0, eI 0, eI 0, eI 0, eI 0, eI 0, eI 0, eI 0, eI 0, eI 0, eR (68), eR (69), eI 0, eI 0, eR (70), eR (71), eI 0, eI 0])) (h65 : w[65]? = some (cI 0 5768 (upd (fun _ => 0) 8 (-1)))) (h66 : w[66]? = some (cI 1 3 (fun _ => 0))) (h67 : w[67]? = some (cI 0 201 (fun _ => 0))) (h68 : w[68]? = some (cI 0 3 (fun _ => 0))) (h69 : w[69]? = some (cI 0 6 (fun _ => 0))) (h70 : w[70]? = some (cI 0 1791 (fun _ => 0))) (h71 : w[71]? = some (cI 1 1000 (fun _ => 0))) : WW p l e room_1 s m #[Value.ref b] below meth c (lw_Z below #[Value.ref b] s) G 4 0 0 599928 7288326 603 [some (eK 2), some (eR 0), some (eR 64), some (eI 0)] [] w := by
  refine ww_aload_n K dL_law_603 rfl ?_
  refine ww_aload_nK K dL_law_604 rfl ?_
  refine ww_iload_n K dL_law_605 rfl ?_
  refine ww_iconst (v := 1) K dL_law_606 rfl ?_
  refine ww_iadd K dL_law_607 ?_
  rw [show ((0 : Int32) + 1) = 1 from rfl]
  refine ww_ialdK K dL_law_608 (by decide) (by rw [hL8]; exact wc_vin (by decide)) ?_
  refine ww_aload_nK K dL_law_609 rfl ?_
  refine ww_iload_n K dL_law_610 rfl ?_
  refine ww_iconst (v := 2) K dL_law_611 rfl ?_
  refine ww_iadd K dL_law_612 ?_
  rw [show ((0 : Int32) + 2) = 2 from rfl]
  refine ww_ialdK K dL_law_613 (by decide) (by rw [hL8]; exact wc_vin (by decide)) ?_
  refine ww_aload_nK K dL_law_614 rfl ?_
  refine ww_iload_n K dL_law_615 rfl ?_
  refine ww_iconst (v := 3) K dL_law_616 rfl ?_
  refine ww_iadd K dL_law_617 ?_
  rw [show ((0 : Int32) + 3) = 3 from rfl]
  refine ww_ialdK K dL_law_618 (by decide) (by rw [hL8]; exact wc_vin (by decide)) ?_
  refine ww_aload_nK K dL_law_619 rfl ?_
  refine ww_iload_n K dL_law_620 rfl ?_
  refine ww_iconst (v := 4) K dL_law_621 rfl ?_
  refine ww_iadd K dL_law_622 ?_
  rw [show ((0 : Int32) + 4) = 4 from rfl]
  refine ww_ialdK K dL_law_623 (by decide) (by rw [hL8]; exact wc_vin (by decide)) ?_
  refine ww_aload_nK K dL_law_624 rfl ?_
  refine ww_iload_n K dL_law_625 rfl ?_
  refine ww_iconst (v := 5) K dL_law_626 rfl ?_
  refine ww_iadd K dL_law_627 ?_
  rw [show ((0 : Int32) + 5) = 5 from rfl]
  refine ww_ialdK K dL_law_628 (by decide) (by rw [hL8]; exact wc_vin (by decide)) ?_
  refine ww_aload_nK K dL_law_629 rfl ?_
  refine ww_iload_n K dL_law_630 rfl ?_
  refine ww_bipush (v := 6) K dL_law_631 rfl ?_
  refine ww_iadd K dL_law_633 ?_
  rw [show ((0 : Int32) + 6) = 6 from rfl]
  refine ww_ialdK K dL_law_634 (by decide) (by rw [hL8]; exact wc_vin (by decide)) ?_
  refine ww_cV K dL_law_635 lc_L_55 h0 ⟨_, rfl, rfl⟩ (ct_X6_broken0 G l h0 h1 h3 (fun _ _ => rfl) (a := _) (b := _) (c := _) (d := _) (f := _) (g := _)) rfl ⟨Nat.le_of_ble_eq_true rfl, Nat.le_of_ble_eq_true rfl⟩ (Nat.le_of_ble_eq_true rfl) ?_
  refine ww_aload_n K dL_law_638 rfl ?_
  refine ww_aload_nK K dL_law_639 rfl ?_
  refine ww_iload_n K dL_law_640 rfl ?_
  refine ww_iconst (v := 1) K dL_law_641 rfl ?_
  refine ww_iadd K dL_law_642 ?_
  rw [show ((0 : Int32) + 1) = 1 from rfl]
  refine ww_ialdK K dL_law_643 (by decide) (by rw [hL8]; exact wc_vin (by decide)) ?_
  refine ww_aload_nK K dL_law_644 rfl ?_
  refine ww_iload_n K dL_law_645 rfl ?_
  refine ww_iconst (v := 2) K dL_law_646 rfl ?_
  refine ww_iadd K dL_law_647 ?_
  rw [show ((0 : Int32) + 2) = 2 from rfl]
  refine ww_ialdK K dL_law_648 (by decide) (by rw [hL8]; exact wc_vin (by decide)) ?_
  refine ww_aload_nK K dL_law_649 rfl ?_
  refine ww_iload_n K dL_law_650 rfl ?_
  refine ww_iconst (v := 3) K dL_law_651 rfl ?_
  refine ww_iadd K dL_law_652 ?_
  rw [show ((0 : Int32) + 3) = 3 from rfl]
  refine ww_ialdK K dL_law_653 (by decide) (by rw [hL8]; exact wc_vin (by decide)) ?_
  refine ww_aload_nK K dL_law_654 rfl ?_
  refine ww_iload_n K dL_law_655 rfl ?_
  refine ww_iconst (v := 4) K dL_law_656 rfl ?_
  refine ww_iadd K dL_law_657 ?_
  rw [show ((0 : Int32) + 4) = 4 from rfl]
  refine ww_ialdK K dL_law_658 (by decide) (by rw [hL8]; exact wc_vin (by decide)) ?_
  refine ww_aload_nK K dL_law_659 rfl ?_
  refine ww_iload_n K dL_law_660 rfl ?_
  refine ww_iconst (v := 5) K dL_law_661 rfl ?_
  refine ww_iadd K dL_law_662 ?_
  rw [show ((0 : Int32) + 5) = 5 from rfl]
  refine ww_ialdK K dL_law_663 (by decide) (by rw [hL8]; exact wc_vin (by decide)) ?_
  refine ww_aload_nK K dL_law_664 rfl ?_
  refine ww_iload_n K dL_law_665 rfl ?_
  refine ww_bipush (v := 6) K dL_law_666 rfl ?_
  refine ww_iadd K dL_law_668 ?_
  rw [show ((0 : Int32) + 6) = 6 from rfl]
  refine ww_ialdK K dL_law_669 (by decide) (by rw [hL8]; exact wc_vin (by decide)) ?_
  refine ww_cV K dL_law_670 lc_L_58 h64 ⟨_, rfl, rfl⟩ (ct_X7_broken0 G l h64 h65 (fun k hk => wc_A0 hk) (a := _) (b := _) (c := _) (d := _) (f := _) (g := _)) rfl ⟨Nat.le_of_ble_eq_true rfl, Nat.le_of_ble_eq_true rfl⟩ (Nat.le_of_ble_eq_true rfl) ?_
  refine ww_icmp_eq (tgt := 1621) K dL_law_673 rfl (fun _ => ?_) (fun cc_ => absurd cc_ (by decide))
  exact wc_law_fin K hr hL8 _ _ _
set_option maxRecDepth 100000 in
set_option maxHeartbeats 8000000 in
theorem wc_law_deed {p : Program} {l : Launch} {e : Env} {s : State} {m : MethodId} {below : List Frame} {meth : Method} {c : Code} {b : Nat} {G : EG} (K : wc_C p s m #[Value.ref b] meth c G RL cL_law 4 0) (hr : meth.sig.returnType = ret) (hL8 : gL G 2 = 8) {w : EW} (hlen : w.length = 72) (h0 : w[0]? = some (cO 6 [eR (1), eR (42), eR (43), eR (56), eR (60), eR (61), eR (62), eR (63)])) (h1 : w[1]? = some (cO 5 [eR (2), eI 0, eI 0, eI ((-1)), eR (3), eR (4), eR (5)])) (h2 : w[2]? = some (cI 0 600 (fun _ => 0))) (h3 : w[3]? = some (cI 0 6 (fun _ => 0))) (h4 : w[4]? = some (cQ 2 2 (va_up (va_up (fun _ => none) 0 (some 6)) 1 (some 14)))) (h5 : w[5]? = some (cQ 3 10 (va_up (va_up (va_up (va_up (va_up (va_up (va_up (va_up (va_up (va_up (fun _ => none) 0 (some 22)) 1 (some 24)) 2 (some 26)) 3 (some 28)) 4 (some 30)) 5 (some 32)) 6 (some 34)) 7 (some 36)) 8 (some 38)) 9 (some 40)))) (h6 : w[6]? = some (cO 2 [eI 0, eR (7), eR (8), eR (9), eR (10), eR (11), eR (12), eR (13), eI 0, eI 0, eI 0, eI 0, eI 0, eI 0])) (h7 : w[7]? = some (cI 0 6 (fun _ => 0))) (h8 : w[8]? = some (cI 0 6 (fun _ => 0))) (h9 : w[9]? = some (cI 0 6 (fun _ => 0))) (h10 : w[10]? = some (cI 0 6 (fun _ => 0))) (h11 : w[11]? = some (cI 0 72 (fun _ => 0))) (h12 : w[12]? = some (cI 0 6 (fun _ => 0))) (h13 : w[13]? = some (cI 0 3 (fun _ => 0))) (h14 : w[14]? = some (cO 2 [eI 0, eR (15), eR (16), eR (17), eR (18), eR (19), eR (20), eR (21), eI 0, eI 0, eI 0, eI 0, eI 0, eI 0])) (h15 : w[15]? = some (cI 0 6 (fun _ => 0))) (h16 : w[16]? = some (cI 0 6 (fun _ => 0))) (h17 : w[17]? = some (cI 0 6 (fun _ => 0))) (h18 : w[18]? = some (cI 0 6 (fun _ => 0))) (h19 : w[19]? = some (cI 0 72 (fun _ => 0))) (h20 : w[20]? = some (cI 0 6 (fun _ => 0))) (h21 : w[21]? = some (cI 0 3 (fun _ => 0))) (h22 : w[22]? = some (cO 3 [eI 0, eR (23)])) (h23 : w[23]? = some (cI 0 200 (fun _ => 0))) (h24 : w[24]? = some (cO 3 [eI 0, eR (25)])) (h25 : w[25]? = some (cI 0 200 (fun _ => 0))) (h26 : w[26]? = some (cO 3 [eI 0, eR (27)])) (h27 : w[27]? = some (cI 0 200 (fun _ => 0))) (h28 : w[28]? = some (cO 3 [eI 0, eR (29)])) (h29 : w[29]? = some (cI 0 200 (fun _ => 0))) (h30 : w[30]? = some (cO 3 [eI 0, eR (31)])) (h31 : w[31]? = some (cI 0 200 (fun _ => 0))) (h32 : w[32]? = some (cO 3 [eI 0, eR (33)])) (h33 : w[33]? = some (cI 0 200 (fun _ => 0))) (h34 : w[34]? = some (cO 3 [eI 0, eR (35)])) (h35 : w[35]? = some (cI 0 200 (fun _ => 0))) (h36 : w[36]? = some (cO 3 [eI 0, eR (37)])) (h37 : w[37]? = some (cI 0 200 (fun _ => 0))) (h38 : w[38]? = some (cO 3 [eI 0, eR (39)])) (h39 : w[39]? = some (cI 0 200 (fun _ => 0))) (h40 : w[40]? = some (cO 3 [eI 0, eR (41)])) (h41 : w[41]? = some (cI 0 200 (fun _ => 0))) (h42 : w[42]? = some (cQ 4 3 (fun _ => none))) (h43 : w[43]? = some (cO 1 [eR (44), eR (52), eI 0, eI 0, eR (54), eR (55), eI 0, eI 0, eI 0, eI 0, eI 0, eI 0])) (h44 : w[44]? = some (cO 2 [eI 0, eR (45), eR (46), eR (47), eR (48), eR (49), eR (50), eR (51), eI 0, eI 0, eI 0, eI 0, eI 0, eI 0])) (h45 : w[45]? = some (cI 0 6 (fun _ => 0))) (h46 : w[46]? = some (cI 0 6 (fun _ => 0))) (h47 : w[47]? = some (cI 0 6 (fun _ => 0))) (h48 : w[48]? = some (cI 0 6 (fun _ => 0))) (h49 : w[49]? = some (cI 0 72 (fun _ => 0))) (h50 : w[50]? = some (cI 0 6 (fun _ => 0))) (h51 : w[51]? = some (cI 0 3 (fun _ => 0))) (h52 : w[52]? = some (cO 3 [eI 0, eR (53)])) (h53 : w[53]? = some (cI 0 200 (fun _ => 0))) (h54 : w[54]? = some (cI 0 600 (fun _ => 0))) (h55 : w[55]? = some (cI 0 5 (fun _ => 0))) (h56 : w[56]? = some (cO 0 [eR (57), eI 0, eI 0, eI 0, eR (58), eR (59), eI 0, eI 0, eI 0, eI 0, eI 0, eI 0, eI 0])) (h57 : w[57]? = some (cO 4 [eI 0, eI 0, eI 0])) (h58 : w[58]? = some (cI 0 6 (fun _ => 0))) (h59 : w[59]? = some (cI 0 3 (fun _ => 0))) (h60 : w[60]? = some (cO 4 [eI 0, eI 0, eI 0])) (h61 : w[61]? = some (cI 0 40 (fun _ => 0))) (h62 : w[62]? = some (cI 0 216 (fun _ => 0))) (h63 : w[63]? = some (cI 0 1000 (fun _ => 0))) (h64 : w[64]? = some (cO 7 [eR (65), eR (66), eI 0, eI 0, eI 0, eI 0, eI 0, eI 0, eI 0, eI 0, eR (67), eI 0, eI 0, eI 0, eI 0, eI 0, eI 0, eI 0, eI 0, eI 0, eI 0, eI 0, eI 0, eI 0, eI 0, eI 0, eI 0, eR (68), eR (69), eI 0, eI 0, eR (70), eR (71), eI 0, eI 0])) (h65 : w[65]? = some (cI 0 5768 (upd (fun _ => 0) 8 (-1)))) (h66 : w[66]? = some (cI 1 3 (fun _ => 0))) (h67 : w[67]? = some (cI 0 201 (fun _ => 0))) (h68 : w[68]? = some (cI 0 3 (fun _ => 0))) (h69 : w[69]? = some (cI 0 6 (fun _ => 0))) (h70 : w[70]? = some (cI 0 1791 (fun _ => 0))) (h71 : w[71]? = some (cI 1 1000 (fun _ => 0))) : WW p l e room_1 s m #[Value.ref b] below meth c (lw_Z below #[Value.ref b] s) G 4 0 0 599928 7288326 678 [some (eK 2), some (eR 0), some (eR 64), some (eI 0)] [] w := by
  refine ww_aload_n K dL_law_678 rfl ?_
  refine ww_aload_nK K dL_law_679 rfl ?_
  refine ww_iload_n K dL_law_680 rfl ?_
  refine ww_iconst (v := 1) K dL_law_681 rfl ?_
  refine ww_iadd K dL_law_682 ?_
  rw [show ((0 : Int32) + 1) = 1 from rfl]
  refine ww_ialdK K dL_law_683 (by decide) (by rw [hL8]; exact wc_vin (by decide)) ?_
  refine ww_aload_nK K dL_law_684 rfl ?_
  refine ww_iload_n K dL_law_685 rfl ?_
  refine ww_iconst (v := 2) K dL_law_686 rfl ?_
  refine ww_iadd K dL_law_687 ?_
  rw [show ((0 : Int32) + 2) = 2 from rfl]
  refine ww_ialdK K dL_law_688 (by decide) (by rw [hL8]; exact wc_vin (by decide)) ?_
  refine ww_aload_nK K dL_law_689 rfl ?_
  refine ww_iload_n K dL_law_690 rfl ?_
  refine ww_iconst (v := 3) K dL_law_691 rfl ?_
  refine ww_iadd K dL_law_692 ?_
  rw [show ((0 : Int32) + 3) = 3 from rfl]
  refine ww_ialdK K dL_law_693 (by decide) (by rw [hL8]; exact wc_vin (by decide)) ?_
  refine ww_cV K dL_law_694 lc_L_59 h0 ⟨_, rfl, rfl⟩ (ct_X6_deed0 G l h0 h1 h3 (fun _ _ => rfl) (a := _) (b := _) (c := _)) rfl ⟨Nat.le_of_ble_eq_true rfl, Nat.le_of_ble_eq_true rfl⟩ (Nat.le_of_ble_eq_true rfl) ?_
  refine ww_aload_n K dL_law_697 rfl ?_
  refine ww_aload_nK K dL_law_698 rfl ?_
  refine ww_iload_n K dL_law_699 rfl ?_
  refine ww_iconst (v := 1) K dL_law_700 rfl ?_
  refine ww_iadd K dL_law_701 ?_
  rw [show ((0 : Int32) + 1) = 1 from rfl]
  refine ww_ialdK K dL_law_702 (by decide) (by rw [hL8]; exact wc_vin (by decide)) ?_
  refine ww_aload_nK K dL_law_703 rfl ?_
  refine ww_iload_n K dL_law_704 rfl ?_
  refine ww_iconst (v := 2) K dL_law_705 rfl ?_
  refine ww_iadd K dL_law_706 ?_
  rw [show ((0 : Int32) + 2) = 2 from rfl]
  refine ww_ialdK K dL_law_707 (by decide) (by rw [hL8]; exact wc_vin (by decide)) ?_
  refine ww_aload_nK K dL_law_708 rfl ?_
  refine ww_iload_n K dL_law_709 rfl ?_
  refine ww_iconst (v := 3) K dL_law_710 rfl ?_
  refine ww_iadd K dL_law_711 ?_
  rw [show ((0 : Int32) + 3) = 3 from rfl]
  refine ww_ialdK K dL_law_712 (by decide) (by rw [hL8]; exact wc_vin (by decide)) ?_
  refine ww_cV K dL_law_713 lc_L_62 h64 ⟨_, rfl, rfl⟩ (ct_X7_deed0 G l h64 h65 (fun k hk => wc_A0 hk) (a := _) (b := _) (c := _)) rfl ⟨Nat.le_of_ble_eq_true rfl, Nat.le_of_ble_eq_true rfl⟩ (Nat.le_of_ble_eq_true rfl) ?_
  refine ww_icmp_eq (tgt := 1621) K dL_law_716 rfl (fun _ => ?_) (fun cc_ => absurd cc_ (by decide))
  exact wc_law_fin K hr hL8 _ _ _
set_option maxRecDepth 100000 in
set_option maxHeartbeats 8000000 in
theorem wc_law_stop {p : Program} {l : Launch} {e : Env} {s : State} {m : MethodId} {below : List Frame} {meth : Method} {c : Code} {b : Nat} {G : EG} (K : wc_C p s m #[Value.ref b] meth c G RL cL_law 4 0) (hr : meth.sig.returnType = ret) (hL8 : gL G 2 = 8) {w : EW} (hlen : w.length = 72) (h0 : w[0]? = some (cO 6 [eR (1), eR (42), eR (43), eR (56), eR (60), eR (61), eR (62), eR (63)])) (h1 : w[1]? = some (cO 5 [eR (2), eI 0, eI 0, eI ((-1)), eR (3), eR (4), eR (5)])) (h2 : w[2]? = some (cI 0 600 (fun _ => 0))) (h3 : w[3]? = some (cI 0 6 (fun _ => 0))) (h4 : w[4]? = some (cQ 2 2 (va_up (va_up (fun _ => none) 0 (some 6)) 1 (some 14)))) (h5 : w[5]? = some (cQ 3 10 (va_up (va_up (va_up (va_up (va_up (va_up (va_up (va_up (va_up (va_up (fun _ => none) 0 (some 22)) 1 (some 24)) 2 (some 26)) 3 (some 28)) 4 (some 30)) 5 (some 32)) 6 (some 34)) 7 (some 36)) 8 (some 38)) 9 (some 40)))) (h6 : w[6]? = some (cO 2 [eI 0, eR (7), eR (8), eR (9), eR (10), eR (11), eR (12), eR (13), eI 0, eI 0, eI 0, eI 0, eI 0, eI 0])) (h7 : w[7]? = some (cI 0 6 (fun _ => 0))) (h8 : w[8]? = some (cI 0 6 (fun _ => 0))) (h9 : w[9]? = some (cI 0 6 (fun _ => 0))) (h10 : w[10]? = some (cI 0 6 (fun _ => 0))) (h11 : w[11]? = some (cI 0 72 (fun _ => 0))) (h12 : w[12]? = some (cI 0 6 (fun _ => 0))) (h13 : w[13]? = some (cI 0 3 (fun _ => 0))) (h14 : w[14]? = some (cO 2 [eI 0, eR (15), eR (16), eR (17), eR (18), eR (19), eR (20), eR (21), eI 0, eI 0, eI 0, eI 0, eI 0, eI 0])) (h15 : w[15]? = some (cI 0 6 (fun _ => 0))) (h16 : w[16]? = some (cI 0 6 (fun _ => 0))) (h17 : w[17]? = some (cI 0 6 (fun _ => 0))) (h18 : w[18]? = some (cI 0 6 (fun _ => 0))) (h19 : w[19]? = some (cI 0 72 (fun _ => 0))) (h20 : w[20]? = some (cI 0 6 (fun _ => 0))) (h21 : w[21]? = some (cI 0 3 (fun _ => 0))) (h22 : w[22]? = some (cO 3 [eI 0, eR (23)])) (h23 : w[23]? = some (cI 0 200 (fun _ => 0))) (h24 : w[24]? = some (cO 3 [eI 0, eR (25)])) (h25 : w[25]? = some (cI 0 200 (fun _ => 0))) (h26 : w[26]? = some (cO 3 [eI 0, eR (27)])) (h27 : w[27]? = some (cI 0 200 (fun _ => 0))) (h28 : w[28]? = some (cO 3 [eI 0, eR (29)])) (h29 : w[29]? = some (cI 0 200 (fun _ => 0))) (h30 : w[30]? = some (cO 3 [eI 0, eR (31)])) (h31 : w[31]? = some (cI 0 200 (fun _ => 0))) (h32 : w[32]? = some (cO 3 [eI 0, eR (33)])) (h33 : w[33]? = some (cI 0 200 (fun _ => 0))) (h34 : w[34]? = some (cO 3 [eI 0, eR (35)])) (h35 : w[35]? = some (cI 0 200 (fun _ => 0))) (h36 : w[36]? = some (cO 3 [eI 0, eR (37)])) (h37 : w[37]? = some (cI 0 200 (fun _ => 0))) (h38 : w[38]? = some (cO 3 [eI 0, eR (39)])) (h39 : w[39]? = some (cI 0 200 (fun _ => 0))) (h40 : w[40]? = some (cO 3 [eI 0, eR (41)])) (h41 : w[41]? = some (cI 0 200 (fun _ => 0))) (h42 : w[42]? = some (cQ 4 3 (fun _ => none))) (h43 : w[43]? = some (cO 1 [eR (44), eR (52), eI 0, eI 0, eR (54), eR (55), eI 0, eI 0, eI 0, eI 0, eI 0, eI 0])) (h44 : w[44]? = some (cO 2 [eI 0, eR (45), eR (46), eR (47), eR (48), eR (49), eR (50), eR (51), eI 0, eI 0, eI 0, eI 0, eI 0, eI 0])) (h45 : w[45]? = some (cI 0 6 (fun _ => 0))) (h46 : w[46]? = some (cI 0 6 (fun _ => 0))) (h47 : w[47]? = some (cI 0 6 (fun _ => 0))) (h48 : w[48]? = some (cI 0 6 (fun _ => 0))) (h49 : w[49]? = some (cI 0 72 (fun _ => 0))) (h50 : w[50]? = some (cI 0 6 (fun _ => 0))) (h51 : w[51]? = some (cI 0 3 (fun _ => 0))) (h52 : w[52]? = some (cO 3 [eI 0, eR (53)])) (h53 : w[53]? = some (cI 0 200 (fun _ => 0))) (h54 : w[54]? = some (cI 0 600 (fun _ => 0))) (h55 : w[55]? = some (cI 0 5 (fun _ => 0))) (h56 : w[56]? = some (cO 0 [eR (57), eI 0, eI 0, eI 0, eR (58), eR (59), eI 0, eI 0, eI 0, eI 0, eI 0, eI 0, eI 0])) (h57 : w[57]? = some (cO 4 [eI 0, eI 0, eI 0])) (h58 : w[58]? = some (cI 0 6 (fun _ => 0))) (h59 : w[59]? = some (cI 0 3 (fun _ => 0))) (h60 : w[60]? = some (cO 4 [eI 0, eI 0, eI 0])) (h61 : w[61]? = some (cI 0 40 (fun _ => 0))) (h62 : w[62]? = some (cI 0 216 (fun _ => 0))) (h63 : w[63]? = some (cI 0 1000 (fun _ => 0))) (h64 : w[64]? = some (cO 7 [eR (65), eR (66), eI 0, eI 0, eI 0, eI 0, eI 0, eI 0, eI 0, eI 0, eR (67), eI 0, eI 0, eI 0, eI 0, eI 0, eI 0, eI 0, eI 0, eI 0, eI 0, eI 0, eI 0, eI 0, eI 0, eI 0, eI 0, eR (68), eR (69), eI 0, eI 0, eR (70), eR (71), eI 0, eI 0])) (h65 : w[65]? = some (cI 0 5768 (upd (fun _ => 0) 8 (-1)))) (h66 : w[66]? = some (cI 1 3 (fun _ => 0))) (h67 : w[67]? = some (cI 0 201 (fun _ => 0))) (h68 : w[68]? = some (cI 0 3 (fun _ => 0))) (h69 : w[69]? = some (cI 0 6 (fun _ => 0))) (h70 : w[70]? = some (cI 0 1791 (fun _ => 0))) (h71 : w[71]? = some (cI 1 1000 (fun _ => 0))) : WW p l e room_1 s m #[Value.ref b] below meth c (lw_Z below #[Value.ref b] s) G 4 0 0 599928 7288326 721 [some (eK 2), some (eR 0), some (eR 64), some (eI 0)] [] w := by
  refine ww_aload_n K dL_law_721 rfl ?_
  refine ww_aload_nK K dL_law_722 rfl ?_
  refine ww_iload_n K dL_law_723 rfl ?_
  refine ww_iconst (v := 1) K dL_law_724 rfl ?_
  refine ww_iadd K dL_law_725 ?_
  rw [show ((0 : Int32) + 1) = 1 from rfl]
  refine ww_ialdK K dL_law_726 (by decide) (by rw [hL8]; exact wc_vin (by decide)) ?_
  refine ww_aload_nK K dL_law_727 rfl ?_
  refine ww_iload_n K dL_law_728 rfl ?_
  refine ww_iconst (v := 2) K dL_law_729 rfl ?_
  refine ww_iadd K dL_law_730 ?_
  rw [show ((0 : Int32) + 2) = 2 from rfl]
  refine ww_ialdK K dL_law_731 (by decide) (by rw [hL8]; exact wc_vin (by decide)) ?_
  refine ww_aload_nK K dL_law_732 rfl ?_
  refine ww_iload_n K dL_law_733 rfl ?_
  refine ww_iconst (v := 3) K dL_law_734 rfl ?_
  refine ww_iadd K dL_law_735 ?_
  rw [show ((0 : Int32) + 3) = 3 from rfl]
  refine ww_ialdK K dL_law_736 (by decide) (by rw [hL8]; exact wc_vin (by decide)) ?_
  refine ww_cV K dL_law_737 lc_L_63 h0 ⟨_, rfl, rfl⟩ (ct_X6_stop0 G l h0 h1 h3 (fun _ _ => rfl) (a := _) (b := _) (c := _)) rfl ⟨Nat.le_of_ble_eq_true rfl, Nat.le_of_ble_eq_true rfl⟩ (Nat.le_of_ble_eq_true rfl) ?_
  refine ww_aload_n K dL_law_740 rfl ?_
  refine ww_aload_nK K dL_law_741 rfl ?_
  refine ww_iload_n K dL_law_742 rfl ?_
  refine ww_iconst (v := 1) K dL_law_743 rfl ?_
  refine ww_iadd K dL_law_744 ?_
  rw [show ((0 : Int32) + 1) = 1 from rfl]
  refine ww_ialdK K dL_law_745 (by decide) (by rw [hL8]; exact wc_vin (by decide)) ?_
  refine ww_aload_nK K dL_law_746 rfl ?_
  refine ww_iload_n K dL_law_747 rfl ?_
  refine ww_iconst (v := 2) K dL_law_748 rfl ?_
  refine ww_iadd K dL_law_749 ?_
  rw [show ((0 : Int32) + 2) = 2 from rfl]
  refine ww_ialdK K dL_law_750 (by decide) (by rw [hL8]; exact wc_vin (by decide)) ?_
  refine ww_aload_nK K dL_law_751 rfl ?_
  refine ww_iload_n K dL_law_752 rfl ?_
  refine ww_iconst (v := 3) K dL_law_753 rfl ?_
  refine ww_iadd K dL_law_754 ?_
  rw [show ((0 : Int32) + 3) = 3 from rfl]
  refine ww_ialdK K dL_law_755 (by decide) (by rw [hL8]; exact wc_vin (by decide)) ?_
  refine ww_cV K dL_law_756 lc_L_66 h64 ⟨_, rfl, rfl⟩ (ct_X7_stop0 G l h64 h65 (fun k hk => wc_A0 hk) (a := _) (b := _) (c := _)) rfl ⟨Nat.le_of_ble_eq_true rfl, Nat.le_of_ble_eq_true rfl⟩ (Nat.le_of_ble_eq_true rfl) ?_
  refine ww_icmp_eq (tgt := 1621) K dL_law_759 rfl (fun _ => ?_) (fun cc_ => absurd cc_ (by decide))
  exact wc_law_fin K hr hL8 _ _ _
set_option maxRecDepth 100000 in
set_option maxHeartbeats 8000000 in
theorem wc_law_state {p : Program} {l : Launch} {e : Env} {s : State} {m : MethodId} {below : List Frame} {meth : Method} {c : Code} {b : Nat} {G : EG} (K : wc_C p s m #[Value.ref b] meth c G RL cL_law 4 0) (hr : meth.sig.returnType = ret) (hL8 : gL G 2 = 8) {w : EW} (hlen : w.length = 72) (h0 : w[0]? = some (cO 6 [eR (1), eR (42), eR (43), eR (56), eR (60), eR (61), eR (62), eR (63)])) (h1 : w[1]? = some (cO 5 [eR (2), eI 0, eI 0, eI ((-1)), eR (3), eR (4), eR (5)])) (h2 : w[2]? = some (cI 0 600 (fun _ => 0))) (h3 : w[3]? = some (cI 0 6 (fun _ => 0))) (h4 : w[4]? = some (cQ 2 2 (va_up (va_up (fun _ => none) 0 (some 6)) 1 (some 14)))) (h5 : w[5]? = some (cQ 3 10 (va_up (va_up (va_up (va_up (va_up (va_up (va_up (va_up (va_up (va_up (fun _ => none) 0 (some 22)) 1 (some 24)) 2 (some 26)) 3 (some 28)) 4 (some 30)) 5 (some 32)) 6 (some 34)) 7 (some 36)) 8 (some 38)) 9 (some 40)))) (h6 : w[6]? = some (cO 2 [eI 0, eR (7), eR (8), eR (9), eR (10), eR (11), eR (12), eR (13), eI 0, eI 0, eI 0, eI 0, eI 0, eI 0])) (h7 : w[7]? = some (cI 0 6 (fun _ => 0))) (h8 : w[8]? = some (cI 0 6 (fun _ => 0))) (h9 : w[9]? = some (cI 0 6 (fun _ => 0))) (h10 : w[10]? = some (cI 0 6 (fun _ => 0))) (h11 : w[11]? = some (cI 0 72 (fun _ => 0))) (h12 : w[12]? = some (cI 0 6 (fun _ => 0))) (h13 : w[13]? = some (cI 0 3 (fun _ => 0))) (h14 : w[14]? = some (cO 2 [eI 0, eR (15), eR (16), eR (17), eR (18), eR (19), eR (20), eR (21), eI 0, eI 0, eI 0, eI 0, eI 0, eI 0])) (h15 : w[15]? = some (cI 0 6 (fun _ => 0))) (h16 : w[16]? = some (cI 0 6 (fun _ => 0))) (h17 : w[17]? = some (cI 0 6 (fun _ => 0))) (h18 : w[18]? = some (cI 0 6 (fun _ => 0))) (h19 : w[19]? = some (cI 0 72 (fun _ => 0))) (h20 : w[20]? = some (cI 0 6 (fun _ => 0))) (h21 : w[21]? = some (cI 0 3 (fun _ => 0))) (h22 : w[22]? = some (cO 3 [eI 0, eR (23)])) (h23 : w[23]? = some (cI 0 200 (fun _ => 0))) (h24 : w[24]? = some (cO 3 [eI 0, eR (25)])) (h25 : w[25]? = some (cI 0 200 (fun _ => 0))) (h26 : w[26]? = some (cO 3 [eI 0, eR (27)])) (h27 : w[27]? = some (cI 0 200 (fun _ => 0))) (h28 : w[28]? = some (cO 3 [eI 0, eR (29)])) (h29 : w[29]? = some (cI 0 200 (fun _ => 0))) (h30 : w[30]? = some (cO 3 [eI 0, eR (31)])) (h31 : w[31]? = some (cI 0 200 (fun _ => 0))) (h32 : w[32]? = some (cO 3 [eI 0, eR (33)])) (h33 : w[33]? = some (cI 0 200 (fun _ => 0))) (h34 : w[34]? = some (cO 3 [eI 0, eR (35)])) (h35 : w[35]? = some (cI 0 200 (fun _ => 0))) (h36 : w[36]? = some (cO 3 [eI 0, eR (37)])) (h37 : w[37]? = some (cI 0 200 (fun _ => 0))) (h38 : w[38]? = some (cO 3 [eI 0, eR (39)])) (h39 : w[39]? = some (cI 0 200 (fun _ => 0))) (h40 : w[40]? = some (cO 3 [eI 0, eR (41)])) (h41 : w[41]? = some (cI 0 200 (fun _ => 0))) (h42 : w[42]? = some (cQ 4 3 (fun _ => none))) (h43 : w[43]? = some (cO 1 [eR (44), eR (52), eI 0, eI 0, eR (54), eR (55), eI 0, eI 0, eI 0, eI 0, eI 0, eI 0])) (h44 : w[44]? = some (cO 2 [eI 0, eR (45), eR (46), eR (47), eR (48), eR (49), eR (50), eR (51), eI 0, eI 0, eI 0, eI 0, eI 0, eI 0])) (h45 : w[45]? = some (cI 0 6 (fun _ => 0))) (h46 : w[46]? = some (cI 0 6 (fun _ => 0))) (h47 : w[47]? = some (cI 0 6 (fun _ => 0))) (h48 : w[48]? = some (cI 0 6 (fun _ => 0))) (h49 : w[49]? = some (cI 0 72 (fun _ => 0))) (h50 : w[50]? = some (cI 0 6 (fun _ => 0))) (h51 : w[51]? = some (cI 0 3 (fun _ => 0))) (h52 : w[52]? = some (cO 3 [eI 0, eR (53)])) (h53 : w[53]? = some (cI 0 200 (fun _ => 0))) (h54 : w[54]? = some (cI 0 600 (fun _ => 0))) (h55 : w[55]? = some (cI 0 5 (fun _ => 0))) (h56 : w[56]? = some (cO 0 [eR (57), eI 0, eI 0, eI 0, eR (58), eR (59), eI 0, eI 0, eI 0, eI 0, eI 0, eI 0, eI 0])) (h57 : w[57]? = some (cO 4 [eI 0, eI 0, eI 0])) (h58 : w[58]? = some (cI 0 6 (fun _ => 0))) (h59 : w[59]? = some (cI 0 3 (fun _ => 0))) (h60 : w[60]? = some (cO 4 [eI 0, eI 0, eI 0])) (h61 : w[61]? = some (cI 0 40 (fun _ => 0))) (h62 : w[62]? = some (cI 0 216 (fun _ => 0))) (h63 : w[63]? = some (cI 0 1000 (fun _ => 0))) (h64 : w[64]? = some (cO 7 [eR (65), eR (66), eI 0, eI 0, eI 0, eI 0, eI 0, eI 0, eI 0, eI 0, eR (67), eI 0, eI 0, eI 0, eI 0, eI 0, eI 0, eI 0, eI 0, eI 0, eI 0, eI 0, eI 0, eI 0, eI 0, eI 0, eI 0, eR (68), eR (69), eI 0, eI 0, eR (70), eR (71), eI 0, eI 0])) (h65 : w[65]? = some (cI 0 5768 (upd (fun _ => 0) 8 (-1)))) (h66 : w[66]? = some (cI 1 3 (fun _ => 0))) (h67 : w[67]? = some (cI 0 201 (fun _ => 0))) (h68 : w[68]? = some (cI 0 3 (fun _ => 0))) (h69 : w[69]? = some (cI 0 6 (fun _ => 0))) (h70 : w[70]? = some (cI 0 1791 (fun _ => 0))) (h71 : w[71]? = some (cI 1 1000 (fun _ => 0))) : WW p l e room_1 s m #[Value.ref b] below meth c (lw_Z below #[Value.ref b] s) G 4 0 0 599928 7288326 764 [some (eK 2), some (eR 0), some (eR 64), some (eI 0)] [] w := by
  refine ww_aload_n K dL_law_764 rfl ?_
  refine ww_aload_nK K dL_law_765 rfl ?_
  refine ww_iload_n K dL_law_766 rfl ?_
  refine ww_iconst (v := 1) K dL_law_767 rfl ?_
  refine ww_iadd K dL_law_768 ?_
  rw [show ((0 : Int32) + 1) = 1 from rfl]
  refine ww_ialdK K dL_law_769 (by decide) (by rw [hL8]; exact wc_vin (by decide)) ?_
  refine ww_aload_nK K dL_law_770 rfl ?_
  refine ww_iload_n K dL_law_771 rfl ?_
  refine ww_iconst (v := 2) K dL_law_772 rfl ?_
  refine ww_iadd K dL_law_773 ?_
  rw [show ((0 : Int32) + 2) = 2 from rfl]
  refine ww_ialdK K dL_law_774 (by decide) (by rw [hL8]; exact wc_vin (by decide)) ?_
  refine ww_aload_nK K dL_law_775 rfl ?_
  refine ww_iload_n K dL_law_776 rfl ?_
  refine ww_iconst (v := 3) K dL_law_777 rfl ?_
  refine ww_iadd K dL_law_778 ?_
  rw [show ((0 : Int32) + 3) = 3 from rfl]
  refine ww_ialdK K dL_law_779 (by decide) (by rw [hL8]; exact wc_vin (by decide)) ?_
  refine ww_aload_nK K dL_law_780 rfl ?_
  refine ww_iload_n K dL_law_781 rfl ?_
  refine ww_iconst (v := 4) K dL_law_782 rfl ?_
  refine ww_iadd K dL_law_783 ?_
  rw [show ((0 : Int32) + 4) = 4 from rfl]
  refine ww_ialdK K dL_law_784 (by decide) (by rw [hL8]; exact wc_vin (by decide)) ?_
  refine ww_aload_nK K dL_law_785 rfl ?_
  refine ww_iload_n K dL_law_786 rfl ?_
  refine ww_iconst (v := 5) K dL_law_787 rfl ?_
  refine ww_iadd K dL_law_788 ?_
  rw [show ((0 : Int32) + 5) = 5 from rfl]
  refine ww_ialdK K dL_law_789 (by decide) (by rw [hL8]; exact wc_vin (by decide)) ?_
  refine ww_cV K dL_law_790 lc_L_67 h0 ⟨_, rfl, rfl⟩ (ct_X6_state0 G l h0 h1 h3 (fun _ _ => rfl) (a := _) (b := _) (c := _) (d := _) (f := _)) rfl ⟨Nat.le_of_ble_eq_true rfl, Nat.le_of_ble_eq_true rfl⟩ (Nat.le_of_ble_eq_true rfl) ?_
  refine ww_aload_n K dL_law_793 rfl ?_
  refine ww_aload_nK K dL_law_794 rfl ?_
  refine ww_iload_n K dL_law_795 rfl ?_
  refine ww_iconst (v := 1) K dL_law_796 rfl ?_
  refine ww_iadd K dL_law_797 ?_
  rw [show ((0 : Int32) + 1) = 1 from rfl]
  refine ww_ialdK K dL_law_798 (by decide) (by rw [hL8]; exact wc_vin (by decide)) ?_
  refine ww_aload_nK K dL_law_799 rfl ?_
  refine ww_iload_n K dL_law_800 rfl ?_
  refine ww_iconst (v := 2) K dL_law_801 rfl ?_
  refine ww_iadd K dL_law_802 ?_
  rw [show ((0 : Int32) + 2) = 2 from rfl]
  refine ww_ialdK K dL_law_803 (by decide) (by rw [hL8]; exact wc_vin (by decide)) ?_
  refine ww_aload_nK K dL_law_804 rfl ?_
  refine ww_iload_n K dL_law_805 rfl ?_
  refine ww_iconst (v := 3) K dL_law_806 rfl ?_
  refine ww_iadd K dL_law_807 ?_
  rw [show ((0 : Int32) + 3) = 3 from rfl]
  refine ww_ialdK K dL_law_808 (by decide) (by rw [hL8]; exact wc_vin (by decide)) ?_
  refine ww_aload_nK K dL_law_809 rfl ?_
  refine ww_iload_n K dL_law_810 rfl ?_
  refine ww_iconst (v := 4) K dL_law_811 rfl ?_
  refine ww_iadd K dL_law_812 ?_
  rw [show ((0 : Int32) + 4) = 4 from rfl]
  refine ww_ialdK K dL_law_813 (by decide) (by rw [hL8]; exact wc_vin (by decide)) ?_
  refine ww_aload_nK K dL_law_814 rfl ?_
  refine ww_iload_n K dL_law_815 rfl ?_
  refine ww_iconst (v := 5) K dL_law_816 rfl ?_
  refine ww_iadd K dL_law_817 ?_
  rw [show ((0 : Int32) + 5) = 5 from rfl]
  refine ww_ialdK K dL_law_818 (by decide) (by rw [hL8]; exact wc_vin (by decide)) ?_
  refine ww_cV K dL_law_819 lc_L_70 h64 ⟨_, rfl, rfl⟩ (ct_X7_state0 G l h64 h65 (fun k hk => wc_A0 hk) (a := _) (b := _) (c := _) (d := _) (f := _)) rfl ⟨Nat.le_of_ble_eq_true rfl, Nat.le_of_ble_eq_true rfl⟩ (Nat.le_of_ble_eq_true rfl) ?_
  refine ww_icmp_eq (tgt := 1621) K dL_law_822 rfl (fun _ => ?_) (fun cc_ => absurd cc_ (by decide))
  exact wc_law_fin K hr hL8 _ _ _
set_option maxRecDepth 100000 in
set_option maxHeartbeats 8000000 in
theorem wc_law_agreed {p : Program} {l : Launch} {e : Env} {s : State} {m : MethodId} {below : List Frame} {meth : Method} {c : Code} {b : Nat} {G : EG} (K : wc_C p s m #[Value.ref b] meth c G RL cL_law 4 0) (hr : meth.sig.returnType = ret) (hL8 : gL G 2 = 8) {w : EW} (hlen : w.length = 72) (h0 : w[0]? = some (cO 6 [eR (1), eR (42), eR (43), eR (56), eR (60), eR (61), eR (62), eR (63)])) (h1 : w[1]? = some (cO 5 [eR (2), eI 0, eI 0, eI ((-1)), eR (3), eR (4), eR (5)])) (h2 : w[2]? = some (cI 0 600 (fun _ => 0))) (h3 : w[3]? = some (cI 0 6 (fun _ => 0))) (h4 : w[4]? = some (cQ 2 2 (va_up (va_up (fun _ => none) 0 (some 6)) 1 (some 14)))) (h5 : w[5]? = some (cQ 3 10 (va_up (va_up (va_up (va_up (va_up (va_up (va_up (va_up (va_up (va_up (fun _ => none) 0 (some 22)) 1 (some 24)) 2 (some 26)) 3 (some 28)) 4 (some 30)) 5 (some 32)) 6 (some 34)) 7 (some 36)) 8 (some 38)) 9 (some 40)))) (h6 : w[6]? = some (cO 2 [eI 0, eR (7), eR (8), eR (9), eR (10), eR (11), eR (12), eR (13), eI 0, eI 0, eI 0, eI 0, eI 0, eI 0])) (h7 : w[7]? = some (cI 0 6 (fun _ => 0))) (h8 : w[8]? = some (cI 0 6 (fun _ => 0))) (h9 : w[9]? = some (cI 0 6 (fun _ => 0))) (h10 : w[10]? = some (cI 0 6 (fun _ => 0))) (h11 : w[11]? = some (cI 0 72 (fun _ => 0))) (h12 : w[12]? = some (cI 0 6 (fun _ => 0))) (h13 : w[13]? = some (cI 0 3 (fun _ => 0))) (h14 : w[14]? = some (cO 2 [eI 0, eR (15), eR (16), eR (17), eR (18), eR (19), eR (20), eR (21), eI 0, eI 0, eI 0, eI 0, eI 0, eI 0])) (h15 : w[15]? = some (cI 0 6 (fun _ => 0))) (h16 : w[16]? = some (cI 0 6 (fun _ => 0))) (h17 : w[17]? = some (cI 0 6 (fun _ => 0))) (h18 : w[18]? = some (cI 0 6 (fun _ => 0))) (h19 : w[19]? = some (cI 0 72 (fun _ => 0))) (h20 : w[20]? = some (cI 0 6 (fun _ => 0))) (h21 : w[21]? = some (cI 0 3 (fun _ => 0))) (h22 : w[22]? = some (cO 3 [eI 0, eR (23)])) (h23 : w[23]? = some (cI 0 200 (fun _ => 0))) (h24 : w[24]? = some (cO 3 [eI 0, eR (25)])) (h25 : w[25]? = some (cI 0 200 (fun _ => 0))) (h26 : w[26]? = some (cO 3 [eI 0, eR (27)])) (h27 : w[27]? = some (cI 0 200 (fun _ => 0))) (h28 : w[28]? = some (cO 3 [eI 0, eR (29)])) (h29 : w[29]? = some (cI 0 200 (fun _ => 0))) (h30 : w[30]? = some (cO 3 [eI 0, eR (31)])) (h31 : w[31]? = some (cI 0 200 (fun _ => 0))) (h32 : w[32]? = some (cO 3 [eI 0, eR (33)])) (h33 : w[33]? = some (cI 0 200 (fun _ => 0))) (h34 : w[34]? = some (cO 3 [eI 0, eR (35)])) (h35 : w[35]? = some (cI 0 200 (fun _ => 0))) (h36 : w[36]? = some (cO 3 [eI 0, eR (37)])) (h37 : w[37]? = some (cI 0 200 (fun _ => 0))) (h38 : w[38]? = some (cO 3 [eI 0, eR (39)])) (h39 : w[39]? = some (cI 0 200 (fun _ => 0))) (h40 : w[40]? = some (cO 3 [eI 0, eR (41)])) (h41 : w[41]? = some (cI 0 200 (fun _ => 0))) (h42 : w[42]? = some (cQ 4 3 (fun _ => none))) (h43 : w[43]? = some (cO 1 [eR (44), eR (52), eI 0, eI 0, eR (54), eR (55), eI 0, eI 0, eI 0, eI 0, eI 0, eI 0])) (h44 : w[44]? = some (cO 2 [eI 0, eR (45), eR (46), eR (47), eR (48), eR (49), eR (50), eR (51), eI 0, eI 0, eI 0, eI 0, eI 0, eI 0])) (h45 : w[45]? = some (cI 0 6 (fun _ => 0))) (h46 : w[46]? = some (cI 0 6 (fun _ => 0))) (h47 : w[47]? = some (cI 0 6 (fun _ => 0))) (h48 : w[48]? = some (cI 0 6 (fun _ => 0))) (h49 : w[49]? = some (cI 0 72 (fun _ => 0))) (h50 : w[50]? = some (cI 0 6 (fun _ => 0))) (h51 : w[51]? = some (cI 0 3 (fun _ => 0))) (h52 : w[52]? = some (cO 3 [eI 0, eR (53)])) (h53 : w[53]? = some (cI 0 200 (fun _ => 0))) (h54 : w[54]? = some (cI 0 600 (fun _ => 0))) (h55 : w[55]? = some (cI 0 5 (fun _ => 0))) (h56 : w[56]? = some (cO 0 [eR (57), eI 0, eI 0, eI 0, eR (58), eR (59), eI 0, eI 0, eI 0, eI 0, eI 0, eI 0, eI 0])) (h57 : w[57]? = some (cO 4 [eI 0, eI 0, eI 0])) (h58 : w[58]? = some (cI 0 6 (fun _ => 0))) (h59 : w[59]? = some (cI 0 3 (fun _ => 0))) (h60 : w[60]? = some (cO 4 [eI 0, eI 0, eI 0])) (h61 : w[61]? = some (cI 0 40 (fun _ => 0))) (h62 : w[62]? = some (cI 0 216 (fun _ => 0))) (h63 : w[63]? = some (cI 0 1000 (fun _ => 0))) (h64 : w[64]? = some (cO 7 [eR (65), eR (66), eI 0, eI 0, eI 0, eI 0, eI 0, eI 0, eI 0, eI 0, eR (67), eI 0, eI 0, eI 0, eI 0, eI 0, eI 0, eI 0, eI 0, eI 0, eI 0, eI 0, eI 0, eI 0, eI 0, eI 0, eI 0, eR (68), eR (69), eI 0, eI 0, eR (70), eR (71), eI 0, eI 0])) (h65 : w[65]? = some (cI 0 5768 (upd (fun _ => 0) 8 (-1)))) (h66 : w[66]? = some (cI 1 3 (fun _ => 0))) (h67 : w[67]? = some (cI 0 201 (fun _ => 0))) (h68 : w[68]? = some (cI 0 3 (fun _ => 0))) (h69 : w[69]? = some (cI 0 6 (fun _ => 0))) (h70 : w[70]? = some (cI 0 1791 (fun _ => 0))) (h71 : w[71]? = some (cI 1 1000 (fun _ => 0))) : WW p l e room_1 s m #[Value.ref b] below meth c (lw_Z below #[Value.ref b] s) G 4 0 0 599928 7288326 827 [some (eK 2), some (eR 0), some (eR 64), some (eI 0)] [] w := by
  refine ww_aload_n K dL_law_827 rfl ?_
  refine ww_aload_nK K dL_law_828 rfl ?_
  refine ww_iload_n K dL_law_829 rfl ?_
  refine ww_iconst (v := 1) K dL_law_830 rfl ?_
  refine ww_iadd K dL_law_831 ?_
  rw [show ((0 : Int32) + 1) = 1 from rfl]
  refine ww_ialdK K dL_law_832 (by decide) (by rw [hL8]; exact wc_vin (by decide)) ?_
  refine ww_aload_nK K dL_law_833 rfl ?_
  refine ww_iload_n K dL_law_834 rfl ?_
  refine ww_iconst (v := 2) K dL_law_835 rfl ?_
  refine ww_iadd K dL_law_836 ?_
  rw [show ((0 : Int32) + 2) = 2 from rfl]
  refine ww_ialdK K dL_law_837 (by decide) (by rw [hL8]; exact wc_vin (by decide)) ?_
  refine ww_aload_nK K dL_law_838 rfl ?_
  refine ww_iload_n K dL_law_839 rfl ?_
  refine ww_iconst (v := 3) K dL_law_840 rfl ?_
  refine ww_iadd K dL_law_841 ?_
  rw [show ((0 : Int32) + 3) = 3 from rfl]
  refine ww_ialdK K dL_law_842 (by decide) (by rw [hL8]; exact wc_vin (by decide)) ?_
  refine ww_aload_nK K dL_law_843 rfl ?_
  refine ww_iload_n K dL_law_844 rfl ?_
  refine ww_iconst (v := 4) K dL_law_845 rfl ?_
  refine ww_iadd K dL_law_846 ?_
  rw [show ((0 : Int32) + 4) = 4 from rfl]
  refine ww_ialdK K dL_law_847 (by decide) (by rw [hL8]; exact wc_vin (by decide)) ?_
  refine ww_aload_nK K dL_law_848 rfl ?_
  refine ww_iload_n K dL_law_849 rfl ?_
  refine ww_iconst (v := 5) K dL_law_850 rfl ?_
  refine ww_iadd K dL_law_851 ?_
  rw [show ((0 : Int32) + 5) = 5 from rfl]
  refine ww_ialdK K dL_law_852 (by decide) (by rw [hL8]; exact wc_vin (by decide)) ?_
  refine ww_cV K dL_law_853 lc_L_71 h0 ⟨_, rfl, rfl⟩ (ct_X6_agreed0 G l h0 h1 h3 (fun _ _ => rfl) (a := _) (b := _) (c := _) (d := _) (f := _)) rfl ⟨Nat.le_of_ble_eq_true rfl, Nat.le_of_ble_eq_true rfl⟩ (Nat.le_of_ble_eq_true rfl) ?_
  refine ww_aload_n K dL_law_856 rfl ?_
  refine ww_aload_nK K dL_law_857 rfl ?_
  refine ww_iload_n K dL_law_858 rfl ?_
  refine ww_iconst (v := 1) K dL_law_859 rfl ?_
  refine ww_iadd K dL_law_860 ?_
  rw [show ((0 : Int32) + 1) = 1 from rfl]
  refine ww_ialdK K dL_law_861 (by decide) (by rw [hL8]; exact wc_vin (by decide)) ?_
  refine ww_aload_nK K dL_law_862 rfl ?_
  refine ww_iload_n K dL_law_863 rfl ?_
  refine ww_iconst (v := 2) K dL_law_864 rfl ?_
  refine ww_iadd K dL_law_865 ?_
  rw [show ((0 : Int32) + 2) = 2 from rfl]
  refine ww_ialdK K dL_law_866 (by decide) (by rw [hL8]; exact wc_vin (by decide)) ?_
  refine ww_aload_nK K dL_law_867 rfl ?_
  refine ww_iload_n K dL_law_868 rfl ?_
  refine ww_iconst (v := 3) K dL_law_869 rfl ?_
  refine ww_iadd K dL_law_870 ?_
  rw [show ((0 : Int32) + 3) = 3 from rfl]
  refine ww_ialdK K dL_law_871 (by decide) (by rw [hL8]; exact wc_vin (by decide)) ?_
  refine ww_aload_nK K dL_law_872 rfl ?_
  refine ww_iload_n K dL_law_873 rfl ?_
  refine ww_iconst (v := 4) K dL_law_874 rfl ?_
  refine ww_iadd K dL_law_875 ?_
  rw [show ((0 : Int32) + 4) = 4 from rfl]
  refine ww_ialdK K dL_law_876 (by decide) (by rw [hL8]; exact wc_vin (by decide)) ?_
  refine ww_aload_nK K dL_law_877 rfl ?_
  refine ww_iload_n K dL_law_878 rfl ?_
  refine ww_iconst (v := 5) K dL_law_879 rfl ?_
  refine ww_iadd K dL_law_880 ?_
  rw [show ((0 : Int32) + 5) = 5 from rfl]
  refine ww_ialdK K dL_law_881 (by decide) (by rw [hL8]; exact wc_vin (by decide)) ?_
  refine ww_cV K dL_law_882 lc_L_74 h64 ⟨_, rfl, rfl⟩ (ct_X7_agreed0 G l h64 h65 (fun k hk => wc_A0 hk) (a := _) (b := _) (c := _) (d := _) (f := _)) rfl ⟨Nat.le_of_ble_eq_true rfl, Nat.le_of_ble_eq_true rfl⟩ (Nat.le_of_ble_eq_true rfl) ?_
  refine ww_icmp_eq (tgt := 1621) K dL_law_885 rfl (fun _ => ?_) (fun cc_ => absurd cc_ (by decide))
  exact wc_law_fin K hr hL8 _ _ _
set_option maxRecDepth 100000 in
set_option maxHeartbeats 8000000 in
theorem wc_law_power {p : Program} {l : Launch} {e : Env} {s : State} {m : MethodId} {below : List Frame} {meth : Method} {c : Code} {b : Nat} {G : EG} (K : wc_C p s m #[Value.ref b] meth c G RL cL_law 4 0) (hr : meth.sig.returnType = ret) (hL8 : gL G 2 = 8) {w : EW} (hlen : w.length = 72) (h0 : w[0]? = some (cO 6 [eR (1), eR (42), eR (43), eR (56), eR (60), eR (61), eR (62), eR (63)])) (h1 : w[1]? = some (cO 5 [eR (2), eI 0, eI 0, eI ((-1)), eR (3), eR (4), eR (5)])) (h2 : w[2]? = some (cI 0 600 (fun _ => 0))) (h3 : w[3]? = some (cI 0 6 (fun _ => 0))) (h4 : w[4]? = some (cQ 2 2 (va_up (va_up (fun _ => none) 0 (some 6)) 1 (some 14)))) (h5 : w[5]? = some (cQ 3 10 (va_up (va_up (va_up (va_up (va_up (va_up (va_up (va_up (va_up (va_up (fun _ => none) 0 (some 22)) 1 (some 24)) 2 (some 26)) 3 (some 28)) 4 (some 30)) 5 (some 32)) 6 (some 34)) 7 (some 36)) 8 (some 38)) 9 (some 40)))) (h6 : w[6]? = some (cO 2 [eI 0, eR (7), eR (8), eR (9), eR (10), eR (11), eR (12), eR (13), eI 0, eI 0, eI 0, eI 0, eI 0, eI 0])) (h7 : w[7]? = some (cI 0 6 (fun _ => 0))) (h8 : w[8]? = some (cI 0 6 (fun _ => 0))) (h9 : w[9]? = some (cI 0 6 (fun _ => 0))) (h10 : w[10]? = some (cI 0 6 (fun _ => 0))) (h11 : w[11]? = some (cI 0 72 (fun _ => 0))) (h12 : w[12]? = some (cI 0 6 (fun _ => 0))) (h13 : w[13]? = some (cI 0 3 (fun _ => 0))) (h14 : w[14]? = some (cO 2 [eI 0, eR (15), eR (16), eR (17), eR (18), eR (19), eR (20), eR (21), eI 0, eI 0, eI 0, eI 0, eI 0, eI 0])) (h15 : w[15]? = some (cI 0 6 (fun _ => 0))) (h16 : w[16]? = some (cI 0 6 (fun _ => 0))) (h17 : w[17]? = some (cI 0 6 (fun _ => 0))) (h18 : w[18]? = some (cI 0 6 (fun _ => 0))) (h19 : w[19]? = some (cI 0 72 (fun _ => 0))) (h20 : w[20]? = some (cI 0 6 (fun _ => 0))) (h21 : w[21]? = some (cI 0 3 (fun _ => 0))) (h22 : w[22]? = some (cO 3 [eI 0, eR (23)])) (h23 : w[23]? = some (cI 0 200 (fun _ => 0))) (h24 : w[24]? = some (cO 3 [eI 0, eR (25)])) (h25 : w[25]? = some (cI 0 200 (fun _ => 0))) (h26 : w[26]? = some (cO 3 [eI 0, eR (27)])) (h27 : w[27]? = some (cI 0 200 (fun _ => 0))) (h28 : w[28]? = some (cO 3 [eI 0, eR (29)])) (h29 : w[29]? = some (cI 0 200 (fun _ => 0))) (h30 : w[30]? = some (cO 3 [eI 0, eR (31)])) (h31 : w[31]? = some (cI 0 200 (fun _ => 0))) (h32 : w[32]? = some (cO 3 [eI 0, eR (33)])) (h33 : w[33]? = some (cI 0 200 (fun _ => 0))) (h34 : w[34]? = some (cO 3 [eI 0, eR (35)])) (h35 : w[35]? = some (cI 0 200 (fun _ => 0))) (h36 : w[36]? = some (cO 3 [eI 0, eR (37)])) (h37 : w[37]? = some (cI 0 200 (fun _ => 0))) (h38 : w[38]? = some (cO 3 [eI 0, eR (39)])) (h39 : w[39]? = some (cI 0 200 (fun _ => 0))) (h40 : w[40]? = some (cO 3 [eI 0, eR (41)])) (h41 : w[41]? = some (cI 0 200 (fun _ => 0))) (h42 : w[42]? = some (cQ 4 3 (fun _ => none))) (h43 : w[43]? = some (cO 1 [eR (44), eR (52), eI 0, eI 0, eR (54), eR (55), eI 0, eI 0, eI 0, eI 0, eI 0, eI 0])) (h44 : w[44]? = some (cO 2 [eI 0, eR (45), eR (46), eR (47), eR (48), eR (49), eR (50), eR (51), eI 0, eI 0, eI 0, eI 0, eI 0, eI 0])) (h45 : w[45]? = some (cI 0 6 (fun _ => 0))) (h46 : w[46]? = some (cI 0 6 (fun _ => 0))) (h47 : w[47]? = some (cI 0 6 (fun _ => 0))) (h48 : w[48]? = some (cI 0 6 (fun _ => 0))) (h49 : w[49]? = some (cI 0 72 (fun _ => 0))) (h50 : w[50]? = some (cI 0 6 (fun _ => 0))) (h51 : w[51]? = some (cI 0 3 (fun _ => 0))) (h52 : w[52]? = some (cO 3 [eI 0, eR (53)])) (h53 : w[53]? = some (cI 0 200 (fun _ => 0))) (h54 : w[54]? = some (cI 0 600 (fun _ => 0))) (h55 : w[55]? = some (cI 0 5 (fun _ => 0))) (h56 : w[56]? = some (cO 0 [eR (57), eI 0, eI 0, eI 0, eR (58), eR (59), eI 0, eI 0, eI 0, eI 0, eI 0, eI 0, eI 0])) (h57 : w[57]? = some (cO 4 [eI 0, eI 0, eI 0])) (h58 : w[58]? = some (cI 0 6 (fun _ => 0))) (h59 : w[59]? = some (cI 0 3 (fun _ => 0))) (h60 : w[60]? = some (cO 4 [eI 0, eI 0, eI 0])) (h61 : w[61]? = some (cI 0 40 (fun _ => 0))) (h62 : w[62]? = some (cI 0 216 (fun _ => 0))) (h63 : w[63]? = some (cI 0 1000 (fun _ => 0))) (h64 : w[64]? = some (cO 7 [eR (65), eR (66), eI 0, eI 0, eI 0, eI 0, eI 0, eI 0, eI 0, eI 0, eR (67), eI 0, eI 0, eI 0, eI 0, eI 0, eI 0, eI 0, eI 0, eI 0, eI 0, eI 0, eI 0, eI 0, eI 0, eI 0, eI 0, eR (68), eR (69), eI 0, eI 0, eR (70), eR (71), eI 0, eI 0])) (h65 : w[65]? = some (cI 0 5768 (upd (fun _ => 0) 8 (-1)))) (h66 : w[66]? = some (cI 1 3 (fun _ => 0))) (h67 : w[67]? = some (cI 0 201 (fun _ => 0))) (h68 : w[68]? = some (cI 0 3 (fun _ => 0))) (h69 : w[69]? = some (cI 0 6 (fun _ => 0))) (h70 : w[70]? = some (cI 0 1791 (fun _ => 0))) (h71 : w[71]? = some (cI 1 1000 (fun _ => 0))) : WW p l e room_1 s m #[Value.ref b] below meth c (lw_Z below #[Value.ref b] s) G 4 0 0 599928 7288326 890 [some (eK 2), some (eR 0), some (eR 64), some (eI 0)] [] w := by
  refine ww_aload_n K dL_law_890 rfl ?_
  refine ww_aload_nK K dL_law_891 rfl ?_
  refine ww_iload_n K dL_law_892 rfl ?_
  refine ww_iconst (v := 1) K dL_law_893 rfl ?_
  refine ww_iadd K dL_law_894 ?_
  rw [show ((0 : Int32) + 1) = 1 from rfl]
  refine ww_ialdK K dL_law_895 (by decide) (by rw [hL8]; exact wc_vin (by decide)) ?_
  refine ww_aload_nK K dL_law_896 rfl ?_
  refine ww_iload_n K dL_law_897 rfl ?_
  refine ww_iconst (v := 2) K dL_law_898 rfl ?_
  refine ww_iadd K dL_law_899 ?_
  rw [show ((0 : Int32) + 2) = 2 from rfl]
  refine ww_ialdK K dL_law_900 (by decide) (by rw [hL8]; exact wc_vin (by decide)) ?_
  refine ww_aload_nK K dL_law_901 rfl ?_
  refine ww_iload_n K dL_law_902 rfl ?_
  refine ww_iconst (v := 3) K dL_law_903 rfl ?_
  refine ww_iadd K dL_law_904 ?_
  rw [show ((0 : Int32) + 3) = 3 from rfl]
  refine ww_ialdK K dL_law_905 (by decide) (by rw [hL8]; exact wc_vin (by decide)) ?_
  refine ww_if_eq (tgt := 913) K dL_law_906 rfl (fun c_906 => ?_) (fun c_906 => ?_)
  · refine ww_iconst (v := 0) K dL_law_913 rfl ?_
    refine ww_cV K dL_law_914 lc_L_75 h0 ⟨_, rfl, rfl⟩ (ct_X6_power0 G l h0 h1 h3 (fun _ _ => rfl) (a := _) (b := _) (c := _)) rfl ⟨Nat.le_of_ble_eq_true rfl, Nat.le_of_ble_eq_true rfl⟩ (Nat.le_of_ble_eq_true rfl) ?_
    refine ww_aload_n K dL_law_917 rfl ?_
    refine ww_aload_nK K dL_law_918 rfl ?_
    refine ww_iload_n K dL_law_919 rfl ?_
    refine ww_iconst (v := 1) K dL_law_920 rfl ?_
    refine ww_iadd K dL_law_921 ?_
    rw [show ((0 : Int32) + 1) = 1 from rfl]
    refine ww_ialdK K dL_law_922 (by decide) (by rw [hL8]; exact wc_vin (by decide)) ?_
    refine ww_aload_nK K dL_law_923 rfl ?_
    refine ww_iload_n K dL_law_924 rfl ?_
    refine ww_iconst (v := 2) K dL_law_925 rfl ?_
    refine ww_iadd K dL_law_926 ?_
    rw [show ((0 : Int32) + 2) = 2 from rfl]
    refine ww_ialdK K dL_law_927 (by decide) (by rw [hL8]; exact wc_vin (by decide)) ?_
    refine ww_aload_nK K dL_law_928 rfl ?_
    refine ww_iload_n K dL_law_929 rfl ?_
    refine ww_iconst (v := 3) K dL_law_930 rfl ?_
    refine ww_iadd K dL_law_931 ?_
    rw [show ((0 : Int32) + 3) = 3 from rfl]
    refine ww_ialdK K dL_law_932 (by decide) (by rw [hL8]; exact wc_vin (by decide)) ?_
    refine ww_if_eq (tgt := 940) K dL_law_933 rfl (fun c_933 => ?_) (fun c_933 => ?_)
    · refine ww_iconst (v := 0) K dL_law_940 rfl ?_
      refine ww_cV K dL_law_941 lc_L_79 h64 ⟨_, rfl, rfl⟩ (ct_X7_power0 G l h64 h65 (fun k hk => wc_A0 hk) (a := _) (b := _) (c := _)) rfl ⟨Nat.le_of_ble_eq_true rfl, Nat.le_of_ble_eq_true rfl⟩ (Nat.le_of_ble_eq_true rfl) ?_
      refine ww_icmp_eq (tgt := 1621) K dL_law_944 rfl (fun _ => ?_) (fun cc_ => absurd cc_ (by decide))
      exact wc_law_fin K hr hL8 _ _ _
    · refine ww_iconst (v := 1) K dL_law_936 rfl ?_
      refine ww_goto (tgt := 941) K dL_law_937 rfl ?_
      refine ww_cV K dL_law_941 lc_L_79 h64 ⟨_, rfl, rfl⟩ (ct_X7_power0 G l h64 h65 (fun k hk => wc_A0 hk) (a := _) (b := _) (c := _)) rfl ⟨Nat.le_of_ble_eq_true rfl, Nat.le_of_ble_eq_true rfl⟩ (Nat.le_of_ble_eq_true rfl) ?_
      refine ww_icmp_eq (tgt := 1621) K dL_law_944 rfl (fun _ => ?_) (fun cc_ => absurd cc_ (by decide))
      exact wc_law_fin K hr hL8 _ _ _
  · refine ww_iconst (v := 1) K dL_law_909 rfl ?_
    refine ww_goto (tgt := 914) K dL_law_910 rfl ?_
    refine ww_cV K dL_law_914 lc_L_75 h0 ⟨_, rfl, rfl⟩ (ct_X6_power0 G l h0 h1 h3 (fun _ _ => rfl) (a := _) (b := _) (c := _)) rfl ⟨Nat.le_of_ble_eq_true rfl, Nat.le_of_ble_eq_true rfl⟩ (Nat.le_of_ble_eq_true rfl) ?_
    refine ww_aload_n K dL_law_917 rfl ?_
    refine ww_aload_nK K dL_law_918 rfl ?_
    refine ww_iload_n K dL_law_919 rfl ?_
    refine ww_iconst (v := 1) K dL_law_920 rfl ?_
    refine ww_iadd K dL_law_921 ?_
    rw [show ((0 : Int32) + 1) = 1 from rfl]
    refine ww_ialdK K dL_law_922 (by decide) (by rw [hL8]; exact wc_vin (by decide)) ?_
    refine ww_aload_nK K dL_law_923 rfl ?_
    refine ww_iload_n K dL_law_924 rfl ?_
    refine ww_iconst (v := 2) K dL_law_925 rfl ?_
    refine ww_iadd K dL_law_926 ?_
    rw [show ((0 : Int32) + 2) = 2 from rfl]
    refine ww_ialdK K dL_law_927 (by decide) (by rw [hL8]; exact wc_vin (by decide)) ?_
    refine ww_aload_nK K dL_law_928 rfl ?_
    refine ww_iload_n K dL_law_929 rfl ?_
    refine ww_iconst (v := 3) K dL_law_930 rfl ?_
    refine ww_iadd K dL_law_931 ?_
    rw [show ((0 : Int32) + 3) = 3 from rfl]
    refine ww_ialdK K dL_law_932 (by decide) (by rw [hL8]; exact wc_vin (by decide)) ?_
    refine ww_if_eq (tgt := 940) K dL_law_933 rfl (fun c_933 => ?_) (fun c_933 => ?_)
    · refine ww_iconst (v := 0) K dL_law_940 rfl ?_
      refine ww_cV K dL_law_941 lc_L_79 h64 ⟨_, rfl, rfl⟩ (ct_X7_power0 G l h64 h65 (fun k hk => wc_A0 hk) (a := _) (b := _) (c := _)) rfl ⟨Nat.le_of_ble_eq_true rfl, Nat.le_of_ble_eq_true rfl⟩ (Nat.le_of_ble_eq_true rfl) ?_
      refine ww_icmp_eq (tgt := 1621) K dL_law_944 rfl (fun _ => ?_) (fun cc_ => absurd cc_ (by decide))
      exact wc_law_fin K hr hL8 _ _ _
    · refine ww_iconst (v := 1) K dL_law_936 rfl ?_
      refine ww_goto (tgt := 941) K dL_law_937 rfl ?_
      refine ww_cV K dL_law_941 lc_L_79 h64 ⟨_, rfl, rfl⟩ (ct_X7_power0 G l h64 h65 (fun k hk => wc_A0 hk) (a := _) (b := _) (c := _)) rfl ⟨Nat.le_of_ble_eq_true rfl, Nat.le_of_ble_eq_true rfl⟩ (Nat.le_of_ble_eq_true rfl) ?_
      refine ww_icmp_eq (tgt := 1621) K dL_law_944 rfl (fun _ => ?_) (fun cc_ => absurd cc_ (by decide))
      exact wc_law_fin K hr hL8 _ _ _
set_option maxRecDepth 100000 in
set_option maxHeartbeats 8000000 in
theorem wc_law_coalition {p : Program} {l : Launch} {e : Env} {s : State} {m : MethodId} {below : List Frame} {meth : Method} {c : Code} {b : Nat} {G : EG} (K : wc_C p s m #[Value.ref b] meth c G RL cL_law 4 0) (hr : meth.sig.returnType = ret) (hL8 : gL G 2 = 8) {w : EW} (hlen : w.length = 72) (h0 : w[0]? = some (cO 6 [eR (1), eR (42), eR (43), eR (56), eR (60), eR (61), eR (62), eR (63)])) (h1 : w[1]? = some (cO 5 [eR (2), eI 0, eI 0, eI ((-1)), eR (3), eR (4), eR (5)])) (h2 : w[2]? = some (cI 0 600 (fun _ => 0))) (h3 : w[3]? = some (cI 0 6 (fun _ => 0))) (h4 : w[4]? = some (cQ 2 2 (va_up (va_up (fun _ => none) 0 (some 6)) 1 (some 14)))) (h5 : w[5]? = some (cQ 3 10 (va_up (va_up (va_up (va_up (va_up (va_up (va_up (va_up (va_up (va_up (fun _ => none) 0 (some 22)) 1 (some 24)) 2 (some 26)) 3 (some 28)) 4 (some 30)) 5 (some 32)) 6 (some 34)) 7 (some 36)) 8 (some 38)) 9 (some 40)))) (h6 : w[6]? = some (cO 2 [eI 0, eR (7), eR (8), eR (9), eR (10), eR (11), eR (12), eR (13), eI 0, eI 0, eI 0, eI 0, eI 0, eI 0])) (h7 : w[7]? = some (cI 0 6 (fun _ => 0))) (h8 : w[8]? = some (cI 0 6 (fun _ => 0))) (h9 : w[9]? = some (cI 0 6 (fun _ => 0))) (h10 : w[10]? = some (cI 0 6 (fun _ => 0))) (h11 : w[11]? = some (cI 0 72 (fun _ => 0))) (h12 : w[12]? = some (cI 0 6 (fun _ => 0))) (h13 : w[13]? = some (cI 0 3 (fun _ => 0))) (h14 : w[14]? = some (cO 2 [eI 0, eR (15), eR (16), eR (17), eR (18), eR (19), eR (20), eR (21), eI 0, eI 0, eI 0, eI 0, eI 0, eI 0])) (h15 : w[15]? = some (cI 0 6 (fun _ => 0))) (h16 : w[16]? = some (cI 0 6 (fun _ => 0))) (h17 : w[17]? = some (cI 0 6 (fun _ => 0))) (h18 : w[18]? = some (cI 0 6 (fun _ => 0))) (h19 : w[19]? = some (cI 0 72 (fun _ => 0))) (h20 : w[20]? = some (cI 0 6 (fun _ => 0))) (h21 : w[21]? = some (cI 0 3 (fun _ => 0))) (h22 : w[22]? = some (cO 3 [eI 0, eR (23)])) (h23 : w[23]? = some (cI 0 200 (fun _ => 0))) (h24 : w[24]? = some (cO 3 [eI 0, eR (25)])) (h25 : w[25]? = some (cI 0 200 (fun _ => 0))) (h26 : w[26]? = some (cO 3 [eI 0, eR (27)])) (h27 : w[27]? = some (cI 0 200 (fun _ => 0))) (h28 : w[28]? = some (cO 3 [eI 0, eR (29)])) (h29 : w[29]? = some (cI 0 200 (fun _ => 0))) (h30 : w[30]? = some (cO 3 [eI 0, eR (31)])) (h31 : w[31]? = some (cI 0 200 (fun _ => 0))) (h32 : w[32]? = some (cO 3 [eI 0, eR (33)])) (h33 : w[33]? = some (cI 0 200 (fun _ => 0))) (h34 : w[34]? = some (cO 3 [eI 0, eR (35)])) (h35 : w[35]? = some (cI 0 200 (fun _ => 0))) (h36 : w[36]? = some (cO 3 [eI 0, eR (37)])) (h37 : w[37]? = some (cI 0 200 (fun _ => 0))) (h38 : w[38]? = some (cO 3 [eI 0, eR (39)])) (h39 : w[39]? = some (cI 0 200 (fun _ => 0))) (h40 : w[40]? = some (cO 3 [eI 0, eR (41)])) (h41 : w[41]? = some (cI 0 200 (fun _ => 0))) (h42 : w[42]? = some (cQ 4 3 (fun _ => none))) (h43 : w[43]? = some (cO 1 [eR (44), eR (52), eI 0, eI 0, eR (54), eR (55), eI 0, eI 0, eI 0, eI 0, eI 0, eI 0])) (h44 : w[44]? = some (cO 2 [eI 0, eR (45), eR (46), eR (47), eR (48), eR (49), eR (50), eR (51), eI 0, eI 0, eI 0, eI 0, eI 0, eI 0])) (h45 : w[45]? = some (cI 0 6 (fun _ => 0))) (h46 : w[46]? = some (cI 0 6 (fun _ => 0))) (h47 : w[47]? = some (cI 0 6 (fun _ => 0))) (h48 : w[48]? = some (cI 0 6 (fun _ => 0))) (h49 : w[49]? = some (cI 0 72 (fun _ => 0))) (h50 : w[50]? = some (cI 0 6 (fun _ => 0))) (h51 : w[51]? = some (cI 0 3 (fun _ => 0))) (h52 : w[52]? = some (cO 3 [eI 0, eR (53)])) (h53 : w[53]? = some (cI 0 200 (fun _ => 0))) (h54 : w[54]? = some (cI 0 600 (fun _ => 0))) (h55 : w[55]? = some (cI 0 5 (fun _ => 0))) (h56 : w[56]? = some (cO 0 [eR (57), eI 0, eI 0, eI 0, eR (58), eR (59), eI 0, eI 0, eI 0, eI 0, eI 0, eI 0, eI 0])) (h57 : w[57]? = some (cO 4 [eI 0, eI 0, eI 0])) (h58 : w[58]? = some (cI 0 6 (fun _ => 0))) (h59 : w[59]? = some (cI 0 3 (fun _ => 0))) (h60 : w[60]? = some (cO 4 [eI 0, eI 0, eI 0])) (h61 : w[61]? = some (cI 0 40 (fun _ => 0))) (h62 : w[62]? = some (cI 0 216 (fun _ => 0))) (h63 : w[63]? = some (cI 0 1000 (fun _ => 0))) (h64 : w[64]? = some (cO 7 [eR (65), eR (66), eI 0, eI 0, eI 0, eI 0, eI 0, eI 0, eI 0, eI 0, eR (67), eI 0, eI 0, eI 0, eI 0, eI 0, eI 0, eI 0, eI 0, eI 0, eI 0, eI 0, eI 0, eI 0, eI 0, eI 0, eI 0, eR (68), eR (69), eI 0, eI 0, eR (70), eR (71), eI 0, eI 0])) (h65 : w[65]? = some (cI 0 5768 (upd (fun _ => 0) 8 (-1)))) (h66 : w[66]? = some (cI 1 3 (fun _ => 0))) (h67 : w[67]? = some (cI 0 201 (fun _ => 0))) (h68 : w[68]? = some (cI 0 3 (fun _ => 0))) (h69 : w[69]? = some (cI 0 6 (fun _ => 0))) (h70 : w[70]? = some (cI 0 1791 (fun _ => 0))) (h71 : w[71]? = some (cI 1 1000 (fun _ => 0))) : WW p l e room_1 s m #[Value.ref b] below meth c (lw_Z below #[Value.ref b] s) G 4 0 0 599928 7288326 949 [some (eK 2), some (eR 0), some (eR 64), some (eI 0)] [] w := by
  refine ww_aload_n K dL_law_949 rfl ?_
  refine ww_aload_nK K dL_law_950 rfl ?_
  refine ww_iload_n K dL_law_951 rfl ?_
  refine ww_iconst (v := 1) K dL_law_952 rfl ?_
  refine ww_iadd K dL_law_953 ?_
  rw [show ((0 : Int32) + 1) = 1 from rfl]
  refine ww_ialdK K dL_law_954 (by decide) (by rw [hL8]; exact wc_vin (by decide)) ?_
  refine ww_aload_nK K dL_law_955 rfl ?_
  refine ww_iload_n K dL_law_956 rfl ?_
  refine ww_iconst (v := 2) K dL_law_957 rfl ?_
  refine ww_iadd K dL_law_958 ?_
  rw [show ((0 : Int32) + 2) = 2 from rfl]
  refine ww_ialdK K dL_law_959 (by decide) (by rw [hL8]; exact wc_vin (by decide)) ?_
  refine ww_cV K dL_law_960 lc_L_80 h0 ⟨_, rfl, rfl⟩ (ct_X6_coalition0 G l h0 h1 h3 (fun _ _ => rfl) (a := _) (b := _)) rfl ⟨Nat.le_of_ble_eq_true rfl, Nat.le_of_ble_eq_true rfl⟩ (Nat.le_of_ble_eq_true rfl) ?_
  refine ww_aload_n K dL_law_963 rfl ?_
  refine ww_aload_nK K dL_law_964 rfl ?_
  refine ww_iload_n K dL_law_965 rfl ?_
  refine ww_iconst (v := 1) K dL_law_966 rfl ?_
  refine ww_iadd K dL_law_967 ?_
  rw [show ((0 : Int32) + 1) = 1 from rfl]
  refine ww_ialdK K dL_law_968 (by decide) (by rw [hL8]; exact wc_vin (by decide)) ?_
  refine ww_aload_nK K dL_law_969 rfl ?_
  refine ww_iload_n K dL_law_970 rfl ?_
  refine ww_iconst (v := 2) K dL_law_971 rfl ?_
  refine ww_iadd K dL_law_972 ?_
  rw [show ((0 : Int32) + 2) = 2 from rfl]
  refine ww_ialdK K dL_law_973 (by decide) (by rw [hL8]; exact wc_vin (by decide)) ?_
  refine ww_cV K dL_law_974 lc_L_83 h64 ⟨_, rfl, rfl⟩ (ct_X7_coalition0 G l h64 h65 (fun k hk => wc_A0 hk) (a := _) (b := _)) rfl ⟨Nat.le_of_ble_eq_true rfl, Nat.le_of_ble_eq_true rfl⟩ (Nat.le_of_ble_eq_true rfl) ?_
  refine ww_icmp_eq (tgt := 1621) K dL_law_977 rfl (fun _ => ?_) (fun cc_ => absurd cc_ (by decide))
  exact wc_law_fin K hr hL8 _ _ _
set_option maxRecDepth 100000 in
set_option maxHeartbeats 8000000 in
theorem wc_law_bribe {p : Program} {l : Launch} {e : Env} {s : State} {m : MethodId} {below : List Frame} {meth : Method} {c : Code} {b : Nat} {G : EG} (K : wc_C p s m #[Value.ref b] meth c G RL cL_law 4 0) (hr : meth.sig.returnType = ret) (hL8 : gL G 2 = 8) {w : EW} (hlen : w.length = 72) (h0 : w[0]? = some (cO 6 [eR (1), eR (42), eR (43), eR (56), eR (60), eR (61), eR (62), eR (63)])) (h1 : w[1]? = some (cO 5 [eR (2), eI 0, eI 0, eI ((-1)), eR (3), eR (4), eR (5)])) (h2 : w[2]? = some (cI 0 600 (fun _ => 0))) (h3 : w[3]? = some (cI 0 6 (fun _ => 0))) (h4 : w[4]? = some (cQ 2 2 (va_up (va_up (fun _ => none) 0 (some 6)) 1 (some 14)))) (h5 : w[5]? = some (cQ 3 10 (va_up (va_up (va_up (va_up (va_up (va_up (va_up (va_up (va_up (va_up (fun _ => none) 0 (some 22)) 1 (some 24)) 2 (some 26)) 3 (some 28)) 4 (some 30)) 5 (some 32)) 6 (some 34)) 7 (some 36)) 8 (some 38)) 9 (some 40)))) (h6 : w[6]? = some (cO 2 [eI 0, eR (7), eR (8), eR (9), eR (10), eR (11), eR (12), eR (13), eI 0, eI 0, eI 0, eI 0, eI 0, eI 0])) (h7 : w[7]? = some (cI 0 6 (fun _ => 0))) (h8 : w[8]? = some (cI 0 6 (fun _ => 0))) (h9 : w[9]? = some (cI 0 6 (fun _ => 0))) (h10 : w[10]? = some (cI 0 6 (fun _ => 0))) (h11 : w[11]? = some (cI 0 72 (fun _ => 0))) (h12 : w[12]? = some (cI 0 6 (fun _ => 0))) (h13 : w[13]? = some (cI 0 3 (fun _ => 0))) (h14 : w[14]? = some (cO 2 [eI 0, eR (15), eR (16), eR (17), eR (18), eR (19), eR (20), eR (21), eI 0, eI 0, eI 0, eI 0, eI 0, eI 0])) (h15 : w[15]? = some (cI 0 6 (fun _ => 0))) (h16 : w[16]? = some (cI 0 6 (fun _ => 0))) (h17 : w[17]? = some (cI 0 6 (fun _ => 0))) (h18 : w[18]? = some (cI 0 6 (fun _ => 0))) (h19 : w[19]? = some (cI 0 72 (fun _ => 0))) (h20 : w[20]? = some (cI 0 6 (fun _ => 0))) (h21 : w[21]? = some (cI 0 3 (fun _ => 0))) (h22 : w[22]? = some (cO 3 [eI 0, eR (23)])) (h23 : w[23]? = some (cI 0 200 (fun _ => 0))) (h24 : w[24]? = some (cO 3 [eI 0, eR (25)])) (h25 : w[25]? = some (cI 0 200 (fun _ => 0))) (h26 : w[26]? = some (cO 3 [eI 0, eR (27)])) (h27 : w[27]? = some (cI 0 200 (fun _ => 0))) (h28 : w[28]? = some (cO 3 [eI 0, eR (29)])) (h29 : w[29]? = some (cI 0 200 (fun _ => 0))) (h30 : w[30]? = some (cO 3 [eI 0, eR (31)])) (h31 : w[31]? = some (cI 0 200 (fun _ => 0))) (h32 : w[32]? = some (cO 3 [eI 0, eR (33)])) (h33 : w[33]? = some (cI 0 200 (fun _ => 0))) (h34 : w[34]? = some (cO 3 [eI 0, eR (35)])) (h35 : w[35]? = some (cI 0 200 (fun _ => 0))) (h36 : w[36]? = some (cO 3 [eI 0, eR (37)])) (h37 : w[37]? = some (cI 0 200 (fun _ => 0))) (h38 : w[38]? = some (cO 3 [eI 0, eR (39)])) (h39 : w[39]? = some (cI 0 200 (fun _ => 0))) (h40 : w[40]? = some (cO 3 [eI 0, eR (41)])) (h41 : w[41]? = some (cI 0 200 (fun _ => 0))) (h42 : w[42]? = some (cQ 4 3 (fun _ => none))) (h43 : w[43]? = some (cO 1 [eR (44), eR (52), eI 0, eI 0, eR (54), eR (55), eI 0, eI 0, eI 0, eI 0, eI 0, eI 0])) (h44 : w[44]? = some (cO 2 [eI 0, eR (45), eR (46), eR (47), eR (48), eR (49), eR (50), eR (51), eI 0, eI 0, eI 0, eI 0, eI 0, eI 0])) (h45 : w[45]? = some (cI 0 6 (fun _ => 0))) (h46 : w[46]? = some (cI 0 6 (fun _ => 0))) (h47 : w[47]? = some (cI 0 6 (fun _ => 0))) (h48 : w[48]? = some (cI 0 6 (fun _ => 0))) (h49 : w[49]? = some (cI 0 72 (fun _ => 0))) (h50 : w[50]? = some (cI 0 6 (fun _ => 0))) (h51 : w[51]? = some (cI 0 3 (fun _ => 0))) (h52 : w[52]? = some (cO 3 [eI 0, eR (53)])) (h53 : w[53]? = some (cI 0 200 (fun _ => 0))) (h54 : w[54]? = some (cI 0 600 (fun _ => 0))) (h55 : w[55]? = some (cI 0 5 (fun _ => 0))) (h56 : w[56]? = some (cO 0 [eR (57), eI 0, eI 0, eI 0, eR (58), eR (59), eI 0, eI 0, eI 0, eI 0, eI 0, eI 0, eI 0])) (h57 : w[57]? = some (cO 4 [eI 0, eI 0, eI 0])) (h58 : w[58]? = some (cI 0 6 (fun _ => 0))) (h59 : w[59]? = some (cI 0 3 (fun _ => 0))) (h60 : w[60]? = some (cO 4 [eI 0, eI 0, eI 0])) (h61 : w[61]? = some (cI 0 40 (fun _ => 0))) (h62 : w[62]? = some (cI 0 216 (fun _ => 0))) (h63 : w[63]? = some (cI 0 1000 (fun _ => 0))) (h64 : w[64]? = some (cO 7 [eR (65), eR (66), eI 0, eI 0, eI 0, eI 0, eI 0, eI 0, eI 0, eI 0, eR (67), eI 0, eI 0, eI 0, eI 0, eI 0, eI 0, eI 0, eI 0, eI 0, eI 0, eI 0, eI 0, eI 0, eI 0, eI 0, eI 0, eR (68), eR (69), eI 0, eI 0, eR (70), eR (71), eI 0, eI 0])) (h65 : w[65]? = some (cI 0 5768 (upd (fun _ => 0) 8 (-1)))) (h66 : w[66]? = some (cI 1 3 (fun _ => 0))) (h67 : w[67]? = some (cI 0 201 (fun _ => 0))) (h68 : w[68]? = some (cI 0 3 (fun _ => 0))) (h69 : w[69]? = some (cI 0 6 (fun _ => 0))) (h70 : w[70]? = some (cI 0 1791 (fun _ => 0))) (h71 : w[71]? = some (cI 1 1000 (fun _ => 0))) : WW p l e room_1 s m #[Value.ref b] below meth c (lw_Z below #[Value.ref b] s) G 4 0 0 599928 7288326 982 [some (eK 2), some (eR 0), some (eR 64), some (eI 0)] [] w := by
  refine ww_aload_n K dL_law_982 rfl ?_
  refine ww_aload_nK K dL_law_983 rfl ?_
  refine ww_iload_n K dL_law_984 rfl ?_
  refine ww_iconst (v := 1) K dL_law_985 rfl ?_
  refine ww_iadd K dL_law_986 ?_
  rw [show ((0 : Int32) + 1) = 1 from rfl]
  refine ww_ialdK K dL_law_987 (by decide) (by rw [hL8]; exact wc_vin (by decide)) ?_
  refine ww_aload_nK K dL_law_988 rfl ?_
  refine ww_iload_n K dL_law_989 rfl ?_
  refine ww_iconst (v := 2) K dL_law_990 rfl ?_
  refine ww_iadd K dL_law_991 ?_
  rw [show ((0 : Int32) + 2) = 2 from rfl]
  refine ww_ialdK K dL_law_992 (by decide) (by rw [hL8]; exact wc_vin (by decide)) ?_
  refine ww_aload_nK K dL_law_993 rfl ?_
  refine ww_iload_n K dL_law_994 rfl ?_
  refine ww_iconst (v := 3) K dL_law_995 rfl ?_
  refine ww_iadd K dL_law_996 ?_
  rw [show ((0 : Int32) + 3) = 3 from rfl]
  refine ww_ialdK K dL_law_997 (by decide) (by rw [hL8]; exact wc_vin (by decide)) ?_
  refine ww_aload_nK K dL_law_998 rfl ?_
  refine ww_iload_n K dL_law_999 rfl ?_
  refine ww_iconst (v := 4) K dL_law_1000 rfl ?_
  refine ww_iadd K dL_law_1001 ?_
  rw [show ((0 : Int32) + 4) = 4 from rfl]
  refine ww_ialdK K dL_law_1002 (by decide) (by rw [hL8]; exact wc_vin (by decide)) ?_
  refine ww_aload_nK K dL_law_1003 rfl ?_
  refine ww_iload_n K dL_law_1004 rfl ?_
  refine ww_iconst (v := 5) K dL_law_1005 rfl ?_
  refine ww_iadd K dL_law_1006 ?_
  rw [show ((0 : Int32) + 5) = 5 from rfl]
  refine ww_ialdK K dL_law_1007 (by decide) (by rw [hL8]; exact wc_vin (by decide)) ?_
  refine ww_aload_nK K dL_law_1008 rfl ?_
  refine ww_iload_n K dL_law_1009 rfl ?_
  refine ww_bipush (v := 6) K dL_law_1010 rfl ?_
  refine ww_iadd K dL_law_1012 ?_
  rw [show ((0 : Int32) + 6) = 6 from rfl]
  refine ww_ialdK K dL_law_1013 (by decide) (by rw [hL8]; exact wc_vin (by decide)) ?_
  refine ww_aload_nK K dL_law_1014 rfl ?_
  refine ww_iload_n K dL_law_1015 rfl ?_
  refine ww_bipush (v := 7) K dL_law_1016 rfl ?_
  refine ww_iadd K dL_law_1018 ?_
  rw [show ((0 : Int32) + 7) = 7 from rfl]
  refine ww_ialdK K dL_law_1019 (by decide) (by rw [hL8]; exact wc_vin (by decide)) ?_
  refine ww_if_eq (tgt := 1027) K dL_law_1020 rfl (fun c_1020 => ?_) (fun c_1020 => ?_)
  · refine ww_iconst (v := 0) K dL_law_1027 rfl ?_
    refine ww_cV K dL_law_1028 lc_L_84 h0 ⟨_, rfl, rfl⟩ (ct_X6_bribe0 G l h0 h1 h3 (fun _ _ => rfl) (a := _) (b := _) (c := _) (d := _) (f := _) (g := _) (h := _)) rfl ⟨Nat.le_of_ble_eq_true rfl, Nat.le_of_ble_eq_true rfl⟩ (Nat.le_of_ble_eq_true rfl) ?_
    refine ww_aload_n K dL_law_1031 rfl ?_
    refine ww_aload_nK K dL_law_1032 rfl ?_
    refine ww_iload_n K dL_law_1033 rfl ?_
    refine ww_iconst (v := 1) K dL_law_1034 rfl ?_
    refine ww_iadd K dL_law_1035 ?_
    rw [show ((0 : Int32) + 1) = 1 from rfl]
    refine ww_ialdK K dL_law_1036 (by decide) (by rw [hL8]; exact wc_vin (by decide)) ?_
    refine ww_aload_nK K dL_law_1037 rfl ?_
    refine ww_iload_n K dL_law_1038 rfl ?_
    refine ww_iconst (v := 2) K dL_law_1039 rfl ?_
    refine ww_iadd K dL_law_1040 ?_
    rw [show ((0 : Int32) + 2) = 2 from rfl]
    refine ww_ialdK K dL_law_1041 (by decide) (by rw [hL8]; exact wc_vin (by decide)) ?_
    refine ww_aload_nK K dL_law_1042 rfl ?_
    refine ww_iload_n K dL_law_1043 rfl ?_
    refine ww_iconst (v := 3) K dL_law_1044 rfl ?_
    refine ww_iadd K dL_law_1045 ?_
    rw [show ((0 : Int32) + 3) = 3 from rfl]
    refine ww_ialdK K dL_law_1046 (by decide) (by rw [hL8]; exact wc_vin (by decide)) ?_
    refine ww_aload_nK K dL_law_1047 rfl ?_
    refine ww_iload_n K dL_law_1048 rfl ?_
    refine ww_iconst (v := 4) K dL_law_1049 rfl ?_
    refine ww_iadd K dL_law_1050 ?_
    rw [show ((0 : Int32) + 4) = 4 from rfl]
    refine ww_ialdK K dL_law_1051 (by decide) (by rw [hL8]; exact wc_vin (by decide)) ?_
    refine ww_aload_nK K dL_law_1052 rfl ?_
    refine ww_iload_n K dL_law_1053 rfl ?_
    refine ww_iconst (v := 5) K dL_law_1054 rfl ?_
    refine ww_iadd K dL_law_1055 ?_
    rw [show ((0 : Int32) + 5) = 5 from rfl]
    refine ww_ialdK K dL_law_1056 (by decide) (by rw [hL8]; exact wc_vin (by decide)) ?_
    refine ww_aload_nK K dL_law_1057 rfl ?_
    refine ww_iload_n K dL_law_1058 rfl ?_
    refine ww_bipush (v := 6) K dL_law_1059 rfl ?_
    refine ww_iadd K dL_law_1061 ?_
    rw [show ((0 : Int32) + 6) = 6 from rfl]
    refine ww_ialdK K dL_law_1062 (by decide) (by rw [hL8]; exact wc_vin (by decide)) ?_
    refine ww_aload_nK K dL_law_1063 rfl ?_
    refine ww_iload_n K dL_law_1064 rfl ?_
    refine ww_bipush (v := 7) K dL_law_1065 rfl ?_
    refine ww_iadd K dL_law_1067 ?_
    rw [show ((0 : Int32) + 7) = 7 from rfl]
    refine ww_ialdK K dL_law_1068 (by decide) (by rw [hL8]; exact wc_vin (by decide)) ?_
    refine ww_if_eq (tgt := 1076) K dL_law_1069 rfl (fun c_1069 => ?_) (fun c_1069 => ?_)
    · refine ww_iconst (v := 0) K dL_law_1076 rfl ?_
      refine ww_cV K dL_law_1077 lc_L_87 h64 ⟨_, rfl, rfl⟩ (ct_X7_bribe0 G l h64 h65 (fun k hk => wc_A0 hk) (a := _) (b := _) (c := _) (d := _) (f := _) (g := _) (h := _)) rfl ⟨Nat.le_of_ble_eq_true rfl, Nat.le_of_ble_eq_true rfl⟩ (Nat.le_of_ble_eq_true rfl) ?_
      refine ww_icmp_eq (tgt := 1621) K dL_law_1080 rfl (fun _ => ?_) (fun cc_ => absurd cc_ (by decide))
      exact wc_law_fin K hr hL8 _ _ _
    · refine ww_iconst (v := 1) K dL_law_1072 rfl ?_
      refine ww_goto (tgt := 1077) K dL_law_1073 rfl ?_
      refine ww_cV K dL_law_1077 lc_L_87 h64 ⟨_, rfl, rfl⟩ (ct_X7_bribe0 G l h64 h65 (fun k hk => wc_A0 hk) (a := _) (b := _) (c := _) (d := _) (f := _) (g := _) (h := _)) rfl ⟨Nat.le_of_ble_eq_true rfl, Nat.le_of_ble_eq_true rfl⟩ (Nat.le_of_ble_eq_true rfl) ?_
      refine ww_icmp_eq (tgt := 1621) K dL_law_1080 rfl (fun _ => ?_) (fun cc_ => absurd cc_ (by decide))
      exact wc_law_fin K hr hL8 _ _ _
  · refine ww_iconst (v := 1) K dL_law_1023 rfl ?_
    refine ww_goto (tgt := 1028) K dL_law_1024 rfl ?_
    refine ww_cV K dL_law_1028 lc_L_84 h0 ⟨_, rfl, rfl⟩ (ct_X6_bribe0 G l h0 h1 h3 (fun _ _ => rfl) (a := _) (b := _) (c := _) (d := _) (f := _) (g := _) (h := _)) rfl ⟨Nat.le_of_ble_eq_true rfl, Nat.le_of_ble_eq_true rfl⟩ (Nat.le_of_ble_eq_true rfl) ?_
    refine ww_aload_n K dL_law_1031 rfl ?_
    refine ww_aload_nK K dL_law_1032 rfl ?_
    refine ww_iload_n K dL_law_1033 rfl ?_
    refine ww_iconst (v := 1) K dL_law_1034 rfl ?_
    refine ww_iadd K dL_law_1035 ?_
    rw [show ((0 : Int32) + 1) = 1 from rfl]
    refine ww_ialdK K dL_law_1036 (by decide) (by rw [hL8]; exact wc_vin (by decide)) ?_
    refine ww_aload_nK K dL_law_1037 rfl ?_
    refine ww_iload_n K dL_law_1038 rfl ?_
    refine ww_iconst (v := 2) K dL_law_1039 rfl ?_
    refine ww_iadd K dL_law_1040 ?_
    rw [show ((0 : Int32) + 2) = 2 from rfl]
    refine ww_ialdK K dL_law_1041 (by decide) (by rw [hL8]; exact wc_vin (by decide)) ?_
    refine ww_aload_nK K dL_law_1042 rfl ?_
    refine ww_iload_n K dL_law_1043 rfl ?_
    refine ww_iconst (v := 3) K dL_law_1044 rfl ?_
    refine ww_iadd K dL_law_1045 ?_
    rw [show ((0 : Int32) + 3) = 3 from rfl]
    refine ww_ialdK K dL_law_1046 (by decide) (by rw [hL8]; exact wc_vin (by decide)) ?_
    refine ww_aload_nK K dL_law_1047 rfl ?_
    refine ww_iload_n K dL_law_1048 rfl ?_
    refine ww_iconst (v := 4) K dL_law_1049 rfl ?_
    refine ww_iadd K dL_law_1050 ?_
    rw [show ((0 : Int32) + 4) = 4 from rfl]
    refine ww_ialdK K dL_law_1051 (by decide) (by rw [hL8]; exact wc_vin (by decide)) ?_
    refine ww_aload_nK K dL_law_1052 rfl ?_
    refine ww_iload_n K dL_law_1053 rfl ?_
    refine ww_iconst (v := 5) K dL_law_1054 rfl ?_
    refine ww_iadd K dL_law_1055 ?_
    rw [show ((0 : Int32) + 5) = 5 from rfl]
    refine ww_ialdK K dL_law_1056 (by decide) (by rw [hL8]; exact wc_vin (by decide)) ?_
    refine ww_aload_nK K dL_law_1057 rfl ?_
    refine ww_iload_n K dL_law_1058 rfl ?_
    refine ww_bipush (v := 6) K dL_law_1059 rfl ?_
    refine ww_iadd K dL_law_1061 ?_
    rw [show ((0 : Int32) + 6) = 6 from rfl]
    refine ww_ialdK K dL_law_1062 (by decide) (by rw [hL8]; exact wc_vin (by decide)) ?_
    refine ww_aload_nK K dL_law_1063 rfl ?_
    refine ww_iload_n K dL_law_1064 rfl ?_
    refine ww_bipush (v := 7) K dL_law_1065 rfl ?_
    refine ww_iadd K dL_law_1067 ?_
    rw [show ((0 : Int32) + 7) = 7 from rfl]
    refine ww_ialdK K dL_law_1068 (by decide) (by rw [hL8]; exact wc_vin (by decide)) ?_
    refine ww_if_eq (tgt := 1076) K dL_law_1069 rfl (fun c_1069 => ?_) (fun c_1069 => ?_)
    · refine ww_iconst (v := 0) K dL_law_1076 rfl ?_
      refine ww_cV K dL_law_1077 lc_L_87 h64 ⟨_, rfl, rfl⟩ (ct_X7_bribe0 G l h64 h65 (fun k hk => wc_A0 hk) (a := _) (b := _) (c := _) (d := _) (f := _) (g := _) (h := _)) rfl ⟨Nat.le_of_ble_eq_true rfl, Nat.le_of_ble_eq_true rfl⟩ (Nat.le_of_ble_eq_true rfl) ?_
      refine ww_icmp_eq (tgt := 1621) K dL_law_1080 rfl (fun _ => ?_) (fun cc_ => absurd cc_ (by decide))
      exact wc_law_fin K hr hL8 _ _ _
    · refine ww_iconst (v := 1) K dL_law_1072 rfl ?_
      refine ww_goto (tgt := 1077) K dL_law_1073 rfl ?_
      refine ww_cV K dL_law_1077 lc_L_87 h64 ⟨_, rfl, rfl⟩ (ct_X7_bribe0 G l h64 h65 (fun k hk => wc_A0 hk) (a := _) (b := _) (c := _) (d := _) (f := _) (g := _) (h := _)) rfl ⟨Nat.le_of_ble_eq_true rfl, Nat.le_of_ble_eq_true rfl⟩ (Nat.le_of_ble_eq_true rfl) ?_
      refine ww_icmp_eq (tgt := 1621) K dL_law_1080 rfl (fun _ => ?_) (fun cc_ => absurd cc_ (by decide))
      exact wc_law_fin K hr hL8 _ _ _
set_option maxRecDepth 100000 in
set_option maxHeartbeats 8000000 in
theorem wc_law_lobby {p : Program} {l : Launch} {e : Env} {s : State} {m : MethodId} {below : List Frame} {meth : Method} {c : Code} {b : Nat} {G : EG} (K : wc_C p s m #[Value.ref b] meth c G RL cL_law 4 0) (hr : meth.sig.returnType = ret) (hL8 : gL G 2 = 8) {w : EW} (hlen : w.length = 72) (h0 : w[0]? = some (cO 6 [eR (1), eR (42), eR (43), eR (56), eR (60), eR (61), eR (62), eR (63)])) (h1 : w[1]? = some (cO 5 [eR (2), eI 0, eI 0, eI ((-1)), eR (3), eR (4), eR (5)])) (h2 : w[2]? = some (cI 0 600 (fun _ => 0))) (h3 : w[3]? = some (cI 0 6 (fun _ => 0))) (h4 : w[4]? = some (cQ 2 2 (va_up (va_up (fun _ => none) 0 (some 6)) 1 (some 14)))) (h5 : w[5]? = some (cQ 3 10 (va_up (va_up (va_up (va_up (va_up (va_up (va_up (va_up (va_up (va_up (fun _ => none) 0 (some 22)) 1 (some 24)) 2 (some 26)) 3 (some 28)) 4 (some 30)) 5 (some 32)) 6 (some 34)) 7 (some 36)) 8 (some 38)) 9 (some 40)))) (h6 : w[6]? = some (cO 2 [eI 0, eR (7), eR (8), eR (9), eR (10), eR (11), eR (12), eR (13), eI 0, eI 0, eI 0, eI 0, eI 0, eI 0])) (h7 : w[7]? = some (cI 0 6 (fun _ => 0))) (h8 : w[8]? = some (cI 0 6 (fun _ => 0))) (h9 : w[9]? = some (cI 0 6 (fun _ => 0))) (h10 : w[10]? = some (cI 0 6 (fun _ => 0))) (h11 : w[11]? = some (cI 0 72 (fun _ => 0))) (h12 : w[12]? = some (cI 0 6 (fun _ => 0))) (h13 : w[13]? = some (cI 0 3 (fun _ => 0))) (h14 : w[14]? = some (cO 2 [eI 0, eR (15), eR (16), eR (17), eR (18), eR (19), eR (20), eR (21), eI 0, eI 0, eI 0, eI 0, eI 0, eI 0])) (h15 : w[15]? = some (cI 0 6 (fun _ => 0))) (h16 : w[16]? = some (cI 0 6 (fun _ => 0))) (h17 : w[17]? = some (cI 0 6 (fun _ => 0))) (h18 : w[18]? = some (cI 0 6 (fun _ => 0))) (h19 : w[19]? = some (cI 0 72 (fun _ => 0))) (h20 : w[20]? = some (cI 0 6 (fun _ => 0))) (h21 : w[21]? = some (cI 0 3 (fun _ => 0))) (h22 : w[22]? = some (cO 3 [eI 0, eR (23)])) (h23 : w[23]? = some (cI 0 200 (fun _ => 0))) (h24 : w[24]? = some (cO 3 [eI 0, eR (25)])) (h25 : w[25]? = some (cI 0 200 (fun _ => 0))) (h26 : w[26]? = some (cO 3 [eI 0, eR (27)])) (h27 : w[27]? = some (cI 0 200 (fun _ => 0))) (h28 : w[28]? = some (cO 3 [eI 0, eR (29)])) (h29 : w[29]? = some (cI 0 200 (fun _ => 0))) (h30 : w[30]? = some (cO 3 [eI 0, eR (31)])) (h31 : w[31]? = some (cI 0 200 (fun _ => 0))) (h32 : w[32]? = some (cO 3 [eI 0, eR (33)])) (h33 : w[33]? = some (cI 0 200 (fun _ => 0))) (h34 : w[34]? = some (cO 3 [eI 0, eR (35)])) (h35 : w[35]? = some (cI 0 200 (fun _ => 0))) (h36 : w[36]? = some (cO 3 [eI 0, eR (37)])) (h37 : w[37]? = some (cI 0 200 (fun _ => 0))) (h38 : w[38]? = some (cO 3 [eI 0, eR (39)])) (h39 : w[39]? = some (cI 0 200 (fun _ => 0))) (h40 : w[40]? = some (cO 3 [eI 0, eR (41)])) (h41 : w[41]? = some (cI 0 200 (fun _ => 0))) (h42 : w[42]? = some (cQ 4 3 (fun _ => none))) (h43 : w[43]? = some (cO 1 [eR (44), eR (52), eI 0, eI 0, eR (54), eR (55), eI 0, eI 0, eI 0, eI 0, eI 0, eI 0])) (h44 : w[44]? = some (cO 2 [eI 0, eR (45), eR (46), eR (47), eR (48), eR (49), eR (50), eR (51), eI 0, eI 0, eI 0, eI 0, eI 0, eI 0])) (h45 : w[45]? = some (cI 0 6 (fun _ => 0))) (h46 : w[46]? = some (cI 0 6 (fun _ => 0))) (h47 : w[47]? = some (cI 0 6 (fun _ => 0))) (h48 : w[48]? = some (cI 0 6 (fun _ => 0))) (h49 : w[49]? = some (cI 0 72 (fun _ => 0))) (h50 : w[50]? = some (cI 0 6 (fun _ => 0))) (h51 : w[51]? = some (cI 0 3 (fun _ => 0))) (h52 : w[52]? = some (cO 3 [eI 0, eR (53)])) (h53 : w[53]? = some (cI 0 200 (fun _ => 0))) (h54 : w[54]? = some (cI 0 600 (fun _ => 0))) (h55 : w[55]? = some (cI 0 5 (fun _ => 0))) (h56 : w[56]? = some (cO 0 [eR (57), eI 0, eI 0, eI 0, eR (58), eR (59), eI 0, eI 0, eI 0, eI 0, eI 0, eI 0, eI 0])) (h57 : w[57]? = some (cO 4 [eI 0, eI 0, eI 0])) (h58 : w[58]? = some (cI 0 6 (fun _ => 0))) (h59 : w[59]? = some (cI 0 3 (fun _ => 0))) (h60 : w[60]? = some (cO 4 [eI 0, eI 0, eI 0])) (h61 : w[61]? = some (cI 0 40 (fun _ => 0))) (h62 : w[62]? = some (cI 0 216 (fun _ => 0))) (h63 : w[63]? = some (cI 0 1000 (fun _ => 0))) (h64 : w[64]? = some (cO 7 [eR (65), eR (66), eI 0, eI 0, eI 0, eI 0, eI 0, eI 0, eI 0, eI 0, eR (67), eI 0, eI 0, eI 0, eI 0, eI 0, eI 0, eI 0, eI 0, eI 0, eI 0, eI 0, eI 0, eI 0, eI 0, eI 0, eI 0, eR (68), eR (69), eI 0, eI 0, eR (70), eR (71), eI 0, eI 0])) (h65 : w[65]? = some (cI 0 5768 (upd (fun _ => 0) 8 (-1)))) (h66 : w[66]? = some (cI 1 3 (fun _ => 0))) (h67 : w[67]? = some (cI 0 201 (fun _ => 0))) (h68 : w[68]? = some (cI 0 3 (fun _ => 0))) (h69 : w[69]? = some (cI 0 6 (fun _ => 0))) (h70 : w[70]? = some (cI 0 1791 (fun _ => 0))) (h71 : w[71]? = some (cI 1 1000 (fun _ => 0))) : WW p l e room_1 s m #[Value.ref b] below meth c (lw_Z below #[Value.ref b] s) G 4 0 0 599928 7288326 1085 [some (eK 2), some (eR 0), some (eR 64), some (eI 0)] [] w := by
  refine ww_aload_n K dL_law_1085 rfl ?_
  refine ww_aload_nK K dL_law_1086 rfl ?_
  refine ww_iload_n K dL_law_1087 rfl ?_
  refine ww_iconst (v := 1) K dL_law_1088 rfl ?_
  refine ww_iadd K dL_law_1089 ?_
  rw [show ((0 : Int32) + 1) = 1 from rfl]
  refine ww_ialdK K dL_law_1090 (by decide) (by rw [hL8]; exact wc_vin (by decide)) ?_
  refine ww_aload_nK K dL_law_1091 rfl ?_
  refine ww_iload_n K dL_law_1092 rfl ?_
  refine ww_iconst (v := 2) K dL_law_1093 rfl ?_
  refine ww_iadd K dL_law_1094 ?_
  rw [show ((0 : Int32) + 2) = 2 from rfl]
  refine ww_ialdK K dL_law_1095 (by decide) (by rw [hL8]; exact wc_vin (by decide)) ?_
  refine ww_aload_nK K dL_law_1096 rfl ?_
  refine ww_iload_n K dL_law_1097 rfl ?_
  refine ww_iconst (v := 3) K dL_law_1098 rfl ?_
  refine ww_iadd K dL_law_1099 ?_
  rw [show ((0 : Int32) + 3) = 3 from rfl]
  refine ww_ialdK K dL_law_1100 (by decide) (by rw [hL8]; exact wc_vin (by decide)) ?_
  refine ww_aload_nK K dL_law_1101 rfl ?_
  refine ww_iload_n K dL_law_1102 rfl ?_
  refine ww_iconst (v := 4) K dL_law_1103 rfl ?_
  refine ww_iadd K dL_law_1104 ?_
  rw [show ((0 : Int32) + 4) = 4 from rfl]
  refine ww_ialdK K dL_law_1105 (by decide) (by rw [hL8]; exact wc_vin (by decide)) ?_
  refine ww_aload_nK K dL_law_1106 rfl ?_
  refine ww_iload_n K dL_law_1107 rfl ?_
  refine ww_iconst (v := 5) K dL_law_1108 rfl ?_
  refine ww_iadd K dL_law_1109 ?_
  rw [show ((0 : Int32) + 5) = 5 from rfl]
  refine ww_ialdK K dL_law_1110 (by decide) (by rw [hL8]; exact wc_vin (by decide)) ?_
  refine ww_aload_nK K dL_law_1111 rfl ?_
  refine ww_iload_n K dL_law_1112 rfl ?_
  refine ww_bipush (v := 6) K dL_law_1113 rfl ?_
  refine ww_iadd K dL_law_1115 ?_
  rw [show ((0 : Int32) + 6) = 6 from rfl]
  refine ww_ialdK K dL_law_1116 (by decide) (by rw [hL8]; exact wc_vin (by decide)) ?_
  refine ww_aload_nK K dL_law_1117 rfl ?_
  refine ww_iload_n K dL_law_1118 rfl ?_
  refine ww_bipush (v := 7) K dL_law_1119 rfl ?_
  refine ww_iadd K dL_law_1121 ?_
  rw [show ((0 : Int32) + 7) = 7 from rfl]
  refine ww_ialdK K dL_law_1122 (by decide) (by rw [hL8]; exact wc_vin (by decide)) ?_
  refine ww_cV K dL_law_1123 lc_L_88 h0 ⟨_, rfl, rfl⟩ (ct_X6_lobby0 G l h0 h1 h3 (fun _ _ => rfl) (a := _) (b := _) (c := _) (d := _) (f := _) (g := _) (h := _)) rfl ⟨Nat.le_of_ble_eq_true rfl, Nat.le_of_ble_eq_true rfl⟩ (Nat.le_of_ble_eq_true rfl) ?_
  refine ww_aload_n K dL_law_1126 rfl ?_
  refine ww_aload_nK K dL_law_1127 rfl ?_
  refine ww_iload_n K dL_law_1128 rfl ?_
  refine ww_iconst (v := 1) K dL_law_1129 rfl ?_
  refine ww_iadd K dL_law_1130 ?_
  rw [show ((0 : Int32) + 1) = 1 from rfl]
  refine ww_ialdK K dL_law_1131 (by decide) (by rw [hL8]; exact wc_vin (by decide)) ?_
  refine ww_aload_nK K dL_law_1132 rfl ?_
  refine ww_iload_n K dL_law_1133 rfl ?_
  refine ww_iconst (v := 2) K dL_law_1134 rfl ?_
  refine ww_iadd K dL_law_1135 ?_
  rw [show ((0 : Int32) + 2) = 2 from rfl]
  refine ww_ialdK K dL_law_1136 (by decide) (by rw [hL8]; exact wc_vin (by decide)) ?_
  refine ww_aload_nK K dL_law_1137 rfl ?_
  refine ww_iload_n K dL_law_1138 rfl ?_
  refine ww_iconst (v := 3) K dL_law_1139 rfl ?_
  refine ww_iadd K dL_law_1140 ?_
  rw [show ((0 : Int32) + 3) = 3 from rfl]
  refine ww_ialdK K dL_law_1141 (by decide) (by rw [hL8]; exact wc_vin (by decide)) ?_
  refine ww_aload_nK K dL_law_1142 rfl ?_
  refine ww_iload_n K dL_law_1143 rfl ?_
  refine ww_iconst (v := 4) K dL_law_1144 rfl ?_
  refine ww_iadd K dL_law_1145 ?_
  rw [show ((0 : Int32) + 4) = 4 from rfl]
  refine ww_ialdK K dL_law_1146 (by decide) (by rw [hL8]; exact wc_vin (by decide)) ?_
  refine ww_aload_nK K dL_law_1147 rfl ?_
  refine ww_iload_n K dL_law_1148 rfl ?_
  refine ww_iconst (v := 5) K dL_law_1149 rfl ?_
  refine ww_iadd K dL_law_1150 ?_
  rw [show ((0 : Int32) + 5) = 5 from rfl]
  refine ww_ialdK K dL_law_1151 (by decide) (by rw [hL8]; exact wc_vin (by decide)) ?_
  refine ww_aload_nK K dL_law_1152 rfl ?_
  refine ww_iload_n K dL_law_1153 rfl ?_
  refine ww_bipush (v := 6) K dL_law_1154 rfl ?_
  refine ww_iadd K dL_law_1156 ?_
  rw [show ((0 : Int32) + 6) = 6 from rfl]
  refine ww_ialdK K dL_law_1157 (by decide) (by rw [hL8]; exact wc_vin (by decide)) ?_
  refine ww_aload_nK K dL_law_1158 rfl ?_
  refine ww_iload_n K dL_law_1159 rfl ?_
  refine ww_bipush (v := 7) K dL_law_1160 rfl ?_
  refine ww_iadd K dL_law_1162 ?_
  rw [show ((0 : Int32) + 7) = 7 from rfl]
  refine ww_ialdK K dL_law_1163 (by decide) (by rw [hL8]; exact wc_vin (by decide)) ?_
  refine ww_cV K dL_law_1164 lc_L_92 h64 ⟨_, rfl, rfl⟩ (ct_X7_lobby0 G l h64 h65 (fun k hk => wc_A0 hk) (a := _) (b := _) (c := _) (d := _) (f := _) (g := _) (h := _)) rfl ⟨Nat.le_of_ble_eq_true rfl, Nat.le_of_ble_eq_true rfl⟩ (Nat.le_of_ble_eq_true rfl) ?_
  refine ww_icmp_eq (tgt := 1621) K dL_law_1167 rfl (fun _ => ?_) (fun cc_ => absurd cc_ (by decide))
  exact wc_law_fin K hr hL8 _ _ _
set_option maxRecDepth 100000 in
set_option maxHeartbeats 8000000 in
theorem wc_law_bargain {p : Program} {l : Launch} {e : Env} {s : State} {m : MethodId} {below : List Frame} {meth : Method} {c : Code} {b : Nat} {G : EG} (K : wc_C p s m #[Value.ref b] meth c G RL cL_law 4 0) (hr : meth.sig.returnType = ret) (hL8 : gL G 2 = 8) {w : EW} (hlen : w.length = 72) (h0 : w[0]? = some (cO 6 [eR (1), eR (42), eR (43), eR (56), eR (60), eR (61), eR (62), eR (63)])) (h1 : w[1]? = some (cO 5 [eR (2), eI 0, eI 0, eI ((-1)), eR (3), eR (4), eR (5)])) (h2 : w[2]? = some (cI 0 600 (fun _ => 0))) (h3 : w[3]? = some (cI 0 6 (fun _ => 0))) (h4 : w[4]? = some (cQ 2 2 (va_up (va_up (fun _ => none) 0 (some 6)) 1 (some 14)))) (h5 : w[5]? = some (cQ 3 10 (va_up (va_up (va_up (va_up (va_up (va_up (va_up (va_up (va_up (va_up (fun _ => none) 0 (some 22)) 1 (some 24)) 2 (some 26)) 3 (some 28)) 4 (some 30)) 5 (some 32)) 6 (some 34)) 7 (some 36)) 8 (some 38)) 9 (some 40)))) (h6 : w[6]? = some (cO 2 [eI 0, eR (7), eR (8), eR (9), eR (10), eR (11), eR (12), eR (13), eI 0, eI 0, eI 0, eI 0, eI 0, eI 0])) (h7 : w[7]? = some (cI 0 6 (fun _ => 0))) (h8 : w[8]? = some (cI 0 6 (fun _ => 0))) (h9 : w[9]? = some (cI 0 6 (fun _ => 0))) (h10 : w[10]? = some (cI 0 6 (fun _ => 0))) (h11 : w[11]? = some (cI 0 72 (fun _ => 0))) (h12 : w[12]? = some (cI 0 6 (fun _ => 0))) (h13 : w[13]? = some (cI 0 3 (fun _ => 0))) (h14 : w[14]? = some (cO 2 [eI 0, eR (15), eR (16), eR (17), eR (18), eR (19), eR (20), eR (21), eI 0, eI 0, eI 0, eI 0, eI 0, eI 0])) (h15 : w[15]? = some (cI 0 6 (fun _ => 0))) (h16 : w[16]? = some (cI 0 6 (fun _ => 0))) (h17 : w[17]? = some (cI 0 6 (fun _ => 0))) (h18 : w[18]? = some (cI 0 6 (fun _ => 0))) (h19 : w[19]? = some (cI 0 72 (fun _ => 0))) (h20 : w[20]? = some (cI 0 6 (fun _ => 0))) (h21 : w[21]? = some (cI 0 3 (fun _ => 0))) (h22 : w[22]? = some (cO 3 [eI 0, eR (23)])) (h23 : w[23]? = some (cI 0 200 (fun _ => 0))) (h24 : w[24]? = some (cO 3 [eI 0, eR (25)])) (h25 : w[25]? = some (cI 0 200 (fun _ => 0))) (h26 : w[26]? = some (cO 3 [eI 0, eR (27)])) (h27 : w[27]? = some (cI 0 200 (fun _ => 0))) (h28 : w[28]? = some (cO 3 [eI 0, eR (29)])) (h29 : w[29]? = some (cI 0 200 (fun _ => 0))) (h30 : w[30]? = some (cO 3 [eI 0, eR (31)])) (h31 : w[31]? = some (cI 0 200 (fun _ => 0))) (h32 : w[32]? = some (cO 3 [eI 0, eR (33)])) (h33 : w[33]? = some (cI 0 200 (fun _ => 0))) (h34 : w[34]? = some (cO 3 [eI 0, eR (35)])) (h35 : w[35]? = some (cI 0 200 (fun _ => 0))) (h36 : w[36]? = some (cO 3 [eI 0, eR (37)])) (h37 : w[37]? = some (cI 0 200 (fun _ => 0))) (h38 : w[38]? = some (cO 3 [eI 0, eR (39)])) (h39 : w[39]? = some (cI 0 200 (fun _ => 0))) (h40 : w[40]? = some (cO 3 [eI 0, eR (41)])) (h41 : w[41]? = some (cI 0 200 (fun _ => 0))) (h42 : w[42]? = some (cQ 4 3 (fun _ => none))) (h43 : w[43]? = some (cO 1 [eR (44), eR (52), eI 0, eI 0, eR (54), eR (55), eI 0, eI 0, eI 0, eI 0, eI 0, eI 0])) (h44 : w[44]? = some (cO 2 [eI 0, eR (45), eR (46), eR (47), eR (48), eR (49), eR (50), eR (51), eI 0, eI 0, eI 0, eI 0, eI 0, eI 0])) (h45 : w[45]? = some (cI 0 6 (fun _ => 0))) (h46 : w[46]? = some (cI 0 6 (fun _ => 0))) (h47 : w[47]? = some (cI 0 6 (fun _ => 0))) (h48 : w[48]? = some (cI 0 6 (fun _ => 0))) (h49 : w[49]? = some (cI 0 72 (fun _ => 0))) (h50 : w[50]? = some (cI 0 6 (fun _ => 0))) (h51 : w[51]? = some (cI 0 3 (fun _ => 0))) (h52 : w[52]? = some (cO 3 [eI 0, eR (53)])) (h53 : w[53]? = some (cI 0 200 (fun _ => 0))) (h54 : w[54]? = some (cI 0 600 (fun _ => 0))) (h55 : w[55]? = some (cI 0 5 (fun _ => 0))) (h56 : w[56]? = some (cO 0 [eR (57), eI 0, eI 0, eI 0, eR (58), eR (59), eI 0, eI 0, eI 0, eI 0, eI 0, eI 0, eI 0])) (h57 : w[57]? = some (cO 4 [eI 0, eI 0, eI 0])) (h58 : w[58]? = some (cI 0 6 (fun _ => 0))) (h59 : w[59]? = some (cI 0 3 (fun _ => 0))) (h60 : w[60]? = some (cO 4 [eI 0, eI 0, eI 0])) (h61 : w[61]? = some (cI 0 40 (fun _ => 0))) (h62 : w[62]? = some (cI 0 216 (fun _ => 0))) (h63 : w[63]? = some (cI 0 1000 (fun _ => 0))) (h64 : w[64]? = some (cO 7 [eR (65), eR (66), eI 0, eI 0, eI 0, eI 0, eI 0, eI 0, eI 0, eI 0, eR (67), eI 0, eI 0, eI 0, eI 0, eI 0, eI 0, eI 0, eI 0, eI 0, eI 0, eI 0, eI 0, eI 0, eI 0, eI 0, eI 0, eR (68), eR (69), eI 0, eI 0, eR (70), eR (71), eI 0, eI 0])) (h65 : w[65]? = some (cI 0 5768 (upd (fun _ => 0) 8 (-1)))) (h66 : w[66]? = some (cI 1 3 (fun _ => 0))) (h67 : w[67]? = some (cI 0 201 (fun _ => 0))) (h68 : w[68]? = some (cI 0 3 (fun _ => 0))) (h69 : w[69]? = some (cI 0 6 (fun _ => 0))) (h70 : w[70]? = some (cI 0 1791 (fun _ => 0))) (h71 : w[71]? = some (cI 1 1000 (fun _ => 0))) : WW p l e room_1 s m #[Value.ref b] below meth c (lw_Z below #[Value.ref b] s) G 4 0 0 599928 7288326 1172 [some (eK 2), some (eR 0), some (eR 64), some (eI 0)] [] w := by
  refine ww_aload_n K dL_law_1172 rfl ?_
  refine ww_aload_nK K dL_law_1173 rfl ?_
  refine ww_iload_n K dL_law_1174 rfl ?_
  refine ww_iconst (v := 1) K dL_law_1175 rfl ?_
  refine ww_iadd K dL_law_1176 ?_
  rw [show ((0 : Int32) + 1) = 1 from rfl]
  refine ww_ialdK K dL_law_1177 (by decide) (by rw [hL8]; exact wc_vin (by decide)) ?_
  refine ww_aload_nK K dL_law_1178 rfl ?_
  refine ww_iload_n K dL_law_1179 rfl ?_
  refine ww_iconst (v := 2) K dL_law_1180 rfl ?_
  refine ww_iadd K dL_law_1181 ?_
  rw [show ((0 : Int32) + 2) = 2 from rfl]
  refine ww_ialdK K dL_law_1182 (by decide) (by rw [hL8]; exact wc_vin (by decide)) ?_
  refine ww_aload_nK K dL_law_1183 rfl ?_
  refine ww_iload_n K dL_law_1184 rfl ?_
  refine ww_iconst (v := 3) K dL_law_1185 rfl ?_
  refine ww_iadd K dL_law_1186 ?_
  rw [show ((0 : Int32) + 3) = 3 from rfl]
  refine ww_ialdK K dL_law_1187 (by decide) (by rw [hL8]; exact wc_vin (by decide)) ?_
  refine ww_cV K dL_law_1188 lc_L_93 h0 ⟨_, rfl, rfl⟩ (ct_X6_bargain0 G l h0 h1 h3 (fun _ _ => rfl) (a := _) (b := _) (c := _)) rfl ⟨Nat.le_of_ble_eq_true rfl, Nat.le_of_ble_eq_true rfl⟩ (Nat.le_of_ble_eq_true rfl) ?_
  refine ww_aload_n K dL_law_1191 rfl ?_
  refine ww_aload_nK K dL_law_1192 rfl ?_
  refine ww_iload_n K dL_law_1193 rfl ?_
  refine ww_iconst (v := 1) K dL_law_1194 rfl ?_
  refine ww_iadd K dL_law_1195 ?_
  rw [show ((0 : Int32) + 1) = 1 from rfl]
  refine ww_ialdK K dL_law_1196 (by decide) (by rw [hL8]; exact wc_vin (by decide)) ?_
  refine ww_aload_nK K dL_law_1197 rfl ?_
  refine ww_iload_n K dL_law_1198 rfl ?_
  refine ww_iconst (v := 2) K dL_law_1199 rfl ?_
  refine ww_iadd K dL_law_1200 ?_
  rw [show ((0 : Int32) + 2) = 2 from rfl]
  refine ww_ialdK K dL_law_1201 (by decide) (by rw [hL8]; exact wc_vin (by decide)) ?_
  refine ww_aload_nK K dL_law_1202 rfl ?_
  refine ww_iload_n K dL_law_1203 rfl ?_
  refine ww_iconst (v := 3) K dL_law_1204 rfl ?_
  refine ww_iadd K dL_law_1205 ?_
  rw [show ((0 : Int32) + 3) = 3 from rfl]
  refine ww_ialdK K dL_law_1206 (by decide) (by rw [hL8]; exact wc_vin (by decide)) ?_
  refine ww_cV K dL_law_1207 lc_L_96 h64 ⟨_, rfl, rfl⟩ (ct_X7_bargain0 G l h64 h65 (fun k hk => wc_A0 hk) (a := _) (b := _) (c := _)) rfl ⟨Nat.le_of_ble_eq_true rfl, Nat.le_of_ble_eq_true rfl⟩ (Nat.le_of_ble_eq_true rfl) ?_
  refine ww_icmp_eq (tgt := 1621) K dL_law_1210 rfl (fun _ => ?_) (fun cc_ => absurd cc_ (by decide))
  exact wc_law_fin K hr hL8 _ _ _
set_option maxRecDepth 100000 in
set_option maxHeartbeats 8000000 in
theorem wc_law_was {p : Program} {l : Launch} {e : Env} {s : State} {m : MethodId} {below : List Frame} {meth : Method} {c : Code} {b : Nat} {G : EG} (K : wc_C p s m #[Value.ref b] meth c G RL cL_law 4 0) (hr : meth.sig.returnType = ret) (hL8 : gL G 2 = 8) {w : EW} (hlen : w.length = 72) (h0 : w[0]? = some (cO 6 [eR (1), eR (42), eR (43), eR (56), eR (60), eR (61), eR (62), eR (63)])) (h1 : w[1]? = some (cO 5 [eR (2), eI 0, eI 0, eI ((-1)), eR (3), eR (4), eR (5)])) (h2 : w[2]? = some (cI 0 600 (fun _ => 0))) (h3 : w[3]? = some (cI 0 6 (fun _ => 0))) (h4 : w[4]? = some (cQ 2 2 (va_up (va_up (fun _ => none) 0 (some 6)) 1 (some 14)))) (h5 : w[5]? = some (cQ 3 10 (va_up (va_up (va_up (va_up (va_up (va_up (va_up (va_up (va_up (va_up (fun _ => none) 0 (some 22)) 1 (some 24)) 2 (some 26)) 3 (some 28)) 4 (some 30)) 5 (some 32)) 6 (some 34)) 7 (some 36)) 8 (some 38)) 9 (some 40)))) (h6 : w[6]? = some (cO 2 [eI 0, eR (7), eR (8), eR (9), eR (10), eR (11), eR (12), eR (13), eI 0, eI 0, eI 0, eI 0, eI 0, eI 0])) (h7 : w[7]? = some (cI 0 6 (fun _ => 0))) (h8 : w[8]? = some (cI 0 6 (fun _ => 0))) (h9 : w[9]? = some (cI 0 6 (fun _ => 0))) (h10 : w[10]? = some (cI 0 6 (fun _ => 0))) (h11 : w[11]? = some (cI 0 72 (fun _ => 0))) (h12 : w[12]? = some (cI 0 6 (fun _ => 0))) (h13 : w[13]? = some (cI 0 3 (fun _ => 0))) (h14 : w[14]? = some (cO 2 [eI 0, eR (15), eR (16), eR (17), eR (18), eR (19), eR (20), eR (21), eI 0, eI 0, eI 0, eI 0, eI 0, eI 0])) (h15 : w[15]? = some (cI 0 6 (fun _ => 0))) (h16 : w[16]? = some (cI 0 6 (fun _ => 0))) (h17 : w[17]? = some (cI 0 6 (fun _ => 0))) (h18 : w[18]? = some (cI 0 6 (fun _ => 0))) (h19 : w[19]? = some (cI 0 72 (fun _ => 0))) (h20 : w[20]? = some (cI 0 6 (fun _ => 0))) (h21 : w[21]? = some (cI 0 3 (fun _ => 0))) (h22 : w[22]? = some (cO 3 [eI 0, eR (23)])) (h23 : w[23]? = some (cI 0 200 (fun _ => 0))) (h24 : w[24]? = some (cO 3 [eI 0, eR (25)])) (h25 : w[25]? = some (cI 0 200 (fun _ => 0))) (h26 : w[26]? = some (cO 3 [eI 0, eR (27)])) (h27 : w[27]? = some (cI 0 200 (fun _ => 0))) (h28 : w[28]? = some (cO 3 [eI 0, eR (29)])) (h29 : w[29]? = some (cI 0 200 (fun _ => 0))) (h30 : w[30]? = some (cO 3 [eI 0, eR (31)])) (h31 : w[31]? = some (cI 0 200 (fun _ => 0))) (h32 : w[32]? = some (cO 3 [eI 0, eR (33)])) (h33 : w[33]? = some (cI 0 200 (fun _ => 0))) (h34 : w[34]? = some (cO 3 [eI 0, eR (35)])) (h35 : w[35]? = some (cI 0 200 (fun _ => 0))) (h36 : w[36]? = some (cO 3 [eI 0, eR (37)])) (h37 : w[37]? = some (cI 0 200 (fun _ => 0))) (h38 : w[38]? = some (cO 3 [eI 0, eR (39)])) (h39 : w[39]? = some (cI 0 200 (fun _ => 0))) (h40 : w[40]? = some (cO 3 [eI 0, eR (41)])) (h41 : w[41]? = some (cI 0 200 (fun _ => 0))) (h42 : w[42]? = some (cQ 4 3 (fun _ => none))) (h43 : w[43]? = some (cO 1 [eR (44), eR (52), eI 0, eI 0, eR (54), eR (55), eI 0, eI 0, eI 0, eI 0, eI 0, eI 0])) (h44 : w[44]? = some (cO 2 [eI 0, eR (45), eR (46), eR (47), eR (48), eR (49), eR (50), eR (51), eI 0, eI 0, eI 0, eI 0, eI 0, eI 0])) (h45 : w[45]? = some (cI 0 6 (fun _ => 0))) (h46 : w[46]? = some (cI 0 6 (fun _ => 0))) (h47 : w[47]? = some (cI 0 6 (fun _ => 0))) (h48 : w[48]? = some (cI 0 6 (fun _ => 0))) (h49 : w[49]? = some (cI 0 72 (fun _ => 0))) (h50 : w[50]? = some (cI 0 6 (fun _ => 0))) (h51 : w[51]? = some (cI 0 3 (fun _ => 0))) (h52 : w[52]? = some (cO 3 [eI 0, eR (53)])) (h53 : w[53]? = some (cI 0 200 (fun _ => 0))) (h54 : w[54]? = some (cI 0 600 (fun _ => 0))) (h55 : w[55]? = some (cI 0 5 (fun _ => 0))) (h56 : w[56]? = some (cO 0 [eR (57), eI 0, eI 0, eI 0, eR (58), eR (59), eI 0, eI 0, eI 0, eI 0, eI 0, eI 0, eI 0])) (h57 : w[57]? = some (cO 4 [eI 0, eI 0, eI 0])) (h58 : w[58]? = some (cI 0 6 (fun _ => 0))) (h59 : w[59]? = some (cI 0 3 (fun _ => 0))) (h60 : w[60]? = some (cO 4 [eI 0, eI 0, eI 0])) (h61 : w[61]? = some (cI 0 40 (fun _ => 0))) (h62 : w[62]? = some (cI 0 216 (fun _ => 0))) (h63 : w[63]? = some (cI 0 1000 (fun _ => 0))) (h64 : w[64]? = some (cO 7 [eR (65), eR (66), eI 0, eI 0, eI 0, eI 0, eI 0, eI 0, eI 0, eI 0, eR (67), eI 0, eI 0, eI 0, eI 0, eI 0, eI 0, eI 0, eI 0, eI 0, eI 0, eI 0, eI 0, eI 0, eI 0, eI 0, eI 0, eR (68), eR (69), eI 0, eI 0, eR (70), eR (71), eI 0, eI 0])) (h65 : w[65]? = some (cI 0 5768 (upd (fun _ => 0) 8 (-1)))) (h66 : w[66]? = some (cI 1 3 (fun _ => 0))) (h67 : w[67]? = some (cI 0 201 (fun _ => 0))) (h68 : w[68]? = some (cI 0 3 (fun _ => 0))) (h69 : w[69]? = some (cI 0 6 (fun _ => 0))) (h70 : w[70]? = some (cI 0 1791 (fun _ => 0))) (h71 : w[71]? = some (cI 1 1000 (fun _ => 0))) : WW p l e room_1 s m #[Value.ref b] below meth c (lw_Z below #[Value.ref b] s) G 4 0 0 599928 7288326 1215 [some (eK 2), some (eR 0), some (eR 64), some (eI 0)] [] w := by
  refine ww_aload_n K dL_law_1215 rfl ?_
  refine ww_aload_nK K dL_law_1216 rfl ?_
  refine ww_iload_n K dL_law_1217 rfl ?_
  refine ww_iconst (v := 1) K dL_law_1218 rfl ?_
  refine ww_iadd K dL_law_1219 ?_
  rw [show ((0 : Int32) + 1) = 1 from rfl]
  refine ww_ialdK K dL_law_1220 (by decide) (by rw [hL8]; exact wc_vin (by decide)) ?_
  refine ww_aload_nK K dL_law_1221 rfl ?_
  refine ww_iload_n K dL_law_1222 rfl ?_
  refine ww_iconst (v := 2) K dL_law_1223 rfl ?_
  refine ww_iadd K dL_law_1224 ?_
  rw [show ((0 : Int32) + 2) = 2 from rfl]
  refine ww_ialdK K dL_law_1225 (by decide) (by rw [hL8]; exact wc_vin (by decide)) ?_
  refine ww_aload_nK K dL_law_1226 rfl ?_
  refine ww_iload_n K dL_law_1227 rfl ?_
  refine ww_iconst (v := 3) K dL_law_1228 rfl ?_
  refine ww_iadd K dL_law_1229 ?_
  rw [show ((0 : Int32) + 3) = 3 from rfl]
  refine ww_ialdK K dL_law_1230 (by decide) (by rw [hL8]; exact wc_vin (by decide)) ?_
  refine ww_cV K dL_law_1231 lc_L_97 h0 ⟨_, rfl, rfl⟩ (ct_X6_was0 G l h0 h1 h3 (fun _ _ => rfl) (a := _) (b := _) (c := _)) rfl ⟨Nat.le_of_ble_eq_true rfl, Nat.le_of_ble_eq_true rfl⟩ (Nat.le_of_ble_eq_true rfl) ?_
  refine ww_aload_n K dL_law_1234 rfl ?_
  refine ww_aload_nK K dL_law_1235 rfl ?_
  refine ww_iload_n K dL_law_1236 rfl ?_
  refine ww_iconst (v := 1) K dL_law_1237 rfl ?_
  refine ww_iadd K dL_law_1238 ?_
  rw [show ((0 : Int32) + 1) = 1 from rfl]
  refine ww_ialdK K dL_law_1239 (by decide) (by rw [hL8]; exact wc_vin (by decide)) ?_
  refine ww_aload_nK K dL_law_1240 rfl ?_
  refine ww_iload_n K dL_law_1241 rfl ?_
  refine ww_iconst (v := 2) K dL_law_1242 rfl ?_
  refine ww_iadd K dL_law_1243 ?_
  rw [show ((0 : Int32) + 2) = 2 from rfl]
  refine ww_ialdK K dL_law_1244 (by decide) (by rw [hL8]; exact wc_vin (by decide)) ?_
  refine ww_aload_nK K dL_law_1245 rfl ?_
  refine ww_iload_n K dL_law_1246 rfl ?_
  refine ww_iconst (v := 3) K dL_law_1247 rfl ?_
  refine ww_iadd K dL_law_1248 ?_
  rw [show ((0 : Int32) + 3) = 3 from rfl]
  refine ww_ialdK K dL_law_1249 (by decide) (by rw [hL8]; exact wc_vin (by decide)) ?_
  refine ww_cV K dL_law_1250 lc_L_100 h64 ⟨_, rfl, rfl⟩ (ct_X7_was0 G l h64 h65 (fun k hk => wc_A0 hk) (a := _) (b := _) (c := _)) rfl ⟨Nat.le_of_ble_eq_true rfl, Nat.le_of_ble_eq_true rfl⟩ (Nat.le_of_ble_eq_true rfl) ?_
  refine ww_icmp_eq (tgt := 1621) K dL_law_1253 rfl (fun _ => ?_) (fun cc_ => absurd cc_ (by decide))
  exact wc_law_fin K hr hL8 _ _ _
set_option maxRecDepth 100000 in
set_option maxHeartbeats 8000000 in
theorem wc_law_nature {p : Program} {l : Launch} {e : Env} {s : State} {m : MethodId} {below : List Frame} {meth : Method} {c : Code} {b : Nat} {G : EG} (K : wc_C p s m #[Value.ref b] meth c G RL cL_law 4 0) (hr : meth.sig.returnType = ret) (hL8 : gL G 2 = 8) {w : EW} (hlen : w.length = 72) (h0 : w[0]? = some (cO 6 [eR (1), eR (42), eR (43), eR (56), eR (60), eR (61), eR (62), eR (63)])) (h1 : w[1]? = some (cO 5 [eR (2), eI 0, eI 0, eI ((-1)), eR (3), eR (4), eR (5)])) (h2 : w[2]? = some (cI 0 600 (fun _ => 0))) (h3 : w[3]? = some (cI 0 6 (fun _ => 0))) (h4 : w[4]? = some (cQ 2 2 (va_up (va_up (fun _ => none) 0 (some 6)) 1 (some 14)))) (h5 : w[5]? = some (cQ 3 10 (va_up (va_up (va_up (va_up (va_up (va_up (va_up (va_up (va_up (va_up (fun _ => none) 0 (some 22)) 1 (some 24)) 2 (some 26)) 3 (some 28)) 4 (some 30)) 5 (some 32)) 6 (some 34)) 7 (some 36)) 8 (some 38)) 9 (some 40)))) (h6 : w[6]? = some (cO 2 [eI 0, eR (7), eR (8), eR (9), eR (10), eR (11), eR (12), eR (13), eI 0, eI 0, eI 0, eI 0, eI 0, eI 0])) (h7 : w[7]? = some (cI 0 6 (fun _ => 0))) (h8 : w[8]? = some (cI 0 6 (fun _ => 0))) (h9 : w[9]? = some (cI 0 6 (fun _ => 0))) (h10 : w[10]? = some (cI 0 6 (fun _ => 0))) (h11 : w[11]? = some (cI 0 72 (fun _ => 0))) (h12 : w[12]? = some (cI 0 6 (fun _ => 0))) (h13 : w[13]? = some (cI 0 3 (fun _ => 0))) (h14 : w[14]? = some (cO 2 [eI 0, eR (15), eR (16), eR (17), eR (18), eR (19), eR (20), eR (21), eI 0, eI 0, eI 0, eI 0, eI 0, eI 0])) (h15 : w[15]? = some (cI 0 6 (fun _ => 0))) (h16 : w[16]? = some (cI 0 6 (fun _ => 0))) (h17 : w[17]? = some (cI 0 6 (fun _ => 0))) (h18 : w[18]? = some (cI 0 6 (fun _ => 0))) (h19 : w[19]? = some (cI 0 72 (fun _ => 0))) (h20 : w[20]? = some (cI 0 6 (fun _ => 0))) (h21 : w[21]? = some (cI 0 3 (fun _ => 0))) (h22 : w[22]? = some (cO 3 [eI 0, eR (23)])) (h23 : w[23]? = some (cI 0 200 (fun _ => 0))) (h24 : w[24]? = some (cO 3 [eI 0, eR (25)])) (h25 : w[25]? = some (cI 0 200 (fun _ => 0))) (h26 : w[26]? = some (cO 3 [eI 0, eR (27)])) (h27 : w[27]? = some (cI 0 200 (fun _ => 0))) (h28 : w[28]? = some (cO 3 [eI 0, eR (29)])) (h29 : w[29]? = some (cI 0 200 (fun _ => 0))) (h30 : w[30]? = some (cO 3 [eI 0, eR (31)])) (h31 : w[31]? = some (cI 0 200 (fun _ => 0))) (h32 : w[32]? = some (cO 3 [eI 0, eR (33)])) (h33 : w[33]? = some (cI 0 200 (fun _ => 0))) (h34 : w[34]? = some (cO 3 [eI 0, eR (35)])) (h35 : w[35]? = some (cI 0 200 (fun _ => 0))) (h36 : w[36]? = some (cO 3 [eI 0, eR (37)])) (h37 : w[37]? = some (cI 0 200 (fun _ => 0))) (h38 : w[38]? = some (cO 3 [eI 0, eR (39)])) (h39 : w[39]? = some (cI 0 200 (fun _ => 0))) (h40 : w[40]? = some (cO 3 [eI 0, eR (41)])) (h41 : w[41]? = some (cI 0 200 (fun _ => 0))) (h42 : w[42]? = some (cQ 4 3 (fun _ => none))) (h43 : w[43]? = some (cO 1 [eR (44), eR (52), eI 0, eI 0, eR (54), eR (55), eI 0, eI 0, eI 0, eI 0, eI 0, eI 0])) (h44 : w[44]? = some (cO 2 [eI 0, eR (45), eR (46), eR (47), eR (48), eR (49), eR (50), eR (51), eI 0, eI 0, eI 0, eI 0, eI 0, eI 0])) (h45 : w[45]? = some (cI 0 6 (fun _ => 0))) (h46 : w[46]? = some (cI 0 6 (fun _ => 0))) (h47 : w[47]? = some (cI 0 6 (fun _ => 0))) (h48 : w[48]? = some (cI 0 6 (fun _ => 0))) (h49 : w[49]? = some (cI 0 72 (fun _ => 0))) (h50 : w[50]? = some (cI 0 6 (fun _ => 0))) (h51 : w[51]? = some (cI 0 3 (fun _ => 0))) (h52 : w[52]? = some (cO 3 [eI 0, eR (53)])) (h53 : w[53]? = some (cI 0 200 (fun _ => 0))) (h54 : w[54]? = some (cI 0 600 (fun _ => 0))) (h55 : w[55]? = some (cI 0 5 (fun _ => 0))) (h56 : w[56]? = some (cO 0 [eR (57), eI 0, eI 0, eI 0, eR (58), eR (59), eI 0, eI 0, eI 0, eI 0, eI 0, eI 0, eI 0])) (h57 : w[57]? = some (cO 4 [eI 0, eI 0, eI 0])) (h58 : w[58]? = some (cI 0 6 (fun _ => 0))) (h59 : w[59]? = some (cI 0 3 (fun _ => 0))) (h60 : w[60]? = some (cO 4 [eI 0, eI 0, eI 0])) (h61 : w[61]? = some (cI 0 40 (fun _ => 0))) (h62 : w[62]? = some (cI 0 216 (fun _ => 0))) (h63 : w[63]? = some (cI 0 1000 (fun _ => 0))) (h64 : w[64]? = some (cO 7 [eR (65), eR (66), eI 0, eI 0, eI 0, eI 0, eI 0, eI 0, eI 0, eI 0, eR (67), eI 0, eI 0, eI 0, eI 0, eI 0, eI 0, eI 0, eI 0, eI 0, eI 0, eI 0, eI 0, eI 0, eI 0, eI 0, eI 0, eR (68), eR (69), eI 0, eI 0, eR (70), eR (71), eI 0, eI 0])) (h65 : w[65]? = some (cI 0 5768 (upd (fun _ => 0) 8 (-1)))) (h66 : w[66]? = some (cI 1 3 (fun _ => 0))) (h67 : w[67]? = some (cI 0 201 (fun _ => 0))) (h68 : w[68]? = some (cI 0 3 (fun _ => 0))) (h69 : w[69]? = some (cI 0 6 (fun _ => 0))) (h70 : w[70]? = some (cI 0 1791 (fun _ => 0))) (h71 : w[71]? = some (cI 1 1000 (fun _ => 0))) : WW p l e room_1 s m #[Value.ref b] below meth c (lw_Z below #[Value.ref b] s) G 4 0 0 599928 7288326 1258 [some (eK 2), some (eR 0), some (eR 64), some (eI 0)] [] w := by
  refine ww_aload_n K dL_law_1258 rfl ?_
  refine ww_aload_nK K dL_law_1259 rfl ?_
  refine ww_iload_n K dL_law_1260 rfl ?_
  refine ww_iconst (v := 1) K dL_law_1261 rfl ?_
  refine ww_iadd K dL_law_1262 ?_
  rw [show ((0 : Int32) + 1) = 1 from rfl]
  refine ww_ialdK K dL_law_1263 (by decide) (by rw [hL8]; exact wc_vin (by decide)) ?_
  refine ww_aload_nK K dL_law_1264 rfl ?_
  refine ww_iload_n K dL_law_1265 rfl ?_
  refine ww_iconst (v := 2) K dL_law_1266 rfl ?_
  refine ww_iadd K dL_law_1267 ?_
  rw [show ((0 : Int32) + 2) = 2 from rfl]
  refine ww_ialdK K dL_law_1268 (by decide) (by rw [hL8]; exact wc_vin (by decide)) ?_
  refine ww_aload_nK K dL_law_1269 rfl ?_
  refine ww_iload_n K dL_law_1270 rfl ?_
  refine ww_iconst (v := 3) K dL_law_1271 rfl ?_
  refine ww_iadd K dL_law_1272 ?_
  rw [show ((0 : Int32) + 3) = 3 from rfl]
  refine ww_ialdK K dL_law_1273 (by decide) (by rw [hL8]; exact wc_vin (by decide)) ?_
  refine ww_cV K dL_law_1274 lc_L_101 h0 ⟨_, rfl, rfl⟩ (ct_X6_nature0 G l h0 h1 h3 (fun _ _ => rfl) (a := _) (b := _) (c := _)) rfl ⟨Nat.le_of_ble_eq_true rfl, Nat.le_of_ble_eq_true rfl⟩ (Nat.le_of_ble_eq_true rfl) ?_
  refine ww_aload_n K dL_law_1277 rfl ?_
  refine ww_aload_nK K dL_law_1278 rfl ?_
  refine ww_iload_n K dL_law_1279 rfl ?_
  refine ww_iconst (v := 1) K dL_law_1280 rfl ?_
  refine ww_iadd K dL_law_1281 ?_
  rw [show ((0 : Int32) + 1) = 1 from rfl]
  refine ww_ialdK K dL_law_1282 (by decide) (by rw [hL8]; exact wc_vin (by decide)) ?_
  refine ww_aload_nK K dL_law_1283 rfl ?_
  refine ww_iload_n K dL_law_1284 rfl ?_
  refine ww_iconst (v := 2) K dL_law_1285 rfl ?_
  refine ww_iadd K dL_law_1286 ?_
  rw [show ((0 : Int32) + 2) = 2 from rfl]
  refine ww_ialdK K dL_law_1287 (by decide) (by rw [hL8]; exact wc_vin (by decide)) ?_
  refine ww_aload_nK K dL_law_1288 rfl ?_
  refine ww_iload_n K dL_law_1289 rfl ?_
  refine ww_iconst (v := 3) K dL_law_1290 rfl ?_
  refine ww_iadd K dL_law_1291 ?_
  rw [show ((0 : Int32) + 3) = 3 from rfl]
  refine ww_ialdK K dL_law_1292 (by decide) (by rw [hL8]; exact wc_vin (by decide)) ?_
  refine ww_cV K dL_law_1293 lc_L_104 h64 ⟨_, rfl, rfl⟩ (ct_X7_nature0 G l h64 h65 (fun k hk => wc_A0 hk) (a := _) (b := _) (c := _)) rfl ⟨Nat.le_of_ble_eq_true rfl, Nat.le_of_ble_eq_true rfl⟩ (Nat.le_of_ble_eq_true rfl) ?_
  refine ww_icmp_eq (tgt := 1621) K dL_law_1296 rfl (fun _ => ?_) (fun cc_ => absurd cc_ (by decide))
  exact wc_law_fin K hr hL8 _ _ _
set_option maxRecDepth 100000 in
set_option maxHeartbeats 8000000 in
theorem wc_law_seats {p : Program} {l : Launch} {e : Env} {s : State} {m : MethodId} {below : List Frame} {meth : Method} {c : Code} {b : Nat} {G : EG} (K : wc_C p s m #[Value.ref b] meth c G RL cL_law 4 0) (hr : meth.sig.returnType = ret) (hL8 : gL G 2 = 8) {w : EW} (hlen : w.length = 72) (h0 : w[0]? = some (cO 6 [eR (1), eR (42), eR (43), eR (56), eR (60), eR (61), eR (62), eR (63)])) (h1 : w[1]? = some (cO 5 [eR (2), eI 0, eI 0, eI ((-1)), eR (3), eR (4), eR (5)])) (h2 : w[2]? = some (cI 0 600 (fun _ => 0))) (h3 : w[3]? = some (cI 0 6 (fun _ => 0))) (h4 : w[4]? = some (cQ 2 2 (va_up (va_up (fun _ => none) 0 (some 6)) 1 (some 14)))) (h5 : w[5]? = some (cQ 3 10 (va_up (va_up (va_up (va_up (va_up (va_up (va_up (va_up (va_up (va_up (fun _ => none) 0 (some 22)) 1 (some 24)) 2 (some 26)) 3 (some 28)) 4 (some 30)) 5 (some 32)) 6 (some 34)) 7 (some 36)) 8 (some 38)) 9 (some 40)))) (h6 : w[6]? = some (cO 2 [eI 0, eR (7), eR (8), eR (9), eR (10), eR (11), eR (12), eR (13), eI 0, eI 0, eI 0, eI 0, eI 0, eI 0])) (h7 : w[7]? = some (cI 0 6 (fun _ => 0))) (h8 : w[8]? = some (cI 0 6 (fun _ => 0))) (h9 : w[9]? = some (cI 0 6 (fun _ => 0))) (h10 : w[10]? = some (cI 0 6 (fun _ => 0))) (h11 : w[11]? = some (cI 0 72 (fun _ => 0))) (h12 : w[12]? = some (cI 0 6 (fun _ => 0))) (h13 : w[13]? = some (cI 0 3 (fun _ => 0))) (h14 : w[14]? = some (cO 2 [eI 0, eR (15), eR (16), eR (17), eR (18), eR (19), eR (20), eR (21), eI 0, eI 0, eI 0, eI 0, eI 0, eI 0])) (h15 : w[15]? = some (cI 0 6 (fun _ => 0))) (h16 : w[16]? = some (cI 0 6 (fun _ => 0))) (h17 : w[17]? = some (cI 0 6 (fun _ => 0))) (h18 : w[18]? = some (cI 0 6 (fun _ => 0))) (h19 : w[19]? = some (cI 0 72 (fun _ => 0))) (h20 : w[20]? = some (cI 0 6 (fun _ => 0))) (h21 : w[21]? = some (cI 0 3 (fun _ => 0))) (h22 : w[22]? = some (cO 3 [eI 0, eR (23)])) (h23 : w[23]? = some (cI 0 200 (fun _ => 0))) (h24 : w[24]? = some (cO 3 [eI 0, eR (25)])) (h25 : w[25]? = some (cI 0 200 (fun _ => 0))) (h26 : w[26]? = some (cO 3 [eI 0, eR (27)])) (h27 : w[27]? = some (cI 0 200 (fun _ => 0))) (h28 : w[28]? = some (cO 3 [eI 0, eR (29)])) (h29 : w[29]? = some (cI 0 200 (fun _ => 0))) (h30 : w[30]? = some (cO 3 [eI 0, eR (31)])) (h31 : w[31]? = some (cI 0 200 (fun _ => 0))) (h32 : w[32]? = some (cO 3 [eI 0, eR (33)])) (h33 : w[33]? = some (cI 0 200 (fun _ => 0))) (h34 : w[34]? = some (cO 3 [eI 0, eR (35)])) (h35 : w[35]? = some (cI 0 200 (fun _ => 0))) (h36 : w[36]? = some (cO 3 [eI 0, eR (37)])) (h37 : w[37]? = some (cI 0 200 (fun _ => 0))) (h38 : w[38]? = some (cO 3 [eI 0, eR (39)])) (h39 : w[39]? = some (cI 0 200 (fun _ => 0))) (h40 : w[40]? = some (cO 3 [eI 0, eR (41)])) (h41 : w[41]? = some (cI 0 200 (fun _ => 0))) (h42 : w[42]? = some (cQ 4 3 (fun _ => none))) (h43 : w[43]? = some (cO 1 [eR (44), eR (52), eI 0, eI 0, eR (54), eR (55), eI 0, eI 0, eI 0, eI 0, eI 0, eI 0])) (h44 : w[44]? = some (cO 2 [eI 0, eR (45), eR (46), eR (47), eR (48), eR (49), eR (50), eR (51), eI 0, eI 0, eI 0, eI 0, eI 0, eI 0])) (h45 : w[45]? = some (cI 0 6 (fun _ => 0))) (h46 : w[46]? = some (cI 0 6 (fun _ => 0))) (h47 : w[47]? = some (cI 0 6 (fun _ => 0))) (h48 : w[48]? = some (cI 0 6 (fun _ => 0))) (h49 : w[49]? = some (cI 0 72 (fun _ => 0))) (h50 : w[50]? = some (cI 0 6 (fun _ => 0))) (h51 : w[51]? = some (cI 0 3 (fun _ => 0))) (h52 : w[52]? = some (cO 3 [eI 0, eR (53)])) (h53 : w[53]? = some (cI 0 200 (fun _ => 0))) (h54 : w[54]? = some (cI 0 600 (fun _ => 0))) (h55 : w[55]? = some (cI 0 5 (fun _ => 0))) (h56 : w[56]? = some (cO 0 [eR (57), eI 0, eI 0, eI 0, eR (58), eR (59), eI 0, eI 0, eI 0, eI 0, eI 0, eI 0, eI 0])) (h57 : w[57]? = some (cO 4 [eI 0, eI 0, eI 0])) (h58 : w[58]? = some (cI 0 6 (fun _ => 0))) (h59 : w[59]? = some (cI 0 3 (fun _ => 0))) (h60 : w[60]? = some (cO 4 [eI 0, eI 0, eI 0])) (h61 : w[61]? = some (cI 0 40 (fun _ => 0))) (h62 : w[62]? = some (cI 0 216 (fun _ => 0))) (h63 : w[63]? = some (cI 0 1000 (fun _ => 0))) (h64 : w[64]? = some (cO 7 [eR (65), eR (66), eI 0, eI 0, eI 0, eI 0, eI 0, eI 0, eI 0, eI 0, eR (67), eI 0, eI 0, eI 0, eI 0, eI 0, eI 0, eI 0, eI 0, eI 0, eI 0, eI 0, eI 0, eI 0, eI 0, eI 0, eI 0, eR (68), eR (69), eI 0, eI 0, eR (70), eR (71), eI 0, eI 0])) (h65 : w[65]? = some (cI 0 5768 (upd (fun _ => 0) 8 (-1)))) (h66 : w[66]? = some (cI 1 3 (fun _ => 0))) (h67 : w[67]? = some (cI 0 201 (fun _ => 0))) (h68 : w[68]? = some (cI 0 3 (fun _ => 0))) (h69 : w[69]? = some (cI 0 6 (fun _ => 0))) (h70 : w[70]? = some (cI 0 1791 (fun _ => 0))) (h71 : w[71]? = some (cI 1 1000 (fun _ => 0))) : WW p l e room_1 s m #[Value.ref b] below meth c (lw_Z below #[Value.ref b] s) G 4 0 0 599928 7288326 1301 [some (eK 2), some (eR 0), some (eR 64), some (eI 0)] [] w := by
  refine ww_aload_n K dL_law_1301 rfl ?_
  refine ww_aload_nK K dL_law_1302 rfl ?_
  refine ww_iload_n K dL_law_1303 rfl ?_
  refine ww_iconst (v := 1) K dL_law_1304 rfl ?_
  refine ww_iadd K dL_law_1305 ?_
  rw [show ((0 : Int32) + 1) = 1 from rfl]
  refine ww_ialdK K dL_law_1306 (by decide) (by rw [hL8]; exact wc_vin (by decide)) ?_
  refine ww_aload_nK K dL_law_1307 rfl ?_
  refine ww_iload_n K dL_law_1308 rfl ?_
  refine ww_iconst (v := 2) K dL_law_1309 rfl ?_
  refine ww_iadd K dL_law_1310 ?_
  rw [show ((0 : Int32) + 2) = 2 from rfl]
  refine ww_ialdK K dL_law_1311 (by decide) (by rw [hL8]; exact wc_vin (by decide)) ?_
  refine ww_aload_nK K dL_law_1312 rfl ?_
  refine ww_iload_n K dL_law_1313 rfl ?_
  refine ww_iconst (v := 3) K dL_law_1314 rfl ?_
  refine ww_iadd K dL_law_1315 ?_
  rw [show ((0 : Int32) + 3) = 3 from rfl]
  refine ww_ialdK K dL_law_1316 (by decide) (by rw [hL8]; exact wc_vin (by decide)) ?_
  refine ww_cV K dL_law_1317 lc_L_105 h0 ⟨_, rfl, rfl⟩ (ct_X6_seats0 G l h0 h1 h3 (fun _ _ => rfl) (a := _) (b := _) (c := _)) rfl ⟨Nat.le_of_ble_eq_true rfl, Nat.le_of_ble_eq_true rfl⟩ (Nat.le_of_ble_eq_true rfl) ?_
  refine ww_aload_n K dL_law_1320 rfl ?_
  refine ww_aload_nK K dL_law_1321 rfl ?_
  refine ww_iload_n K dL_law_1322 rfl ?_
  refine ww_iconst (v := 1) K dL_law_1323 rfl ?_
  refine ww_iadd K dL_law_1324 ?_
  rw [show ((0 : Int32) + 1) = 1 from rfl]
  refine ww_ialdK K dL_law_1325 (by decide) (by rw [hL8]; exact wc_vin (by decide)) ?_
  refine ww_aload_nK K dL_law_1326 rfl ?_
  refine ww_iload_n K dL_law_1327 rfl ?_
  refine ww_iconst (v := 2) K dL_law_1328 rfl ?_
  refine ww_iadd K dL_law_1329 ?_
  rw [show ((0 : Int32) + 2) = 2 from rfl]
  refine ww_ialdK K dL_law_1330 (by decide) (by rw [hL8]; exact wc_vin (by decide)) ?_
  refine ww_aload_nK K dL_law_1331 rfl ?_
  refine ww_iload_n K dL_law_1332 rfl ?_
  refine ww_iconst (v := 3) K dL_law_1333 rfl ?_
  refine ww_iadd K dL_law_1334 ?_
  rw [show ((0 : Int32) + 3) = 3 from rfl]
  refine ww_ialdK K dL_law_1335 (by decide) (by rw [hL8]; exact wc_vin (by decide)) ?_
  refine ww_cV K dL_law_1336 lc_L_108 h64 ⟨_, rfl, rfl⟩ (ct_X7_seats0 G l h64 h65 (fun k hk => wc_A0 hk) (a := _) (b := _) (c := _)) rfl ⟨Nat.le_of_ble_eq_true rfl, Nat.le_of_ble_eq_true rfl⟩ (Nat.le_of_ble_eq_true rfl) ?_
  refine ww_icmp_eq (tgt := 1621) K dL_law_1339 rfl (fun _ => ?_) (fun cc_ => absurd cc_ (by decide))
  exact wc_law_fin K hr hL8 _ _ _
set_option maxRecDepth 100000 in
set_option maxHeartbeats 8000000 in
theorem wc_law_reshuffle {p : Program} {l : Launch} {e : Env} {s : State} {m : MethodId} {below : List Frame} {meth : Method} {c : Code} {b : Nat} {G : EG} (K : wc_C p s m #[Value.ref b] meth c G RL cL_law 4 0) (hr : meth.sig.returnType = ret) (hL8 : gL G 2 = 8) {w : EW} (hlen : w.length = 72) (h0 : w[0]? = some (cO 6 [eR (1), eR (42), eR (43), eR (56), eR (60), eR (61), eR (62), eR (63)])) (h1 : w[1]? = some (cO 5 [eR (2), eI 0, eI 0, eI ((-1)), eR (3), eR (4), eR (5)])) (h2 : w[2]? = some (cI 0 600 (fun _ => 0))) (h3 : w[3]? = some (cI 0 6 (fun _ => 0))) (h4 : w[4]? = some (cQ 2 2 (va_up (va_up (fun _ => none) 0 (some 6)) 1 (some 14)))) (h5 : w[5]? = some (cQ 3 10 (va_up (va_up (va_up (va_up (va_up (va_up (va_up (va_up (va_up (va_up (fun _ => none) 0 (some 22)) 1 (some 24)) 2 (some 26)) 3 (some 28)) 4 (some 30)) 5 (some 32)) 6 (some 34)) 7 (some 36)) 8 (some 38)) 9 (some 40)))) (h6 : w[6]? = some (cO 2 [eI 0, eR (7), eR (8), eR (9), eR (10), eR (11), eR (12), eR (13), eI 0, eI 0, eI 0, eI 0, eI 0, eI 0])) (h7 : w[7]? = some (cI 0 6 (fun _ => 0))) (h8 : w[8]? = some (cI 0 6 (fun _ => 0))) (h9 : w[9]? = some (cI 0 6 (fun _ => 0))) (h10 : w[10]? = some (cI 0 6 (fun _ => 0))) (h11 : w[11]? = some (cI 0 72 (fun _ => 0))) (h12 : w[12]? = some (cI 0 6 (fun _ => 0))) (h13 : w[13]? = some (cI 0 3 (fun _ => 0))) (h14 : w[14]? = some (cO 2 [eI 0, eR (15), eR (16), eR (17), eR (18), eR (19), eR (20), eR (21), eI 0, eI 0, eI 0, eI 0, eI 0, eI 0])) (h15 : w[15]? = some (cI 0 6 (fun _ => 0))) (h16 : w[16]? = some (cI 0 6 (fun _ => 0))) (h17 : w[17]? = some (cI 0 6 (fun _ => 0))) (h18 : w[18]? = some (cI 0 6 (fun _ => 0))) (h19 : w[19]? = some (cI 0 72 (fun _ => 0))) (h20 : w[20]? = some (cI 0 6 (fun _ => 0))) (h21 : w[21]? = some (cI 0 3 (fun _ => 0))) (h22 : w[22]? = some (cO 3 [eI 0, eR (23)])) (h23 : w[23]? = some (cI 0 200 (fun _ => 0))) (h24 : w[24]? = some (cO 3 [eI 0, eR (25)])) (h25 : w[25]? = some (cI 0 200 (fun _ => 0))) (h26 : w[26]? = some (cO 3 [eI 0, eR (27)])) (h27 : w[27]? = some (cI 0 200 (fun _ => 0))) (h28 : w[28]? = some (cO 3 [eI 0, eR (29)])) (h29 : w[29]? = some (cI 0 200 (fun _ => 0))) (h30 : w[30]? = some (cO 3 [eI 0, eR (31)])) (h31 : w[31]? = some (cI 0 200 (fun _ => 0))) (h32 : w[32]? = some (cO 3 [eI 0, eR (33)])) (h33 : w[33]? = some (cI 0 200 (fun _ => 0))) (h34 : w[34]? = some (cO 3 [eI 0, eR (35)])) (h35 : w[35]? = some (cI 0 200 (fun _ => 0))) (h36 : w[36]? = some (cO 3 [eI 0, eR (37)])) (h37 : w[37]? = some (cI 0 200 (fun _ => 0))) (h38 : w[38]? = some (cO 3 [eI 0, eR (39)])) (h39 : w[39]? = some (cI 0 200 (fun _ => 0))) (h40 : w[40]? = some (cO 3 [eI 0, eR (41)])) (h41 : w[41]? = some (cI 0 200 (fun _ => 0))) (h42 : w[42]? = some (cQ 4 3 (fun _ => none))) (h43 : w[43]? = some (cO 1 [eR (44), eR (52), eI 0, eI 0, eR (54), eR (55), eI 0, eI 0, eI 0, eI 0, eI 0, eI 0])) (h44 : w[44]? = some (cO 2 [eI 0, eR (45), eR (46), eR (47), eR (48), eR (49), eR (50), eR (51), eI 0, eI 0, eI 0, eI 0, eI 0, eI 0])) (h45 : w[45]? = some (cI 0 6 (fun _ => 0))) (h46 : w[46]? = some (cI 0 6 (fun _ => 0))) (h47 : w[47]? = some (cI 0 6 (fun _ => 0))) (h48 : w[48]? = some (cI 0 6 (fun _ => 0))) (h49 : w[49]? = some (cI 0 72 (fun _ => 0))) (h50 : w[50]? = some (cI 0 6 (fun _ => 0))) (h51 : w[51]? = some (cI 0 3 (fun _ => 0))) (h52 : w[52]? = some (cO 3 [eI 0, eR (53)])) (h53 : w[53]? = some (cI 0 200 (fun _ => 0))) (h54 : w[54]? = some (cI 0 600 (fun _ => 0))) (h55 : w[55]? = some (cI 0 5 (fun _ => 0))) (h56 : w[56]? = some (cO 0 [eR (57), eI 0, eI 0, eI 0, eR (58), eR (59), eI 0, eI 0, eI 0, eI 0, eI 0, eI 0, eI 0])) (h57 : w[57]? = some (cO 4 [eI 0, eI 0, eI 0])) (h58 : w[58]? = some (cI 0 6 (fun _ => 0))) (h59 : w[59]? = some (cI 0 3 (fun _ => 0))) (h60 : w[60]? = some (cO 4 [eI 0, eI 0, eI 0])) (h61 : w[61]? = some (cI 0 40 (fun _ => 0))) (h62 : w[62]? = some (cI 0 216 (fun _ => 0))) (h63 : w[63]? = some (cI 0 1000 (fun _ => 0))) (h64 : w[64]? = some (cO 7 [eR (65), eR (66), eI 0, eI 0, eI 0, eI 0, eI 0, eI 0, eI 0, eI 0, eR (67), eI 0, eI 0, eI 0, eI 0, eI 0, eI 0, eI 0, eI 0, eI 0, eI 0, eI 0, eI 0, eI 0, eI 0, eI 0, eI 0, eR (68), eR (69), eI 0, eI 0, eR (70), eR (71), eI 0, eI 0])) (h65 : w[65]? = some (cI 0 5768 (upd (fun _ => 0) 8 (-1)))) (h66 : w[66]? = some (cI 1 3 (fun _ => 0))) (h67 : w[67]? = some (cI 0 201 (fun _ => 0))) (h68 : w[68]? = some (cI 0 3 (fun _ => 0))) (h69 : w[69]? = some (cI 0 6 (fun _ => 0))) (h70 : w[70]? = some (cI 0 1791 (fun _ => 0))) (h71 : w[71]? = some (cI 1 1000 (fun _ => 0))) : WW p l e room_1 s m #[Value.ref b] below meth c (lw_Z below #[Value.ref b] s) G 4 0 0 599928 7288326 1344 [some (eK 2), some (eR 0), some (eR 64), some (eI 0)] [] w := by
  refine ww_aload_n K dL_law_1344 rfl ?_
  refine ww_aload_nK K dL_law_1345 rfl ?_
  refine ww_iload_n K dL_law_1346 rfl ?_
  refine ww_iconst (v := 1) K dL_law_1347 rfl ?_
  refine ww_iadd K dL_law_1348 ?_
  rw [show ((0 : Int32) + 1) = 1 from rfl]
  refine ww_ialdK K dL_law_1349 (by decide) (by rw [hL8]; exact wc_vin (by decide)) ?_
  refine ww_aload_nK K dL_law_1350 rfl ?_
  refine ww_iload_n K dL_law_1351 rfl ?_
  refine ww_iconst (v := 2) K dL_law_1352 rfl ?_
  refine ww_iadd K dL_law_1353 ?_
  rw [show ((0 : Int32) + 2) = 2 from rfl]
  refine ww_ialdK K dL_law_1354 (by decide) (by rw [hL8]; exact wc_vin (by decide)) ?_
  refine ww_if_eq (tgt := 1362) K dL_law_1355 rfl (fun c_1355 => ?_) (fun c_1355 => ?_)
  · refine ww_iconst (v := 0) K dL_law_1362 rfl ?_
    refine ww_cV K dL_law_1363 lc_L_109 h0 ⟨_, rfl, rfl⟩ (ct_X6_reshuffle0 G l h0 h1 h3 (fun _ _ => rfl) (a := _) (b := _)) rfl ⟨Nat.le_of_ble_eq_true rfl, Nat.le_of_ble_eq_true rfl⟩ (Nat.le_of_ble_eq_true rfl) ?_
    refine ww_aload_n K dL_law_1366 rfl ?_
    refine ww_aload_nK K dL_law_1367 rfl ?_
    refine ww_iload_n K dL_law_1368 rfl ?_
    refine ww_iconst (v := 1) K dL_law_1369 rfl ?_
    refine ww_iadd K dL_law_1370 ?_
    rw [show ((0 : Int32) + 1) = 1 from rfl]
    refine ww_ialdK K dL_law_1371 (by decide) (by rw [hL8]; exact wc_vin (by decide)) ?_
    refine ww_aload_nK K dL_law_1372 rfl ?_
    refine ww_iload_n K dL_law_1373 rfl ?_
    refine ww_iconst (v := 2) K dL_law_1374 rfl ?_
    refine ww_iadd K dL_law_1375 ?_
    rw [show ((0 : Int32) + 2) = 2 from rfl]
    refine ww_ialdK K dL_law_1376 (by decide) (by rw [hL8]; exact wc_vin (by decide)) ?_
    refine ww_if_eq (tgt := 1384) K dL_law_1377 rfl (fun c_1377 => ?_) (fun c_1377 => ?_)
    · refine ww_iconst (v := 0) K dL_law_1384 rfl ?_
      refine ww_cV K dL_law_1385 lc_L_113 h64 ⟨_, rfl, rfl⟩ (ct_X7_reshuffle0 G l h64 h65 (fun k hk => wc_A0 hk) (a := _) (b := _)) rfl ⟨Nat.le_of_ble_eq_true rfl, Nat.le_of_ble_eq_true rfl⟩ (Nat.le_of_ble_eq_true rfl) ?_
      refine ww_icmp_eq (tgt := 1621) K dL_law_1388 rfl (fun _ => ?_) (fun cc_ => absurd cc_ (by decide))
      exact wc_law_fin K hr hL8 _ _ _
    · refine ww_iconst (v := 1) K dL_law_1380 rfl ?_
      refine ww_goto (tgt := 1385) K dL_law_1381 rfl ?_
      refine ww_cV K dL_law_1385 lc_L_113 h64 ⟨_, rfl, rfl⟩ (ct_X7_reshuffle0 G l h64 h65 (fun k hk => wc_A0 hk) (a := _) (b := _)) rfl ⟨Nat.le_of_ble_eq_true rfl, Nat.le_of_ble_eq_true rfl⟩ (Nat.le_of_ble_eq_true rfl) ?_
      refine ww_icmp_eq (tgt := 1621) K dL_law_1388 rfl (fun _ => ?_) (fun cc_ => absurd cc_ (by decide))
      exact wc_law_fin K hr hL8 _ _ _
  · refine ww_iconst (v := 1) K dL_law_1358 rfl ?_
    refine ww_goto (tgt := 1363) K dL_law_1359 rfl ?_
    refine ww_cV K dL_law_1363 lc_L_109 h0 ⟨_, rfl, rfl⟩ (ct_X6_reshuffle0 G l h0 h1 h3 (fun _ _ => rfl) (a := _) (b := _)) rfl ⟨Nat.le_of_ble_eq_true rfl, Nat.le_of_ble_eq_true rfl⟩ (Nat.le_of_ble_eq_true rfl) ?_
    refine ww_aload_n K dL_law_1366 rfl ?_
    refine ww_aload_nK K dL_law_1367 rfl ?_
    refine ww_iload_n K dL_law_1368 rfl ?_
    refine ww_iconst (v := 1) K dL_law_1369 rfl ?_
    refine ww_iadd K dL_law_1370 ?_
    rw [show ((0 : Int32) + 1) = 1 from rfl]
    refine ww_ialdK K dL_law_1371 (by decide) (by rw [hL8]; exact wc_vin (by decide)) ?_
    refine ww_aload_nK K dL_law_1372 rfl ?_
    refine ww_iload_n K dL_law_1373 rfl ?_
    refine ww_iconst (v := 2) K dL_law_1374 rfl ?_
    refine ww_iadd K dL_law_1375 ?_
    rw [show ((0 : Int32) + 2) = 2 from rfl]
    refine ww_ialdK K dL_law_1376 (by decide) (by rw [hL8]; exact wc_vin (by decide)) ?_
    refine ww_if_eq (tgt := 1384) K dL_law_1377 rfl (fun c_1377 => ?_) (fun c_1377 => ?_)
    · refine ww_iconst (v := 0) K dL_law_1384 rfl ?_
      refine ww_cV K dL_law_1385 lc_L_113 h64 ⟨_, rfl, rfl⟩ (ct_X7_reshuffle0 G l h64 h65 (fun k hk => wc_A0 hk) (a := _) (b := _)) rfl ⟨Nat.le_of_ble_eq_true rfl, Nat.le_of_ble_eq_true rfl⟩ (Nat.le_of_ble_eq_true rfl) ?_
      refine ww_icmp_eq (tgt := 1621) K dL_law_1388 rfl (fun _ => ?_) (fun cc_ => absurd cc_ (by decide))
      exact wc_law_fin K hr hL8 _ _ _
    · refine ww_iconst (v := 1) K dL_law_1380 rfl ?_
      refine ww_goto (tgt := 1385) K dL_law_1381 rfl ?_
      refine ww_cV K dL_law_1385 lc_L_113 h64 ⟨_, rfl, rfl⟩ (ct_X7_reshuffle0 G l h64 h65 (fun k hk => wc_A0 hk) (a := _) (b := _)) rfl ⟨Nat.le_of_ble_eq_true rfl, Nat.le_of_ble_eq_true rfl⟩ (Nat.le_of_ble_eq_true rfl) ?_
      refine ww_icmp_eq (tgt := 1621) K dL_law_1388 rfl (fun _ => ?_) (fun cc_ => absurd cc_ (by decide))
      exact wc_law_fin K hr hL8 _ _ _
set_option maxRecDepth 100000 in
set_option maxHeartbeats 8000000 in
theorem wc_law_leak {p : Program} {l : Launch} {e : Env} {s : State} {m : MethodId} {below : List Frame} {meth : Method} {c : Code} {b : Nat} {G : EG} (K : wc_C p s m #[Value.ref b] meth c G RL cL_law 4 0) (hr : meth.sig.returnType = ret) (hL8 : gL G 2 = 8) {w : EW} (hlen : w.length = 72) (h0 : w[0]? = some (cO 6 [eR (1), eR (42), eR (43), eR (56), eR (60), eR (61), eR (62), eR (63)])) (h1 : w[1]? = some (cO 5 [eR (2), eI 0, eI 0, eI ((-1)), eR (3), eR (4), eR (5)])) (h2 : w[2]? = some (cI 0 600 (fun _ => 0))) (h3 : w[3]? = some (cI 0 6 (fun _ => 0))) (h4 : w[4]? = some (cQ 2 2 (va_up (va_up (fun _ => none) 0 (some 6)) 1 (some 14)))) (h5 : w[5]? = some (cQ 3 10 (va_up (va_up (va_up (va_up (va_up (va_up (va_up (va_up (va_up (va_up (fun _ => none) 0 (some 22)) 1 (some 24)) 2 (some 26)) 3 (some 28)) 4 (some 30)) 5 (some 32)) 6 (some 34)) 7 (some 36)) 8 (some 38)) 9 (some 40)))) (h6 : w[6]? = some (cO 2 [eI 0, eR (7), eR (8), eR (9), eR (10), eR (11), eR (12), eR (13), eI 0, eI 0, eI 0, eI 0, eI 0, eI 0])) (h7 : w[7]? = some (cI 0 6 (fun _ => 0))) (h8 : w[8]? = some (cI 0 6 (fun _ => 0))) (h9 : w[9]? = some (cI 0 6 (fun _ => 0))) (h10 : w[10]? = some (cI 0 6 (fun _ => 0))) (h11 : w[11]? = some (cI 0 72 (fun _ => 0))) (h12 : w[12]? = some (cI 0 6 (fun _ => 0))) (h13 : w[13]? = some (cI 0 3 (fun _ => 0))) (h14 : w[14]? = some (cO 2 [eI 0, eR (15), eR (16), eR (17), eR (18), eR (19), eR (20), eR (21), eI 0, eI 0, eI 0, eI 0, eI 0, eI 0])) (h15 : w[15]? = some (cI 0 6 (fun _ => 0))) (h16 : w[16]? = some (cI 0 6 (fun _ => 0))) (h17 : w[17]? = some (cI 0 6 (fun _ => 0))) (h18 : w[18]? = some (cI 0 6 (fun _ => 0))) (h19 : w[19]? = some (cI 0 72 (fun _ => 0))) (h20 : w[20]? = some (cI 0 6 (fun _ => 0))) (h21 : w[21]? = some (cI 0 3 (fun _ => 0))) (h22 : w[22]? = some (cO 3 [eI 0, eR (23)])) (h23 : w[23]? = some (cI 0 200 (fun _ => 0))) (h24 : w[24]? = some (cO 3 [eI 0, eR (25)])) (h25 : w[25]? = some (cI 0 200 (fun _ => 0))) (h26 : w[26]? = some (cO 3 [eI 0, eR (27)])) (h27 : w[27]? = some (cI 0 200 (fun _ => 0))) (h28 : w[28]? = some (cO 3 [eI 0, eR (29)])) (h29 : w[29]? = some (cI 0 200 (fun _ => 0))) (h30 : w[30]? = some (cO 3 [eI 0, eR (31)])) (h31 : w[31]? = some (cI 0 200 (fun _ => 0))) (h32 : w[32]? = some (cO 3 [eI 0, eR (33)])) (h33 : w[33]? = some (cI 0 200 (fun _ => 0))) (h34 : w[34]? = some (cO 3 [eI 0, eR (35)])) (h35 : w[35]? = some (cI 0 200 (fun _ => 0))) (h36 : w[36]? = some (cO 3 [eI 0, eR (37)])) (h37 : w[37]? = some (cI 0 200 (fun _ => 0))) (h38 : w[38]? = some (cO 3 [eI 0, eR (39)])) (h39 : w[39]? = some (cI 0 200 (fun _ => 0))) (h40 : w[40]? = some (cO 3 [eI 0, eR (41)])) (h41 : w[41]? = some (cI 0 200 (fun _ => 0))) (h42 : w[42]? = some (cQ 4 3 (fun _ => none))) (h43 : w[43]? = some (cO 1 [eR (44), eR (52), eI 0, eI 0, eR (54), eR (55), eI 0, eI 0, eI 0, eI 0, eI 0, eI 0])) (h44 : w[44]? = some (cO 2 [eI 0, eR (45), eR (46), eR (47), eR (48), eR (49), eR (50), eR (51), eI 0, eI 0, eI 0, eI 0, eI 0, eI 0])) (h45 : w[45]? = some (cI 0 6 (fun _ => 0))) (h46 : w[46]? = some (cI 0 6 (fun _ => 0))) (h47 : w[47]? = some (cI 0 6 (fun _ => 0))) (h48 : w[48]? = some (cI 0 6 (fun _ => 0))) (h49 : w[49]? = some (cI 0 72 (fun _ => 0))) (h50 : w[50]? = some (cI 0 6 (fun _ => 0))) (h51 : w[51]? = some (cI 0 3 (fun _ => 0))) (h52 : w[52]? = some (cO 3 [eI 0, eR (53)])) (h53 : w[53]? = some (cI 0 200 (fun _ => 0))) (h54 : w[54]? = some (cI 0 600 (fun _ => 0))) (h55 : w[55]? = some (cI 0 5 (fun _ => 0))) (h56 : w[56]? = some (cO 0 [eR (57), eI 0, eI 0, eI 0, eR (58), eR (59), eI 0, eI 0, eI 0, eI 0, eI 0, eI 0, eI 0])) (h57 : w[57]? = some (cO 4 [eI 0, eI 0, eI 0])) (h58 : w[58]? = some (cI 0 6 (fun _ => 0))) (h59 : w[59]? = some (cI 0 3 (fun _ => 0))) (h60 : w[60]? = some (cO 4 [eI 0, eI 0, eI 0])) (h61 : w[61]? = some (cI 0 40 (fun _ => 0))) (h62 : w[62]? = some (cI 0 216 (fun _ => 0))) (h63 : w[63]? = some (cI 0 1000 (fun _ => 0))) (h64 : w[64]? = some (cO 7 [eR (65), eR (66), eI 0, eI 0, eI 0, eI 0, eI 0, eI 0, eI 0, eI 0, eR (67), eI 0, eI 0, eI 0, eI 0, eI 0, eI 0, eI 0, eI 0, eI 0, eI 0, eI 0, eI 0, eI 0, eI 0, eI 0, eI 0, eR (68), eR (69), eI 0, eI 0, eR (70), eR (71), eI 0, eI 0])) (h65 : w[65]? = some (cI 0 5768 (upd (fun _ => 0) 8 (-1)))) (h66 : w[66]? = some (cI 1 3 (fun _ => 0))) (h67 : w[67]? = some (cI 0 201 (fun _ => 0))) (h68 : w[68]? = some (cI 0 3 (fun _ => 0))) (h69 : w[69]? = some (cI 0 6 (fun _ => 0))) (h70 : w[70]? = some (cI 0 1791 (fun _ => 0))) (h71 : w[71]? = some (cI 1 1000 (fun _ => 0))) : WW p l e room_1 s m #[Value.ref b] below meth c (lw_Z below #[Value.ref b] s) G 4 0 0 599928 7288326 1393 [some (eK 2), some (eR 0), some (eR 64), some (eI 0)] [] w := by
  refine ww_aload_n K dL_law_1393 rfl ?_
  refine ww_aload_nK K dL_law_1394 rfl ?_
  refine ww_iload_n K dL_law_1395 rfl ?_
  refine ww_iconst (v := 1) K dL_law_1396 rfl ?_
  refine ww_iadd K dL_law_1397 ?_
  rw [show ((0 : Int32) + 1) = 1 from rfl]
  refine ww_ialdK K dL_law_1398 (by decide) (by rw [hL8]; exact wc_vin (by decide)) ?_
  refine ww_aload_nK K dL_law_1399 rfl ?_
  refine ww_iload_n K dL_law_1400 rfl ?_
  refine ww_iconst (v := 2) K dL_law_1401 rfl ?_
  refine ww_iadd K dL_law_1402 ?_
  rw [show ((0 : Int32) + 2) = 2 from rfl]
  refine ww_ialdK K dL_law_1403 (by decide) (by rw [hL8]; exact wc_vin (by decide)) ?_
  refine ww_aload_nK K dL_law_1404 rfl ?_
  refine ww_iload_n K dL_law_1405 rfl ?_
  refine ww_iconst (v := 3) K dL_law_1406 rfl ?_
  refine ww_iadd K dL_law_1407 ?_
  rw [show ((0 : Int32) + 3) = 3 from rfl]
  refine ww_ialdK K dL_law_1408 (by decide) (by rw [hL8]; exact wc_vin (by decide)) ?_
  refine ww_cV K dL_law_1409 lc_L_114 h0 ⟨_, rfl, rfl⟩ (ct_X6_leak0 G l h0 h1 h3 (fun _ _ => rfl) (a := _) (b := _) (c := _)) rfl ⟨Nat.le_of_ble_eq_true rfl, Nat.le_of_ble_eq_true rfl⟩ (Nat.le_of_ble_eq_true rfl) ?_
  refine ww_aload_n K dL_law_1412 rfl ?_
  refine ww_aload_nK K dL_law_1413 rfl ?_
  refine ww_iload_n K dL_law_1414 rfl ?_
  refine ww_iconst (v := 1) K dL_law_1415 rfl ?_
  refine ww_iadd K dL_law_1416 ?_
  rw [show ((0 : Int32) + 1) = 1 from rfl]
  refine ww_ialdK K dL_law_1417 (by decide) (by rw [hL8]; exact wc_vin (by decide)) ?_
  refine ww_aload_nK K dL_law_1418 rfl ?_
  refine ww_iload_n K dL_law_1419 rfl ?_
  refine ww_iconst (v := 2) K dL_law_1420 rfl ?_
  refine ww_iadd K dL_law_1421 ?_
  rw [show ((0 : Int32) + 2) = 2 from rfl]
  refine ww_ialdK K dL_law_1422 (by decide) (by rw [hL8]; exact wc_vin (by decide)) ?_
  refine ww_aload_nK K dL_law_1423 rfl ?_
  refine ww_iload_n K dL_law_1424 rfl ?_
  refine ww_iconst (v := 3) K dL_law_1425 rfl ?_
  refine ww_iadd K dL_law_1426 ?_
  rw [show ((0 : Int32) + 3) = 3 from rfl]
  refine ww_ialdK K dL_law_1427 (by decide) (by rw [hL8]; exact wc_vin (by decide)) ?_
  refine ww_cV K dL_law_1428 lc_L_117 h64 ⟨_, rfl, rfl⟩ (ct_X7_leak0 G l h64 h65 (fun k hk => wc_A0 hk) (a := _) (b := _) (c := _)) rfl ⟨Nat.le_of_ble_eq_true rfl, Nat.le_of_ble_eq_true rfl⟩ (Nat.le_of_ble_eq_true rfl) ?_
  refine ww_icmp_eq (tgt := 1621) K dL_law_1431 rfl (fun _ => ?_) (fun cc_ => absurd cc_ (by decide))
  exact wc_law_fin K hr hL8 _ _ _
set_option maxRecDepth 100000 in
set_option maxHeartbeats 8000000 in
theorem wc_law_fits {p : Program} {l : Launch} {e : Env} {s : State} {m : MethodId} {below : List Frame} {meth : Method} {c : Code} {b : Nat} {G : EG} (K : wc_C p s m #[Value.ref b] meth c G RL cL_law 4 0) (hr : meth.sig.returnType = ret) (hL8 : gL G 2 = 8) {w : EW} (hlen : w.length = 72) (h0 : w[0]? = some (cO 6 [eR (1), eR (42), eR (43), eR (56), eR (60), eR (61), eR (62), eR (63)])) (h1 : w[1]? = some (cO 5 [eR (2), eI 0, eI 0, eI ((-1)), eR (3), eR (4), eR (5)])) (h2 : w[2]? = some (cI 0 600 (fun _ => 0))) (h3 : w[3]? = some (cI 0 6 (fun _ => 0))) (h4 : w[4]? = some (cQ 2 2 (va_up (va_up (fun _ => none) 0 (some 6)) 1 (some 14)))) (h5 : w[5]? = some (cQ 3 10 (va_up (va_up (va_up (va_up (va_up (va_up (va_up (va_up (va_up (va_up (fun _ => none) 0 (some 22)) 1 (some 24)) 2 (some 26)) 3 (some 28)) 4 (some 30)) 5 (some 32)) 6 (some 34)) 7 (some 36)) 8 (some 38)) 9 (some 40)))) (h6 : w[6]? = some (cO 2 [eI 0, eR (7), eR (8), eR (9), eR (10), eR (11), eR (12), eR (13), eI 0, eI 0, eI 0, eI 0, eI 0, eI 0])) (h7 : w[7]? = some (cI 0 6 (fun _ => 0))) (h8 : w[8]? = some (cI 0 6 (fun _ => 0))) (h9 : w[9]? = some (cI 0 6 (fun _ => 0))) (h10 : w[10]? = some (cI 0 6 (fun _ => 0))) (h11 : w[11]? = some (cI 0 72 (fun _ => 0))) (h12 : w[12]? = some (cI 0 6 (fun _ => 0))) (h13 : w[13]? = some (cI 0 3 (fun _ => 0))) (h14 : w[14]? = some (cO 2 [eI 0, eR (15), eR (16), eR (17), eR (18), eR (19), eR (20), eR (21), eI 0, eI 0, eI 0, eI 0, eI 0, eI 0])) (h15 : w[15]? = some (cI 0 6 (fun _ => 0))) (h16 : w[16]? = some (cI 0 6 (fun _ => 0))) (h17 : w[17]? = some (cI 0 6 (fun _ => 0))) (h18 : w[18]? = some (cI 0 6 (fun _ => 0))) (h19 : w[19]? = some (cI 0 72 (fun _ => 0))) (h20 : w[20]? = some (cI 0 6 (fun _ => 0))) (h21 : w[21]? = some (cI 0 3 (fun _ => 0))) (h22 : w[22]? = some (cO 3 [eI 0, eR (23)])) (h23 : w[23]? = some (cI 0 200 (fun _ => 0))) (h24 : w[24]? = some (cO 3 [eI 0, eR (25)])) (h25 : w[25]? = some (cI 0 200 (fun _ => 0))) (h26 : w[26]? = some (cO 3 [eI 0, eR (27)])) (h27 : w[27]? = some (cI 0 200 (fun _ => 0))) (h28 : w[28]? = some (cO 3 [eI 0, eR (29)])) (h29 : w[29]? = some (cI 0 200 (fun _ => 0))) (h30 : w[30]? = some (cO 3 [eI 0, eR (31)])) (h31 : w[31]? = some (cI 0 200 (fun _ => 0))) (h32 : w[32]? = some (cO 3 [eI 0, eR (33)])) (h33 : w[33]? = some (cI 0 200 (fun _ => 0))) (h34 : w[34]? = some (cO 3 [eI 0, eR (35)])) (h35 : w[35]? = some (cI 0 200 (fun _ => 0))) (h36 : w[36]? = some (cO 3 [eI 0, eR (37)])) (h37 : w[37]? = some (cI 0 200 (fun _ => 0))) (h38 : w[38]? = some (cO 3 [eI 0, eR (39)])) (h39 : w[39]? = some (cI 0 200 (fun _ => 0))) (h40 : w[40]? = some (cO 3 [eI 0, eR (41)])) (h41 : w[41]? = some (cI 0 200 (fun _ => 0))) (h42 : w[42]? = some (cQ 4 3 (fun _ => none))) (h43 : w[43]? = some (cO 1 [eR (44), eR (52), eI 0, eI 0, eR (54), eR (55), eI 0, eI 0, eI 0, eI 0, eI 0, eI 0])) (h44 : w[44]? = some (cO 2 [eI 0, eR (45), eR (46), eR (47), eR (48), eR (49), eR (50), eR (51), eI 0, eI 0, eI 0, eI 0, eI 0, eI 0])) (h45 : w[45]? = some (cI 0 6 (fun _ => 0))) (h46 : w[46]? = some (cI 0 6 (fun _ => 0))) (h47 : w[47]? = some (cI 0 6 (fun _ => 0))) (h48 : w[48]? = some (cI 0 6 (fun _ => 0))) (h49 : w[49]? = some (cI 0 72 (fun _ => 0))) (h50 : w[50]? = some (cI 0 6 (fun _ => 0))) (h51 : w[51]? = some (cI 0 3 (fun _ => 0))) (h52 : w[52]? = some (cO 3 [eI 0, eR (53)])) (h53 : w[53]? = some (cI 0 200 (fun _ => 0))) (h54 : w[54]? = some (cI 0 600 (fun _ => 0))) (h55 : w[55]? = some (cI 0 5 (fun _ => 0))) (h56 : w[56]? = some (cO 0 [eR (57), eI 0, eI 0, eI 0, eR (58), eR (59), eI 0, eI 0, eI 0, eI 0, eI 0, eI 0, eI 0])) (h57 : w[57]? = some (cO 4 [eI 0, eI 0, eI 0])) (h58 : w[58]? = some (cI 0 6 (fun _ => 0))) (h59 : w[59]? = some (cI 0 3 (fun _ => 0))) (h60 : w[60]? = some (cO 4 [eI 0, eI 0, eI 0])) (h61 : w[61]? = some (cI 0 40 (fun _ => 0))) (h62 : w[62]? = some (cI 0 216 (fun _ => 0))) (h63 : w[63]? = some (cI 0 1000 (fun _ => 0))) (h64 : w[64]? = some (cO 7 [eR (65), eR (66), eI 0, eI 0, eI 0, eI 0, eI 0, eI 0, eI 0, eI 0, eR (67), eI 0, eI 0, eI 0, eI 0, eI 0, eI 0, eI 0, eI 0, eI 0, eI 0, eI 0, eI 0, eI 0, eI 0, eI 0, eI 0, eR (68), eR (69), eI 0, eI 0, eR (70), eR (71), eI 0, eI 0])) (h65 : w[65]? = some (cI 0 5768 (upd (fun _ => 0) 8 (-1)))) (h66 : w[66]? = some (cI 1 3 (fun _ => 0))) (h67 : w[67]? = some (cI 0 201 (fun _ => 0))) (h68 : w[68]? = some (cI 0 3 (fun _ => 0))) (h69 : w[69]? = some (cI 0 6 (fun _ => 0))) (h70 : w[70]? = some (cI 0 1791 (fun _ => 0))) (h71 : w[71]? = some (cI 1 1000 (fun _ => 0))) : WW p l e room_1 s m #[Value.ref b] below meth c (lw_Z below #[Value.ref b] s) G 4 0 0 599928 7288326 1436 [some (eK 2), some (eR 0), some (eR 64), some (eI 0)] [] w := by
  refine ww_aload_n K dL_law_1436 rfl ?_
  refine ww_aload_nK K dL_law_1437 rfl ?_
  refine ww_iload_n K dL_law_1438 rfl ?_
  refine ww_iconst (v := 1) K dL_law_1439 rfl ?_
  refine ww_iadd K dL_law_1440 ?_
  rw [show ((0 : Int32) + 1) = 1 from rfl]
  refine ww_ialdK K dL_law_1441 (by decide) (by rw [hL8]; exact wc_vin (by decide)) ?_
  refine ww_aload_nK K dL_law_1442 rfl ?_
  refine ww_iload_n K dL_law_1443 rfl ?_
  refine ww_iconst (v := 2) K dL_law_1444 rfl ?_
  refine ww_iadd K dL_law_1445 ?_
  rw [show ((0 : Int32) + 2) = 2 from rfl]
  refine ww_ialdK K dL_law_1446 (by decide) (by rw [hL8]; exact wc_vin (by decide)) ?_
  refine ww_aload_nK K dL_law_1447 rfl ?_
  refine ww_iload_n K dL_law_1448 rfl ?_
  refine ww_iconst (v := 3) K dL_law_1449 rfl ?_
  refine ww_iadd K dL_law_1450 ?_
  rw [show ((0 : Int32) + 3) = 3 from rfl]
  refine ww_ialdK K dL_law_1451 (by decide) (by rw [hL8]; exact wc_vin (by decide)) ?_
  refine ww_aload_nK K dL_law_1452 rfl ?_
  refine ww_iload_n K dL_law_1453 rfl ?_
  refine ww_iconst (v := 4) K dL_law_1454 rfl ?_
  refine ww_iadd K dL_law_1455 ?_
  rw [show ((0 : Int32) + 4) = 4 from rfl]
  refine ww_ialdK K dL_law_1456 (by decide) (by rw [hL8]; exact wc_vin (by decide)) ?_
  refine ww_aload_nK K dL_law_1457 rfl ?_
  refine ww_iload_n K dL_law_1458 rfl ?_
  refine ww_iconst (v := 5) K dL_law_1459 rfl ?_
  refine ww_iadd K dL_law_1460 ?_
  rw [show ((0 : Int32) + 5) = 5 from rfl]
  refine ww_ialdK K dL_law_1461 (by decide) (by rw [hL8]; exact wc_vin (by decide)) ?_
  refine ww_cV K dL_law_1462 lc_L_118 h0 ⟨_, rfl, rfl⟩ (ct_X6_fits0 G l h0 h1 h3 (fun _ _ => rfl) (a := _) (b := _) (c := _) (d := _) (f := _)) rfl ⟨Nat.le_of_ble_eq_true rfl, Nat.le_of_ble_eq_true rfl⟩ (Nat.le_of_ble_eq_true rfl) ?_
  refine ww_aload_n K dL_law_1465 rfl ?_
  refine ww_aload_nK K dL_law_1466 rfl ?_
  refine ww_iload_n K dL_law_1467 rfl ?_
  refine ww_iconst (v := 1) K dL_law_1468 rfl ?_
  refine ww_iadd K dL_law_1469 ?_
  rw [show ((0 : Int32) + 1) = 1 from rfl]
  refine ww_ialdK K dL_law_1470 (by decide) (by rw [hL8]; exact wc_vin (by decide)) ?_
  refine ww_aload_nK K dL_law_1471 rfl ?_
  refine ww_iload_n K dL_law_1472 rfl ?_
  refine ww_iconst (v := 2) K dL_law_1473 rfl ?_
  refine ww_iadd K dL_law_1474 ?_
  rw [show ((0 : Int32) + 2) = 2 from rfl]
  refine ww_ialdK K dL_law_1475 (by decide) (by rw [hL8]; exact wc_vin (by decide)) ?_
  refine ww_aload_nK K dL_law_1476 rfl ?_
  refine ww_iload_n K dL_law_1477 rfl ?_
  refine ww_iconst (v := 3) K dL_law_1478 rfl ?_
  refine ww_iadd K dL_law_1479 ?_
  rw [show ((0 : Int32) + 3) = 3 from rfl]
  refine ww_ialdK K dL_law_1480 (by decide) (by rw [hL8]; exact wc_vin (by decide)) ?_
  refine ww_aload_nK K dL_law_1481 rfl ?_
  refine ww_iload_n K dL_law_1482 rfl ?_
  refine ww_iconst (v := 4) K dL_law_1483 rfl ?_
  refine ww_iadd K dL_law_1484 ?_
  rw [show ((0 : Int32) + 4) = 4 from rfl]
  refine ww_ialdK K dL_law_1485 (by decide) (by rw [hL8]; exact wc_vin (by decide)) ?_
  refine ww_aload_nK K dL_law_1486 rfl ?_
  refine ww_iload_n K dL_law_1487 rfl ?_
  refine ww_iconst (v := 5) K dL_law_1488 rfl ?_
  refine ww_iadd K dL_law_1489 ?_
  rw [show ((0 : Int32) + 5) = 5 from rfl]
  refine ww_ialdK K dL_law_1490 (by decide) (by rw [hL8]; exact wc_vin (by decide)) ?_
  refine ww_cV K dL_law_1491 lc_L_121 h64 ⟨_, rfl, rfl⟩ (ct_X7_fits0 G l h64 h65 (fun k hk => wc_A0 hk) (a := _) (b := _) (c := _) (d := _) (f := _)) rfl ⟨Nat.le_of_ble_eq_true rfl, Nat.le_of_ble_eq_true rfl⟩ (Nat.le_of_ble_eq_true rfl) ?_
  refine ww_icmp_eq (tgt := 1621) K dL_law_1494 rfl (fun _ => ?_) (fun cc_ => absurd cc_ (by decide))
  exact wc_law_fin K hr hL8 _ _ _
set_option maxRecDepth 100000 in
set_option maxHeartbeats 8000000 in
theorem wc_law_drawn {p : Program} {l : Launch} {e : Env} {s : State} {m : MethodId} {below : List Frame} {meth : Method} {c : Code} {b : Nat} {G : EG} (K : wc_C p s m #[Value.ref b] meth c G RL cL_law 4 0) (hr : meth.sig.returnType = ret) (hL8 : gL G 2 = 8) {w : EW} (hlen : w.length = 72) (h0 : w[0]? = some (cO 6 [eR (1), eR (42), eR (43), eR (56), eR (60), eR (61), eR (62), eR (63)])) (h1 : w[1]? = some (cO 5 [eR (2), eI 0, eI 0, eI ((-1)), eR (3), eR (4), eR (5)])) (h2 : w[2]? = some (cI 0 600 (fun _ => 0))) (h3 : w[3]? = some (cI 0 6 (fun _ => 0))) (h4 : w[4]? = some (cQ 2 2 (va_up (va_up (fun _ => none) 0 (some 6)) 1 (some 14)))) (h5 : w[5]? = some (cQ 3 10 (va_up (va_up (va_up (va_up (va_up (va_up (va_up (va_up (va_up (va_up (fun _ => none) 0 (some 22)) 1 (some 24)) 2 (some 26)) 3 (some 28)) 4 (some 30)) 5 (some 32)) 6 (some 34)) 7 (some 36)) 8 (some 38)) 9 (some 40)))) (h6 : w[6]? = some (cO 2 [eI 0, eR (7), eR (8), eR (9), eR (10), eR (11), eR (12), eR (13), eI 0, eI 0, eI 0, eI 0, eI 0, eI 0])) (h7 : w[7]? = some (cI 0 6 (fun _ => 0))) (h8 : w[8]? = some (cI 0 6 (fun _ => 0))) (h9 : w[9]? = some (cI 0 6 (fun _ => 0))) (h10 : w[10]? = some (cI 0 6 (fun _ => 0))) (h11 : w[11]? = some (cI 0 72 (fun _ => 0))) (h12 : w[12]? = some (cI 0 6 (fun _ => 0))) (h13 : w[13]? = some (cI 0 3 (fun _ => 0))) (h14 : w[14]? = some (cO 2 [eI 0, eR (15), eR (16), eR (17), eR (18), eR (19), eR (20), eR (21), eI 0, eI 0, eI 0, eI 0, eI 0, eI 0])) (h15 : w[15]? = some (cI 0 6 (fun _ => 0))) (h16 : w[16]? = some (cI 0 6 (fun _ => 0))) (h17 : w[17]? = some (cI 0 6 (fun _ => 0))) (h18 : w[18]? = some (cI 0 6 (fun _ => 0))) (h19 : w[19]? = some (cI 0 72 (fun _ => 0))) (h20 : w[20]? = some (cI 0 6 (fun _ => 0))) (h21 : w[21]? = some (cI 0 3 (fun _ => 0))) (h22 : w[22]? = some (cO 3 [eI 0, eR (23)])) (h23 : w[23]? = some (cI 0 200 (fun _ => 0))) (h24 : w[24]? = some (cO 3 [eI 0, eR (25)])) (h25 : w[25]? = some (cI 0 200 (fun _ => 0))) (h26 : w[26]? = some (cO 3 [eI 0, eR (27)])) (h27 : w[27]? = some (cI 0 200 (fun _ => 0))) (h28 : w[28]? = some (cO 3 [eI 0, eR (29)])) (h29 : w[29]? = some (cI 0 200 (fun _ => 0))) (h30 : w[30]? = some (cO 3 [eI 0, eR (31)])) (h31 : w[31]? = some (cI 0 200 (fun _ => 0))) (h32 : w[32]? = some (cO 3 [eI 0, eR (33)])) (h33 : w[33]? = some (cI 0 200 (fun _ => 0))) (h34 : w[34]? = some (cO 3 [eI 0, eR (35)])) (h35 : w[35]? = some (cI 0 200 (fun _ => 0))) (h36 : w[36]? = some (cO 3 [eI 0, eR (37)])) (h37 : w[37]? = some (cI 0 200 (fun _ => 0))) (h38 : w[38]? = some (cO 3 [eI 0, eR (39)])) (h39 : w[39]? = some (cI 0 200 (fun _ => 0))) (h40 : w[40]? = some (cO 3 [eI 0, eR (41)])) (h41 : w[41]? = some (cI 0 200 (fun _ => 0))) (h42 : w[42]? = some (cQ 4 3 (fun _ => none))) (h43 : w[43]? = some (cO 1 [eR (44), eR (52), eI 0, eI 0, eR (54), eR (55), eI 0, eI 0, eI 0, eI 0, eI 0, eI 0])) (h44 : w[44]? = some (cO 2 [eI 0, eR (45), eR (46), eR (47), eR (48), eR (49), eR (50), eR (51), eI 0, eI 0, eI 0, eI 0, eI 0, eI 0])) (h45 : w[45]? = some (cI 0 6 (fun _ => 0))) (h46 : w[46]? = some (cI 0 6 (fun _ => 0))) (h47 : w[47]? = some (cI 0 6 (fun _ => 0))) (h48 : w[48]? = some (cI 0 6 (fun _ => 0))) (h49 : w[49]? = some (cI 0 72 (fun _ => 0))) (h50 : w[50]? = some (cI 0 6 (fun _ => 0))) (h51 : w[51]? = some (cI 0 3 (fun _ => 0))) (h52 : w[52]? = some (cO 3 [eI 0, eR (53)])) (h53 : w[53]? = some (cI 0 200 (fun _ => 0))) (h54 : w[54]? = some (cI 0 600 (fun _ => 0))) (h55 : w[55]? = some (cI 0 5 (fun _ => 0))) (h56 : w[56]? = some (cO 0 [eR (57), eI 0, eI 0, eI 0, eR (58), eR (59), eI 0, eI 0, eI 0, eI 0, eI 0, eI 0, eI 0])) (h57 : w[57]? = some (cO 4 [eI 0, eI 0, eI 0])) (h58 : w[58]? = some (cI 0 6 (fun _ => 0))) (h59 : w[59]? = some (cI 0 3 (fun _ => 0))) (h60 : w[60]? = some (cO 4 [eI 0, eI 0, eI 0])) (h61 : w[61]? = some (cI 0 40 (fun _ => 0))) (h62 : w[62]? = some (cI 0 216 (fun _ => 0))) (h63 : w[63]? = some (cI 0 1000 (fun _ => 0))) (h64 : w[64]? = some (cO 7 [eR (65), eR (66), eI 0, eI 0, eI 0, eI 0, eI 0, eI 0, eI 0, eI 0, eR (67), eI 0, eI 0, eI 0, eI 0, eI 0, eI 0, eI 0, eI 0, eI 0, eI 0, eI 0, eI 0, eI 0, eI 0, eI 0, eI 0, eR (68), eR (69), eI 0, eI 0, eR (70), eR (71), eI 0, eI 0])) (h65 : w[65]? = some (cI 0 5768 (upd (fun _ => 0) 8 (-1)))) (h66 : w[66]? = some (cI 1 3 (fun _ => 0))) (h67 : w[67]? = some (cI 0 201 (fun _ => 0))) (h68 : w[68]? = some (cI 0 3 (fun _ => 0))) (h69 : w[69]? = some (cI 0 6 (fun _ => 0))) (h70 : w[70]? = some (cI 0 1791 (fun _ => 0))) (h71 : w[71]? = some (cI 1 1000 (fun _ => 0))) : WW p l e room_1 s m #[Value.ref b] below meth c (lw_Z below #[Value.ref b] s) G 4 0 0 599928 7288326 1499 [some (eK 2), some (eR 0), some (eR 64), some (eI 0)] [] w := by
  refine ww_aload_n K dL_law_1499 rfl ?_
  refine ww_aload_nK K dL_law_1500 rfl ?_
  refine ww_iload_n K dL_law_1501 rfl ?_
  refine ww_iconst (v := 1) K dL_law_1502 rfl ?_
  refine ww_iadd K dL_law_1503 ?_
  rw [show ((0 : Int32) + 1) = 1 from rfl]
  refine ww_ialdK K dL_law_1504 (by decide) (by rw [hL8]; exact wc_vin (by decide)) ?_
  refine ww_aload_nK K dL_law_1505 rfl ?_
  refine ww_iload_n K dL_law_1506 rfl ?_
  refine ww_iconst (v := 2) K dL_law_1507 rfl ?_
  refine ww_iadd K dL_law_1508 ?_
  rw [show ((0 : Int32) + 2) = 2 from rfl]
  refine ww_ialdK K dL_law_1509 (by decide) (by rw [hL8]; exact wc_vin (by decide)) ?_
  refine ww_aload_nK K dL_law_1510 rfl ?_
  refine ww_iload_n K dL_law_1511 rfl ?_
  refine ww_iconst (v := 3) K dL_law_1512 rfl ?_
  refine ww_iadd K dL_law_1513 ?_
  rw [show ((0 : Int32) + 3) = 3 from rfl]
  refine ww_ialdK K dL_law_1514 (by decide) (by rw [hL8]; exact wc_vin (by decide)) ?_
  refine ww_aload_nK K dL_law_1515 rfl ?_
  refine ww_iload_n K dL_law_1516 rfl ?_
  refine ww_iconst (v := 4) K dL_law_1517 rfl ?_
  refine ww_iadd K dL_law_1518 ?_
  rw [show ((0 : Int32) + 4) = 4 from rfl]
  refine ww_ialdK K dL_law_1519 (by decide) (by rw [hL8]; exact wc_vin (by decide)) ?_
  refine ww_cV K dL_law_1520 lc_L_122 h0 ⟨_, rfl, rfl⟩ (ct_X6_drawn0 G l h0 h1 h3 (fun _ _ => rfl) (a := _) (b := _) (c := _) (d := _)) rfl ⟨Nat.le_of_ble_eq_true rfl, Nat.le_of_ble_eq_true rfl⟩ (Nat.le_of_ble_eq_true rfl) ?_
  refine ww_aload_n K dL_law_1523 rfl ?_
  refine ww_aload_nK K dL_law_1524 rfl ?_
  refine ww_iload_n K dL_law_1525 rfl ?_
  refine ww_iconst (v := 1) K dL_law_1526 rfl ?_
  refine ww_iadd K dL_law_1527 ?_
  rw [show ((0 : Int32) + 1) = 1 from rfl]
  refine ww_ialdK K dL_law_1528 (by decide) (by rw [hL8]; exact wc_vin (by decide)) ?_
  refine ww_aload_nK K dL_law_1529 rfl ?_
  refine ww_iload_n K dL_law_1530 rfl ?_
  refine ww_iconst (v := 2) K dL_law_1531 rfl ?_
  refine ww_iadd K dL_law_1532 ?_
  rw [show ((0 : Int32) + 2) = 2 from rfl]
  refine ww_ialdK K dL_law_1533 (by decide) (by rw [hL8]; exact wc_vin (by decide)) ?_
  refine ww_aload_nK K dL_law_1534 rfl ?_
  refine ww_iload_n K dL_law_1535 rfl ?_
  refine ww_iconst (v := 3) K dL_law_1536 rfl ?_
  refine ww_iadd K dL_law_1537 ?_
  rw [show ((0 : Int32) + 3) = 3 from rfl]
  refine ww_ialdK K dL_law_1538 (by decide) (by rw [hL8]; exact wc_vin (by decide)) ?_
  refine ww_aload_nK K dL_law_1539 rfl ?_
  refine ww_iload_n K dL_law_1540 rfl ?_
  refine ww_iconst (v := 4) K dL_law_1541 rfl ?_
  refine ww_iadd K dL_law_1542 ?_
  rw [show ((0 : Int32) + 4) = 4 from rfl]
  refine ww_ialdK K dL_law_1543 (by decide) (by rw [hL8]; exact wc_vin (by decide)) ?_
  refine ww_cV K dL_law_1544 lc_L_126 h64 ⟨_, rfl, rfl⟩ (ct_X7_drawn0 G l h64 h65 (fun k hk => wc_A0 hk) (a := _) (b := _) (c := _) (d := _)) rfl ⟨Nat.le_of_ble_eq_true rfl, Nat.le_of_ble_eq_true rfl⟩ (Nat.le_of_ble_eq_true rfl) ?_
  refine ww_icmp_eq (tgt := 1621) K dL_law_1547 rfl (fun _ => ?_) (fun cc_ => absurd cc_ (by decide))
  exact wc_law_fin K hr hL8 _ _ _
set_option maxRecDepth 100000 in
set_option maxHeartbeats 8000000 in
theorem wc_law_count {p : Program} {l : Launch} {e : Env} {s : State} {m : MethodId} {below : List Frame} {meth : Method} {c : Code} {b : Nat} {G : EG} (K : wc_C p s m #[Value.ref b] meth c G RL cL_law 4 0) (hr : meth.sig.returnType = ret) (hL8 : gL G 2 = 8) {w : EW} (hlen : w.length = 72) (h0 : w[0]? = some (cO 6 [eR (1), eR (42), eR (43), eR (56), eR (60), eR (61), eR (62), eR (63)])) (h1 : w[1]? = some (cO 5 [eR (2), eI 0, eI 0, eI ((-1)), eR (3), eR (4), eR (5)])) (h2 : w[2]? = some (cI 0 600 (fun _ => 0))) (h3 : w[3]? = some (cI 0 6 (fun _ => 0))) (h4 : w[4]? = some (cQ 2 2 (va_up (va_up (fun _ => none) 0 (some 6)) 1 (some 14)))) (h5 : w[5]? = some (cQ 3 10 (va_up (va_up (va_up (va_up (va_up (va_up (va_up (va_up (va_up (va_up (fun _ => none) 0 (some 22)) 1 (some 24)) 2 (some 26)) 3 (some 28)) 4 (some 30)) 5 (some 32)) 6 (some 34)) 7 (some 36)) 8 (some 38)) 9 (some 40)))) (h6 : w[6]? = some (cO 2 [eI 0, eR (7), eR (8), eR (9), eR (10), eR (11), eR (12), eR (13), eI 0, eI 0, eI 0, eI 0, eI 0, eI 0])) (h7 : w[7]? = some (cI 0 6 (fun _ => 0))) (h8 : w[8]? = some (cI 0 6 (fun _ => 0))) (h9 : w[9]? = some (cI 0 6 (fun _ => 0))) (h10 : w[10]? = some (cI 0 6 (fun _ => 0))) (h11 : w[11]? = some (cI 0 72 (fun _ => 0))) (h12 : w[12]? = some (cI 0 6 (fun _ => 0))) (h13 : w[13]? = some (cI 0 3 (fun _ => 0))) (h14 : w[14]? = some (cO 2 [eI 0, eR (15), eR (16), eR (17), eR (18), eR (19), eR (20), eR (21), eI 0, eI 0, eI 0, eI 0, eI 0, eI 0])) (h15 : w[15]? = some (cI 0 6 (fun _ => 0))) (h16 : w[16]? = some (cI 0 6 (fun _ => 0))) (h17 : w[17]? = some (cI 0 6 (fun _ => 0))) (h18 : w[18]? = some (cI 0 6 (fun _ => 0))) (h19 : w[19]? = some (cI 0 72 (fun _ => 0))) (h20 : w[20]? = some (cI 0 6 (fun _ => 0))) (h21 : w[21]? = some (cI 0 3 (fun _ => 0))) (h22 : w[22]? = some (cO 3 [eI 0, eR (23)])) (h23 : w[23]? = some (cI 0 200 (fun _ => 0))) (h24 : w[24]? = some (cO 3 [eI 0, eR (25)])) (h25 : w[25]? = some (cI 0 200 (fun _ => 0))) (h26 : w[26]? = some (cO 3 [eI 0, eR (27)])) (h27 : w[27]? = some (cI 0 200 (fun _ => 0))) (h28 : w[28]? = some (cO 3 [eI 0, eR (29)])) (h29 : w[29]? = some (cI 0 200 (fun _ => 0))) (h30 : w[30]? = some (cO 3 [eI 0, eR (31)])) (h31 : w[31]? = some (cI 0 200 (fun _ => 0))) (h32 : w[32]? = some (cO 3 [eI 0, eR (33)])) (h33 : w[33]? = some (cI 0 200 (fun _ => 0))) (h34 : w[34]? = some (cO 3 [eI 0, eR (35)])) (h35 : w[35]? = some (cI 0 200 (fun _ => 0))) (h36 : w[36]? = some (cO 3 [eI 0, eR (37)])) (h37 : w[37]? = some (cI 0 200 (fun _ => 0))) (h38 : w[38]? = some (cO 3 [eI 0, eR (39)])) (h39 : w[39]? = some (cI 0 200 (fun _ => 0))) (h40 : w[40]? = some (cO 3 [eI 0, eR (41)])) (h41 : w[41]? = some (cI 0 200 (fun _ => 0))) (h42 : w[42]? = some (cQ 4 3 (fun _ => none))) (h43 : w[43]? = some (cO 1 [eR (44), eR (52), eI 0, eI 0, eR (54), eR (55), eI 0, eI 0, eI 0, eI 0, eI 0, eI 0])) (h44 : w[44]? = some (cO 2 [eI 0, eR (45), eR (46), eR (47), eR (48), eR (49), eR (50), eR (51), eI 0, eI 0, eI 0, eI 0, eI 0, eI 0])) (h45 : w[45]? = some (cI 0 6 (fun _ => 0))) (h46 : w[46]? = some (cI 0 6 (fun _ => 0))) (h47 : w[47]? = some (cI 0 6 (fun _ => 0))) (h48 : w[48]? = some (cI 0 6 (fun _ => 0))) (h49 : w[49]? = some (cI 0 72 (fun _ => 0))) (h50 : w[50]? = some (cI 0 6 (fun _ => 0))) (h51 : w[51]? = some (cI 0 3 (fun _ => 0))) (h52 : w[52]? = some (cO 3 [eI 0, eR (53)])) (h53 : w[53]? = some (cI 0 200 (fun _ => 0))) (h54 : w[54]? = some (cI 0 600 (fun _ => 0))) (h55 : w[55]? = some (cI 0 5 (fun _ => 0))) (h56 : w[56]? = some (cO 0 [eR (57), eI 0, eI 0, eI 0, eR (58), eR (59), eI 0, eI 0, eI 0, eI 0, eI 0, eI 0, eI 0])) (h57 : w[57]? = some (cO 4 [eI 0, eI 0, eI 0])) (h58 : w[58]? = some (cI 0 6 (fun _ => 0))) (h59 : w[59]? = some (cI 0 3 (fun _ => 0))) (h60 : w[60]? = some (cO 4 [eI 0, eI 0, eI 0])) (h61 : w[61]? = some (cI 0 40 (fun _ => 0))) (h62 : w[62]? = some (cI 0 216 (fun _ => 0))) (h63 : w[63]? = some (cI 0 1000 (fun _ => 0))) (h64 : w[64]? = some (cO 7 [eR (65), eR (66), eI 0, eI 0, eI 0, eI 0, eI 0, eI 0, eI 0, eI 0, eR (67), eI 0, eI 0, eI 0, eI 0, eI 0, eI 0, eI 0, eI 0, eI 0, eI 0, eI 0, eI 0, eI 0, eI 0, eI 0, eI 0, eR (68), eR (69), eI 0, eI 0, eR (70), eR (71), eI 0, eI 0])) (h65 : w[65]? = some (cI 0 5768 (upd (fun _ => 0) 8 (-1)))) (h66 : w[66]? = some (cI 1 3 (fun _ => 0))) (h67 : w[67]? = some (cI 0 201 (fun _ => 0))) (h68 : w[68]? = some (cI 0 3 (fun _ => 0))) (h69 : w[69]? = some (cI 0 6 (fun _ => 0))) (h70 : w[70]? = some (cI 0 1791 (fun _ => 0))) (h71 : w[71]? = some (cI 1 1000 (fun _ => 0))) : WW p l e room_1 s m #[Value.ref b] below meth c (lw_Z below #[Value.ref b] s) G 4 0 0 599928 7288326 1552 [some (eK 2), some (eR 0), some (eR 64), some (eI 0)] [] w := by
  refine ww_aload_n K dL_law_1552 rfl ?_
  refine ww_aload_nK K dL_law_1553 rfl ?_
  refine ww_iload_n K dL_law_1554 rfl ?_
  refine ww_iconst (v := 1) K dL_law_1555 rfl ?_
  refine ww_iadd K dL_law_1556 ?_
  rw [show ((0 : Int32) + 1) = 1 from rfl]
  refine ww_ialdK K dL_law_1557 (by decide) (by rw [hL8]; exact wc_vin (by decide)) ?_
  refine ww_cV K dL_law_1558 lc_L_127 h0 ⟨_, rfl, rfl⟩ (ct_X6_count G l (a := _) (fun _ _ => rfl) h0 h1 h3) rfl ⟨Nat.le_of_ble_eq_true rfl, Nat.le_of_ble_eq_true rfl⟩ (Nat.le_of_ble_eq_true rfl) ?_
  refine ww_aload_n K dL_law_1561 rfl ?_
  refine ww_aload_nK K dL_law_1562 rfl ?_
  refine ww_iload_n K dL_law_1563 rfl ?_
  refine ww_iconst (v := 1) K dL_law_1564 rfl ?_
  refine ww_iadd K dL_law_1565 ?_
  rw [show ((0 : Int32) + 1) = 1 from rfl]
  refine ww_ialdK K dL_law_1566 (by decide) (by rw [hL8]; exact wc_vin (by decide)) ?_
  refine ww_cV K dL_law_1567 lc_L_130 h64 ⟨_, rfl, rfl⟩ (ct_X7_count G l (a := _) h64 h65) rfl ⟨Nat.le_of_ble_eq_true rfl, Nat.le_of_ble_eq_true rfl⟩ (Nat.le_of_ble_eq_true rfl) ?_
  refine ww_icmp_eq (tgt := 1621) K dL_law_1570 rfl (fun _ => ?_) (fun cc_ => absurd (wc_end_eq _) cc_)
  exact wc_law_fin K hr hL8 _ _ _
set_option maxRecDepth 100000 in
set_option maxHeartbeats 8000000 in
theorem wc_law_image {p : Program} {l : Launch} {e : Env} {s : State} {m : MethodId} {below : List Frame} {meth : Method} {c : Code} {b : Nat} {G : EG} (K : wc_C p s m #[Value.ref b] meth c G RL cL_law 4 0) (hr : meth.sig.returnType = ret) (hL8 : gL G 2 = 8) {w : EW} (hlen : w.length = 72) (h0 : w[0]? = some (cO 6 [eR (1), eR (42), eR (43), eR (56), eR (60), eR (61), eR (62), eR (63)])) (h1 : w[1]? = some (cO 5 [eR (2), eI 0, eI 0, eI ((-1)), eR (3), eR (4), eR (5)])) (h2 : w[2]? = some (cI 0 600 (fun _ => 0))) (h3 : w[3]? = some (cI 0 6 (fun _ => 0))) (h4 : w[4]? = some (cQ 2 2 (va_up (va_up (fun _ => none) 0 (some 6)) 1 (some 14)))) (h5 : w[5]? = some (cQ 3 10 (va_up (va_up (va_up (va_up (va_up (va_up (va_up (va_up (va_up (va_up (fun _ => none) 0 (some 22)) 1 (some 24)) 2 (some 26)) 3 (some 28)) 4 (some 30)) 5 (some 32)) 6 (some 34)) 7 (some 36)) 8 (some 38)) 9 (some 40)))) (h6 : w[6]? = some (cO 2 [eI 0, eR (7), eR (8), eR (9), eR (10), eR (11), eR (12), eR (13), eI 0, eI 0, eI 0, eI 0, eI 0, eI 0])) (h7 : w[7]? = some (cI 0 6 (fun _ => 0))) (h8 : w[8]? = some (cI 0 6 (fun _ => 0))) (h9 : w[9]? = some (cI 0 6 (fun _ => 0))) (h10 : w[10]? = some (cI 0 6 (fun _ => 0))) (h11 : w[11]? = some (cI 0 72 (fun _ => 0))) (h12 : w[12]? = some (cI 0 6 (fun _ => 0))) (h13 : w[13]? = some (cI 0 3 (fun _ => 0))) (h14 : w[14]? = some (cO 2 [eI 0, eR (15), eR (16), eR (17), eR (18), eR (19), eR (20), eR (21), eI 0, eI 0, eI 0, eI 0, eI 0, eI 0])) (h15 : w[15]? = some (cI 0 6 (fun _ => 0))) (h16 : w[16]? = some (cI 0 6 (fun _ => 0))) (h17 : w[17]? = some (cI 0 6 (fun _ => 0))) (h18 : w[18]? = some (cI 0 6 (fun _ => 0))) (h19 : w[19]? = some (cI 0 72 (fun _ => 0))) (h20 : w[20]? = some (cI 0 6 (fun _ => 0))) (h21 : w[21]? = some (cI 0 3 (fun _ => 0))) (h22 : w[22]? = some (cO 3 [eI 0, eR (23)])) (h23 : w[23]? = some (cI 0 200 (fun _ => 0))) (h24 : w[24]? = some (cO 3 [eI 0, eR (25)])) (h25 : w[25]? = some (cI 0 200 (fun _ => 0))) (h26 : w[26]? = some (cO 3 [eI 0, eR (27)])) (h27 : w[27]? = some (cI 0 200 (fun _ => 0))) (h28 : w[28]? = some (cO 3 [eI 0, eR (29)])) (h29 : w[29]? = some (cI 0 200 (fun _ => 0))) (h30 : w[30]? = some (cO 3 [eI 0, eR (31)])) (h31 : w[31]? = some (cI 0 200 (fun _ => 0))) (h32 : w[32]? = some (cO 3 [eI 0, eR (33)])) (h33 : w[33]? = some (cI 0 200 (fun _ => 0))) (h34 : w[34]? = some (cO 3 [eI 0, eR (35)])) (h35 : w[35]? = some (cI 0 200 (fun _ => 0))) (h36 : w[36]? = some (cO 3 [eI 0, eR (37)])) (h37 : w[37]? = some (cI 0 200 (fun _ => 0))) (h38 : w[38]? = some (cO 3 [eI 0, eR (39)])) (h39 : w[39]? = some (cI 0 200 (fun _ => 0))) (h40 : w[40]? = some (cO 3 [eI 0, eR (41)])) (h41 : w[41]? = some (cI 0 200 (fun _ => 0))) (h42 : w[42]? = some (cQ 4 3 (fun _ => none))) (h43 : w[43]? = some (cO 1 [eR (44), eR (52), eI 0, eI 0, eR (54), eR (55), eI 0, eI 0, eI 0, eI 0, eI 0, eI 0])) (h44 : w[44]? = some (cO 2 [eI 0, eR (45), eR (46), eR (47), eR (48), eR (49), eR (50), eR (51), eI 0, eI 0, eI 0, eI 0, eI 0, eI 0])) (h45 : w[45]? = some (cI 0 6 (fun _ => 0))) (h46 : w[46]? = some (cI 0 6 (fun _ => 0))) (h47 : w[47]? = some (cI 0 6 (fun _ => 0))) (h48 : w[48]? = some (cI 0 6 (fun _ => 0))) (h49 : w[49]? = some (cI 0 72 (fun _ => 0))) (h50 : w[50]? = some (cI 0 6 (fun _ => 0))) (h51 : w[51]? = some (cI 0 3 (fun _ => 0))) (h52 : w[52]? = some (cO 3 [eI 0, eR (53)])) (h53 : w[53]? = some (cI 0 200 (fun _ => 0))) (h54 : w[54]? = some (cI 0 600 (fun _ => 0))) (h55 : w[55]? = some (cI 0 5 (fun _ => 0))) (h56 : w[56]? = some (cO 0 [eR (57), eI 0, eI 0, eI 0, eR (58), eR (59), eI 0, eI 0, eI 0, eI 0, eI 0, eI 0, eI 0])) (h57 : w[57]? = some (cO 4 [eI 0, eI 0, eI 0])) (h58 : w[58]? = some (cI 0 6 (fun _ => 0))) (h59 : w[59]? = some (cI 0 3 (fun _ => 0))) (h60 : w[60]? = some (cO 4 [eI 0, eI 0, eI 0])) (h61 : w[61]? = some (cI 0 40 (fun _ => 0))) (h62 : w[62]? = some (cI 0 216 (fun _ => 0))) (h63 : w[63]? = some (cI 0 1000 (fun _ => 0))) (h64 : w[64]? = some (cO 7 [eR (65), eR (66), eI 0, eI 0, eI 0, eI 0, eI 0, eI 0, eI 0, eI 0, eR (67), eI 0, eI 0, eI 0, eI 0, eI 0, eI 0, eI 0, eI 0, eI 0, eI 0, eI 0, eI 0, eI 0, eI 0, eI 0, eI 0, eR (68), eR (69), eI 0, eI 0, eR (70), eR (71), eI 0, eI 0])) (h65 : w[65]? = some (cI 0 5768 (upd (fun _ => 0) 8 (-1)))) (h66 : w[66]? = some (cI 1 3 (fun _ => 0))) (h67 : w[67]? = some (cI 0 201 (fun _ => 0))) (h68 : w[68]? = some (cI 0 3 (fun _ => 0))) (h69 : w[69]? = some (cI 0 6 (fun _ => 0))) (h70 : w[70]? = some (cI 0 1791 (fun _ => 0))) (h71 : w[71]? = some (cI 1 1000 (fun _ => 0))) : WW p l e room_1 s m #[Value.ref b] below meth c (lw_Z below #[Value.ref b] s) G 4 0 0 599928 7288326 1575 [some (eK 2), some (eR 0), some (eR 64), some (eI 0)] [] w := by
  obtain ⟨a, ea⟩ : ∃ z, z = gF G 2 1 := ⟨_, rfl⟩
  by_cases hb : a < 0 ∨ 2 < a
  · have hbX : a < 0 ∨ 3 ≤ a := by rw [wc_le2]; exact hb
    rw [ea] at hb hbX
    refine ww_aload_n K dL_law_1575 rfl ?_
    refine ww_aload_nK K dL_law_1576 rfl ?_
    refine ww_iload_n K dL_law_1577 rfl ?_
    refine ww_iconst (v := 1) K dL_law_1578 rfl ?_
    refine ww_iadd K dL_law_1579 ?_
    rw [show ((0 : Int32) + 1) = 1 from rfl]
    refine ww_ialdK K dL_law_1580 (by decide) (by rw [hL8]; exact wc_vin (by decide)) ?_
    refine ww_cV K dL_law_1581 lc_L_131 h0 ⟨_, rfl, rfl⟩ (ct_X6_image_bad G l (a := _) hbX h0 h42) rfl ⟨Nat.le_of_ble_eq_true rfl, Nat.le_of_ble_eq_true rfl⟩ (Nat.le_of_ble_eq_true rfl) ?_
    refine ww_aload_n K dL_law_1584 rfl ?_
    refine ww_aload_nK K dL_law_1585 rfl ?_
    refine ww_iload_n K dL_law_1586 rfl ?_
    refine ww_iconst (v := 1) K dL_law_1587 rfl ?_
    refine ww_iadd K dL_law_1588 ?_
    rw [show ((0 : Int32) + 1) = 1 from rfl]
    refine ww_ialdK K dL_law_1589 (by decide) (by rw [hL8]; exact wc_vin (by decide)) ?_
    refine ww_cV K dL_law_1590 lc_L_135 h64 ⟨_, rfl, rfl⟩ (ct_X7_image_bad G l (a := _) hb h64 h65) rfl ⟨Nat.le_of_ble_eq_true rfl, Nat.le_of_ble_eq_true rfl⟩ (Nat.le_of_ble_eq_true rfl) ?_
    refine ww_icmp_eq (tgt := 1621) K dL_law_1593 rfl (fun _ => ?_) (fun cc_ => absurd rfl cc_)
    exact wc_law_fin K hr hL8 _ _ _
  · rw [not_or] at hb
    rcases wc_cases3 hb.1 hb.2 with h | h | h
    · refine ww_aload_n K dL_law_1575 rfl ?_
      refine ww_aload_nK K dL_law_1576 rfl ?_
      refine ww_iload_n K dL_law_1577 rfl ?_
      refine ww_iconst (v := 1) K dL_law_1578 rfl ?_
      refine ww_iadd K dL_law_1579 ?_
      rw [show ((0 : Int32) + 1) = 1 from rfl]
      refine ww_ialdK K dL_law_1580 (by decide) (by rw [hL8]; exact wc_vin (by decide)) ?_
      rw [show gF G 2 (1 : Int32).toNatClampNeg = 0 from ea.symm.trans h]
      refine ww_callV (rc := 599887) (rs := 7285443) K dL_law_1581 lc_L_131 h0 ⟨_, rfl, rfl⟩ (ct_X6_image_0 G l hlen h0 h1 h2 h3 h4 h5 h6 h7 h8 h9 h10 h11 h12 h13 h14 h15 h16 h17 h18 h19 h20 h21 h22 h23 h24 h25 h26 h27 h28 h29 h30 h31 h32 h33 h34 h35 h36 h37 h38 h39 h40 h41 h42) rfl ⟨Nat.le_of_ble_eq_true rfl, Nat.le_of_ble_eq_true rfl⟩ (Nat.le_of_ble_eq_true rfl) (fun r1 w1 hq0 _ _ => ?_)
      obtain ⟨x1, rfl, hq1⟩ := hq0
      have h64 := hq1.2.keep h64 (by decide)
      have h65 := hq1.2.keep h65 (by decide)
      have h66 := hq1.2.keep h66 (by decide)
      refine ww_aload_n K dL_law_1584 rfl ?_
      refine ww_aload_nK K dL_law_1585 rfl ?_
      refine ww_iload_n K dL_law_1586 rfl ?_
      refine ww_iconst (v := 1) K dL_law_1587 rfl ?_
      refine ww_iadd K dL_law_1588 ?_
      rw [show ((0 : Int32) + 1) = 1 from rfl]
      refine ww_ialdK K dL_law_1589 (by decide) (by rw [hL8]; exact wc_vin (by decide)) ?_
      rw [show gF G 2 (1 : Int32).toNatClampNeg = 0 from ea.symm.trans h]
      refine ww_xV K dL_law_1590 lc_L_135 h64 ⟨_, rfl, rfl⟩ (ct_X7_image_0 G l h64 h65 h66) rfl ⟨Nat.le_of_ble_eq_true rfl, Nat.le_of_ble_eq_true rfl⟩ (Nat.le_of_ble_eq_true rfl) (fun x2 w2 hq2 hl2 => ?_)
      refine ww_icmp_eq (tgt := 1621) K dL_law_1593 rfl (fun _ => ?_) (fun cc_ => absurd (hq1.1.trans hq2.1.symm) cc_)
      exact wc_law_fin K hr hL8 _ _ _
    · refine ww_aload_n K dL_law_1575 rfl ?_
      refine ww_aload_nK K dL_law_1576 rfl ?_
      refine ww_iload_n K dL_law_1577 rfl ?_
      refine ww_iconst (v := 1) K dL_law_1578 rfl ?_
      refine ww_iadd K dL_law_1579 ?_
      rw [show ((0 : Int32) + 1) = 1 from rfl]
      refine ww_ialdK K dL_law_1580 (by decide) (by rw [hL8]; exact wc_vin (by decide)) ?_
      rw [show gF G 2 (1 : Int32).toNatClampNeg = 1 from ea.symm.trans h]
      refine ww_callV (rc := 599887) (rs := 7285443) K dL_law_1581 lc_L_131 h0 ⟨_, rfl, rfl⟩ (ct_X6_image_1 G l hlen h0 h1 h2 h3 h4 h5 h6 h7 h8 h9 h10 h11 h12 h13 h14 h15 h16 h17 h18 h19 h20 h21 h22 h23 h24 h25 h26 h27 h28 h29 h30 h31 h32 h33 h34 h35 h36 h37 h38 h39 h40 h41 h42) rfl ⟨Nat.le_of_ble_eq_true rfl, Nat.le_of_ble_eq_true rfl⟩ (Nat.le_of_ble_eq_true rfl) (fun r1 w1 hq0 _ _ => ?_)
      obtain ⟨x1, rfl, hq1⟩ := hq0
      have h64 := hq1.2.keep h64 (by decide)
      have h65 := hq1.2.keep h65 (by decide)
      have h66 := hq1.2.keep h66 (by decide)
      refine ww_aload_n K dL_law_1584 rfl ?_
      refine ww_aload_nK K dL_law_1585 rfl ?_
      refine ww_iload_n K dL_law_1586 rfl ?_
      refine ww_iconst (v := 1) K dL_law_1587 rfl ?_
      refine ww_iadd K dL_law_1588 ?_
      rw [show ((0 : Int32) + 1) = 1 from rfl]
      refine ww_ialdK K dL_law_1589 (by decide) (by rw [hL8]; exact wc_vin (by decide)) ?_
      rw [show gF G 2 (1 : Int32).toNatClampNeg = 1 from ea.symm.trans h]
      refine ww_xV K dL_law_1590 lc_L_135 h64 ⟨_, rfl, rfl⟩ (ct_X7_image_1 G l h64 h65 h66) rfl ⟨Nat.le_of_ble_eq_true rfl, Nat.le_of_ble_eq_true rfl⟩ (Nat.le_of_ble_eq_true rfl) (fun x2 w2 hq2 hl2 => ?_)
      refine ww_icmp_eq (tgt := 1621) K dL_law_1593 rfl (fun _ => ?_) (fun cc_ => absurd (hq1.1.trans hq2.1.symm) cc_)
      exact wc_law_fin K hr hL8 _ _ _
    · refine ww_aload_n K dL_law_1575 rfl ?_
      refine ww_aload_nK K dL_law_1576 rfl ?_
      refine ww_iload_n K dL_law_1577 rfl ?_
      refine ww_iconst (v := 1) K dL_law_1578 rfl ?_
      refine ww_iadd K dL_law_1579 ?_
      rw [show ((0 : Int32) + 1) = 1 from rfl]
      refine ww_ialdK K dL_law_1580 (by decide) (by rw [hL8]; exact wc_vin (by decide)) ?_
      rw [show gF G 2 (1 : Int32).toNatClampNeg = 2 from ea.symm.trans h]
      refine ww_callV (rc := 599887) (rs := 7285443) K dL_law_1581 lc_L_131 h0 ⟨_, rfl, rfl⟩ (ct_X6_image_2 G l hlen h0 h1 h2 h3 h4 h5 h6 h7 h8 h9 h10 h11 h12 h13 h14 h15 h16 h17 h18 h19 h20 h21 h22 h23 h24 h25 h26 h27 h28 h29 h30 h31 h32 h33 h34 h35 h36 h37 h38 h39 h40 h41 h42) rfl ⟨Nat.le_of_ble_eq_true rfl, Nat.le_of_ble_eq_true rfl⟩ (Nat.le_of_ble_eq_true rfl) (fun r1 w1 hq0 _ _ => ?_)
      obtain ⟨x1, rfl, hq1⟩ := hq0
      have h64 := hq1.2.keep h64 (by decide)
      have h65 := hq1.2.keep h65 (by decide)
      have h66 := hq1.2.keep h66 (by decide)
      refine ww_aload_n K dL_law_1584 rfl ?_
      refine ww_aload_nK K dL_law_1585 rfl ?_
      refine ww_iload_n K dL_law_1586 rfl ?_
      refine ww_iconst (v := 1) K dL_law_1587 rfl ?_
      refine ww_iadd K dL_law_1588 ?_
      rw [show ((0 : Int32) + 1) = 1 from rfl]
      refine ww_ialdK K dL_law_1589 (by decide) (by rw [hL8]; exact wc_vin (by decide)) ?_
      rw [show gF G 2 (1 : Int32).toNatClampNeg = 2 from ea.symm.trans h]
      refine ww_xV K dL_law_1590 lc_L_135 h64 ⟨_, rfl, rfl⟩ (ct_X7_image_2 G l h64 h65 h66) rfl ⟨Nat.le_of_ble_eq_true rfl, Nat.le_of_ble_eq_true rfl⟩ (Nat.le_of_ble_eq_true rfl) (fun x2 w2 hq2 hl2 => ?_)
      refine ww_icmp_eq (tgt := 1621) K dL_law_1593 rfl (fun _ => ?_) (fun cc_ => absurd (hq1.1.trans hq2.1.symm) cc_)
      exact wc_law_fin K hr hL8 _ _ _
set_option maxRecDepth 100000 in
set_option maxHeartbeats 8000000 in
theorem wc_law_again {p : Program} {l : Launch} {e : Env} {s : State} {m : MethodId} {below : List Frame} {meth : Method} {c : Code} {b : Nat} {G : EG} (K : wc_C p s m #[Value.ref b] meth c G RL cL_law 4 0) (hr : meth.sig.returnType = ret) (hL8 : gL G 2 = 8) {w : EW} (hlen : w.length = 72) (h0 : w[0]? = some (cO 6 [eR (1), eR (42), eR (43), eR (56), eR (60), eR (61), eR (62), eR (63)])) (h1 : w[1]? = some (cO 5 [eR (2), eI 0, eI 0, eI ((-1)), eR (3), eR (4), eR (5)])) (h2 : w[2]? = some (cI 0 600 (fun _ => 0))) (h3 : w[3]? = some (cI 0 6 (fun _ => 0))) (h4 : w[4]? = some (cQ 2 2 (va_up (va_up (fun _ => none) 0 (some 6)) 1 (some 14)))) (h5 : w[5]? = some (cQ 3 10 (va_up (va_up (va_up (va_up (va_up (va_up (va_up (va_up (va_up (va_up (fun _ => none) 0 (some 22)) 1 (some 24)) 2 (some 26)) 3 (some 28)) 4 (some 30)) 5 (some 32)) 6 (some 34)) 7 (some 36)) 8 (some 38)) 9 (some 40)))) (h6 : w[6]? = some (cO 2 [eI 0, eR (7), eR (8), eR (9), eR (10), eR (11), eR (12), eR (13), eI 0, eI 0, eI 0, eI 0, eI 0, eI 0])) (h7 : w[7]? = some (cI 0 6 (fun _ => 0))) (h8 : w[8]? = some (cI 0 6 (fun _ => 0))) (h9 : w[9]? = some (cI 0 6 (fun _ => 0))) (h10 : w[10]? = some (cI 0 6 (fun _ => 0))) (h11 : w[11]? = some (cI 0 72 (fun _ => 0))) (h12 : w[12]? = some (cI 0 6 (fun _ => 0))) (h13 : w[13]? = some (cI 0 3 (fun _ => 0))) (h14 : w[14]? = some (cO 2 [eI 0, eR (15), eR (16), eR (17), eR (18), eR (19), eR (20), eR (21), eI 0, eI 0, eI 0, eI 0, eI 0, eI 0])) (h15 : w[15]? = some (cI 0 6 (fun _ => 0))) (h16 : w[16]? = some (cI 0 6 (fun _ => 0))) (h17 : w[17]? = some (cI 0 6 (fun _ => 0))) (h18 : w[18]? = some (cI 0 6 (fun _ => 0))) (h19 : w[19]? = some (cI 0 72 (fun _ => 0))) (h20 : w[20]? = some (cI 0 6 (fun _ => 0))) (h21 : w[21]? = some (cI 0 3 (fun _ => 0))) (h22 : w[22]? = some (cO 3 [eI 0, eR (23)])) (h23 : w[23]? = some (cI 0 200 (fun _ => 0))) (h24 : w[24]? = some (cO 3 [eI 0, eR (25)])) (h25 : w[25]? = some (cI 0 200 (fun _ => 0))) (h26 : w[26]? = some (cO 3 [eI 0, eR (27)])) (h27 : w[27]? = some (cI 0 200 (fun _ => 0))) (h28 : w[28]? = some (cO 3 [eI 0, eR (29)])) (h29 : w[29]? = some (cI 0 200 (fun _ => 0))) (h30 : w[30]? = some (cO 3 [eI 0, eR (31)])) (h31 : w[31]? = some (cI 0 200 (fun _ => 0))) (h32 : w[32]? = some (cO 3 [eI 0, eR (33)])) (h33 : w[33]? = some (cI 0 200 (fun _ => 0))) (h34 : w[34]? = some (cO 3 [eI 0, eR (35)])) (h35 : w[35]? = some (cI 0 200 (fun _ => 0))) (h36 : w[36]? = some (cO 3 [eI 0, eR (37)])) (h37 : w[37]? = some (cI 0 200 (fun _ => 0))) (h38 : w[38]? = some (cO 3 [eI 0, eR (39)])) (h39 : w[39]? = some (cI 0 200 (fun _ => 0))) (h40 : w[40]? = some (cO 3 [eI 0, eR (41)])) (h41 : w[41]? = some (cI 0 200 (fun _ => 0))) (h42 : w[42]? = some (cQ 4 3 (fun _ => none))) (h43 : w[43]? = some (cO 1 [eR (44), eR (52), eI 0, eI 0, eR (54), eR (55), eI 0, eI 0, eI 0, eI 0, eI 0, eI 0])) (h44 : w[44]? = some (cO 2 [eI 0, eR (45), eR (46), eR (47), eR (48), eR (49), eR (50), eR (51), eI 0, eI 0, eI 0, eI 0, eI 0, eI 0])) (h45 : w[45]? = some (cI 0 6 (fun _ => 0))) (h46 : w[46]? = some (cI 0 6 (fun _ => 0))) (h47 : w[47]? = some (cI 0 6 (fun _ => 0))) (h48 : w[48]? = some (cI 0 6 (fun _ => 0))) (h49 : w[49]? = some (cI 0 72 (fun _ => 0))) (h50 : w[50]? = some (cI 0 6 (fun _ => 0))) (h51 : w[51]? = some (cI 0 3 (fun _ => 0))) (h52 : w[52]? = some (cO 3 [eI 0, eR (53)])) (h53 : w[53]? = some (cI 0 200 (fun _ => 0))) (h54 : w[54]? = some (cI 0 600 (fun _ => 0))) (h55 : w[55]? = some (cI 0 5 (fun _ => 0))) (h56 : w[56]? = some (cO 0 [eR (57), eI 0, eI 0, eI 0, eR (58), eR (59), eI 0, eI 0, eI 0, eI 0, eI 0, eI 0, eI 0])) (h57 : w[57]? = some (cO 4 [eI 0, eI 0, eI 0])) (h58 : w[58]? = some (cI 0 6 (fun _ => 0))) (h59 : w[59]? = some (cI 0 3 (fun _ => 0))) (h60 : w[60]? = some (cO 4 [eI 0, eI 0, eI 0])) (h61 : w[61]? = some (cI 0 40 (fun _ => 0))) (h62 : w[62]? = some (cI 0 216 (fun _ => 0))) (h63 : w[63]? = some (cI 0 1000 (fun _ => 0))) (h64 : w[64]? = some (cO 7 [eR (65), eR (66), eI 0, eI 0, eI 0, eI 0, eI 0, eI 0, eI 0, eI 0, eR (67), eI 0, eI 0, eI 0, eI 0, eI 0, eI 0, eI 0, eI 0, eI 0, eI 0, eI 0, eI 0, eI 0, eI 0, eI 0, eI 0, eR (68), eR (69), eI 0, eI 0, eR (70), eR (71), eI 0, eI 0])) (h65 : w[65]? = some (cI 0 5768 (upd (fun _ => 0) 8 (-1)))) (h66 : w[66]? = some (cI 1 3 (fun _ => 0))) (h67 : w[67]? = some (cI 0 201 (fun _ => 0))) (h68 : w[68]? = some (cI 0 3 (fun _ => 0))) (h69 : w[69]? = some (cI 0 6 (fun _ => 0))) (h70 : w[70]? = some (cI 0 1791 (fun _ => 0))) (h71 : w[71]? = some (cI 1 1000 (fun _ => 0))) : WW p l e room_1 s m #[Value.ref b] below meth c (lw_Z below #[Value.ref b] s) G 4 0 0 599928 7288326 1598 [some (eK 2), some (eR 0), some (eR 64), some (eI 0)] [] w := by
  refine ww_aload_n K dL_law_1598 rfl ?_
  refine ww_aload_nK K dL_law_1599 rfl ?_
  refine ww_iload_n K dL_law_1600 rfl ?_
  refine ww_iconst (v := 1) K dL_law_1601 rfl ?_
  refine ww_iadd K dL_law_1602 ?_
  rw [show ((0 : Int32) + 1) = 1 from rfl]
  refine ww_ialdK K dL_law_1603 (by decide) (by rw [hL8]; exact wc_vin (by decide)) ?_
  refine ww_cV K dL_law_1604 lc_L_136 h0 ⟨_, rfl, rfl⟩ (ct_X6_again_0 G l (a := _) h0 h42) rfl ⟨Nat.le_of_ble_eq_true rfl, Nat.le_of_ble_eq_true rfl⟩ (Nat.le_of_ble_eq_true rfl) ?_
  refine ww_aload_n K dL_law_1607 rfl ?_
  refine ww_aload_nK K dL_law_1608 rfl ?_
  refine ww_iload_n K dL_law_1609 rfl ?_
  refine ww_iconst (v := 1) K dL_law_1610 rfl ?_
  refine ww_iadd K dL_law_1611 ?_
  rw [show ((0 : Int32) + 1) = 1 from rfl]
  refine ww_ialdK K dL_law_1612 (by decide) (by rw [hL8]; exact wc_vin (by decide)) ?_
  refine ww_cV K dL_law_1613 lc_L_139 h64 ⟨_, rfl, rfl⟩ (ct_X7_again_0 G l (a := _) h64 h65 h66) rfl ⟨Nat.le_of_ble_eq_true rfl, Nat.le_of_ble_eq_true rfl⟩ (Nat.le_of_ble_eq_true rfl) ?_
  refine ww_icmp_eq (tgt := 1621) K dL_law_1616 rfl (fun _ => ?_) (fun cc_ => absurd cc_ (by decide))
  exact wc_law_fin K hr hL8 _ _ _
set_option maxRecDepth 100000 in
set_option maxHeartbeats 8000000 in
theorem whole_start {p : Program} {e : Env} {s : State} {m : MethodId} {below : List Frame} {meth : Method} {c : Code} (l : Launch) (hflags : l.flags = flags0) {b L : Nat} {xs : Nat → Int32} (hL : L ≤ 8) (C0 : lw_At p s m meth c b L xs) : W p l e room_1 s m #[Value.ref b] below meth c s.heap [] 0 0 (lw_Z below #[Value.ref b] s) (entryFrame m ([Value.ref b] : List Value).toArray 4) := by
  obtain ⟨hx, hb, hr, hml, hown, hts, hX, hbl, hlocks, hgv⟩ := id C0
  obtain ⟨G, gz, ga, gl, gf, hE⟩ := wc_env hts hX hbl (by omega) hgv
  have K : wc_C p s m #[Value.ref b] meth c G RL cL_law 4 0 := ⟨hx, hb, hml, hown, fun w hw => hts w (wc_Bt w hw), hE, by rw [gz]; rfl, hlocks⟩
  rw [lg_entry_eq]
  have hP0 : va_P (gD G) vwCl (wc_l G []) s.heap := fun k q h => by simp [wc_l] at h
  have hv : ([eK 2] : List EV).map (wc_v G) = [Value.ref b] := by simp [wc_v, ga]
  suffices H : WW p l e room_1 s m #[Value.ref b] below meth c (lw_Z below #[Value.ref b] s) G 4 0 0 600000 7302249 0 (wc_in 4 [eK 2]) [] [] from by
    have h9 := H s.heap [] _ (Nat.zero_le _) (Nat.zero_le _) rfl rfl hP0 va_S.rf (wc_entry [eK 2] (Nat.le_of_ble_eq_true rfl))
    rw [hv] at h9
    exact h9
  refine WW_ls (ls2 := [some (eK 2), none, none, none]) rfl ?_
  refine ww_new (rc := 599999) (rs := 7302241) K dL_law_0 ln_L_7 ?_
  refine ww_dup K dL_law_3 trivial ?_
  refine ww_callI (rc := 599936) (rs := 7297133) K dL_law_4 lc_L_9 (ct_X6_init G l (w0 := []) (n := 0) rfl) rfl ⟨Nat.le_of_ble_eq_true rfl, Nat.le_of_ble_eq_true rfl⟩ (Nat.le_of_ble_eq_true rfl) (fun r w2 hq _ _ => ?_)
  obtain ⟨rfl, rfl⟩ := hq
  refine WW_all (ls2 := [some (eK 2), none, none, none]) (st2 := [eR 0]) (w2 := [cO 6 [eR (1), eR (42), eR (43), eR (56), eR (60), eR (61), eR (62), eR (63)], cO 5 [eR (2), eI 0, eI 0, eI ((-1)), eR (3), eR (4), eR (5)], cI 0 600 (fun _ => 0), cI 0 6 (fun _ => 0), cQ 2 2 (va_up (va_up (fun _ => none) 0 (some 6)) 1 (some 14)), cQ 3 10 (va_up (va_up (va_up (va_up (va_up (va_up (va_up (va_up (va_up (va_up (fun _ => none) 0 (some 22)) 1 (some 24)) 2 (some 26)) 3 (some 28)) 4 (some 30)) 5 (some 32)) 6 (some 34)) 7 (some 36)) 8 (some 38)) 9 (some 40)), cO 2 [eI 0, eR (7), eR (8), eR (9), eR (10), eR (11), eR (12), eR (13), eI 0, eI 0, eI 0, eI 0, eI 0, eI 0], cI 0 6 (fun _ => 0), cI 0 6 (fun _ => 0), cI 0 6 (fun _ => 0), cI 0 6 (fun _ => 0), cI 0 72 (fun _ => 0), cI 0 6 (fun _ => 0), cI 0 3 (fun _ => 0), cO 2 [eI 0, eR (15), eR (16), eR (17), eR (18), eR (19), eR (20), eR (21), eI 0, eI 0, eI 0, eI 0, eI 0, eI 0], cI 0 6 (fun _ => 0), cI 0 6 (fun _ => 0), cI 0 6 (fun _ => 0), cI 0 6 (fun _ => 0), cI 0 72 (fun _ => 0), cI 0 6 (fun _ => 0), cI 0 3 (fun _ => 0), cO 3 [eI 0, eR (23)], cI 0 200 (fun _ => 0), cO 3 [eI 0, eR (25)], cI 0 200 (fun _ => 0), cO 3 [eI 0, eR (27)], cI 0 200 (fun _ => 0), cO 3 [eI 0, eR (29)], cI 0 200 (fun _ => 0), cO 3 [eI 0, eR (31)], cI 0 200 (fun _ => 0), cO 3 [eI 0, eR (33)], cI 0 200 (fun _ => 0), cO 3 [eI 0, eR (35)], cI 0 200 (fun _ => 0), cO 3 [eI 0, eR (37)], cI 0 200 (fun _ => 0), cO 3 [eI 0, eR (39)], cI 0 200 (fun _ => 0), cO 3 [eI 0, eR (41)], cI 0 200 (fun _ => 0), cQ 4 3 (fun _ => none), cO 1 [eR (44), eR (52), eI 0, eI 0, eR (54), eR (55), eI 0, eI 0, eI 0, eI 0, eI 0, eI 0], cO 2 [eI 0, eR (45), eR (46), eR (47), eR (48), eR (49), eR (50), eR (51), eI 0, eI 0, eI 0, eI 0, eI 0, eI 0], cI 0 6 (fun _ => 0), cI 0 6 (fun _ => 0), cI 0 6 (fun _ => 0), cI 0 6 (fun _ => 0), cI 0 72 (fun _ => 0), cI 0 6 (fun _ => 0), cI 0 3 (fun _ => 0), cO 3 [eI 0, eR (53)], cI 0 200 (fun _ => 0), cI 0 600 (fun _ => 0), cI 0 5 (fun _ => 0), cO 0 [eR (57), eI 0, eI 0, eI 0, eR (58), eR (59), eI 0, eI 0, eI 0, eI 0, eI 0, eI 0, eI 0], cO 4 [eI 0, eI 0, eI 0], cI 0 6 (fun _ => 0), cI 0 3 (fun _ => 0), cO 4 [eI 0, eI 0, eI 0], cI 0 40 (fun _ => 0), cI 0 216 (fun _ => 0), cI 0 1000 (fun _ => 0)]) rfl rfl rfl ?_
  refine ww_astore_n (ls2 := [some (eK 2), some (eR 0), none, none]) K dL_law_7 (by decide) rfl ?_
  refine ww_new (rc := 599935) (rs := 7297098) K dL_law_8 ln_L_10 ?_
  refine ww_dup K dL_law_11 trivial ?_
  refine ww_callI (rc := 599928) (rs := 7288326) K dL_law_12 lc_L_12 (ct_X7_init G l (w0 := [cO 6 [eR (1), eR (42), eR (43), eR (56), eR (60), eR (61), eR (62), eR (63)], cO 5 [eR (2), eI 0, eI 0, eI ((-1)), eR (3), eR (4), eR (5)], cI 0 600 (fun _ => 0), cI 0 6 (fun _ => 0), cQ 2 2 (va_up (va_up (fun _ => none) 0 (some 6)) 1 (some 14)), cQ 3 10 (va_up (va_up (va_up (va_up (va_up (va_up (va_up (va_up (va_up (va_up (fun _ => none) 0 (some 22)) 1 (some 24)) 2 (some 26)) 3 (some 28)) 4 (some 30)) 5 (some 32)) 6 (some 34)) 7 (some 36)) 8 (some 38)) 9 (some 40)), cO 2 [eI 0, eR (7), eR (8), eR (9), eR (10), eR (11), eR (12), eR (13), eI 0, eI 0, eI 0, eI 0, eI 0, eI 0], cI 0 6 (fun _ => 0), cI 0 6 (fun _ => 0), cI 0 6 (fun _ => 0), cI 0 6 (fun _ => 0), cI 0 72 (fun _ => 0), cI 0 6 (fun _ => 0), cI 0 3 (fun _ => 0), cO 2 [eI 0, eR (15), eR (16), eR (17), eR (18), eR (19), eR (20), eR (21), eI 0, eI 0, eI 0, eI 0, eI 0, eI 0], cI 0 6 (fun _ => 0), cI 0 6 (fun _ => 0), cI 0 6 (fun _ => 0), cI 0 6 (fun _ => 0), cI 0 72 (fun _ => 0), cI 0 6 (fun _ => 0), cI 0 3 (fun _ => 0), cO 3 [eI 0, eR (23)], cI 0 200 (fun _ => 0), cO 3 [eI 0, eR (25)], cI 0 200 (fun _ => 0), cO 3 [eI 0, eR (27)], cI 0 200 (fun _ => 0), cO 3 [eI 0, eR (29)], cI 0 200 (fun _ => 0), cO 3 [eI 0, eR (31)], cI 0 200 (fun _ => 0), cO 3 [eI 0, eR (33)], cI 0 200 (fun _ => 0), cO 3 [eI 0, eR (35)], cI 0 200 (fun _ => 0), cO 3 [eI 0, eR (37)], cI 0 200 (fun _ => 0), cO 3 [eI 0, eR (39)], cI 0 200 (fun _ => 0), cO 3 [eI 0, eR (41)], cI 0 200 (fun _ => 0), cQ 4 3 (fun _ => none), cO 1 [eR (44), eR (52), eI 0, eI 0, eR (54), eR (55), eI 0, eI 0, eI 0, eI 0, eI 0, eI 0], cO 2 [eI 0, eR (45), eR (46), eR (47), eR (48), eR (49), eR (50), eR (51), eI 0, eI 0, eI 0, eI 0, eI 0, eI 0], cI 0 6 (fun _ => 0), cI 0 6 (fun _ => 0), cI 0 6 (fun _ => 0), cI 0 6 (fun _ => 0), cI 0 72 (fun _ => 0), cI 0 6 (fun _ => 0), cI 0 3 (fun _ => 0), cO 3 [eI 0, eR (53)], cI 0 200 (fun _ => 0), cI 0 600 (fun _ => 0), cI 0 5 (fun _ => 0), cO 0 [eR (57), eI 0, eI 0, eI 0, eR (58), eR (59), eI 0, eI 0, eI 0, eI 0, eI 0, eI 0, eI 0], cO 4 [eI 0, eI 0, eI 0], cI 0 6 (fun _ => 0), cI 0 3 (fun _ => 0), cO 4 [eI 0, eI 0, eI 0], cI 0 40 (fun _ => 0), cI 0 216 (fun _ => 0), cI 0 1000 (fun _ => 0)]) (n := 64) rfl) rfl ⟨Nat.le_of_ble_eq_true rfl, Nat.le_of_ble_eq_true rfl⟩ (Nat.le_of_ble_eq_true rfl) (fun r w2 hq _ _ => ?_)
  obtain ⟨rfl, rfl⟩ := hq
  refine WW_all (ls2 := [some (eK 2), some (eR 0), none, none]) (st2 := [eR 64]) (w2 := [cO 6 [eR (1), eR (42), eR (43), eR (56), eR (60), eR (61), eR (62), eR (63)], cO 5 [eR (2), eI 0, eI 0, eI ((-1)), eR (3), eR (4), eR (5)], cI 0 600 (fun _ => 0), cI 0 6 (fun _ => 0), cQ 2 2 (va_up (va_up (fun _ => none) 0 (some 6)) 1 (some 14)), cQ 3 10 (va_up (va_up (va_up (va_up (va_up (va_up (va_up (va_up (va_up (va_up (fun _ => none) 0 (some 22)) 1 (some 24)) 2 (some 26)) 3 (some 28)) 4 (some 30)) 5 (some 32)) 6 (some 34)) 7 (some 36)) 8 (some 38)) 9 (some 40)), cO 2 [eI 0, eR (7), eR (8), eR (9), eR (10), eR (11), eR (12), eR (13), eI 0, eI 0, eI 0, eI 0, eI 0, eI 0], cI 0 6 (fun _ => 0), cI 0 6 (fun _ => 0), cI 0 6 (fun _ => 0), cI 0 6 (fun _ => 0), cI 0 72 (fun _ => 0), cI 0 6 (fun _ => 0), cI 0 3 (fun _ => 0), cO 2 [eI 0, eR (15), eR (16), eR (17), eR (18), eR (19), eR (20), eR (21), eI 0, eI 0, eI 0, eI 0, eI 0, eI 0], cI 0 6 (fun _ => 0), cI 0 6 (fun _ => 0), cI 0 6 (fun _ => 0), cI 0 6 (fun _ => 0), cI 0 72 (fun _ => 0), cI 0 6 (fun _ => 0), cI 0 3 (fun _ => 0), cO 3 [eI 0, eR (23)], cI 0 200 (fun _ => 0), cO 3 [eI 0, eR (25)], cI 0 200 (fun _ => 0), cO 3 [eI 0, eR (27)], cI 0 200 (fun _ => 0), cO 3 [eI 0, eR (29)], cI 0 200 (fun _ => 0), cO 3 [eI 0, eR (31)], cI 0 200 (fun _ => 0), cO 3 [eI 0, eR (33)], cI 0 200 (fun _ => 0), cO 3 [eI 0, eR (35)], cI 0 200 (fun _ => 0), cO 3 [eI 0, eR (37)], cI 0 200 (fun _ => 0), cO 3 [eI 0, eR (39)], cI 0 200 (fun _ => 0), cO 3 [eI 0, eR (41)], cI 0 200 (fun _ => 0), cQ 4 3 (fun _ => none), cO 1 [eR (44), eR (52), eI 0, eI 0, eR (54), eR (55), eI 0, eI 0, eI 0, eI 0, eI 0, eI 0], cO 2 [eI 0, eR (45), eR (46), eR (47), eR (48), eR (49), eR (50), eR (51), eI 0, eI 0, eI 0, eI 0, eI 0, eI 0], cI 0 6 (fun _ => 0), cI 0 6 (fun _ => 0), cI 0 6 (fun _ => 0), cI 0 6 (fun _ => 0), cI 0 72 (fun _ => 0), cI 0 6 (fun _ => 0), cI 0 3 (fun _ => 0), cO 3 [eI 0, eR (53)], cI 0 200 (fun _ => 0), cI 0 600 (fun _ => 0), cI 0 5 (fun _ => 0), cO 0 [eR (57), eI 0, eI 0, eI 0, eR (58), eR (59), eI 0, eI 0, eI 0, eI 0, eI 0, eI 0, eI 0], cO 4 [eI 0, eI 0, eI 0], cI 0 6 (fun _ => 0), cI 0 3 (fun _ => 0), cO 4 [eI 0, eI 0, eI 0], cI 0 40 (fun _ => 0), cI 0 216 (fun _ => 0), cI 0 1000 (fun _ => 0)] ++ [cO 7 [eR (65), eR (66), eI 0, eI 0, eI 0, eI 0, eI 0, eI 0, eI 0, eI 0, eR (67), eI 0, eI 0, eI 0, eI 0, eI 0, eI 0, eI 0, eI 0, eI 0, eI 0, eI 0, eI 0, eI 0, eI 0, eI 0, eI 0, eR (68), eR (69), eI 0, eI 0, eR (70), eR (71), eI 0, eI 0], cI 0 5768 (upd (fun _ => 0) 8 (-1)), cI 1 3 (fun _ => 0), cI 0 201 (fun _ => 0), cI 0 3 (fun _ => 0), cI 0 6 (fun _ => 0), cI 0 1791 (fun _ => 0), cI 1 1000 (fun _ => 0)]) rfl rfl rfl ?_
  refine ww_astore_n (ls2 := [some (eK 2), some (eR 0), some (eR 64), none]) K dL_law_15 (by decide) rfl ?_
  obtain ⟨w, hw⟩ : ∃ z, z = ([cO 6 [eR (1), eR (42), eR (43), eR (56), eR (60), eR (61), eR (62), eR (63)], cO 5 [eR (2), eI 0, eI 0, eI ((-1)), eR (3), eR (4), eR (5)], cI 0 600 (fun _ => 0), cI 0 6 (fun _ => 0), cQ 2 2 (va_up (va_up (fun _ => none) 0 (some 6)) 1 (some 14)), cQ 3 10 (va_up (va_up (va_up (va_up (va_up (va_up (va_up (va_up (va_up (va_up (fun _ => none) 0 (some 22)) 1 (some 24)) 2 (some 26)) 3 (some 28)) 4 (some 30)) 5 (some 32)) 6 (some 34)) 7 (some 36)) 8 (some 38)) 9 (some 40)), cO 2 [eI 0, eR (7), eR (8), eR (9), eR (10), eR (11), eR (12), eR (13), eI 0, eI 0, eI 0, eI 0, eI 0, eI 0], cI 0 6 (fun _ => 0), cI 0 6 (fun _ => 0), cI 0 6 (fun _ => 0), cI 0 6 (fun _ => 0), cI 0 72 (fun _ => 0), cI 0 6 (fun _ => 0), cI 0 3 (fun _ => 0), cO 2 [eI 0, eR (15), eR (16), eR (17), eR (18), eR (19), eR (20), eR (21), eI 0, eI 0, eI 0, eI 0, eI 0, eI 0], cI 0 6 (fun _ => 0), cI 0 6 (fun _ => 0), cI 0 6 (fun _ => 0), cI 0 6 (fun _ => 0), cI 0 72 (fun _ => 0), cI 0 6 (fun _ => 0), cI 0 3 (fun _ => 0), cO 3 [eI 0, eR (23)], cI 0 200 (fun _ => 0), cO 3 [eI 0, eR (25)], cI 0 200 (fun _ => 0), cO 3 [eI 0, eR (27)], cI 0 200 (fun _ => 0), cO 3 [eI 0, eR (29)], cI 0 200 (fun _ => 0), cO 3 [eI 0, eR (31)], cI 0 200 (fun _ => 0), cO 3 [eI 0, eR (33)], cI 0 200 (fun _ => 0), cO 3 [eI 0, eR (35)], cI 0 200 (fun _ => 0), cO 3 [eI 0, eR (37)], cI 0 200 (fun _ => 0), cO 3 [eI 0, eR (39)], cI 0 200 (fun _ => 0), cO 3 [eI 0, eR (41)], cI 0 200 (fun _ => 0), cQ 4 3 (fun _ => none), cO 1 [eR (44), eR (52), eI 0, eI 0, eR (54), eR (55), eI 0, eI 0, eI 0, eI 0, eI 0, eI 0], cO 2 [eI 0, eR (45), eR (46), eR (47), eR (48), eR (49), eR (50), eR (51), eI 0, eI 0, eI 0, eI 0, eI 0, eI 0], cI 0 6 (fun _ => 0), cI 0 6 (fun _ => 0), cI 0 6 (fun _ => 0), cI 0 6 (fun _ => 0), cI 0 72 (fun _ => 0), cI 0 6 (fun _ => 0), cI 0 3 (fun _ => 0), cO 3 [eI 0, eR (53)], cI 0 200 (fun _ => 0), cI 0 600 (fun _ => 0), cI 0 5 (fun _ => 0), cO 0 [eR (57), eI 0, eI 0, eI 0, eR (58), eR (59), eI 0, eI 0, eI 0, eI 0, eI 0, eI 0, eI 0], cO 4 [eI 0, eI 0, eI 0], cI 0 6 (fun _ => 0), cI 0 3 (fun _ => 0), cO 4 [eI 0, eI 0, eI 0], cI 0 40 (fun _ => 0), cI 0 216 (fun _ => 0), cI 0 1000 (fun _ => 0)] : EW) ++ [cO 7 [eR (65), eR (66), eI 0, eI 0, eI 0, eI 0, eI 0, eI 0, eI 0, eI 0, eR (67), eI 0, eI 0, eI 0, eI 0, eI 0, eI 0, eI 0, eI 0, eI 0, eI 0, eI 0, eI 0, eI 0, eI 0, eI 0, eI 0, eR (68), eR (69), eI 0, eI 0, eR (70), eR (71), eI 0, eI 0], cI 0 5768 (upd (fun _ => 0) 8 (-1)), cI 1 3 (fun _ => 0), cI 0 201 (fun _ => 0), cI 0 3 (fun _ => 0), cI 0 6 (fun _ => 0), cI 0 1791 (fun _ => 0), cI 1 1000 (fun _ => 0)] := ⟨_, rfl⟩
  rw [← hw]
  have hlen : w.length = 72 := by rw [hw]; rfl
  have h0 : w[0]? = some (cO 6 [eR (1), eR (42), eR (43), eR (56), eR (60), eR (61), eR (62), eR (63)]) := by rw [hw]; rfl
  have h1 : w[1]? = some (cO 5 [eR (2), eI 0, eI 0, eI ((-1)), eR (3), eR (4), eR (5)]) := by rw [hw]; rfl
  have h2 : w[2]? = some (cI 0 600 (fun _ => 0)) := by rw [hw]; rfl
  have h3 : w[3]? = some (cI 0 6 (fun _ => 0)) := by rw [hw]; rfl
  have h4 : w[4]? = some (cQ 2 2 (va_up (va_up (fun _ => none) 0 (some 6)) 1 (some 14))) := by rw [hw]; rfl
  have h5 : w[5]? = some (cQ 3 10 (va_up (va_up (va_up (va_up (va_up (va_up (va_up (va_up (va_up (va_up (fun _ => none) 0 (some 22)) 1 (some 24)) 2 (some 26)) 3 (some 28)) 4 (some 30)) 5 (some 32)) 6 (some 34)) 7 (some 36)) 8 (some 38)) 9 (some 40))) := by rw [hw]; rfl
  have h6 : w[6]? = some (cO 2 [eI 0, eR (7), eR (8), eR (9), eR (10), eR (11), eR (12), eR (13), eI 0, eI 0, eI 0, eI 0, eI 0, eI 0]) := by rw [hw]; rfl
  have h7 : w[7]? = some (cI 0 6 (fun _ => 0)) := by rw [hw]; rfl
  have h8 : w[8]? = some (cI 0 6 (fun _ => 0)) := by rw [hw]; rfl
  have h9 : w[9]? = some (cI 0 6 (fun _ => 0)) := by rw [hw]; rfl
  have h10 : w[10]? = some (cI 0 6 (fun _ => 0)) := by rw [hw]; rfl
  have h11 : w[11]? = some (cI 0 72 (fun _ => 0)) := by rw [hw]; rfl
  have h12 : w[12]? = some (cI 0 6 (fun _ => 0)) := by rw [hw]; rfl
  have h13 : w[13]? = some (cI 0 3 (fun _ => 0)) := by rw [hw]; rfl
  have h14 : w[14]? = some (cO 2 [eI 0, eR (15), eR (16), eR (17), eR (18), eR (19), eR (20), eR (21), eI 0, eI 0, eI 0, eI 0, eI 0, eI 0]) := by rw [hw]; rfl
  have h15 : w[15]? = some (cI 0 6 (fun _ => 0)) := by rw [hw]; rfl
  have h16 : w[16]? = some (cI 0 6 (fun _ => 0)) := by rw [hw]; rfl
  have h17 : w[17]? = some (cI 0 6 (fun _ => 0)) := by rw [hw]; rfl
  have h18 : w[18]? = some (cI 0 6 (fun _ => 0)) := by rw [hw]; rfl
  have h19 : w[19]? = some (cI 0 72 (fun _ => 0)) := by rw [hw]; rfl
  have h20 : w[20]? = some (cI 0 6 (fun _ => 0)) := by rw [hw]; rfl
  have h21 : w[21]? = some (cI 0 3 (fun _ => 0)) := by rw [hw]; rfl
  have h22 : w[22]? = some (cO 3 [eI 0, eR (23)]) := by rw [hw]; rfl
  have h23 : w[23]? = some (cI 0 200 (fun _ => 0)) := by rw [hw]; rfl
  have h24 : w[24]? = some (cO 3 [eI 0, eR (25)]) := by rw [hw]; rfl
  have h25 : w[25]? = some (cI 0 200 (fun _ => 0)) := by rw [hw]; rfl
  have h26 : w[26]? = some (cO 3 [eI 0, eR (27)]) := by rw [hw]; rfl
  have h27 : w[27]? = some (cI 0 200 (fun _ => 0)) := by rw [hw]; rfl
  have h28 : w[28]? = some (cO 3 [eI 0, eR (29)]) := by rw [hw]; rfl
  have h29 : w[29]? = some (cI 0 200 (fun _ => 0)) := by rw [hw]; rfl
  have h30 : w[30]? = some (cO 3 [eI 0, eR (31)]) := by rw [hw]; rfl
  have h31 : w[31]? = some (cI 0 200 (fun _ => 0)) := by rw [hw]; rfl
  have h32 : w[32]? = some (cO 3 [eI 0, eR (33)]) := by rw [hw]; rfl
  have h33 : w[33]? = some (cI 0 200 (fun _ => 0)) := by rw [hw]; rfl
  have h34 : w[34]? = some (cO 3 [eI 0, eR (35)]) := by rw [hw]; rfl
  have h35 : w[35]? = some (cI 0 200 (fun _ => 0)) := by rw [hw]; rfl
  have h36 : w[36]? = some (cO 3 [eI 0, eR (37)]) := by rw [hw]; rfl
  have h37 : w[37]? = some (cI 0 200 (fun _ => 0)) := by rw [hw]; rfl
  have h38 : w[38]? = some (cO 3 [eI 0, eR (39)]) := by rw [hw]; rfl
  have h39 : w[39]? = some (cI 0 200 (fun _ => 0)) := by rw [hw]; rfl
  have h40 : w[40]? = some (cO 3 [eI 0, eR (41)]) := by rw [hw]; rfl
  have h41 : w[41]? = some (cI 0 200 (fun _ => 0)) := by rw [hw]; rfl
  have h42 : w[42]? = some (cQ 4 3 (fun _ => none)) := by rw [hw]; rfl
  have h43 : w[43]? = some (cO 1 [eR (44), eR (52), eI 0, eI 0, eR (54), eR (55), eI 0, eI 0, eI 0, eI 0, eI 0, eI 0]) := by rw [hw]; rfl
  have h44 : w[44]? = some (cO 2 [eI 0, eR (45), eR (46), eR (47), eR (48), eR (49), eR (50), eR (51), eI 0, eI 0, eI 0, eI 0, eI 0, eI 0]) := by rw [hw]; rfl
  have h45 : w[45]? = some (cI 0 6 (fun _ => 0)) := by rw [hw]; rfl
  have h46 : w[46]? = some (cI 0 6 (fun _ => 0)) := by rw [hw]; rfl
  have h47 : w[47]? = some (cI 0 6 (fun _ => 0)) := by rw [hw]; rfl
  have h48 : w[48]? = some (cI 0 6 (fun _ => 0)) := by rw [hw]; rfl
  have h49 : w[49]? = some (cI 0 72 (fun _ => 0)) := by rw [hw]; rfl
  have h50 : w[50]? = some (cI 0 6 (fun _ => 0)) := by rw [hw]; rfl
  have h51 : w[51]? = some (cI 0 3 (fun _ => 0)) := by rw [hw]; rfl
  have h52 : w[52]? = some (cO 3 [eI 0, eR (53)]) := by rw [hw]; rfl
  have h53 : w[53]? = some (cI 0 200 (fun _ => 0)) := by rw [hw]; rfl
  have h54 : w[54]? = some (cI 0 600 (fun _ => 0)) := by rw [hw]; rfl
  have h55 : w[55]? = some (cI 0 5 (fun _ => 0)) := by rw [hw]; rfl
  have h56 : w[56]? = some (cO 0 [eR (57), eI 0, eI 0, eI 0, eR (58), eR (59), eI 0, eI 0, eI 0, eI 0, eI 0, eI 0, eI 0]) := by rw [hw]; rfl
  have h57 : w[57]? = some (cO 4 [eI 0, eI 0, eI 0]) := by rw [hw]; rfl
  have h58 : w[58]? = some (cI 0 6 (fun _ => 0)) := by rw [hw]; rfl
  have h59 : w[59]? = some (cI 0 3 (fun _ => 0)) := by rw [hw]; rfl
  have h60 : w[60]? = some (cO 4 [eI 0, eI 0, eI 0]) := by rw [hw]; rfl
  have h61 : w[61]? = some (cI 0 40 (fun _ => 0)) := by rw [hw]; rfl
  have h62 : w[62]? = some (cI 0 216 (fun _ => 0)) := by rw [hw]; rfl
  have h63 : w[63]? = some (cI 0 1000 (fun _ => 0)) := by rw [hw]; rfl
  have h64 : w[64]? = some (cO 7 [eR (65), eR (66), eI 0, eI 0, eI 0, eI 0, eI 0, eI 0, eI 0, eI 0, eR (67), eI 0, eI 0, eI 0, eI 0, eI 0, eI 0, eI 0, eI 0, eI 0, eI 0, eI 0, eI 0, eI 0, eI 0, eI 0, eI 0, eR (68), eR (69), eI 0, eI 0, eR (70), eR (71), eI 0, eI 0]) := by rw [hw]; rfl
  have h65 : w[65]? = some (cI 0 5768 (upd (fun _ => 0) 8 (-1))) := by rw [hw]; rfl
  have h66 : w[66]? = some (cI 1 3 (fun _ => 0)) := by rw [hw]; rfl
  have h67 : w[67]? = some (cI 0 201 (fun _ => 0)) := by rw [hw]; rfl
  have h68 : w[68]? = some (cI 0 3 (fun _ => 0)) := by rw [hw]; rfl
  have h69 : w[69]? = some (cI 0 6 (fun _ => 0)) := by rw [hw]; rfl
  have h70 : w[70]? = some (cI 0 1791 (fun _ => 0)) := by rw [hw]; rfl
  have h71 : w[71]? = some (cI 1 1000 (fun _ => 0)) := by rw [hw]; rfl
  refine ww_iconst (v := 0) K dL_law_16 rfl ?_
  refine ww_istore_n (ls2 := [some (eK 2), some (eR 0), some (eR 64), some (eI 0)]) K dL_law_17 (by decide) rfl ?_
  refine ww_iload_n K dL_law_18 rfl ?_
  refine ww_aload_nK K dL_law_19 rfl ?_
  refine ww_alenK K dL_law_20 (by decide) ?_
  refine ww_bipush (v := 8) K dL_law_21 rfl ?_
  refine ww_isub K dL_law_23 ?_
  rw [gl]
  by_cases h8 : L = 8
  · subst h8
    refine ww_icmp_gt (tgt := 1627) K dL_law_24 rfl (fun q => absurd q (by decide)) (fun _ => ?_)
    refine ww_aload_nK K dL_law_27 rfl ?_
    refine ww_iload_n K dL_law_28 rfl ?_
    refine ww_ialdK K dL_law_29 (by decide) (by rw [gl]; exact wc_vin (by decide)) ?_
    refine ww_bipush (v := 31) K dL_law_30 rfl ?_
    refine ww_iand K dL_law_32 ?_
    obtain ⟨k, hk, ek⟩ := pk_andE (gF G 2 (0 : Int32).toNatClampNeg) (m := 31) 5 (by decide)
    rw [ek]
    rcases (by omega : k = 0 ∨ k = 1 ∨ k = 2 ∨ k = 3 ∨ k = 4 ∨ k = 5 ∨ k = 6 ∨ k = 7 ∨ k = 8 ∨ k = 9 ∨ k = 10 ∨ k = 11 ∨ k = 12 ∨ k = 13 ∨ k = 14 ∨ k = 15 ∨ k = 16 ∨ k = 17 ∨ k = 18 ∨ k = 19 ∨ k = 20 ∨ k = 21 ∨ k = 22 ∨ k = 23 ∨ k = 24 ∨ k = 25 ∨ k = 26 ∨ k = 27 ∨ k = 28 ∨ k = 29 ∨ k = 30 ∨ k = 31) with rfl | rfl | rfl | rfl | rfl | rfl | rfl | rfl | rfl | rfl | rfl | rfl | rfl | rfl | rfl | rfl | rfl | rfl | rfl | rfl | rfl | rfl | rfl | rfl | rfl | rfl | rfl | rfl | rfl | rfl | rfl | rfl
    · refine ww_tableIn (off := 131) (tgt := 164) K dL_law_33 (by decide) (by decide) rfl rfl ?_
      exact wc_law_feed K hr gl hlen h0 h1 h2 h3 h4 h5 h6 h7 h8 h9 h10 h11 h12 h13 h14 h15 h16 h17 h18 h19 h20 h21 h22 h23 h24 h25 h26 h27 h28 h29 h30 h31 h32 h33 h34 h35 h36 h37 h38 h39 h40 h41 h42 h43 h44 h45 h46 h47 h48 h49 h50 h51 h52 h53 h54 h55 h56 h57 h58 h59 h60 h61 h62 h63 h64 h65 h66 h67 h68 h69 h70 h71
    · refine ww_tableIn (off := 194) (tgt := 227) K dL_law_33 (by decide) (by decide) rfl rfl ?_
      exact wc_law_end K hr gl hlen h0 h1 h2 h3 h4 h5 h6 h7 h8 h9 h10 h11 h12 h13 h14 h15 h16 h17 h18 h19 h20 h21 h22 h23 h24 h25 h26 h27 h28 h29 h30 h31 h32 h33 h34 h35 h36 h37 h38 h39 h40 h41 h42 h43 h44 h45 h46 h47 h48 h49 h50 h51 h52 h53 h54 h55 h56 h57 h58 h59 h60 h61 h62 h63 h64 h65 h66 h67 h68 h69 h70 h71
    · refine ww_tableIn (off := 217) (tgt := 250) K dL_law_33 (by decide) (by decide) rfl rfl ?_
      exact wc_law_text K hr gl hlen h0 h1 h2 h3 h4 h5 h6 h7 h8 h9 h10 h11 h12 h13 h14 h15 h16 h17 h18 h19 h20 h21 h22 h23 h24 h25 h26 h27 h28 h29 h30 h31 h32 h33 h34 h35 h36 h37 h38 h39 h40 h41 h42 h43 h44 h45 h46 h47 h48 h49 h50 h51 h52 h53 h54 h55 h56 h57 h58 h59 h60 h61 h62 h63 h64 h65 h66 h67 h68 h69 h70 h71
    · refine ww_tableIn (off := 250) (tgt := 283) K dL_law_33 (by decide) (by decide) rfl rfl ?_
      exact wc_law_fault K hr gl hlen h0 h1 h2 h3 h4 h5 h6 h7 h8 h9 h10 h11 h12 h13 h14 h15 h16 h17 h18 h19 h20 h21 h22 h23 h24 h25 h26 h27 h28 h29 h30 h31 h32 h33 h34 h35 h36 h37 h38 h39 h40 h41 h42 h43 h44 h45 h46 h47 h48 h49 h50 h51 h52 h53 h54 h55 h56 h57 h58 h59 h60 h61 h62 h63 h64 h65 h66 h67 h68 h69 h70 h71
    · refine ww_tableIn (off := 273) (tgt := 306) K dL_law_33 (by decide) (by decide) rfl rfl ?_
      exact wc_law_republic K hr gl hlen h0 h1 h2 h3 h4 h5 h6 h7 h8 h9 h10 h11 h12 h13 h14 h15 h16 h17 h18 h19 h20 h21 h22 h23 h24 h25 h26 h27 h28 h29 h30 h31 h32 h33 h34 h35 h36 h37 h38 h39 h40 h41 h42 h43 h44 h45 h46 h47 h48 h49 h50 h51 h52 h53 h54 h55 h56 h57 h58 h59 h60 h61 h62 h63 h64 h65 h66 h67 h68 h69 h70 h71
    · refine ww_tableIn (off := 306) (tgt := 339) K dL_law_33 (by decide) (by decide) rfl rfl ?_
      exact wc_law_minister K hr gl hlen h0 h1 h2 h3 h4 h5 h6 h7 h8 h9 h10 h11 h12 h13 h14 h15 h16 h17 h18 h19 h20 h21 h22 h23 h24 h25 h26 h27 h28 h29 h30 h31 h32 h33 h34 h35 h36 h37 h38 h39 h40 h41 h42 h43 h44 h45 h46 h47 h48 h49 h50 h51 h52 h53 h54 h55 h56 h57 h58 h59 h60 h61 h62 h63 h64 h65 h66 h67 h68 h69 h70 h71
    · refine ww_tableIn (off := 349) (tgt := 382) K dL_law_33 (by decide) (by decide) rfl rfl ?_
      exact wc_law_off K hr gl hlen h0 h1 h2 h3 h4 h5 h6 h7 h8 h9 h10 h11 h12 h13 h14 h15 h16 h17 h18 h19 h20 h21 h22 h23 h24 h25 h26 h27 h28 h29 h30 h31 h32 h33 h34 h35 h36 h37 h38 h39 h40 h41 h42 h43 h44 h45 h46 h47 h48 h49 h50 h51 h52 h53 h54 h55 h56 h57 h58 h59 h60 h61 h62 h63 h64 h65 h66 h67 h68 h69 h70 h71
    · refine ww_tableIn (off := 424) (tgt := 457) K dL_law_33 (by decide) (by decide) rfl rfl ?_
      exact wc_law_vote K hr gl hlen h0 h1 h2 h3 h4 h5 h6 h7 h8 h9 h10 h11 h12 h13 h14 h15 h16 h17 h18 h19 h20 h21 h22 h23 h24 h25 h26 h27 h28 h29 h30 h31 h32 h33 h34 h35 h36 h37 h38 h39 h40 h41 h42 h43 h44 h45 h46 h47 h48 h49 h50 h51 h52 h53 h54 h55 h56 h57 h58 h59 h60 h61 h62 h63 h64 h65 h66 h67 h68 h69 h70 h71
    · refine ww_tableIn (off := 527) (tgt := 560) K dL_law_33 (by decide) (by decide) rfl rfl ?_
      exact wc_law_order K hr gl hlen h0 h1 h2 h3 h4 h5 h6 h7 h8 h9 h10 h11 h12 h13 h14 h15 h16 h17 h18 h19 h20 h21 h22 h23 h24 h25 h26 h27 h28 h29 h30 h31 h32 h33 h34 h35 h36 h37 h38 h39 h40 h41 h42 h43 h44 h45 h46 h47 h48 h49 h50 h51 h52 h53 h54 h55 h56 h57 h58 h59 h60 h61 h62 h63 h64 h65 h66 h67 h68 h69 h70 h71
    · refine ww_tableIn (off := 570) (tgt := 603) K dL_law_33 (by decide) (by decide) rfl rfl ?_
      exact wc_law_broken K hr gl hlen h0 h1 h2 h3 h4 h5 h6 h7 h8 h9 h10 h11 h12 h13 h14 h15 h16 h17 h18 h19 h20 h21 h22 h23 h24 h25 h26 h27 h28 h29 h30 h31 h32 h33 h34 h35 h36 h37 h38 h39 h40 h41 h42 h43 h44 h45 h46 h47 h48 h49 h50 h51 h52 h53 h54 h55 h56 h57 h58 h59 h60 h61 h62 h63 h64 h65 h66 h67 h68 h69 h70 h71
    · refine ww_tableIn (off := 645) (tgt := 678) K dL_law_33 (by decide) (by decide) rfl rfl ?_
      exact wc_law_deed K hr gl hlen h0 h1 h2 h3 h4 h5 h6 h7 h8 h9 h10 h11 h12 h13 h14 h15 h16 h17 h18 h19 h20 h21 h22 h23 h24 h25 h26 h27 h28 h29 h30 h31 h32 h33 h34 h35 h36 h37 h38 h39 h40 h41 h42 h43 h44 h45 h46 h47 h48 h49 h50 h51 h52 h53 h54 h55 h56 h57 h58 h59 h60 h61 h62 h63 h64 h65 h66 h67 h68 h69 h70 h71
    · refine ww_tableIn (off := 688) (tgt := 721) K dL_law_33 (by decide) (by decide) rfl rfl ?_
      exact wc_law_stop K hr gl hlen h0 h1 h2 h3 h4 h5 h6 h7 h8 h9 h10 h11 h12 h13 h14 h15 h16 h17 h18 h19 h20 h21 h22 h23 h24 h25 h26 h27 h28 h29 h30 h31 h32 h33 h34 h35 h36 h37 h38 h39 h40 h41 h42 h43 h44 h45 h46 h47 h48 h49 h50 h51 h52 h53 h54 h55 h56 h57 h58 h59 h60 h61 h62 h63 h64 h65 h66 h67 h68 h69 h70 h71
    · refine ww_tableIn (off := 731) (tgt := 764) K dL_law_33 (by decide) (by decide) rfl rfl ?_
      exact wc_law_state K hr gl hlen h0 h1 h2 h3 h4 h5 h6 h7 h8 h9 h10 h11 h12 h13 h14 h15 h16 h17 h18 h19 h20 h21 h22 h23 h24 h25 h26 h27 h28 h29 h30 h31 h32 h33 h34 h35 h36 h37 h38 h39 h40 h41 h42 h43 h44 h45 h46 h47 h48 h49 h50 h51 h52 h53 h54 h55 h56 h57 h58 h59 h60 h61 h62 h63 h64 h65 h66 h67 h68 h69 h70 h71
    · refine ww_tableIn (off := 794) (tgt := 827) K dL_law_33 (by decide) (by decide) rfl rfl ?_
      exact wc_law_agreed K hr gl hlen h0 h1 h2 h3 h4 h5 h6 h7 h8 h9 h10 h11 h12 h13 h14 h15 h16 h17 h18 h19 h20 h21 h22 h23 h24 h25 h26 h27 h28 h29 h30 h31 h32 h33 h34 h35 h36 h37 h38 h39 h40 h41 h42 h43 h44 h45 h46 h47 h48 h49 h50 h51 h52 h53 h54 h55 h56 h57 h58 h59 h60 h61 h62 h63 h64 h65 h66 h67 h68 h69 h70 h71
    · refine ww_tableIn (off := 857) (tgt := 890) K dL_law_33 (by decide) (by decide) rfl rfl ?_
      exact wc_law_power K hr gl hlen h0 h1 h2 h3 h4 h5 h6 h7 h8 h9 h10 h11 h12 h13 h14 h15 h16 h17 h18 h19 h20 h21 h22 h23 h24 h25 h26 h27 h28 h29 h30 h31 h32 h33 h34 h35 h36 h37 h38 h39 h40 h41 h42 h43 h44 h45 h46 h47 h48 h49 h50 h51 h52 h53 h54 h55 h56 h57 h58 h59 h60 h61 h62 h63 h64 h65 h66 h67 h68 h69 h70 h71
    · refine ww_tableIn (off := 916) (tgt := 949) K dL_law_33 (by decide) (by decide) rfl rfl ?_
      exact wc_law_coalition K hr gl hlen h0 h1 h2 h3 h4 h5 h6 h7 h8 h9 h10 h11 h12 h13 h14 h15 h16 h17 h18 h19 h20 h21 h22 h23 h24 h25 h26 h27 h28 h29 h30 h31 h32 h33 h34 h35 h36 h37 h38 h39 h40 h41 h42 h43 h44 h45 h46 h47 h48 h49 h50 h51 h52 h53 h54 h55 h56 h57 h58 h59 h60 h61 h62 h63 h64 h65 h66 h67 h68 h69 h70 h71
    · refine ww_tableIn (off := 949) (tgt := 982) K dL_law_33 (by decide) (by decide) rfl rfl ?_
      exact wc_law_bribe K hr gl hlen h0 h1 h2 h3 h4 h5 h6 h7 h8 h9 h10 h11 h12 h13 h14 h15 h16 h17 h18 h19 h20 h21 h22 h23 h24 h25 h26 h27 h28 h29 h30 h31 h32 h33 h34 h35 h36 h37 h38 h39 h40 h41 h42 h43 h44 h45 h46 h47 h48 h49 h50 h51 h52 h53 h54 h55 h56 h57 h58 h59 h60 h61 h62 h63 h64 h65 h66 h67 h68 h69 h70 h71
    · refine ww_tableIn (off := 1052) (tgt := 1085) K dL_law_33 (by decide) (by decide) rfl rfl ?_
      exact wc_law_lobby K hr gl hlen h0 h1 h2 h3 h4 h5 h6 h7 h8 h9 h10 h11 h12 h13 h14 h15 h16 h17 h18 h19 h20 h21 h22 h23 h24 h25 h26 h27 h28 h29 h30 h31 h32 h33 h34 h35 h36 h37 h38 h39 h40 h41 h42 h43 h44 h45 h46 h47 h48 h49 h50 h51 h52 h53 h54 h55 h56 h57 h58 h59 h60 h61 h62 h63 h64 h65 h66 h67 h68 h69 h70 h71
    · refine ww_tableIn (off := 1139) (tgt := 1172) K dL_law_33 (by decide) (by decide) rfl rfl ?_
      exact wc_law_bargain K hr gl hlen h0 h1 h2 h3 h4 h5 h6 h7 h8 h9 h10 h11 h12 h13 h14 h15 h16 h17 h18 h19 h20 h21 h22 h23 h24 h25 h26 h27 h28 h29 h30 h31 h32 h33 h34 h35 h36 h37 h38 h39 h40 h41 h42 h43 h44 h45 h46 h47 h48 h49 h50 h51 h52 h53 h54 h55 h56 h57 h58 h59 h60 h61 h62 h63 h64 h65 h66 h67 h68 h69 h70 h71
    · refine ww_tableIn (off := 1182) (tgt := 1215) K dL_law_33 (by decide) (by decide) rfl rfl ?_
      exact wc_law_was K hr gl hlen h0 h1 h2 h3 h4 h5 h6 h7 h8 h9 h10 h11 h12 h13 h14 h15 h16 h17 h18 h19 h20 h21 h22 h23 h24 h25 h26 h27 h28 h29 h30 h31 h32 h33 h34 h35 h36 h37 h38 h39 h40 h41 h42 h43 h44 h45 h46 h47 h48 h49 h50 h51 h52 h53 h54 h55 h56 h57 h58 h59 h60 h61 h62 h63 h64 h65 h66 h67 h68 h69 h70 h71
    · refine ww_tableIn (off := 1225) (tgt := 1258) K dL_law_33 (by decide) (by decide) rfl rfl ?_
      exact wc_law_nature K hr gl hlen h0 h1 h2 h3 h4 h5 h6 h7 h8 h9 h10 h11 h12 h13 h14 h15 h16 h17 h18 h19 h20 h21 h22 h23 h24 h25 h26 h27 h28 h29 h30 h31 h32 h33 h34 h35 h36 h37 h38 h39 h40 h41 h42 h43 h44 h45 h46 h47 h48 h49 h50 h51 h52 h53 h54 h55 h56 h57 h58 h59 h60 h61 h62 h63 h64 h65 h66 h67 h68 h69 h70 h71
    · refine ww_tableIn (off := 1268) (tgt := 1301) K dL_law_33 (by decide) (by decide) rfl rfl ?_
      exact wc_law_seats K hr gl hlen h0 h1 h2 h3 h4 h5 h6 h7 h8 h9 h10 h11 h12 h13 h14 h15 h16 h17 h18 h19 h20 h21 h22 h23 h24 h25 h26 h27 h28 h29 h30 h31 h32 h33 h34 h35 h36 h37 h38 h39 h40 h41 h42 h43 h44 h45 h46 h47 h48 h49 h50 h51 h52 h53 h54 h55 h56 h57 h58 h59 h60 h61 h62 h63 h64 h65 h66 h67 h68 h69 h70 h71
    · refine ww_tableIn (off := 1311) (tgt := 1344) K dL_law_33 (by decide) (by decide) rfl rfl ?_
      exact wc_law_reshuffle K hr gl hlen h0 h1 h2 h3 h4 h5 h6 h7 h8 h9 h10 h11 h12 h13 h14 h15 h16 h17 h18 h19 h20 h21 h22 h23 h24 h25 h26 h27 h28 h29 h30 h31 h32 h33 h34 h35 h36 h37 h38 h39 h40 h41 h42 h43 h44 h45 h46 h47 h48 h49 h50 h51 h52 h53 h54 h55 h56 h57 h58 h59 h60 h61 h62 h63 h64 h65 h66 h67 h68 h69 h70 h71
    · refine ww_tableIn (off := 1360) (tgt := 1393) K dL_law_33 (by decide) (by decide) rfl rfl ?_
      exact wc_law_leak K hr gl hlen h0 h1 h2 h3 h4 h5 h6 h7 h8 h9 h10 h11 h12 h13 h14 h15 h16 h17 h18 h19 h20 h21 h22 h23 h24 h25 h26 h27 h28 h29 h30 h31 h32 h33 h34 h35 h36 h37 h38 h39 h40 h41 h42 h43 h44 h45 h46 h47 h48 h49 h50 h51 h52 h53 h54 h55 h56 h57 h58 h59 h60 h61 h62 h63 h64 h65 h66 h67 h68 h69 h70 h71
    · refine ww_tableIn (off := 1403) (tgt := 1436) K dL_law_33 (by decide) (by decide) rfl rfl ?_
      exact wc_law_fits K hr gl hlen h0 h1 h2 h3 h4 h5 h6 h7 h8 h9 h10 h11 h12 h13 h14 h15 h16 h17 h18 h19 h20 h21 h22 h23 h24 h25 h26 h27 h28 h29 h30 h31 h32 h33 h34 h35 h36 h37 h38 h39 h40 h41 h42 h43 h44 h45 h46 h47 h48 h49 h50 h51 h52 h53 h54 h55 h56 h57 h58 h59 h60 h61 h62 h63 h64 h65 h66 h67 h68 h69 h70 h71
    · refine ww_tableIn (off := 1466) (tgt := 1499) K dL_law_33 (by decide) (by decide) rfl rfl ?_
      exact wc_law_drawn K hr gl hlen h0 h1 h2 h3 h4 h5 h6 h7 h8 h9 h10 h11 h12 h13 h14 h15 h16 h17 h18 h19 h20 h21 h22 h23 h24 h25 h26 h27 h28 h29 h30 h31 h32 h33 h34 h35 h36 h37 h38 h39 h40 h41 h42 h43 h44 h45 h46 h47 h48 h49 h50 h51 h52 h53 h54 h55 h56 h57 h58 h59 h60 h61 h62 h63 h64 h65 h66 h67 h68 h69 h70 h71
    · refine ww_tableIn (off := 1519) (tgt := 1552) K dL_law_33 (by decide) (by decide) rfl rfl ?_
      exact wc_law_count K hr gl hlen h0 h1 h2 h3 h4 h5 h6 h7 h8 h9 h10 h11 h12 h13 h14 h15 h16 h17 h18 h19 h20 h21 h22 h23 h24 h25 h26 h27 h28 h29 h30 h31 h32 h33 h34 h35 h36 h37 h38 h39 h40 h41 h42 h43 h44 h45 h46 h47 h48 h49 h50 h51 h52 h53 h54 h55 h56 h57 h58 h59 h60 h61 h62 h63 h64 h65 h66 h67 h68 h69 h70 h71
    · refine ww_tableIn (off := 1542) (tgt := 1575) K dL_law_33 (by decide) (by decide) rfl rfl ?_
      exact wc_law_image K hr gl hlen h0 h1 h2 h3 h4 h5 h6 h7 h8 h9 h10 h11 h12 h13 h14 h15 h16 h17 h18 h19 h20 h21 h22 h23 h24 h25 h26 h27 h28 h29 h30 h31 h32 h33 h34 h35 h36 h37 h38 h39 h40 h41 h42 h43 h44 h45 h46 h47 h48 h49 h50 h51 h52 h53 h54 h55 h56 h57 h58 h59 h60 h61 h62 h63 h64 h65 h66 h67 h68 h69 h70 h71
    · refine ww_tableIn (off := 1565) (tgt := 1598) K dL_law_33 (by decide) (by decide) rfl rfl ?_
      exact wc_law_again K hr gl hlen h0 h1 h2 h3 h4 h5 h6 h7 h8 h9 h10 h11 h12 h13 h14 h15 h16 h17 h18 h19 h20 h21 h22 h23 h24 h25 h26 h27 h28 h29 h30 h31 h32 h33 h34 h35 h36 h37 h38 h39 h40 h41 h42 h43 h44 h45 h46 h47 h48 h49 h50 h51 h52 h53 h54 h55 h56 h57 h58 h59 h60 h61 h62 h63 h64 h65 h66 h67 h68 h69 h70 h71
    · refine ww_tableOut (tgt := 1621) K dL_law_33 (by decide) rfl ?_
      exact wc_law_fin K hr gl _ _ _
    · refine ww_tableOut (tgt := 1621) K dL_law_33 (by decide) rfl ?_
      exact wc_law_fin K hr gl _ _ _
    · refine ww_tableOut (tgt := 1621) K dL_law_33 (by decide) rfl ?_
      exact wc_law_fin K hr gl _ _ _
  · have hlt : (Int32.ofNat L - 8 : Int32) < 0 := by
      rcases (by omega : L = 0 ∨ L = 1 ∨ L = 2 ∨ L = 3 ∨ L = 4 ∨ L = 5 ∨ L = 6 ∨ L = 7) with h | h | h | h | h | h | h | h <;> subst h <;> decide
    refine ww_icmp_gt (tgt := 1627) K dL_law_24 rfl (fun _ => ?_) (fun q => absurd hlt q)
    refine ww_iconst (v := 1) K dL_law_1627 rfl ?_
    exact wc_lawret K hr dL_law_1628
