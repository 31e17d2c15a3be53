/-! THE LAW: its rows, its cases (printed by a program of mine), its loop -/
def mW : MI := (x, code, 4, ret)
theorem dW_0 : decode mW.2.1 0 = .ok (.new 7, 3) := by decide +kernel
theorem dW_3 : decode mW.2.1 3 = .ok (.dup, 1) := by decide +kernel
theorem dW_4 : decode mW.2.1 4 = .ok (.invokespecial 9, 3) := by decide +kernel
theorem dW_7 : decode mW.2.1 7 = .ok (.astore_n 1, 1) := by decide +kernel
theorem dW_8 : decode mW.2.1 8 = .ok (.new 10, 3) := by decide +kernel
theorem dW_11 : decode mW.2.1 11 = .ok (.dup, 1) := by decide +kernel
theorem dW_12 : decode mW.2.1 12 = .ok (.invokespecial 12, 3) := by decide +kernel
theorem dW_15 : decode mW.2.1 15 = .ok (.astore_n 2, 1) := by decide +kernel
theorem dW_16 : decode mW.2.1 16 = .ok (.iconst 0, 1) := by decide +kernel
theorem dW_17 : decode mW.2.1 17 = .ok (.istore_n 3, 1) := by decide +kernel
theorem dW_18 : decode mW.2.1 18 = .ok (.iload_n 3, 1) := by decide +kernel
theorem dW_19 : decode mW.2.1 19 = .ok (.aload_n 0, 1) := by decide +kernel
theorem dW_20 : decode mW.2.1 20 = .ok (.arraylength, 1) := by decide +kernel
theorem dW_21 : decode mW.2.1 21 = .ok (.iconst 4, 1) := by decide +kernel
theorem dW_22 : decode mW.2.1 22 = .ok (.isub, 1) := by decide +kernel
theorem dW_23 : decode mW.2.1 23 = .ok (.if_icmp .gt 933, 3) := by decide +kernel
theorem dW_26 : decode mW.2.1 26 = .ok (.aload_n 0, 1) := by decide +kernel
theorem dW_27 : decode mW.2.1 27 = .ok (.iload_n 3, 1) := by decide +kernel
theorem dW_28 : decode mW.2.1 28 = .ok (.iaload, 1) := by decide +kernel
theorem dW_29 : decode mW.2.1 29 = .ok (.bipush 31, 2) := by decide +kernel
theorem dW_31 : decode mW.2.1 31 = .ok (.iand, 1) := by decide +kernel
theorem dW_32 : decode mW.2.1 32 = .ok (.tableswitch 918 0 27 #[128, 161, 204, 217, 260, 293, 336, 369, 412, 461, 494, 507, 540, 573, 586, 599, 632, 655, 678, 711, 744, 777, 800, 813, 846, 869, 892, 905], 128) := by decide +kernel
theorem dW_160 : decode mW.2.1 160 = .ok (.aload_n 1, 1) := by decide +kernel
theorem dW_161 : decode mW.2.1 161 = .ok (.aload_n 0, 1) := by decide +kernel
theorem dW_162 : decode mW.2.1 162 = .ok (.iload_n 3, 1) := by decide +kernel
theorem dW_163 : decode mW.2.1 163 = .ok (.iconst 1, 1) := by decide +kernel
theorem dW_164 : decode mW.2.1 164 = .ok (.iadd, 1) := by decide +kernel
theorem dW_165 : decode mW.2.1 165 = .ok (.iaload, 1) := by decide +kernel
theorem dW_166 : decode mW.2.1 166 = .ok (.aload_n 0, 1) := by decide +kernel
theorem dW_167 : decode mW.2.1 167 = .ok (.iload_n 3, 1) := by decide +kernel
theorem dW_168 : decode mW.2.1 168 = .ok (.iconst 2, 1) := by decide +kernel
theorem dW_169 : decode mW.2.1 169 = .ok (.iadd, 1) := by decide +kernel
theorem dW_170 : decode mW.2.1 170 = .ok (.iaload, 1) := by decide +kernel
theorem dW_171 : decode mW.2.1 171 = .ok (.invokevirtual 13, 3) := by decide +kernel
theorem dW_174 : decode mW.2.1 174 = .ok (.aload_n 2, 1) := by decide +kernel
theorem dW_175 : decode mW.2.1 175 = .ok (.aload_n 0, 1) := by decide +kernel
theorem dW_176 : decode mW.2.1 176 = .ok (.iload_n 3, 1) := by decide +kernel
theorem dW_177 : decode mW.2.1 177 = .ok (.iconst 1, 1) := by decide +kernel
theorem dW_178 : decode mW.2.1 178 = .ok (.iadd, 1) := by decide +kernel
theorem dW_179 : decode mW.2.1 179 = .ok (.iaload, 1) := by decide +kernel
theorem dW_180 : decode mW.2.1 180 = .ok (.aload_n 0, 1) := by decide +kernel
theorem dW_181 : decode mW.2.1 181 = .ok (.iload_n 3, 1) := by decide +kernel
theorem dW_182 : decode mW.2.1 182 = .ok (.iconst 2, 1) := by decide +kernel
theorem dW_183 : decode mW.2.1 183 = .ok (.iadd, 1) := by decide +kernel
theorem dW_184 : decode mW.2.1 184 = .ok (.iaload, 1) := by decide +kernel
theorem dW_185 : decode mW.2.1 185 = .ok (.invokevirtual 17, 3) := by decide +kernel
theorem dW_188 : decode mW.2.1 188 = .ok (.if_icmp .eq 762, 3) := by decide +kernel
theorem dW_191 : decode mW.2.1 191 = .ok (.iconst 0, 1) := by decide +kernel
theorem dW_192 : decode mW.2.1 192 = .ok (.ireturn, 1) := by decide +kernel
theorem dW_193 : decode mW.2.1 193 = .ok (.aload_n 1, 1) := by decide +kernel
theorem dW_194 : decode mW.2.1 194 = .ok (.aload_n 0, 1) := by decide +kernel
theorem dW_195 : decode mW.2.1 195 = .ok (.iload_n 3, 1) := by decide +kernel
theorem dW_196 : decode mW.2.1 196 = .ok (.iconst 1, 1) := by decide +kernel
theorem dW_197 : decode mW.2.1 197 = .ok (.iadd, 1) := by decide +kernel
theorem dW_198 : decode mW.2.1 198 = .ok (.iaload, 1) := by decide +kernel
theorem dW_199 : decode mW.2.1 199 = .ok (.aload_n 0, 1) := by decide +kernel
theorem dW_200 : decode mW.2.1 200 = .ok (.iload_n 3, 1) := by decide +kernel
theorem dW_201 : decode mW.2.1 201 = .ok (.iconst 2, 1) := by decide +kernel
theorem dW_202 : decode mW.2.1 202 = .ok (.iadd, 1) := by decide +kernel
theorem dW_203 : decode mW.2.1 203 = .ok (.iaload, 1) := by decide +kernel
theorem dW_204 : decode mW.2.1 204 = .ok (.aload_n 0, 1) := by decide +kernel
theorem dW_205 : decode mW.2.1 205 = .ok (.iload_n 3, 1) := by decide +kernel
theorem dW_206 : decode mW.2.1 206 = .ok (.iconst 3, 1) := by decide +kernel
theorem dW_207 : decode mW.2.1 207 = .ok (.iadd, 1) := by decide +kernel
theorem dW_208 : decode mW.2.1 208 = .ok (.iaload, 1) := by decide +kernel
theorem dW_209 : decode mW.2.1 209 = .ok (.invokevirtual 18, 3) := by decide +kernel
theorem dW_212 : decode mW.2.1 212 = .ok (.aload_n 2, 1) := by decide +kernel
theorem dW_213 : decode mW.2.1 213 = .ok (.aload_n 0, 1) := by decide +kernel
theorem dW_214 : decode mW.2.1 214 = .ok (.iload_n 3, 1) := by decide +kernel
theorem dW_215 : decode mW.2.1 215 = .ok (.iconst 1, 1) := by decide +kernel
theorem dW_216 : decode mW.2.1 216 = .ok (.iadd, 1) := by decide +kernel
theorem dW_217 : decode mW.2.1 217 = .ok (.iaload, 1) := by decide +kernel
theorem dW_218 : decode mW.2.1 218 = .ok (.aload_n 0, 1) := by decide +kernel
theorem dW_219 : decode mW.2.1 219 = .ok (.iload_n 3, 1) := by decide +kernel
theorem dW_220 : decode mW.2.1 220 = .ok (.iconst 2, 1) := by decide +kernel
theorem dW_221 : decode mW.2.1 221 = .ok (.iadd, 1) := by decide +kernel
theorem dW_222 : decode mW.2.1 222 = .ok (.iaload, 1) := by decide +kernel
theorem dW_223 : decode mW.2.1 223 = .ok (.aload_n 0, 1) := by decide +kernel
theorem dW_224 : decode mW.2.1 224 = .ok (.iload_n 3, 1) := by decide +kernel
theorem dW_225 : decode mW.2.1 225 = .ok (.iconst 3, 1) := by decide +kernel
theorem dW_226 : decode mW.2.1 226 = .ok (.iadd, 1) := by decide +kernel
theorem dW_227 : decode mW.2.1 227 = .ok (.iaload, 1) := by decide +kernel
theorem dW_228 : decode mW.2.1 228 = .ok (.invokevirtual 22, 3) := by decide +kernel
theorem dW_231 : decode mW.2.1 231 = .ok (.if_icmp .eq 719, 3) := by decide +kernel
theorem dW_234 : decode mW.2.1 234 = .ok (.iconst 0, 1) := by decide +kernel
theorem dW_235 : decode mW.2.1 235 = .ok (.ireturn, 1) := by decide +kernel
theorem dW_236 : decode mW.2.1 236 = .ok (.aload_n 1, 1) := by decide +kernel
theorem dW_237 : decode mW.2.1 237 = .ok (.invokevirtual 23, 3) := by decide +kernel
theorem dW_240 : decode mW.2.1 240 = .ok (.aload_n 2, 1) := by decide +kernel
theorem dW_241 : decode mW.2.1 241 = .ok (.invokevirtual 27, 3) := by decide +kernel
theorem dW_244 : decode mW.2.1 244 = .ok (.if_icmp .eq 706, 3) := by decide +kernel
theorem dW_247 : decode mW.2.1 247 = .ok (.iconst 0, 1) := by decide +kernel
theorem dW_248 : decode mW.2.1 248 = .ok (.ireturn, 1) := by decide +kernel
theorem dW_249 : decode mW.2.1 249 = .ok (.aload_n 1, 1) := by decide +kernel
theorem dW_250 : decode mW.2.1 250 = .ok (.aload_n 0, 1) := by decide +kernel
theorem dW_251 : decode mW.2.1 251 = .ok (.iload_n 3, 1) := by decide +kernel
theorem dW_252 : decode mW.2.1 252 = .ok (.iconst 1, 1) := by decide +kernel
theorem dW_253 : decode mW.2.1 253 = .ok (.iadd, 1) := by decide +kernel
theorem dW_254 : decode mW.2.1 254 = .ok (.iaload, 1) := by decide +kernel
theorem dW_255 : decode mW.2.1 255 = .ok (.aload_n 0, 1) := by decide +kernel
theorem dW_256 : decode mW.2.1 256 = .ok (.iload_n 3, 1) := by decide +kernel
theorem dW_257 : decode mW.2.1 257 = .ok (.iconst 2, 1) := by decide +kernel
theorem dW_258 : decode mW.2.1 258 = .ok (.iadd, 1) := by decide +kernel
theorem dW_259 : decode mW.2.1 259 = .ok (.iaload, 1) := by decide +kernel
theorem dW_260 : decode mW.2.1 260 = .ok (.aload_n 0, 1) := by decide +kernel
theorem dW_261 : decode mW.2.1 261 = .ok (.iload_n 3, 1) := by decide +kernel
theorem dW_262 : decode mW.2.1 262 = .ok (.iconst 3, 1) := by decide +kernel
theorem dW_263 : decode mW.2.1 263 = .ok (.iadd, 1) := by decide +kernel
theorem dW_264 : decode mW.2.1 264 = .ok (.iaload, 1) := by decide +kernel
theorem dW_265 : decode mW.2.1 265 = .ok (.invokevirtual 28, 3) := by decide +kernel
theorem dW_268 : decode mW.2.1 268 = .ok (.aload_n 2, 1) := by decide +kernel
theorem dW_269 : decode mW.2.1 269 = .ok (.aload_n 0, 1) := by decide +kernel
theorem dW_270 : decode mW.2.1 270 = .ok (.iload_n 3, 1) := by decide +kernel
theorem dW_271 : decode mW.2.1 271 = .ok (.iconst 1, 1) := by decide +kernel
theorem dW_272 : decode mW.2.1 272 = .ok (.iadd, 1) := by decide +kernel
theorem dW_273 : decode mW.2.1 273 = .ok (.iaload, 1) := by decide +kernel
theorem dW_274 : decode mW.2.1 274 = .ok (.aload_n 0, 1) := by decide +kernel
theorem dW_275 : decode mW.2.1 275 = .ok (.iload_n 3, 1) := by decide +kernel
theorem dW_276 : decode mW.2.1 276 = .ok (.iconst 2, 1) := by decide +kernel
theorem dW_277 : decode mW.2.1 277 = .ok (.iadd, 1) := by decide +kernel
theorem dW_278 : decode mW.2.1 278 = .ok (.iaload, 1) := by decide +kernel
theorem dW_279 : decode mW.2.1 279 = .ok (.aload_n 0, 1) := by decide +kernel
theorem dW_280 : decode mW.2.1 280 = .ok (.iload_n 3, 1) := by decide +kernel
theorem dW_281 : decode mW.2.1 281 = .ok (.iconst 3, 1) := by decide +kernel
theorem dW_282 : decode mW.2.1 282 = .ok (.iadd, 1) := by decide +kernel
theorem dW_283 : decode mW.2.1 283 = .ok (.iaload, 1) := by decide +kernel
theorem dW_284 : decode mW.2.1 284 = .ok (.invokevirtual 31, 3) := by decide +kernel
theorem dW_287 : decode mW.2.1 287 = .ok (.if_icmp .eq 663, 3) := by decide +kernel
theorem dW_290 : decode mW.2.1 290 = .ok (.iconst 0, 1) := by decide +kernel
theorem dW_291 : decode mW.2.1 291 = .ok (.ireturn, 1) := by decide +kernel
theorem dW_292 : decode mW.2.1 292 = .ok (.aload_n 1, 1) := by decide +kernel
theorem dW_293 : decode mW.2.1 293 = .ok (.aload_n 0, 1) := by decide +kernel
theorem dW_294 : decode mW.2.1 294 = .ok (.iload_n 3, 1) := by decide +kernel
theorem dW_295 : decode mW.2.1 295 = .ok (.iconst 1, 1) := by decide +kernel
theorem dW_296 : decode mW.2.1 296 = .ok (.iadd, 1) := by decide +kernel
theorem dW_297 : decode mW.2.1 297 = .ok (.iaload, 1) := by decide +kernel
theorem dW_298 : decode mW.2.1 298 = .ok (.aload_n 0, 1) := by decide +kernel
theorem dW_299 : decode mW.2.1 299 = .ok (.iload_n 3, 1) := by decide +kernel
theorem dW_300 : decode mW.2.1 300 = .ok (.iconst 2, 1) := by decide +kernel
theorem dW_301 : decode mW.2.1 301 = .ok (.iadd, 1) := by decide +kernel
theorem dW_302 : decode mW.2.1 302 = .ok (.iaload, 1) := by decide +kernel
theorem dW_303 : decode mW.2.1 303 = .ok (.invokevirtual 32, 3) := by decide +kernel
theorem dW_306 : decode mW.2.1 306 = .ok (.aload_n 2, 1) := by decide +kernel
theorem dW_307 : decode mW.2.1 307 = .ok (.aload_n 0, 1) := by decide +kernel
theorem dW_308 : decode mW.2.1 308 = .ok (.iload_n 3, 1) := by decide +kernel
theorem dW_309 : decode mW.2.1 309 = .ok (.iconst 1, 1) := by decide +kernel
theorem dW_310 : decode mW.2.1 310 = .ok (.iadd, 1) := by decide +kernel
theorem dW_311 : decode mW.2.1 311 = .ok (.iaload, 1) := by decide +kernel
theorem dW_312 : decode mW.2.1 312 = .ok (.aload_n 0, 1) := by decide +kernel
theorem dW_313 : decode mW.2.1 313 = .ok (.iload_n 3, 1) := by decide +kernel
theorem dW_314 : decode mW.2.1 314 = .ok (.iconst 2, 1) := by decide +kernel
theorem dW_315 : decode mW.2.1 315 = .ok (.iadd, 1) := by decide +kernel
theorem dW_316 : decode mW.2.1 316 = .ok (.iaload, 1) := by decide +kernel
theorem dW_317 : decode mW.2.1 317 = .ok (.invokevirtual 35, 3) := by decide +kernel
theorem dW_320 : decode mW.2.1 320 = .ok (.if_icmp .eq 630, 3) := by decide +kernel
theorem dW_323 : decode mW.2.1 323 = .ok (.iconst 0, 1) := by decide +kernel
theorem dW_324 : decode mW.2.1 324 = .ok (.ireturn, 1) := by decide +kernel
theorem dW_325 : decode mW.2.1 325 = .ok (.aload_n 1, 1) := by decide +kernel
theorem dW_326 : decode mW.2.1 326 = .ok (.aload_n 0, 1) := by decide +kernel
theorem dW_327 : decode mW.2.1 327 = .ok (.iload_n 3, 1) := by decide +kernel
theorem dW_328 : decode mW.2.1 328 = .ok (.iconst 1, 1) := by decide +kernel
theorem dW_329 : decode mW.2.1 329 = .ok (.iadd, 1) := by decide +kernel
theorem dW_330 : decode mW.2.1 330 = .ok (.iaload, 1) := by decide +kernel
theorem dW_331 : decode mW.2.1 331 = .ok (.aload_n 0, 1) := by decide +kernel
theorem dW_332 : decode mW.2.1 332 = .ok (.iload_n 3, 1) := by decide +kernel
theorem dW_333 : decode mW.2.1 333 = .ok (.iconst 2, 1) := by decide +kernel
theorem dW_334 : decode mW.2.1 334 = .ok (.iadd, 1) := by decide +kernel
theorem dW_335 : decode mW.2.1 335 = .ok (.iaload, 1) := by decide +kernel
theorem dW_336 : decode mW.2.1 336 = .ok (.aload_n 0, 1) := by decide +kernel
theorem dW_337 : decode mW.2.1 337 = .ok (.iload_n 3, 1) := by decide +kernel
theorem dW_338 : decode mW.2.1 338 = .ok (.iconst 3, 1) := by decide +kernel
theorem dW_339 : decode mW.2.1 339 = .ok (.iadd, 1) := by decide +kernel
theorem dW_340 : decode mW.2.1 340 = .ok (.iaload, 1) := by decide +kernel
theorem dW_341 : decode mW.2.1 341 = .ok (.invokevirtual 36, 3) := by decide +kernel
theorem dW_344 : decode mW.2.1 344 = .ok (.aload_n 2, 1) := by decide +kernel
theorem dW_345 : decode mW.2.1 345 = .ok (.aload_n 0, 1) := by decide +kernel
theorem dW_346 : decode mW.2.1 346 = .ok (.iload_n 3, 1) := by decide +kernel
theorem dW_347 : decode mW.2.1 347 = .ok (.iconst 1, 1) := by decide +kernel
theorem dW_348 : decode mW.2.1 348 = .ok (.iadd, 1) := by decide +kernel
theorem dW_349 : decode mW.2.1 349 = .ok (.iaload, 1) := by decide +kernel
theorem dW_350 : decode mW.2.1 350 = .ok (.aload_n 0, 1) := by decide +kernel
theorem dW_351 : decode mW.2.1 351 = .ok (.iload_n 3, 1) := by decide +kernel
theorem dW_352 : decode mW.2.1 352 = .ok (.iconst 2, 1) := by decide +kernel
theorem dW_353 : decode mW.2.1 353 = .ok (.iadd, 1) := by decide +kernel
theorem dW_354 : decode mW.2.1 354 = .ok (.iaload, 1) := by decide +kernel
theorem dW_355 : decode mW.2.1 355 = .ok (.aload_n 0, 1) := by decide +kernel
theorem dW_356 : decode mW.2.1 356 = .ok (.iload_n 3, 1) := by decide +kernel
theorem dW_357 : decode mW.2.1 357 = .ok (.iconst 3, 1) := by decide +kernel
theorem dW_358 : decode mW.2.1 358 = .ok (.iadd, 1) := by decide +kernel
theorem dW_359 : decode mW.2.1 359 = .ok (.iaload, 1) := by decide +kernel
theorem dW_360 : decode mW.2.1 360 = .ok (.invokevirtual 39, 3) := by decide +kernel
theorem dW_363 : decode mW.2.1 363 = .ok (.if_icmp .eq 587, 3) := by decide +kernel
theorem dW_366 : decode mW.2.1 366 = .ok (.iconst 0, 1) := by decide +kernel
theorem dW_367 : decode mW.2.1 367 = .ok (.ireturn, 1) := by decide +kernel
theorem dW_368 : decode mW.2.1 368 = .ok (.aload_n 1, 1) := by decide +kernel
theorem dW_369 : decode mW.2.1 369 = .ok (.aload_n 0, 1) := by decide +kernel
theorem dW_370 : decode mW.2.1 370 = .ok (.iload_n 3, 1) := by decide +kernel
theorem dW_371 : decode mW.2.1 371 = .ok (.iconst 1, 1) := by decide +kernel
theorem dW_372 : decode mW.2.1 372 = .ok (.iadd, 1) := by decide +kernel
theorem dW_373 : decode mW.2.1 373 = .ok (.iaload, 1) := by decide +kernel
theorem dW_374 : decode mW.2.1 374 = .ok (.aload_n 0, 1) := by decide +kernel
theorem dW_375 : decode mW.2.1 375 = .ok (.iload_n 3, 1) := by decide +kernel
theorem dW_376 : decode mW.2.1 376 = .ok (.iconst 2, 1) := by decide +kernel
theorem dW_377 : decode mW.2.1 377 = .ok (.iadd, 1) := by decide +kernel
theorem dW_378 : decode mW.2.1 378 = .ok (.iaload, 1) := by decide +kernel
theorem dW_379 : decode mW.2.1 379 = .ok (.invokevirtual 40, 3) := by decide +kernel
theorem dW_382 : decode mW.2.1 382 = .ok (.aload_n 2, 1) := by decide +kernel
theorem dW_383 : decode mW.2.1 383 = .ok (.aload_n 0, 1) := by decide +kernel
theorem dW_384 : decode mW.2.1 384 = .ok (.iload_n 3, 1) := by decide +kernel
theorem dW_385 : decode mW.2.1 385 = .ok (.iconst 1, 1) := by decide +kernel
theorem dW_386 : decode mW.2.1 386 = .ok (.iadd, 1) := by decide +kernel
theorem dW_387 : decode mW.2.1 387 = .ok (.iaload, 1) := by decide +kernel
theorem dW_388 : decode mW.2.1 388 = .ok (.aload_n 0, 1) := by decide +kernel
theorem dW_389 : decode mW.2.1 389 = .ok (.iload_n 3, 1) := by decide +kernel
theorem dW_390 : decode mW.2.1 390 = .ok (.iconst 2, 1) := by decide +kernel
theorem dW_391 : decode mW.2.1 391 = .ok (.iadd, 1) := by decide +kernel
theorem dW_392 : decode mW.2.1 392 = .ok (.iaload, 1) := by decide +kernel
theorem dW_393 : decode mW.2.1 393 = .ok (.invokevirtual 43, 3) := by decide +kernel
theorem dW_396 : decode mW.2.1 396 = .ok (.if_icmp .eq 554, 3) := by decide +kernel
theorem dW_399 : decode mW.2.1 399 = .ok (.iconst 0, 1) := by decide +kernel
theorem dW_400 : decode mW.2.1 400 = .ok (.ireturn, 1) := by decide +kernel
theorem dW_401 : decode mW.2.1 401 = .ok (.aload_n 1, 1) := by decide +kernel
theorem dW_402 : decode mW.2.1 402 = .ok (.aload_n 0, 1) := by decide +kernel
theorem dW_403 : decode mW.2.1 403 = .ok (.iload_n 3, 1) := by decide +kernel
theorem dW_404 : decode mW.2.1 404 = .ok (.iconst 1, 1) := by decide +kernel
theorem dW_405 : decode mW.2.1 405 = .ok (.iadd, 1) := by decide +kernel
theorem dW_406 : decode mW.2.1 406 = .ok (.iaload, 1) := by decide +kernel
theorem dW_407 : decode mW.2.1 407 = .ok (.aload_n 0, 1) := by decide +kernel
theorem dW_408 : decode mW.2.1 408 = .ok (.iload_n 3, 1) := by decide +kernel
theorem dW_409 : decode mW.2.1 409 = .ok (.iconst 2, 1) := by decide +kernel
theorem dW_410 : decode mW.2.1 410 = .ok (.iadd, 1) := by decide +kernel
theorem dW_411 : decode mW.2.1 411 = .ok (.iaload, 1) := by decide +kernel
theorem dW_412 : decode mW.2.1 412 = .ok (.aload_n 0, 1) := by decide +kernel
theorem dW_413 : decode mW.2.1 413 = .ok (.iload_n 3, 1) := by decide +kernel
theorem dW_414 : decode mW.2.1 414 = .ok (.iconst 3, 1) := by decide +kernel
theorem dW_415 : decode mW.2.1 415 = .ok (.iadd, 1) := by decide +kernel
theorem dW_416 : decode mW.2.1 416 = .ok (.iaload, 1) := by decide +kernel
theorem dW_417 : decode mW.2.1 417 = .ok (.invokevirtual 44, 3) := by decide +kernel
theorem dW_420 : decode mW.2.1 420 = .ok (.aload_n 2, 1) := by decide +kernel
theorem dW_421 : decode mW.2.1 421 = .ok (.aload_n 0, 1) := by decide +kernel
theorem dW_422 : decode mW.2.1 422 = .ok (.iload_n 3, 1) := by decide +kernel
theorem dW_423 : decode mW.2.1 423 = .ok (.iconst 1, 1) := by decide +kernel
theorem dW_424 : decode mW.2.1 424 = .ok (.iadd, 1) := by decide +kernel
theorem dW_425 : decode mW.2.1 425 = .ok (.iaload, 1) := by decide +kernel
theorem dW_426 : decode mW.2.1 426 = .ok (.aload_n 0, 1) := by decide +kernel
theorem dW_427 : decode mW.2.1 427 = .ok (.iload_n 3, 1) := by decide +kernel
theorem dW_428 : decode mW.2.1 428 = .ok (.iconst 2, 1) := by decide +kernel
theorem dW_429 : decode mW.2.1 429 = .ok (.iadd, 1) := by decide +kernel
theorem dW_430 : decode mW.2.1 430 = .ok (.iaload, 1) := by decide +kernel
theorem dW_431 : decode mW.2.1 431 = .ok (.aload_n 0, 1) := by decide +kernel
theorem dW_432 : decode mW.2.1 432 = .ok (.iload_n 3, 1) := by decide +kernel
theorem dW_433 : decode mW.2.1 433 = .ok (.iconst 3, 1) := by decide +kernel
theorem dW_434 : decode mW.2.1 434 = .ok (.iadd, 1) := by decide +kernel
theorem dW_435 : decode mW.2.1 435 = .ok (.iaload, 1) := by decide +kernel
theorem dW_436 : decode mW.2.1 436 = .ok (.invokevirtual 47, 3) := by decide +kernel
theorem dW_439 : decode mW.2.1 439 = .ok (.if_icmp .eq 511, 3) := by decide +kernel
theorem dW_442 : decode mW.2.1 442 = .ok (.iconst 0, 1) := by decide +kernel
theorem dW_443 : decode mW.2.1 443 = .ok (.ireturn, 1) := by decide +kernel
theorem dW_444 : decode mW.2.1 444 = .ok (.aload_n 1, 1) := by decide +kernel
theorem dW_445 : decode mW.2.1 445 = .ok (.aload_n 0, 1) := by decide +kernel
theorem dW_446 : decode mW.2.1 446 = .ok (.iload_n 3, 1) := by decide +kernel
theorem dW_447 : decode mW.2.1 447 = .ok (.iconst 1, 1) := by decide +kernel
theorem dW_448 : decode mW.2.1 448 = .ok (.iadd, 1) := by decide +kernel
theorem dW_449 : decode mW.2.1 449 = .ok (.iaload, 1) := by decide +kernel
theorem dW_450 : decode mW.2.1 450 = .ok (.aload_n 0, 1) := by decide +kernel
theorem dW_451 : decode mW.2.1 451 = .ok (.iload_n 3, 1) := by decide +kernel
theorem dW_452 : decode mW.2.1 452 = .ok (.iconst 2, 1) := by decide +kernel
theorem dW_453 : decode mW.2.1 453 = .ok (.iadd, 1) := by decide +kernel
theorem dW_454 : decode mW.2.1 454 = .ok (.iaload, 1) := by decide +kernel
theorem dW_455 : decode mW.2.1 455 = .ok (.ifCond .eq 7, 3) := by decide +kernel
theorem dW_458 : decode mW.2.1 458 = .ok (.iconst 1, 1) := by decide +kernel
theorem dW_459 : decode mW.2.1 459 = .ok (.goto 4, 3) := by decide +kernel
theorem dW_462 : decode mW.2.1 462 = .ok (.iconst 0, 1) := by decide +kernel
theorem dW_463 : decode mW.2.1 463 = .ok (.invokevirtual 48, 3) := by decide +kernel
theorem dW_466 : decode mW.2.1 466 = .ok (.aload_n 2, 1) := by decide +kernel
theorem dW_467 : decode mW.2.1 467 = .ok (.aload_n 0, 1) := by decide +kernel
theorem dW_468 : decode mW.2.1 468 = .ok (.iload_n 3, 1) := by decide +kernel
theorem dW_469 : decode mW.2.1 469 = .ok (.iconst 1, 1) := by decide +kernel
theorem dW_470 : decode mW.2.1 470 = .ok (.iadd, 1) := by decide +kernel
theorem dW_471 : decode mW.2.1 471 = .ok (.iaload, 1) := by decide +kernel
theorem dW_472 : decode mW.2.1 472 = .ok (.aload_n 0, 1) := by decide +kernel
theorem dW_473 : decode mW.2.1 473 = .ok (.iload_n 3, 1) := by decide +kernel
theorem dW_474 : decode mW.2.1 474 = .ok (.iconst 2, 1) := by decide +kernel
theorem dW_475 : decode mW.2.1 475 = .ok (.iadd, 1) := by decide +kernel
theorem dW_476 : decode mW.2.1 476 = .ok (.iaload, 1) := by decide +kernel
theorem dW_477 : decode mW.2.1 477 = .ok (.ifCond .eq 7, 3) := by decide +kernel
theorem dW_480 : decode mW.2.1 480 = .ok (.iconst 1, 1) := by decide +kernel
theorem dW_481 : decode mW.2.1 481 = .ok (.goto 4, 3) := by decide +kernel
theorem dW_484 : decode mW.2.1 484 = .ok (.iconst 0, 1) := by decide +kernel
theorem dW_485 : decode mW.2.1 485 = .ok (.invokevirtual 52, 3) := by decide +kernel
theorem dW_488 : decode mW.2.1 488 = .ok (.if_icmp .eq 462, 3) := by decide +kernel
theorem dW_491 : decode mW.2.1 491 = .ok (.iconst 0, 1) := by decide +kernel
theorem dW_492 : decode mW.2.1 492 = .ok (.ireturn, 1) := by decide +kernel
theorem dW_493 : decode mW.2.1 493 = .ok (.aload_n 1, 1) := by decide +kernel
theorem dW_494 : decode mW.2.1 494 = .ok (.aload_n 0, 1) := by decide +kernel
theorem dW_495 : decode mW.2.1 495 = .ok (.iload_n 3, 1) := by decide +kernel
theorem dW_496 : decode mW.2.1 496 = .ok (.iconst 1, 1) := by decide +kernel
theorem dW_497 : decode mW.2.1 497 = .ok (.iadd, 1) := by decide +kernel
theorem dW_498 : decode mW.2.1 498 = .ok (.iaload, 1) := by decide +kernel
theorem dW_499 : decode mW.2.1 499 = .ok (.aload_n 0, 1) := by decide +kernel
theorem dW_500 : decode mW.2.1 500 = .ok (.iload_n 3, 1) := by decide +kernel
theorem dW_501 : decode mW.2.1 501 = .ok (.iconst 2, 1) := by decide +kernel
theorem dW_502 : decode mW.2.1 502 = .ok (.iadd, 1) := by decide +kernel
theorem dW_503 : decode mW.2.1 503 = .ok (.iaload, 1) := by decide +kernel
theorem dW_504 : decode mW.2.1 504 = .ok (.invokevirtual 53, 3) := by decide +kernel
theorem dW_507 : decode mW.2.1 507 = .ok (.aload_n 2, 1) := by decide +kernel
theorem dW_508 : decode mW.2.1 508 = .ok (.aload_n 0, 1) := by decide +kernel
theorem dW_509 : decode mW.2.1 509 = .ok (.iload_n 3, 1) := by decide +kernel
theorem dW_510 : decode mW.2.1 510 = .ok (.iconst 1, 1) := by decide +kernel
theorem dW_511 : decode mW.2.1 511 = .ok (.iadd, 1) := by decide +kernel
theorem dW_512 : decode mW.2.1 512 = .ok (.iaload, 1) := by decide +kernel
theorem dW_513 : decode mW.2.1 513 = .ok (.aload_n 0, 1) := by decide +kernel
theorem dW_514 : decode mW.2.1 514 = .ok (.iload_n 3, 1) := by decide +kernel
theorem dW_515 : decode mW.2.1 515 = .ok (.iconst 2, 1) := by decide +kernel
theorem dW_516 : decode mW.2.1 516 = .ok (.iadd, 1) := by decide +kernel
theorem dW_517 : decode mW.2.1 517 = .ok (.iaload, 1) := by decide +kernel
theorem dW_518 : decode mW.2.1 518 = .ok (.invokevirtual 56, 3) := by decide +kernel
theorem dW_521 : decode mW.2.1 521 = .ok (.if_icmp .eq 429, 3) := by decide +kernel
theorem dW_524 : decode mW.2.1 524 = .ok (.iconst 0, 1) := by decide +kernel
theorem dW_525 : decode mW.2.1 525 = .ok (.ireturn, 1) := by decide +kernel
theorem dW_526 : decode mW.2.1 526 = .ok (.aload_n 1, 1) := by decide +kernel
theorem dW_527 : decode mW.2.1 527 = .ok (.invokevirtual 57, 3) := by decide +kernel
theorem dW_530 : decode mW.2.1 530 = .ok (.aload_n 2, 1) := by decide +kernel
theorem dW_531 : decode mW.2.1 531 = .ok (.invokevirtual 60, 3) := by decide +kernel
theorem dW_534 : decode mW.2.1 534 = .ok (.if_icmp .eq 416, 3) := by decide +kernel
theorem dW_537 : decode mW.2.1 537 = .ok (.iconst 0, 1) := by decide +kernel
theorem dW_538 : decode mW.2.1 538 = .ok (.ireturn, 1) := by decide +kernel
theorem dW_539 : decode mW.2.1 539 = .ok (.aload_n 1, 1) := by decide +kernel
theorem dW_540 : decode mW.2.1 540 = .ok (.aload_n 0, 1) := by decide +kernel
theorem dW_541 : decode mW.2.1 541 = .ok (.iload_n 3, 1) := by decide +kernel
theorem dW_542 : decode mW.2.1 542 = .ok (.iconst 1, 1) := by decide +kernel
theorem dW_543 : decode mW.2.1 543 = .ok (.iadd, 1) := by decide +kernel
theorem dW_544 : decode mW.2.1 544 = .ok (.iaload, 1) := by decide +kernel
theorem dW_545 : decode mW.2.1 545 = .ok (.aload_n 0, 1) := by decide +kernel
theorem dW_546 : decode mW.2.1 546 = .ok (.iload_n 3, 1) := by decide +kernel
theorem dW_547 : decode mW.2.1 547 = .ok (.iconst 2, 1) := by decide +kernel
theorem dW_548 : decode mW.2.1 548 = .ok (.iadd, 1) := by decide +kernel
theorem dW_549 : decode mW.2.1 549 = .ok (.iaload, 1) := by decide +kernel
theorem dW_550 : decode mW.2.1 550 = .ok (.invokevirtual 61, 3) := by decide +kernel
theorem dW_553 : decode mW.2.1 553 = .ok (.aload_n 2, 1) := by decide +kernel
theorem dW_554 : decode mW.2.1 554 = .ok (.aload_n 0, 1) := by decide +kernel
theorem dW_555 : decode mW.2.1 555 = .ok (.iload_n 3, 1) := by decide +kernel
theorem dW_556 : decode mW.2.1 556 = .ok (.iconst 1, 1) := by decide +kernel
theorem dW_557 : decode mW.2.1 557 = .ok (.iadd, 1) := by decide +kernel
theorem dW_558 : decode mW.2.1 558 = .ok (.iaload, 1) := by decide +kernel
theorem dW_559 : decode mW.2.1 559 = .ok (.aload_n 0, 1) := by decide +kernel
theorem dW_560 : decode mW.2.1 560 = .ok (.iload_n 3, 1) := by decide +kernel
theorem dW_561 : decode mW.2.1 561 = .ok (.iconst 2, 1) := by decide +kernel
theorem dW_562 : decode mW.2.1 562 = .ok (.iadd, 1) := by decide +kernel
theorem dW_563 : decode mW.2.1 563 = .ok (.iaload, 1) := by decide +kernel
theorem dW_564 : decode mW.2.1 564 = .ok (.invokevirtual 64, 3) := by decide +kernel
theorem dW_567 : decode mW.2.1 567 = .ok (.if_icmp .eq 383, 3) := by decide +kernel
theorem dW_570 : decode mW.2.1 570 = .ok (.iconst 0, 1) := by decide +kernel
theorem dW_571 : decode mW.2.1 571 = .ok (.ireturn, 1) := by decide +kernel
theorem dW_572 : decode mW.2.1 572 = .ok (.aload_n 1, 1) := by decide +kernel
theorem dW_573 : decode mW.2.1 573 = .ok (.aload_n 0, 1) := by decide +kernel
theorem dW_574 : decode mW.2.1 574 = .ok (.iload_n 3, 1) := by decide +kernel
theorem dW_575 : decode mW.2.1 575 = .ok (.iconst 1, 1) := by decide +kernel
theorem dW_576 : decode mW.2.1 576 = .ok (.iadd, 1) := by decide +kernel
theorem dW_577 : decode mW.2.1 577 = .ok (.iaload, 1) := by decide +kernel
theorem dW_578 : decode mW.2.1 578 = .ok (.aload_n 0, 1) := by decide +kernel
theorem dW_579 : decode mW.2.1 579 = .ok (.iload_n 3, 1) := by decide +kernel
theorem dW_580 : decode mW.2.1 580 = .ok (.iconst 2, 1) := by decide +kernel
theorem dW_581 : decode mW.2.1 581 = .ok (.iadd, 1) := by decide +kernel
theorem dW_582 : decode mW.2.1 582 = .ok (.iaload, 1) := by decide +kernel
theorem dW_583 : decode mW.2.1 583 = .ok (.invokevirtual 65, 3) := by decide +kernel
theorem dW_586 : decode mW.2.1 586 = .ok (.aload_n 2, 1) := by decide +kernel
theorem dW_587 : decode mW.2.1 587 = .ok (.aload_n 0, 1) := by decide +kernel
theorem dW_588 : decode mW.2.1 588 = .ok (.iload_n 3, 1) := by decide +kernel
theorem dW_589 : decode mW.2.1 589 = .ok (.iconst 1, 1) := by decide +kernel
theorem dW_590 : decode mW.2.1 590 = .ok (.iadd, 1) := by decide +kernel
theorem dW_591 : decode mW.2.1 591 = .ok (.iaload, 1) := by decide +kernel
theorem dW_592 : decode mW.2.1 592 = .ok (.aload_n 0, 1) := by decide +kernel
theorem dW_593 : decode mW.2.1 593 = .ok (.iload_n 3, 1) := by decide +kernel
theorem dW_594 : decode mW.2.1 594 = .ok (.iconst 2, 1) := by decide +kernel
theorem dW_595 : decode mW.2.1 595 = .ok (.iadd, 1) := by decide +kernel
theorem dW_596 : decode mW.2.1 596 = .ok (.iaload, 1) := by decide +kernel
theorem dW_597 : decode mW.2.1 597 = .ok (.invokevirtual 68, 3) := by decide +kernel
theorem dW_600 : decode mW.2.1 600 = .ok (.if_icmp .eq 350, 3) := by decide +kernel
theorem dW_603 : decode mW.2.1 603 = .ok (.iconst 0, 1) := by decide +kernel
theorem dW_604 : decode mW.2.1 604 = .ok (.ireturn, 1) := by decide +kernel
theorem dW_605 : decode mW.2.1 605 = .ok (.aload_n 1, 1) := by decide +kernel
theorem dW_606 : decode mW.2.1 606 = .ok (.invokevirtual 69, 3) := by decide +kernel
theorem dW_609 : decode mW.2.1 609 = .ok (.aload_n 2, 1) := by decide +kernel
theorem dW_610 : decode mW.2.1 610 = .ok (.invokevirtual 72, 3) := by decide +kernel
theorem dW_613 : decode mW.2.1 613 = .ok (.if_icmp .eq 337, 3) := by decide +kernel
theorem dW_616 : decode mW.2.1 616 = .ok (.iconst 0, 1) := by decide +kernel
theorem dW_617 : decode mW.2.1 617 = .ok (.ireturn, 1) := by decide +kernel
theorem dW_618 : decode mW.2.1 618 = .ok (.aload_n 1, 1) := by decide +kernel
theorem dW_619 : decode mW.2.1 619 = .ok (.invokevirtual 73, 3) := by decide +kernel
theorem dW_622 : decode mW.2.1 622 = .ok (.aload_n 2, 1) := by decide +kernel
theorem dW_623 : decode mW.2.1 623 = .ok (.invokevirtual 76, 3) := by decide +kernel
theorem dW_626 : decode mW.2.1 626 = .ok (.if_icmp .eq 324, 3) := by decide +kernel
theorem dW_629 : decode mW.2.1 629 = .ok (.iconst 0, 1) := by decide +kernel
theorem dW_630 : decode mW.2.1 630 = .ok (.ireturn, 1) := by decide +kernel
theorem dW_631 : decode mW.2.1 631 = .ok (.aload_n 1, 1) := by decide +kernel
theorem dW_632 : decode mW.2.1 632 = .ok (.aload_n 0, 1) := by decide +kernel
theorem dW_633 : decode mW.2.1 633 = .ok (.iload_n 3, 1) := by decide +kernel
theorem dW_634 : decode mW.2.1 634 = .ok (.iconst 1, 1) := by decide +kernel
theorem dW_635 : decode mW.2.1 635 = .ok (.iadd, 1) := by decide +kernel
theorem dW_636 : decode mW.2.1 636 = .ok (.iaload, 1) := by decide +kernel
theorem dW_637 : decode mW.2.1 637 = .ok (.aload_n 0, 1) := by decide +kernel
theorem dW_638 : decode mW.2.1 638 = .ok (.iload_n 3, 1) := by decide +kernel
theorem dW_639 : decode mW.2.1 639 = .ok (.iconst 2, 1) := by decide +kernel
theorem dW_640 : decode mW.2.1 640 = .ok (.iadd, 1) := by decide +kernel
theorem dW_641 : decode mW.2.1 641 = .ok (.iaload, 1) := by decide +kernel
theorem dW_642 : decode mW.2.1 642 = .ok (.invokevirtual 77, 3) := by decide +kernel
theorem dW_645 : decode mW.2.1 645 = .ok (.aload_n 2, 1) := by decide +kernel
theorem dW_646 : decode mW.2.1 646 = .ok (.aload_n 0, 1) := by decide +kernel
theorem dW_647 : decode mW.2.1 647 = .ok (.iload_n 3, 1) := by decide +kernel
theorem dW_648 : decode mW.2.1 648 = .ok (.iconst 1, 1) := by decide +kernel
theorem dW_649 : decode mW.2.1 649 = .ok (.iadd, 1) := by decide +kernel
theorem dW_650 : decode mW.2.1 650 = .ok (.iaload, 1) := by decide +kernel
theorem dW_651 : decode mW.2.1 651 = .ok (.aload_n 0, 1) := by decide +kernel
theorem dW_652 : decode mW.2.1 652 = .ok (.iload_n 3, 1) := by decide +kernel
theorem dW_653 : decode mW.2.1 653 = .ok (.iconst 2, 1) := by decide +kernel
theorem dW_654 : decode mW.2.1 654 = .ok (.iadd, 1) := by decide +kernel
theorem dW_655 : decode mW.2.1 655 = .ok (.iaload, 1) := by decide +kernel
theorem dW_656 : decode mW.2.1 656 = .ok (.invokevirtual 80, 3) := by decide +kernel
theorem dW_659 : decode mW.2.1 659 = .ok (.if_icmp .eq 291, 3) := by decide +kernel
theorem dW_662 : decode mW.2.1 662 = .ok (.iconst 0, 1) := by decide +kernel
theorem dW_663 : decode mW.2.1 663 = .ok (.ireturn, 1) := by decide +kernel
theorem dW_664 : decode mW.2.1 664 = .ok (.aload_n 1, 1) := by decide +kernel
theorem dW_665 : decode mW.2.1 665 = .ok (.aload_n 0, 1) := by decide +kernel
theorem dW_666 : decode mW.2.1 666 = .ok (.iload_n 3, 1) := by decide +kernel
theorem dW_667 : decode mW.2.1 667 = .ok (.iconst 1, 1) := by decide +kernel
theorem dW_668 : decode mW.2.1 668 = .ok (.iadd, 1) := by decide +kernel
theorem dW_669 : decode mW.2.1 669 = .ok (.iaload, 1) := by decide +kernel
theorem dW_670 : decode mW.2.1 670 = .ok (.invokevirtual 81, 3) := by decide +kernel
theorem dW_673 : decode mW.2.1 673 = .ok (.aload_n 2, 1) := by decide +kernel
theorem dW_674 : decode mW.2.1 674 = .ok (.aload_n 0, 1) := by decide +kernel
theorem dW_675 : decode mW.2.1 675 = .ok (.iload_n 3, 1) := by decide +kernel
theorem dW_676 : decode mW.2.1 676 = .ok (.iconst 1, 1) := by decide +kernel
theorem dW_677 : decode mW.2.1 677 = .ok (.iadd, 1) := by decide +kernel
theorem dW_678 : decode mW.2.1 678 = .ok (.iaload, 1) := by decide +kernel
theorem dW_679 : decode mW.2.1 679 = .ok (.invokevirtual 85, 3) := by decide +kernel
theorem dW_682 : decode mW.2.1 682 = .ok (.if_icmp .eq 268, 3) := by decide +kernel
theorem dW_685 : decode mW.2.1 685 = .ok (.iconst 0, 1) := by decide +kernel
theorem dW_686 : decode mW.2.1 686 = .ok (.ireturn, 1) := by decide +kernel
theorem dW_687 : decode mW.2.1 687 = .ok (.aload_n 1, 1) := by decide +kernel
theorem dW_688 : decode mW.2.1 688 = .ok (.aload_n 0, 1) := by decide +kernel
theorem dW_689 : decode mW.2.1 689 = .ok (.iload_n 3, 1) := by decide +kernel
theorem dW_690 : decode mW.2.1 690 = .ok (.iconst 1, 1) := by decide +kernel
theorem dW_691 : decode mW.2.1 691 = .ok (.iadd, 1) := by decide +kernel
theorem dW_692 : decode mW.2.1 692 = .ok (.iaload, 1) := by decide +kernel
theorem dW_693 : decode mW.2.1 693 = .ok (.invokevirtual 86, 3) := by decide +kernel
theorem dW_696 : decode mW.2.1 696 = .ok (.aload_n 2, 1) := by decide +kernel
theorem dW_697 : decode mW.2.1 697 = .ok (.aload_n 0, 1) := by decide +kernel
theorem dW_698 : decode mW.2.1 698 = .ok (.iload_n 3, 1) := by decide +kernel
theorem dW_699 : decode mW.2.1 699 = .ok (.iconst 1, 1) := by decide +kernel
theorem dW_700 : decode mW.2.1 700 = .ok (.iadd, 1) := by decide +kernel
theorem dW_701 : decode mW.2.1 701 = .ok (.iaload, 1) := by decide +kernel
theorem dW_702 : decode mW.2.1 702 = .ok (.invokevirtual 89, 3) := by decide +kernel
theorem dW_705 : decode mW.2.1 705 = .ok (.if_icmp .eq 245, 3) := by decide +kernel
theorem dW_708 : decode mW.2.1 708 = .ok (.iconst 0, 1) := by decide +kernel
theorem dW_709 : decode mW.2.1 709 = .ok (.ireturn, 1) := by decide +kernel
theorem dW_710 : decode mW.2.1 710 = .ok (.aload_n 1, 1) := by decide +kernel
theorem dW_711 : decode mW.2.1 711 = .ok (.aload_n 0, 1) := by decide +kernel
theorem dW_712 : decode mW.2.1 712 = .ok (.iload_n 3, 1) := by decide +kernel
theorem dW_713 : decode mW.2.1 713 = .ok (.iconst 1, 1) := by decide +kernel
theorem dW_714 : decode mW.2.1 714 = .ok (.iadd, 1) := by decide +kernel
theorem dW_715 : decode mW.2.1 715 = .ok (.iaload, 1) := by decide +kernel
theorem dW_716 : decode mW.2.1 716 = .ok (.aload_n 0, 1) := by decide +kernel
theorem dW_717 : decode mW.2.1 717 = .ok (.iload_n 3, 1) := by decide +kernel
theorem dW_718 : decode mW.2.1 718 = .ok (.iconst 2, 1) := by decide +kernel
theorem dW_719 : decode mW.2.1 719 = .ok (.iadd, 1) := by decide +kernel
theorem dW_720 : decode mW.2.1 720 = .ok (.iaload, 1) := by decide +kernel
theorem dW_721 : decode mW.2.1 721 = .ok (.invokevirtual 90, 3) := by decide +kernel
theorem dW_724 : decode mW.2.1 724 = .ok (.aload_n 2, 1) := by decide +kernel
theorem dW_725 : decode mW.2.1 725 = .ok (.aload_n 0, 1) := by decide +kernel
theorem dW_726 : decode mW.2.1 726 = .ok (.iload_n 3, 1) := by decide +kernel
theorem dW_727 : decode mW.2.1 727 = .ok (.iconst 1, 1) := by decide +kernel
theorem dW_728 : decode mW.2.1 728 = .ok (.iadd, 1) := by decide +kernel
theorem dW_729 : decode mW.2.1 729 = .ok (.iaload, 1) := by decide +kernel
theorem dW_730 : decode mW.2.1 730 = .ok (.aload_n 0, 1) := by decide +kernel
theorem dW_731 : decode mW.2.1 731 = .ok (.iload_n 3, 1) := by decide +kernel
theorem dW_732 : decode mW.2.1 732 = .ok (.iconst 2, 1) := by decide +kernel
theorem dW_733 : decode mW.2.1 733 = .ok (.iadd, 1) := by decide +kernel
theorem dW_734 : decode mW.2.1 734 = .ok (.iaload, 1) := by decide +kernel
theorem dW_735 : decode mW.2.1 735 = .ok (.invokevirtual 93, 3) := by decide +kernel
theorem dW_738 : decode mW.2.1 738 = .ok (.if_icmp .eq 212, 3) := by decide +kernel
theorem dW_741 : decode mW.2.1 741 = .ok (.iconst 0, 1) := by decide +kernel
theorem dW_742 : decode mW.2.1 742 = .ok (.ireturn, 1) := by decide +kernel
theorem dW_743 : decode mW.2.1 743 = .ok (.aload_n 1, 1) := by decide +kernel
theorem dW_744 : decode mW.2.1 744 = .ok (.aload_n 0, 1) := by decide +kernel
theorem dW_745 : decode mW.2.1 745 = .ok (.iload_n 3, 1) := by decide +kernel
theorem dW_746 : decode mW.2.1 746 = .ok (.iconst 1, 1) := by decide +kernel
theorem dW_747 : decode mW.2.1 747 = .ok (.iadd, 1) := by decide +kernel
theorem dW_748 : decode mW.2.1 748 = .ok (.iaload, 1) := by decide +kernel
theorem dW_749 : decode mW.2.1 749 = .ok (.aload_n 0, 1) := by decide +kernel
theorem dW_750 : decode mW.2.1 750 = .ok (.iload_n 3, 1) := by decide +kernel
theorem dW_751 : decode mW.2.1 751 = .ok (.iconst 2, 1) := by decide +kernel
theorem dW_752 : decode mW.2.1 752 = .ok (.iadd, 1) := by decide +kernel
theorem dW_753 : decode mW.2.1 753 = .ok (.iaload, 1) := by decide +kernel
theorem dW_754 : decode mW.2.1 754 = .ok (.invokevirtual 94, 3) := by decide +kernel
theorem dW_757 : decode mW.2.1 757 = .ok (.aload_n 2, 1) := by decide +kernel
theorem dW_758 : decode mW.2.1 758 = .ok (.aload_n 0, 1) := by decide +kernel
theorem dW_759 : decode mW.2.1 759 = .ok (.iload_n 3, 1) := by decide +kernel
theorem dW_760 : decode mW.2.1 760 = .ok (.iconst 1, 1) := by decide +kernel
theorem dW_761 : decode mW.2.1 761 = .ok (.iadd, 1) := by decide +kernel
theorem dW_762 : decode mW.2.1 762 = .ok (.iaload, 1) := by decide +kernel
theorem dW_763 : decode mW.2.1 763 = .ok (.aload_n 0, 1) := by decide +kernel
theorem dW_764 : decode mW.2.1 764 = .ok (.iload_n 3, 1) := by decide +kernel
theorem dW_765 : decode mW.2.1 765 = .ok (.iconst 2, 1) := by decide +kernel
theorem dW_766 : decode mW.2.1 766 = .ok (.iadd, 1) := by decide +kernel
theorem dW_767 : decode mW.2.1 767 = .ok (.iaload, 1) := by decide +kernel
theorem dW_768 : decode mW.2.1 768 = .ok (.invokevirtual 97, 3) := by decide +kernel
theorem dW_771 : decode mW.2.1 771 = .ok (.if_icmp .eq 179, 3) := by decide +kernel
theorem dW_774 : decode mW.2.1 774 = .ok (.iconst 0, 1) := by decide +kernel
theorem dW_775 : decode mW.2.1 775 = .ok (.ireturn, 1) := by decide +kernel
theorem dW_776 : decode mW.2.1 776 = .ok (.aload_n 1, 1) := by decide +kernel
theorem dW_777 : decode mW.2.1 777 = .ok (.aload_n 0, 1) := by decide +kernel
theorem dW_778 : decode mW.2.1 778 = .ok (.iload_n 3, 1) := by decide +kernel
theorem dW_779 : decode mW.2.1 779 = .ok (.iconst 1, 1) := by decide +kernel
theorem dW_780 : decode mW.2.1 780 = .ok (.iadd, 1) := by decide +kernel
theorem dW_781 : decode mW.2.1 781 = .ok (.iaload, 1) := by decide +kernel
theorem dW_782 : decode mW.2.1 782 = .ok (.aload_n 0, 1) := by decide +kernel
theorem dW_783 : decode mW.2.1 783 = .ok (.iload_n 3, 1) := by decide +kernel
theorem dW_784 : decode mW.2.1 784 = .ok (.iconst 2, 1) := by decide +kernel
theorem dW_785 : decode mW.2.1 785 = .ok (.iadd, 1) := by decide +kernel
theorem dW_786 : decode mW.2.1 786 = .ok (.iaload, 1) := by decide +kernel
theorem dW_787 : decode mW.2.1 787 = .ok (.invokevirtual 98, 3) := by decide +kernel
theorem dW_790 : decode mW.2.1 790 = .ok (.aload_n 2, 1) := by decide +kernel
theorem dW_791 : decode mW.2.1 791 = .ok (.aload_n 0, 1) := by decide +kernel
theorem dW_792 : decode mW.2.1 792 = .ok (.iload_n 3, 1) := by decide +kernel
theorem dW_793 : decode mW.2.1 793 = .ok (.iconst 1, 1) := by decide +kernel
theorem dW_794 : decode mW.2.1 794 = .ok (.iadd, 1) := by decide +kernel
theorem dW_795 : decode mW.2.1 795 = .ok (.iaload, 1) := by decide +kernel
theorem dW_796 : decode mW.2.1 796 = .ok (.aload_n 0, 1) := by decide +kernel
theorem dW_797 : decode mW.2.1 797 = .ok (.iload_n 3, 1) := by decide +kernel
theorem dW_798 : decode mW.2.1 798 = .ok (.iconst 2, 1) := by decide +kernel
theorem dW_799 : decode mW.2.1 799 = .ok (.iadd, 1) := by decide +kernel
theorem dW_800 : decode mW.2.1 800 = .ok (.iaload, 1) := by decide +kernel
theorem dW_801 : decode mW.2.1 801 = .ok (.invokevirtual 101, 3) := by decide +kernel
theorem dW_804 : decode mW.2.1 804 = .ok (.if_icmp .eq 146, 3) := by decide +kernel
theorem dW_807 : decode mW.2.1 807 = .ok (.iconst 0, 1) := by decide +kernel
theorem dW_808 : decode mW.2.1 808 = .ok (.ireturn, 1) := by decide +kernel
theorem dW_809 : decode mW.2.1 809 = .ok (.aload_n 1, 1) := by decide +kernel
theorem dW_810 : decode mW.2.1 810 = .ok (.aload_n 0, 1) := by decide +kernel
theorem dW_811 : decode mW.2.1 811 = .ok (.iload_n 3, 1) := by decide +kernel
theorem dW_812 : decode mW.2.1 812 = .ok (.iconst 1, 1) := by decide +kernel
theorem dW_813 : decode mW.2.1 813 = .ok (.iadd, 1) := by decide +kernel
theorem dW_814 : decode mW.2.1 814 = .ok (.iaload, 1) := by decide +kernel
theorem dW_815 : decode mW.2.1 815 = .ok (.invokevirtual 102, 3) := by decide +kernel
theorem dW_818 : decode mW.2.1 818 = .ok (.aload_n 2, 1) := by decide +kernel
theorem dW_819 : decode mW.2.1 819 = .ok (.aload_n 0, 1) := by decide +kernel
theorem dW_820 : decode mW.2.1 820 = .ok (.iload_n 3, 1) := by decide +kernel
theorem dW_821 : decode mW.2.1 821 = .ok (.iconst 1, 1) := by decide +kernel
theorem dW_822 : decode mW.2.1 822 = .ok (.iadd, 1) := by decide +kernel
theorem dW_823 : decode mW.2.1 823 = .ok (.iaload, 1) := by decide +kernel
theorem dW_824 : decode mW.2.1 824 = .ok (.invokevirtual 105, 3) := by decide +kernel
theorem dW_827 : decode mW.2.1 827 = .ok (.if_icmp .eq 123, 3) := by decide +kernel
theorem dW_830 : decode mW.2.1 830 = .ok (.iconst 0, 1) := by decide +kernel
theorem dW_831 : decode mW.2.1 831 = .ok (.ireturn, 1) := by decide +kernel
theorem dW_832 : decode mW.2.1 832 = .ok (.aload_n 1, 1) := by decide +kernel
theorem dW_833 : decode mW.2.1 833 = .ok (.invokevirtual 106, 3) := by decide +kernel
theorem dW_836 : decode mW.2.1 836 = .ok (.aload_n 2, 1) := by decide +kernel
theorem dW_837 : decode mW.2.1 837 = .ok (.invokevirtual 109, 3) := by decide +kernel
theorem dW_840 : decode mW.2.1 840 = .ok (.if_icmp .eq 110, 3) := by decide +kernel
theorem dW_843 : decode mW.2.1 843 = .ok (.iconst 0, 1) := by decide +kernel
theorem dW_844 : decode mW.2.1 844 = .ok (.ireturn, 1) := by decide +kernel
theorem dW_845 : decode mW.2.1 845 = .ok (.aload_n 1, 1) := by decide +kernel
theorem dW_846 : decode mW.2.1 846 = .ok (.aload_n 0, 1) := by decide +kernel
theorem dW_847 : decode mW.2.1 847 = .ok (.iload_n 3, 1) := by decide +kernel
theorem dW_848 : decode mW.2.1 848 = .ok (.iconst 1, 1) := by decide +kernel
theorem dW_849 : decode mW.2.1 849 = .ok (.iadd, 1) := by decide +kernel
theorem dW_850 : decode mW.2.1 850 = .ok (.iaload, 1) := by decide +kernel
theorem dW_851 : decode mW.2.1 851 = .ok (.aload_n 0, 1) := by decide +kernel
theorem dW_852 : decode mW.2.1 852 = .ok (.iload_n 3, 1) := by decide +kernel
theorem dW_853 : decode mW.2.1 853 = .ok (.iconst 2, 1) := by decide +kernel
theorem dW_854 : decode mW.2.1 854 = .ok (.iadd, 1) := by decide +kernel
theorem dW_855 : decode mW.2.1 855 = .ok (.iaload, 1) := by decide +kernel
theorem dW_856 : decode mW.2.1 856 = .ok (.invokevirtual 110, 3) := by decide +kernel
theorem dW_859 : decode mW.2.1 859 = .ok (.aload_n 2, 1) := by decide +kernel
theorem dW_860 : decode mW.2.1 860 = .ok (.aload_n 0, 1) := by decide +kernel
theorem dW_861 : decode mW.2.1 861 = .ok (.iload_n 3, 1) := by decide +kernel
theorem dW_862 : decode mW.2.1 862 = .ok (.iconst 1, 1) := by decide +kernel
theorem dW_863 : decode mW.2.1 863 = .ok (.iadd, 1) := by decide +kernel
theorem dW_864 : decode mW.2.1 864 = .ok (.iaload, 1) := by decide +kernel
theorem dW_865 : decode mW.2.1 865 = .ok (.aload_n 0, 1) := by decide +kernel
theorem dW_866 : decode mW.2.1 866 = .ok (.iload_n 3, 1) := by decide +kernel
theorem dW_867 : decode mW.2.1 867 = .ok (.iconst 2, 1) := by decide +kernel
theorem dW_868 : decode mW.2.1 868 = .ok (.iadd, 1) := by decide +kernel
theorem dW_869 : decode mW.2.1 869 = .ok (.iaload, 1) := by decide +kernel
theorem dW_870 : decode mW.2.1 870 = .ok (.invokevirtual 113, 3) := by decide +kernel
theorem dW_873 : decode mW.2.1 873 = .ok (.if_icmp .eq 77, 3) := by decide +kernel
theorem dW_876 : decode mW.2.1 876 = .ok (.iconst 0, 1) := by decide +kernel
theorem dW_877 : decode mW.2.1 877 = .ok (.ireturn, 1) := by decide +kernel
theorem dW_878 : decode mW.2.1 878 = .ok (.aload_n 1, 1) := by decide +kernel
theorem dW_879 : decode mW.2.1 879 = .ok (.aload_n 0, 1) := by decide +kernel
theorem dW_880 : decode mW.2.1 880 = .ok (.iload_n 3, 1) := by decide +kernel
theorem dW_881 : decode mW.2.1 881 = .ok (.iconst 1, 1) := by decide +kernel
theorem dW_882 : decode mW.2.1 882 = .ok (.iadd, 1) := by decide +kernel
theorem dW_883 : decode mW.2.1 883 = .ok (.iaload, 1) := by decide +kernel
theorem dW_884 : decode mW.2.1 884 = .ok (.invokevirtual 114, 3) := by decide +kernel
theorem dW_887 : decode mW.2.1 887 = .ok (.aload_n 2, 1) := by decide +kernel
theorem dW_888 : decode mW.2.1 888 = .ok (.aload_n 0, 1) := by decide +kernel
theorem dW_889 : decode mW.2.1 889 = .ok (.iload_n 3, 1) := by decide +kernel
theorem dW_890 : decode mW.2.1 890 = .ok (.iconst 1, 1) := by decide +kernel
theorem dW_891 : decode mW.2.1 891 = .ok (.iadd, 1) := by decide +kernel
theorem dW_892 : decode mW.2.1 892 = .ok (.iaload, 1) := by decide +kernel
theorem dW_893 : decode mW.2.1 893 = .ok (.invokevirtual 117, 3) := by decide +kernel
theorem dW_896 : decode mW.2.1 896 = .ok (.if_icmp .eq 54, 3) := by decide +kernel
theorem dW_899 : decode mW.2.1 899 = .ok (.iconst 0, 1) := by decide +kernel
theorem dW_900 : decode mW.2.1 900 = .ok (.ireturn, 1) := by decide +kernel
theorem dW_901 : decode mW.2.1 901 = .ok (.aload_n 1, 1) := by decide +kernel
theorem dW_902 : decode mW.2.1 902 = .ok (.aload_n 0, 1) := by decide +kernel
theorem dW_903 : decode mW.2.1 903 = .ok (.iload_n 3, 1) := by decide +kernel
theorem dW_904 : decode mW.2.1 904 = .ok (.iconst 1, 1) := by decide +kernel
theorem dW_905 : decode mW.2.1 905 = .ok (.iadd, 1) := by decide +kernel
theorem dW_906 : decode mW.2.1 906 = .ok (.iaload, 1) := by decide +kernel
theorem dW_907 : decode mW.2.1 907 = .ok (.invokevirtual 118, 3) := by decide +kernel
theorem dW_910 : decode mW.2.1 910 = .ok (.aload_n 2, 1) := by decide +kernel
theorem dW_911 : decode mW.2.1 911 = .ok (.aload_n 0, 1) := by decide +kernel
theorem dW_912 : decode mW.2.1 912 = .ok (.iload_n 3, 1) := by decide +kernel
theorem dW_913 : decode mW.2.1 913 = .ok (.iconst 1, 1) := by decide +kernel
theorem dW_914 : decode mW.2.1 914 = .ok (.iadd, 1) := by decide +kernel
theorem dW_915 : decode mW.2.1 915 = .ok (.iaload, 1) := by decide +kernel
theorem dW_916 : decode mW.2.1 916 = .ok (.invokevirtual 121, 3) := by decide +kernel
theorem dW_919 : decode mW.2.1 919 = .ok (.if_icmp .eq 31, 3) := by decide +kernel
theorem dW_922 : decode mW.2.1 922 = .ok (.iconst 0, 1) := by decide +kernel
theorem dW_923 : decode mW.2.1 923 = .ok (.ireturn, 1) := by decide +kernel
theorem dW_924 : decode mW.2.1 924 = .ok (.aload_n 1, 1) := by decide +kernel
theorem dW_925 : decode mW.2.1 925 = .ok (.invokevirtual 122, 3) := by decide +kernel
theorem dW_928 : decode mW.2.1 928 = .ok (.aload_n 2, 1) := by decide +kernel
theorem dW_929 : decode mW.2.1 929 = .ok (.invokevirtual 125, 3) := by decide +kernel
theorem dW_932 : decode mW.2.1 932 = .ok (.if_icmp .eq 18, 3) := by decide +kernel
theorem dW_935 : decode mW.2.1 935 = .ok (.iconst 0, 1) := by decide +kernel
theorem dW_936 : decode mW.2.1 936 = .ok (.ireturn, 1) := by decide +kernel
theorem dW_937 : decode mW.2.1 937 = .ok (.aload_n 1, 1) := by decide +kernel
theorem dW_938 : decode mW.2.1 938 = .ok (.invokevirtual 126, 3) := by decide +kernel
theorem dW_941 : decode mW.2.1 941 = .ok (.aload_n 2, 1) := by decide +kernel
theorem dW_942 : decode mW.2.1 942 = .ok (.invokevirtual 129, 3) := by decide +kernel
theorem dW_945 : decode mW.2.1 945 = .ok (.if_icmp .eq 5, 3) := by decide +kernel
theorem dW_948 : decode mW.2.1 948 = .ok (.iconst 0, 1) := by decide +kernel
theorem dW_949 : decode mW.2.1 949 = .ok (.ireturn, 1) := by decide +kernel
theorem dW_950 : decode mW.2.1 950 = .ok (.iinc 3 4, 3) := by decide +kernel
theorem dW_953 : decode mW.2.1 953 = .ok (.goto (-935), 3) := by decide +kernel
theorem dW_956 : decode mW.2.1 956 = .ok (.iconst 1, 1) := by decide +kernel
theorem dW_957 : decode mW.2.1 957 = .ok (.ireturn, 1) := by decide +kernel
theorem vW_13 : CVw x.cls 13 mX_sheet := ⟨by decide +kernel, by decide +kernel, by decide +kernel⟩
theorem vW_17 : CVw x.cls 17 mM_sheet := ⟨by decide +kernel, by decide +kernel, by decide +kernel⟩
theorem vW_18 : CVw x.cls 18 mX_piece := ⟨by decide +kernel, by decide +kernel, by decide +kernel⟩
theorem vW_22 : CVw x.cls 22 mM_piece := ⟨by decide +kernel, by decide +kernel, by decide +kernel⟩
theorem vW_23 : CVw x.cls 23 mX_drop := ⟨by decide +kernel, by decide +kernel, by decide +kernel⟩
theorem vW_27 : CVw x.cls 27 mM_drop := ⟨by decide +kernel, by decide +kernel, by decide +kernel⟩
theorem vW_28 : CVw x.cls 28 mX_mark := ⟨by decide +kernel, by decide +kernel, by decide +kernel⟩
theorem vW_31 : CVw x.cls 31 mM_mark := ⟨by decide +kernel, by decide +kernel, by decide +kernel⟩
theorem vW_32 : CVw x.cls 32 mX_like := ⟨by decide +kernel, by decide +kernel, by decide +kernel⟩
theorem vW_35 : CVw x.cls 35 mM_like := ⟨by decide +kernel, by decide +kernel, by decide +kernel⟩
theorem vW_36 : CVw x.cls 36 mX_letter := ⟨by decide +kernel, by decide +kernel, by decide +kernel⟩
theorem vW_39 : CVw x.cls 39 mM_letter := ⟨by decide +kernel, by decide +kernel, by decide +kernel⟩
theorem vW_40 : CVw x.cls 40 mX_wear := ⟨by decide +kernel, by decide +kernel, by decide +kernel⟩
theorem vW_43 : CVw x.cls 43 mM_wear := ⟨by decide +kernel, by decide +kernel, by decide +kernel⟩
theorem vW_44 : CVw x.cls 44 mX_dated := ⟨by decide +kernel, by decide +kernel, by decide +kernel⟩
theorem vW_47 : CVw x.cls 47 mM_dated := ⟨by decide +kernel, by decide +kernel, by decide +kernel⟩
theorem vW_48 : CVw x.cls 48 mX_out := ⟨by decide +kernel, by decide +kernel, by decide +kernel⟩
theorem vW_52 : CVw x.cls 52 mM_out := ⟨by decide +kernel, by decide +kernel, by decide +kernel⟩
theorem vW_53 : CVw x.cls 53 mX_bar := ⟨by decide +kernel, by decide +kernel, by decide +kernel⟩
theorem vW_56 : CVw x.cls 56 mM_bar := ⟨by decide +kernel, by decide +kernel, by decide +kernel⟩
theorem vW_57 : CVw x.cls 57 mX_free := ⟨by decide +kernel, by decide +kernel, by decide +kernel⟩
theorem vW_60 : CVw x.cls 60 mM_free := ⟨by decide +kernel, by decide +kernel, by decide +kernel⟩
theorem vW_61 : CVw x.cls 61 mX_of := ⟨by decide +kernel, by decide +kernel, by decide +kernel⟩
theorem vW_64 : CVw x.cls 64 mM_of := ⟨by decide +kernel, by decide +kernel, by decide +kernel⟩
theorem vW_65 : CVw x.cls 65 mX_told := ⟨by decide +kernel, by decide +kernel, by decide +kernel⟩
theorem vW_68 : CVw x.cls 68 mM_told := ⟨by decide +kernel, by decide +kernel, by decide +kernel⟩
theorem vW_69 : CVw x.cls 69 mX_quarrel := ⟨by decide +kernel, by decide +kernel, by decide +kernel⟩
theorem vW_72 : CVw x.cls 72 mM_quarrel := ⟨by decide +kernel, by decide +kernel, by decide +kernel⟩
theorem vW_73 : CVw x.cls 73 mX_layings := ⟨by decide +kernel, by decide +kernel, by decide +kernel⟩
theorem vW_76 : CVw x.cls 76 mM_layings := ⟨by decide +kernel, by decide +kernel, by decide +kernel⟩
theorem vW_77 : CVw x.cls 77 mX_laying := ⟨by decide +kernel, by decide +kernel, by decide +kernel⟩
theorem vW_80 : CVw x.cls 80 mM_laying := ⟨by decide +kernel, by decide +kernel, by decide +kernel⟩
theorem vW_81 : CVw x.cls 81 mX_place := ⟨by decide +kernel, by decide +kernel, by decide +kernel⟩
theorem vW_85 : CVw x.cls 85 mM_place := ⟨by decide +kernel, by decide +kernel, by decide +kernel⟩
theorem vW_86 : CVw x.cls 86 mX_rivals := ⟨by decide +kernel, by decide +kernel, by decide +kernel⟩
theorem vW_89 : CVw x.cls 89 mM_rivals := ⟨by decide +kernel, by decide +kernel, by decide +kernel⟩
theorem vW_90 : CVw x.cls 90 mX_order := ⟨by decide +kernel, by decide +kernel, by decide +kernel⟩
theorem vW_93 : CVw x.cls 93 mM_order := ⟨by decide +kernel, by decide +kernel, by decide +kernel⟩
theorem vW_94 : CVw x.cls 94 mX_known := ⟨by decide +kernel, by decide +kernel, by decide +kernel⟩
theorem vW_97 : CVw x.cls 97 mM_known := ⟨by decide +kernel, by decide +kernel, by decide +kernel⟩
theorem vW_98 : CVw x.cls 98 mX_changes := ⟨by decide +kernel, by decide +kernel, by decide +kernel⟩
theorem vW_101 : CVw x.cls 101 mM_changes := ⟨by decide +kernel, by decide +kernel, by decide +kernel⟩
theorem vW_102 : CVw x.cls 102 mX_breaks := ⟨by decide +kernel, by decide +kernel, by decide +kernel⟩
theorem vW_105 : CVw x.cls 105 mM_breaks := ⟨by decide +kernel, by decide +kernel, by decide +kernel⟩
theorem vW_106 : CVw x.cls 106 mX_inverted := ⟨by decide +kernel, by decide +kernel, by decide +kernel⟩
theorem vW_109 : CVw x.cls 109 mM_inverted := ⟨by decide +kernel, by decide +kernel, by decide +kernel⟩
theorem vW_110 : CVw x.cls 110 mX_span := ⟨by decide +kernel, by decide +kernel, by decide +kernel⟩
theorem vW_113 : CVw x.cls 113 mM_span := ⟨by decide +kernel, by decide +kernel, by decide +kernel⟩
theorem vW_114 : CVw x.cls 114 mX_unseen := ⟨by decide +kernel, by decide +kernel, by decide +kernel⟩
theorem vW_117 : CVw x.cls 117 mM_unseen := ⟨by decide +kernel, by decide +kernel, by decide +kernel⟩
theorem vW_118 : CVw x.cls 118 mX_many := ⟨by decide +kernel, by decide +kernel, by decide +kernel⟩
theorem vW_121 : CVw x.cls 121 mM_many := ⟨by decide +kernel, by decide +kernel, by decide +kernel⟩
theorem vW_122 : CVw x.cls 122 mX_keep := ⟨by decide +kernel, by decide +kernel, by decide +kernel⟩
theorem vW_125 : CVw x.cls 125 mM_keep := ⟨by decide +kernel, by decide +kernel, by decide +kernel⟩
theorem vW_126 : CVw x.cls 126 mX_back := ⟨by decide +kernel, by decide +kernel, by decide +kernel⟩
theorem vW_129 : CVw x.cls 129 mM_back := ⟨by decide +kernel, by decide +kernel, by decide +kernel⟩
section Law
variable {p : Program} {l : Launch} {e : Env} {s : State} {m : MethodId} {below : List Frame} {meth : Method} {c : Code} {b L : Nat} {xs : Nat → Int32} {g : GG}
/-- at a place of the law, with this stack, picture and counter -/
def El (p : Program) (l : Launch) (e : Env) (s : State) (m : MethodId) (below : List Frame) (meth : Method) (c : Code) (b : Nat) (g : GG) (pc : Nat) (S : List AV) (h : Hp) (x3 : Int32) : Prop :=
  ∀ (H : Heap) (locs : List Loc) (ls : Array Slot), va_P g.2.1 cls (wd g h) H → va_D (fun q : Nat => s.heap.size ≤ q) (wd g h) → va_S (fun q : Nat => s.heap.size ≤ q) s.heap H locs → lv_has ls 4 [(0, .ref b), (1, .ref (g.1 0)), (2, .ref (g.1 28)), (3, .int x3)] →
    W p l e room_1 s m #[Value.ref b] below meth c H locs 55 6244 (lw_Z below #[Value.ref b] s) (F0 m pc ls (S.map (cv g)))
theorem wd_addr {h : Hp} {k : Nat} {q : Nat × va_E} (hq : (wd g h)[k]? = some q) : gA g q.1 := by
  unfold wd at hq
  rw [List.getElem?_mapIdx] at hq
  cases hk : lay[k]? with
  | none => rw [hk] at hq; cases hq
  | some sp =>
    rw [hk] at hq
    cases hq
    exact ⟨k, lay_lt hk, rfl⟩
theorem wd_in {h : Hp} {A : Nat → Prop} (hD : va_D A (wd g h)) : ∀ q, gA g q → A q := by
  intro q hq
  obtain ⟨k, hk, rfl⟩ := hq
  have hk2 : k < lay.length := hk
  have h1 := hD.2 k _ (wd_at g h (List.getElem?_eq_getElem hk2))
  exact h1
theorem cx_law (C0 : lw_At p s m meth c b L xs) : Cx mW p s m #[Value.ref b] meth c := by
  obtain ⟨hx, hb, hr, hml, hown, hts, hX, hbl, hlocks, hgv⟩ := C0
  exact ⟨hx, hb, hr, hml, hown, fun w hw => hts w (tbl_sub hw), hlocks, fun w hw => va_Nw.of (nest_on w hw) (hts w (nest_in w hw))⟩
variable {pc : Nat} {S S0 : List AV} {h : Hp} {x3 : Int32}
theorem el_this1 (C0 : lw_At p s m meth c b L xs) (hd : decode mW.2.1 pc = .ok (.aload_n 1, 1)) (k : El p l e s m below meth c b g (pc + 1) (.inr 0 :: S) h x3) : El p l e s m below meth c b g pc S h x3 := by
  intro H locs ls hP hD hS hl
  exact lv_aload_n C0.1 C0.2.1 hd rfl (lv_at hl 1 rfl) (k H locs ls hP hD hS hl)
theorem el_this2 (C0 : lw_At p s m meth c b L xs) (hd : decode mW.2.1 pc = .ok (.aload_n 2, 1)) (k : El p l e s m below meth c b g (pc + 1) (.inr 28 :: S) h x3) : El p l e s m below meth c b g pc S h x3 := by
  intro H locs ls hP hD hS hl
  exact lv_aload_n C0.1 C0.2.1 hd rfl (lv_at hl 2 rfl) (k H locs ls hP hD hS hl)
/-- the script's int at j places behind the counter -/
theorem el_arg (C0 : lw_At p s m meth c b L xs) {i j : Nat} {n : Int} (hi : x3 = nI i) (hj : i + j < L) (hL : L ≤ 2048) (hn : Int32.ofInt n = nI j) (h1 : decode mW.2.1 pc = .ok (.aload_n 0, 1)) (h2 : decode mW.2.1 (pc + 1) = .ok (.iload_n 3, 1)) (h3 : decode mW.2.1 (pc + 2) = .ok (.iconst n, 1)) (h4 : decode mW.2.1 (pc + 3) = .ok (.iadd, 1)) (h5 : decode mW.2.1 (pc + 4) = .ok (.iaload, 1))
    (k : El p l e s m below meth c b g (pc + 5) (.inl (xs (i + j)) :: S) h x3) : El p l e s m below meth c b g pc S h x3 := by
  intro H locs ls hP hD hS hl
  obtain ⟨hx, hb, hr, hml, hown, hts, hX, hbl, hlocks, hgv⟩ := id C0
  have hbA : ¬ (fun q : Nat => s.heap.size ≤ q) b := Nat.not_le.mpr hbl
  refine lv_aload_n hx hb h1 rfl (lv_at hl 0 rfl) ?_
  refine lv_iload_n hx hb h2 rfl (lv_at hl 3 rfl) ?_
  refine lv_iconst (v := nI j) hx hb h3 hn ?_
  refine lv_iadd hx hb h4 ?_
  have hij : x3 + nI j = nI (i + j) := by rw [hi, nI_add]
  rw [hij]
  refine va_sld hx hb hX hbl hbA hS (vp_in_nI hj (by omega)) h5 ?_
  rw [nI_clamp (by omega)]
  exact k H locs ls hP hD hS hl
theorem el_call (C0 : lw_At p s m meth c b L xs) (hK : va_K g.2.1 cls (tyG g) s) {i n d2 k ci : Nat} {Z : MI} {As : List AV} {q : vw_C} {fs : List (Option Nat)} {ty : FieldType} {p1 : Int32 → Hp → Prop} (hd : decode mW.2.1 pc = .ok (.invokevirtual i, 3)) (hc : CVw x.cls i Z) (hz : ZW Z n) (hn : As.length = n) (hk : lay[k]? = some (.inr (ci, fs))) (hq : cls[ci]? = some q) (hqz : q.1 = Z.1.cls) (hr : S.length ≤ 8) (hdz : d2 ≤ 40) (hS0 : As.reverse ++ .inr k :: S = S0) (hret : Z.2.2.2 = some ty) (hm : Mt Z d2 (.inr k :: As) h p1)
    (kk : ∀ r u, p1 r u → El p l e s m below meth c b g (pc + 3) (.inl r :: S) u x3) : El p l e s m below meth c b g pc S0 h x3 := by
  intro H locs ls hP hD hS hl
  subst hS0
  have C := cx_law C0
  have hts := C.2.2.2.2.2.1
  have hDg : va_D (gA g) (wd g h) := hD.weaken (fun k q hq _ => wd_addr hq)
  have hG := wd_in hD
  have hml21 := hz.2.2.2
  have hrun : va_Run p l e room_1 s m #[Value.ref b] below meth c H locs 55 6244 0 0 (F0 m pc ls ((As.reverse ++ .inr k :: S).map (cv g))) (S.map (cv g)) (QQ Z.2.2.2 p1 g ((.inr k :: As).map (cv g)).toArray) (gA g) := by
    refine va_runV (As := As.map (cv g)) (C := Z.1.cls) (index := i) (bytes := Z.2.1) (maxL := Z.2.2.1) (ret := Z.2.2.2) (n := n) (own := x.cls) ⟨C.1, C.2.1, C.2.2.2.1, C.2.2.2.2.1, hts⟩ (hm l g) (cwV n hts (fun w hw => ?_) rfl rfl rfl ⟨rfl, hz.2.2.1⟩ ⟨?_, ?_⟩) ⟨blind _ h g, ?_, fun U hU hW => ⟨rfl, ⟨by rw [hU]; exact hP, va_K.moved hW.alike hK, hDg⟩, NN.warm hW C.2.2.2.2.2.2.2⟩⟩ rfl (by simpa using hn) hl.1 ?_ ?_ hd ⟨Nat.le_of_ble_eq_true rfl, Nat.le_of_ble_eq_true rfl⟩
    · unfold wsV at hw
      rcases List.mem_append.mp hw with h1 | h1
      · simp only [List.mem_cons, List.not_mem_nil, or_false] at h1
        rcases h1 with rfl | rfl | rfl | rfl
        · exact ⟨tbl_in hc.1 rfl, Or.inl rfl⟩
        · exact ⟨tbl_in hc.2.1 rfl, Or.inl rfl⟩
        · exact ⟨tbl_in hc.2.2 rfl, Or.inl rfl⟩
        · exact ⟨hz.2.1, Or.inl rfl⟩
      · exact good_ws hz w h1
    · show d2 + 1 ≤ 2048
      omega
    · show 8 + (Z.2.2.1 + 11) + 40 * d2 ≤ 84000
      omega
    · rw [← hqz]
      exact va_recv hK hP hq (wd_at g h hk)
    · simp [cv]
    · exact lv_room (by rw [cat_sum]; exact hr)
  rw [hret] at hrun
  refine va_calli (a := #[]) hrun hS (fun q _ h => hG q h) (fun q h => hG q h) (fun r u t H1 locs1 ht hvm hw hB hz1 hk1 hS1 => ?_)
  exact kk r u hw H1 locs1 ls (by rw [← ht]; exact hB.1) (hB.2.2.weaken (fun k q hq h => hG _ h)) hS1 hl
theorem el_eq (C0 : lw_At p s m meth c b L xs) {r : Int32} {off : Int} {tgt : Nat} (hd : decode mW.2.1 pc = .ok (.if_icmp .eq off, 3)) (ht : (pc : Int) + off = (tgt : Int)) (k : El p l e s m below meth c b g tgt S h x3) : El p l e s m below meth c b g pc (.inl r :: .inl r :: S) h x3 := by
  intro H locs ls hP hD hS hl
  exact lv_icmp_eq C0.1 C0.2.1 hd ht (fun _ => k H locs ls hP hD hS hl) (fun hn => absurd rfl hn)
/-- a number as yes or no -/
theorem el_bool (C0 : lw_At p s m meth c b L xs) {v : Int32} (h1 : decode mW.2.1 pc = .ok (.ifCond .eq 7, 3)) (h2 : decode mW.2.1 (pc + 3) = .ok (.iconst 1, 1)) (h3 : decode mW.2.1 (pc + 4) = .ok (.goto 4, 3)) (h4 : decode mW.2.1 (pc + 7) = .ok (.iconst 0, 1)) (k : El p l e s m below meth c b g (pc + 8) (.inl (if v = 0 then 0 else 1) :: S) h x3) : El p l e s m below meth c b g pc (.inl v :: S) h x3 := by
  intro H locs ls hP hD hS hl
  refine lv_if_eq (tgt := pc + 7) C0.1 C0.2.1 h1 (by omega) (fun hv => ?_) (fun hv => ?_)
  · rw [if_pos hv] at k
    exact lv_iconst (v := 0) C0.1 C0.2.1 h4 (by decide) (k H locs ls hP hD hS hl)
  · rw [if_neg hv] at k
    refine lv_iconst (v := 1) C0.1 C0.2.1 h2 (by decide) ?_
    exact lv_goto (tgt := pc + 8) C0.1 C0.2.1 h3 (by omega) (k H locs ls hP hD hS hl)
set_option maxHeartbeats 4000000 in
set_option maxRecDepth 100000 in
theorem lc_0 (C0 : lw_At p s m meth c b L xs) (hK : va_K g.2.1 cls (tyG g) s) {Inv : Hp → Prop} {i : Nat} (hi : x3 = nI i) (hj : i + 4 ≤ L) (hL : L ≤ 2048) (hA : Agree Inv (fun h => fX_sheet h (xs (i + 1)) (xs (i + 2))) (fun h => fM_sheet h (xs (i + 1)) (xs (i + 2)))) (hI : Inv h) (kk : ∀ u, Inv u → El p l e s m below meth c b g 950 [] u x3) : El p l e s m below meth c b g 160 [] h x3 := by
  obtain ⟨r, h1, h2, e1, e2, hI2⟩ := hA h hI
  refine el_this1 (pc := 160) C0 dW_160 ?_
  refine el_arg (pc := 161) (j := 1) C0 hi (by omega) hL (by decide) dW_161 dW_162 dW_163 dW_164 dW_165 ?_
  refine el_arg (pc := 166) (j := 2) C0 hi (by omega) hL (by decide) dW_166 dW_167 dW_168 dW_169 dW_170 ?_
  refine el_call (pc := 171) (As := [.inl (xs (i + 1)), .inl (xs (i + 2))]) (S := []) (d2 := 1) C0 hK dW_171 vW_13 zX_sheet rfl rfl rfl rfl (Nat.le_of_ble_eq_true rfl) (by decide) rfl rfl (cX_sheet (post := fun z u => z = r ∧ u = h1) (by rw [show fX_sheet _ (xs (i + 1)) (xs (i + 2)) = _ from e1]; exact ⟨rfl, rfl⟩)) (fun r1 u1 hu => ?_)
  obtain ⟨rfl, rfl⟩ := hu
  refine el_this2 (pc := 174) C0 dW_174 ?_
  refine el_arg (pc := 175) (j := 1) C0 hi (by omega) hL (by decide) dW_175 dW_176 dW_177 dW_178 dW_179 ?_
  refine el_arg (pc := 180) (j := 2) C0 hi (by omega) hL (by decide) dW_180 dW_181 dW_182 dW_183 dW_184 ?_
  refine el_call (pc := 185) (As := [.inl (xs (i + 1)), .inl (xs (i + 2))]) (S := [.inl r1]) (d2 := 1) C0 hK dW_185 vW_17 zM_sheet rfl rfl rfl rfl (Nat.le_of_ble_eq_true rfl) (by decide) rfl rfl (cM_sheet (post := fun z u => z = r1 ∧ u = h2) (by rw [show fM_sheet _ (xs (i + 1)) (xs (i + 2)) = _ from e2]; exact ⟨rfl, rfl⟩)) (fun r2 u2 hu => ?_)
  obtain ⟨rfl, rfl⟩ := hu
  refine el_eq (pc := 188) (tgt := 950) C0 dW_188 (by decide) ?_
  exact kk _ hI2
set_option maxHeartbeats 4000000 in
set_option maxRecDepth 100000 in
theorem lc_1 (C0 : lw_At p s m meth c b L xs) (hK : va_K g.2.1 cls (tyG g) s) {Inv : Hp → Prop} {i : Nat} (hi : x3 = nI i) (hj : i + 4 ≤ L) (hL : L ≤ 2048) (hA : Agree Inv (fun h => fX_piece h (xs (i + 1)) (xs (i + 2)) (xs (i + 3))) (fun h => fM_piece h (xs (i + 1)) (xs (i + 2)) (xs (i + 3)))) (hI : Inv h) (kk : ∀ u, Inv u → El p l e s m below meth c b g 950 [] u x3) : El p l e s m below meth c b g 193 [] h x3 := by
  obtain ⟨r, h1, h2, e1, e2, hI2⟩ := hA h hI
  refine el_this1 (pc := 193) C0 dW_193 ?_
  refine el_arg (pc := 194) (j := 1) C0 hi (by omega) hL (by decide) dW_194 dW_195 dW_196 dW_197 dW_198 ?_
  refine el_arg (pc := 199) (j := 2) C0 hi (by omega) hL (by decide) dW_199 dW_200 dW_201 dW_202 dW_203 ?_
  refine el_arg (pc := 204) (j := 3) C0 hi (by omega) hL (by decide) dW_204 dW_205 dW_206 dW_207 dW_208 ?_
  refine el_call (pc := 209) (As := [.inl (xs (i + 1)), .inl (xs (i + 2)), .inl (xs (i + 3))]) (S := []) (d2 := 2) C0 hK dW_209 vW_18 zX_piece rfl rfl rfl rfl (Nat.le_of_ble_eq_true rfl) (by decide) rfl rfl (cX_piece (post := fun z u => z = r ∧ u = h1) (by rw [show fX_piece _ (xs (i + 1)) (xs (i + 2)) (xs (i + 3)) = _ from e1]; exact ⟨rfl, rfl⟩)) (fun r1 u1 hu => ?_)
  obtain ⟨rfl, rfl⟩ := hu
  refine el_this2 (pc := 212) C0 dW_212 ?_
  refine el_arg (pc := 213) (j := 1) C0 hi (by omega) hL (by decide) dW_213 dW_214 dW_215 dW_216 dW_217 ?_
  refine el_arg (pc := 218) (j := 2) C0 hi (by omega) hL (by decide) dW_218 dW_219 dW_220 dW_221 dW_222 ?_
  refine el_arg (pc := 223) (j := 3) C0 hi (by omega) hL (by decide) dW_223 dW_224 dW_225 dW_226 dW_227 ?_
  refine el_call (pc := 228) (As := [.inl (xs (i + 1)), .inl (xs (i + 2)), .inl (xs (i + 3))]) (S := [.inl r1]) (d2 := 1) C0 hK dW_228 vW_22 zM_piece rfl rfl rfl rfl (Nat.le_of_ble_eq_true rfl) (by decide) rfl rfl (cM_piece (post := fun z u => z = r1 ∧ u = h2) (by rw [show fM_piece _ (xs (i + 1)) (xs (i + 2)) (xs (i + 3)) = _ from e2]; exact ⟨rfl, rfl⟩)) (fun r2 u2 hu => ?_)
  obtain ⟨rfl, rfl⟩ := hu
  refine el_eq (pc := 231) (tgt := 950) C0 dW_231 (by decide) ?_
  exact kk _ hI2
set_option maxHeartbeats 4000000 in
set_option maxRecDepth 100000 in
theorem lc_2 (C0 : lw_At p s m meth c b L xs) (hK : va_K g.2.1 cls (tyG g) s) {Inv : Hp → Prop} {i : Nat} (hi : x3 = nI i) (hj : i + 4 ≤ L) (hL : L ≤ 2048) (hA : Agree Inv (fun h => fX_drop h ) (fun h => fM_drop h )) (hI : Inv h) (kk : ∀ u, Inv u → El p l e s m below meth c b g 950 [] u x3) : El p l e s m below meth c b g 236 [] h x3 := by
  obtain ⟨r, h1, h2, e1, e2, hI2⟩ := hA h hI
  refine el_this1 (pc := 236) C0 dW_236 ?_
  refine el_call (pc := 237) (As := []) (S := []) (d2 := 2) C0 hK dW_237 vW_23 zX_drop rfl rfl rfl rfl (Nat.le_of_ble_eq_true rfl) (by decide) rfl rfl (cX_drop (post := fun z u => z = r ∧ u = h1) (by rw [show fX_drop _  = _ from e1]; exact ⟨rfl, rfl⟩)) (fun r1 u1 hu => ?_)
  obtain ⟨rfl, rfl⟩ := hu
  refine el_this2 (pc := 240) C0 dW_240 ?_
  refine el_call (pc := 241) (As := []) (S := [.inl r1]) (d2 := 0) C0 hK dW_241 vW_27 zM_drop rfl rfl rfl rfl (Nat.le_of_ble_eq_true rfl) (by decide) rfl rfl (cM_drop (post := fun z u => z = r1 ∧ u = h2) (by rw [show fM_drop _  = _ from e2]; exact ⟨rfl, rfl⟩)) (fun r2 u2 hu => ?_)
  obtain ⟨rfl, rfl⟩ := hu
  refine el_eq (pc := 244) (tgt := 950) C0 dW_244 (by decide) ?_
  exact kk _ hI2
set_option maxHeartbeats 4000000 in
set_option maxRecDepth 100000 in
theorem lc_3 (C0 : lw_At p s m meth c b L xs) (hK : va_K g.2.1 cls (tyG g) s) {Inv : Hp → Prop} {i : Nat} (hi : x3 = nI i) (hj : i + 4 ≤ L) (hL : L ≤ 2048) (hA : Agree Inv (fun h => fX_mark h (xs (i + 1)) (xs (i + 2)) (xs (i + 3))) (fun h => fM_mark h (xs (i + 1)) (xs (i + 2)) (xs (i + 3)))) (hI : Inv h) (kk : ∀ u, Inv u → El p l e s m below meth c b g 950 [] u x3) : El p l e s m below meth c b g 249 [] h x3 := by
  obtain ⟨r, h1, h2, e1, e2, hI2⟩ := hA h hI
  refine el_this1 (pc := 249) C0 dW_249 ?_
  refine el_arg (pc := 250) (j := 1) C0 hi (by omega) hL (by decide) dW_250 dW_251 dW_252 dW_253 dW_254 ?_
  refine el_arg (pc := 255) (j := 2) C0 hi (by omega) hL (by decide) dW_255 dW_256 dW_257 dW_258 dW_259 ?_
  refine el_arg (pc := 260) (j := 3) C0 hi (by omega) hL (by decide) dW_260 dW_261 dW_262 dW_263 dW_264 ?_
  refine el_call (pc := 265) (As := [.inl (xs (i + 1)), .inl (xs (i + 2)), .inl (xs (i + 3))]) (S := []) (d2 := 2) C0 hK dW_265 vW_28 zX_mark rfl rfl rfl rfl (Nat.le_of_ble_eq_true rfl) (by decide) rfl rfl (cX_mark (post := fun z u => z = r ∧ u = h1) (by rw [show fX_mark _ (xs (i + 1)) (xs (i + 2)) (xs (i + 3)) = _ from e1]; exact ⟨rfl, rfl⟩)) (fun r1 u1 hu => ?_)
  obtain ⟨rfl, rfl⟩ := hu
  refine el_this2 (pc := 268) C0 dW_268 ?_
  refine el_arg (pc := 269) (j := 1) C0 hi (by omega) hL (by decide) dW_269 dW_270 dW_271 dW_272 dW_273 ?_
  refine el_arg (pc := 274) (j := 2) C0 hi (by omega) hL (by decide) dW_274 dW_275 dW_276 dW_277 dW_278 ?_
  refine el_arg (pc := 279) (j := 3) C0 hi (by omega) hL (by decide) dW_279 dW_280 dW_281 dW_282 dW_283 ?_
  refine el_call (pc := 284) (As := [.inl (xs (i + 1)), .inl (xs (i + 2)), .inl (xs (i + 3))]) (S := [.inl r1]) (d2 := 2) C0 hK dW_284 vW_31 zM_mark rfl rfl rfl rfl (Nat.le_of_ble_eq_true rfl) (by decide) rfl rfl (cM_mark (post := fun z u => z = r1 ∧ u = h2) (by rw [show fM_mark _ (xs (i + 1)) (xs (i + 2)) (xs (i + 3)) = _ from e2]; exact ⟨rfl, rfl⟩)) (fun r2 u2 hu => ?_)
  obtain ⟨rfl, rfl⟩ := hu
  refine el_eq (pc := 287) (tgt := 950) C0 dW_287 (by decide) ?_
  exact kk _ hI2
set_option maxHeartbeats 4000000 in
set_option maxRecDepth 100000 in
theorem lc_4 (C0 : lw_At p s m meth c b L xs) (hK : va_K g.2.1 cls (tyG g) s) {Inv : Hp → Prop} {i : Nat} (hi : x3 = nI i) (hj : i + 4 ≤ L) (hL : L ≤ 2048) (hA : Agree Inv (fun h => fX_like h (xs (i + 1)) (xs (i + 2))) (fun h => fM_like h (xs (i + 1)) (xs (i + 2)))) (hI : Inv h) (kk : ∀ u, Inv u → El p l e s m below meth c b g 950 [] u x3) : El p l e s m below meth c b g 292 [] h x3 := by
  obtain ⟨r, h1, h2, e1, e2, hI2⟩ := hA h hI
  refine el_this1 (pc := 292) C0 dW_292 ?_
  refine el_arg (pc := 293) (j := 1) C0 hi (by omega) hL (by decide) dW_293 dW_294 dW_295 dW_296 dW_297 ?_
  refine el_arg (pc := 298) (j := 2) C0 hi (by omega) hL (by decide) dW_298 dW_299 dW_300 dW_301 dW_302 ?_
  refine el_call (pc := 303) (As := [.inl (xs (i + 1)), .inl (xs (i + 2))]) (S := []) (d2 := 2) C0 hK dW_303 vW_32 zX_like rfl rfl rfl rfl (Nat.le_of_ble_eq_true rfl) (by decide) rfl rfl (cX_like (post := fun z u => z = r ∧ u = h1) (by rw [show fX_like _ (xs (i + 1)) (xs (i + 2)) = _ from e1]; exact ⟨rfl, rfl⟩)) (fun r1 u1 hu => ?_)
  obtain ⟨rfl, rfl⟩ := hu
  refine el_this2 (pc := 306) C0 dW_306 ?_
  refine el_arg (pc := 307) (j := 1) C0 hi (by omega) hL (by decide) dW_307 dW_308 dW_309 dW_310 dW_311 ?_
  refine el_arg (pc := 312) (j := 2) C0 hi (by omega) hL (by decide) dW_312 dW_313 dW_314 dW_315 dW_316 ?_
  refine el_call (pc := 317) (As := [.inl (xs (i + 1)), .inl (xs (i + 2))]) (S := [.inl r1]) (d2 := 2) C0 hK dW_317 vW_35 zM_like rfl rfl rfl rfl (Nat.le_of_ble_eq_true rfl) (by decide) rfl rfl (cM_like (post := fun z u => z = r1 ∧ u = h2) (by rw [show fM_like _ (xs (i + 1)) (xs (i + 2)) = _ from e2]; exact ⟨rfl, rfl⟩)) (fun r2 u2 hu => ?_)
  obtain ⟨rfl, rfl⟩ := hu
  refine el_eq (pc := 320) (tgt := 950) C0 dW_320 (by decide) ?_
  exact kk _ hI2
set_option maxHeartbeats 4000000 in
set_option maxRecDepth 100000 in
theorem lc_5 (C0 : lw_At p s m meth c b L xs) (hK : va_K g.2.1 cls (tyG g) s) {Inv : Hp → Prop} {i : Nat} (hi : x3 = nI i) (hj : i + 4 ≤ L) (hL : L ≤ 2048) (hA : Agree Inv (fun h => fX_letter h (xs (i + 1)) (xs (i + 2)) (xs (i + 3))) (fun h => fM_letter h (xs (i + 1)) (xs (i + 2)) (xs (i + 3)))) (hI : Inv h) (kk : ∀ u, Inv u → El p l e s m below meth c b g 950 [] u x3) : El p l e s m below meth c b g 325 [] h x3 := by
  obtain ⟨r, h1, h2, e1, e2, hI2⟩ := hA h hI
  refine el_this1 (pc := 325) C0 dW_325 ?_
  refine el_arg (pc := 326) (j := 1) C0 hi (by omega) hL (by decide) dW_326 dW_327 dW_328 dW_329 dW_330 ?_
  refine el_arg (pc := 331) (j := 2) C0 hi (by omega) hL (by decide) dW_331 dW_332 dW_333 dW_334 dW_335 ?_
  refine el_arg (pc := 336) (j := 3) C0 hi (by omega) hL (by decide) dW_336 dW_337 dW_338 dW_339 dW_340 ?_
  refine el_call (pc := 341) (As := [.inl (xs (i + 1)), .inl (xs (i + 2)), .inl (xs (i + 3))]) (S := []) (d2 := 2) C0 hK dW_341 vW_36 zX_letter rfl rfl rfl rfl (Nat.le_of_ble_eq_true rfl) (by decide) rfl rfl (cX_letter (post := fun z u => z = r ∧ u = h1) (by rw [show fX_letter _ (xs (i + 1)) (xs (i + 2)) (xs (i + 3)) = _ from e1]; exact ⟨rfl, rfl⟩)) (fun r1 u1 hu => ?_)
  obtain ⟨rfl, rfl⟩ := hu
  refine el_this2 (pc := 344) C0 dW_344 ?_
  refine el_arg (pc := 345) (j := 1) C0 hi (by omega) hL (by decide) dW_345 dW_346 dW_347 dW_348 dW_349 ?_
  refine el_arg (pc := 350) (j := 2) C0 hi (by omega) hL (by decide) dW_350 dW_351 dW_352 dW_353 dW_354 ?_
  refine el_arg (pc := 355) (j := 3) C0 hi (by omega) hL (by decide) dW_355 dW_356 dW_357 dW_358 dW_359 ?_
  refine el_call (pc := 360) (As := [.inl (xs (i + 1)), .inl (xs (i + 2)), .inl (xs (i + 3))]) (S := [.inl r1]) (d2 := 2) C0 hK dW_360 vW_39 zM_letter rfl rfl rfl rfl (Nat.le_of_ble_eq_true rfl) (by decide) rfl rfl (cM_letter (post := fun z u => z = r1 ∧ u = h2) (by rw [show fM_letter _ (xs (i + 1)) (xs (i + 2)) (xs (i + 3)) = _ from e2]; exact ⟨rfl, rfl⟩)) (fun r2 u2 hu => ?_)
  obtain ⟨rfl, rfl⟩ := hu
  refine el_eq (pc := 363) (tgt := 950) C0 dW_363 (by decide) ?_
  exact kk _ hI2
set_option maxHeartbeats 4000000 in
set_option maxRecDepth 100000 in
theorem lc_6 (C0 : lw_At p s m meth c b L xs) (hK : va_K g.2.1 cls (tyG g) s) {Inv : Hp → Prop} {i : Nat} (hi : x3 = nI i) (hj : i + 4 ≤ L) (hL : L ≤ 2048) (hA : Agree Inv (fun h => fX_wear h (xs (i + 1)) (xs (i + 2))) (fun h => fM_wear h (xs (i + 1)) (xs (i + 2)))) (hI : Inv h) (kk : ∀ u, Inv u → El p l e s m below meth c b g 950 [] u x3) : El p l e s m below meth c b g 368 [] h x3 := by
  obtain ⟨r, h1, h2, e1, e2, hI2⟩ := hA h hI
  refine el_this1 (pc := 368) C0 dW_368 ?_
  refine el_arg (pc := 369) (j := 1) C0 hi (by omega) hL (by decide) dW_369 dW_370 dW_371 dW_372 dW_373 ?_
  refine el_arg (pc := 374) (j := 2) C0 hi (by omega) hL (by decide) dW_374 dW_375 dW_376 dW_377 dW_378 ?_
  refine el_call (pc := 379) (As := [.inl (xs (i + 1)), .inl (xs (i + 2))]) (S := []) (d2 := 2) C0 hK dW_379 vW_40 zX_wear rfl rfl rfl rfl (Nat.le_of_ble_eq_true rfl) (by decide) rfl rfl (cX_wear (post := fun z u => z = r ∧ u = h1) (by rw [show fX_wear _ (xs (i + 1)) (xs (i + 2)) = _ from e1]; exact ⟨rfl, rfl⟩)) (fun r1 u1 hu => ?_)
  obtain ⟨rfl, rfl⟩ := hu
  refine el_this2 (pc := 382) C0 dW_382 ?_
  refine el_arg (pc := 383) (j := 1) C0 hi (by omega) hL (by decide) dW_383 dW_384 dW_385 dW_386 dW_387 ?_
  refine el_arg (pc := 388) (j := 2) C0 hi (by omega) hL (by decide) dW_388 dW_389 dW_390 dW_391 dW_392 ?_
  refine el_call (pc := 393) (As := [.inl (xs (i + 1)), .inl (xs (i + 2))]) (S := [.inl r1]) (d2 := 2) C0 hK dW_393 vW_43 zM_wear rfl rfl rfl rfl (Nat.le_of_ble_eq_true rfl) (by decide) rfl rfl (cM_wear (post := fun z u => z = r1 ∧ u = h2) (by rw [show fM_wear _ (xs (i + 1)) (xs (i + 2)) = _ from e2]; exact ⟨rfl, rfl⟩)) (fun r2 u2 hu => ?_)
  obtain ⟨rfl, rfl⟩ := hu
  refine el_eq (pc := 396) (tgt := 950) C0 dW_396 (by decide) ?_
  exact kk _ hI2
set_option maxHeartbeats 4000000 in
set_option maxRecDepth 100000 in
theorem lc_7 (C0 : lw_At p s m meth c b L xs) (hK : va_K g.2.1 cls (tyG g) s) {Inv : Hp → Prop} {i : Nat} (hi : x3 = nI i) (hj : i + 4 ≤ L) (hL : L ≤ 2048) (hA : Agree Inv (fun h => fX_dated h (xs (i + 1)) (xs (i + 2)) (xs (i + 3))) (fun h => fM_dated h (xs (i + 1)) (xs (i + 2)) (xs (i + 3)))) (hI : Inv h) (kk : ∀ u, Inv u → El p l e s m below meth c b g 950 [] u x3) : El p l e s m below meth c b g 401 [] h x3 := by
  obtain ⟨r, h1, h2, e1, e2, hI2⟩ := hA h hI
  refine el_this1 (pc := 401) C0 dW_401 ?_
  refine el_arg (pc := 402) (j := 1) C0 hi (by omega) hL (by decide) dW_402 dW_403 dW_404 dW_405 dW_406 ?_
  refine el_arg (pc := 407) (j := 2) C0 hi (by omega) hL (by decide) dW_407 dW_408 dW_409 dW_410 dW_411 ?_
  refine el_arg (pc := 412) (j := 3) C0 hi (by omega) hL (by decide) dW_412 dW_413 dW_414 dW_415 dW_416 ?_
  refine el_call (pc := 417) (As := [.inl (xs (i + 1)), .inl (xs (i + 2)), .inl (xs (i + 3))]) (S := []) (d2 := 2) C0 hK dW_417 vW_44 zX_dated rfl rfl rfl rfl (Nat.le_of_ble_eq_true rfl) (by decide) rfl rfl (cX_dated (post := fun z u => z = r ∧ u = h1) (by rw [show fX_dated _ (xs (i + 1)) (xs (i + 2)) (xs (i + 3)) = _ from e1]; exact ⟨rfl, rfl⟩)) (fun r1 u1 hu => ?_)
  obtain ⟨rfl, rfl⟩ := hu
  refine el_this2 (pc := 420) C0 dW_420 ?_
  refine el_arg (pc := 421) (j := 1) C0 hi (by omega) hL (by decide) dW_421 dW_422 dW_423 dW_424 dW_425 ?_
  refine el_arg (pc := 426) (j := 2) C0 hi (by omega) hL (by decide) dW_426 dW_427 dW_428 dW_429 dW_430 ?_
  refine el_arg (pc := 431) (j := 3) C0 hi (by omega) hL (by decide) dW_431 dW_432 dW_433 dW_434 dW_435 ?_
  refine el_call (pc := 436) (As := [.inl (xs (i + 1)), .inl (xs (i + 2)), .inl (xs (i + 3))]) (S := [.inl r1]) (d2 := 2) C0 hK dW_436 vW_47 zM_dated rfl rfl rfl rfl (Nat.le_of_ble_eq_true rfl) (by decide) rfl rfl (cM_dated (post := fun z u => z = r1 ∧ u = h2) (by rw [show fM_dated _ (xs (i + 1)) (xs (i + 2)) (xs (i + 3)) = _ from e2]; exact ⟨rfl, rfl⟩)) (fun r2 u2 hu => ?_)
  obtain ⟨rfl, rfl⟩ := hu
  refine el_eq (pc := 439) (tgt := 950) C0 dW_439 (by decide) ?_
  exact kk _ hI2
set_option maxHeartbeats 4000000 in
set_option maxRecDepth 100000 in
theorem lc_8 (C0 : lw_At p s m meth c b L xs) (hK : va_K g.2.1 cls (tyG g) s) {Inv : Hp → Prop} {i : Nat} (hi : x3 = nI i) (hj : i + 4 ≤ L) (hL : L ≤ 2048) (hA : Agree Inv (fun h => fX_out h (xs (i + 1)) (if xs (i + 2) = 0 then 0 else 1)) (fun h => fM_out h (xs (i + 1)) (if xs (i + 2) = 0 then 0 else 1))) (hI : Inv h) (kk : ∀ u, Inv u → El p l e s m below meth c b g 950 [] u x3) : El p l e s m below meth c b g 444 [] h x3 := by
  obtain ⟨r, h1, h2, e1, e2, hI2⟩ := hA h hI
  refine el_this1 (pc := 444) C0 dW_444 ?_
  refine el_arg (pc := 445) (j := 1) C0 hi (by omega) hL (by decide) dW_445 dW_446 dW_447 dW_448 dW_449 ?_
  refine el_arg (pc := 450) (j := 2) C0 hi (by omega) hL (by decide) dW_450 dW_451 dW_452 dW_453 dW_454 ?_
  refine el_bool (pc := 455) C0 dW_455 dW_458 dW_459 dW_462 ?_
  refine el_call (pc := 463) (As := [.inl (xs (i + 1)), .inl (if xs (i + 2) = 0 then 0 else 1)]) (S := []) (d2 := 2) C0 hK dW_463 vW_48 zX_out rfl rfl rfl rfl (Nat.le_of_ble_eq_true rfl) (by decide) rfl rfl (cX_out (post := fun z u => z = r ∧ u = h1) (by rw [show fX_out _ (xs (i + 1)) (if xs (i + 2) = 0 then 0 else 1) = _ from e1]; exact ⟨rfl, rfl⟩)) (fun r1 u1 hu => ?_)
  obtain ⟨rfl, rfl⟩ := hu
  refine el_this2 (pc := 466) C0 dW_466 ?_
  refine el_arg (pc := 467) (j := 1) C0 hi (by omega) hL (by decide) dW_467 dW_468 dW_469 dW_470 dW_471 ?_
  refine el_arg (pc := 472) (j := 2) C0 hi (by omega) hL (by decide) dW_472 dW_473 dW_474 dW_475 dW_476 ?_
  refine el_bool (pc := 477) C0 dW_477 dW_480 dW_481 dW_484 ?_
  refine el_call (pc := 485) (As := [.inl (xs (i + 1)), .inl (if xs (i + 2) = 0 then 0 else 1)]) (S := [.inl r1]) (d2 := 2) C0 hK dW_485 vW_52 zM_out rfl rfl rfl rfl (Nat.le_of_ble_eq_true rfl) (by decide) rfl rfl (cM_out (post := fun z u => z = r1 ∧ u = h2) (by rw [show fM_out _ (xs (i + 1)) (if xs (i + 2) = 0 then 0 else 1) = _ from e2]; exact ⟨rfl, rfl⟩)) (fun r2 u2 hu => ?_)
  obtain ⟨rfl, rfl⟩ := hu
  refine el_eq (pc := 488) (tgt := 950) C0 dW_488 (by decide) ?_
  exact kk _ hI2
set_option maxHeartbeats 4000000 in
set_option maxRecDepth 100000 in
theorem lc_9 (C0 : lw_At p s m meth c b L xs) (hK : va_K g.2.1 cls (tyG g) s) {Inv : Hp → Prop} {i : Nat} (hi : x3 = nI i) (hj : i + 4 ≤ L) (hL : L ≤ 2048) (hA : Agree Inv (fun h => fX_bar h (xs (i + 1)) (xs (i + 2))) (fun h => fM_bar h (xs (i + 1)) (xs (i + 2)))) (hI : Inv h) (kk : ∀ u, Inv u → El p l e s m below meth c b g 950 [] u x3) : El p l e s m below meth c b g 493 [] h x3 := by
  obtain ⟨r, h1, h2, e1, e2, hI2⟩ := hA h hI
  refine el_this1 (pc := 493) C0 dW_493 ?_
  refine el_arg (pc := 494) (j := 1) C0 hi (by omega) hL (by decide) dW_494 dW_495 dW_496 dW_497 dW_498 ?_
  refine el_arg (pc := 499) (j := 2) C0 hi (by omega) hL (by decide) dW_499 dW_500 dW_501 dW_502 dW_503 ?_
  refine el_call (pc := 504) (As := [.inl (xs (i + 1)), .inl (xs (i + 2))]) (S := []) (d2 := 2) C0 hK dW_504 vW_53 zX_bar rfl rfl rfl rfl (Nat.le_of_ble_eq_true rfl) (by decide) rfl rfl (cX_bar (post := fun z u => z = r ∧ u = h1) (by rw [show fX_bar _ (xs (i + 1)) (xs (i + 2)) = _ from e1]; exact ⟨rfl, rfl⟩)) (fun r1 u1 hu => ?_)
  obtain ⟨rfl, rfl⟩ := hu
  refine el_this2 (pc := 507) C0 dW_507 ?_
  refine el_arg (pc := 508) (j := 1) C0 hi (by omega) hL (by decide) dW_508 dW_509 dW_510 dW_511 dW_512 ?_
  refine el_arg (pc := 513) (j := 2) C0 hi (by omega) hL (by decide) dW_513 dW_514 dW_515 dW_516 dW_517 ?_
  refine el_call (pc := 518) (As := [.inl (xs (i + 1)), .inl (xs (i + 2))]) (S := [.inl r1]) (d2 := 2) C0 hK dW_518 vW_56 zM_bar rfl rfl rfl rfl (Nat.le_of_ble_eq_true rfl) (by decide) rfl rfl (cM_bar (post := fun z u => z = r1 ∧ u = h2) (by rw [show fM_bar _ (xs (i + 1)) (xs (i + 2)) = _ from e2]; exact ⟨rfl, rfl⟩)) (fun r2 u2 hu => ?_)
  obtain ⟨rfl, rfl⟩ := hu
  refine el_eq (pc := 521) (tgt := 950) C0 dW_521 (by decide) ?_
  exact kk _ hI2
set_option maxHeartbeats 4000000 in
set_option maxRecDepth 100000 in
theorem lc_10 (C0 : lw_At p s m meth c b L xs) (hK : va_K g.2.1 cls (tyG g) s) {Inv : Hp → Prop} {i : Nat} (hi : x3 = nI i) (hj : i + 4 ≤ L) (hL : L ≤ 2048) (hA : Agree Inv (fun h => fX_free h ) (fun h => fM_free h )) (hI : Inv h) (kk : ∀ u, Inv u → El p l e s m below meth c b g 950 [] u x3) : El p l e s m below meth c b g 526 [] h x3 := by
  obtain ⟨r, h1, h2, e1, e2, hI2⟩ := hA h hI
  refine el_this1 (pc := 526) C0 dW_526 ?_
  refine el_call (pc := 527) (As := []) (S := []) (d2 := 2) C0 hK dW_527 vW_57 zX_free rfl rfl rfl rfl (Nat.le_of_ble_eq_true rfl) (by decide) rfl rfl (cX_free (post := fun z u => z = r ∧ u = h1) (by rw [show fX_free _  = _ from e1]; exact ⟨rfl, rfl⟩)) (fun r1 u1 hu => ?_)
  obtain ⟨rfl, rfl⟩ := hu
  refine el_this2 (pc := 530) C0 dW_530 ?_
  refine el_call (pc := 531) (As := []) (S := [.inl r1]) (d2 := 0) C0 hK dW_531 vW_60 zM_free rfl rfl rfl rfl (Nat.le_of_ble_eq_true rfl) (by decide) rfl rfl (cM_free (post := fun z u => z = r1 ∧ u = h2) (by rw [show fM_free _  = _ from e2]; exact ⟨rfl, rfl⟩)) (fun r2 u2 hu => ?_)
  obtain ⟨rfl, rfl⟩ := hu
  refine el_eq (pc := 534) (tgt := 950) C0 dW_534 (by decide) ?_
  exact kk _ hI2
set_option maxHeartbeats 4000000 in
set_option maxRecDepth 100000 in
theorem lc_11 (C0 : lw_At p s m meth c b L xs) (hK : va_K g.2.1 cls (tyG g) s) {Inv : Hp → Prop} {i : Nat} (hi : x3 = nI i) (hj : i + 4 ≤ L) (hL : L ≤ 2048) (hA : Agree Inv (fun h => fX_of h (xs (i + 1)) (xs (i + 2))) (fun h => fM_of h (xs (i + 1)) (xs (i + 2)))) (hI : Inv h) (kk : ∀ u, Inv u → El p l e s m below meth c b g 950 [] u x3) : El p l e s m below meth c b g 539 [] h x3 := by
  obtain ⟨r, h1, h2, e1, e2, hI2⟩ := hA h hI
  refine el_this1 (pc := 539) C0 dW_539 ?_
  refine el_arg (pc := 540) (j := 1) C0 hi (by omega) hL (by decide) dW_540 dW_541 dW_542 dW_543 dW_544 ?_
  refine el_arg (pc := 545) (j := 2) C0 hi (by omega) hL (by decide) dW_545 dW_546 dW_547 dW_548 dW_549 ?_
  refine el_call (pc := 550) (As := [.inl (xs (i + 1)), .inl (xs (i + 2))]) (S := []) (d2 := 2) C0 hK dW_550 vW_61 zX_of rfl rfl rfl rfl (Nat.le_of_ble_eq_true rfl) (by decide) rfl rfl (cX_of (post := fun z u => z = r ∧ u = h1) (by rw [show fX_of _ (xs (i + 1)) (xs (i + 2)) = _ from e1]; exact ⟨rfl, rfl⟩)) (fun r1 u1 hu => ?_)
  obtain ⟨rfl, rfl⟩ := hu
  refine el_this2 (pc := 553) C0 dW_553 ?_
  refine el_arg (pc := 554) (j := 1) C0 hi (by omega) hL (by decide) dW_554 dW_555 dW_556 dW_557 dW_558 ?_
  refine el_arg (pc := 559) (j := 2) C0 hi (by omega) hL (by decide) dW_559 dW_560 dW_561 dW_562 dW_563 ?_
  refine el_call (pc := 564) (As := [.inl (xs (i + 1)), .inl (xs (i + 2))]) (S := [.inl r1]) (d2 := 2) C0 hK dW_564 vW_64 zM_of rfl rfl rfl rfl (Nat.le_of_ble_eq_true rfl) (by decide) rfl rfl (cM_of (post := fun z u => z = r1 ∧ u = h2) (by rw [show fM_of _ (xs (i + 1)) (xs (i + 2)) = _ from e2]; exact ⟨rfl, rfl⟩)) (fun r2 u2 hu => ?_)
  obtain ⟨rfl, rfl⟩ := hu
  refine el_eq (pc := 567) (tgt := 950) C0 dW_567 (by decide) ?_
  exact kk _ hI2
set_option maxHeartbeats 4000000 in
set_option maxRecDepth 100000 in
theorem lc_12 (C0 : lw_At p s m meth c b L xs) (hK : va_K g.2.1 cls (tyG g) s) {Inv : Hp → Prop} {i : Nat} (hi : x3 = nI i) (hj : i + 4 ≤ L) (hL : L ≤ 2048) (hA : Agree Inv (fun h => fX_told h (xs (i + 1)) (xs (i + 2))) (fun h => fM_told h (xs (i + 1)) (xs (i + 2)))) (hI : Inv h) (kk : ∀ u, Inv u → El p l e s m below meth c b g 950 [] u x3) : El p l e s m below meth c b g 572 [] h x3 := by
  obtain ⟨r, h1, h2, e1, e2, hI2⟩ := hA h hI
  refine el_this1 (pc := 572) C0 dW_572 ?_
  refine el_arg (pc := 573) (j := 1) C0 hi (by omega) hL (by decide) dW_573 dW_574 dW_575 dW_576 dW_577 ?_
  refine el_arg (pc := 578) (j := 2) C0 hi (by omega) hL (by decide) dW_578 dW_579 dW_580 dW_581 dW_582 ?_
  refine el_call (pc := 583) (As := [.inl (xs (i + 1)), .inl (xs (i + 2))]) (S := []) (d2 := 3) C0 hK dW_583 vW_65 zX_told rfl rfl rfl rfl (Nat.le_of_ble_eq_true rfl) (by decide) rfl rfl (cX_told (post := fun z u => z = r ∧ u = h1) (by rw [show fX_told _ (xs (i + 1)) (xs (i + 2)) = _ from e1]; exact ⟨rfl, rfl⟩)) (fun r1 u1 hu => ?_)
  obtain ⟨rfl, rfl⟩ := hu
  refine el_this2 (pc := 586) C0 dW_586 ?_
  refine el_arg (pc := 587) (j := 1) C0 hi (by omega) hL (by decide) dW_587 dW_588 dW_589 dW_590 dW_591 ?_
  refine el_arg (pc := 592) (j := 2) C0 hi (by omega) hL (by decide) dW_592 dW_593 dW_594 dW_595 dW_596 ?_
  refine el_call (pc := 597) (As := [.inl (xs (i + 1)), .inl (xs (i + 2))]) (S := [.inl r1]) (d2 := 3) C0 hK dW_597 vW_68 zM_told rfl rfl rfl rfl (Nat.le_of_ble_eq_true rfl) (by decide) rfl rfl (cM_told (post := fun z u => z = r1 ∧ u = h2) (by rw [show fM_told _ (xs (i + 1)) (xs (i + 2)) = _ from e2]; exact ⟨rfl, rfl⟩)) (fun r2 u2 hu => ?_)
  obtain ⟨rfl, rfl⟩ := hu
  refine el_eq (pc := 600) (tgt := 950) C0 dW_600 (by decide) ?_
  exact kk _ hI2
set_option maxHeartbeats 4000000 in
set_option maxRecDepth 100000 in
theorem lc_13 (C0 : lw_At p s m meth c b L xs) (hK : va_K g.2.1 cls (tyG g) s) {Inv : Hp → Prop} {i : Nat} (hi : x3 = nI i) (hj : i + 4 ≤ L) (hL : L ≤ 2048) (hA : Agree Inv (fun h => fX_quarrel h ) (fun h => fM_quarrel h )) (hI : Inv h) (kk : ∀ u, Inv u → El p l e s m below meth c b g 950 [] u x3) : El p l e s m below meth c b g 605 [] h x3 := by
  obtain ⟨r, h1, h2, e1, e2, hI2⟩ := hA h hI
  refine el_this1 (pc := 605) C0 dW_605 ?_
  refine el_call (pc := 606) (As := []) (S := []) (d2 := 12) C0 hK dW_606 vW_69 zX_quarrel rfl rfl rfl rfl (Nat.le_of_ble_eq_true rfl) (by decide) rfl rfl (cX_quarrel (post := fun z u => z = r ∧ u = h1) (by rw [show fX_quarrel _  = _ from e1]; exact ⟨rfl, rfl⟩)) (fun r1 u1 hu => ?_)
  obtain ⟨rfl, rfl⟩ := hu
  refine el_this2 (pc := 609) C0 dW_609 ?_
  refine el_call (pc := 610) (As := []) (S := [.inl r1]) (d2 := 5) C0 hK dW_610 vW_72 zM_quarrel rfl rfl rfl rfl (Nat.le_of_ble_eq_true rfl) (by decide) rfl rfl (cM_quarrel (post := fun z u => z = r1 ∧ u = h2) (by rw [show fM_quarrel _  = _ from e2]; exact ⟨rfl, rfl⟩)) (fun r2 u2 hu => ?_)
  obtain ⟨rfl, rfl⟩ := hu
  refine el_eq (pc := 613) (tgt := 950) C0 dW_613 (by decide) ?_
  exact kk _ hI2
set_option maxHeartbeats 4000000 in
set_option maxRecDepth 100000 in
theorem lc_14 (C0 : lw_At p s m meth c b L xs) (hK : va_K g.2.1 cls (tyG g) s) {Inv : Hp → Prop} {i : Nat} (hi : x3 = nI i) (hj : i + 4 ≤ L) (hL : L ≤ 2048) (hA : Agree Inv (fun h => fX_layings h ) (fun h => fM_layings h )) (hI : Inv h) (kk : ∀ u, Inv u → El p l e s m below meth c b g 950 [] u x3) : El p l e s m below meth c b g 618 [] h x3 := by
  obtain ⟨r, h1, h2, e1, e2, hI2⟩ := hA h hI
  refine el_this1 (pc := 618) C0 dW_618 ?_
  refine el_call (pc := 619) (As := []) (S := []) (d2 := 12) C0 hK dW_619 vW_73 zX_layings rfl rfl rfl rfl (Nat.le_of_ble_eq_true rfl) (by decide) rfl rfl (cX_layings (post := fun z u => z = r ∧ u = h1) (by rw [show fX_layings _  = _ from e1]; exact ⟨rfl, rfl⟩)) (fun r1 u1 hu => ?_)
  obtain ⟨rfl, rfl⟩ := hu
  refine el_this2 (pc := 622) C0 dW_622 ?_
  refine el_call (pc := 623) (As := []) (S := [.inl r1]) (d2 := 5) C0 hK dW_623 vW_76 zM_layings rfl rfl rfl rfl (Nat.le_of_ble_eq_true rfl) (by decide) rfl rfl (cM_layings (post := fun z u => z = r1 ∧ u = h2) (by rw [show fM_layings _  = _ from e2]; exact ⟨rfl, rfl⟩)) (fun r2 u2 hu => ?_)
  obtain ⟨rfl, rfl⟩ := hu
  refine el_eq (pc := 626) (tgt := 950) C0 dW_626 (by decide) ?_
  exact kk _ hI2
set_option maxHeartbeats 4000000 in
set_option maxRecDepth 100000 in
theorem lc_15 (C0 : lw_At p s m meth c b L xs) (hK : va_K g.2.1 cls (tyG g) s) {Inv : Hp → Prop} {i : Nat} (hi : x3 = nI i) (hj : i + 4 ≤ L) (hL : L ≤ 2048) (hA : Agree Inv (fun h => fX_laying h (xs (i + 1)) (xs (i + 2))) (fun h => fM_laying h (xs (i + 1)) (xs (i + 2)))) (hI : Inv h) (kk : ∀ u, Inv u → El p l e s m below meth c b g 950 [] u x3) : El p l e s m below meth c b g 631 [] h x3 := by
  obtain ⟨r, h1, h2, e1, e2, hI2⟩ := hA h hI
  refine el_this1 (pc := 631) C0 dW_631 ?_
  refine el_arg (pc := 632) (j := 1) C0 hi (by omega) hL (by decide) dW_632 dW_633 dW_634 dW_635 dW_636 ?_
  refine el_arg (pc := 637) (j := 2) C0 hi (by omega) hL (by decide) dW_637 dW_638 dW_639 dW_640 dW_641 ?_
  refine el_call (pc := 642) (As := [.inl (xs (i + 1)), .inl (xs (i + 2))]) (S := []) (d2 := 13) C0 hK dW_642 vW_77 zX_laying rfl rfl rfl rfl (Nat.le_of_ble_eq_true rfl) (by decide) rfl rfl (cX_laying (post := fun z u => z = r ∧ u = h1) (by rw [show fX_laying _ (xs (i + 1)) (xs (i + 2)) = _ from e1]; exact ⟨rfl, rfl⟩)) (fun r1 u1 hu => ?_)
  obtain ⟨rfl, rfl⟩ := hu
  refine el_this2 (pc := 645) C0 dW_645 ?_
  refine el_arg (pc := 646) (j := 1) C0 hi (by omega) hL (by decide) dW_646 dW_647 dW_648 dW_649 dW_650 ?_
  refine el_arg (pc := 651) (j := 2) C0 hi (by omega) hL (by decide) dW_651 dW_652 dW_653 dW_654 dW_655 ?_
  refine el_call (pc := 656) (As := [.inl (xs (i + 1)), .inl (xs (i + 2))]) (S := [.inl r1]) (d2 := 5) C0 hK dW_656 vW_80 zM_laying rfl rfl rfl rfl (Nat.le_of_ble_eq_true rfl) (by decide) rfl rfl (cM_laying (post := fun z u => z = r1 ∧ u = h2) (by rw [show fM_laying _ (xs (i + 1)) (xs (i + 2)) = _ from e2]; exact ⟨rfl, rfl⟩)) (fun r2 u2 hu => ?_)
  obtain ⟨rfl, rfl⟩ := hu
  refine el_eq (pc := 659) (tgt := 950) C0 dW_659 (by decide) ?_
  exact kk _ hI2
set_option maxHeartbeats 4000000 in
set_option maxRecDepth 100000 in
theorem lc_16 (C0 : lw_At p s m meth c b L xs) (hK : va_K g.2.1 cls (tyG g) s) {Inv : Hp → Prop} {i : Nat} (hi : x3 = nI i) (hj : i + 4 ≤ L) (hL : L ≤ 2048) (hA : Agree Inv (fun h => fX_place h (xs (i + 1))) (fun h => fM_place h (xs (i + 1)))) (hI : Inv h) (kk : ∀ u, Inv u → El p l e s m below meth c b g 950 [] u x3) : El p l e s m below meth c b g 664 [] h x3 := by
  obtain ⟨r, h1, h2, e1, e2, hI2⟩ := hA h hI
  refine el_this1 (pc := 664) C0 dW_664 ?_
  refine el_arg (pc := 665) (j := 1) C0 hi (by omega) hL (by decide) dW_665 dW_666 dW_667 dW_668 dW_669 ?_
  refine el_call (pc := 670) (As := [.inl (xs (i + 1))]) (S := []) (d2 := 13) C0 hK dW_670 vW_81 zX_place rfl rfl rfl rfl (Nat.le_of_ble_eq_true rfl) (by decide) rfl rfl (cX_place (post := fun z u => z = r ∧ u = h1) (by rw [show fX_place _ (xs (i + 1)) = _ from e1]; exact ⟨rfl, rfl⟩)) (fun r1 u1 hu => ?_)
  obtain ⟨rfl, rfl⟩ := hu
  refine el_this2 (pc := 673) C0 dW_673 ?_
  refine el_arg (pc := 674) (j := 1) C0 hi (by omega) hL (by decide) dW_674 dW_675 dW_676 dW_677 dW_678 ?_
  refine el_call (pc := 679) (As := [.inl (xs (i + 1))]) (S := [.inl r1]) (d2 := 6) C0 hK dW_679 vW_85 zM_place rfl rfl rfl rfl (Nat.le_of_ble_eq_true rfl) (by decide) rfl rfl (cM_place (post := fun z u => z = r1 ∧ u = h2) (by rw [show fM_place _ (xs (i + 1)) = _ from e2]; exact ⟨rfl, rfl⟩)) (fun r2 u2 hu => ?_)
  obtain ⟨rfl, rfl⟩ := hu
  refine el_eq (pc := 682) (tgt := 950) C0 dW_682 (by decide) ?_
  exact kk _ hI2
set_option maxHeartbeats 4000000 in
set_option maxRecDepth 100000 in
theorem lc_17 (C0 : lw_At p s m meth c b L xs) (hK : va_K g.2.1 cls (tyG g) s) {Inv : Hp → Prop} {i : Nat} (hi : x3 = nI i) (hj : i + 4 ≤ L) (hL : L ≤ 2048) (hA : Agree Inv (fun h => fX_rivals h (xs (i + 1))) (fun h => fM_rivals h (xs (i + 1)))) (hI : Inv h) (kk : ∀ u, Inv u → El p l e s m below meth c b g 950 [] u x3) : El p l e s m below meth c b g 687 [] h x3 := by
  obtain ⟨r, h1, h2, e1, e2, hI2⟩ := hA h hI
  refine el_this1 (pc := 687) C0 dW_687 ?_
  refine el_arg (pc := 688) (j := 1) C0 hi (by omega) hL (by decide) dW_688 dW_689 dW_690 dW_691 dW_692 ?_
  refine el_call (pc := 693) (As := [.inl (xs (i + 1))]) (S := []) (d2 := 13) C0 hK dW_693 vW_86 zX_rivals rfl rfl rfl rfl (Nat.le_of_ble_eq_true rfl) (by decide) rfl rfl (cX_rivals (post := fun z u => z = r ∧ u = h1) (by rw [show fX_rivals _ (xs (i + 1)) = _ from e1]; exact ⟨rfl, rfl⟩)) (fun r1 u1 hu => ?_)
  obtain ⟨rfl, rfl⟩ := hu
  refine el_this2 (pc := 696) C0 dW_696 ?_
  refine el_arg (pc := 697) (j := 1) C0 hi (by omega) hL (by decide) dW_697 dW_698 dW_699 dW_700 dW_701 ?_
  refine el_call (pc := 702) (As := [.inl (xs (i + 1))]) (S := [.inl r1]) (d2 := 5) C0 hK dW_702 vW_89 zM_rivals rfl rfl rfl rfl (Nat.le_of_ble_eq_true rfl) (by decide) rfl rfl (cM_rivals (post := fun z u => z = r1 ∧ u = h2) (by rw [show fM_rivals _ (xs (i + 1)) = _ from e2]; exact ⟨rfl, rfl⟩)) (fun r2 u2 hu => ?_)
  obtain ⟨rfl, rfl⟩ := hu
  refine el_eq (pc := 705) (tgt := 950) C0 dW_705 (by decide) ?_
  exact kk _ hI2
set_option maxHeartbeats 4000000 in
set_option maxRecDepth 100000 in
theorem lc_18 (C0 : lw_At p s m meth c b L xs) (hK : va_K g.2.1 cls (tyG g) s) {Inv : Hp → Prop} {i : Nat} (hi : x3 = nI i) (hj : i + 4 ≤ L) (hL : L ≤ 2048) (hA : Agree Inv (fun h => fX_order h (xs (i + 1)) (xs (i + 2))) (fun h => fM_order h (xs (i + 1)) (xs (i + 2)))) (hI : Inv h) (kk : ∀ u, Inv u → El p l e s m below meth c b g 950 [] u x3) : El p l e s m below meth c b g 710 [] h x3 := by
  obtain ⟨r, h1, h2, e1, e2, hI2⟩ := hA h hI
  refine el_this1 (pc := 710) C0 dW_710 ?_
  refine el_arg (pc := 711) (j := 1) C0 hi (by omega) hL (by decide) dW_711 dW_712 dW_713 dW_714 dW_715 ?_
  refine el_arg (pc := 716) (j := 2) C0 hi (by omega) hL (by decide) dW_716 dW_717 dW_718 dW_719 dW_720 ?_
  refine el_call (pc := 721) (As := [.inl (xs (i + 1)), .inl (xs (i + 2))]) (S := []) (d2 := 12) C0 hK dW_721 vW_90 zX_order rfl rfl rfl rfl (Nat.le_of_ble_eq_true rfl) (by decide) rfl rfl (cX_order (post := fun z u => z = r ∧ u = h1) (by rw [show fX_order _ (xs (i + 1)) (xs (i + 2)) = _ from e1]; exact ⟨rfl, rfl⟩)) (fun r1 u1 hu => ?_)
  obtain ⟨rfl, rfl⟩ := hu
  refine el_this2 (pc := 724) C0 dW_724 ?_
  refine el_arg (pc := 725) (j := 1) C0 hi (by omega) hL (by decide) dW_725 dW_726 dW_727 dW_728 dW_729 ?_
  refine el_arg (pc := 730) (j := 2) C0 hi (by omega) hL (by decide) dW_730 dW_731 dW_732 dW_733 dW_734 ?_
  refine el_call (pc := 735) (As := [.inl (xs (i + 1)), .inl (xs (i + 2))]) (S := [.inl r1]) (d2 := 5) C0 hK dW_735 vW_93 zM_order rfl rfl rfl rfl (Nat.le_of_ble_eq_true rfl) (by decide) rfl rfl (cM_order (post := fun z u => z = r1 ∧ u = h2) (by rw [show fM_order _ (xs (i + 1)) (xs (i + 2)) = _ from e2]; exact ⟨rfl, rfl⟩)) (fun r2 u2 hu => ?_)
  obtain ⟨rfl, rfl⟩ := hu
  refine el_eq (pc := 738) (tgt := 950) C0 dW_738 (by decide) ?_
  exact kk _ hI2
set_option maxHeartbeats 4000000 in
set_option maxRecDepth 100000 in
theorem lc_19 (C0 : lw_At p s m meth c b L xs) (hK : va_K g.2.1 cls (tyG g) s) {Inv : Hp → Prop} {i : Nat} (hi : x3 = nI i) (hj : i + 4 ≤ L) (hL : L ≤ 2048) (hA : Agree Inv (fun h => fX_known h (xs (i + 1)) (xs (i + 2))) (fun h => fM_known h (xs (i + 1)) (xs (i + 2)))) (hI : Inv h) (kk : ∀ u, Inv u → El p l e s m below meth c b g 950 [] u x3) : El p l e s m below meth c b g 743 [] h x3 := by
  obtain ⟨r, h1, h2, e1, e2, hI2⟩ := hA h hI
  refine el_this1 (pc := 743) C0 dW_743 ?_
  refine el_arg (pc := 744) (j := 1) C0 hi (by omega) hL (by decide) dW_744 dW_745 dW_746 dW_747 dW_748 ?_
  refine el_arg (pc := 749) (j := 2) C0 hi (by omega) hL (by decide) dW_749 dW_750 dW_751 dW_752 dW_753 ?_
  refine el_call (pc := 754) (As := [.inl (xs (i + 1)), .inl (xs (i + 2))]) (S := []) (d2 := 12) C0 hK dW_754 vW_94 zX_known rfl rfl rfl rfl (Nat.le_of_ble_eq_true rfl) (by decide) rfl rfl (cX_known (post := fun z u => z = r ∧ u = h1) (by rw [show fX_known _ (xs (i + 1)) (xs (i + 2)) = _ from e1]; exact ⟨rfl, rfl⟩)) (fun r1 u1 hu => ?_)
  obtain ⟨rfl, rfl⟩ := hu
  refine el_this2 (pc := 757) C0 dW_757 ?_
  refine el_arg (pc := 758) (j := 1) C0 hi (by omega) hL (by decide) dW_758 dW_759 dW_760 dW_761 dW_762 ?_
  refine el_arg (pc := 763) (j := 2) C0 hi (by omega) hL (by decide) dW_763 dW_764 dW_765 dW_766 dW_767 ?_
  refine el_call (pc := 768) (As := [.inl (xs (i + 1)), .inl (xs (i + 2))]) (S := [.inl r1]) (d2 := 5) C0 hK dW_768 vW_97 zM_known rfl rfl rfl rfl (Nat.le_of_ble_eq_true rfl) (by decide) rfl rfl (cM_known (post := fun z u => z = r1 ∧ u = h2) (by rw [show fM_known _ (xs (i + 1)) (xs (i + 2)) = _ from e2]; exact ⟨rfl, rfl⟩)) (fun r2 u2 hu => ?_)
  obtain ⟨rfl, rfl⟩ := hu
  refine el_eq (pc := 771) (tgt := 950) C0 dW_771 (by decide) ?_
  exact kk _ hI2
set_option maxHeartbeats 4000000 in
set_option maxRecDepth 100000 in
theorem lc_20 (C0 : lw_At p s m meth c b L xs) (hK : va_K g.2.1 cls (tyG g) s) {Inv : Hp → Prop} {i : Nat} (hi : x3 = nI i) (hj : i + 4 ≤ L) (hL : L ≤ 2048) (hA : Agree Inv (fun h => fX_changes h (xs (i + 1)) (xs (i + 2))) (fun h => fM_changes h (xs (i + 1)) (xs (i + 2)))) (hI : Inv h) (kk : ∀ u, Inv u → El p l e s m below meth c b g 950 [] u x3) : El p l e s m below meth c b g 776 [] h x3 := by
  obtain ⟨r, h1, h2, e1, e2, hI2⟩ := hA h hI
  refine el_this1 (pc := 776) C0 dW_776 ?_
  refine el_arg (pc := 777) (j := 1) C0 hi (by omega) hL (by decide) dW_777 dW_778 dW_779 dW_780 dW_781 ?_
  refine el_arg (pc := 782) (j := 2) C0 hi (by omega) hL (by decide) dW_782 dW_783 dW_784 dW_785 dW_786 ?_
  refine el_call (pc := 787) (As := [.inl (xs (i + 1)), .inl (xs (i + 2))]) (S := []) (d2 := 12) C0 hK dW_787 vW_98 zX_changes rfl rfl rfl rfl (Nat.le_of_ble_eq_true rfl) (by decide) rfl rfl (cX_changes (post := fun z u => z = r ∧ u = h1) (by rw [show fX_changes _ (xs (i + 1)) (xs (i + 2)) = _ from e1]; exact ⟨rfl, rfl⟩)) (fun r1 u1 hu => ?_)
  obtain ⟨rfl, rfl⟩ := hu
  refine el_this2 (pc := 790) C0 dW_790 ?_
  refine el_arg (pc := 791) (j := 1) C0 hi (by omega) hL (by decide) dW_791 dW_792 dW_793 dW_794 dW_795 ?_
  refine el_arg (pc := 796) (j := 2) C0 hi (by omega) hL (by decide) dW_796 dW_797 dW_798 dW_799 dW_800 ?_
  refine el_call (pc := 801) (As := [.inl (xs (i + 1)), .inl (xs (i + 2))]) (S := [.inl r1]) (d2 := 5) C0 hK dW_801 vW_101 zM_changes rfl rfl rfl rfl (Nat.le_of_ble_eq_true rfl) (by decide) rfl rfl (cM_changes (post := fun z u => z = r1 ∧ u = h2) (by rw [show fM_changes _ (xs (i + 1)) (xs (i + 2)) = _ from e2]; exact ⟨rfl, rfl⟩)) (fun r2 u2 hu => ?_)
  obtain ⟨rfl, rfl⟩ := hu
  refine el_eq (pc := 804) (tgt := 950) C0 dW_804 (by decide) ?_
  exact kk _ hI2
set_option maxHeartbeats 4000000 in
set_option maxRecDepth 100000 in
theorem lc_21 (C0 : lw_At p s m meth c b L xs) (hK : va_K g.2.1 cls (tyG g) s) {Inv : Hp → Prop} {i : Nat} (hi : x3 = nI i) (hj : i + 4 ≤ L) (hL : L ≤ 2048) (hA : Agree Inv (fun h => fX_breaks h (xs (i + 1))) (fun h => fM_breaks h (xs (i + 1)))) (hI : Inv h) (kk : ∀ u, Inv u → El p l e s m below meth c b g 950 [] u x3) : El p l e s m below meth c b g 809 [] h x3 := by
  obtain ⟨r, h1, h2, e1, e2, hI2⟩ := hA h hI
  refine el_this1 (pc := 809) C0 dW_809 ?_
  refine el_arg (pc := 810) (j := 1) C0 hi (by omega) hL (by decide) dW_810 dW_811 dW_812 dW_813 dW_814 ?_
  refine el_call (pc := 815) (As := [.inl (xs (i + 1))]) (S := []) (d2 := 12) C0 hK dW_815 vW_102 zX_breaks rfl rfl rfl rfl (Nat.le_of_ble_eq_true rfl) (by decide) rfl rfl (cX_breaks (post := fun z u => z = r ∧ u = h1) (by rw [show fX_breaks _ (xs (i + 1)) = _ from e1]; exact ⟨rfl, rfl⟩)) (fun r1 u1 hu => ?_)
  obtain ⟨rfl, rfl⟩ := hu
  refine el_this2 (pc := 818) C0 dW_818 ?_
  refine el_arg (pc := 819) (j := 1) C0 hi (by omega) hL (by decide) dW_819 dW_820 dW_821 dW_822 dW_823 ?_
  refine el_call (pc := 824) (As := [.inl (xs (i + 1))]) (S := [.inl r1]) (d2 := 5) C0 hK dW_824 vW_105 zM_breaks rfl rfl rfl rfl (Nat.le_of_ble_eq_true rfl) (by decide) rfl rfl (cM_breaks (post := fun z u => z = r1 ∧ u = h2) (by rw [show fM_breaks _ (xs (i + 1)) = _ from e2]; exact ⟨rfl, rfl⟩)) (fun r2 u2 hu => ?_)
  obtain ⟨rfl, rfl⟩ := hu
  refine el_eq (pc := 827) (tgt := 950) C0 dW_827 (by decide) ?_
  exact kk _ hI2
set_option maxHeartbeats 4000000 in
set_option maxRecDepth 100000 in
theorem lc_22 (C0 : lw_At p s m meth c b L xs) (hK : va_K g.2.1 cls (tyG g) s) {Inv : Hp → Prop} {i : Nat} (hi : x3 = nI i) (hj : i + 4 ≤ L) (hL : L ≤ 2048) (hA : Agree Inv (fun h => fX_inverted h ) (fun h => fM_inverted h )) (hI : Inv h) (kk : ∀ u, Inv u → El p l e s m below meth c b g 950 [] u x3) : El p l e s m below meth c b g 832 [] h x3 := by
  obtain ⟨r, h1, h2, e1, e2, hI2⟩ := hA h hI
  refine el_this1 (pc := 832) C0 dW_832 ?_
  refine el_call (pc := 833) (As := []) (S := []) (d2 := 12) C0 hK dW_833 vW_106 zX_inverted rfl rfl rfl rfl (Nat.le_of_ble_eq_true rfl) (by decide) rfl rfl (cX_inverted (post := fun z u => z = r ∧ u = h1) (by rw [show fX_inverted _  = _ from e1]; exact ⟨rfl, rfl⟩)) (fun r1 u1 hu => ?_)
  obtain ⟨rfl, rfl⟩ := hu
  refine el_this2 (pc := 836) C0 dW_836 ?_
  refine el_call (pc := 837) (As := []) (S := [.inl r1]) (d2 := 5) C0 hK dW_837 vW_109 zM_inverted rfl rfl rfl rfl (Nat.le_of_ble_eq_true rfl) (by decide) rfl rfl (cM_inverted (post := fun z u => z = r1 ∧ u = h2) (by rw [show fM_inverted _  = _ from e2]; exact ⟨rfl, rfl⟩)) (fun r2 u2 hu => ?_)
  obtain ⟨rfl, rfl⟩ := hu
  refine el_eq (pc := 840) (tgt := 950) C0 dW_840 (by decide) ?_
  exact kk _ hI2
set_option maxHeartbeats 4000000 in
set_option maxRecDepth 100000 in
theorem lc_23 (C0 : lw_At p s m meth c b L xs) (hK : va_K g.2.1 cls (tyG g) s) {Inv : Hp → Prop} {i : Nat} (hi : x3 = nI i) (hj : i + 4 ≤ L) (hL : L ≤ 2048) (hA : Agree Inv (fun h => fX_span h (xs (i + 1)) (xs (i + 2))) (fun h => fM_span h (xs (i + 1)) (xs (i + 2)))) (hI : Inv h) (kk : ∀ u, Inv u → El p l e s m below meth c b g 950 [] u x3) : El p l e s m below meth c b g 845 [] h x3 := by
  obtain ⟨r, h1, h2, e1, e2, hI2⟩ := hA h hI
  refine el_this1 (pc := 845) C0 dW_845 ?_
  refine el_arg (pc := 846) (j := 1) C0 hi (by omega) hL (by decide) dW_846 dW_847 dW_848 dW_849 dW_850 ?_
  refine el_arg (pc := 851) (j := 2) C0 hi (by omega) hL (by decide) dW_851 dW_852 dW_853 dW_854 dW_855 ?_
  refine el_call (pc := 856) (As := [.inl (xs (i + 1)), .inl (xs (i + 2))]) (S := []) (d2 := 5) C0 hK dW_856 vW_110 zX_span rfl rfl rfl rfl (Nat.le_of_ble_eq_true rfl) (by decide) rfl rfl (cX_span (post := fun z u => z = r ∧ u = h1) (by rw [show fX_span _ (xs (i + 1)) (xs (i + 2)) = _ from e1]; exact ⟨rfl, rfl⟩)) (fun r1 u1 hu => ?_)
  obtain ⟨rfl, rfl⟩ := hu
  refine el_this2 (pc := 859) C0 dW_859 ?_
  refine el_arg (pc := 860) (j := 1) C0 hi (by omega) hL (by decide) dW_860 dW_861 dW_862 dW_863 dW_864 ?_
  refine el_arg (pc := 865) (j := 2) C0 hi (by omega) hL (by decide) dW_865 dW_866 dW_867 dW_868 dW_869 ?_
  refine el_call (pc := 870) (As := [.inl (xs (i + 1)), .inl (xs (i + 2))]) (S := [.inl r1]) (d2 := 3) C0 hK dW_870 vW_113 zM_span rfl rfl rfl rfl (Nat.le_of_ble_eq_true rfl) (by decide) rfl rfl (cM_span (post := fun z u => z = r1 ∧ u = h2) (by rw [show fM_span _ (xs (i + 1)) (xs (i + 2)) = _ from e2]; exact ⟨rfl, rfl⟩)) (fun r2 u2 hu => ?_)
  obtain ⟨rfl, rfl⟩ := hu
  refine el_eq (pc := 873) (tgt := 950) C0 dW_873 (by decide) ?_
  exact kk _ hI2
set_option maxHeartbeats 4000000 in
set_option maxRecDepth 100000 in
theorem lc_24 (C0 : lw_At p s m meth c b L xs) (hK : va_K g.2.1 cls (tyG g) s) {Inv : Hp → Prop} {i : Nat} (hi : x3 = nI i) (hj : i + 4 ≤ L) (hL : L ≤ 2048) (hA : Agree Inv (fun h => fX_unseen h (xs (i + 1))) (fun h => fM_unseen h (xs (i + 1)))) (hI : Inv h) (kk : ∀ u, Inv u → El p l e s m below meth c b g 950 [] u x3) : El p l e s m below meth c b g 878 [] h x3 := by
  obtain ⟨r, h1, h2, e1, e2, hI2⟩ := hA h hI
  refine el_this1 (pc := 878) C0 dW_878 ?_
  refine el_arg (pc := 879) (j := 1) C0 hi (by omega) hL (by decide) dW_879 dW_880 dW_881 dW_882 dW_883 ?_
  refine el_call (pc := 884) (As := [.inl (xs (i + 1))]) (S := []) (d2 := 12) C0 hK dW_884 vW_114 zX_unseen rfl rfl rfl rfl (Nat.le_of_ble_eq_true rfl) (by decide) rfl rfl (cX_unseen (post := fun z u => z = r ∧ u = h1) (by rw [show fX_unseen _ (xs (i + 1)) = _ from e1]; exact ⟨rfl, rfl⟩)) (fun r1 u1 hu => ?_)
  obtain ⟨rfl, rfl⟩ := hu
  refine el_this2 (pc := 887) C0 dW_887 ?_
  refine el_arg (pc := 888) (j := 1) C0 hi (by omega) hL (by decide) dW_888 dW_889 dW_890 dW_891 dW_892 ?_
  refine el_call (pc := 893) (As := [.inl (xs (i + 1))]) (S := [.inl r1]) (d2 := 5) C0 hK dW_893 vW_117 zM_unseen rfl rfl rfl rfl (Nat.le_of_ble_eq_true rfl) (by decide) rfl rfl (cM_unseen (post := fun z u => z = r1 ∧ u = h2) (by rw [show fM_unseen _ (xs (i + 1)) = _ from e2]; exact ⟨rfl, rfl⟩)) (fun r2 u2 hu => ?_)
  obtain ⟨rfl, rfl⟩ := hu
  refine el_eq (pc := 896) (tgt := 950) C0 dW_896 (by decide) ?_
  exact kk _ hI2
set_option maxHeartbeats 4000000 in
set_option maxRecDepth 100000 in
theorem lc_25 (C0 : lw_At p s m meth c b L xs) (hK : va_K g.2.1 cls (tyG g) s) {Inv : Hp → Prop} {i : Nat} (hi : x3 = nI i) (hj : i + 4 ≤ L) (hL : L ≤ 2048) (hA : Agree Inv (fun h => fX_many h (xs (i + 1))) (fun h => fM_many h (xs (i + 1)))) (hI : Inv h) (kk : ∀ u, Inv u → El p l e s m below meth c b g 950 [] u x3) : El p l e s m below meth c b g 901 [] h x3 := by
  obtain ⟨r, h1, h2, e1, e2, hI2⟩ := hA h hI
  refine el_this1 (pc := 901) C0 dW_901 ?_
  refine el_arg (pc := 902) (j := 1) C0 hi (by omega) hL (by decide) dW_902 dW_903 dW_904 dW_905 dW_906 ?_
  refine el_call (pc := 907) (As := [.inl (xs (i + 1))]) (S := []) (d2 := 12) C0 hK dW_907 vW_118 zX_many rfl rfl rfl rfl (Nat.le_of_ble_eq_true rfl) (by decide) rfl rfl (cX_many (post := fun z u => z = r ∧ u = h1) (by rw [show fX_many _ (xs (i + 1)) = _ from e1]; exact ⟨rfl, rfl⟩)) (fun r1 u1 hu => ?_)
  obtain ⟨rfl, rfl⟩ := hu
  refine el_this2 (pc := 910) C0 dW_910 ?_
  refine el_arg (pc := 911) (j := 1) C0 hi (by omega) hL (by decide) dW_911 dW_912 dW_913 dW_914 dW_915 ?_
  refine el_call (pc := 916) (As := [.inl (xs (i + 1))]) (S := [.inl r1]) (d2 := 6) C0 hK dW_916 vW_121 zM_many rfl rfl rfl rfl (Nat.le_of_ble_eq_true rfl) (by decide) rfl rfl (cM_many (post := fun z u => z = r1 ∧ u = h2) (by rw [show fM_many _ (xs (i + 1)) = _ from e2]; exact ⟨rfl, rfl⟩)) (fun r2 u2 hu => ?_)
  obtain ⟨rfl, rfl⟩ := hu
  refine el_eq (pc := 919) (tgt := 950) C0 dW_919 (by decide) ?_
  exact kk _ hI2
set_option maxHeartbeats 4000000 in
set_option maxRecDepth 100000 in
theorem lc_26 (C0 : lw_At p s m meth c b L xs) (hK : va_K g.2.1 cls (tyG g) s) {Inv : Hp → Prop} {i : Nat} (hi : x3 = nI i) (hj : i + 4 ≤ L) (hL : L ≤ 2048) (hA : Agree Inv (fun h => fX_keep h ) (fun h => fM_keep h )) (hI : Inv h) (kk : ∀ u, Inv u → El p l e s m below meth c b g 950 [] u x3) : El p l e s m below meth c b g 924 [] h x3 := by
  obtain ⟨r, h1, h2, e1, e2, hI2⟩ := hA h hI
  refine el_this1 (pc := 924) C0 dW_924 ?_
  refine el_call (pc := 925) (As := []) (S := []) (d2 := 2) C0 hK dW_925 vW_122 zX_keep rfl rfl rfl rfl (Nat.le_of_ble_eq_true rfl) (by decide) rfl rfl (cX_keep (post := fun z u => z = r ∧ u = h1) (by rw [show fX_keep _  = _ from e1]; exact ⟨rfl, rfl⟩)) (fun r1 u1 hu => ?_)
  obtain ⟨rfl, rfl⟩ := hu
  refine el_this2 (pc := 928) C0 dW_928 ?_
  refine el_call (pc := 929) (As := []) (S := [.inl r1]) (d2 := 1) C0 hK dW_929 vW_125 zM_keep rfl rfl rfl rfl (Nat.le_of_ble_eq_true rfl) (by decide) rfl rfl (cM_keep (post := fun z u => z = r1 ∧ u = h2) (by rw [show fM_keep _  = _ from e2]; exact ⟨rfl, rfl⟩)) (fun r2 u2 hu => ?_)
  obtain ⟨rfl, rfl⟩ := hu
  refine el_eq (pc := 932) (tgt := 950) C0 dW_932 (by decide) ?_
  exact kk _ hI2
set_option maxHeartbeats 4000000 in
set_option maxRecDepth 100000 in
theorem lc_27 (C0 : lw_At p s m meth c b L xs) (hK : va_K g.2.1 cls (tyG g) s) {Inv : Hp → Prop} {i : Nat} (hi : x3 = nI i) (hj : i + 4 ≤ L) (hL : L ≤ 2048) (hA : Agree Inv (fun h => fX_back h ) (fun h => fM_back h )) (hI : Inv h) (kk : ∀ u, Inv u → El p l e s m below meth c b g 950 [] u x3) : El p l e s m below meth c b g 937 [] h x3 := by
  obtain ⟨r, h1, h2, e1, e2, hI2⟩ := hA h hI
  refine el_this1 (pc := 937) C0 dW_937 ?_
  refine el_call (pc := 938) (As := []) (S := []) (d2 := 2) C0 hK dW_938 vW_126 zX_back rfl rfl rfl rfl (Nat.le_of_ble_eq_true rfl) (by decide) rfl rfl (cX_back (post := fun z u => z = r ∧ u = h1) (by rw [show fX_back _  = _ from e1]; exact ⟨rfl, rfl⟩)) (fun r1 u1 hu => ?_)
  obtain ⟨rfl, rfl⟩ := hu
  refine el_this2 (pc := 941) C0 dW_941 ?_
  refine el_call (pc := 942) (As := []) (S := [.inl r1]) (d2 := 1) C0 hK dW_942 vW_129 zM_back rfl rfl rfl rfl (Nat.le_of_ble_eq_true rfl) (by decide) rfl rfl (cM_back (post := fun z u => z = r1 ∧ u = h2) (by rw [show fM_back _  = _ from e2]; exact ⟨rfl, rfl⟩)) (fun r2 u2 hu => ?_)
  obtain ⟨rfl, rfl⟩ := hu
  refine el_eq (pc := 945) (tgt := 950) C0 dW_945 (by decide) ?_
  exact kk _ hI2
set_option maxHeartbeats 4000000 in
set_option maxRecDepth 100000 in
theorem law_step (C0 : lw_At p s m meth c b L xs) (hK : va_K g.2.1 cls (tyG g) s) {Inv : Hp → Prop} {i : Nat} (hi : x3 = nI i) (hj : i + 4 ≤ L) (hL : L ≤ 2048) (hA : AllAgree Inv) (hI : Inv h) (kk : ∀ u, Inv u → El p l e s m below meth c b g 950 [] u x3) : El p l e s m below meth c b g 26 [] h x3 := by
  intro H locs ls hP hD hS hl
  obtain ⟨hx, hb, hr, hml, hown, hts, hX, hbl, hlocks, hgv⟩ := id C0
  have hbA : ¬ (fun q : Nat => s.heap.size ≤ q) b := Nat.not_le.mpr hbl
  refine lv_aload_n (pc := 26) hx hb dW_26 rfl (lv_at hl 0 rfl) ?_
  refine lv_iload_n (pc := 27) hx hb dW_27 rfl (lv_at hl 3 rfl) ?_
  rw [hi]
  refine va_sld (pc := 28) hx hb hX hbl hbA hS (vp_in_nI (by omega) (by omega)) dW_28 ?_
  refine lv_bipush (pc := 29) (v := 31) hx hb dW_29 (by decide) ?_
  refine lv_iand (pc := 31) hx hb dW_31 ?_
  obtain ⟨w, hw, ew⟩ := pk_andE (xs (nI i).toNatClampNeg) (m := 31) 5 (by decide)
  rw [ew]
  have hwi : (nI w).toInt = (w : Int) := nI_toInt (by omega)
  obtain ⟨g0, g1, g2, g3, g4, g5, g6, g7, g8, g9, g10, g11, g12, g13, g14, g15, g16, g17, g18, g19, g20, g21, g22, g23, g24, g25, g26, g27⟩ := hA (xs (i + 1)) (xs (i + 2)) (xs (i + 3))
  rcases Nat.lt_or_ge 27 w with hbig | hsm
  · refine lv_tableOut (pc := 32) (tgt := 950) hx hb dW_32 (Or.inr (by rw [hwi]; omega)) (by decide) ?_
    exact kk h hI H locs ls hP hD hS hl
  · have hw2 : w = 0 ∨ w = 1 ∨ w = 2 ∨ w = 3 ∨ w = 4 ∨ w = 5 ∨ w = 6 ∨ w = 7 ∨ w = 8 ∨ w = 9 ∨ w = 10 ∨ w = 11 ∨ w = 12 ∨ w = 13 ∨ w = 14 ∨ w = 15 ∨ w = 16 ∨ w = 17 ∨ w = 18 ∨ w = 19 ∨ w = 20 ∨ w = 21 ∨ w = 22 ∨ w = 23 ∨ w = 24 ∨ w = 25 ∨ w = 26 ∨ w = 27 := by omega
    rcases hw2 with rfl | rfl | rfl | rfl | rfl | rfl | rfl | rfl | rfl | rfl | rfl | rfl | rfl | rfl | rfl | rfl | rfl | rfl | rfl | rfl | rfl | rfl | rfl | rfl | rfl | rfl | rfl | rfl
    · exact lv_tableIn (pc := 32) (tgt := 160) hx hb dW_32 (by rw [hwi]; decide) (by rw [hwi]; decide) (by rw [hwi]; rfl) (by decide) (lc_0 C0 hK hi hj hL g0 hI kk H locs ls hP hD hS hl)
    · exact lv_tableIn (pc := 32) (tgt := 193) hx hb dW_32 (by rw [hwi]; decide) (by rw [hwi]; decide) (by rw [hwi]; rfl) (by decide) (lc_1 C0 hK hi hj hL g1 hI kk H locs ls hP hD hS hl)
    · exact lv_tableIn (pc := 32) (tgt := 236) hx hb dW_32 (by rw [hwi]; decide) (by rw [hwi]; decide) (by rw [hwi]; rfl) (by decide) (lc_2 C0 hK hi hj hL g2 hI kk H locs ls hP hD hS hl)
    · exact lv_tableIn (pc := 32) (tgt := 249) hx hb dW_32 (by rw [hwi]; decide) (by rw [hwi]; decide) (by rw [hwi]; rfl) (by decide) (lc_3 C0 hK hi hj hL g3 hI kk H locs ls hP hD hS hl)
    · exact lv_tableIn (pc := 32) (tgt := 292) hx hb dW_32 (by rw [hwi]; decide) (by rw [hwi]; decide) (by rw [hwi]; rfl) (by decide) (lc_4 C0 hK hi hj hL g4 hI kk H locs ls hP hD hS hl)
    · exact lv_tableIn (pc := 32) (tgt := 325) hx hb dW_32 (by rw [hwi]; decide) (by rw [hwi]; decide) (by rw [hwi]; rfl) (by decide) (lc_5 C0 hK hi hj hL g5 hI kk H locs ls hP hD hS hl)
    · exact lv_tableIn (pc := 32) (tgt := 368) hx hb dW_32 (by rw [hwi]; decide) (by rw [hwi]; decide) (by rw [hwi]; rfl) (by decide) (lc_6 C0 hK hi hj hL g6 hI kk H locs ls hP hD hS hl)
    · exact lv_tableIn (pc := 32) (tgt := 401) hx hb dW_32 (by rw [hwi]; decide) (by rw [hwi]; decide) (by rw [hwi]; rfl) (by decide) (lc_7 C0 hK hi hj hL g7 hI kk H locs ls hP hD hS hl)
    · exact lv_tableIn (pc := 32) (tgt := 444) hx hb dW_32 (by rw [hwi]; decide) (by rw [hwi]; decide) (by rw [hwi]; rfl) (by decide) (lc_8 C0 hK hi hj hL g8 hI kk H locs ls hP hD hS hl)
    · exact lv_tableIn (pc := 32) (tgt := 493) hx hb dW_32 (by rw [hwi]; decide) (by rw [hwi]; decide) (by rw [hwi]; rfl) (by decide) (lc_9 C0 hK hi hj hL g9 hI kk H locs ls hP hD hS hl)
    · exact lv_tableIn (pc := 32) (tgt := 526) hx hb dW_32 (by rw [hwi]; decide) (by rw [hwi]; decide) (by rw [hwi]; rfl) (by decide) (lc_10 C0 hK hi hj hL g10 hI kk H locs ls hP hD hS hl)
    · exact lv_tableIn (pc := 32) (tgt := 539) hx hb dW_32 (by rw [hwi]; decide) (by rw [hwi]; decide) (by rw [hwi]; rfl) (by decide) (lc_11 C0 hK hi hj hL g11 hI kk H locs ls hP hD hS hl)
    · exact lv_tableIn (pc := 32) (tgt := 572) hx hb dW_32 (by rw [hwi]; decide) (by rw [hwi]; decide) (by rw [hwi]; rfl) (by decide) (lc_12 C0 hK hi hj hL g12 hI kk H locs ls hP hD hS hl)
    · exact lv_tableIn (pc := 32) (tgt := 605) hx hb dW_32 (by rw [hwi]; decide) (by rw [hwi]; decide) (by rw [hwi]; rfl) (by decide) (lc_13 C0 hK hi hj hL g13 hI kk H locs ls hP hD hS hl)
    · exact lv_tableIn (pc := 32) (tgt := 618) hx hb dW_32 (by rw [hwi]; decide) (by rw [hwi]; decide) (by rw [hwi]; rfl) (by decide) (lc_14 C0 hK hi hj hL g14 hI kk H locs ls hP hD hS hl)
    · exact lv_tableIn (pc := 32) (tgt := 631) hx hb dW_32 (by rw [hwi]; decide) (by rw [hwi]; decide) (by rw [hwi]; rfl) (by decide) (lc_15 C0 hK hi hj hL g15 hI kk H locs ls hP hD hS hl)
    · exact lv_tableIn (pc := 32) (tgt := 664) hx hb dW_32 (by rw [hwi]; decide) (by rw [hwi]; decide) (by rw [hwi]; rfl) (by decide) (lc_16 C0 hK hi hj hL g16 hI kk H locs ls hP hD hS hl)
    · exact lv_tableIn (pc := 32) (tgt := 687) hx hb dW_32 (by rw [hwi]; decide) (by rw [hwi]; decide) (by rw [hwi]; rfl) (by decide) (lc_17 C0 hK hi hj hL g17 hI kk H locs ls hP hD hS hl)
    · exact lv_tableIn (pc := 32) (tgt := 710) hx hb dW_32 (by rw [hwi]; decide) (by rw [hwi]; decide) (by rw [hwi]; rfl) (by decide) (lc_18 C0 hK hi hj hL g18 hI kk H locs ls hP hD hS hl)
    · exact lv_tableIn (pc := 32) (tgt := 743) hx hb dW_32 (by rw [hwi]; decide) (by rw [hwi]; decide) (by rw [hwi]; rfl) (by decide) (lc_19 C0 hK hi hj hL g19 hI kk H locs ls hP hD hS hl)
    · exact lv_tableIn (pc := 32) (tgt := 776) hx hb dW_32 (by rw [hwi]; decide) (by rw [hwi]; decide) (by rw [hwi]; rfl) (by decide) (lc_20 C0 hK hi hj hL g20 hI kk H locs ls hP hD hS hl)
    · exact lv_tableIn (pc := 32) (tgt := 809) hx hb dW_32 (by rw [hwi]; decide) (by rw [hwi]; decide) (by rw [hwi]; rfl) (by decide) (lc_21 C0 hK hi hj hL g21 hI kk H locs ls hP hD hS hl)
    · exact lv_tableIn (pc := 32) (tgt := 832) hx hb dW_32 (by rw [hwi]; decide) (by rw [hwi]; decide) (by rw [hwi]; rfl) (by decide) (lc_22 C0 hK hi hj hL g22 hI kk H locs ls hP hD hS hl)
    · exact lv_tableIn (pc := 32) (tgt := 845) hx hb dW_32 (by rw [hwi]; decide) (by rw [hwi]; decide) (by rw [hwi]; rfl) (by decide) (lc_23 C0 hK hi hj hL g23 hI kk H locs ls hP hD hS hl)
    · exact lv_tableIn (pc := 32) (tgt := 878) hx hb dW_32 (by rw [hwi]; decide) (by rw [hwi]; decide) (by rw [hwi]; rfl) (by decide) (lc_24 C0 hK hi hj hL g24 hI kk H locs ls hP hD hS hl)
    · exact lv_tableIn (pc := 32) (tgt := 901) hx hb dW_32 (by rw [hwi]; decide) (by rw [hwi]; decide) (by rw [hwi]; rfl) (by decide) (lc_25 C0 hK hi hj hL g25 hI kk H locs ls hP hD hS hl)
    · exact lv_tableIn (pc := 32) (tgt := 924) hx hb dW_32 (by rw [hwi]; decide) (by rw [hwi]; decide) (by rw [hwi]; rfl) (by decide) (lc_26 C0 hK hi hj hL g26 hI kk H locs ls hP hD hS hl)
    · exact lv_tableIn (pc := 32) (tgt := 937) hx hb dW_32 (by rw [hwi]; decide) (by rw [hwi]; decide) (by rw [hwi]; rfl) (by decide) (lc_27 C0 hK hi hj hL g27 hI kk H locs ls hP hD hS hl)
set_option maxHeartbeats 4000000 in
set_option maxRecDepth 100000 in
theorem law_loop (C0 : lw_At p s m meth c b L xs) (hK : va_K g.2.1 cls (tyG g) s) {Inv : Hp → Prop} (hL : L ≤ 2048) (hA : AllAgree Inv) : ∀ (n i : Nat) (h : Hp), i ≤ L → L + 4 ≤ i + n → Inv h → El p l e s m below meth c b g 18 [] h (nI i) := by
  intro n
  induction n with
  | zero => intro i h h1 h2; omega
  | succ n ih =>
    intro i h h1 h2 hI H locs ls hP hD hS hl
    obtain ⟨hx, hb, hr, hml, hown, hts, hX, hbl, hlocks, hgv⟩ := id C0
    have hbA : ¬ (fun q : Nat => s.heap.size ≤ q) b := Nat.not_le.mpr hbl
    refine lv_iload_n (pc := 18) hx hb dW_18 rfl (lv_at hl 3 rfl) ?_
    refine lv_aload_n (pc := 19) hx hb dW_19 rfl (lv_at hl 0 rfl) ?_
    refine va_slen (pc := 20) hx hb hX hbl hbA hS dW_20 ?_
    refine lv_iconst (pc := 21) (v := 4) hx hb dW_21 (by decide) ?_
    refine lv_isub (pc := 22) hx hb dW_22 ?_
    have hsub : (Int32.ofNat L - 4).toInt = (L : Int) - 4 := pk_sub_toInt (a := L) (b := 4) (by omega) (by omega)
    have hii : (nI i).toInt = (i : Int) := nI_toInt (by omega)
    refine lv_icmp_gt (pc := 23) (tgt := 956) hx hb dW_23 (by decide) (fun hc => ?_) (fun hc => ?_)
    · refine lv_iconst (pc := 956) (v := 1) hx hb dW_956 (by decide) ?_
      refine va_forget (fun q hq => hS.2.2 q hq) ?_
      refine W.widen (k := 600000) (n := 7302250) (by decide) (by decide) ?_
      exact lw_ret hx hb hr hlocks dW_957
    · have hj : i + 4 ≤ L := by
        rw [Int32.lt_iff_toInt_lt, hsub, hii] at hc
        omega
      refine law_step C0 hK rfl hj hL hA hI (fun u hu => ?_) H locs ls hP hD hS hl
      intro H2 locs2 ls2 hP2 hD2 hS2 hl2
      refine lv_iinc (pc := 950) (v := nI (i + 4)) (lv' := [(3, .int (nI (i + 4))), (0, .ref b), (1, .ref (g.1 0)), (2, .ref (g.1 28))]) hx hb dW_950 hl2 (k := 3) rfl (by rw [show Int32.ofInt 4 = nI 4 by decide, nI_add]) (by decide) rfl (fun ls3 hl3 => ?_)
      refine lv_goto (pc := 953) (tgt := 18) hx hb dW_953 (by decide) ?_
      exact ih (i + 4) u hj (by omega) hu H2 locs2 ls3 hP2 hD2 hS2 (lv_sub hl3 [1, 2, 3, 0] rfl)
end Law
