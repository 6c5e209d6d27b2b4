/-! the law's loop (printed by wip/whole/gen78.py) -/
theorem dc212_0 : decode (pm_mb 212) 0 = .ok (.new 7, 3) := by decide +kernel
theorem dc212_3 : decode (pm_mb 212) 3 = .ok (.dup, 1) := by decide +kernel
theorem dc212_4 : decode (pm_mb 212) 4 = .ok (.invokespecial 9, 3) := by decide +kernel
theorem dc212_7 : decode (pm_mb 212) 7 = .ok (.astore_n 1, 1) := by decide +kernel
theorem dc212_8 : decode (pm_mb 212) 8 = .ok (.new 10, 3) := by decide +kernel
theorem dc212_11 : decode (pm_mb 212) 11 = .ok (.dup, 1) := by decide +kernel
theorem dc212_12 : decode (pm_mb 212) 12 = .ok (.invokespecial 12, 3) := by decide +kernel
theorem dc212_15 : decode (pm_mb 212) 15 = .ok (.astore_n 2, 1) := by decide +kernel
theorem dc212_16 : decode (pm_mb 212) 16 = .ok (.iconst 0, 1) := by decide +kernel
theorem dc212_17 : decode (pm_mb 212) 17 = .ok (.istore_n 3, 1) := by decide +kernel
theorem dc212_18 : decode (pm_mb 212) 18 = .ok (.iload_n 3, 1) := by decide +kernel
theorem dc212_19 : decode (pm_mb 212) 19 = .ok (.aload_n 0, 1) := by decide +kernel
theorem dc212_20 : decode (pm_mb 212) 20 = .ok (.arraylength, 1) := by decide +kernel
theorem dc212_21 : decode (pm_mb 212) 21 = .ok (.bipush 6, 2) := by decide +kernel
theorem dc212_23 : decode (pm_mb 212) 23 = .ok (.isub, 1) := by decide +kernel
theorem dc212_24 : decode (pm_mb 212) 24 = .ok (.if_icmp .gt 1053, 3) := by decide +kernel
theorem dc212_27 : decode (pm_mb 212) 27 = .ok (.aload_n 0, 1) := by decide +kernel
theorem dc212_28 : decode (pm_mb 212) 28 = .ok (.iload_n 3, 1) := by decide +kernel
theorem dc212_29 : decode (pm_mb 212) 29 = .ok (.iaload, 1) := by decide +kernel
theorem dc212_30 : decode (pm_mb 212) 30 = .ok (.bipush 31, 2) := by decide +kernel
theorem dc212_32 : decode (pm_mb 212) 32 = .ok (.iand, 1) := by decide +kernel
theorem dc212_33 : decode (pm_mb 212) 33 = .ok (.tableswitch 1038 0 28 #[131, 174, 217, 280, 303, 366, 379, 392, 405, 438, 471, 514, 527, 560, 593, 636, 659, 702, 755, 778, 821, 844, 867, 890, 913, 946, 979, 1002, 1025], 131) := by decide +kernel
theorem dc212_164 : decode (pm_mb 212) 164 = .ok (.aload_n 1, 1) := by decide +kernel
theorem dc212_165 : decode (pm_mb 212) 165 = .ok (.aload_n 0, 1) := by decide +kernel
theorem dc212_166 : decode (pm_mb 212) 166 = .ok (.iload_n 3, 1) := by decide +kernel
theorem dc212_167 : decode (pm_mb 212) 167 = .ok (.iconst 1, 1) := by decide +kernel
theorem dc212_168 : decode (pm_mb 212) 168 = .ok (.iadd, 1) := by decide +kernel
theorem dc212_169 : decode (pm_mb 212) 169 = .ok (.iaload, 1) := by decide +kernel
theorem dc212_170 : decode (pm_mb 212) 170 = .ok (.aload_n 0, 1) := by decide +kernel
theorem dc212_171 : decode (pm_mb 212) 171 = .ok (.iload_n 3, 1) := by decide +kernel
theorem dc212_172 : decode (pm_mb 212) 172 = .ok (.iconst 2, 1) := by decide +kernel
theorem dc212_173 : decode (pm_mb 212) 173 = .ok (.iadd, 1) := by decide +kernel
theorem dc212_174 : decode (pm_mb 212) 174 = .ok (.iaload, 1) := by decide +kernel
theorem dc212_175 : decode (pm_mb 212) 175 = .ok (.aload_n 0, 1) := by decide +kernel
theorem dc212_176 : decode (pm_mb 212) 176 = .ok (.iload_n 3, 1) := by decide +kernel
theorem dc212_177 : decode (pm_mb 212) 177 = .ok (.iconst 3, 1) := by decide +kernel
theorem dc212_178 : decode (pm_mb 212) 178 = .ok (.iadd, 1) := by decide +kernel
theorem dc212_179 : decode (pm_mb 212) 179 = .ok (.iaload, 1) := by decide +kernel
theorem dc212_180 : decode (pm_mb 212) 180 = .ok (.invokevirtual 13, 3) := by decide +kernel
theorem dc212_183 : decode (pm_mb 212) 183 = .ok (.aload_n 2, 1) := by decide +kernel
theorem dc212_184 : decode (pm_mb 212) 184 = .ok (.aload_n 0, 1) := by decide +kernel
theorem dc212_185 : decode (pm_mb 212) 185 = .ok (.iload_n 3, 1) := by decide +kernel
theorem dc212_186 : decode (pm_mb 212) 186 = .ok (.iconst 1, 1) := by decide +kernel
theorem dc212_187 : decode (pm_mb 212) 187 = .ok (.iadd, 1) := by decide +kernel
theorem dc212_188 : decode (pm_mb 212) 188 = .ok (.iaload, 1) := by decide +kernel
theorem dc212_189 : decode (pm_mb 212) 189 = .ok (.aload_n 0, 1) := by decide +kernel
theorem dc212_190 : decode (pm_mb 212) 190 = .ok (.iload_n 3, 1) := by decide +kernel
theorem dc212_191 : decode (pm_mb 212) 191 = .ok (.iconst 2, 1) := by decide +kernel
theorem dc212_192 : decode (pm_mb 212) 192 = .ok (.iadd, 1) := by decide +kernel
theorem dc212_193 : decode (pm_mb 212) 193 = .ok (.iaload, 1) := by decide +kernel
theorem dc212_194 : decode (pm_mb 212) 194 = .ok (.aload_n 0, 1) := by decide +kernel
theorem dc212_195 : decode (pm_mb 212) 195 = .ok (.iload_n 3, 1) := by decide +kernel
theorem dc212_196 : decode (pm_mb 212) 196 = .ok (.iconst 3, 1) := by decide +kernel
theorem dc212_197 : decode (pm_mb 212) 197 = .ok (.iadd, 1) := by decide +kernel
theorem dc212_198 : decode (pm_mb 212) 198 = .ok (.iaload, 1) := by decide +kernel
theorem dc212_199 : decode (pm_mb 212) 199 = .ok (.invokevirtual 17, 3) := by decide +kernel
theorem dc212_202 : decode (pm_mb 212) 202 = .ok (.if_icmp .eq 869, 3) := by decide +kernel
theorem dc212_205 : decode (pm_mb 212) 205 = .ok (.iconst 0, 1) := by decide +kernel
theorem dc212_206 : decode (pm_mb 212) 206 = .ok (.ireturn, 1) := by decide +kernel
theorem dc212_207 : decode (pm_mb 212) 207 = .ok (.aload_n 1, 1) := by decide +kernel
theorem dc212_208 : decode (pm_mb 212) 208 = .ok (.aload_n 0, 1) := by decide +kernel
theorem dc212_209 : decode (pm_mb 212) 209 = .ok (.iload_n 3, 1) := by decide +kernel
theorem dc212_210 : decode (pm_mb 212) 210 = .ok (.iconst 1, 1) := by decide +kernel
theorem dc212_211 : decode (pm_mb 212) 211 = .ok (.iadd, 1) := by decide +kernel
theorem dc212_212 : decode (pm_mb 212) 212 = .ok (.iaload, 1) := by decide +kernel
theorem dc212_213 : decode (pm_mb 212) 213 = .ok (.aload_n 0, 1) := by decide +kernel
theorem dc212_214 : decode (pm_mb 212) 214 = .ok (.iload_n 3, 1) := by decide +kernel
theorem dc212_215 : decode (pm_mb 212) 215 = .ok (.iconst 2, 1) := by decide +kernel
theorem dc212_216 : decode (pm_mb 212) 216 = .ok (.iadd, 1) := by decide +kernel
theorem dc212_217 : decode (pm_mb 212) 217 = .ok (.iaload, 1) := by decide +kernel
theorem dc212_218 : decode (pm_mb 212) 218 = .ok (.aload_n 0, 1) := by decide +kernel
theorem dc212_219 : decode (pm_mb 212) 219 = .ok (.iload_n 3, 1) := by decide +kernel
theorem dc212_220 : decode (pm_mb 212) 220 = .ok (.iconst 3, 1) := by decide +kernel
theorem dc212_221 : decode (pm_mb 212) 221 = .ok (.iadd, 1) := by decide +kernel
theorem dc212_222 : decode (pm_mb 212) 222 = .ok (.iaload, 1) := by decide +kernel
theorem dc212_223 : decode (pm_mb 212) 223 = .ok (.invokevirtual 18, 3) := by decide +kernel
theorem dc212_226 : decode (pm_mb 212) 226 = .ok (.aload_n 2, 1) := by decide +kernel
theorem dc212_227 : decode (pm_mb 212) 227 = .ok (.aload_n 0, 1) := by decide +kernel
theorem dc212_228 : decode (pm_mb 212) 228 = .ok (.iload_n 3, 1) := by decide +kernel
theorem dc212_229 : decode (pm_mb 212) 229 = .ok (.iconst 1, 1) := by decide +kernel
theorem dc212_230 : decode (pm_mb 212) 230 = .ok (.iadd, 1) := by decide +kernel
theorem dc212_231 : decode (pm_mb 212) 231 = .ok (.iaload, 1) := by decide +kernel
theorem dc212_232 : decode (pm_mb 212) 232 = .ok (.aload_n 0, 1) := by decide +kernel
theorem dc212_233 : decode (pm_mb 212) 233 = .ok (.iload_n 3, 1) := by decide +kernel
theorem dc212_234 : decode (pm_mb 212) 234 = .ok (.iconst 2, 1) := by decide +kernel
theorem dc212_235 : decode (pm_mb 212) 235 = .ok (.iadd, 1) := by decide +kernel
theorem dc212_236 : decode (pm_mb 212) 236 = .ok (.iaload, 1) := by decide +kernel
theorem dc212_237 : decode (pm_mb 212) 237 = .ok (.aload_n 0, 1) := by decide +kernel
theorem dc212_238 : decode (pm_mb 212) 238 = .ok (.iload_n 3, 1) := by decide +kernel
theorem dc212_239 : decode (pm_mb 212) 239 = .ok (.iconst 3, 1) := by decide +kernel
theorem dc212_240 : decode (pm_mb 212) 240 = .ok (.iadd, 1) := by decide +kernel
theorem dc212_241 : decode (pm_mb 212) 241 = .ok (.iaload, 1) := by decide +kernel
theorem dc212_242 : decode (pm_mb 212) 242 = .ok (.invokevirtual 21, 3) := by decide +kernel
theorem dc212_245 : decode (pm_mb 212) 245 = .ok (.if_icmp .eq 826, 3) := by decide +kernel
theorem dc212_248 : decode (pm_mb 212) 248 = .ok (.iconst 0, 1) := by decide +kernel
theorem dc212_249 : decode (pm_mb 212) 249 = .ok (.ireturn, 1) := by decide +kernel
theorem dc212_250 : decode (pm_mb 212) 250 = .ok (.aload_n 1, 1) := by decide +kernel
theorem dc212_251 : decode (pm_mb 212) 251 = .ok (.aload_n 0, 1) := by decide +kernel
theorem dc212_252 : decode (pm_mb 212) 252 = .ok (.iload_n 3, 1) := by decide +kernel
theorem dc212_253 : decode (pm_mb 212) 253 = .ok (.iconst 1, 1) := by decide +kernel
theorem dc212_254 : decode (pm_mb 212) 254 = .ok (.iadd, 1) := by decide +kernel
theorem dc212_255 : decode (pm_mb 212) 255 = .ok (.iaload, 1) := by decide +kernel
theorem dc212_256 : decode (pm_mb 212) 256 = .ok (.aload_n 0, 1) := by decide +kernel
theorem dc212_257 : decode (pm_mb 212) 257 = .ok (.iload_n 3, 1) := by decide +kernel
theorem dc212_258 : decode (pm_mb 212) 258 = .ok (.iconst 2, 1) := by decide +kernel
theorem dc212_259 : decode (pm_mb 212) 259 = .ok (.iadd, 1) := by decide +kernel
theorem dc212_260 : decode (pm_mb 212) 260 = .ok (.iaload, 1) := by decide +kernel
theorem dc212_261 : decode (pm_mb 212) 261 = .ok (.aload_n 0, 1) := by decide +kernel
theorem dc212_262 : decode (pm_mb 212) 262 = .ok (.iload_n 3, 1) := by decide +kernel
theorem dc212_263 : decode (pm_mb 212) 263 = .ok (.iconst 3, 1) := by decide +kernel
theorem dc212_264 : decode (pm_mb 212) 264 = .ok (.iadd, 1) := by decide +kernel
theorem dc212_265 : decode (pm_mb 212) 265 = .ok (.iaload, 1) := by decide +kernel
theorem dc212_266 : decode (pm_mb 212) 266 = .ok (.aload_n 0, 1) := by decide +kernel
theorem dc212_267 : decode (pm_mb 212) 267 = .ok (.iload_n 3, 1) := by decide +kernel
theorem dc212_268 : decode (pm_mb 212) 268 = .ok (.iconst 4, 1) := by decide +kernel
theorem dc212_269 : decode (pm_mb 212) 269 = .ok (.iadd, 1) := by decide +kernel
theorem dc212_270 : decode (pm_mb 212) 270 = .ok (.iaload, 1) := by decide +kernel
theorem dc212_271 : decode (pm_mb 212) 271 = .ok (.aload_n 0, 1) := by decide +kernel
theorem dc212_272 : decode (pm_mb 212) 272 = .ok (.iload_n 3, 1) := by decide +kernel
theorem dc212_273 : decode (pm_mb 212) 273 = .ok (.iconst 5, 1) := by decide +kernel
theorem dc212_274 : decode (pm_mb 212) 274 = .ok (.iadd, 1) := by decide +kernel
theorem dc212_275 : decode (pm_mb 212) 275 = .ok (.iaload, 1) := by decide +kernel
theorem dc212_276 : decode (pm_mb 212) 276 = .ok (.invokevirtual 22, 3) := by decide +kernel
theorem dc212_279 : decode (pm_mb 212) 279 = .ok (.aload_n 2, 1) := by decide +kernel
theorem dc212_280 : decode (pm_mb 212) 280 = .ok (.aload_n 0, 1) := by decide +kernel
theorem dc212_281 : decode (pm_mb 212) 281 = .ok (.iload_n 3, 1) := by decide +kernel
theorem dc212_282 : decode (pm_mb 212) 282 = .ok (.iconst 1, 1) := by decide +kernel
theorem dc212_283 : decode (pm_mb 212) 283 = .ok (.iadd, 1) := by decide +kernel
theorem dc212_284 : decode (pm_mb 212) 284 = .ok (.iaload, 1) := by decide +kernel
theorem dc212_285 : decode (pm_mb 212) 285 = .ok (.aload_n 0, 1) := by decide +kernel
theorem dc212_286 : decode (pm_mb 212) 286 = .ok (.iload_n 3, 1) := by decide +kernel
theorem dc212_287 : decode (pm_mb 212) 287 = .ok (.iconst 2, 1) := by decide +kernel
theorem dc212_288 : decode (pm_mb 212) 288 = .ok (.iadd, 1) := by decide +kernel
theorem dc212_289 : decode (pm_mb 212) 289 = .ok (.iaload, 1) := by decide +kernel
theorem dc212_290 : decode (pm_mb 212) 290 = .ok (.aload_n 0, 1) := by decide +kernel
theorem dc212_291 : decode (pm_mb 212) 291 = .ok (.iload_n 3, 1) := by decide +kernel
theorem dc212_292 : decode (pm_mb 212) 292 = .ok (.iconst 3, 1) := by decide +kernel
theorem dc212_293 : decode (pm_mb 212) 293 = .ok (.iadd, 1) := by decide +kernel
theorem dc212_294 : decode (pm_mb 212) 294 = .ok (.iaload, 1) := by decide +kernel
theorem dc212_295 : decode (pm_mb 212) 295 = .ok (.aload_n 0, 1) := by decide +kernel
theorem dc212_296 : decode (pm_mb 212) 296 = .ok (.iload_n 3, 1) := by decide +kernel
theorem dc212_297 : decode (pm_mb 212) 297 = .ok (.iconst 4, 1) := by decide +kernel
theorem dc212_298 : decode (pm_mb 212) 298 = .ok (.iadd, 1) := by decide +kernel
theorem dc212_299 : decode (pm_mb 212) 299 = .ok (.iaload, 1) := by decide +kernel
theorem dc212_300 : decode (pm_mb 212) 300 = .ok (.aload_n 0, 1) := by decide +kernel
theorem dc212_301 : decode (pm_mb 212) 301 = .ok (.iload_n 3, 1) := by decide +kernel
theorem dc212_302 : decode (pm_mb 212) 302 = .ok (.iconst 5, 1) := by decide +kernel
theorem dc212_303 : decode (pm_mb 212) 303 = .ok (.iadd, 1) := by decide +kernel
theorem dc212_304 : decode (pm_mb 212) 304 = .ok (.iaload, 1) := by decide +kernel
theorem dc212_305 : decode (pm_mb 212) 305 = .ok (.invokevirtual 26, 3) := by decide +kernel
theorem dc212_308 : decode (pm_mb 212) 308 = .ok (.if_icmp .eq 763, 3) := by decide +kernel
theorem dc212_311 : decode (pm_mb 212) 311 = .ok (.iconst 0, 1) := by decide +kernel
theorem dc212_312 : decode (pm_mb 212) 312 = .ok (.ireturn, 1) := by decide +kernel
theorem dc212_313 : decode (pm_mb 212) 313 = .ok (.aload_n 1, 1) := by decide +kernel
theorem dc212_314 : decode (pm_mb 212) 314 = .ok (.aload_n 0, 1) := by decide +kernel
theorem dc212_315 : decode (pm_mb 212) 315 = .ok (.iload_n 3, 1) := by decide +kernel
theorem dc212_316 : decode (pm_mb 212) 316 = .ok (.iconst 1, 1) := by decide +kernel
theorem dc212_317 : decode (pm_mb 212) 317 = .ok (.iadd, 1) := by decide +kernel
theorem dc212_318 : decode (pm_mb 212) 318 = .ok (.iaload, 1) := by decide +kernel
theorem dc212_319 : decode (pm_mb 212) 319 = .ok (.invokevirtual 27, 3) := by decide +kernel
theorem dc212_322 : decode (pm_mb 212) 322 = .ok (.aload_n 2, 1) := by decide +kernel
theorem dc212_323 : decode (pm_mb 212) 323 = .ok (.aload_n 0, 1) := by decide +kernel
theorem dc212_324 : decode (pm_mb 212) 324 = .ok (.iload_n 3, 1) := by decide +kernel
theorem dc212_325 : decode (pm_mb 212) 325 = .ok (.iconst 1, 1) := by decide +kernel
theorem dc212_326 : decode (pm_mb 212) 326 = .ok (.iadd, 1) := by decide +kernel
theorem dc212_327 : decode (pm_mb 212) 327 = .ok (.iaload, 1) := by decide +kernel
theorem dc212_328 : decode (pm_mb 212) 328 = .ok (.invokevirtual 31, 3) := by decide +kernel
theorem dc212_331 : decode (pm_mb 212) 331 = .ok (.if_icmp .eq 740, 3) := by decide +kernel
theorem dc212_334 : decode (pm_mb 212) 334 = .ok (.iconst 0, 1) := by decide +kernel
theorem dc212_335 : decode (pm_mb 212) 335 = .ok (.ireturn, 1) := by decide +kernel
theorem dc212_336 : decode (pm_mb 212) 336 = .ok (.aload_n 1, 1) := by decide +kernel
theorem dc212_337 : decode (pm_mb 212) 337 = .ok (.aload_n 0, 1) := by decide +kernel
theorem dc212_338 : decode (pm_mb 212) 338 = .ok (.iload_n 3, 1) := by decide +kernel
theorem dc212_339 : decode (pm_mb 212) 339 = .ok (.iconst 1, 1) := by decide +kernel
theorem dc212_340 : decode (pm_mb 212) 340 = .ok (.iadd, 1) := by decide +kernel
theorem dc212_341 : decode (pm_mb 212) 341 = .ok (.iaload, 1) := by decide +kernel
theorem dc212_342 : decode (pm_mb 212) 342 = .ok (.i2l, 1) := by decide +kernel
theorem dc212_343 : decode (pm_mb 212) 343 = .ok (.bipush 32, 2) := by decide +kernel
theorem dc212_345 : decode (pm_mb 212) 345 = .ok (.lshl, 1) := by decide +kernel
theorem dc212_346 : decode (pm_mb 212) 346 = .ok (.aload_n 0, 1) := by decide +kernel
theorem dc212_347 : decode (pm_mb 212) 347 = .ok (.iload_n 3, 1) := by decide +kernel
theorem dc212_348 : decode (pm_mb 212) 348 = .ok (.iconst 2, 1) := by decide +kernel
theorem dc212_349 : decode (pm_mb 212) 349 = .ok (.iadd, 1) := by decide +kernel
theorem dc212_350 : decode (pm_mb 212) 350 = .ok (.iaload, 1) := by decide +kernel
theorem dc212_351 : decode (pm_mb 212) 351 = .ok (.i2l, 1) := by decide +kernel
theorem dc212_352 : decode (pm_mb 212) 352 = .ok (.ldc2_w 32, 3) := by decide +kernel
theorem dc212_355 : decode (pm_mb 212) 355 = .ok (.land, 1) := by decide +kernel
theorem dc212_356 : decode (pm_mb 212) 356 = .ok (.lor, 1) := by decide +kernel
theorem dc212_357 : decode (pm_mb 212) 357 = .ok (.aload_n 0, 1) := by decide +kernel
theorem dc212_358 : decode (pm_mb 212) 358 = .ok (.iload_n 3, 1) := by decide +kernel
theorem dc212_359 : decode (pm_mb 212) 359 = .ok (.iconst 3, 1) := by decide +kernel
theorem dc212_360 : decode (pm_mb 212) 360 = .ok (.iadd, 1) := by decide +kernel
theorem dc212_361 : decode (pm_mb 212) 361 = .ok (.iaload, 1) := by decide +kernel
theorem dc212_362 : decode (pm_mb 212) 362 = .ok (.invokevirtual 34, 3) := by decide +kernel
theorem dc212_365 : decode (pm_mb 212) 365 = .ok (.aload_n 2, 1) := by decide +kernel
theorem dc212_366 : decode (pm_mb 212) 366 = .ok (.aload_n 0, 1) := by decide +kernel
theorem dc212_367 : decode (pm_mb 212) 367 = .ok (.iload_n 3, 1) := by decide +kernel
theorem dc212_368 : decode (pm_mb 212) 368 = .ok (.iconst 1, 1) := by decide +kernel
theorem dc212_369 : decode (pm_mb 212) 369 = .ok (.iadd, 1) := by decide +kernel
theorem dc212_370 : decode (pm_mb 212) 370 = .ok (.iaload, 1) := by decide +kernel
theorem dc212_371 : decode (pm_mb 212) 371 = .ok (.i2l, 1) := by decide +kernel
theorem dc212_372 : decode (pm_mb 212) 372 = .ok (.bipush 32, 2) := by decide +kernel
theorem dc212_374 : decode (pm_mb 212) 374 = .ok (.lshl, 1) := by decide +kernel
theorem dc212_375 : decode (pm_mb 212) 375 = .ok (.aload_n 0, 1) := by decide +kernel
theorem dc212_376 : decode (pm_mb 212) 376 = .ok (.iload_n 3, 1) := by decide +kernel
theorem dc212_377 : decode (pm_mb 212) 377 = .ok (.iconst 2, 1) := by decide +kernel
theorem dc212_378 : decode (pm_mb 212) 378 = .ok (.iadd, 1) := by decide +kernel
theorem dc212_379 : decode (pm_mb 212) 379 = .ok (.iaload, 1) := by decide +kernel
theorem dc212_380 : decode (pm_mb 212) 380 = .ok (.i2l, 1) := by decide +kernel
theorem dc212_381 : decode (pm_mb 212) 381 = .ok (.ldc2_w 32, 3) := by decide +kernel
theorem dc212_384 : decode (pm_mb 212) 384 = .ok (.land, 1) := by decide +kernel
theorem dc212_385 : decode (pm_mb 212) 385 = .ok (.lor, 1) := by decide +kernel
theorem dc212_386 : decode (pm_mb 212) 386 = .ok (.aload_n 0, 1) := by decide +kernel
theorem dc212_387 : decode (pm_mb 212) 387 = .ok (.iload_n 3, 1) := by decide +kernel
theorem dc212_388 : decode (pm_mb 212) 388 = .ok (.iconst 3, 1) := by decide +kernel
theorem dc212_389 : decode (pm_mb 212) 389 = .ok (.iadd, 1) := by decide +kernel
theorem dc212_390 : decode (pm_mb 212) 390 = .ok (.iaload, 1) := by decide +kernel
theorem dc212_391 : decode (pm_mb 212) 391 = .ok (.invokevirtual 38, 3) := by decide +kernel
theorem dc212_394 : decode (pm_mb 212) 394 = .ok (.if_icmp .eq 677, 3) := by decide +kernel
theorem dc212_397 : decode (pm_mb 212) 397 = .ok (.iconst 0, 1) := by decide +kernel
theorem dc212_398 : decode (pm_mb 212) 398 = .ok (.ireturn, 1) := by decide +kernel
theorem dc212_399 : decode (pm_mb 212) 399 = .ok (.aload_n 1, 1) := by decide +kernel
theorem dc212_400 : decode (pm_mb 212) 400 = .ok (.invokevirtual 39, 3) := by decide +kernel
theorem dc212_403 : decode (pm_mb 212) 403 = .ok (.aload_n 2, 1) := by decide +kernel
theorem dc212_404 : decode (pm_mb 212) 404 = .ok (.invokevirtual 43, 3) := by decide +kernel
theorem dc212_407 : decode (pm_mb 212) 407 = .ok (.if_icmp .eq 664, 3) := by decide +kernel
theorem dc212_410 : decode (pm_mb 212) 410 = .ok (.iconst 0, 1) := by decide +kernel
theorem dc212_411 : decode (pm_mb 212) 411 = .ok (.ireturn, 1) := by decide +kernel
theorem dc212_412 : decode (pm_mb 212) 412 = .ok (.aload_n 1, 1) := by decide +kernel
theorem dc212_413 : decode (pm_mb 212) 413 = .ok (.invokevirtual 44, 3) := by decide +kernel
theorem dc212_416 : decode (pm_mb 212) 416 = .ok (.aload_n 2, 1) := by decide +kernel
theorem dc212_417 : decode (pm_mb 212) 417 = .ok (.invokevirtual 47, 3) := by decide +kernel
theorem dc212_420 : decode (pm_mb 212) 420 = .ok (.if_icmp .eq 651, 3) := by decide +kernel
theorem dc212_423 : decode (pm_mb 212) 423 = .ok (.iconst 0, 1) := by decide +kernel
theorem dc212_424 : decode (pm_mb 212) 424 = .ok (.ireturn, 1) := by decide +kernel
theorem dc212_425 : decode (pm_mb 212) 425 = .ok (.aload_n 1, 1) := by decide +kernel
theorem dc212_426 : decode (pm_mb 212) 426 = .ok (.invokevirtual 48, 3) := by decide +kernel
theorem dc212_429 : decode (pm_mb 212) 429 = .ok (.aload_n 2, 1) := by decide +kernel
theorem dc212_430 : decode (pm_mb 212) 430 = .ok (.invokevirtual 51, 3) := by decide +kernel
theorem dc212_433 : decode (pm_mb 212) 433 = .ok (.if_icmp .eq 638, 3) := by decide +kernel
theorem dc212_436 : decode (pm_mb 212) 436 = .ok (.iconst 0, 1) := by decide +kernel
theorem dc212_437 : decode (pm_mb 212) 437 = .ok (.ireturn, 1) := by decide +kernel
theorem dc212_438 : decode (pm_mb 212) 438 = .ok (.aload_n 1, 1) := by decide +kernel
theorem dc212_439 : decode (pm_mb 212) 439 = .ok (.aload_n 0, 1) := by decide +kernel
theorem dc212_440 : decode (pm_mb 212) 440 = .ok (.iload_n 3, 1) := by decide +kernel
theorem dc212_441 : decode (pm_mb 212) 441 = .ok (.iconst 1, 1) := by decide +kernel
theorem dc212_442 : decode (pm_mb 212) 442 = .ok (.iadd, 1) := by decide +kernel
theorem dc212_443 : decode (pm_mb 212) 443 = .ok (.iaload, 1) := by decide +kernel
theorem dc212_444 : decode (pm_mb 212) 444 = .ok (.aload_n 0, 1) := by decide +kernel
theorem dc212_445 : decode (pm_mb 212) 445 = .ok (.iload_n 3, 1) := by decide +kernel
theorem dc212_446 : decode (pm_mb 212) 446 = .ok (.iconst 2, 1) := by decide +kernel
theorem dc212_447 : decode (pm_mb 212) 447 = .ok (.iadd, 1) := by decide +kernel
theorem dc212_448 : decode (pm_mb 212) 448 = .ok (.iaload, 1) := by decide +kernel
theorem dc212_449 : decode (pm_mb 212) 449 = .ok (.invokevirtual 52, 3) := by decide +kernel
theorem dc212_452 : decode (pm_mb 212) 452 = .ok (.aload_n 2, 1) := by decide +kernel
theorem dc212_453 : decode (pm_mb 212) 453 = .ok (.aload_n 0, 1) := by decide +kernel
theorem dc212_454 : decode (pm_mb 212) 454 = .ok (.iload_n 3, 1) := by decide +kernel
theorem dc212_455 : decode (pm_mb 212) 455 = .ok (.iconst 1, 1) := by decide +kernel
theorem dc212_456 : decode (pm_mb 212) 456 = .ok (.iadd, 1) := by decide +kernel
theorem dc212_457 : decode (pm_mb 212) 457 = .ok (.iaload, 1) := by decide +kernel
theorem dc212_458 : decode (pm_mb 212) 458 = .ok (.aload_n 0, 1) := by decide +kernel
theorem dc212_459 : decode (pm_mb 212) 459 = .ok (.iload_n 3, 1) := by decide +kernel
theorem dc212_460 : decode (pm_mb 212) 460 = .ok (.iconst 2, 1) := by decide +kernel
theorem dc212_461 : decode (pm_mb 212) 461 = .ok (.iadd, 1) := by decide +kernel
theorem dc212_462 : decode (pm_mb 212) 462 = .ok (.iaload, 1) := by decide +kernel
theorem dc212_463 : decode (pm_mb 212) 463 = .ok (.invokevirtual 56, 3) := by decide +kernel
theorem dc212_466 : decode (pm_mb 212) 466 = .ok (.if_icmp .eq 605, 3) := by decide +kernel
theorem dc212_469 : decode (pm_mb 212) 469 = .ok (.iconst 0, 1) := by decide +kernel
theorem dc212_470 : decode (pm_mb 212) 470 = .ok (.ireturn, 1) := by decide +kernel
theorem dc212_471 : decode (pm_mb 212) 471 = .ok (.aload_n 1, 1) := by decide +kernel
theorem dc212_472 : decode (pm_mb 212) 472 = .ok (.aload_n 0, 1) := by decide +kernel
theorem dc212_473 : decode (pm_mb 212) 473 = .ok (.iload_n 3, 1) := by decide +kernel
theorem dc212_474 : decode (pm_mb 212) 474 = .ok (.iconst 1, 1) := by decide +kernel
theorem dc212_475 : decode (pm_mb 212) 475 = .ok (.iadd, 1) := by decide +kernel
theorem dc212_476 : decode (pm_mb 212) 476 = .ok (.iaload, 1) := by decide +kernel
theorem dc212_477 : decode (pm_mb 212) 477 = .ok (.aload_n 0, 1) := by decide +kernel
theorem dc212_478 : decode (pm_mb 212) 478 = .ok (.iload_n 3, 1) := by decide +kernel
theorem dc212_479 : decode (pm_mb 212) 479 = .ok (.iconst 2, 1) := by decide +kernel
theorem dc212_480 : decode (pm_mb 212) 480 = .ok (.iadd, 1) := by decide +kernel
theorem dc212_481 : decode (pm_mb 212) 481 = .ok (.iaload, 1) := by decide +kernel
theorem dc212_482 : decode (pm_mb 212) 482 = .ok (.invokevirtual 57, 3) := by decide +kernel
theorem dc212_485 : decode (pm_mb 212) 485 = .ok (.aload_n 2, 1) := by decide +kernel
theorem dc212_486 : decode (pm_mb 212) 486 = .ok (.aload_n 0, 1) := by decide +kernel
theorem dc212_487 : decode (pm_mb 212) 487 = .ok (.iload_n 3, 1) := by decide +kernel
theorem dc212_488 : decode (pm_mb 212) 488 = .ok (.iconst 1, 1) := by decide +kernel
theorem dc212_489 : decode (pm_mb 212) 489 = .ok (.iadd, 1) := by decide +kernel
theorem dc212_490 : decode (pm_mb 212) 490 = .ok (.iaload, 1) := by decide +kernel
theorem dc212_491 : decode (pm_mb 212) 491 = .ok (.aload_n 0, 1) := by decide +kernel
theorem dc212_492 : decode (pm_mb 212) 492 = .ok (.iload_n 3, 1) := by decide +kernel
theorem dc212_493 : decode (pm_mb 212) 493 = .ok (.iconst 2, 1) := by decide +kernel
theorem dc212_494 : decode (pm_mb 212) 494 = .ok (.iadd, 1) := by decide +kernel
theorem dc212_495 : decode (pm_mb 212) 495 = .ok (.iaload, 1) := by decide +kernel
theorem dc212_496 : decode (pm_mb 212) 496 = .ok (.invokevirtual 60, 3) := by decide +kernel
theorem dc212_499 : decode (pm_mb 212) 499 = .ok (.if_icmp .eq 572, 3) := by decide +kernel
theorem dc212_502 : decode (pm_mb 212) 502 = .ok (.iconst 0, 1) := by decide +kernel
theorem dc212_503 : decode (pm_mb 212) 503 = .ok (.ireturn, 1) := by decide +kernel
theorem dc212_504 : decode (pm_mb 212) 504 = .ok (.aload_n 1, 1) := by decide +kernel
theorem dc212_505 : decode (pm_mb 212) 505 = .ok (.aload_n 0, 1) := by decide +kernel
theorem dc212_506 : decode (pm_mb 212) 506 = .ok (.iload_n 3, 1) := by decide +kernel
theorem dc212_507 : decode (pm_mb 212) 507 = .ok (.iconst 1, 1) := by decide +kernel
theorem dc212_508 : decode (pm_mb 212) 508 = .ok (.iadd, 1) := by decide +kernel
theorem dc212_509 : decode (pm_mb 212) 509 = .ok (.iaload, 1) := by decide +kernel
theorem dc212_510 : decode (pm_mb 212) 510 = .ok (.aload_n 0, 1) := by decide +kernel
theorem dc212_511 : decode (pm_mb 212) 511 = .ok (.iload_n 3, 1) := by decide +kernel
theorem dc212_512 : decode (pm_mb 212) 512 = .ok (.iconst 2, 1) := by decide +kernel
theorem dc212_513 : decode (pm_mb 212) 513 = .ok (.iadd, 1) := by decide +kernel
theorem dc212_514 : decode (pm_mb 212) 514 = .ok (.iaload, 1) := by decide +kernel
theorem dc212_515 : decode (pm_mb 212) 515 = .ok (.aload_n 0, 1) := by decide +kernel
theorem dc212_516 : decode (pm_mb 212) 516 = .ok (.iload_n 3, 1) := by decide +kernel
theorem dc212_517 : decode (pm_mb 212) 517 = .ok (.iconst 3, 1) := by decide +kernel
theorem dc212_518 : decode (pm_mb 212) 518 = .ok (.iadd, 1) := by decide +kernel
theorem dc212_519 : decode (pm_mb 212) 519 = .ok (.iaload, 1) := by decide +kernel
theorem dc212_520 : decode (pm_mb 212) 520 = .ok (.invokevirtual 61, 3) := by decide +kernel
theorem dc212_523 : decode (pm_mb 212) 523 = .ok (.aload_n 2, 1) := by decide +kernel
theorem dc212_524 : decode (pm_mb 212) 524 = .ok (.aload_n 0, 1) := by decide +kernel
theorem dc212_525 : decode (pm_mb 212) 525 = .ok (.iload_n 3, 1) := by decide +kernel
theorem dc212_526 : decode (pm_mb 212) 526 = .ok (.iconst 1, 1) := by decide +kernel
theorem dc212_527 : decode (pm_mb 212) 527 = .ok (.iadd, 1) := by decide +kernel
theorem dc212_528 : decode (pm_mb 212) 528 = .ok (.iaload, 1) := by decide +kernel
theorem dc212_529 : decode (pm_mb 212) 529 = .ok (.aload_n 0, 1) := by decide +kernel
theorem dc212_530 : decode (pm_mb 212) 530 = .ok (.iload_n 3, 1) := by decide +kernel
theorem dc212_531 : decode (pm_mb 212) 531 = .ok (.iconst 2, 1) := by decide +kernel
theorem dc212_532 : decode (pm_mb 212) 532 = .ok (.iadd, 1) := by decide +kernel
theorem dc212_533 : decode (pm_mb 212) 533 = .ok (.iaload, 1) := by decide +kernel
theorem dc212_534 : decode (pm_mb 212) 534 = .ok (.aload_n 0, 1) := by decide +kernel
theorem dc212_535 : decode (pm_mb 212) 535 = .ok (.iload_n 3, 1) := by decide +kernel
theorem dc212_536 : decode (pm_mb 212) 536 = .ok (.iconst 3, 1) := by decide +kernel
theorem dc212_537 : decode (pm_mb 212) 537 = .ok (.iadd, 1) := by decide +kernel
theorem dc212_538 : decode (pm_mb 212) 538 = .ok (.iaload, 1) := by decide +kernel
theorem dc212_539 : decode (pm_mb 212) 539 = .ok (.invokevirtual 64, 3) := by decide +kernel
theorem dc212_542 : decode (pm_mb 212) 542 = .ok (.if_icmp .eq 529, 3) := by decide +kernel
theorem dc212_545 : decode (pm_mb 212) 545 = .ok (.iconst 0, 1) := by decide +kernel
theorem dc212_546 : decode (pm_mb 212) 546 = .ok (.ireturn, 1) := by decide +kernel
theorem dc212_547 : decode (pm_mb 212) 547 = .ok (.aload_n 1, 1) := by decide +kernel
theorem dc212_548 : decode (pm_mb 212) 548 = .ok (.invokevirtual 65, 3) := by decide +kernel
theorem dc212_551 : decode (pm_mb 212) 551 = .ok (.aload_n 2, 1) := by decide +kernel
theorem dc212_552 : decode (pm_mb 212) 552 = .ok (.invokevirtual 68, 3) := by decide +kernel
theorem dc212_555 : decode (pm_mb 212) 555 = .ok (.if_icmp .eq 516, 3) := by decide +kernel
theorem dc212_558 : decode (pm_mb 212) 558 = .ok (.iconst 0, 1) := by decide +kernel
theorem dc212_559 : decode (pm_mb 212) 559 = .ok (.ireturn, 1) := by decide +kernel
theorem dc212_560 : decode (pm_mb 212) 560 = .ok (.aload_n 1, 1) := by decide +kernel
theorem dc212_561 : decode (pm_mb 212) 561 = .ok (.aload_n 0, 1) := by decide +kernel
theorem dc212_562 : decode (pm_mb 212) 562 = .ok (.iload_n 3, 1) := by decide +kernel
theorem dc212_563 : decode (pm_mb 212) 563 = .ok (.iconst 1, 1) := by decide +kernel
theorem dc212_564 : decode (pm_mb 212) 564 = .ok (.iadd, 1) := by decide +kernel
theorem dc212_565 : decode (pm_mb 212) 565 = .ok (.iaload, 1) := by decide +kernel
theorem dc212_566 : decode (pm_mb 212) 566 = .ok (.aload_n 0, 1) := by decide +kernel
theorem dc212_567 : decode (pm_mb 212) 567 = .ok (.iload_n 3, 1) := by decide +kernel
theorem dc212_568 : decode (pm_mb 212) 568 = .ok (.iconst 2, 1) := by decide +kernel
theorem dc212_569 : decode (pm_mb 212) 569 = .ok (.iadd, 1) := by decide +kernel
theorem dc212_570 : decode (pm_mb 212) 570 = .ok (.iaload, 1) := by decide +kernel
theorem dc212_571 : decode (pm_mb 212) 571 = .ok (.invokevirtual 69, 3) := by decide +kernel
theorem dc212_574 : decode (pm_mb 212) 574 = .ok (.aload_n 2, 1) := by decide +kernel
theorem dc212_575 : decode (pm_mb 212) 575 = .ok (.aload_n 0, 1) := by decide +kernel
theorem dc212_576 : decode (pm_mb 212) 576 = .ok (.iload_n 3, 1) := by decide +kernel
theorem dc212_577 : decode (pm_mb 212) 577 = .ok (.iconst 1, 1) := by decide +kernel
theorem dc212_578 : decode (pm_mb 212) 578 = .ok (.iadd, 1) := by decide +kernel
theorem dc212_579 : decode (pm_mb 212) 579 = .ok (.iaload, 1) := by decide +kernel
theorem dc212_580 : decode (pm_mb 212) 580 = .ok (.aload_n 0, 1) := by decide +kernel
theorem dc212_581 : decode (pm_mb 212) 581 = .ok (.iload_n 3, 1) := by decide +kernel
theorem dc212_582 : decode (pm_mb 212) 582 = .ok (.iconst 2, 1) := by decide +kernel
theorem dc212_583 : decode (pm_mb 212) 583 = .ok (.iadd, 1) := by decide +kernel
theorem dc212_584 : decode (pm_mb 212) 584 = .ok (.iaload, 1) := by decide +kernel
theorem dc212_585 : decode (pm_mb 212) 585 = .ok (.invokevirtual 72, 3) := by decide +kernel
theorem dc212_588 : decode (pm_mb 212) 588 = .ok (.if_icmp .eq 483, 3) := by decide +kernel
theorem dc212_591 : decode (pm_mb 212) 591 = .ok (.iconst 0, 1) := by decide +kernel
theorem dc212_592 : decode (pm_mb 212) 592 = .ok (.ireturn, 1) := by decide +kernel
theorem dc212_593 : decode (pm_mb 212) 593 = .ok (.aload_n 1, 1) := by decide +kernel
theorem dc212_594 : decode (pm_mb 212) 594 = .ok (.aload_n 0, 1) := by decide +kernel
theorem dc212_595 : decode (pm_mb 212) 595 = .ok (.iload_n 3, 1) := by decide +kernel
theorem dc212_596 : decode (pm_mb 212) 596 = .ok (.iconst 1, 1) := by decide +kernel
theorem dc212_597 : decode (pm_mb 212) 597 = .ok (.iadd, 1) := by decide +kernel
theorem dc212_598 : decode (pm_mb 212) 598 = .ok (.iaload, 1) := by decide +kernel
theorem dc212_599 : decode (pm_mb 212) 599 = .ok (.aload_n 0, 1) := by decide +kernel
theorem dc212_600 : decode (pm_mb 212) 600 = .ok (.iload_n 3, 1) := by decide +kernel
theorem dc212_601 : decode (pm_mb 212) 601 = .ok (.iconst 2, 1) := by decide +kernel
theorem dc212_602 : decode (pm_mb 212) 602 = .ok (.iadd, 1) := by decide +kernel
theorem dc212_603 : decode (pm_mb 212) 603 = .ok (.iaload, 1) := by decide +kernel
theorem dc212_604 : decode (pm_mb 212) 604 = .ok (.invokevirtual 73, 3) := by decide +kernel
theorem dc212_607 : decode (pm_mb 212) 607 = .ok (.aload_n 2, 1) := by decide +kernel
theorem dc212_608 : decode (pm_mb 212) 608 = .ok (.aload_n 0, 1) := by decide +kernel
theorem dc212_609 : decode (pm_mb 212) 609 = .ok (.iload_n 3, 1) := by decide +kernel
theorem dc212_610 : decode (pm_mb 212) 610 = .ok (.iconst 1, 1) := by decide +kernel
theorem dc212_611 : decode (pm_mb 212) 611 = .ok (.iadd, 1) := by decide +kernel
theorem dc212_612 : decode (pm_mb 212) 612 = .ok (.iaload, 1) := by decide +kernel
theorem dc212_613 : decode (pm_mb 212) 613 = .ok (.aload_n 0, 1) := by decide +kernel
theorem dc212_614 : decode (pm_mb 212) 614 = .ok (.iload_n 3, 1) := by decide +kernel
theorem dc212_615 : decode (pm_mb 212) 615 = .ok (.iconst 2, 1) := by decide +kernel
theorem dc212_616 : decode (pm_mb 212) 616 = .ok (.iadd, 1) := by decide +kernel
theorem dc212_617 : decode (pm_mb 212) 617 = .ok (.iaload, 1) := by decide +kernel
theorem dc212_618 : decode (pm_mb 212) 618 = .ok (.invokevirtual 76, 3) := by decide +kernel
theorem dc212_621 : decode (pm_mb 212) 621 = .ok (.if_icmp .eq 450, 3) := by decide +kernel
theorem dc212_624 : decode (pm_mb 212) 624 = .ok (.iconst 0, 1) := by decide +kernel
theorem dc212_625 : decode (pm_mb 212) 625 = .ok (.ireturn, 1) := by decide +kernel
theorem dc212_626 : decode (pm_mb 212) 626 = .ok (.aload_n 1, 1) := by decide +kernel
theorem dc212_627 : decode (pm_mb 212) 627 = .ok (.aload_n 0, 1) := by decide +kernel
theorem dc212_628 : decode (pm_mb 212) 628 = .ok (.iload_n 3, 1) := by decide +kernel
theorem dc212_629 : decode (pm_mb 212) 629 = .ok (.iconst 1, 1) := by decide +kernel
theorem dc212_630 : decode (pm_mb 212) 630 = .ok (.iadd, 1) := by decide +kernel
theorem dc212_631 : decode (pm_mb 212) 631 = .ok (.iaload, 1) := by decide +kernel
theorem dc212_632 : decode (pm_mb 212) 632 = .ok (.aload_n 0, 1) := by decide +kernel
theorem dc212_633 : decode (pm_mb 212) 633 = .ok (.iload_n 3, 1) := by decide +kernel
theorem dc212_634 : decode (pm_mb 212) 634 = .ok (.iconst 2, 1) := by decide +kernel
theorem dc212_635 : decode (pm_mb 212) 635 = .ok (.iadd, 1) := by decide +kernel
theorem dc212_636 : decode (pm_mb 212) 636 = .ok (.iaload, 1) := by decide +kernel
theorem dc212_637 : decode (pm_mb 212) 637 = .ok (.aload_n 0, 1) := by decide +kernel
theorem dc212_638 : decode (pm_mb 212) 638 = .ok (.iload_n 3, 1) := by decide +kernel
theorem dc212_639 : decode (pm_mb 212) 639 = .ok (.iconst 3, 1) := by decide +kernel
theorem dc212_640 : decode (pm_mb 212) 640 = .ok (.iadd, 1) := by decide +kernel
theorem dc212_641 : decode (pm_mb 212) 641 = .ok (.iaload, 1) := by decide +kernel
theorem dc212_642 : decode (pm_mb 212) 642 = .ok (.invokevirtual 77, 3) := by decide +kernel
theorem dc212_645 : decode (pm_mb 212) 645 = .ok (.aload_n 2, 1) := by decide +kernel
theorem dc212_646 : decode (pm_mb 212) 646 = .ok (.aload_n 0, 1) := by decide +kernel
theorem dc212_647 : decode (pm_mb 212) 647 = .ok (.iload_n 3, 1) := by decide +kernel
theorem dc212_648 : decode (pm_mb 212) 648 = .ok (.iconst 1, 1) := by decide +kernel
theorem dc212_649 : decode (pm_mb 212) 649 = .ok (.iadd, 1) := by decide +kernel
theorem dc212_650 : decode (pm_mb 212) 650 = .ok (.iaload, 1) := by decide +kernel
theorem dc212_651 : decode (pm_mb 212) 651 = .ok (.aload_n 0, 1) := by decide +kernel
theorem dc212_652 : decode (pm_mb 212) 652 = .ok (.iload_n 3, 1) := by decide +kernel
theorem dc212_653 : decode (pm_mb 212) 653 = .ok (.iconst 2, 1) := by decide +kernel
theorem dc212_654 : decode (pm_mb 212) 654 = .ok (.iadd, 1) := by decide +kernel
theorem dc212_655 : decode (pm_mb 212) 655 = .ok (.iaload, 1) := by decide +kernel
theorem dc212_656 : decode (pm_mb 212) 656 = .ok (.aload_n 0, 1) := by decide +kernel
theorem dc212_657 : decode (pm_mb 212) 657 = .ok (.iload_n 3, 1) := by decide +kernel
theorem dc212_658 : decode (pm_mb 212) 658 = .ok (.iconst 3, 1) := by decide +kernel
theorem dc212_659 : decode (pm_mb 212) 659 = .ok (.iadd, 1) := by decide +kernel
theorem dc212_660 : decode (pm_mb 212) 660 = .ok (.iaload, 1) := by decide +kernel
theorem dc212_661 : decode (pm_mb 212) 661 = .ok (.invokevirtual 80, 3) := by decide +kernel
theorem dc212_664 : decode (pm_mb 212) 664 = .ok (.if_icmp .eq 407, 3) := by decide +kernel
theorem dc212_667 : decode (pm_mb 212) 667 = .ok (.iconst 0, 1) := by decide +kernel
theorem dc212_668 : decode (pm_mb 212) 668 = .ok (.ireturn, 1) := by decide +kernel
theorem dc212_669 : decode (pm_mb 212) 669 = .ok (.aload_n 1, 1) := by decide +kernel
theorem dc212_670 : decode (pm_mb 212) 670 = .ok (.aload_n 0, 1) := by decide +kernel
theorem dc212_671 : decode (pm_mb 212) 671 = .ok (.iload_n 3, 1) := by decide +kernel
theorem dc212_672 : decode (pm_mb 212) 672 = .ok (.iconst 1, 1) := by decide +kernel
theorem dc212_673 : decode (pm_mb 212) 673 = .ok (.iadd, 1) := by decide +kernel
theorem dc212_674 : decode (pm_mb 212) 674 = .ok (.iaload, 1) := by decide +kernel
theorem dc212_675 : decode (pm_mb 212) 675 = .ok (.invokevirtual 81, 3) := by decide +kernel
theorem dc212_678 : decode (pm_mb 212) 678 = .ok (.aload_n 2, 1) := by decide +kernel
theorem dc212_679 : decode (pm_mb 212) 679 = .ok (.aload_n 0, 1) := by decide +kernel
theorem dc212_680 : decode (pm_mb 212) 680 = .ok (.iload_n 3, 1) := by decide +kernel
theorem dc212_681 : decode (pm_mb 212) 681 = .ok (.iconst 1, 1) := by decide +kernel
theorem dc212_682 : decode (pm_mb 212) 682 = .ok (.iadd, 1) := by decide +kernel
theorem dc212_683 : decode (pm_mb 212) 683 = .ok (.iaload, 1) := by decide +kernel
theorem dc212_684 : decode (pm_mb 212) 684 = .ok (.invokevirtual 84, 3) := by decide +kernel
theorem dc212_687 : decode (pm_mb 212) 687 = .ok (.if_icmp .eq 384, 3) := by decide +kernel
theorem dc212_690 : decode (pm_mb 212) 690 = .ok (.iconst 0, 1) := by decide +kernel
theorem dc212_691 : decode (pm_mb 212) 691 = .ok (.ireturn, 1) := by decide +kernel
theorem dc212_692 : decode (pm_mb 212) 692 = .ok (.aload_n 1, 1) := by decide +kernel
theorem dc212_693 : decode (pm_mb 212) 693 = .ok (.aload_n 0, 1) := by decide +kernel
theorem dc212_694 : decode (pm_mb 212) 694 = .ok (.iload_n 3, 1) := by decide +kernel
theorem dc212_695 : decode (pm_mb 212) 695 = .ok (.iconst 1, 1) := by decide +kernel
theorem dc212_696 : decode (pm_mb 212) 696 = .ok (.iadd, 1) := by decide +kernel
theorem dc212_697 : decode (pm_mb 212) 697 = .ok (.iaload, 1) := by decide +kernel
theorem dc212_698 : decode (pm_mb 212) 698 = .ok (.aload_n 0, 1) := by decide +kernel
theorem dc212_699 : decode (pm_mb 212) 699 = .ok (.iload_n 3, 1) := by decide +kernel
theorem dc212_700 : decode (pm_mb 212) 700 = .ok (.iconst 2, 1) := by decide +kernel
theorem dc212_701 : decode (pm_mb 212) 701 = .ok (.iadd, 1) := by decide +kernel
theorem dc212_702 : decode (pm_mb 212) 702 = .ok (.iaload, 1) := by decide +kernel
theorem dc212_703 : decode (pm_mb 212) 703 = .ok (.aload_n 0, 1) := by decide +kernel
theorem dc212_704 : decode (pm_mb 212) 704 = .ok (.iload_n 3, 1) := by decide +kernel
theorem dc212_705 : decode (pm_mb 212) 705 = .ok (.iconst 3, 1) := by decide +kernel
theorem dc212_706 : decode (pm_mb 212) 706 = .ok (.iadd, 1) := by decide +kernel
theorem dc212_707 : decode (pm_mb 212) 707 = .ok (.iaload, 1) := by decide +kernel
theorem dc212_708 : decode (pm_mb 212) 708 = .ok (.invokevirtual 85, 3) := by decide +kernel
theorem dc212_711 : decode (pm_mb 212) 711 = .ok (.aload_n 2, 1) := by decide +kernel
theorem dc212_712 : decode (pm_mb 212) 712 = .ok (.aload_n 0, 1) := by decide +kernel
theorem dc212_713 : decode (pm_mb 212) 713 = .ok (.iload_n 3, 1) := by decide +kernel
theorem dc212_714 : decode (pm_mb 212) 714 = .ok (.iconst 1, 1) := by decide +kernel
theorem dc212_715 : decode (pm_mb 212) 715 = .ok (.iadd, 1) := by decide +kernel
theorem dc212_716 : decode (pm_mb 212) 716 = .ok (.iaload, 1) := by decide +kernel
theorem dc212_717 : decode (pm_mb 212) 717 = .ok (.aload_n 0, 1) := by decide +kernel
theorem dc212_718 : decode (pm_mb 212) 718 = .ok (.iload_n 3, 1) := by decide +kernel
theorem dc212_719 : decode (pm_mb 212) 719 = .ok (.iconst 2, 1) := by decide +kernel
theorem dc212_720 : decode (pm_mb 212) 720 = .ok (.iadd, 1) := by decide +kernel
theorem dc212_721 : decode (pm_mb 212) 721 = .ok (.iaload, 1) := by decide +kernel
theorem dc212_722 : decode (pm_mb 212) 722 = .ok (.aload_n 0, 1) := by decide +kernel
theorem dc212_723 : decode (pm_mb 212) 723 = .ok (.iload_n 3, 1) := by decide +kernel
theorem dc212_724 : decode (pm_mb 212) 724 = .ok (.iconst 3, 1) := by decide +kernel
theorem dc212_725 : decode (pm_mb 212) 725 = .ok (.iadd, 1) := by decide +kernel
theorem dc212_726 : decode (pm_mb 212) 726 = .ok (.iaload, 1) := by decide +kernel
theorem dc212_727 : decode (pm_mb 212) 727 = .ok (.invokevirtual 88, 3) := by decide +kernel
theorem dc212_730 : decode (pm_mb 212) 730 = .ok (.if_icmp .eq 341, 3) := by decide +kernel
theorem dc212_733 : decode (pm_mb 212) 733 = .ok (.iconst 0, 1) := by decide +kernel
theorem dc212_734 : decode (pm_mb 212) 734 = .ok (.ireturn, 1) := by decide +kernel
theorem dc212_735 : decode (pm_mb 212) 735 = .ok (.aload_n 1, 1) := by decide +kernel
theorem dc212_736 : decode (pm_mb 212) 736 = .ok (.aload_n 0, 1) := by decide +kernel
theorem dc212_737 : decode (pm_mb 212) 737 = .ok (.iload_n 3, 1) := by decide +kernel
theorem dc212_738 : decode (pm_mb 212) 738 = .ok (.iconst 1, 1) := by decide +kernel
theorem dc212_739 : decode (pm_mb 212) 739 = .ok (.iadd, 1) := by decide +kernel
theorem dc212_740 : decode (pm_mb 212) 740 = .ok (.iaload, 1) := by decide +kernel
theorem dc212_741 : decode (pm_mb 212) 741 = .ok (.aload_n 0, 1) := by decide +kernel
theorem dc212_742 : decode (pm_mb 212) 742 = .ok (.iload_n 3, 1) := by decide +kernel
theorem dc212_743 : decode (pm_mb 212) 743 = .ok (.iconst 2, 1) := by decide +kernel
theorem dc212_744 : decode (pm_mb 212) 744 = .ok (.iadd, 1) := by decide +kernel
theorem dc212_745 : decode (pm_mb 212) 745 = .ok (.iaload, 1) := by decide +kernel
theorem dc212_746 : decode (pm_mb 212) 746 = .ok (.aload_n 0, 1) := by decide +kernel
theorem dc212_747 : decode (pm_mb 212) 747 = .ok (.iload_n 3, 1) := by decide +kernel
theorem dc212_748 : decode (pm_mb 212) 748 = .ok (.iconst 3, 1) := by decide +kernel
theorem dc212_749 : decode (pm_mb 212) 749 = .ok (.iadd, 1) := by decide +kernel
theorem dc212_750 : decode (pm_mb 212) 750 = .ok (.iaload, 1) := by decide +kernel
theorem dc212_751 : decode (pm_mb 212) 751 = .ok (.aload_n 0, 1) := by decide +kernel
theorem dc212_752 : decode (pm_mb 212) 752 = .ok (.iload_n 3, 1) := by decide +kernel
theorem dc212_753 : decode (pm_mb 212) 753 = .ok (.iconst 4, 1) := by decide +kernel
theorem dc212_754 : decode (pm_mb 212) 754 = .ok (.iadd, 1) := by decide +kernel
theorem dc212_755 : decode (pm_mb 212) 755 = .ok (.iaload, 1) := by decide +kernel
theorem dc212_756 : decode (pm_mb 212) 756 = .ok (.invokevirtual 89, 3) := by decide +kernel
theorem dc212_759 : decode (pm_mb 212) 759 = .ok (.aload_n 2, 1) := by decide +kernel
theorem dc212_760 : decode (pm_mb 212) 760 = .ok (.aload_n 0, 1) := by decide +kernel
theorem dc212_761 : decode (pm_mb 212) 761 = .ok (.iload_n 3, 1) := by decide +kernel
theorem dc212_762 : decode (pm_mb 212) 762 = .ok (.iconst 1, 1) := by decide +kernel
theorem dc212_763 : decode (pm_mb 212) 763 = .ok (.iadd, 1) := by decide +kernel
theorem dc212_764 : decode (pm_mb 212) 764 = .ok (.iaload, 1) := by decide +kernel
theorem dc212_765 : decode (pm_mb 212) 765 = .ok (.aload_n 0, 1) := by decide +kernel
theorem dc212_766 : decode (pm_mb 212) 766 = .ok (.iload_n 3, 1) := by decide +kernel
theorem dc212_767 : decode (pm_mb 212) 767 = .ok (.iconst 2, 1) := by decide +kernel
theorem dc212_768 : decode (pm_mb 212) 768 = .ok (.iadd, 1) := by decide +kernel
theorem dc212_769 : decode (pm_mb 212) 769 = .ok (.iaload, 1) := by decide +kernel
theorem dc212_770 : decode (pm_mb 212) 770 = .ok (.aload_n 0, 1) := by decide +kernel
theorem dc212_771 : decode (pm_mb 212) 771 = .ok (.iload_n 3, 1) := by decide +kernel
theorem dc212_772 : decode (pm_mb 212) 772 = .ok (.iconst 3, 1) := by decide +kernel
theorem dc212_773 : decode (pm_mb 212) 773 = .ok (.iadd, 1) := by decide +kernel
theorem dc212_774 : decode (pm_mb 212) 774 = .ok (.iaload, 1) := by decide +kernel
theorem dc212_775 : decode (pm_mb 212) 775 = .ok (.aload_n 0, 1) := by decide +kernel
theorem dc212_776 : decode (pm_mb 212) 776 = .ok (.iload_n 3, 1) := by decide +kernel
theorem dc212_777 : decode (pm_mb 212) 777 = .ok (.iconst 4, 1) := by decide +kernel
theorem dc212_778 : decode (pm_mb 212) 778 = .ok (.iadd, 1) := by decide +kernel
theorem dc212_779 : decode (pm_mb 212) 779 = .ok (.iaload, 1) := by decide +kernel
theorem dc212_780 : decode (pm_mb 212) 780 = .ok (.invokevirtual 93, 3) := by decide +kernel
theorem dc212_783 : decode (pm_mb 212) 783 = .ok (.if_icmp .eq 288, 3) := by decide +kernel
theorem dc212_786 : decode (pm_mb 212) 786 = .ok (.iconst 0, 1) := by decide +kernel
theorem dc212_787 : decode (pm_mb 212) 787 = .ok (.ireturn, 1) := by decide +kernel
theorem dc212_788 : decode (pm_mb 212) 788 = .ok (.aload_n 1, 1) := by decide +kernel
theorem dc212_789 : decode (pm_mb 212) 789 = .ok (.aload_n 0, 1) := by decide +kernel
theorem dc212_790 : decode (pm_mb 212) 790 = .ok (.iload_n 3, 1) := by decide +kernel
theorem dc212_791 : decode (pm_mb 212) 791 = .ok (.iconst 1, 1) := by decide +kernel
theorem dc212_792 : decode (pm_mb 212) 792 = .ok (.iadd, 1) := by decide +kernel
theorem dc212_793 : decode (pm_mb 212) 793 = .ok (.iaload, 1) := by decide +kernel
theorem dc212_794 : decode (pm_mb 212) 794 = .ok (.invokevirtual 94, 3) := by decide +kernel
theorem dc212_797 : decode (pm_mb 212) 797 = .ok (.aload_n 2, 1) := by decide +kernel
theorem dc212_798 : decode (pm_mb 212) 798 = .ok (.aload_n 0, 1) := by decide +kernel
theorem dc212_799 : decode (pm_mb 212) 799 = .ok (.iload_n 3, 1) := by decide +kernel
theorem dc212_800 : decode (pm_mb 212) 800 = .ok (.iconst 1, 1) := by decide +kernel
theorem dc212_801 : decode (pm_mb 212) 801 = .ok (.iadd, 1) := by decide +kernel
theorem dc212_802 : decode (pm_mb 212) 802 = .ok (.iaload, 1) := by decide +kernel
theorem dc212_803 : decode (pm_mb 212) 803 = .ok (.invokevirtual 97, 3) := by decide +kernel
theorem dc212_806 : decode (pm_mb 212) 806 = .ok (.if_icmp .eq 265, 3) := by decide +kernel
theorem dc212_809 : decode (pm_mb 212) 809 = .ok (.iconst 0, 1) := by decide +kernel
theorem dc212_810 : decode (pm_mb 212) 810 = .ok (.ireturn, 1) := by decide +kernel
theorem dc212_811 : decode (pm_mb 212) 811 = .ok (.aload_n 1, 1) := by decide +kernel
theorem dc212_812 : decode (pm_mb 212) 812 = .ok (.aload_n 0, 1) := by decide +kernel
theorem dc212_813 : decode (pm_mb 212) 813 = .ok (.iload_n 3, 1) := by decide +kernel
theorem dc212_814 : decode (pm_mb 212) 814 = .ok (.iconst 1, 1) := by decide +kernel
theorem dc212_815 : decode (pm_mb 212) 815 = .ok (.iadd, 1) := by decide +kernel
theorem dc212_816 : decode (pm_mb 212) 816 = .ok (.iaload, 1) := by decide +kernel
theorem dc212_817 : decode (pm_mb 212) 817 = .ok (.aload_n 0, 1) := by decide +kernel
theorem dc212_818 : decode (pm_mb 212) 818 = .ok (.iload_n 3, 1) := by decide +kernel
theorem dc212_819 : decode (pm_mb 212) 819 = .ok (.iconst 2, 1) := by decide +kernel
theorem dc212_820 : decode (pm_mb 212) 820 = .ok (.iadd, 1) := by decide +kernel
theorem dc212_821 : decode (pm_mb 212) 821 = .ok (.iaload, 1) := by decide +kernel
theorem dc212_822 : decode (pm_mb 212) 822 = .ok (.aload_n 0, 1) := by decide +kernel
theorem dc212_823 : decode (pm_mb 212) 823 = .ok (.iload_n 3, 1) := by decide +kernel
theorem dc212_824 : decode (pm_mb 212) 824 = .ok (.iconst 3, 1) := by decide +kernel
theorem dc212_825 : decode (pm_mb 212) 825 = .ok (.iadd, 1) := by decide +kernel
theorem dc212_826 : decode (pm_mb 212) 826 = .ok (.iaload, 1) := by decide +kernel
theorem dc212_827 : decode (pm_mb 212) 827 = .ok (.invokevirtual 98, 3) := by decide +kernel
theorem dc212_830 : decode (pm_mb 212) 830 = .ok (.aload_n 2, 1) := by decide +kernel
theorem dc212_831 : decode (pm_mb 212) 831 = .ok (.aload_n 0, 1) := by decide +kernel
theorem dc212_832 : decode (pm_mb 212) 832 = .ok (.iload_n 3, 1) := by decide +kernel
theorem dc212_833 : decode (pm_mb 212) 833 = .ok (.iconst 1, 1) := by decide +kernel
theorem dc212_834 : decode (pm_mb 212) 834 = .ok (.iadd, 1) := by decide +kernel
theorem dc212_835 : decode (pm_mb 212) 835 = .ok (.iaload, 1) := by decide +kernel
theorem dc212_836 : decode (pm_mb 212) 836 = .ok (.aload_n 0, 1) := by decide +kernel
theorem dc212_837 : decode (pm_mb 212) 837 = .ok (.iload_n 3, 1) := by decide +kernel
theorem dc212_838 : decode (pm_mb 212) 838 = .ok (.iconst 2, 1) := by decide +kernel
theorem dc212_839 : decode (pm_mb 212) 839 = .ok (.iadd, 1) := by decide +kernel
theorem dc212_840 : decode (pm_mb 212) 840 = .ok (.iaload, 1) := by decide +kernel
theorem dc212_841 : decode (pm_mb 212) 841 = .ok (.aload_n 0, 1) := by decide +kernel
theorem dc212_842 : decode (pm_mb 212) 842 = .ok (.iload_n 3, 1) := by decide +kernel
theorem dc212_843 : decode (pm_mb 212) 843 = .ok (.iconst 3, 1) := by decide +kernel
theorem dc212_844 : decode (pm_mb 212) 844 = .ok (.iadd, 1) := by decide +kernel
theorem dc212_845 : decode (pm_mb 212) 845 = .ok (.iaload, 1) := by decide +kernel
theorem dc212_846 : decode (pm_mb 212) 846 = .ok (.invokevirtual 101, 3) := by decide +kernel
theorem dc212_849 : decode (pm_mb 212) 849 = .ok (.if_icmp .eq 222, 3) := by decide +kernel
theorem dc212_852 : decode (pm_mb 212) 852 = .ok (.iconst 0, 1) := by decide +kernel
theorem dc212_853 : decode (pm_mb 212) 853 = .ok (.ireturn, 1) := by decide +kernel
theorem dc212_854 : decode (pm_mb 212) 854 = .ok (.aload_n 1, 1) := by decide +kernel
theorem dc212_855 : decode (pm_mb 212) 855 = .ok (.aload_n 0, 1) := by decide +kernel
theorem dc212_856 : decode (pm_mb 212) 856 = .ok (.iload_n 3, 1) := by decide +kernel
theorem dc212_857 : decode (pm_mb 212) 857 = .ok (.iconst 1, 1) := by decide +kernel
theorem dc212_858 : decode (pm_mb 212) 858 = .ok (.iadd, 1) := by decide +kernel
theorem dc212_859 : decode (pm_mb 212) 859 = .ok (.iaload, 1) := by decide +kernel
theorem dc212_860 : decode (pm_mb 212) 860 = .ok (.invokevirtual 102, 3) := by decide +kernel
theorem dc212_863 : decode (pm_mb 212) 863 = .ok (.aload_n 2, 1) := by decide +kernel
theorem dc212_864 : decode (pm_mb 212) 864 = .ok (.aload_n 0, 1) := by decide +kernel
theorem dc212_865 : decode (pm_mb 212) 865 = .ok (.iload_n 3, 1) := by decide +kernel
theorem dc212_866 : decode (pm_mb 212) 866 = .ok (.iconst 1, 1) := by decide +kernel
theorem dc212_867 : decode (pm_mb 212) 867 = .ok (.iadd, 1) := by decide +kernel
theorem dc212_868 : decode (pm_mb 212) 868 = .ok (.iaload, 1) := by decide +kernel
theorem dc212_869 : decode (pm_mb 212) 869 = .ok (.invokevirtual 105, 3) := by decide +kernel
theorem dc212_872 : decode (pm_mb 212) 872 = .ok (.if_icmp .eq 199, 3) := by decide +kernel
theorem dc212_875 : decode (pm_mb 212) 875 = .ok (.iconst 0, 1) := by decide +kernel
theorem dc212_876 : decode (pm_mb 212) 876 = .ok (.ireturn, 1) := by decide +kernel
theorem dc212_877 : decode (pm_mb 212) 877 = .ok (.aload_n 1, 1) := by decide +kernel
theorem dc212_878 : decode (pm_mb 212) 878 = .ok (.aload_n 0, 1) := by decide +kernel
theorem dc212_879 : decode (pm_mb 212) 879 = .ok (.iload_n 3, 1) := by decide +kernel
theorem dc212_880 : decode (pm_mb 212) 880 = .ok (.iconst 1, 1) := by decide +kernel
theorem dc212_881 : decode (pm_mb 212) 881 = .ok (.iadd, 1) := by decide +kernel
theorem dc212_882 : decode (pm_mb 212) 882 = .ok (.iaload, 1) := by decide +kernel
theorem dc212_883 : decode (pm_mb 212) 883 = .ok (.invokevirtual 106, 3) := by decide +kernel
theorem dc212_886 : decode (pm_mb 212) 886 = .ok (.aload_n 2, 1) := by decide +kernel
theorem dc212_887 : decode (pm_mb 212) 887 = .ok (.aload_n 0, 1) := by decide +kernel
theorem dc212_888 : decode (pm_mb 212) 888 = .ok (.iload_n 3, 1) := by decide +kernel
theorem dc212_889 : decode (pm_mb 212) 889 = .ok (.iconst 1, 1) := by decide +kernel
theorem dc212_890 : decode (pm_mb 212) 890 = .ok (.iadd, 1) := by decide +kernel
theorem dc212_891 : decode (pm_mb 212) 891 = .ok (.iaload, 1) := by decide +kernel
theorem dc212_892 : decode (pm_mb 212) 892 = .ok (.invokevirtual 109, 3) := by decide +kernel
theorem dc212_895 : decode (pm_mb 212) 895 = .ok (.if_icmp .eq 176, 3) := by decide +kernel
theorem dc212_898 : decode (pm_mb 212) 898 = .ok (.iconst 0, 1) := by decide +kernel
theorem dc212_899 : decode (pm_mb 212) 899 = .ok (.ireturn, 1) := by decide +kernel
theorem dc212_900 : decode (pm_mb 212) 900 = .ok (.aload_n 1, 1) := by decide +kernel
theorem dc212_901 : decode (pm_mb 212) 901 = .ok (.aload_n 0, 1) := by decide +kernel
theorem dc212_902 : decode (pm_mb 212) 902 = .ok (.iload_n 3, 1) := by decide +kernel
theorem dc212_903 : decode (pm_mb 212) 903 = .ok (.iconst 1, 1) := by decide +kernel
theorem dc212_904 : decode (pm_mb 212) 904 = .ok (.iadd, 1) := by decide +kernel
theorem dc212_905 : decode (pm_mb 212) 905 = .ok (.iaload, 1) := by decide +kernel
theorem dc212_906 : decode (pm_mb 212) 906 = .ok (.invokevirtual 110, 3) := by decide +kernel
theorem dc212_909 : decode (pm_mb 212) 909 = .ok (.aload_n 2, 1) := by decide +kernel
theorem dc212_910 : decode (pm_mb 212) 910 = .ok (.aload_n 0, 1) := by decide +kernel
theorem dc212_911 : decode (pm_mb 212) 911 = .ok (.iload_n 3, 1) := by decide +kernel
theorem dc212_912 : decode (pm_mb 212) 912 = .ok (.iconst 1, 1) := by decide +kernel
theorem dc212_913 : decode (pm_mb 212) 913 = .ok (.iadd, 1) := by decide +kernel
theorem dc212_914 : decode (pm_mb 212) 914 = .ok (.iaload, 1) := by decide +kernel
theorem dc212_915 : decode (pm_mb 212) 915 = .ok (.invokevirtual 113, 3) := by decide +kernel
theorem dc212_918 : decode (pm_mb 212) 918 = .ok (.if_icmp .eq 153, 3) := by decide +kernel
theorem dc212_921 : decode (pm_mb 212) 921 = .ok (.iconst 0, 1) := by decide +kernel
theorem dc212_922 : decode (pm_mb 212) 922 = .ok (.ireturn, 1) := by decide +kernel
theorem dc212_923 : decode (pm_mb 212) 923 = .ok (.aload_n 1, 1) := by decide +kernel
theorem dc212_924 : decode (pm_mb 212) 924 = .ok (.aload_n 0, 1) := by decide +kernel
theorem dc212_925 : decode (pm_mb 212) 925 = .ok (.iload_n 3, 1) := by decide +kernel
theorem dc212_926 : decode (pm_mb 212) 926 = .ok (.iconst 1, 1) := by decide +kernel
theorem dc212_927 : decode (pm_mb 212) 927 = .ok (.iadd, 1) := by decide +kernel
theorem dc212_928 : decode (pm_mb 212) 928 = .ok (.iaload, 1) := by decide +kernel
theorem dc212_929 : decode (pm_mb 212) 929 = .ok (.invokevirtual 114, 3) := by decide +kernel
theorem dc212_932 : decode (pm_mb 212) 932 = .ok (.aload_n 2, 1) := by decide +kernel
theorem dc212_933 : decode (pm_mb 212) 933 = .ok (.aload_n 0, 1) := by decide +kernel
theorem dc212_934 : decode (pm_mb 212) 934 = .ok (.iload_n 3, 1) := by decide +kernel
theorem dc212_935 : decode (pm_mb 212) 935 = .ok (.iconst 1, 1) := by decide +kernel
theorem dc212_936 : decode (pm_mb 212) 936 = .ok (.iadd, 1) := by decide +kernel
theorem dc212_937 : decode (pm_mb 212) 937 = .ok (.iaload, 1) := by decide +kernel
theorem dc212_938 : decode (pm_mb 212) 938 = .ok (.invokevirtual 117, 3) := by decide +kernel
theorem dc212_941 : decode (pm_mb 212) 941 = .ok (.if_icmp .eq 130, 3) := by decide +kernel
theorem dc212_944 : decode (pm_mb 212) 944 = .ok (.iconst 0, 1) := by decide +kernel
theorem dc212_945 : decode (pm_mb 212) 945 = .ok (.ireturn, 1) := by decide +kernel
theorem dc212_946 : decode (pm_mb 212) 946 = .ok (.aload_n 1, 1) := by decide +kernel
theorem dc212_947 : decode (pm_mb 212) 947 = .ok (.aload_n 0, 1) := by decide +kernel
theorem dc212_948 : decode (pm_mb 212) 948 = .ok (.iload_n 3, 1) := by decide +kernel
theorem dc212_949 : decode (pm_mb 212) 949 = .ok (.iconst 1, 1) := by decide +kernel
theorem dc212_950 : decode (pm_mb 212) 950 = .ok (.iadd, 1) := by decide +kernel
theorem dc212_951 : decode (pm_mb 212) 951 = .ok (.iaload, 1) := by decide +kernel
theorem dc212_952 : decode (pm_mb 212) 952 = .ok (.aload_n 0, 1) := by decide +kernel
theorem dc212_953 : decode (pm_mb 212) 953 = .ok (.iload_n 3, 1) := by decide +kernel
theorem dc212_954 : decode (pm_mb 212) 954 = .ok (.iconst 2, 1) := by decide +kernel
theorem dc212_955 : decode (pm_mb 212) 955 = .ok (.iadd, 1) := by decide +kernel
theorem dc212_956 : decode (pm_mb 212) 956 = .ok (.iaload, 1) := by decide +kernel
theorem dc212_957 : decode (pm_mb 212) 957 = .ok (.invokevirtual 118, 3) := by decide +kernel
theorem dc212_960 : decode (pm_mb 212) 960 = .ok (.aload_n 2, 1) := by decide +kernel
theorem dc212_961 : decode (pm_mb 212) 961 = .ok (.aload_n 0, 1) := by decide +kernel
theorem dc212_962 : decode (pm_mb 212) 962 = .ok (.iload_n 3, 1) := by decide +kernel
theorem dc212_963 : decode (pm_mb 212) 963 = .ok (.iconst 1, 1) := by decide +kernel
theorem dc212_964 : decode (pm_mb 212) 964 = .ok (.iadd, 1) := by decide +kernel
theorem dc212_965 : decode (pm_mb 212) 965 = .ok (.iaload, 1) := by decide +kernel
theorem dc212_966 : decode (pm_mb 212) 966 = .ok (.aload_n 0, 1) := by decide +kernel
theorem dc212_967 : decode (pm_mb 212) 967 = .ok (.iload_n 3, 1) := by decide +kernel
theorem dc212_968 : decode (pm_mb 212) 968 = .ok (.iconst 2, 1) := by decide +kernel
theorem dc212_969 : decode (pm_mb 212) 969 = .ok (.iadd, 1) := by decide +kernel
theorem dc212_970 : decode (pm_mb 212) 970 = .ok (.iaload, 1) := by decide +kernel
theorem dc212_971 : decode (pm_mb 212) 971 = .ok (.invokevirtual 121, 3) := by decide +kernel
theorem dc212_974 : decode (pm_mb 212) 974 = .ok (.if_icmp .eq 97, 3) := by decide +kernel
theorem dc212_977 : decode (pm_mb 212) 977 = .ok (.iconst 0, 1) := by decide +kernel
theorem dc212_978 : decode (pm_mb 212) 978 = .ok (.ireturn, 1) := by decide +kernel
theorem dc212_979 : decode (pm_mb 212) 979 = .ok (.aload_n 1, 1) := by decide +kernel
theorem dc212_980 : decode (pm_mb 212) 980 = .ok (.aload_n 0, 1) := by decide +kernel
theorem dc212_981 : decode (pm_mb 212) 981 = .ok (.iload_n 3, 1) := by decide +kernel
theorem dc212_982 : decode (pm_mb 212) 982 = .ok (.iconst 1, 1) := by decide +kernel
theorem dc212_983 : decode (pm_mb 212) 983 = .ok (.iadd, 1) := by decide +kernel
theorem dc212_984 : decode (pm_mb 212) 984 = .ok (.iaload, 1) := by decide +kernel
theorem dc212_985 : decode (pm_mb 212) 985 = .ok (.aload_n 0, 1) := by decide +kernel
theorem dc212_986 : decode (pm_mb 212) 986 = .ok (.iload_n 3, 1) := by decide +kernel
theorem dc212_987 : decode (pm_mb 212) 987 = .ok (.iconst 2, 1) := by decide +kernel
theorem dc212_988 : decode (pm_mb 212) 988 = .ok (.iadd, 1) := by decide +kernel
theorem dc212_989 : decode (pm_mb 212) 989 = .ok (.iaload, 1) := by decide +kernel
theorem dc212_990 : decode (pm_mb 212) 990 = .ok (.invokevirtual 122, 3) := by decide +kernel
theorem dc212_993 : decode (pm_mb 212) 993 = .ok (.aload_n 2, 1) := by decide +kernel
theorem dc212_994 : decode (pm_mb 212) 994 = .ok (.aload_n 0, 1) := by decide +kernel
theorem dc212_995 : decode (pm_mb 212) 995 = .ok (.iload_n 3, 1) := by decide +kernel
theorem dc212_996 : decode (pm_mb 212) 996 = .ok (.iconst 1, 1) := by decide +kernel
theorem dc212_997 : decode (pm_mb 212) 997 = .ok (.iadd, 1) := by decide +kernel
theorem dc212_998 : decode (pm_mb 212) 998 = .ok (.iaload, 1) := by decide +kernel
theorem dc212_999 : decode (pm_mb 212) 999 = .ok (.aload_n 0, 1) := by decide +kernel
theorem dc212_1000 : decode (pm_mb 212) 1000 = .ok (.iload_n 3, 1) := by decide +kernel
theorem dc212_1001 : decode (pm_mb 212) 1001 = .ok (.iconst 2, 1) := by decide +kernel
theorem dc212_1002 : decode (pm_mb 212) 1002 = .ok (.iadd, 1) := by decide +kernel
theorem dc212_1003 : decode (pm_mb 212) 1003 = .ok (.iaload, 1) := by decide +kernel
theorem dc212_1004 : decode (pm_mb 212) 1004 = .ok (.invokevirtual 125, 3) := by decide +kernel
theorem dc212_1007 : decode (pm_mb 212) 1007 = .ok (.if_icmp .eq 64, 3) := by decide +kernel
theorem dc212_1010 : decode (pm_mb 212) 1010 = .ok (.iconst 0, 1) := by decide +kernel
theorem dc212_1011 : decode (pm_mb 212) 1011 = .ok (.ireturn, 1) := by decide +kernel
theorem dc212_1012 : decode (pm_mb 212) 1012 = .ok (.aload_n 1, 1) := by decide +kernel
theorem dc212_1013 : decode (pm_mb 212) 1013 = .ok (.aload_n 0, 1) := by decide +kernel
theorem dc212_1014 : decode (pm_mb 212) 1014 = .ok (.iload_n 3, 1) := by decide +kernel
theorem dc212_1015 : decode (pm_mb 212) 1015 = .ok (.iconst 1, 1) := by decide +kernel
theorem dc212_1016 : decode (pm_mb 212) 1016 = .ok (.iadd, 1) := by decide +kernel
theorem dc212_1017 : decode (pm_mb 212) 1017 = .ok (.iaload, 1) := by decide +kernel
theorem dc212_1018 : decode (pm_mb 212) 1018 = .ok (.invokevirtual 126, 3) := by decide +kernel
theorem dc212_1021 : decode (pm_mb 212) 1021 = .ok (.aload_n 2, 1) := by decide +kernel
theorem dc212_1022 : decode (pm_mb 212) 1022 = .ok (.aload_n 0, 1) := by decide +kernel
theorem dc212_1023 : decode (pm_mb 212) 1023 = .ok (.iload_n 3, 1) := by decide +kernel
theorem dc212_1024 : decode (pm_mb 212) 1024 = .ok (.iconst 1, 1) := by decide +kernel
theorem dc212_1025 : decode (pm_mb 212) 1025 = .ok (.iadd, 1) := by decide +kernel
theorem dc212_1026 : decode (pm_mb 212) 1026 = .ok (.iaload, 1) := by decide +kernel
theorem dc212_1027 : decode (pm_mb 212) 1027 = .ok (.invokevirtual 129, 3) := by decide +kernel
theorem dc212_1030 : decode (pm_mb 212) 1030 = .ok (.if_icmp .eq 41, 3) := by decide +kernel
theorem dc212_1033 : decode (pm_mb 212) 1033 = .ok (.iconst 0, 1) := by decide +kernel
theorem dc212_1034 : decode (pm_mb 212) 1034 = .ok (.ireturn, 1) := by decide +kernel
theorem dc212_1035 : decode (pm_mb 212) 1035 = .ok (.aload_n 1, 1) := by decide +kernel
theorem dc212_1036 : decode (pm_mb 212) 1036 = .ok (.aload_n 0, 1) := by decide +kernel
theorem dc212_1037 : decode (pm_mb 212) 1037 = .ok (.iload_n 3, 1) := by decide +kernel
theorem dc212_1038 : decode (pm_mb 212) 1038 = .ok (.iconst 1, 1) := by decide +kernel
theorem dc212_1039 : decode (pm_mb 212) 1039 = .ok (.iadd, 1) := by decide +kernel
theorem dc212_1040 : decode (pm_mb 212) 1040 = .ok (.iaload, 1) := by decide +kernel
theorem dc212_1041 : decode (pm_mb 212) 1041 = .ok (.invokevirtual 130, 3) := by decide +kernel
theorem dc212_1044 : decode (pm_mb 212) 1044 = .ok (.aload_n 2, 1) := by decide +kernel
theorem dc212_1045 : decode (pm_mb 212) 1045 = .ok (.aload_n 0, 1) := by decide +kernel
theorem dc212_1046 : decode (pm_mb 212) 1046 = .ok (.iload_n 3, 1) := by decide +kernel
theorem dc212_1047 : decode (pm_mb 212) 1047 = .ok (.iconst 1, 1) := by decide +kernel
theorem dc212_1048 : decode (pm_mb 212) 1048 = .ok (.iadd, 1) := by decide +kernel
theorem dc212_1049 : decode (pm_mb 212) 1049 = .ok (.iaload, 1) := by decide +kernel
theorem dc212_1050 : decode (pm_mb 212) 1050 = .ok (.invokevirtual 133, 3) := by decide +kernel
theorem dc212_1053 : decode (pm_mb 212) 1053 = .ok (.if_icmp .eq 18, 3) := by decide +kernel
theorem dc212_1056 : decode (pm_mb 212) 1056 = .ok (.iconst 0, 1) := by decide +kernel
theorem dc212_1057 : decode (pm_mb 212) 1057 = .ok (.ireturn, 1) := by decide +kernel
theorem dc212_1058 : decode (pm_mb 212) 1058 = .ok (.aload_n 1, 1) := by decide +kernel
theorem dc212_1059 : decode (pm_mb 212) 1059 = .ok (.invokevirtual 134, 3) := by decide +kernel
theorem dc212_1062 : decode (pm_mb 212) 1062 = .ok (.aload_n 2, 1) := by decide +kernel
theorem dc212_1063 : decode (pm_mb 212) 1063 = .ok (.invokevirtual 137, 3) := by decide +kernel
theorem dc212_1066 : decode (pm_mb 212) 1066 = .ok (.if_icmp .eq 5, 3) := by decide +kernel
theorem dc212_1069 : decode (pm_mb 212) 1069 = .ok (.iconst 0, 1) := by decide +kernel
theorem dc212_1070 : decode (pm_mb 212) 1070 = .ok (.ireturn, 1) := by decide +kernel
theorem dc212_1071 : decode (pm_mb 212) 1071 = .ok (.iinc 3 6, 3) := by decide +kernel
theorem dc212_1074 : decode (pm_mb 212) 1074 = .ok (.goto (-1056), 3) := by decide +kernel
theorem dc212_1077 : decode (pm_mb 212) 1077 = .ok (.iconst 1, 1) := by decide +kernel
theorem dc212_1078 : decode (pm_mb 212) 1078 = .ok (.ireturn, 1) := by decide +kernel
theorem b212_18 {X : pm_X} {d : Nat} {x3 : Int32} {g : pm_G} {iv : pm_V} (hg : pm_xg g) (hX : X.1 < 2147483648) : pm_at X d 212 (18, [some (.ref 1300), some (.ref 0), some (.ref 32), some (.int x3)], [], g, iv) = if ((Int32.ofNat X.1) - 6) < x3 then pm_at X d 212 (1077, [some (.ref 1300), some (.ref 0), some (.ref 32), some (.int x3)], [], g, iv) else pm_at X d 212 (27, [some (.ref 1300), some (.ref 0), some (.ref 32), some (.int x3)], [], g, iv) := by
  refine (at_iload_n dc212_18 rfl).trans ?_
  refine (at_aload_n dc212_19 rfl).trans ?_
  refine (at_aln dc212_20 (pm_xS hg) hX).trans ?_
  refine (at_bipush (v := 6) dc212_21 (by decide)).trans ?_
  refine (at_isub dc212_23).trans ?_
  exact at_icmp_gt (t := 1077) dc212_24 (by decide)
theorem b212_27_c0 {X : pm_X} {d : Nat} {x3 : Int32} {g : pm_G} {iv : pm_V} (hg : pm_xg g) (hX : X.1 < 2147483648) (i1 : vp_in x3 X.1) (hx : ((X.2 (x3).toNatClampNeg) &&& 31) = 0) : pm_at X d 212 (27, [some (.ref 1300), some (.ref 0), some (.ref 32), some (.int x3)], [], g, iv) = pm_at X d 212 (164, [some (.ref 1300), some (.ref 0), some (.ref 32), some (.int x3)], [], g, iv) := by
  refine (at_aload_n dc212_27 rfl).trans ?_
  refine (at_iload_n dc212_28 rfl).trans ?_
  refine (at_xald dc212_29 (pm_xS hg) i1).trans ?_
  refine (at_bipush (v := 31) dc212_30 (by decide)).trans ?_
  refine (at_iand dc212_32).trans ?_
  rw [hx]
  exact at_tswI (t := 164) dc212_33 (by decide) rfl (by decide)
theorem b212_27_c1 {X : pm_X} {d : Nat} {x3 : Int32} {g : pm_G} {iv : pm_V} (hg : pm_xg g) (hX : X.1 < 2147483648) (i1 : vp_in x3 X.1) (hx : ((X.2 (x3).toNatClampNeg) &&& 31) = 1) : pm_at X d 212 (27, [some (.ref 1300), some (.ref 0), some (.ref 32), some (.int x3)], [], g, iv) = pm_at X d 212 (207, [some (.ref 1300), some (.ref 0), some (.ref 32), some (.int x3)], [], g, iv) := by
  refine (at_aload_n dc212_27 rfl).trans ?_
  refine (at_iload_n dc212_28 rfl).trans ?_
  refine (at_xald dc212_29 (pm_xS hg) i1).trans ?_
  refine (at_bipush (v := 31) dc212_30 (by decide)).trans ?_
  refine (at_iand dc212_32).trans ?_
  rw [hx]
  exact at_tswI (t := 207) dc212_33 (by decide) rfl (by decide)
theorem b212_27_c2 {X : pm_X} {d : Nat} {x3 : Int32} {g : pm_G} {iv : pm_V} (hg : pm_xg g) (hX : X.1 < 2147483648) (i1 : vp_in x3 X.1) (hx : ((X.2 (x3).toNatClampNeg) &&& 31) = 2) : pm_at X d 212 (27, [some (.ref 1300), some (.ref 0), some (.ref 32), some (.int x3)], [], g, iv) = pm_at X d 212 (250, [some (.ref 1300), some (.ref 0), some (.ref 32), some (.int x3)], [], g, iv) := by
  refine (at_aload_n dc212_27 rfl).trans ?_
  refine (at_iload_n dc212_28 rfl).trans ?_
  refine (at_xald dc212_29 (pm_xS hg) i1).trans ?_
  refine (at_bipush (v := 31) dc212_30 (by decide)).trans ?_
  refine (at_iand dc212_32).trans ?_
  rw [hx]
  exact at_tswI (t := 250) dc212_33 (by decide) rfl (by decide)
theorem b212_27_c3 {X : pm_X} {d : Nat} {x3 : Int32} {g : pm_G} {iv : pm_V} (hg : pm_xg g) (hX : X.1 < 2147483648) (i1 : vp_in x3 X.1) (hx : ((X.2 (x3).toNatClampNeg) &&& 31) = 3) : pm_at X d 212 (27, [some (.ref 1300), some (.ref 0), some (.ref 32), some (.int x3)], [], g, iv) = pm_at X d 212 (313, [some (.ref 1300), some (.ref 0), some (.ref 32), some (.int x3)], [], g, iv) := by
  refine (at_aload_n dc212_27 rfl).trans ?_
  refine (at_iload_n dc212_28 rfl).trans ?_
  refine (at_xald dc212_29 (pm_xS hg) i1).trans ?_
  refine (at_bipush (v := 31) dc212_30 (by decide)).trans ?_
  refine (at_iand dc212_32).trans ?_
  rw [hx]
  exact at_tswI (t := 313) dc212_33 (by decide) rfl (by decide)
theorem b212_27_c4 {X : pm_X} {d : Nat} {x3 : Int32} {g : pm_G} {iv : pm_V} (hg : pm_xg g) (hX : X.1 < 2147483648) (i1 : vp_in x3 X.1) (hx : ((X.2 (x3).toNatClampNeg) &&& 31) = 4) : pm_at X d 212 (27, [some (.ref 1300), some (.ref 0), some (.ref 32), some (.int x3)], [], g, iv) = pm_at X d 212 (336, [some (.ref 1300), some (.ref 0), some (.ref 32), some (.int x3)], [], g, iv) := by
  refine (at_aload_n dc212_27 rfl).trans ?_
  refine (at_iload_n dc212_28 rfl).trans ?_
  refine (at_xald dc212_29 (pm_xS hg) i1).trans ?_
  refine (at_bipush (v := 31) dc212_30 (by decide)).trans ?_
  refine (at_iand dc212_32).trans ?_
  rw [hx]
  exact at_tswI (t := 336) dc212_33 (by decide) rfl (by decide)
theorem b212_27_c5 {X : pm_X} {d : Nat} {x3 : Int32} {g : pm_G} {iv : pm_V} (hg : pm_xg g) (hX : X.1 < 2147483648) (i1 : vp_in x3 X.1) (hx : ((X.2 (x3).toNatClampNeg) &&& 31) = 5) : pm_at X d 212 (27, [some (.ref 1300), some (.ref 0), some (.ref 32), some (.int x3)], [], g, iv) = pm_at X d 212 (399, [some (.ref 1300), some (.ref 0), some (.ref 32), some (.int x3)], [], g, iv) := by
  refine (at_aload_n dc212_27 rfl).trans ?_
  refine (at_iload_n dc212_28 rfl).trans ?_
  refine (at_xald dc212_29 (pm_xS hg) i1).trans ?_
  refine (at_bipush (v := 31) dc212_30 (by decide)).trans ?_
  refine (at_iand dc212_32).trans ?_
  rw [hx]
  exact at_tswI (t := 399) dc212_33 (by decide) rfl (by decide)
theorem b212_27_c6 {X : pm_X} {d : Nat} {x3 : Int32} {g : pm_G} {iv : pm_V} (hg : pm_xg g) (hX : X.1 < 2147483648) (i1 : vp_in x3 X.1) (hx : ((X.2 (x3).toNatClampNeg) &&& 31) = 6) : pm_at X d 212 (27, [some (.ref 1300), some (.ref 0), some (.ref 32), some (.int x3)], [], g, iv) = pm_at X d 212 (412, [some (.ref 1300), some (.ref 0), some (.ref 32), some (.int x3)], [], g, iv) := by
  refine (at_aload_n dc212_27 rfl).trans ?_
  refine (at_iload_n dc212_28 rfl).trans ?_
  refine (at_xald dc212_29 (pm_xS hg) i1).trans ?_
  refine (at_bipush (v := 31) dc212_30 (by decide)).trans ?_
  refine (at_iand dc212_32).trans ?_
  rw [hx]
  exact at_tswI (t := 412) dc212_33 (by decide) rfl (by decide)
theorem b212_27_c7 {X : pm_X} {d : Nat} {x3 : Int32} {g : pm_G} {iv : pm_V} (hg : pm_xg g) (hX : X.1 < 2147483648) (i1 : vp_in x3 X.1) (hx : ((X.2 (x3).toNatClampNeg) &&& 31) = 7) : pm_at X d 212 (27, [some (.ref 1300), some (.ref 0), some (.ref 32), some (.int x3)], [], g, iv) = pm_at X d 212 (425, [some (.ref 1300), some (.ref 0), some (.ref 32), some (.int x3)], [], g, iv) := by
  refine (at_aload_n dc212_27 rfl).trans ?_
  refine (at_iload_n dc212_28 rfl).trans ?_
  refine (at_xald dc212_29 (pm_xS hg) i1).trans ?_
  refine (at_bipush (v := 31) dc212_30 (by decide)).trans ?_
  refine (at_iand dc212_32).trans ?_
  rw [hx]
  exact at_tswI (t := 425) dc212_33 (by decide) rfl (by decide)
theorem b212_27_c8 {X : pm_X} {d : Nat} {x3 : Int32} {g : pm_G} {iv : pm_V} (hg : pm_xg g) (hX : X.1 < 2147483648) (i1 : vp_in x3 X.1) (hx : ((X.2 (x3).toNatClampNeg) &&& 31) = 8) : pm_at X d 212 (27, [some (.ref 1300), some (.ref 0), some (.ref 32), some (.int x3)], [], g, iv) = pm_at X d 212 (438, [some (.ref 1300), some (.ref 0), some (.ref 32), some (.int x3)], [], g, iv) := by
  refine (at_aload_n dc212_27 rfl).trans ?_
  refine (at_iload_n dc212_28 rfl).trans ?_
  refine (at_xald dc212_29 (pm_xS hg) i1).trans ?_
  refine (at_bipush (v := 31) dc212_30 (by decide)).trans ?_
  refine (at_iand dc212_32).trans ?_
  rw [hx]
  exact at_tswI (t := 438) dc212_33 (by decide) rfl (by decide)
theorem b212_27_c9 {X : pm_X} {d : Nat} {x3 : Int32} {g : pm_G} {iv : pm_V} (hg : pm_xg g) (hX : X.1 < 2147483648) (i1 : vp_in x3 X.1) (hx : ((X.2 (x3).toNatClampNeg) &&& 31) = 9) : pm_at X d 212 (27, [some (.ref 1300), some (.ref 0), some (.ref 32), some (.int x3)], [], g, iv) = pm_at X d 212 (471, [some (.ref 1300), some (.ref 0), some (.ref 32), some (.int x3)], [], g, iv) := by
  refine (at_aload_n dc212_27 rfl).trans ?_
  refine (at_iload_n dc212_28 rfl).trans ?_
  refine (at_xald dc212_29 (pm_xS hg) i1).trans ?_
  refine (at_bipush (v := 31) dc212_30 (by decide)).trans ?_
  refine (at_iand dc212_32).trans ?_
  rw [hx]
  exact at_tswI (t := 471) dc212_33 (by decide) rfl (by decide)
theorem b212_27_c10 {X : pm_X} {d : Nat} {x3 : Int32} {g : pm_G} {iv : pm_V} (hg : pm_xg g) (hX : X.1 < 2147483648) (i1 : vp_in x3 X.1) (hx : ((X.2 (x3).toNatClampNeg) &&& 31) = 10) : pm_at X d 212 (27, [some (.ref 1300), some (.ref 0), some (.ref 32), some (.int x3)], [], g, iv) = pm_at X d 212 (504, [some (.ref 1300), some (.ref 0), some (.ref 32), some (.int x3)], [], g, iv) := by
  refine (at_aload_n dc212_27 rfl).trans ?_
  refine (at_iload_n dc212_28 rfl).trans ?_
  refine (at_xald dc212_29 (pm_xS hg) i1).trans ?_
  refine (at_bipush (v := 31) dc212_30 (by decide)).trans ?_
  refine (at_iand dc212_32).trans ?_
  rw [hx]
  exact at_tswI (t := 504) dc212_33 (by decide) rfl (by decide)
theorem b212_27_c11 {X : pm_X} {d : Nat} {x3 : Int32} {g : pm_G} {iv : pm_V} (hg : pm_xg g) (hX : X.1 < 2147483648) (i1 : vp_in x3 X.1) (hx : ((X.2 (x3).toNatClampNeg) &&& 31) = 11) : pm_at X d 212 (27, [some (.ref 1300), some (.ref 0), some (.ref 32), some (.int x3)], [], g, iv) = pm_at X d 212 (547, [some (.ref 1300), some (.ref 0), some (.ref 32), some (.int x3)], [], g, iv) := by
  refine (at_aload_n dc212_27 rfl).trans ?_
  refine (at_iload_n dc212_28 rfl).trans ?_
  refine (at_xald dc212_29 (pm_xS hg) i1).trans ?_
  refine (at_bipush (v := 31) dc212_30 (by decide)).trans ?_
  refine (at_iand dc212_32).trans ?_
  rw [hx]
  exact at_tswI (t := 547) dc212_33 (by decide) rfl (by decide)
theorem b212_27_c12 {X : pm_X} {d : Nat} {x3 : Int32} {g : pm_G} {iv : pm_V} (hg : pm_xg g) (hX : X.1 < 2147483648) (i1 : vp_in x3 X.1) (hx : ((X.2 (x3).toNatClampNeg) &&& 31) = 12) : pm_at X d 212 (27, [some (.ref 1300), some (.ref 0), some (.ref 32), some (.int x3)], [], g, iv) = pm_at X d 212 (560, [some (.ref 1300), some (.ref 0), some (.ref 32), some (.int x3)], [], g, iv) := by
  refine (at_aload_n dc212_27 rfl).trans ?_
  refine (at_iload_n dc212_28 rfl).trans ?_
  refine (at_xald dc212_29 (pm_xS hg) i1).trans ?_
  refine (at_bipush (v := 31) dc212_30 (by decide)).trans ?_
  refine (at_iand dc212_32).trans ?_
  rw [hx]
  exact at_tswI (t := 560) dc212_33 (by decide) rfl (by decide)
theorem b212_27_c13 {X : pm_X} {d : Nat} {x3 : Int32} {g : pm_G} {iv : pm_V} (hg : pm_xg g) (hX : X.1 < 2147483648) (i1 : vp_in x3 X.1) (hx : ((X.2 (x3).toNatClampNeg) &&& 31) = 13) : pm_at X d 212 (27, [some (.ref 1300), some (.ref 0), some (.ref 32), some (.int x3)], [], g, iv) = pm_at X d 212 (593, [some (.ref 1300), some (.ref 0), some (.ref 32), some (.int x3)], [], g, iv) := by
  refine (at_aload_n dc212_27 rfl).trans ?_
  refine (at_iload_n dc212_28 rfl).trans ?_
  refine (at_xald dc212_29 (pm_xS hg) i1).trans ?_
  refine (at_bipush (v := 31) dc212_30 (by decide)).trans ?_
  refine (at_iand dc212_32).trans ?_
  rw [hx]
  exact at_tswI (t := 593) dc212_33 (by decide) rfl (by decide)
theorem b212_27_c14 {X : pm_X} {d : Nat} {x3 : Int32} {g : pm_G} {iv : pm_V} (hg : pm_xg g) (hX : X.1 < 2147483648) (i1 : vp_in x3 X.1) (hx : ((X.2 (x3).toNatClampNeg) &&& 31) = 14) : pm_at X d 212 (27, [some (.ref 1300), some (.ref 0), some (.ref 32), some (.int x3)], [], g, iv) = pm_at X d 212 (626, [some (.ref 1300), some (.ref 0), some (.ref 32), some (.int x3)], [], g, iv) := by
  refine (at_aload_n dc212_27 rfl).trans ?_
  refine (at_iload_n dc212_28 rfl).trans ?_
  refine (at_xald dc212_29 (pm_xS hg) i1).trans ?_
  refine (at_bipush (v := 31) dc212_30 (by decide)).trans ?_
  refine (at_iand dc212_32).trans ?_
  rw [hx]
  exact at_tswI (t := 626) dc212_33 (by decide) rfl (by decide)
theorem b212_27_c15 {X : pm_X} {d : Nat} {x3 : Int32} {g : pm_G} {iv : pm_V} (hg : pm_xg g) (hX : X.1 < 2147483648) (i1 : vp_in x3 X.1) (hx : ((X.2 (x3).toNatClampNeg) &&& 31) = 15) : pm_at X d 212 (27, [some (.ref 1300), some (.ref 0), some (.ref 32), some (.int x3)], [], g, iv) = pm_at X d 212 (669, [some (.ref 1300), some (.ref 0), some (.ref 32), some (.int x3)], [], g, iv) := by
  refine (at_aload_n dc212_27 rfl).trans ?_
  refine (at_iload_n dc212_28 rfl).trans ?_
  refine (at_xald dc212_29 (pm_xS hg) i1).trans ?_
  refine (at_bipush (v := 31) dc212_30 (by decide)).trans ?_
  refine (at_iand dc212_32).trans ?_
  rw [hx]
  exact at_tswI (t := 669) dc212_33 (by decide) rfl (by decide)
theorem b212_27_c16 {X : pm_X} {d : Nat} {x3 : Int32} {g : pm_G} {iv : pm_V} (hg : pm_xg g) (hX : X.1 < 2147483648) (i1 : vp_in x3 X.1) (hx : ((X.2 (x3).toNatClampNeg) &&& 31) = 16) : pm_at X d 212 (27, [some (.ref 1300), some (.ref 0), some (.ref 32), some (.int x3)], [], g, iv) = pm_at X d 212 (692, [some (.ref 1300), some (.ref 0), some (.ref 32), some (.int x3)], [], g, iv) := by
  refine (at_aload_n dc212_27 rfl).trans ?_
  refine (at_iload_n dc212_28 rfl).trans ?_
  refine (at_xald dc212_29 (pm_xS hg) i1).trans ?_
  refine (at_bipush (v := 31) dc212_30 (by decide)).trans ?_
  refine (at_iand dc212_32).trans ?_
  rw [hx]
  exact at_tswI (t := 692) dc212_33 (by decide) rfl (by decide)
theorem b212_27_c17 {X : pm_X} {d : Nat} {x3 : Int32} {g : pm_G} {iv : pm_V} (hg : pm_xg g) (hX : X.1 < 2147483648) (i1 : vp_in x3 X.1) (hx : ((X.2 (x3).toNatClampNeg) &&& 31) = 17) : pm_at X d 212 (27, [some (.ref 1300), some (.ref 0), some (.ref 32), some (.int x3)], [], g, iv) = pm_at X d 212 (735, [some (.ref 1300), some (.ref 0), some (.ref 32), some (.int x3)], [], g, iv) := by
  refine (at_aload_n dc212_27 rfl).trans ?_
  refine (at_iload_n dc212_28 rfl).trans ?_
  refine (at_xald dc212_29 (pm_xS hg) i1).trans ?_
  refine (at_bipush (v := 31) dc212_30 (by decide)).trans ?_
  refine (at_iand dc212_32).trans ?_
  rw [hx]
  exact at_tswI (t := 735) dc212_33 (by decide) rfl (by decide)
theorem b212_27_c18 {X : pm_X} {d : Nat} {x3 : Int32} {g : pm_G} {iv : pm_V} (hg : pm_xg g) (hX : X.1 < 2147483648) (i1 : vp_in x3 X.1) (hx : ((X.2 (x3).toNatClampNeg) &&& 31) = 18) : pm_at X d 212 (27, [some (.ref 1300), some (.ref 0), some (.ref 32), some (.int x3)], [], g, iv) = pm_at X d 212 (788, [some (.ref 1300), some (.ref 0), some (.ref 32), some (.int x3)], [], g, iv) := by
  refine (at_aload_n dc212_27 rfl).trans ?_
  refine (at_iload_n dc212_28 rfl).trans ?_
  refine (at_xald dc212_29 (pm_xS hg) i1).trans ?_
  refine (at_bipush (v := 31) dc212_30 (by decide)).trans ?_
  refine (at_iand dc212_32).trans ?_
  rw [hx]
  exact at_tswI (t := 788) dc212_33 (by decide) rfl (by decide)
theorem b212_27_c19 {X : pm_X} {d : Nat} {x3 : Int32} {g : pm_G} {iv : pm_V} (hg : pm_xg g) (hX : X.1 < 2147483648) (i1 : vp_in x3 X.1) (hx : ((X.2 (x3).toNatClampNeg) &&& 31) = 19) : pm_at X d 212 (27, [some (.ref 1300), some (.ref 0), some (.ref 32), some (.int x3)], [], g, iv) = pm_at X d 212 (811, [some (.ref 1300), some (.ref 0), some (.ref 32), some (.int x3)], [], g, iv) := by
  refine (at_aload_n dc212_27 rfl).trans ?_
  refine (at_iload_n dc212_28 rfl).trans ?_
  refine (at_xald dc212_29 (pm_xS hg) i1).trans ?_
  refine (at_bipush (v := 31) dc212_30 (by decide)).trans ?_
  refine (at_iand dc212_32).trans ?_
  rw [hx]
  exact at_tswI (t := 811) dc212_33 (by decide) rfl (by decide)
theorem b212_27_c20 {X : pm_X} {d : Nat} {x3 : Int32} {g : pm_G} {iv : pm_V} (hg : pm_xg g) (hX : X.1 < 2147483648) (i1 : vp_in x3 X.1) (hx : ((X.2 (x3).toNatClampNeg) &&& 31) = 20) : pm_at X d 212 (27, [some (.ref 1300), some (.ref 0), some (.ref 32), some (.int x3)], [], g, iv) = pm_at X d 212 (854, [some (.ref 1300), some (.ref 0), some (.ref 32), some (.int x3)], [], g, iv) := by
  refine (at_aload_n dc212_27 rfl).trans ?_
  refine (at_iload_n dc212_28 rfl).trans ?_
  refine (at_xald dc212_29 (pm_xS hg) i1).trans ?_
  refine (at_bipush (v := 31) dc212_30 (by decide)).trans ?_
  refine (at_iand dc212_32).trans ?_
  rw [hx]
  exact at_tswI (t := 854) dc212_33 (by decide) rfl (by decide)
theorem b212_27_c21 {X : pm_X} {d : Nat} {x3 : Int32} {g : pm_G} {iv : pm_V} (hg : pm_xg g) (hX : X.1 < 2147483648) (i1 : vp_in x3 X.1) (hx : ((X.2 (x3).toNatClampNeg) &&& 31) = 21) : pm_at X d 212 (27, [some (.ref 1300), some (.ref 0), some (.ref 32), some (.int x3)], [], g, iv) = pm_at X d 212 (877, [some (.ref 1300), some (.ref 0), some (.ref 32), some (.int x3)], [], g, iv) := by
  refine (at_aload_n dc212_27 rfl).trans ?_
  refine (at_iload_n dc212_28 rfl).trans ?_
  refine (at_xald dc212_29 (pm_xS hg) i1).trans ?_
  refine (at_bipush (v := 31) dc212_30 (by decide)).trans ?_
  refine (at_iand dc212_32).trans ?_
  rw [hx]
  exact at_tswI (t := 877) dc212_33 (by decide) rfl (by decide)
theorem b212_27_c22 {X : pm_X} {d : Nat} {x3 : Int32} {g : pm_G} {iv : pm_V} (hg : pm_xg g) (hX : X.1 < 2147483648) (i1 : vp_in x3 X.1) (hx : ((X.2 (x3).toNatClampNeg) &&& 31) = 22) : pm_at X d 212 (27, [some (.ref 1300), some (.ref 0), some (.ref 32), some (.int x3)], [], g, iv) = pm_at X d 212 (900, [some (.ref 1300), some (.ref 0), some (.ref 32), some (.int x3)], [], g, iv) := by
  refine (at_aload_n dc212_27 rfl).trans ?_
  refine (at_iload_n dc212_28 rfl).trans ?_
  refine (at_xald dc212_29 (pm_xS hg) i1).trans ?_
  refine (at_bipush (v := 31) dc212_30 (by decide)).trans ?_
  refine (at_iand dc212_32).trans ?_
  rw [hx]
  exact at_tswI (t := 900) dc212_33 (by decide) rfl (by decide)
theorem b212_27_c23 {X : pm_X} {d : Nat} {x3 : Int32} {g : pm_G} {iv : pm_V} (hg : pm_xg g) (hX : X.1 < 2147483648) (i1 : vp_in x3 X.1) (hx : ((X.2 (x3).toNatClampNeg) &&& 31) = 23) : pm_at X d 212 (27, [some (.ref 1300), some (.ref 0), some (.ref 32), some (.int x3)], [], g, iv) = pm_at X d 212 (923, [some (.ref 1300), some (.ref 0), some (.ref 32), some (.int x3)], [], g, iv) := by
  refine (at_aload_n dc212_27 rfl).trans ?_
  refine (at_iload_n dc212_28 rfl).trans ?_
  refine (at_xald dc212_29 (pm_xS hg) i1).trans ?_
  refine (at_bipush (v := 31) dc212_30 (by decide)).trans ?_
  refine (at_iand dc212_32).trans ?_
  rw [hx]
  exact at_tswI (t := 923) dc212_33 (by decide) rfl (by decide)
theorem b212_27_c24 {X : pm_X} {d : Nat} {x3 : Int32} {g : pm_G} {iv : pm_V} (hg : pm_xg g) (hX : X.1 < 2147483648) (i1 : vp_in x3 X.1) (hx : ((X.2 (x3).toNatClampNeg) &&& 31) = 24) : pm_at X d 212 (27, [some (.ref 1300), some (.ref 0), some (.ref 32), some (.int x3)], [], g, iv) = pm_at X d 212 (946, [some (.ref 1300), some (.ref 0), some (.ref 32), some (.int x3)], [], g, iv) := by
  refine (at_aload_n dc212_27 rfl).trans ?_
  refine (at_iload_n dc212_28 rfl).trans ?_
  refine (at_xald dc212_29 (pm_xS hg) i1).trans ?_
  refine (at_bipush (v := 31) dc212_30 (by decide)).trans ?_
  refine (at_iand dc212_32).trans ?_
  rw [hx]
  exact at_tswI (t := 946) dc212_33 (by decide) rfl (by decide)
theorem b212_27_c25 {X : pm_X} {d : Nat} {x3 : Int32} {g : pm_G} {iv : pm_V} (hg : pm_xg g) (hX : X.1 < 2147483648) (i1 : vp_in x3 X.1) (hx : ((X.2 (x3).toNatClampNeg) &&& 31) = 25) : pm_at X d 212 (27, [some (.ref 1300), some (.ref 0), some (.ref 32), some (.int x3)], [], g, iv) = pm_at X d 212 (979, [some (.ref 1300), some (.ref 0), some (.ref 32), some (.int x3)], [], g, iv) := by
  refine (at_aload_n dc212_27 rfl).trans ?_
  refine (at_iload_n dc212_28 rfl).trans ?_
  refine (at_xald dc212_29 (pm_xS hg) i1).trans ?_
  refine (at_bipush (v := 31) dc212_30 (by decide)).trans ?_
  refine (at_iand dc212_32).trans ?_
  rw [hx]
  exact at_tswI (t := 979) dc212_33 (by decide) rfl (by decide)
theorem b212_27_c26 {X : pm_X} {d : Nat} {x3 : Int32} {g : pm_G} {iv : pm_V} (hg : pm_xg g) (hX : X.1 < 2147483648) (i1 : vp_in x3 X.1) (hx : ((X.2 (x3).toNatClampNeg) &&& 31) = 26) : pm_at X d 212 (27, [some (.ref 1300), some (.ref 0), some (.ref 32), some (.int x3)], [], g, iv) = pm_at X d 212 (1012, [some (.ref 1300), some (.ref 0), some (.ref 32), some (.int x3)], [], g, iv) := by
  refine (at_aload_n dc212_27 rfl).trans ?_
  refine (at_iload_n dc212_28 rfl).trans ?_
  refine (at_xald dc212_29 (pm_xS hg) i1).trans ?_
  refine (at_bipush (v := 31) dc212_30 (by decide)).trans ?_
  refine (at_iand dc212_32).trans ?_
  rw [hx]
  exact at_tswI (t := 1012) dc212_33 (by decide) rfl (by decide)
theorem b212_27_c27 {X : pm_X} {d : Nat} {x3 : Int32} {g : pm_G} {iv : pm_V} (hg : pm_xg g) (hX : X.1 < 2147483648) (i1 : vp_in x3 X.1) (hx : ((X.2 (x3).toNatClampNeg) &&& 31) = 27) : pm_at X d 212 (27, [some (.ref 1300), some (.ref 0), some (.ref 32), some (.int x3)], [], g, iv) = pm_at X d 212 (1035, [some (.ref 1300), some (.ref 0), some (.ref 32), some (.int x3)], [], g, iv) := by
  refine (at_aload_n dc212_27 rfl).trans ?_
  refine (at_iload_n dc212_28 rfl).trans ?_
  refine (at_xald dc212_29 (pm_xS hg) i1).trans ?_
  refine (at_bipush (v := 31) dc212_30 (by decide)).trans ?_
  refine (at_iand dc212_32).trans ?_
  rw [hx]
  exact at_tswI (t := 1035) dc212_33 (by decide) rfl (by decide)
theorem b212_27_c28 {X : pm_X} {d : Nat} {x3 : Int32} {g : pm_G} {iv : pm_V} (hg : pm_xg g) (hX : X.1 < 2147483648) (i1 : vp_in x3 X.1) (hx : ((X.2 (x3).toNatClampNeg) &&& 31) = 28) : pm_at X d 212 (27, [some (.ref 1300), some (.ref 0), some (.ref 32), some (.int x3)], [], g, iv) = pm_at X d 212 (1058, [some (.ref 1300), some (.ref 0), some (.ref 32), some (.int x3)], [], g, iv) := by
  refine (at_aload_n dc212_27 rfl).trans ?_
  refine (at_iload_n dc212_28 rfl).trans ?_
  refine (at_xald dc212_29 (pm_xS hg) i1).trans ?_
  refine (at_bipush (v := 31) dc212_30 (by decide)).trans ?_
  refine (at_iand dc212_32).trans ?_
  rw [hx]
  exact at_tswI (t := 1058) dc212_33 (by decide) rfl (by decide)
theorem b212_27_df {X : pm_X} {d : Nat} {x3 : Int32} {g : pm_G} {iv : pm_V} (hg : pm_xg g) (hX : X.1 < 2147483648) (i1 : vp_in x3 X.1) (hx : (((X.2 (x3).toNatClampNeg) &&& 31)).toInt < 0 ∨ 28 < (((X.2 (x3).toNatClampNeg) &&& 31)).toInt) : pm_at X d 212 (27, [some (.ref 1300), some (.ref 0), some (.ref 32), some (.int x3)], [], g, iv) = pm_at X d 212 (1071, [some (.ref 1300), some (.ref 0), some (.ref 32), some (.int x3)], [], g, iv) := by
  refine (at_aload_n dc212_27 rfl).trans ?_
  refine (at_iload_n dc212_28 rfl).trans ?_
  refine (at_xald dc212_29 (pm_xS hg) i1).trans ?_
  refine (at_bipush (v := 31) dc212_30 (by decide)).trans ?_
  refine (at_iand dc212_32).trans ?_
  exact at_tswO (t := 1071) dc212_33 hx (by decide)
theorem b212_164 {X : pm_X} {d : Nat} {x3 : Int32} {g : pm_G} {iv : pm_V} (hL : pm_lay g) (hg : pm_xg g) (hX : X.1 < 2147483648) (i1 : vp_in ((x3 + 1)) X.1) (i2 : vp_in ((x3 + 2)) X.1) (i3 : vp_in ((x3 + 3)) X.1) : pm_at X d 212 (164, [some (.ref 1300), some (.ref 0), some (.ref 32), some (.int x3)], [], g, iv) = pm_then X d 212 183 [some (.ref 1300), some (.ref 0), some (.ref 32), some (.int x3)] [] (pm_c X d 91 [.ref 0, .int (X.2 ((x3 + 1)).toNatClampNeg), .int (X.2 ((x3 + 2)).toNatClampNeg), .int (X.2 ((x3 + 3)).toNatClampNeg)] g iv) := by
  refine (at_aload_n dc212_164 rfl).trans ?_
  refine (at_aload_n dc212_165 rfl).trans ?_
  refine (at_iload_n dc212_166 rfl).trans ?_
  refine (at_iconst (v := 1) dc212_167 rfl).trans ?_
  refine (at_iadd dc212_168).trans ?_
  refine (at_xald dc212_169 (pm_xS hg) i1).trans ?_
  refine (at_aload_n dc212_170 rfl).trans ?_
  refine (at_iload_n dc212_171 rfl).trans ?_
  refine (at_iconst (v := 2) dc212_172 rfl).trans ?_
  refine (at_iadd dc212_173).trans ?_
  refine (at_xald dc212_174 (pm_xS hg) i2).trans ?_
  refine (at_aload_n dc212_175 rfl).trans ?_
  refine (at_iload_n dc212_176 rfl).trans ?_
  refine (at_iconst (v := 3) dc212_177 rfl).trans ?_
  refine (at_iadd dc212_178).trans ?_
  refine (at_xald dc212_179 (pm_xS hg) i3).trans ?_
  exact at_inv dc212_180 mc212 lm7_13 rfl rfl (Nat.le_of_ble_eq_true rfl) (Or.inl ⟨(ly0 hL), by decide⟩)
theorem b212_183 {X : pm_X} {d : Nat} {x3 : Int32} {s0 : Int32} {g : pm_G} {iv : pm_V} (hL : pm_lay g) (hg : pm_xg g) (hX : X.1 < 2147483648) (i1 : vp_in ((x3 + 1)) X.1) (i2 : vp_in ((x3 + 2)) X.1) (i3 : vp_in ((x3 + 3)) X.1) : pm_at X d 212 (183, [some (.ref 1300), some (.ref 0), some (.ref 32), some (.int x3)], [.int s0], g, iv) = pm_then X d 212 202 [some (.ref 1300), some (.ref 0), some (.ref 32), some (.int x3)] [.int s0] (pm_c X d 133 [.ref 32, .int (X.2 ((x3 + 1)).toNatClampNeg), .int (X.2 ((x3 + 2)).toNatClampNeg), .int (X.2 ((x3 + 3)).toNatClampNeg)] g iv) := by
  refine (at_aload_n dc212_183 rfl).trans ?_
  refine (at_aload_n dc212_184 rfl).trans ?_
  refine (at_iload_n dc212_185 rfl).trans ?_
  refine (at_iconst (v := 1) dc212_186 rfl).trans ?_
  refine (at_iadd dc212_187).trans ?_
  refine (at_xald dc212_188 (pm_xS hg) i1).trans ?_
  refine (at_aload_n dc212_189 rfl).trans ?_
  refine (at_iload_n dc212_190 rfl).trans ?_
  refine (at_iconst (v := 2) dc212_191 rfl).trans ?_
  refine (at_iadd dc212_192).trans ?_
  refine (at_xald dc212_193 (pm_xS hg) i2).trans ?_
  refine (at_aload_n dc212_194 rfl).trans ?_
  refine (at_iload_n dc212_195 rfl).trans ?_
  refine (at_iconst (v := 3) dc212_196 rfl).trans ?_
  refine (at_iadd dc212_197).trans ?_
  refine (at_xald dc212_198 (pm_xS hg) i3).trans ?_
  exact at_inv dc212_199 mc212 lm7_17 rfl rfl (Nat.le_of_ble_eq_true rfl) (Or.inl ⟨(ly32 hL), by decide⟩)
theorem b212_202 {X : pm_X} {d : Nat} {x3 : Int32} {s0 : Int32} {s1 : Int32} {g : pm_G} {iv : pm_V}  : pm_at X d 212 (202, [some (.ref 1300), some (.ref 0), some (.ref 32), some (.int x3)], [.int s0, .int s1], g, iv) = if s1 = s0 then pm_at X d 212 (1071, [some (.ref 1300), some (.ref 0), some (.ref 32), some (.int x3)], [], g, iv) else pm_at X d 212 (205, [some (.ref 1300), some (.ref 0), some (.ref 32), some (.int x3)], [], g, iv) := by
  exact at_icmp_eq (t := 1071) dc212_202 (by decide)
theorem b212_205 {X : pm_X} {d : Nat} {x3 : Int32} {g : pm_G} {iv : pm_V}  : pm_at X d 212 (205, [some (.ref 1300), some (.ref 0), some (.ref 32), some (.int x3)], [], g, iv) = some (some (.int 0), g, iv) := by
  refine (at_iconst (v := 0) dc212_205 rfl).trans ?_
  exact at_zret dc212_206 mr212 (by decide)
theorem b212_207 {X : pm_X} {d : Nat} {x3 : Int32} {g : pm_G} {iv : pm_V} (hL : pm_lay g) (hg : pm_xg g) (hX : X.1 < 2147483648) (i1 : vp_in ((x3 + 1)) X.1) (i2 : vp_in ((x3 + 2)) X.1) (i3 : vp_in ((x3 + 3)) X.1) : pm_at X d 212 (207, [some (.ref 1300), some (.ref 0), some (.ref 32), some (.int x3)], [], g, iv) = pm_then X d 212 226 [some (.ref 1300), some (.ref 0), some (.ref 32), some (.int x3)] [] (pm_c X d 92 [.ref 0, .int (X.2 ((x3 + 1)).toNatClampNeg), .int (X.2 ((x3 + 2)).toNatClampNeg), .int (X.2 ((x3 + 3)).toNatClampNeg)] g iv) := by
  refine (at_aload_n dc212_207 rfl).trans ?_
  refine (at_aload_n dc212_208 rfl).trans ?_
  refine (at_iload_n dc212_209 rfl).trans ?_
  refine (at_iconst (v := 1) dc212_210 rfl).trans ?_
  refine (at_iadd dc212_211).trans ?_
  refine (at_xald dc212_212 (pm_xS hg) i1).trans ?_
  refine (at_aload_n dc212_213 rfl).trans ?_
  refine (at_iload_n dc212_214 rfl).trans ?_
  refine (at_iconst (v := 2) dc212_215 rfl).trans ?_
  refine (at_iadd dc212_216).trans ?_
  refine (at_xald dc212_217 (pm_xS hg) i2).trans ?_
  refine (at_aload_n dc212_218 rfl).trans ?_
  refine (at_iload_n dc212_219 rfl).trans ?_
  refine (at_iconst (v := 3) dc212_220 rfl).trans ?_
  refine (at_iadd dc212_221).trans ?_
  refine (at_xald dc212_222 (pm_xS hg) i3).trans ?_
  exact at_inv dc212_223 mc212 lm7_18 rfl rfl (Nat.le_of_ble_eq_true rfl) (Or.inl ⟨(ly0 hL), by decide⟩)
theorem b212_226 {X : pm_X} {d : Nat} {x3 : Int32} {s0 : Int32} {g : pm_G} {iv : pm_V} (hL : pm_lay g) (hg : pm_xg g) (hX : X.1 < 2147483648) (i1 : vp_in ((x3 + 1)) X.1) (i2 : vp_in ((x3 + 2)) X.1) (i3 : vp_in ((x3 + 3)) X.1) : pm_at X d 212 (226, [some (.ref 1300), some (.ref 0), some (.ref 32), some (.int x3)], [.int s0], g, iv) = pm_then X d 212 245 [some (.ref 1300), some (.ref 0), some (.ref 32), some (.int x3)] [.int s0] (pm_c X d 134 [.ref 32, .int (X.2 ((x3 + 1)).toNatClampNeg), .int (X.2 ((x3 + 2)).toNatClampNeg), .int (X.2 ((x3 + 3)).toNatClampNeg)] g iv) := by
  refine (at_aload_n dc212_226 rfl).trans ?_
  refine (at_aload_n dc212_227 rfl).trans ?_
  refine (at_iload_n dc212_228 rfl).trans ?_
  refine (at_iconst (v := 1) dc212_229 rfl).trans ?_
  refine (at_iadd dc212_230).trans ?_
  refine (at_xald dc212_231 (pm_xS hg) i1).trans ?_
  refine (at_aload_n dc212_232 rfl).trans ?_
  refine (at_iload_n dc212_233 rfl).trans ?_
  refine (at_iconst (v := 2) dc212_234 rfl).trans ?_
  refine (at_iadd dc212_235).trans ?_
  refine (at_xald dc212_236 (pm_xS hg) i2).trans ?_
  refine (at_aload_n dc212_237 rfl).trans ?_
  refine (at_iload_n dc212_238 rfl).trans ?_
  refine (at_iconst (v := 3) dc212_239 rfl).trans ?_
  refine (at_iadd dc212_240).trans ?_
  refine (at_xald dc212_241 (pm_xS hg) i3).trans ?_
  exact at_inv dc212_242 mc212 lm7_21 rfl rfl (Nat.le_of_ble_eq_true rfl) (Or.inl ⟨(ly32 hL), by decide⟩)
theorem b212_245 {X : pm_X} {d : Nat} {x3 : Int32} {s0 : Int32} {s1 : Int32} {g : pm_G} {iv : pm_V}  : pm_at X d 212 (245, [some (.ref 1300), some (.ref 0), some (.ref 32), some (.int x3)], [.int s0, .int s1], g, iv) = if s1 = s0 then pm_at X d 212 (1071, [some (.ref 1300), some (.ref 0), some (.ref 32), some (.int x3)], [], g, iv) else pm_at X d 212 (248, [some (.ref 1300), some (.ref 0), some (.ref 32), some (.int x3)], [], g, iv) := by
  exact at_icmp_eq (t := 1071) dc212_245 (by decide)
theorem b212_248 {X : pm_X} {d : Nat} {x3 : Int32} {g : pm_G} {iv : pm_V}  : pm_at X d 212 (248, [some (.ref 1300), some (.ref 0), some (.ref 32), some (.int x3)], [], g, iv) = some (some (.int 0), g, iv) := by
  refine (at_iconst (v := 0) dc212_248 rfl).trans ?_
  exact at_zret dc212_249 mr212 (by decide)
theorem b212_250 {X : pm_X} {d : Nat} {x3 : Int32} {g : pm_G} {iv : pm_V} (hL : pm_lay g) (hg : pm_xg g) (hX : X.1 < 2147483648) (i1 : vp_in ((x3 + 1)) X.1) (i2 : vp_in ((x3 + 2)) X.1) (i3 : vp_in ((x3 + 3)) X.1) (i4 : vp_in ((x3 + 4)) X.1) (i5 : vp_in ((x3 + 5)) X.1) : pm_at X d 212 (250, [some (.ref 1300), some (.ref 0), some (.ref 32), some (.int x3)], [], g, iv) = pm_then X d 212 279 [some (.ref 1300), some (.ref 0), some (.ref 32), some (.int x3)] [] (pm_c X d 93 [.ref 0, .int (X.2 ((x3 + 1)).toNatClampNeg), .int (X.2 ((x3 + 2)).toNatClampNeg), .int (X.2 ((x3 + 3)).toNatClampNeg), .int (X.2 ((x3 + 4)).toNatClampNeg), .int (X.2 ((x3 + 5)).toNatClampNeg)] g iv) := by
  refine (at_aload_n dc212_250 rfl).trans ?_
  refine (at_aload_n dc212_251 rfl).trans ?_
  refine (at_iload_n dc212_252 rfl).trans ?_
  refine (at_iconst (v := 1) dc212_253 rfl).trans ?_
  refine (at_iadd dc212_254).trans ?_
  refine (at_xald dc212_255 (pm_xS hg) i1).trans ?_
  refine (at_aload_n dc212_256 rfl).trans ?_
  refine (at_iload_n dc212_257 rfl).trans ?_
  refine (at_iconst (v := 2) dc212_258 rfl).trans ?_
  refine (at_iadd dc212_259).trans ?_
  refine (at_xald dc212_260 (pm_xS hg) i2).trans ?_
  refine (at_aload_n dc212_261 rfl).trans ?_
  refine (at_iload_n dc212_262 rfl).trans ?_
  refine (at_iconst (v := 3) dc212_263 rfl).trans ?_
  refine (at_iadd dc212_264).trans ?_
  refine (at_xald dc212_265 (pm_xS hg) i3).trans ?_
  refine (at_aload_n dc212_266 rfl).trans ?_
  refine (at_iload_n dc212_267 rfl).trans ?_
  refine (at_iconst (v := 4) dc212_268 rfl).trans ?_
  refine (at_iadd dc212_269).trans ?_
  refine (at_xald dc212_270 (pm_xS hg) i4).trans ?_
  refine (at_aload_n dc212_271 rfl).trans ?_
  refine (at_iload_n dc212_272 rfl).trans ?_
  refine (at_iconst (v := 5) dc212_273 rfl).trans ?_
  refine (at_iadd dc212_274).trans ?_
  refine (at_xald dc212_275 (pm_xS hg) i5).trans ?_
  exact at_inv dc212_276 mc212 lm7_22 rfl rfl (Nat.le_of_ble_eq_true rfl) (Or.inl ⟨(ly0 hL), by decide⟩)
theorem b212_279 {X : pm_X} {d : Nat} {x3 : Int32} {s0 : Int32} {g : pm_G} {iv : pm_V} (hL : pm_lay g) (hg : pm_xg g) (hX : X.1 < 2147483648) (i1 : vp_in ((x3 + 1)) X.1) (i2 : vp_in ((x3 + 2)) X.1) (i3 : vp_in ((x3 + 3)) X.1) (i4 : vp_in ((x3 + 4)) X.1) (i5 : vp_in ((x3 + 5)) X.1) : pm_at X d 212 (279, [some (.ref 1300), some (.ref 0), some (.ref 32), some (.int x3)], [.int s0], g, iv) = pm_then X d 212 308 [some (.ref 1300), some (.ref 0), some (.ref 32), some (.int x3)] [.int s0] (pm_c X d 135 [.ref 32, .int (X.2 ((x3 + 1)).toNatClampNeg), .int (X.2 ((x3 + 2)).toNatClampNeg), .int (X.2 ((x3 + 3)).toNatClampNeg), .int (X.2 ((x3 + 4)).toNatClampNeg), .int (X.2 ((x3 + 5)).toNatClampNeg)] g iv) := by
  refine (at_aload_n dc212_279 rfl).trans ?_
  refine (at_aload_n dc212_280 rfl).trans ?_
  refine (at_iload_n dc212_281 rfl).trans ?_
  refine (at_iconst (v := 1) dc212_282 rfl).trans ?_
  refine (at_iadd dc212_283).trans ?_
  refine (at_xald dc212_284 (pm_xS hg) i1).trans ?_
  refine (at_aload_n dc212_285 rfl).trans ?_
  refine (at_iload_n dc212_286 rfl).trans ?_
  refine (at_iconst (v := 2) dc212_287 rfl).trans ?_
  refine (at_iadd dc212_288).trans ?_
  refine (at_xald dc212_289 (pm_xS hg) i2).trans ?_
  refine (at_aload_n dc212_290 rfl).trans ?_
  refine (at_iload_n dc212_291 rfl).trans ?_
  refine (at_iconst (v := 3) dc212_292 rfl).trans ?_
  refine (at_iadd dc212_293).trans ?_
  refine (at_xald dc212_294 (pm_xS hg) i3).trans ?_
  refine (at_aload_n dc212_295 rfl).trans ?_
  refine (at_iload_n dc212_296 rfl).trans ?_
  refine (at_iconst (v := 4) dc212_297 rfl).trans ?_
  refine (at_iadd dc212_298).trans ?_
  refine (at_xald dc212_299 (pm_xS hg) i4).trans ?_
  refine (at_aload_n dc212_300 rfl).trans ?_
  refine (at_iload_n dc212_301 rfl).trans ?_
  refine (at_iconst (v := 5) dc212_302 rfl).trans ?_
  refine (at_iadd dc212_303).trans ?_
  refine (at_xald dc212_304 (pm_xS hg) i5).trans ?_
  exact at_inv dc212_305 mc212 lm7_26 rfl rfl (Nat.le_of_ble_eq_true rfl) (Or.inl ⟨(ly32 hL), by decide⟩)
theorem b212_308 {X : pm_X} {d : Nat} {x3 : Int32} {s0 : Int32} {s1 : Int32} {g : pm_G} {iv : pm_V}  : pm_at X d 212 (308, [some (.ref 1300), some (.ref 0), some (.ref 32), some (.int x3)], [.int s0, .int s1], g, iv) = if s1 = s0 then pm_at X d 212 (1071, [some (.ref 1300), some (.ref 0), some (.ref 32), some (.int x3)], [], g, iv) else pm_at X d 212 (311, [some (.ref 1300), some (.ref 0), some (.ref 32), some (.int x3)], [], g, iv) := by
  exact at_icmp_eq (t := 1071) dc212_308 (by decide)
theorem b212_311 {X : pm_X} {d : Nat} {x3 : Int32} {g : pm_G} {iv : pm_V}  : pm_at X d 212 (311, [some (.ref 1300), some (.ref 0), some (.ref 32), some (.int x3)], [], g, iv) = some (some (.int 0), g, iv) := by
  refine (at_iconst (v := 0) dc212_311 rfl).trans ?_
  exact at_zret dc212_312 mr212 (by decide)
theorem b212_313 {X : pm_X} {d : Nat} {x3 : Int32} {g : pm_G} {iv : pm_V} (hL : pm_lay g) (hg : pm_xg g) (hX : X.1 < 2147483648) (i1 : vp_in ((x3 + 1)) X.1) : pm_at X d 212 (313, [some (.ref 1300), some (.ref 0), some (.ref 32), some (.int x3)], [], g, iv) = pm_then X d 212 322 [some (.ref 1300), some (.ref 0), some (.ref 32), some (.int x3)] [] (pm_c X d 94 [.ref 0, .int (X.2 ((x3 + 1)).toNatClampNeg)] g iv) := by
  refine (at_aload_n dc212_313 rfl).trans ?_
  refine (at_aload_n dc212_314 rfl).trans ?_
  refine (at_iload_n dc212_315 rfl).trans ?_
  refine (at_iconst (v := 1) dc212_316 rfl).trans ?_
  refine (at_iadd dc212_317).trans ?_
  refine (at_xald dc212_318 (pm_xS hg) i1).trans ?_
  exact at_inv dc212_319 mc212 lm7_27 rfl rfl (Nat.le_of_ble_eq_true rfl) (Or.inl ⟨(ly0 hL), by decide⟩)
theorem b212_322 {X : pm_X} {d : Nat} {x3 : Int32} {s0 : Int32} {g : pm_G} {iv : pm_V} (hL : pm_lay g) (hg : pm_xg g) (hX : X.1 < 2147483648) (i1 : vp_in ((x3 + 1)) X.1) : pm_at X d 212 (322, [some (.ref 1300), some (.ref 0), some (.ref 32), some (.int x3)], [.int s0], g, iv) = pm_then X d 212 331 [some (.ref 1300), some (.ref 0), some (.ref 32), some (.int x3)] [.int s0] (pm_c X d 136 [.ref 32, .int (X.2 ((x3 + 1)).toNatClampNeg)] g iv) := by
  refine (at_aload_n dc212_322 rfl).trans ?_
  refine (at_aload_n dc212_323 rfl).trans ?_
  refine (at_iload_n dc212_324 rfl).trans ?_
  refine (at_iconst (v := 1) dc212_325 rfl).trans ?_
  refine (at_iadd dc212_326).trans ?_
  refine (at_xald dc212_327 (pm_xS hg) i1).trans ?_
  exact at_inv dc212_328 mc212 lm7_31 rfl rfl (Nat.le_of_ble_eq_true rfl) (Or.inl ⟨(ly32 hL), by decide⟩)
theorem b212_331 {X : pm_X} {d : Nat} {x3 : Int32} {s0 : Int32} {s1 : Int32} {g : pm_G} {iv : pm_V}  : pm_at X d 212 (331, [some (.ref 1300), some (.ref 0), some (.ref 32), some (.int x3)], [.int s0, .int s1], g, iv) = if s1 = s0 then pm_at X d 212 (1071, [some (.ref 1300), some (.ref 0), some (.ref 32), some (.int x3)], [], g, iv) else pm_at X d 212 (334, [some (.ref 1300), some (.ref 0), some (.ref 32), some (.int x3)], [], g, iv) := by
  exact at_icmp_eq (t := 1071) dc212_331 (by decide)
theorem b212_334 {X : pm_X} {d : Nat} {x3 : Int32} {g : pm_G} {iv : pm_V}  : pm_at X d 212 (334, [some (.ref 1300), some (.ref 0), some (.ref 32), some (.int x3)], [], g, iv) = some (some (.int 0), g, iv) := by
  refine (at_iconst (v := 0) dc212_334 rfl).trans ?_
  exact at_zret dc212_335 mr212 (by decide)
theorem b212_336 {X : pm_X} {d : Nat} {x3 : Int32} {g : pm_G} {iv : pm_V} (hL : pm_lay g) (hg : pm_xg g) (hX : X.1 < 2147483648) (i1 : vp_in ((x3 + 1)) X.1) (i2 : vp_in ((x3 + 2)) X.1) (i3 : vp_in ((x3 + 3)) X.1) : pm_at X d 212 (336, [some (.ref 1300), some (.ref 0), some (.ref 32), some (.int x3)], [], g, iv) = pm_then X d 212 365 [some (.ref 1300), some (.ref 0), some (.ref 32), some (.int x3)] [] (pm_c X d 95 [.ref 0, .long ((((X.2 ((x3 + 1)).toNatClampNeg) : Int32).toInt64 <<< ((32 : Int32).toInt64 &&& 63)) ||| (((X.2 ((x3 + 2)).toNatClampNeg) : Int32).toInt64 &&& 4294967295)), .int (X.2 ((x3 + 3)).toNatClampNeg)] g iv) := by
  refine (at_aload_n dc212_336 rfl).trans ?_
  refine (at_aload_n dc212_337 rfl).trans ?_
  refine (at_iload_n dc212_338 rfl).trans ?_
  refine (at_iconst (v := 1) dc212_339 rfl).trans ?_
  refine (at_iadd dc212_340).trans ?_
  refine (at_xald dc212_341 (pm_xS hg) i1).trans ?_
  refine (at_i2l dc212_342).trans ?_
  refine (at_bipush (v := 32) dc212_343 (by decide)).trans ?_
  refine (at_lshl dc212_345).trans ?_
  refine (at_aload_n dc212_346 rfl).trans ?_
  refine (at_iload_n dc212_347 rfl).trans ?_
  refine (at_iconst (v := 2) dc212_348 rfl).trans ?_
  refine (at_iadd dc212_349).trans ?_
  refine (at_xald dc212_350 (pm_xS hg) i2).trans ?_
  refine (at_i2l dc212_351).trans ?_
  refine (at_ldc2 dc212_352 mc212 ll7_32).trans ?_
  refine (at_land dc212_355).trans ?_
  refine (at_lor dc212_356).trans ?_
  refine (at_aload_n dc212_357 rfl).trans ?_
  refine (at_iload_n dc212_358 rfl).trans ?_
  refine (at_iconst (v := 3) dc212_359 rfl).trans ?_
  refine (at_iadd dc212_360).trans ?_
  refine (at_xald dc212_361 (pm_xS hg) i3).trans ?_
  exact at_inv dc212_362 mc212 lm7_34 rfl rfl (Nat.le_of_ble_eq_true rfl) (Or.inl ⟨(ly0 hL), by decide⟩)
theorem b212_365 {X : pm_X} {d : Nat} {x3 : Int32} {s0 : Int32} {g : pm_G} {iv : pm_V} (hL : pm_lay g) (hg : pm_xg g) (hX : X.1 < 2147483648) (i1 : vp_in ((x3 + 1)) X.1) (i2 : vp_in ((x3 + 2)) X.1) (i3 : vp_in ((x3 + 3)) X.1) : pm_at X d 212 (365, [some (.ref 1300), some (.ref 0), some (.ref 32), some (.int x3)], [.int s0], g, iv) = pm_then X d 212 394 [some (.ref 1300), some (.ref 0), some (.ref 32), some (.int x3)] [.int s0] (pm_c X d 137 [.ref 32, .long ((((X.2 ((x3 + 1)).toNatClampNeg) : Int32).toInt64 <<< ((32 : Int32).toInt64 &&& 63)) ||| (((X.2 ((x3 + 2)).toNatClampNeg) : Int32).toInt64 &&& 4294967295)), .int (X.2 ((x3 + 3)).toNatClampNeg)] g iv) := by
  refine (at_aload_n dc212_365 rfl).trans ?_
  refine (at_aload_n dc212_366 rfl).trans ?_
  refine (at_iload_n dc212_367 rfl).trans ?_
  refine (at_iconst (v := 1) dc212_368 rfl).trans ?_
  refine (at_iadd dc212_369).trans ?_
  refine (at_xald dc212_370 (pm_xS hg) i1).trans ?_
  refine (at_i2l dc212_371).trans ?_
  refine (at_bipush (v := 32) dc212_372 (by decide)).trans ?_
  refine (at_lshl dc212_374).trans ?_
  refine (at_aload_n dc212_375 rfl).trans ?_
  refine (at_iload_n dc212_376 rfl).trans ?_
  refine (at_iconst (v := 2) dc212_377 rfl).trans ?_
  refine (at_iadd dc212_378).trans ?_
  refine (at_xald dc212_379 (pm_xS hg) i2).trans ?_
  refine (at_i2l dc212_380).trans ?_
  refine (at_ldc2 dc212_381 mc212 ll7_32).trans ?_
  refine (at_land dc212_384).trans ?_
  refine (at_lor dc212_385).trans ?_
  refine (at_aload_n dc212_386 rfl).trans ?_
  refine (at_iload_n dc212_387 rfl).trans ?_
  refine (at_iconst (v := 3) dc212_388 rfl).trans ?_
  refine (at_iadd dc212_389).trans ?_
  refine (at_xald dc212_390 (pm_xS hg) i3).trans ?_
  exact at_inv dc212_391 mc212 lm7_38 rfl rfl (Nat.le_of_ble_eq_true rfl) (Or.inl ⟨(ly32 hL), by decide⟩)
theorem b212_394 {X : pm_X} {d : Nat} {x3 : Int32} {s0 : Int32} {s1 : Int32} {g : pm_G} {iv : pm_V}  : pm_at X d 212 (394, [some (.ref 1300), some (.ref 0), some (.ref 32), some (.int x3)], [.int s0, .int s1], g, iv) = if s1 = s0 then pm_at X d 212 (1071, [some (.ref 1300), some (.ref 0), some (.ref 32), some (.int x3)], [], g, iv) else pm_at X d 212 (397, [some (.ref 1300), some (.ref 0), some (.ref 32), some (.int x3)], [], g, iv) := by
  exact at_icmp_eq (t := 1071) dc212_394 (by decide)
theorem b212_397 {X : pm_X} {d : Nat} {x3 : Int32} {g : pm_G} {iv : pm_V}  : pm_at X d 212 (397, [some (.ref 1300), some (.ref 0), some (.ref 32), some (.int x3)], [], g, iv) = some (some (.int 0), g, iv) := by
  refine (at_iconst (v := 0) dc212_397 rfl).trans ?_
  exact at_zret dc212_398 mr212 (by decide)
theorem b212_399 {X : pm_X} {d : Nat} {x3 : Int32} {g : pm_G} {iv : pm_V} (hL : pm_lay g) : pm_at X d 212 (399, [some (.ref 1300), some (.ref 0), some (.ref 32), some (.int x3)], [], g, iv) = pm_then X d 212 403 [some (.ref 1300), some (.ref 0), some (.ref 32), some (.int x3)] [] (pm_c X d 96 [.ref 0] g iv) := by
  refine (at_aload_n dc212_399 rfl).trans ?_
  exact at_inv dc212_400 mc212 lm7_39 rfl rfl (Nat.le_of_ble_eq_true rfl) (Or.inl ⟨(ly0 hL), by decide⟩)
theorem b212_403 {X : pm_X} {d : Nat} {x3 : Int32} {s0 : Int32} {g : pm_G} {iv : pm_V} (hL : pm_lay g) : pm_at X d 212 (403, [some (.ref 1300), some (.ref 0), some (.ref 32), some (.int x3)], [.int s0], g, iv) = pm_then X d 212 407 [some (.ref 1300), some (.ref 0), some (.ref 32), some (.int x3)] [.int s0] (pm_c X d 154 [.ref 32] g iv) := by
  refine (at_aload_n dc212_403 rfl).trans ?_
  exact at_inv dc212_404 mc212 lm7_43 rfl rfl (Nat.le_of_ble_eq_true rfl) (Or.inl ⟨(ly32 hL), by decide⟩)
theorem b212_407 {X : pm_X} {d : Nat} {x3 : Int32} {s0 : Int32} {s1 : Int32} {g : pm_G} {iv : pm_V}  : pm_at X d 212 (407, [some (.ref 1300), some (.ref 0), some (.ref 32), some (.int x3)], [.int s0, .int s1], g, iv) = if s1 = s0 then pm_at X d 212 (1071, [some (.ref 1300), some (.ref 0), some (.ref 32), some (.int x3)], [], g, iv) else pm_at X d 212 (410, [some (.ref 1300), some (.ref 0), some (.ref 32), some (.int x3)], [], g, iv) := by
  exact at_icmp_eq (t := 1071) dc212_407 (by decide)
theorem b212_410 {X : pm_X} {d : Nat} {x3 : Int32} {g : pm_G} {iv : pm_V}  : pm_at X d 212 (410, [some (.ref 1300), some (.ref 0), some (.ref 32), some (.int x3)], [], g, iv) = some (some (.int 0), g, iv) := by
  refine (at_iconst (v := 0) dc212_410 rfl).trans ?_
  exact at_zret dc212_411 mr212 (by decide)
theorem b212_412 {X : pm_X} {d : Nat} {x3 : Int32} {g : pm_G} {iv : pm_V} (hL : pm_lay g) : pm_at X d 212 (412, [some (.ref 1300), some (.ref 0), some (.ref 32), some (.int x3)], [], g, iv) = pm_then X d 212 416 [some (.ref 1300), some (.ref 0), some (.ref 32), some (.int x3)] [] (pm_c X d 97 [.ref 0] g iv) := by
  refine (at_aload_n dc212_412 rfl).trans ?_
  exact at_inv dc212_413 mc212 lm7_44 rfl rfl (Nat.le_of_ble_eq_true rfl) (Or.inl ⟨(ly0 hL), by decide⟩)
theorem b212_416 {X : pm_X} {d : Nat} {x3 : Int32} {s0 : Int32} {g : pm_G} {iv : pm_V} (hL : pm_lay g) : pm_at X d 212 (416, [some (.ref 1300), some (.ref 0), some (.ref 32), some (.int x3)], [.int s0], g, iv) = pm_then X d 212 420 [some (.ref 1300), some (.ref 0), some (.ref 32), some (.int x3)] [.int s0] (pm_c X d 155 [.ref 32] g iv) := by
  refine (at_aload_n dc212_416 rfl).trans ?_
  exact at_inv dc212_417 mc212 lm7_47 rfl rfl (Nat.le_of_ble_eq_true rfl) (Or.inl ⟨(ly32 hL), by decide⟩)
theorem b212_420 {X : pm_X} {d : Nat} {x3 : Int32} {s0 : Int32} {s1 : Int32} {g : pm_G} {iv : pm_V}  : pm_at X d 212 (420, [some (.ref 1300), some (.ref 0), some (.ref 32), some (.int x3)], [.int s0, .int s1], g, iv) = if s1 = s0 then pm_at X d 212 (1071, [some (.ref 1300), some (.ref 0), some (.ref 32), some (.int x3)], [], g, iv) else pm_at X d 212 (423, [some (.ref 1300), some (.ref 0), some (.ref 32), some (.int x3)], [], g, iv) := by
  exact at_icmp_eq (t := 1071) dc212_420 (by decide)
theorem b212_423 {X : pm_X} {d : Nat} {x3 : Int32} {g : pm_G} {iv : pm_V}  : pm_at X d 212 (423, [some (.ref 1300), some (.ref 0), some (.ref 32), some (.int x3)], [], g, iv) = some (some (.int 0), g, iv) := by
  refine (at_iconst (v := 0) dc212_423 rfl).trans ?_
  exact at_zret dc212_424 mr212 (by decide)
theorem b212_425 {X : pm_X} {d : Nat} {x3 : Int32} {g : pm_G} {iv : pm_V} (hL : pm_lay g) : pm_at X d 212 (425, [some (.ref 1300), some (.ref 0), some (.ref 32), some (.int x3)], [], g, iv) = pm_then X d 212 429 [some (.ref 1300), some (.ref 0), some (.ref 32), some (.int x3)] [] (pm_c X d 98 [.ref 0] g iv) := by
  refine (at_aload_n dc212_425 rfl).trans ?_
  exact at_inv dc212_426 mc212 lm7_48 rfl rfl (Nat.le_of_ble_eq_true rfl) (Or.inl ⟨(ly0 hL), by decide⟩)
theorem b212_429 {X : pm_X} {d : Nat} {x3 : Int32} {s0 : Int32} {g : pm_G} {iv : pm_V} (hL : pm_lay g) : pm_at X d 212 (429, [some (.ref 1300), some (.ref 0), some (.ref 32), some (.int x3)], [.int s0], g, iv) = pm_then X d 212 433 [some (.ref 1300), some (.ref 0), some (.ref 32), some (.int x3)] [.int s0] (pm_c X d 168 [.ref 32] g iv) := by
  refine (at_aload_n dc212_429 rfl).trans ?_
  exact at_inv dc212_430 mc212 lm7_51 rfl rfl (Nat.le_of_ble_eq_true rfl) (Or.inl ⟨(ly32 hL), by decide⟩)
theorem b212_433 {X : pm_X} {d : Nat} {x3 : Int32} {s0 : Int32} {s1 : Int32} {g : pm_G} {iv : pm_V}  : pm_at X d 212 (433, [some (.ref 1300), some (.ref 0), some (.ref 32), some (.int x3)], [.int s0, .int s1], g, iv) = if s1 = s0 then pm_at X d 212 (1071, [some (.ref 1300), some (.ref 0), some (.ref 32), some (.int x3)], [], g, iv) else pm_at X d 212 (436, [some (.ref 1300), some (.ref 0), some (.ref 32), some (.int x3)], [], g, iv) := by
  exact at_icmp_eq (t := 1071) dc212_433 (by decide)
theorem b212_436 {X : pm_X} {d : Nat} {x3 : Int32} {g : pm_G} {iv : pm_V}  : pm_at X d 212 (436, [some (.ref 1300), some (.ref 0), some (.ref 32), some (.int x3)], [], g, iv) = some (some (.int 0), g, iv) := by
  refine (at_iconst (v := 0) dc212_436 rfl).trans ?_
  exact at_zret dc212_437 mr212 (by decide)
theorem b212_438 {X : pm_X} {d : Nat} {x3 : Int32} {g : pm_G} {iv : pm_V} (hL : pm_lay g) (hg : pm_xg g) (hX : X.1 < 2147483648) (i1 : vp_in ((x3 + 1)) X.1) (i2 : vp_in ((x3 + 2)) X.1) : pm_at X d 212 (438, [some (.ref 1300), some (.ref 0), some (.ref 32), some (.int x3)], [], g, iv) = pm_then X d 212 452 [some (.ref 1300), some (.ref 0), some (.ref 32), some (.int x3)] [] (pm_c X d 99 [.ref 0, .int (X.2 ((x3 + 1)).toNatClampNeg), .int (X.2 ((x3 + 2)).toNatClampNeg)] g iv) := by
  refine (at_aload_n dc212_438 rfl).trans ?_
  refine (at_aload_n dc212_439 rfl).trans ?_
  refine (at_iload_n dc212_440 rfl).trans ?_
  refine (at_iconst (v := 1) dc212_441 rfl).trans ?_
  refine (at_iadd dc212_442).trans ?_
  refine (at_xald dc212_443 (pm_xS hg) i1).trans ?_
  refine (at_aload_n dc212_444 rfl).trans ?_
  refine (at_iload_n dc212_445 rfl).trans ?_
  refine (at_iconst (v := 2) dc212_446 rfl).trans ?_
  refine (at_iadd dc212_447).trans ?_
  refine (at_xald dc212_448 (pm_xS hg) i2).trans ?_
  exact at_inv dc212_449 mc212 lm7_52 rfl rfl (Nat.le_of_ble_eq_true rfl) (Or.inl ⟨(ly0 hL), by decide⟩)
theorem b212_452 {X : pm_X} {d : Nat} {x3 : Int32} {s0 : Int32} {g : pm_G} {iv : pm_V} (hL : pm_lay g) (hg : pm_xg g) (hX : X.1 < 2147483648) (i1 : vp_in ((x3 + 1)) X.1) (i2 : vp_in ((x3 + 2)) X.1) : pm_at X d 212 (452, [some (.ref 1300), some (.ref 0), some (.ref 32), some (.int x3)], [.int s0], g, iv) = pm_then X d 212 466 [some (.ref 1300), some (.ref 0), some (.ref 32), some (.int x3)] [.int s0] (pm_c X d 169 [.ref 32, .int (X.2 ((x3 + 1)).toNatClampNeg), .int (X.2 ((x3 + 2)).toNatClampNeg)] g iv) := by
  refine (at_aload_n dc212_452 rfl).trans ?_
  refine (at_aload_n dc212_453 rfl).trans ?_
  refine (at_iload_n dc212_454 rfl).trans ?_
  refine (at_iconst (v := 1) dc212_455 rfl).trans ?_
  refine (at_iadd dc212_456).trans ?_
  refine (at_xald dc212_457 (pm_xS hg) i1).trans ?_
  refine (at_aload_n dc212_458 rfl).trans ?_
  refine (at_iload_n dc212_459 rfl).trans ?_
  refine (at_iconst (v := 2) dc212_460 rfl).trans ?_
  refine (at_iadd dc212_461).trans ?_
  refine (at_xald dc212_462 (pm_xS hg) i2).trans ?_
  exact at_inv dc212_463 mc212 lm7_56 rfl rfl (Nat.le_of_ble_eq_true rfl) (Or.inl ⟨(ly32 hL), by decide⟩)
theorem b212_466 {X : pm_X} {d : Nat} {x3 : Int32} {s0 : Int32} {s1 : Int32} {g : pm_G} {iv : pm_V}  : pm_at X d 212 (466, [some (.ref 1300), some (.ref 0), some (.ref 32), some (.int x3)], [.int s0, .int s1], g, iv) = if s1 = s0 then pm_at X d 212 (1071, [some (.ref 1300), some (.ref 0), some (.ref 32), some (.int x3)], [], g, iv) else pm_at X d 212 (469, [some (.ref 1300), some (.ref 0), some (.ref 32), some (.int x3)], [], g, iv) := by
  exact at_icmp_eq (t := 1071) dc212_466 (by decide)
theorem b212_469 {X : pm_X} {d : Nat} {x3 : Int32} {g : pm_G} {iv : pm_V}  : pm_at X d 212 (469, [some (.ref 1300), some (.ref 0), some (.ref 32), some (.int x3)], [], g, iv) = some (some (.int 0), g, iv) := by
  refine (at_iconst (v := 0) dc212_469 rfl).trans ?_
  exact at_zret dc212_470 mr212 (by decide)
theorem b212_471 {X : pm_X} {d : Nat} {x3 : Int32} {g : pm_G} {iv : pm_V} (hL : pm_lay g) (hg : pm_xg g) (hX : X.1 < 2147483648) (i1 : vp_in ((x3 + 1)) X.1) (i2 : vp_in ((x3 + 2)) X.1) : pm_at X d 212 (471, [some (.ref 1300), some (.ref 0), some (.ref 32), some (.int x3)], [], g, iv) = pm_then X d 212 485 [some (.ref 1300), some (.ref 0), some (.ref 32), some (.int x3)] [] (pm_c X d 100 [.ref 0, .int (X.2 ((x3 + 1)).toNatClampNeg), .int (X.2 ((x3 + 2)).toNatClampNeg)] g iv) := by
  refine (at_aload_n dc212_471 rfl).trans ?_
  refine (at_aload_n dc212_472 rfl).trans ?_
  refine (at_iload_n dc212_473 rfl).trans ?_
  refine (at_iconst (v := 1) dc212_474 rfl).trans ?_
  refine (at_iadd dc212_475).trans ?_
  refine (at_xald dc212_476 (pm_xS hg) i1).trans ?_
  refine (at_aload_n dc212_477 rfl).trans ?_
  refine (at_iload_n dc212_478 rfl).trans ?_
  refine (at_iconst (v := 2) dc212_479 rfl).trans ?_
  refine (at_iadd dc212_480).trans ?_
  refine (at_xald dc212_481 (pm_xS hg) i2).trans ?_
  exact at_inv dc212_482 mc212 lm7_57 rfl rfl (Nat.le_of_ble_eq_true rfl) (Or.inl ⟨(ly0 hL), by decide⟩)
theorem b212_485 {X : pm_X} {d : Nat} {x3 : Int32} {s0 : Int32} {g : pm_G} {iv : pm_V} (hL : pm_lay g) (hg : pm_xg g) (hX : X.1 < 2147483648) (i1 : vp_in ((x3 + 1)) X.1) (i2 : vp_in ((x3 + 2)) X.1) : pm_at X d 212 (485, [some (.ref 1300), some (.ref 0), some (.ref 32), some (.int x3)], [.int s0], g, iv) = pm_then X d 212 499 [some (.ref 1300), some (.ref 0), some (.ref 32), some (.int x3)] [.int s0] (pm_c X d 171 [.ref 32, .int (X.2 ((x3 + 1)).toNatClampNeg), .int (X.2 ((x3 + 2)).toNatClampNeg)] g iv) := by
  refine (at_aload_n dc212_485 rfl).trans ?_
  refine (at_aload_n dc212_486 rfl).trans ?_
  refine (at_iload_n dc212_487 rfl).trans ?_
  refine (at_iconst (v := 1) dc212_488 rfl).trans ?_
  refine (at_iadd dc212_489).trans ?_
  refine (at_xald dc212_490 (pm_xS hg) i1).trans ?_
  refine (at_aload_n dc212_491 rfl).trans ?_
  refine (at_iload_n dc212_492 rfl).trans ?_
  refine (at_iconst (v := 2) dc212_493 rfl).trans ?_
  refine (at_iadd dc212_494).trans ?_
  refine (at_xald dc212_495 (pm_xS hg) i2).trans ?_
  exact at_inv dc212_496 mc212 lm7_60 rfl rfl (Nat.le_of_ble_eq_true rfl) (Or.inl ⟨(ly32 hL), by decide⟩)
theorem b212_499 {X : pm_X} {d : Nat} {x3 : Int32} {s0 : Int32} {s1 : Int32} {g : pm_G} {iv : pm_V}  : pm_at X d 212 (499, [some (.ref 1300), some (.ref 0), some (.ref 32), some (.int x3)], [.int s0, .int s1], g, iv) = if s1 = s0 then pm_at X d 212 (1071, [some (.ref 1300), some (.ref 0), some (.ref 32), some (.int x3)], [], g, iv) else pm_at X d 212 (502, [some (.ref 1300), some (.ref 0), some (.ref 32), some (.int x3)], [], g, iv) := by
  exact at_icmp_eq (t := 1071) dc212_499 (by decide)
theorem b212_502 {X : pm_X} {d : Nat} {x3 : Int32} {g : pm_G} {iv : pm_V}  : pm_at X d 212 (502, [some (.ref 1300), some (.ref 0), some (.ref 32), some (.int x3)], [], g, iv) = some (some (.int 0), g, iv) := by
  refine (at_iconst (v := 0) dc212_502 rfl).trans ?_
  exact at_zret dc212_503 mr212 (by decide)
theorem b212_504 {X : pm_X} {d : Nat} {x3 : Int32} {g : pm_G} {iv : pm_V} (hL : pm_lay g) (hg : pm_xg g) (hX : X.1 < 2147483648) (i1 : vp_in ((x3 + 1)) X.1) (i2 : vp_in ((x3 + 2)) X.1) (i3 : vp_in ((x3 + 3)) X.1) : pm_at X d 212 (504, [some (.ref 1300), some (.ref 0), some (.ref 32), some (.int x3)], [], g, iv) = pm_then X d 212 523 [some (.ref 1300), some (.ref 0), some (.ref 32), some (.int x3)] [] (pm_c X d 101 [.ref 0, .int (X.2 ((x3 + 1)).toNatClampNeg), .int (X.2 ((x3 + 2)).toNatClampNeg), .int (X.2 ((x3 + 3)).toNatClampNeg)] g iv) := by
  refine (at_aload_n dc212_504 rfl).trans ?_
  refine (at_aload_n dc212_505 rfl).trans ?_
  refine (at_iload_n dc212_506 rfl).trans ?_
  refine (at_iconst (v := 1) dc212_507 rfl).trans ?_
  refine (at_iadd dc212_508).trans ?_
  refine (at_xald dc212_509 (pm_xS hg) i1).trans ?_
  refine (at_aload_n dc212_510 rfl).trans ?_
  refine (at_iload_n dc212_511 rfl).trans ?_
  refine (at_iconst (v := 2) dc212_512 rfl).trans ?_
  refine (at_iadd dc212_513).trans ?_
  refine (at_xald dc212_514 (pm_xS hg) i2).trans ?_
  refine (at_aload_n dc212_515 rfl).trans ?_
  refine (at_iload_n dc212_516 rfl).trans ?_
  refine (at_iconst (v := 3) dc212_517 rfl).trans ?_
  refine (at_iadd dc212_518).trans ?_
  refine (at_xald dc212_519 (pm_xS hg) i3).trans ?_
  exact at_inv dc212_520 mc212 lm7_61 rfl rfl (Nat.le_of_ble_eq_true rfl) (Or.inl ⟨(ly0 hL), by decide⟩)
theorem b212_523 {X : pm_X} {d : Nat} {x3 : Int32} {s0 : Int32} {g : pm_G} {iv : pm_V} (hL : pm_lay g) (hg : pm_xg g) (hX : X.1 < 2147483648) (i1 : vp_in ((x3 + 1)) X.1) (i2 : vp_in ((x3 + 2)) X.1) (i3 : vp_in ((x3 + 3)) X.1) : pm_at X d 212 (523, [some (.ref 1300), some (.ref 0), some (.ref 32), some (.int x3)], [.int s0], g, iv) = pm_then X d 212 542 [some (.ref 1300), some (.ref 0), some (.ref 32), some (.int x3)] [.int s0] (pm_c X d 172 [.ref 32, .int (X.2 ((x3 + 1)).toNatClampNeg), .int (X.2 ((x3 + 2)).toNatClampNeg), .int (X.2 ((x3 + 3)).toNatClampNeg)] g iv) := by
  refine (at_aload_n dc212_523 rfl).trans ?_
  refine (at_aload_n dc212_524 rfl).trans ?_
  refine (at_iload_n dc212_525 rfl).trans ?_
  refine (at_iconst (v := 1) dc212_526 rfl).trans ?_
  refine (at_iadd dc212_527).trans ?_
  refine (at_xald dc212_528 (pm_xS hg) i1).trans ?_
  refine (at_aload_n dc212_529 rfl).trans ?_
  refine (at_iload_n dc212_530 rfl).trans ?_
  refine (at_iconst (v := 2) dc212_531 rfl).trans ?_
  refine (at_iadd dc212_532).trans ?_
  refine (at_xald dc212_533 (pm_xS hg) i2).trans ?_
  refine (at_aload_n dc212_534 rfl).trans ?_
  refine (at_iload_n dc212_535 rfl).trans ?_
  refine (at_iconst (v := 3) dc212_536 rfl).trans ?_
  refine (at_iadd dc212_537).trans ?_
  refine (at_xald dc212_538 (pm_xS hg) i3).trans ?_
  exact at_inv dc212_539 mc212 lm7_64 rfl rfl (Nat.le_of_ble_eq_true rfl) (Or.inl ⟨(ly32 hL), by decide⟩)
theorem b212_542 {X : pm_X} {d : Nat} {x3 : Int32} {s0 : Int32} {s1 : Int32} {g : pm_G} {iv : pm_V}  : pm_at X d 212 (542, [some (.ref 1300), some (.ref 0), some (.ref 32), some (.int x3)], [.int s0, .int s1], g, iv) = if s1 = s0 then pm_at X d 212 (1071, [some (.ref 1300), some (.ref 0), some (.ref 32), some (.int x3)], [], g, iv) else pm_at X d 212 (545, [some (.ref 1300), some (.ref 0), some (.ref 32), some (.int x3)], [], g, iv) := by
  exact at_icmp_eq (t := 1071) dc212_542 (by decide)
theorem b212_545 {X : pm_X} {d : Nat} {x3 : Int32} {g : pm_G} {iv : pm_V}  : pm_at X d 212 (545, [some (.ref 1300), some (.ref 0), some (.ref 32), some (.int x3)], [], g, iv) = some (some (.int 0), g, iv) := by
  refine (at_iconst (v := 0) dc212_545 rfl).trans ?_
  exact at_zret dc212_546 mr212 (by decide)
theorem b212_547 {X : pm_X} {d : Nat} {x3 : Int32} {g : pm_G} {iv : pm_V} (hL : pm_lay g) : pm_at X d 212 (547, [some (.ref 1300), some (.ref 0), some (.ref 32), some (.int x3)], [], g, iv) = pm_then X d 212 551 [some (.ref 1300), some (.ref 0), some (.ref 32), some (.int x3)] [] (pm_c X d 102 [.ref 0] g iv) := by
  refine (at_aload_n dc212_547 rfl).trans ?_
  exact at_inv dc212_548 mc212 lm7_65 rfl rfl (Nat.le_of_ble_eq_true rfl) (Or.inl ⟨(ly0 hL), by decide⟩)
theorem b212_551 {X : pm_X} {d : Nat} {x3 : Int32} {s0 : Int32} {g : pm_G} {iv : pm_V} (hL : pm_lay g) : pm_at X d 212 (551, [some (.ref 1300), some (.ref 0), some (.ref 32), some (.int x3)], [.int s0], g, iv) = pm_then X d 212 555 [some (.ref 1300), some (.ref 0), some (.ref 32), some (.int x3)] [.int s0] (pm_c X d 173 [.ref 32] g iv) := by
  refine (at_aload_n dc212_551 rfl).trans ?_
  exact at_inv dc212_552 mc212 lm7_68 rfl rfl (Nat.le_of_ble_eq_true rfl) (Or.inl ⟨(ly32 hL), by decide⟩)
theorem b212_555 {X : pm_X} {d : Nat} {x3 : Int32} {s0 : Int32} {s1 : Int32} {g : pm_G} {iv : pm_V}  : pm_at X d 212 (555, [some (.ref 1300), some (.ref 0), some (.ref 32), some (.int x3)], [.int s0, .int s1], g, iv) = if s1 = s0 then pm_at X d 212 (1071, [some (.ref 1300), some (.ref 0), some (.ref 32), some (.int x3)], [], g, iv) else pm_at X d 212 (558, [some (.ref 1300), some (.ref 0), some (.ref 32), some (.int x3)], [], g, iv) := by
  exact at_icmp_eq (t := 1071) dc212_555 (by decide)
theorem b212_558 {X : pm_X} {d : Nat} {x3 : Int32} {g : pm_G} {iv : pm_V}  : pm_at X d 212 (558, [some (.ref 1300), some (.ref 0), some (.ref 32), some (.int x3)], [], g, iv) = some (some (.int 0), g, iv) := by
  refine (at_iconst (v := 0) dc212_558 rfl).trans ?_
  exact at_zret dc212_559 mr212 (by decide)
theorem b212_560 {X : pm_X} {d : Nat} {x3 : Int32} {g : pm_G} {iv : pm_V} (hL : pm_lay g) (hg : pm_xg g) (hX : X.1 < 2147483648) (i1 : vp_in ((x3 + 1)) X.1) (i2 : vp_in ((x3 + 2)) X.1) : pm_at X d 212 (560, [some (.ref 1300), some (.ref 0), some (.ref 32), some (.int x3)], [], g, iv) = pm_then X d 212 574 [some (.ref 1300), some (.ref 0), some (.ref 32), some (.int x3)] [] (pm_c X d 103 [.ref 0, .int (X.2 ((x3 + 1)).toNatClampNeg), .int (X.2 ((x3 + 2)).toNatClampNeg)] g iv) := by
  refine (at_aload_n dc212_560 rfl).trans ?_
  refine (at_aload_n dc212_561 rfl).trans ?_
  refine (at_iload_n dc212_562 rfl).trans ?_
  refine (at_iconst (v := 1) dc212_563 rfl).trans ?_
  refine (at_iadd dc212_564).trans ?_
  refine (at_xald dc212_565 (pm_xS hg) i1).trans ?_
  refine (at_aload_n dc212_566 rfl).trans ?_
  refine (at_iload_n dc212_567 rfl).trans ?_
  refine (at_iconst (v := 2) dc212_568 rfl).trans ?_
  refine (at_iadd dc212_569).trans ?_
  refine (at_xald dc212_570 (pm_xS hg) i2).trans ?_
  exact at_inv dc212_571 mc212 lm7_69 rfl rfl (Nat.le_of_ble_eq_true rfl) (Or.inl ⟨(ly0 hL), by decide⟩)
theorem b212_574 {X : pm_X} {d : Nat} {x3 : Int32} {s0 : Int32} {g : pm_G} {iv : pm_V} (hL : pm_lay g) (hg : pm_xg g) (hX : X.1 < 2147483648) (i1 : vp_in ((x3 + 1)) X.1) (i2 : vp_in ((x3 + 2)) X.1) : pm_at X d 212 (574, [some (.ref 1300), some (.ref 0), some (.ref 32), some (.int x3)], [.int s0], g, iv) = pm_then X d 212 588 [some (.ref 1300), some (.ref 0), some (.ref 32), some (.int x3)] [.int s0] (pm_c X d 175 [.ref 32, .int (X.2 ((x3 + 1)).toNatClampNeg), .int (X.2 ((x3 + 2)).toNatClampNeg)] g iv) := by
  refine (at_aload_n dc212_574 rfl).trans ?_
  refine (at_aload_n dc212_575 rfl).trans ?_
  refine (at_iload_n dc212_576 rfl).trans ?_
  refine (at_iconst (v := 1) dc212_577 rfl).trans ?_
  refine (at_iadd dc212_578).trans ?_
  refine (at_xald dc212_579 (pm_xS hg) i1).trans ?_
  refine (at_aload_n dc212_580 rfl).trans ?_
  refine (at_iload_n dc212_581 rfl).trans ?_
  refine (at_iconst (v := 2) dc212_582 rfl).trans ?_
  refine (at_iadd dc212_583).trans ?_
  refine (at_xald dc212_584 (pm_xS hg) i2).trans ?_
  exact at_inv dc212_585 mc212 lm7_72 rfl rfl (Nat.le_of_ble_eq_true rfl) (Or.inl ⟨(ly32 hL), by decide⟩)
theorem b212_588 {X : pm_X} {d : Nat} {x3 : Int32} {s0 : Int32} {s1 : Int32} {g : pm_G} {iv : pm_V}  : pm_at X d 212 (588, [some (.ref 1300), some (.ref 0), some (.ref 32), some (.int x3)], [.int s0, .int s1], g, iv) = if s1 = s0 then pm_at X d 212 (1071, [some (.ref 1300), some (.ref 0), some (.ref 32), some (.int x3)], [], g, iv) else pm_at X d 212 (591, [some (.ref 1300), some (.ref 0), some (.ref 32), some (.int x3)], [], g, iv) := by
  exact at_icmp_eq (t := 1071) dc212_588 (by decide)
theorem b212_591 {X : pm_X} {d : Nat} {x3 : Int32} {g : pm_G} {iv : pm_V}  : pm_at X d 212 (591, [some (.ref 1300), some (.ref 0), some (.ref 32), some (.int x3)], [], g, iv) = some (some (.int 0), g, iv) := by
  refine (at_iconst (v := 0) dc212_591 rfl).trans ?_
  exact at_zret dc212_592 mr212 (by decide)
theorem b212_593 {X : pm_X} {d : Nat} {x3 : Int32} {g : pm_G} {iv : pm_V} (hL : pm_lay g) (hg : pm_xg g) (hX : X.1 < 2147483648) (i1 : vp_in ((x3 + 1)) X.1) (i2 : vp_in ((x3 + 2)) X.1) : pm_at X d 212 (593, [some (.ref 1300), some (.ref 0), some (.ref 32), some (.int x3)], [], g, iv) = pm_then X d 212 607 [some (.ref 1300), some (.ref 0), some (.ref 32), some (.int x3)] [] (pm_c X d 104 [.ref 0, .int (X.2 ((x3 + 1)).toNatClampNeg), .int (X.2 ((x3 + 2)).toNatClampNeg)] g iv) := by
  refine (at_aload_n dc212_593 rfl).trans ?_
  refine (at_aload_n dc212_594 rfl).trans ?_
  refine (at_iload_n dc212_595 rfl).trans ?_
  refine (at_iconst (v := 1) dc212_596 rfl).trans ?_
  refine (at_iadd dc212_597).trans ?_
  refine (at_xald dc212_598 (pm_xS hg) i1).trans ?_
  refine (at_aload_n dc212_599 rfl).trans ?_
  refine (at_iload_n dc212_600 rfl).trans ?_
  refine (at_iconst (v := 2) dc212_601 rfl).trans ?_
  refine (at_iadd dc212_602).trans ?_
  refine (at_xald dc212_603 (pm_xS hg) i2).trans ?_
  exact at_inv dc212_604 mc212 lm7_73 rfl rfl (Nat.le_of_ble_eq_true rfl) (Or.inl ⟨(ly0 hL), by decide⟩)
theorem b212_607 {X : pm_X} {d : Nat} {x3 : Int32} {s0 : Int32} {g : pm_G} {iv : pm_V} (hL : pm_lay g) (hg : pm_xg g) (hX : X.1 < 2147483648) (i1 : vp_in ((x3 + 1)) X.1) (i2 : vp_in ((x3 + 2)) X.1) : pm_at X d 212 (607, [some (.ref 1300), some (.ref 0), some (.ref 32), some (.int x3)], [.int s0], g, iv) = pm_then X d 212 621 [some (.ref 1300), some (.ref 0), some (.ref 32), some (.int x3)] [.int s0] (pm_c X d 176 [.ref 32, .int (X.2 ((x3 + 1)).toNatClampNeg), .int (X.2 ((x3 + 2)).toNatClampNeg)] g iv) := by
  refine (at_aload_n dc212_607 rfl).trans ?_
  refine (at_aload_n dc212_608 rfl).trans ?_
  refine (at_iload_n dc212_609 rfl).trans ?_
  refine (at_iconst (v := 1) dc212_610 rfl).trans ?_
  refine (at_iadd dc212_611).trans ?_
  refine (at_xald dc212_612 (pm_xS hg) i1).trans ?_
  refine (at_aload_n dc212_613 rfl).trans ?_
  refine (at_iload_n dc212_614 rfl).trans ?_
  refine (at_iconst (v := 2) dc212_615 rfl).trans ?_
  refine (at_iadd dc212_616).trans ?_
  refine (at_xald dc212_617 (pm_xS hg) i2).trans ?_
  exact at_inv dc212_618 mc212 lm7_76 rfl rfl (Nat.le_of_ble_eq_true rfl) (Or.inl ⟨(ly32 hL), by decide⟩)
theorem b212_621 {X : pm_X} {d : Nat} {x3 : Int32} {s0 : Int32} {s1 : Int32} {g : pm_G} {iv : pm_V}  : pm_at X d 212 (621, [some (.ref 1300), some (.ref 0), some (.ref 32), some (.int x3)], [.int s0, .int s1], g, iv) = if s1 = s0 then pm_at X d 212 (1071, [some (.ref 1300), some (.ref 0), some (.ref 32), some (.int x3)], [], g, iv) else pm_at X d 212 (624, [some (.ref 1300), some (.ref 0), some (.ref 32), some (.int x3)], [], g, iv) := by
  exact at_icmp_eq (t := 1071) dc212_621 (by decide)
theorem b212_624 {X : pm_X} {d : Nat} {x3 : Int32} {g : pm_G} {iv : pm_V}  : pm_at X d 212 (624, [some (.ref 1300), some (.ref 0), some (.ref 32), some (.int x3)], [], g, iv) = some (some (.int 0), g, iv) := by
  refine (at_iconst (v := 0) dc212_624 rfl).trans ?_
  exact at_zret dc212_625 mr212 (by decide)
theorem b212_626 {X : pm_X} {d : Nat} {x3 : Int32} {g : pm_G} {iv : pm_V} (hL : pm_lay g) (hg : pm_xg g) (hX : X.1 < 2147483648) (i1 : vp_in ((x3 + 1)) X.1) (i2 : vp_in ((x3 + 2)) X.1) (i3 : vp_in ((x3 + 3)) X.1) : pm_at X d 212 (626, [some (.ref 1300), some (.ref 0), some (.ref 32), some (.int x3)], [], g, iv) = pm_then X d 212 645 [some (.ref 1300), some (.ref 0), some (.ref 32), some (.int x3)] [] (pm_c X d 105 [.ref 0, .int (X.2 ((x3 + 1)).toNatClampNeg), .int (X.2 ((x3 + 2)).toNatClampNeg), .int (X.2 ((x3 + 3)).toNatClampNeg)] g iv) := by
  refine (at_aload_n dc212_626 rfl).trans ?_
  refine (at_aload_n dc212_627 rfl).trans ?_
  refine (at_iload_n dc212_628 rfl).trans ?_
  refine (at_iconst (v := 1) dc212_629 rfl).trans ?_
  refine (at_iadd dc212_630).trans ?_
  refine (at_xald dc212_631 (pm_xS hg) i1).trans ?_
  refine (at_aload_n dc212_632 rfl).trans ?_
  refine (at_iload_n dc212_633 rfl).trans ?_
  refine (at_iconst (v := 2) dc212_634 rfl).trans ?_
  refine (at_iadd dc212_635).trans ?_
  refine (at_xald dc212_636 (pm_xS hg) i2).trans ?_
  refine (at_aload_n dc212_637 rfl).trans ?_
  refine (at_iload_n dc212_638 rfl).trans ?_
  refine (at_iconst (v := 3) dc212_639 rfl).trans ?_
  refine (at_iadd dc212_640).trans ?_
  refine (at_xald dc212_641 (pm_xS hg) i3).trans ?_
  exact at_inv dc212_642 mc212 lm7_77 rfl rfl (Nat.le_of_ble_eq_true rfl) (Or.inl ⟨(ly0 hL), by decide⟩)
theorem b212_645 {X : pm_X} {d : Nat} {x3 : Int32} {s0 : Int32} {g : pm_G} {iv : pm_V} (hL : pm_lay g) (hg : pm_xg g) (hX : X.1 < 2147483648) (i1 : vp_in ((x3 + 1)) X.1) (i2 : vp_in ((x3 + 2)) X.1) (i3 : vp_in ((x3 + 3)) X.1) : pm_at X d 212 (645, [some (.ref 1300), some (.ref 0), some (.ref 32), some (.int x3)], [.int s0], g, iv) = pm_then X d 212 664 [some (.ref 1300), some (.ref 0), some (.ref 32), some (.int x3)] [.int s0] (pm_c X d 178 [.ref 32, .int (X.2 ((x3 + 1)).toNatClampNeg), .int (X.2 ((x3 + 2)).toNatClampNeg), .int (X.2 ((x3 + 3)).toNatClampNeg)] g iv) := by
  refine (at_aload_n dc212_645 rfl).trans ?_
  refine (at_aload_n dc212_646 rfl).trans ?_
  refine (at_iload_n dc212_647 rfl).trans ?_
  refine (at_iconst (v := 1) dc212_648 rfl).trans ?_
  refine (at_iadd dc212_649).trans ?_
  refine (at_xald dc212_650 (pm_xS hg) i1).trans ?_
  refine (at_aload_n dc212_651 rfl).trans ?_
  refine (at_iload_n dc212_652 rfl).trans ?_
  refine (at_iconst (v := 2) dc212_653 rfl).trans ?_
  refine (at_iadd dc212_654).trans ?_
  refine (at_xald dc212_655 (pm_xS hg) i2).trans ?_
  refine (at_aload_n dc212_656 rfl).trans ?_
  refine (at_iload_n dc212_657 rfl).trans ?_
  refine (at_iconst (v := 3) dc212_658 rfl).trans ?_
  refine (at_iadd dc212_659).trans ?_
  refine (at_xald dc212_660 (pm_xS hg) i3).trans ?_
  exact at_inv dc212_661 mc212 lm7_80 rfl rfl (Nat.le_of_ble_eq_true rfl) (Or.inl ⟨(ly32 hL), by decide⟩)
theorem b212_664 {X : pm_X} {d : Nat} {x3 : Int32} {s0 : Int32} {s1 : Int32} {g : pm_G} {iv : pm_V}  : pm_at X d 212 (664, [some (.ref 1300), some (.ref 0), some (.ref 32), some (.int x3)], [.int s0, .int s1], g, iv) = if s1 = s0 then pm_at X d 212 (1071, [some (.ref 1300), some (.ref 0), some (.ref 32), some (.int x3)], [], g, iv) else pm_at X d 212 (667, [some (.ref 1300), some (.ref 0), some (.ref 32), some (.int x3)], [], g, iv) := by
  exact at_icmp_eq (t := 1071) dc212_664 (by decide)
theorem b212_667 {X : pm_X} {d : Nat} {x3 : Int32} {g : pm_G} {iv : pm_V}  : pm_at X d 212 (667, [some (.ref 1300), some (.ref 0), some (.ref 32), some (.int x3)], [], g, iv) = some (some (.int 0), g, iv) := by
  refine (at_iconst (v := 0) dc212_667 rfl).trans ?_
  exact at_zret dc212_668 mr212 (by decide)
theorem b212_669 {X : pm_X} {d : Nat} {x3 : Int32} {g : pm_G} {iv : pm_V} (hL : pm_lay g) (hg : pm_xg g) (hX : X.1 < 2147483648) (i1 : vp_in ((x3 + 1)) X.1) : pm_at X d 212 (669, [some (.ref 1300), some (.ref 0), some (.ref 32), some (.int x3)], [], g, iv) = pm_then X d 212 678 [some (.ref 1300), some (.ref 0), some (.ref 32), some (.int x3)] [] (pm_c X d 106 [.ref 0, .int (X.2 ((x3 + 1)).toNatClampNeg)] g iv) := by
  refine (at_aload_n dc212_669 rfl).trans ?_
  refine (at_aload_n dc212_670 rfl).trans ?_
  refine (at_iload_n dc212_671 rfl).trans ?_
  refine (at_iconst (v := 1) dc212_672 rfl).trans ?_
  refine (at_iadd dc212_673).trans ?_
  refine (at_xald dc212_674 (pm_xS hg) i1).trans ?_
  exact at_inv dc212_675 mc212 lm7_81 rfl rfl (Nat.le_of_ble_eq_true rfl) (Or.inl ⟨(ly0 hL), by decide⟩)
theorem b212_678 {X : pm_X} {d : Nat} {x3 : Int32} {s0 : Int32} {g : pm_G} {iv : pm_V} (hL : pm_lay g) (hg : pm_xg g) (hX : X.1 < 2147483648) (i1 : vp_in ((x3 + 1)) X.1) : pm_at X d 212 (678, [some (.ref 1300), some (.ref 0), some (.ref 32), some (.int x3)], [.int s0], g, iv) = pm_then X d 212 687 [some (.ref 1300), some (.ref 0), some (.ref 32), some (.int x3)] [.int s0] (pm_c X d 179 [.ref 32, .int (X.2 ((x3 + 1)).toNatClampNeg)] g iv) := by
  refine (at_aload_n dc212_678 rfl).trans ?_
  refine (at_aload_n dc212_679 rfl).trans ?_
  refine (at_iload_n dc212_680 rfl).trans ?_
  refine (at_iconst (v := 1) dc212_681 rfl).trans ?_
  refine (at_iadd dc212_682).trans ?_
  refine (at_xald dc212_683 (pm_xS hg) i1).trans ?_
  exact at_inv dc212_684 mc212 lm7_84 rfl rfl (Nat.le_of_ble_eq_true rfl) (Or.inl ⟨(ly32 hL), by decide⟩)
theorem b212_687 {X : pm_X} {d : Nat} {x3 : Int32} {s0 : Int32} {s1 : Int32} {g : pm_G} {iv : pm_V}  : pm_at X d 212 (687, [some (.ref 1300), some (.ref 0), some (.ref 32), some (.int x3)], [.int s0, .int s1], g, iv) = if s1 = s0 then pm_at X d 212 (1071, [some (.ref 1300), some (.ref 0), some (.ref 32), some (.int x3)], [], g, iv) else pm_at X d 212 (690, [some (.ref 1300), some (.ref 0), some (.ref 32), some (.int x3)], [], g, iv) := by
  exact at_icmp_eq (t := 1071) dc212_687 (by decide)
theorem b212_690 {X : pm_X} {d : Nat} {x3 : Int32} {g : pm_G} {iv : pm_V}  : pm_at X d 212 (690, [some (.ref 1300), some (.ref 0), some (.ref 32), some (.int x3)], [], g, iv) = some (some (.int 0), g, iv) := by
  refine (at_iconst (v := 0) dc212_690 rfl).trans ?_
  exact at_zret dc212_691 mr212 (by decide)
theorem b212_692 {X : pm_X} {d : Nat} {x3 : Int32} {g : pm_G} {iv : pm_V} (hL : pm_lay g) (hg : pm_xg g) (hX : X.1 < 2147483648) (i1 : vp_in ((x3 + 1)) X.1) (i2 : vp_in ((x3 + 2)) X.1) (i3 : vp_in ((x3 + 3)) X.1) : pm_at X d 212 (692, [some (.ref 1300), some (.ref 0), some (.ref 32), some (.int x3)], [], g, iv) = pm_then X d 212 711 [some (.ref 1300), some (.ref 0), some (.ref 32), some (.int x3)] [] (pm_c X d 107 [.ref 0, .int (X.2 ((x3 + 1)).toNatClampNeg), .int (X.2 ((x3 + 2)).toNatClampNeg), .int (X.2 ((x3 + 3)).toNatClampNeg)] g iv) := by
  refine (at_aload_n dc212_692 rfl).trans ?_
  refine (at_aload_n dc212_693 rfl).trans ?_
  refine (at_iload_n dc212_694 rfl).trans ?_
  refine (at_iconst (v := 1) dc212_695 rfl).trans ?_
  refine (at_iadd dc212_696).trans ?_
  refine (at_xald dc212_697 (pm_xS hg) i1).trans ?_
  refine (at_aload_n dc212_698 rfl).trans ?_
  refine (at_iload_n dc212_699 rfl).trans ?_
  refine (at_iconst (v := 2) dc212_700 rfl).trans ?_
  refine (at_iadd dc212_701).trans ?_
  refine (at_xald dc212_702 (pm_xS hg) i2).trans ?_
  refine (at_aload_n dc212_703 rfl).trans ?_
  refine (at_iload_n dc212_704 rfl).trans ?_
  refine (at_iconst (v := 3) dc212_705 rfl).trans ?_
  refine (at_iadd dc212_706).trans ?_
  refine (at_xald dc212_707 (pm_xS hg) i3).trans ?_
  exact at_inv dc212_708 mc212 lm7_85 rfl rfl (Nat.le_of_ble_eq_true rfl) (Or.inl ⟨(ly0 hL), by decide⟩)
theorem b212_711 {X : pm_X} {d : Nat} {x3 : Int32} {s0 : Int32} {g : pm_G} {iv : pm_V} (hL : pm_lay g) (hg : pm_xg g) (hX : X.1 < 2147483648) (i1 : vp_in ((x3 + 1)) X.1) (i2 : vp_in ((x3 + 2)) X.1) (i3 : vp_in ((x3 + 3)) X.1) : pm_at X d 212 (711, [some (.ref 1300), some (.ref 0), some (.ref 32), some (.int x3)], [.int s0], g, iv) = pm_then X d 212 730 [some (.ref 1300), some (.ref 0), some (.ref 32), some (.int x3)] [.int s0] (pm_c X d 181 [.ref 32, .int (X.2 ((x3 + 1)).toNatClampNeg), .int (X.2 ((x3 + 2)).toNatClampNeg), .int (X.2 ((x3 + 3)).toNatClampNeg)] g iv) := by
  refine (at_aload_n dc212_711 rfl).trans ?_
  refine (at_aload_n dc212_712 rfl).trans ?_
  refine (at_iload_n dc212_713 rfl).trans ?_
  refine (at_iconst (v := 1) dc212_714 rfl).trans ?_
  refine (at_iadd dc212_715).trans ?_
  refine (at_xald dc212_716 (pm_xS hg) i1).trans ?_
  refine (at_aload_n dc212_717 rfl).trans ?_
  refine (at_iload_n dc212_718 rfl).trans ?_
  refine (at_iconst (v := 2) dc212_719 rfl).trans ?_
  refine (at_iadd dc212_720).trans ?_
  refine (at_xald dc212_721 (pm_xS hg) i2).trans ?_
  refine (at_aload_n dc212_722 rfl).trans ?_
  refine (at_iload_n dc212_723 rfl).trans ?_
  refine (at_iconst (v := 3) dc212_724 rfl).trans ?_
  refine (at_iadd dc212_725).trans ?_
  refine (at_xald dc212_726 (pm_xS hg) i3).trans ?_
  exact at_inv dc212_727 mc212 lm7_88 rfl rfl (Nat.le_of_ble_eq_true rfl) (Or.inl ⟨(ly32 hL), by decide⟩)
theorem b212_730 {X : pm_X} {d : Nat} {x3 : Int32} {s0 : Int32} {s1 : Int32} {g : pm_G} {iv : pm_V}  : pm_at X d 212 (730, [some (.ref 1300), some (.ref 0), some (.ref 32), some (.int x3)], [.int s0, .int s1], g, iv) = if s1 = s0 then pm_at X d 212 (1071, [some (.ref 1300), some (.ref 0), some (.ref 32), some (.int x3)], [], g, iv) else pm_at X d 212 (733, [some (.ref 1300), some (.ref 0), some (.ref 32), some (.int x3)], [], g, iv) := by
  exact at_icmp_eq (t := 1071) dc212_730 (by decide)
theorem b212_733 {X : pm_X} {d : Nat} {x3 : Int32} {g : pm_G} {iv : pm_V}  : pm_at X d 212 (733, [some (.ref 1300), some (.ref 0), some (.ref 32), some (.int x3)], [], g, iv) = some (some (.int 0), g, iv) := by
  refine (at_iconst (v := 0) dc212_733 rfl).trans ?_
  exact at_zret dc212_734 mr212 (by decide)
theorem b212_735 {X : pm_X} {d : Nat} {x3 : Int32} {g : pm_G} {iv : pm_V} (hL : pm_lay g) (hg : pm_xg g) (hX : X.1 < 2147483648) (i1 : vp_in ((x3 + 1)) X.1) (i2 : vp_in ((x3 + 2)) X.1) (i3 : vp_in ((x3 + 3)) X.1) (i4 : vp_in ((x3 + 4)) X.1) : pm_at X d 212 (735, [some (.ref 1300), some (.ref 0), some (.ref 32), some (.int x3)], [], g, iv) = pm_then X d 212 759 [some (.ref 1300), some (.ref 0), some (.ref 32), some (.int x3)] [] (pm_c X d 108 [.ref 0, .int (X.2 ((x3 + 1)).toNatClampNeg), .int (X.2 ((x3 + 2)).toNatClampNeg), .int (X.2 ((x3 + 3)).toNatClampNeg), .int (X.2 ((x3 + 4)).toNatClampNeg)] g iv) := by
  refine (at_aload_n dc212_735 rfl).trans ?_
  refine (at_aload_n dc212_736 rfl).trans ?_
  refine (at_iload_n dc212_737 rfl).trans ?_
  refine (at_iconst (v := 1) dc212_738 rfl).trans ?_
  refine (at_iadd dc212_739).trans ?_
  refine (at_xald dc212_740 (pm_xS hg) i1).trans ?_
  refine (at_aload_n dc212_741 rfl).trans ?_
  refine (at_iload_n dc212_742 rfl).trans ?_
  refine (at_iconst (v := 2) dc212_743 rfl).trans ?_
  refine (at_iadd dc212_744).trans ?_
  refine (at_xald dc212_745 (pm_xS hg) i2).trans ?_
  refine (at_aload_n dc212_746 rfl).trans ?_
  refine (at_iload_n dc212_747 rfl).trans ?_
  refine (at_iconst (v := 3) dc212_748 rfl).trans ?_
  refine (at_iadd dc212_749).trans ?_
  refine (at_xald dc212_750 (pm_xS hg) i3).trans ?_
  refine (at_aload_n dc212_751 rfl).trans ?_
  refine (at_iload_n dc212_752 rfl).trans ?_
  refine (at_iconst (v := 4) dc212_753 rfl).trans ?_
  refine (at_iadd dc212_754).trans ?_
  refine (at_xald dc212_755 (pm_xS hg) i4).trans ?_
  exact at_inv dc212_756 mc212 lm7_89 rfl rfl (Nat.le_of_ble_eq_true rfl) (Or.inl ⟨(ly0 hL), by decide⟩)
theorem b212_759 {X : pm_X} {d : Nat} {x3 : Int32} {s0 : Int32} {g : pm_G} {iv : pm_V} (hL : pm_lay g) (hg : pm_xg g) (hX : X.1 < 2147483648) (i1 : vp_in ((x3 + 1)) X.1) (i2 : vp_in ((x3 + 2)) X.1) (i3 : vp_in ((x3 + 3)) X.1) (i4 : vp_in ((x3 + 4)) X.1) : pm_at X d 212 (759, [some (.ref 1300), some (.ref 0), some (.ref 32), some (.int x3)], [.int s0], g, iv) = pm_then X d 212 783 [some (.ref 1300), some (.ref 0), some (.ref 32), some (.int x3)] [.int s0] (pm_c X d 183 [.ref 32, .int (X.2 ((x3 + 1)).toNatClampNeg), .int (X.2 ((x3 + 2)).toNatClampNeg), .int (X.2 ((x3 + 3)).toNatClampNeg), .int (X.2 ((x3 + 4)).toNatClampNeg)] g iv) := by
  refine (at_aload_n dc212_759 rfl).trans ?_
  refine (at_aload_n dc212_760 rfl).trans ?_
  refine (at_iload_n dc212_761 rfl).trans ?_
  refine (at_iconst (v := 1) dc212_762 rfl).trans ?_
  refine (at_iadd dc212_763).trans ?_
  refine (at_xald dc212_764 (pm_xS hg) i1).trans ?_
  refine (at_aload_n dc212_765 rfl).trans ?_
  refine (at_iload_n dc212_766 rfl).trans ?_
  refine (at_iconst (v := 2) dc212_767 rfl).trans ?_
  refine (at_iadd dc212_768).trans ?_
  refine (at_xald dc212_769 (pm_xS hg) i2).trans ?_
  refine (at_aload_n dc212_770 rfl).trans ?_
  refine (at_iload_n dc212_771 rfl).trans ?_
  refine (at_iconst (v := 3) dc212_772 rfl).trans ?_
  refine (at_iadd dc212_773).trans ?_
  refine (at_xald dc212_774 (pm_xS hg) i3).trans ?_
  refine (at_aload_n dc212_775 rfl).trans ?_
  refine (at_iload_n dc212_776 rfl).trans ?_
  refine (at_iconst (v := 4) dc212_777 rfl).trans ?_
  refine (at_iadd dc212_778).trans ?_
  refine (at_xald dc212_779 (pm_xS hg) i4).trans ?_
  exact at_inv dc212_780 mc212 lm7_93 rfl rfl (Nat.le_of_ble_eq_true rfl) (Or.inl ⟨(ly32 hL), by decide⟩)
theorem b212_783 {X : pm_X} {d : Nat} {x3 : Int32} {s0 : Int32} {s1 : Int32} {g : pm_G} {iv : pm_V}  : pm_at X d 212 (783, [some (.ref 1300), some (.ref 0), some (.ref 32), some (.int x3)], [.int s0, .int s1], g, iv) = if s1 = s0 then pm_at X d 212 (1071, [some (.ref 1300), some (.ref 0), some (.ref 32), some (.int x3)], [], g, iv) else pm_at X d 212 (786, [some (.ref 1300), some (.ref 0), some (.ref 32), some (.int x3)], [], g, iv) := by
  exact at_icmp_eq (t := 1071) dc212_783 (by decide)
theorem b212_786 {X : pm_X} {d : Nat} {x3 : Int32} {g : pm_G} {iv : pm_V}  : pm_at X d 212 (786, [some (.ref 1300), some (.ref 0), some (.ref 32), some (.int x3)], [], g, iv) = some (some (.int 0), g, iv) := by
  refine (at_iconst (v := 0) dc212_786 rfl).trans ?_
  exact at_zret dc212_787 mr212 (by decide)
theorem b212_788 {X : pm_X} {d : Nat} {x3 : Int32} {g : pm_G} {iv : pm_V} (hL : pm_lay g) (hg : pm_xg g) (hX : X.1 < 2147483648) (i1 : vp_in ((x3 + 1)) X.1) : pm_at X d 212 (788, [some (.ref 1300), some (.ref 0), some (.ref 32), some (.int x3)], [], g, iv) = pm_then X d 212 797 [some (.ref 1300), some (.ref 0), some (.ref 32), some (.int x3)] [] (pm_c X d 109 [.ref 0, .int (X.2 ((x3 + 1)).toNatClampNeg)] g iv) := by
  refine (at_aload_n dc212_788 rfl).trans ?_
  refine (at_aload_n dc212_789 rfl).trans ?_
  refine (at_iload_n dc212_790 rfl).trans ?_
  refine (at_iconst (v := 1) dc212_791 rfl).trans ?_
  refine (at_iadd dc212_792).trans ?_
  refine (at_xald dc212_793 (pm_xS hg) i1).trans ?_
  exact at_inv dc212_794 mc212 lm7_94 rfl rfl (Nat.le_of_ble_eq_true rfl) (Or.inl ⟨(ly0 hL), by decide⟩)
theorem b212_797 {X : pm_X} {d : Nat} {x3 : Int32} {s0 : Int32} {g : pm_G} {iv : pm_V} (hL : pm_lay g) (hg : pm_xg g) (hX : X.1 < 2147483648) (i1 : vp_in ((x3 + 1)) X.1) : pm_at X d 212 (797, [some (.ref 1300), some (.ref 0), some (.ref 32), some (.int x3)], [.int s0], g, iv) = pm_then X d 212 806 [some (.ref 1300), some (.ref 0), some (.ref 32), some (.int x3)] [.int s0] (pm_c X d 184 [.ref 32, .int (X.2 ((x3 + 1)).toNatClampNeg)] g iv) := by
  refine (at_aload_n dc212_797 rfl).trans ?_
  refine (at_aload_n dc212_798 rfl).trans ?_
  refine (at_iload_n dc212_799 rfl).trans ?_
  refine (at_iconst (v := 1) dc212_800 rfl).trans ?_
  refine (at_iadd dc212_801).trans ?_
  refine (at_xald dc212_802 (pm_xS hg) i1).trans ?_
  exact at_inv dc212_803 mc212 lm7_97 rfl rfl (Nat.le_of_ble_eq_true rfl) (Or.inl ⟨(ly32 hL), by decide⟩)
theorem b212_806 {X : pm_X} {d : Nat} {x3 : Int32} {s0 : Int32} {s1 : Int32} {g : pm_G} {iv : pm_V}  : pm_at X d 212 (806, [some (.ref 1300), some (.ref 0), some (.ref 32), some (.int x3)], [.int s0, .int s1], g, iv) = if s1 = s0 then pm_at X d 212 (1071, [some (.ref 1300), some (.ref 0), some (.ref 32), some (.int x3)], [], g, iv) else pm_at X d 212 (809, [some (.ref 1300), some (.ref 0), some (.ref 32), some (.int x3)], [], g, iv) := by
  exact at_icmp_eq (t := 1071) dc212_806 (by decide)
theorem b212_809 {X : pm_X} {d : Nat} {x3 : Int32} {g : pm_G} {iv : pm_V}  : pm_at X d 212 (809, [some (.ref 1300), some (.ref 0), some (.ref 32), some (.int x3)], [], g, iv) = some (some (.int 0), g, iv) := by
  refine (at_iconst (v := 0) dc212_809 rfl).trans ?_
  exact at_zret dc212_810 mr212 (by decide)
theorem b212_811 {X : pm_X} {d : Nat} {x3 : Int32} {g : pm_G} {iv : pm_V} (hL : pm_lay g) (hg : pm_xg g) (hX : X.1 < 2147483648) (i1 : vp_in ((x3 + 1)) X.1) (i2 : vp_in ((x3 + 2)) X.1) (i3 : vp_in ((x3 + 3)) X.1) : pm_at X d 212 (811, [some (.ref 1300), some (.ref 0), some (.ref 32), some (.int x3)], [], g, iv) = pm_then X d 212 830 [some (.ref 1300), some (.ref 0), some (.ref 32), some (.int x3)] [] (pm_c X d 110 [.ref 0, .int (X.2 ((x3 + 1)).toNatClampNeg), .int (X.2 ((x3 + 2)).toNatClampNeg), .int (X.2 ((x3 + 3)).toNatClampNeg)] g iv) := by
  refine (at_aload_n dc212_811 rfl).trans ?_
  refine (at_aload_n dc212_812 rfl).trans ?_
  refine (at_iload_n dc212_813 rfl).trans ?_
  refine (at_iconst (v := 1) dc212_814 rfl).trans ?_
  refine (at_iadd dc212_815).trans ?_
  refine (at_xald dc212_816 (pm_xS hg) i1).trans ?_
  refine (at_aload_n dc212_817 rfl).trans ?_
  refine (at_iload_n dc212_818 rfl).trans ?_
  refine (at_iconst (v := 2) dc212_819 rfl).trans ?_
  refine (at_iadd dc212_820).trans ?_
  refine (at_xald dc212_821 (pm_xS hg) i2).trans ?_
  refine (at_aload_n dc212_822 rfl).trans ?_
  refine (at_iload_n dc212_823 rfl).trans ?_
  refine (at_iconst (v := 3) dc212_824 rfl).trans ?_
  refine (at_iadd dc212_825).trans ?_
  refine (at_xald dc212_826 (pm_xS hg) i3).trans ?_
  exact at_inv dc212_827 mc212 lm7_98 rfl rfl (Nat.le_of_ble_eq_true rfl) (Or.inl ⟨(ly0 hL), by decide⟩)
theorem b212_830 {X : pm_X} {d : Nat} {x3 : Int32} {s0 : Int32} {g : pm_G} {iv : pm_V} (hL : pm_lay g) (hg : pm_xg g) (hX : X.1 < 2147483648) (i1 : vp_in ((x3 + 1)) X.1) (i2 : vp_in ((x3 + 2)) X.1) (i3 : vp_in ((x3 + 3)) X.1) : pm_at X d 212 (830, [some (.ref 1300), some (.ref 0), some (.ref 32), some (.int x3)], [.int s0], g, iv) = pm_then X d 212 849 [some (.ref 1300), some (.ref 0), some (.ref 32), some (.int x3)] [.int s0] (pm_c X d 186 [.ref 32, .int (X.2 ((x3 + 1)).toNatClampNeg), .int (X.2 ((x3 + 2)).toNatClampNeg), .int (X.2 ((x3 + 3)).toNatClampNeg)] g iv) := by
  refine (at_aload_n dc212_830 rfl).trans ?_
  refine (at_aload_n dc212_831 rfl).trans ?_
  refine (at_iload_n dc212_832 rfl).trans ?_
  refine (at_iconst (v := 1) dc212_833 rfl).trans ?_
  refine (at_iadd dc212_834).trans ?_
  refine (at_xald dc212_835 (pm_xS hg) i1).trans ?_
  refine (at_aload_n dc212_836 rfl).trans ?_
  refine (at_iload_n dc212_837 rfl).trans ?_
  refine (at_iconst (v := 2) dc212_838 rfl).trans ?_
  refine (at_iadd dc212_839).trans ?_
  refine (at_xald dc212_840 (pm_xS hg) i2).trans ?_
  refine (at_aload_n dc212_841 rfl).trans ?_
  refine (at_iload_n dc212_842 rfl).trans ?_
  refine (at_iconst (v := 3) dc212_843 rfl).trans ?_
  refine (at_iadd dc212_844).trans ?_
  refine (at_xald dc212_845 (pm_xS hg) i3).trans ?_
  exact at_inv dc212_846 mc212 lm7_101 rfl rfl (Nat.le_of_ble_eq_true rfl) (Or.inl ⟨(ly32 hL), by decide⟩)
theorem b212_849 {X : pm_X} {d : Nat} {x3 : Int32} {s0 : Int32} {s1 : Int32} {g : pm_G} {iv : pm_V}  : pm_at X d 212 (849, [some (.ref 1300), some (.ref 0), some (.ref 32), some (.int x3)], [.int s0, .int s1], g, iv) = if s1 = s0 then pm_at X d 212 (1071, [some (.ref 1300), some (.ref 0), some (.ref 32), some (.int x3)], [], g, iv) else pm_at X d 212 (852, [some (.ref 1300), some (.ref 0), some (.ref 32), some (.int x3)], [], g, iv) := by
  exact at_icmp_eq (t := 1071) dc212_849 (by decide)
theorem b212_852 {X : pm_X} {d : Nat} {x3 : Int32} {g : pm_G} {iv : pm_V}  : pm_at X d 212 (852, [some (.ref 1300), some (.ref 0), some (.ref 32), some (.int x3)], [], g, iv) = some (some (.int 0), g, iv) := by
  refine (at_iconst (v := 0) dc212_852 rfl).trans ?_
  exact at_zret dc212_853 mr212 (by decide)
theorem b212_854 {X : pm_X} {d : Nat} {x3 : Int32} {g : pm_G} {iv : pm_V} (hL : pm_lay g) (hg : pm_xg g) (hX : X.1 < 2147483648) (i1 : vp_in ((x3 + 1)) X.1) : pm_at X d 212 (854, [some (.ref 1300), some (.ref 0), some (.ref 32), some (.int x3)], [], g, iv) = pm_then X d 212 863 [some (.ref 1300), some (.ref 0), some (.ref 32), some (.int x3)] [] (pm_c X d 111 [.ref 0, .int (X.2 ((x3 + 1)).toNatClampNeg)] g iv) := by
  refine (at_aload_n dc212_854 rfl).trans ?_
  refine (at_aload_n dc212_855 rfl).trans ?_
  refine (at_iload_n dc212_856 rfl).trans ?_
  refine (at_iconst (v := 1) dc212_857 rfl).trans ?_
  refine (at_iadd dc212_858).trans ?_
  refine (at_xald dc212_859 (pm_xS hg) i1).trans ?_
  exact at_inv dc212_860 mc212 lm7_102 rfl rfl (Nat.le_of_ble_eq_true rfl) (Or.inl ⟨(ly0 hL), by decide⟩)
theorem b212_863 {X : pm_X} {d : Nat} {x3 : Int32} {s0 : Int32} {g : pm_G} {iv : pm_V} (hL : pm_lay g) (hg : pm_xg g) (hX : X.1 < 2147483648) (i1 : vp_in ((x3 + 1)) X.1) : pm_at X d 212 (863, [some (.ref 1300), some (.ref 0), some (.ref 32), some (.int x3)], [.int s0], g, iv) = pm_then X d 212 872 [some (.ref 1300), some (.ref 0), some (.ref 32), some (.int x3)] [.int s0] (pm_c X d 187 [.ref 32, .int (X.2 ((x3 + 1)).toNatClampNeg)] g iv) := by
  refine (at_aload_n dc212_863 rfl).trans ?_
  refine (at_aload_n dc212_864 rfl).trans ?_
  refine (at_iload_n dc212_865 rfl).trans ?_
  refine (at_iconst (v := 1) dc212_866 rfl).trans ?_
  refine (at_iadd dc212_867).trans ?_
  refine (at_xald dc212_868 (pm_xS hg) i1).trans ?_
  exact at_inv dc212_869 mc212 lm7_105 rfl rfl (Nat.le_of_ble_eq_true rfl) (Or.inl ⟨(ly32 hL), by decide⟩)
theorem b212_872 {X : pm_X} {d : Nat} {x3 : Int32} {s0 : Int32} {s1 : Int32} {g : pm_G} {iv : pm_V}  : pm_at X d 212 (872, [some (.ref 1300), some (.ref 0), some (.ref 32), some (.int x3)], [.int s0, .int s1], g, iv) = if s1 = s0 then pm_at X d 212 (1071, [some (.ref 1300), some (.ref 0), some (.ref 32), some (.int x3)], [], g, iv) else pm_at X d 212 (875, [some (.ref 1300), some (.ref 0), some (.ref 32), some (.int x3)], [], g, iv) := by
  exact at_icmp_eq (t := 1071) dc212_872 (by decide)
theorem b212_875 {X : pm_X} {d : Nat} {x3 : Int32} {g : pm_G} {iv : pm_V}  : pm_at X d 212 (875, [some (.ref 1300), some (.ref 0), some (.ref 32), some (.int x3)], [], g, iv) = some (some (.int 0), g, iv) := by
  refine (at_iconst (v := 0) dc212_875 rfl).trans ?_
  exact at_zret dc212_876 mr212 (by decide)
theorem b212_877 {X : pm_X} {d : Nat} {x3 : Int32} {g : pm_G} {iv : pm_V} (hL : pm_lay g) (hg : pm_xg g) (hX : X.1 < 2147483648) (i1 : vp_in ((x3 + 1)) X.1) : pm_at X d 212 (877, [some (.ref 1300), some (.ref 0), some (.ref 32), some (.int x3)], [], g, iv) = pm_then X d 212 886 [some (.ref 1300), some (.ref 0), some (.ref 32), some (.int x3)] [] (pm_c X d 112 [.ref 0, .int (X.2 ((x3 + 1)).toNatClampNeg)] g iv) := by
  refine (at_aload_n dc212_877 rfl).trans ?_
  refine (at_aload_n dc212_878 rfl).trans ?_
  refine (at_iload_n dc212_879 rfl).trans ?_
  refine (at_iconst (v := 1) dc212_880 rfl).trans ?_
  refine (at_iadd dc212_881).trans ?_
  refine (at_xald dc212_882 (pm_xS hg) i1).trans ?_
  exact at_inv dc212_883 mc212 lm7_106 rfl rfl (Nat.le_of_ble_eq_true rfl) (Or.inl ⟨(ly0 hL), by decide⟩)
theorem b212_886 {X : pm_X} {d : Nat} {x3 : Int32} {s0 : Int32} {g : pm_G} {iv : pm_V} (hL : pm_lay g) (hg : pm_xg g) (hX : X.1 < 2147483648) (i1 : vp_in ((x3 + 1)) X.1) : pm_at X d 212 (886, [some (.ref 1300), some (.ref 0), some (.ref 32), some (.int x3)], [.int s0], g, iv) = pm_then X d 212 895 [some (.ref 1300), some (.ref 0), some (.ref 32), some (.int x3)] [.int s0] (pm_c X d 189 [.ref 32, .int (X.2 ((x3 + 1)).toNatClampNeg)] g iv) := by
  refine (at_aload_n dc212_886 rfl).trans ?_
  refine (at_aload_n dc212_887 rfl).trans ?_
  refine (at_iload_n dc212_888 rfl).trans ?_
  refine (at_iconst (v := 1) dc212_889 rfl).trans ?_
  refine (at_iadd dc212_890).trans ?_
  refine (at_xald dc212_891 (pm_xS hg) i1).trans ?_
  exact at_inv dc212_892 mc212 lm7_109 rfl rfl (Nat.le_of_ble_eq_true rfl) (Or.inl ⟨(ly32 hL), by decide⟩)
theorem b212_895 {X : pm_X} {d : Nat} {x3 : Int32} {s0 : Int32} {s1 : Int32} {g : pm_G} {iv : pm_V}  : pm_at X d 212 (895, [some (.ref 1300), some (.ref 0), some (.ref 32), some (.int x3)], [.int s0, .int s1], g, iv) = if s1 = s0 then pm_at X d 212 (1071, [some (.ref 1300), some (.ref 0), some (.ref 32), some (.int x3)], [], g, iv) else pm_at X d 212 (898, [some (.ref 1300), some (.ref 0), some (.ref 32), some (.int x3)], [], g, iv) := by
  exact at_icmp_eq (t := 1071) dc212_895 (by decide)
theorem b212_898 {X : pm_X} {d : Nat} {x3 : Int32} {g : pm_G} {iv : pm_V}  : pm_at X d 212 (898, [some (.ref 1300), some (.ref 0), some (.ref 32), some (.int x3)], [], g, iv) = some (some (.int 0), g, iv) := by
  refine (at_iconst (v := 0) dc212_898 rfl).trans ?_
  exact at_zret dc212_899 mr212 (by decide)
theorem b212_900 {X : pm_X} {d : Nat} {x3 : Int32} {g : pm_G} {iv : pm_V} (hL : pm_lay g) (hg : pm_xg g) (hX : X.1 < 2147483648) (i1 : vp_in ((x3 + 1)) X.1) : pm_at X d 212 (900, [some (.ref 1300), some (.ref 0), some (.ref 32), some (.int x3)], [], g, iv) = pm_then X d 212 909 [some (.ref 1300), some (.ref 0), some (.ref 32), some (.int x3)] [] (pm_c X d 113 [.ref 0, .int (X.2 ((x3 + 1)).toNatClampNeg)] g iv) := by
  refine (at_aload_n dc212_900 rfl).trans ?_
  refine (at_aload_n dc212_901 rfl).trans ?_
  refine (at_iload_n dc212_902 rfl).trans ?_
  refine (at_iconst (v := 1) dc212_903 rfl).trans ?_
  refine (at_iadd dc212_904).trans ?_
  refine (at_xald dc212_905 (pm_xS hg) i1).trans ?_
  exact at_inv dc212_906 mc212 lm7_110 rfl rfl (Nat.le_of_ble_eq_true rfl) (Or.inl ⟨(ly0 hL), by decide⟩)
theorem b212_909 {X : pm_X} {d : Nat} {x3 : Int32} {s0 : Int32} {g : pm_G} {iv : pm_V} (hL : pm_lay g) (hg : pm_xg g) (hX : X.1 < 2147483648) (i1 : vp_in ((x3 + 1)) X.1) : pm_at X d 212 (909, [some (.ref 1300), some (.ref 0), some (.ref 32), some (.int x3)], [.int s0], g, iv) = pm_then X d 212 918 [some (.ref 1300), some (.ref 0), some (.ref 32), some (.int x3)] [.int s0] (pm_c X d 190 [.ref 32, .int (X.2 ((x3 + 1)).toNatClampNeg)] g iv) := by
  refine (at_aload_n dc212_909 rfl).trans ?_
  refine (at_aload_n dc212_910 rfl).trans ?_
  refine (at_iload_n dc212_911 rfl).trans ?_
  refine (at_iconst (v := 1) dc212_912 rfl).trans ?_
  refine (at_iadd dc212_913).trans ?_
  refine (at_xald dc212_914 (pm_xS hg) i1).trans ?_
  exact at_inv dc212_915 mc212 lm7_113 rfl rfl (Nat.le_of_ble_eq_true rfl) (Or.inl ⟨(ly32 hL), by decide⟩)
theorem b212_918 {X : pm_X} {d : Nat} {x3 : Int32} {s0 : Int32} {s1 : Int32} {g : pm_G} {iv : pm_V}  : pm_at X d 212 (918, [some (.ref 1300), some (.ref 0), some (.ref 32), some (.int x3)], [.int s0, .int s1], g, iv) = if s1 = s0 then pm_at X d 212 (1071, [some (.ref 1300), some (.ref 0), some (.ref 32), some (.int x3)], [], g, iv) else pm_at X d 212 (921, [some (.ref 1300), some (.ref 0), some (.ref 32), some (.int x3)], [], g, iv) := by
  exact at_icmp_eq (t := 1071) dc212_918 (by decide)
theorem b212_921 {X : pm_X} {d : Nat} {x3 : Int32} {g : pm_G} {iv : pm_V}  : pm_at X d 212 (921, [some (.ref 1300), some (.ref 0), some (.ref 32), some (.int x3)], [], g, iv) = some (some (.int 0), g, iv) := by
  refine (at_iconst (v := 0) dc212_921 rfl).trans ?_
  exact at_zret dc212_922 mr212 (by decide)
theorem b212_923 {X : pm_X} {d : Nat} {x3 : Int32} {g : pm_G} {iv : pm_V} (hL : pm_lay g) (hg : pm_xg g) (hX : X.1 < 2147483648) (i1 : vp_in ((x3 + 1)) X.1) : pm_at X d 212 (923, [some (.ref 1300), some (.ref 0), some (.ref 32), some (.int x3)], [], g, iv) = pm_then X d 212 932 [some (.ref 1300), some (.ref 0), some (.ref 32), some (.int x3)] [] (pm_c X d 114 [.ref 0, .int (X.2 ((x3 + 1)).toNatClampNeg)] g iv) := by
  refine (at_aload_n dc212_923 rfl).trans ?_
  refine (at_aload_n dc212_924 rfl).trans ?_
  refine (at_iload_n dc212_925 rfl).trans ?_
  refine (at_iconst (v := 1) dc212_926 rfl).trans ?_
  refine (at_iadd dc212_927).trans ?_
  refine (at_xald dc212_928 (pm_xS hg) i1).trans ?_
  exact at_inv dc212_929 mc212 lm7_114 rfl rfl (Nat.le_of_ble_eq_true rfl) (Or.inl ⟨(ly0 hL), by decide⟩)
theorem b212_932 {X : pm_X} {d : Nat} {x3 : Int32} {s0 : Int32} {g : pm_G} {iv : pm_V} (hL : pm_lay g) (hg : pm_xg g) (hX : X.1 < 2147483648) (i1 : vp_in ((x3 + 1)) X.1) : pm_at X d 212 (932, [some (.ref 1300), some (.ref 0), some (.ref 32), some (.int x3)], [.int s0], g, iv) = pm_then X d 212 941 [some (.ref 1300), some (.ref 0), some (.ref 32), some (.int x3)] [.int s0] (pm_c X d 192 [.ref 32, .int (X.2 ((x3 + 1)).toNatClampNeg)] g iv) := by
  refine (at_aload_n dc212_932 rfl).trans ?_
  refine (at_aload_n dc212_933 rfl).trans ?_
  refine (at_iload_n dc212_934 rfl).trans ?_
  refine (at_iconst (v := 1) dc212_935 rfl).trans ?_
  refine (at_iadd dc212_936).trans ?_
  refine (at_xald dc212_937 (pm_xS hg) i1).trans ?_
  exact at_inv dc212_938 mc212 lm7_117 rfl rfl (Nat.le_of_ble_eq_true rfl) (Or.inl ⟨(ly32 hL), by decide⟩)
theorem b212_941 {X : pm_X} {d : Nat} {x3 : Int32} {s0 : Int32} {s1 : Int32} {g : pm_G} {iv : pm_V}  : pm_at X d 212 (941, [some (.ref 1300), some (.ref 0), some (.ref 32), some (.int x3)], [.int s0, .int s1], g, iv) = if s1 = s0 then pm_at X d 212 (1071, [some (.ref 1300), some (.ref 0), some (.ref 32), some (.int x3)], [], g, iv) else pm_at X d 212 (944, [some (.ref 1300), some (.ref 0), some (.ref 32), some (.int x3)], [], g, iv) := by
  exact at_icmp_eq (t := 1071) dc212_941 (by decide)
theorem b212_944 {X : pm_X} {d : Nat} {x3 : Int32} {g : pm_G} {iv : pm_V}  : pm_at X d 212 (944, [some (.ref 1300), some (.ref 0), some (.ref 32), some (.int x3)], [], g, iv) = some (some (.int 0), g, iv) := by
  refine (at_iconst (v := 0) dc212_944 rfl).trans ?_
  exact at_zret dc212_945 mr212 (by decide)
theorem b212_946 {X : pm_X} {d : Nat} {x3 : Int32} {g : pm_G} {iv : pm_V} (hL : pm_lay g) (hg : pm_xg g) (hX : X.1 < 2147483648) (i1 : vp_in ((x3 + 1)) X.1) (i2 : vp_in ((x3 + 2)) X.1) : pm_at X d 212 (946, [some (.ref 1300), some (.ref 0), some (.ref 32), some (.int x3)], [], g, iv) = pm_then X d 212 960 [some (.ref 1300), some (.ref 0), some (.ref 32), some (.int x3)] [] (pm_c X d 115 [.ref 0, .int (X.2 ((x3 + 1)).toNatClampNeg), .int (X.2 ((x3 + 2)).toNatClampNeg)] g iv) := by
  refine (at_aload_n dc212_946 rfl).trans ?_
  refine (at_aload_n dc212_947 rfl).trans ?_
  refine (at_iload_n dc212_948 rfl).trans ?_
  refine (at_iconst (v := 1) dc212_949 rfl).trans ?_
  refine (at_iadd dc212_950).trans ?_
  refine (at_xald dc212_951 (pm_xS hg) i1).trans ?_
  refine (at_aload_n dc212_952 rfl).trans ?_
  refine (at_iload_n dc212_953 rfl).trans ?_
  refine (at_iconst (v := 2) dc212_954 rfl).trans ?_
  refine (at_iadd dc212_955).trans ?_
  refine (at_xald dc212_956 (pm_xS hg) i2).trans ?_
  exact at_inv dc212_957 mc212 lm7_118 rfl rfl (Nat.le_of_ble_eq_true rfl) (Or.inl ⟨(ly0 hL), by decide⟩)
theorem b212_960 {X : pm_X} {d : Nat} {x3 : Int32} {s0 : Int32} {g : pm_G} {iv : pm_V} (hL : pm_lay g) (hg : pm_xg g) (hX : X.1 < 2147483648) (i1 : vp_in ((x3 + 1)) X.1) (i2 : vp_in ((x3 + 2)) X.1) : pm_at X d 212 (960, [some (.ref 1300), some (.ref 0), some (.ref 32), some (.int x3)], [.int s0], g, iv) = pm_then X d 212 974 [some (.ref 1300), some (.ref 0), some (.ref 32), some (.int x3)] [.int s0] (pm_c X d 193 [.ref 32, .int (X.2 ((x3 + 1)).toNatClampNeg), .int (X.2 ((x3 + 2)).toNatClampNeg)] g iv) := by
  refine (at_aload_n dc212_960 rfl).trans ?_
  refine (at_aload_n dc212_961 rfl).trans ?_
  refine (at_iload_n dc212_962 rfl).trans ?_
  refine (at_iconst (v := 1) dc212_963 rfl).trans ?_
  refine (at_iadd dc212_964).trans ?_
  refine (at_xald dc212_965 (pm_xS hg) i1).trans ?_
  refine (at_aload_n dc212_966 rfl).trans ?_
  refine (at_iload_n dc212_967 rfl).trans ?_
  refine (at_iconst (v := 2) dc212_968 rfl).trans ?_
  refine (at_iadd dc212_969).trans ?_
  refine (at_xald dc212_970 (pm_xS hg) i2).trans ?_
  exact at_inv dc212_971 mc212 lm7_121 rfl rfl (Nat.le_of_ble_eq_true rfl) (Or.inl ⟨(ly32 hL), by decide⟩)
theorem b212_974 {X : pm_X} {d : Nat} {x3 : Int32} {s0 : Int32} {s1 : Int32} {g : pm_G} {iv : pm_V}  : pm_at X d 212 (974, [some (.ref 1300), some (.ref 0), some (.ref 32), some (.int x3)], [.int s0, .int s1], g, iv) = if s1 = s0 then pm_at X d 212 (1071, [some (.ref 1300), some (.ref 0), some (.ref 32), some (.int x3)], [], g, iv) else pm_at X d 212 (977, [some (.ref 1300), some (.ref 0), some (.ref 32), some (.int x3)], [], g, iv) := by
  exact at_icmp_eq (t := 1071) dc212_974 (by decide)
theorem b212_977 {X : pm_X} {d : Nat} {x3 : Int32} {g : pm_G} {iv : pm_V}  : pm_at X d 212 (977, [some (.ref 1300), some (.ref 0), some (.ref 32), some (.int x3)], [], g, iv) = some (some (.int 0), g, iv) := by
  refine (at_iconst (v := 0) dc212_977 rfl).trans ?_
  exact at_zret dc212_978 mr212 (by decide)
theorem b212_979 {X : pm_X} {d : Nat} {x3 : Int32} {g : pm_G} {iv : pm_V} (hL : pm_lay g) (hg : pm_xg g) (hX : X.1 < 2147483648) (i1 : vp_in ((x3 + 1)) X.1) (i2 : vp_in ((x3 + 2)) X.1) : pm_at X d 212 (979, [some (.ref 1300), some (.ref 0), some (.ref 32), some (.int x3)], [], g, iv) = pm_then X d 212 993 [some (.ref 1300), some (.ref 0), some (.ref 32), some (.int x3)] [] (pm_c X d 116 [.ref 0, .int (X.2 ((x3 + 1)).toNatClampNeg), .int (X.2 ((x3 + 2)).toNatClampNeg)] g iv) := by
  refine (at_aload_n dc212_979 rfl).trans ?_
  refine (at_aload_n dc212_980 rfl).trans ?_
  refine (at_iload_n dc212_981 rfl).trans ?_
  refine (at_iconst (v := 1) dc212_982 rfl).trans ?_
  refine (at_iadd dc212_983).trans ?_
  refine (at_xald dc212_984 (pm_xS hg) i1).trans ?_
  refine (at_aload_n dc212_985 rfl).trans ?_
  refine (at_iload_n dc212_986 rfl).trans ?_
  refine (at_iconst (v := 2) dc212_987 rfl).trans ?_
  refine (at_iadd dc212_988).trans ?_
  refine (at_xald dc212_989 (pm_xS hg) i2).trans ?_
  exact at_inv dc212_990 mc212 lm7_122 rfl rfl (Nat.le_of_ble_eq_true rfl) (Or.inl ⟨(ly0 hL), by decide⟩)
theorem b212_993 {X : pm_X} {d : Nat} {x3 : Int32} {s0 : Int32} {g : pm_G} {iv : pm_V} (hL : pm_lay g) (hg : pm_xg g) (hX : X.1 < 2147483648) (i1 : vp_in ((x3 + 1)) X.1) (i2 : vp_in ((x3 + 2)) X.1) : pm_at X d 212 (993, [some (.ref 1300), some (.ref 0), some (.ref 32), some (.int x3)], [.int s0], g, iv) = pm_then X d 212 1007 [some (.ref 1300), some (.ref 0), some (.ref 32), some (.int x3)] [.int s0] (pm_c X d 199 [.ref 32, .int (X.2 ((x3 + 1)).toNatClampNeg), .int (X.2 ((x3 + 2)).toNatClampNeg)] g iv) := by
  refine (at_aload_n dc212_993 rfl).trans ?_
  refine (at_aload_n dc212_994 rfl).trans ?_
  refine (at_iload_n dc212_995 rfl).trans ?_
  refine (at_iconst (v := 1) dc212_996 rfl).trans ?_
  refine (at_iadd dc212_997).trans ?_
  refine (at_xald dc212_998 (pm_xS hg) i1).trans ?_
  refine (at_aload_n dc212_999 rfl).trans ?_
  refine (at_iload_n dc212_1000 rfl).trans ?_
  refine (at_iconst (v := 2) dc212_1001 rfl).trans ?_
  refine (at_iadd dc212_1002).trans ?_
  refine (at_xald dc212_1003 (pm_xS hg) i2).trans ?_
  exact at_inv dc212_1004 mc212 lm7_125 rfl rfl (Nat.le_of_ble_eq_true rfl) (Or.inl ⟨(ly32 hL), by decide⟩)
theorem b212_1007 {X : pm_X} {d : Nat} {x3 : Int32} {s0 : Int32} {s1 : Int32} {g : pm_G} {iv : pm_V}  : pm_at X d 212 (1007, [some (.ref 1300), some (.ref 0), some (.ref 32), some (.int x3)], [.int s0, .int s1], g, iv) = if s1 = s0 then pm_at X d 212 (1071, [some (.ref 1300), some (.ref 0), some (.ref 32), some (.int x3)], [], g, iv) else pm_at X d 212 (1010, [some (.ref 1300), some (.ref 0), some (.ref 32), some (.int x3)], [], g, iv) := by
  exact at_icmp_eq (t := 1071) dc212_1007 (by decide)
theorem b212_1010 {X : pm_X} {d : Nat} {x3 : Int32} {g : pm_G} {iv : pm_V}  : pm_at X d 212 (1010, [some (.ref 1300), some (.ref 0), some (.ref 32), some (.int x3)], [], g, iv) = some (some (.int 0), g, iv) := by
  refine (at_iconst (v := 0) dc212_1010 rfl).trans ?_
  exact at_zret dc212_1011 mr212 (by decide)
theorem b212_1012 {X : pm_X} {d : Nat} {x3 : Int32} {g : pm_G} {iv : pm_V} (hL : pm_lay g) (hg : pm_xg g) (hX : X.1 < 2147483648) (i1 : vp_in ((x3 + 1)) X.1) : pm_at X d 212 (1012, [some (.ref 1300), some (.ref 0), some (.ref 32), some (.int x3)], [], g, iv) = pm_then X d 212 1021 [some (.ref 1300), some (.ref 0), some (.ref 32), some (.int x3)] [] (pm_c X d 117 [.ref 0, .int (X.2 ((x3 + 1)).toNatClampNeg)] g iv) := by
  refine (at_aload_n dc212_1012 rfl).trans ?_
  refine (at_aload_n dc212_1013 rfl).trans ?_
  refine (at_iload_n dc212_1014 rfl).trans ?_
  refine (at_iconst (v := 1) dc212_1015 rfl).trans ?_
  refine (at_iadd dc212_1016).trans ?_
  refine (at_xald dc212_1017 (pm_xS hg) i1).trans ?_
  exact at_inv dc212_1018 mc212 lm7_126 rfl rfl (Nat.le_of_ble_eq_true rfl) (Or.inl ⟨(ly0 hL), by decide⟩)
theorem b212_1021 {X : pm_X} {d : Nat} {x3 : Int32} {s0 : Int32} {g : pm_G} {iv : pm_V} (hL : pm_lay g) (hg : pm_xg g) (hX : X.1 < 2147483648) (i1 : vp_in ((x3 + 1)) X.1) : pm_at X d 212 (1021, [some (.ref 1300), some (.ref 0), some (.ref 32), some (.int x3)], [.int s0], g, iv) = pm_then X d 212 1030 [some (.ref 1300), some (.ref 0), some (.ref 32), some (.int x3)] [.int s0] (pm_c X d 200 [.ref 32, .int (X.2 ((x3 + 1)).toNatClampNeg)] g iv) := by
  refine (at_aload_n dc212_1021 rfl).trans ?_
  refine (at_aload_n dc212_1022 rfl).trans ?_
  refine (at_iload_n dc212_1023 rfl).trans ?_
  refine (at_iconst (v := 1) dc212_1024 rfl).trans ?_
  refine (at_iadd dc212_1025).trans ?_
  refine (at_xald dc212_1026 (pm_xS hg) i1).trans ?_
  exact at_inv dc212_1027 mc212 lm7_129 rfl rfl (Nat.le_of_ble_eq_true rfl) (Or.inl ⟨(ly32 hL), by decide⟩)
theorem b212_1030 {X : pm_X} {d : Nat} {x3 : Int32} {s0 : Int32} {s1 : Int32} {g : pm_G} {iv : pm_V}  : pm_at X d 212 (1030, [some (.ref 1300), some (.ref 0), some (.ref 32), some (.int x3)], [.int s0, .int s1], g, iv) = if s1 = s0 then pm_at X d 212 (1071, [some (.ref 1300), some (.ref 0), some (.ref 32), some (.int x3)], [], g, iv) else pm_at X d 212 (1033, [some (.ref 1300), some (.ref 0), some (.ref 32), some (.int x3)], [], g, iv) := by
  exact at_icmp_eq (t := 1071) dc212_1030 (by decide)
theorem b212_1033 {X : pm_X} {d : Nat} {x3 : Int32} {g : pm_G} {iv : pm_V}  : pm_at X d 212 (1033, [some (.ref 1300), some (.ref 0), some (.ref 32), some (.int x3)], [], g, iv) = some (some (.int 0), g, iv) := by
  refine (at_iconst (v := 0) dc212_1033 rfl).trans ?_
  exact at_zret dc212_1034 mr212 (by decide)
theorem b212_1035 {X : pm_X} {d : Nat} {x3 : Int32} {g : pm_G} {iv : pm_V} (hL : pm_lay g) (hg : pm_xg g) (hX : X.1 < 2147483648) (i1 : vp_in ((x3 + 1)) X.1) : pm_at X d 212 (1035, [some (.ref 1300), some (.ref 0), some (.ref 32), some (.int x3)], [], g, iv) = pm_then X d 212 1044 [some (.ref 1300), some (.ref 0), some (.ref 32), some (.int x3)] [] (pm_c X d 118 [.ref 0, .int (X.2 ((x3 + 1)).toNatClampNeg)] g iv) := by
  refine (at_aload_n dc212_1035 rfl).trans ?_
  refine (at_aload_n dc212_1036 rfl).trans ?_
  refine (at_iload_n dc212_1037 rfl).trans ?_
  refine (at_iconst (v := 1) dc212_1038 rfl).trans ?_
  refine (at_iadd dc212_1039).trans ?_
  refine (at_xald dc212_1040 (pm_xS hg) i1).trans ?_
  exact at_inv dc212_1041 mc212 lm7_130 rfl rfl (Nat.le_of_ble_eq_true rfl) (Or.inl ⟨(ly0 hL), by decide⟩)
theorem b212_1044 {X : pm_X} {d : Nat} {x3 : Int32} {s0 : Int32} {g : pm_G} {iv : pm_V} (hL : pm_lay g) (hg : pm_xg g) (hX : X.1 < 2147483648) (i1 : vp_in ((x3 + 1)) X.1) : pm_at X d 212 (1044, [some (.ref 1300), some (.ref 0), some (.ref 32), some (.int x3)], [.int s0], g, iv) = pm_then X d 212 1053 [some (.ref 1300), some (.ref 0), some (.ref 32), some (.int x3)] [.int s0] (pm_c X d 201 [.ref 32, .int (X.2 ((x3 + 1)).toNatClampNeg)] g iv) := by
  refine (at_aload_n dc212_1044 rfl).trans ?_
  refine (at_aload_n dc212_1045 rfl).trans ?_
  refine (at_iload_n dc212_1046 rfl).trans ?_
  refine (at_iconst (v := 1) dc212_1047 rfl).trans ?_
  refine (at_iadd dc212_1048).trans ?_
  refine (at_xald dc212_1049 (pm_xS hg) i1).trans ?_
  exact at_inv dc212_1050 mc212 lm7_133 rfl rfl (Nat.le_of_ble_eq_true rfl) (Or.inl ⟨(ly32 hL), by decide⟩)
theorem b212_1053 {X : pm_X} {d : Nat} {x3 : Int32} {s0 : Int32} {s1 : Int32} {g : pm_G} {iv : pm_V}  : pm_at X d 212 (1053, [some (.ref 1300), some (.ref 0), some (.ref 32), some (.int x3)], [.int s0, .int s1], g, iv) = if s1 = s0 then pm_at X d 212 (1071, [some (.ref 1300), some (.ref 0), some (.ref 32), some (.int x3)], [], g, iv) else pm_at X d 212 (1056, [some (.ref 1300), some (.ref 0), some (.ref 32), some (.int x3)], [], g, iv) := by
  exact at_icmp_eq (t := 1071) dc212_1053 (by decide)
theorem b212_1056 {X : pm_X} {d : Nat} {x3 : Int32} {g : pm_G} {iv : pm_V}  : pm_at X d 212 (1056, [some (.ref 1300), some (.ref 0), some (.ref 32), some (.int x3)], [], g, iv) = some (some (.int 0), g, iv) := by
  refine (at_iconst (v := 0) dc212_1056 rfl).trans ?_
  exact at_zret dc212_1057 mr212 (by decide)
theorem b212_1058 {X : pm_X} {d : Nat} {x3 : Int32} {g : pm_G} {iv : pm_V} (hL : pm_lay g) : pm_at X d 212 (1058, [some (.ref 1300), some (.ref 0), some (.ref 32), some (.int x3)], [], g, iv) = pm_then X d 212 1062 [some (.ref 1300), some (.ref 0), some (.ref 32), some (.int x3)] [] (pm_c X d 119 [.ref 0] g iv) := by
  refine (at_aload_n dc212_1058 rfl).trans ?_
  exact at_inv dc212_1059 mc212 lm7_134 rfl rfl (Nat.le_of_ble_eq_true rfl) (Or.inl ⟨(ly0 hL), by decide⟩)
theorem b212_1062 {X : pm_X} {d : Nat} {x3 : Int32} {s0 : Int32} {g : pm_G} {iv : pm_V} (hL : pm_lay g) : pm_at X d 212 (1062, [some (.ref 1300), some (.ref 0), some (.ref 32), some (.int x3)], [.int s0], g, iv) = pm_then X d 212 1066 [some (.ref 1300), some (.ref 0), some (.ref 32), some (.int x3)] [.int s0] (pm_c X d 202 [.ref 32] g iv) := by
  refine (at_aload_n dc212_1062 rfl).trans ?_
  exact at_inv dc212_1063 mc212 lm7_137 rfl rfl (Nat.le_of_ble_eq_true rfl) (Or.inl ⟨(ly32 hL), by decide⟩)
theorem b212_1066 {X : pm_X} {d : Nat} {x3 : Int32} {s0 : Int32} {s1 : Int32} {g : pm_G} {iv : pm_V}  : pm_at X d 212 (1066, [some (.ref 1300), some (.ref 0), some (.ref 32), some (.int x3)], [.int s0, .int s1], g, iv) = if s1 = s0 then pm_at X d 212 (1071, [some (.ref 1300), some (.ref 0), some (.ref 32), some (.int x3)], [], g, iv) else pm_at X d 212 (1069, [some (.ref 1300), some (.ref 0), some (.ref 32), some (.int x3)], [], g, iv) := by
  exact at_icmp_eq (t := 1071) dc212_1066 (by decide)
theorem b212_1069 {X : pm_X} {d : Nat} {x3 : Int32} {g : pm_G} {iv : pm_V}  : pm_at X d 212 (1069, [some (.ref 1300), some (.ref 0), some (.ref 32), some (.int x3)], [], g, iv) = some (some (.int 0), g, iv) := by
  refine (at_iconst (v := 0) dc212_1069 rfl).trans ?_
  exact at_zret dc212_1070 mr212 (by decide)
theorem b212_1071 {X : pm_X} {d : Nat} {x3 : Int32} {g : pm_G} {iv : pm_V}  : pm_at X d 212 (1071, [some (.ref 1300), some (.ref 0), some (.ref 32), some (.int x3)], [], g, iv) = pm_at X d 212 (18, [some (.ref 1300), some (.ref 0), some (.ref 32), some (.int (x3 + 6))], [], g, iv) := by
  refine (at_iinc (v := 6) dc212_1071 rfl (by decide) rfl).trans ?_
  refine (at_goto (t := 18) dc212_1074 (by decide)).trans ?_
  rfl
theorem b212_1077 {X : pm_X} {d : Nat} {x3 : Int32} {g : pm_G} {iv : pm_V}  : pm_at X d 212 (1077, [some (.ref 1300), some (.ref 0), some (.ref 32), some (.int x3)], [], g, iv) = some (some (.int 1), g, iv) := by
  refine (at_iconst (v := 1) dc212_1077 rfl).trans ?_
  exact at_zret dc212_1078 mr212 (by decide)
